/-! ===== smooth ===== -/
def arN (f : Nat → Nat) (lo : Nat) : Nat → Nat
  | 0 => lo
  | n + 1 => if f (lo + n + 1) < f (arN f lo n) then lo + n + 1 else arN f lo n
theorem arN_in (f : Nat → Nat) (lo : Nat) : ∀ n, lo ≤ arN f lo n ∧ arN f lo n ≤ lo + n
  | 0 => ⟨Nat.le_refl _, Nat.le_refl _⟩
  | n + 1 => by
    have := arN_in f lo n
    unfold arN
    split <;> omega
theorem arN_min (f : Nat → Nat) (lo : Nat) : ∀ n j, lo ≤ j → j ≤ lo + n → f (arN f lo n) ≤ f j ∧ (j < arN f lo n → f (arN f lo n) < f j)
  | 0, j, h1, h2 => by
    have : j = lo := by omega
    subst this
    exact ⟨Nat.le_refl _, fun h => by have : j < j := h; omega⟩
  | n + 1, j, h1, h2 => by
    unfold arN
    by_cases z : f (lo + n + 1) < f (arN f lo n)
    · rw [if_pos z]
      by_cases e : j = lo + n + 1
      · subst e; exact ⟨Nat.le_refl _, fun h => by omega⟩
      · have := (arN_min f lo n j h1 (by omega)).1
        exact ⟨by omega, fun _ => by omega⟩
    · rw [if_neg z]
      by_cases e : j = lo + n + 1
      · subst e
        have := (arN_in f lo n).2
        exact ⟨by omega, fun h => by omega⟩
      · exact arN_min f lo n j h1 (by omega)
def dN (a b : Nat) : Nat := (a - b) + (b - a)
def nrN (st : Nat) (f : Nat → Nat) (h : Nat) : Nat := arN f (h - st) (min 40 (h + st) - (h - st))
def sK (W st : Nat) (H : Nat → Nat) : Nat → Nat → Nat
  | 0, _ => 0
  | k + 1, h => dN h (H (W - (k + 1))) + if k = 0 then 0 else sK W st H k (nrN st (sK W st H k) h)
def sFx (W st : Nat) (H : Nat → Nat) (x : Nat) : Nat → Nat := sK W st H (W - x)
theorem sFx_s {W st : Nat} {H : Nat → Nat} {x : Nat} (hx : x < W) (h : Nat) : sFx W st H x h = dN h (H x) + if x + 1 = W then 0 else sFx W st H (x + 1) (nrN st (sFx W st H (x + 1)) h) := by
  unfold sFx
  obtain ⟨k, hk⟩ : ∃ k, W - x = k + 1 := ⟨W - x - 1, by omega⟩
  rw [hk, show W - (x + 1) = k by omega]
  show dN h (H (W - (k + 1))) + (if k = 0 then 0 else sK W st H k (nrN st (sK W st H k) h)) = _
  rw [show W - (k + 1) = x by omega]
  by_cases z : k = 0
  · rw [if_pos z, if_pos (by omega)]
  · rw [if_neg z, if_neg (by omega)]
theorem nrN_le {st : Nat} {f : Nat → Nat} {h : Nat} (hh : h ≤ 40) : h - st ≤ nrN st f h ∧ nrN st f h ≤ min 40 (h + st) := by
  unfold nrN
  have := arN_in f (h - st) (min 40 (h + st) - (h - st))
  omega
theorem sK_le {W st : Nat} {H : Nat → Nat} (hH : ∀ j, H j ≤ 40) : ∀ k h, h ≤ 40 → sK W st H k h ≤ 40 * k
  | 0, _, _ => Nat.zero_le _
  | k + 1, h, hh => by
    unfold sK
    have h1 : dN h (H (W - (k + 1))) ≤ 40 := by have := hH (W - (k + 1)); unfold dN; omega
    split
    · omega
    · have := sK_le (W := W) (st := st) hH k (nrN st (sK W st H k) h) (by have := (nrN_le (st := st) (f := sK W st H k) hh).2; omega)
      omega
theorem sFx_le {W st : Nat} {H : Nat → Nat} (hH : ∀ j, H j ≤ 40) (hW : W ≤ 14) (x h : Nat) (hh : h ≤ 40) : sFx W st H x h ≤ 560 := by
  have := sK_le (W := W) (st := st) hH (W - x) h hh
  unfold sFx
  omega
theorem nI_sub_toInt {a b : Nat} (ha : a < 2 ^ 30) (hb : b < 2 ^ 30) : (nI a - nI b).toInt = (a : Int) - b := pk_sub_toInt ha hb
theorem mx0 {a b : Nat} (ha : a < 2 ^ 30) (hb : b < 2 ^ 30) : (if nI 0 < nI a - nI b then nI a - nI b else nI 0) = nI (a - b) := by
  have k := nI_sub_toInt ha hb
  have k0 : (nI 0).toInt = 0 := nI_toInt (by omega)
  simp only [Int32.lt_iff_toInt_lt, k, k0]
  split
  · rw [pk_sub (by omega)]
  · rw [show a - b = 0 by omega]
theorem iMx0 {a b : Nat} (ha : a < 2 ^ 30) (hb : b < 2 ^ 30) : iMx (nI 0) (nI a - nI b) = nI (a - b) := by
  rw [← mx_eq]
  exact mx0 ha hb
theorem iFr_n {a b : Nat} (ha : a < 2 ^ 30) (hb : b < 2 ^ 30) : iFr (nI a) (nI b) = nI (dN a b) := by
  unfold iFr dN
  have k := nI_ltI (a := b) (b := a) (by omega) (by omega)
  simp only [k]
  split
  · rw [pk_sub (by omega), show a - b + (b - a) = a - b by omega]
  · rw [pk_sub (by omega), show a - b + (b - a) = b - a by omega]
theorem ab_n {a b : Nat} (ha : a < 2 ^ 30) (hb : b < 2 ^ 30) : (if nI a - nI b < nI 0 then -(nI a - nI b) else nI a - nI b) = nI (dN a b) := by
  have k := nI_sub_toInt ha hb
  have k0 : (nI 0).toInt = 0 := nI_toInt (by omega)
  simp only [Int32.lt_iff_toInt_lt, k, k0]
  unfold dN
  split
  · rw [Int32.neg_sub, pk_sub (by omega), show a - b + (b - a) = b - a by omega]
  · rw [pk_sub (by omega), show a - b + (b - a) = a - b by omega]
section PO
variable {sc : Nat × (Nat → Int32)} {W S Q : Nat} {ls : List lL} {c m c1 m1 Z : Nat → Nat → Int32} {w : Nat → Int64}
theorem ldFx {d mm x i : Nat} {is : List ma_I} {L : ma_L} {S : List Value} {o : List Nat} (hx : x < 14) (hi : i < 41) : ev sc d mm ((.iaload, o) :: is) L (.int (nI i) :: .ref (107 + x) :: S) (hp c w m) = ev sc d mm is L (.int (c (107 + x) i) :: S) (hp c w m) := by
  rcases (show x = 0 ∨ x = 1 ∨ x = 2 ∨ x = 3 ∨ x = 4 ∨ x = 5 ∨ x = 6 ∨ x = 7 ∨ x = 8 ∨ x = 9 ∨ x = 10 ∨ x = 11 ∨ x = 12 ∨ x = 13 by omega) with rfl | rfl | rfl | rfl | rfl | rfl | rfl | rfl | rfl | rfl | rfl | rfl | rfl | rfl <;> simp (disch := first | assumption | omega | decide | (simp only [ma_wd0, ma_wdi, ma_wdr, ma_wdl, ma_wdn] <;> omega)) only [ldF, Nat.reduceAdd]
theorem stFx {d mm x i : Nat} {is : List ma_I} {L : ma_L} {S : List Value} {o : List Nat} {v : Int32} (hx : x < 14) (hi : i < 41) : ev sc d mm ((.iastore, o) :: is) L (.int v :: .int (nI i) :: .ref (107 + x) :: S) (hp c w m) = ev sc d mm is L S (hp (va_up c (107 + x) (upd (c (107 + x)) i v)) w m) := by
  rcases (show x = 0 ∨ x = 1 ∨ x = 2 ∨ x = 3 ∨ x = 4 ∨ x = 5 ∨ x = 6 ∨ x = 7 ∨ x = 8 ∨ x = 9 ∨ x = 10 ∨ x = 11 ∨ x = 12 ∨ x = 13 by omega) with rfl | rfl | rfl | rfl | rfl | rfl | rfl | rfl | rfl | rfl | rfl | rfl | rfl | rfl <;> simp (disch := first | assumption | omega | decide | (simp only [ma_wd0, ma_wdi, ma_wdr, ma_wdl, ma_wdn] <;> omega)) only [stF, Nat.reduceAdd]
theorem t_Thought_leastNear (d x lo hi : Nat) (low : Int32) (f : Nat → Nat) (hx : x < 14) (hf : ∀ h, h ≤ 40 → f h ≤ 560) (hv : ∀ h, h ≤ 40 → c (107 + x) h = nI (f h)) (hlow : (if nI 0 < low then low else nI 0) = nI lo) (hlo : lo ≤ min 40 hi) (hhi : hi ≤ 100) : cc sc (d + 1) 100 [.ref 103, .int (nI x), .int low, .int (nI hi)] (hp c w m) = some (some (.int (nI (arN f lo (min 40 hi - lo)))), hp c w m) := by
  have hl := run_loop (fun i h => ev sc (d + 1) 100 (pm_blk 100 13) [some (.ref 103), some (.int (nI x)), some (.int low), some (.int (nI hi)), some (.int (nI (arN f lo i))), some (.int (nI (lo + i + 1)))] [] h) (fun i => hp c w m) (min 40 hi - lo) (by
    intro i hi'
    have hb := arN_in f lo i
    have v1 := hv (lo + i + 1) (by omega)
    have v2 := hv (arN f lo i) (by omega)
    have f1 := hf (lo + i + 1) (by omega)
    have f2 := hf (arN f lo i) (by omega)
    conv => lhs; rw [bh_Thought_leastNear_13]
    by_cases z : f (lo + i + 1) < f (arN f lo i)
    · rw [show arN f lo (i + 1) = lo + i + 1 from if_pos z]
      simp (disch := first | assumption | omega | decide | (simp only [ma_wd0, ma_wdi, ma_wdr, ma_wdl, ma_wdn] <;> omega)) only [↓reduceIte, evK, evL, evS, evA, evJ, Option.bind_some, Option.toList, List.cons_append, List.nil_append, nI_add, pk_mul, bI0, ite_not, ev_rbb, up_n, up_s, up_u, pk_us, pk_un, Nat.reduceAdd, nI_ltT, nI_ltF, nI_leT, nI_leF, nI_eqT, nI_eqF, bk_Thought_leastNear, gfC, aaF, ldFx, v1, v2]
      rfl
    · rw [show arN f lo (i + 1) = arN f lo i from if_neg z]
      simp (disch := first | assumption | omega | decide | (simp only [ma_wd0, ma_wdi, ma_wdr, ma_wdl, ma_wdn] <;> omega)) only [↓reduceIte, evK, evL, evS, evA, evJ, Option.bind_some, Option.toList, List.cons_append, List.nil_append, nI_add, pk_mul, bI0, ite_not, ev_rbb, up_n, up_s, up_u, pk_us, pk_un, Nat.reduceAdd, nI_ltT, nI_ltF, nI_leT, nI_leF, nI_eqT, nI_eqF, bk_Thought_leastNear, gfC, aaF, ldFx, v1, v2]
      rfl)
  have hb := arN_in f lo (min 40 hi - lo)
  simp only [show arN f lo 0 = lo from rfl, Nat.add_zero] at hl
  simp (disch := first | assumption | omega | decide | (simp only [ma_wd0, ma_wdi, ma_wdr, ma_wdl, ma_wdn] <;> omega)) only [↓reduceIte, evK, evL, evS, evA, evJ, Option.bind_some, Option.toList, List.cons_append, List.nil_append, nI_add, pk_mul, bI0, ite_not, ev_rbb, up_n, up_s, up_u, pk_us, pk_un, Nat.reduceAdd, nI_ltT, nI_ltF, nI_leT, nI_leF, nI_eqT, nI_eqF, en_Thought_leastNear, ce_Math_max, t_Math_max, hlow, hl]
  rw [bh_Thought_leastNear_13]
  by_cases z : lo + (min 40 hi - lo) + 1 ≤ hi
  · simp (disch := first | assumption | omega | decide | (simp only [ma_wd0, ma_wdi, ma_wdr, ma_wdl, ma_wdn] <;> omega)) only [↓reduceIte, evK, evL, evS, evA, evJ, Option.bind_some, Option.toList, List.cons_append, List.nil_append, nI_add, pk_mul, bI0, ite_not, ev_rbb, up_n, up_s, up_u, pk_us, pk_un, Nat.reduceAdd, nI_ltT, nI_ltF, nI_leT, nI_leF, nI_eqT, nI_eqF, bk_Thought_leastNear]
  · simp (disch := first | assumption | omega | decide | (simp only [ma_wd0, ma_wdi, ma_wdr, ma_wdl, ma_wdn] <;> omega)) only [↓reduceIte, evK, evL, evS, evA, evJ, Option.bind_some, Option.toList, List.cons_append, List.nil_append, nI_add, pk_mul, bI0, ite_not, ev_rbb, up_n, up_s, up_u, pk_us, pk_un, Nat.reduceAdd, nI_ltT, nI_ltF, nI_leT, nI_leF, nI_eqT, nI_eqF, bk_Thought_leastNear]
/-- the class's table -/
theorem t_feet_row (d x st : Nat) (H : Nat → Nat) (y : Int32) (hx : x < W) (hW : W ≤ 14) (hH : ∀ j, H j ≤ 40) (hst : st ≤ 9) (hw : c 1 0 = nI W) (hs : c 1 1 = nI st) (h18 : c 18 x = nI (H x)) (hv : ∀ h, x + 1 < W → h ≤ 40 → c (107 + (x + 1)) h = nI (sFx W st H (x + 1) h)) :
    ∃ c', (∀ m, ev sc (d + 2) 99 (pm_blk 99 16) [some (.ref 103), some (.int y), some (.int (nI x)), some (.int (nI 0))] [] (hp c w m) = ev sc (d + 2) 99 (pm_blk 99 10) [some (.ref 103), some (.int y), some (.int (nI x - nI 1)), some (.int (nI 41))] [] (hp c' w m)) ∧ (∀ k, k ≠ 107 + x → c' k = c k) ∧ ∀ h, h ≤ 40 → c' (107 + x) h = nI (sFx W st H x h) := by
  have hHx := hH x
  have hl := fun m => run_loop (fun i h => ev sc (d + 2) 99 (pm_blk 99 16) [some (.ref 103), some (.int y), some (.int (nI x)), some (.int (nI i))] [] h) (fun i => hp (va_up c (107 + x) (fun j => if j < i then nI (sFx W st H x j) else c (107 + x) j)) w m) 41 (by
    intro i hi
    conv => lhs; rw [bh_Thought_smoothed_16]
    have ab := ab_n (a := i) (b := H x) (by omega) (by omega)
    have ef : upd (fun j => if j < i then nI (sFx W st H x j) else c (107 + x) j) i (nI (sFx W st H x i)) = (fun j => if j < i + 1 then nI (sFx W st H x j) else c (107 + x) j) := by
      funext j
      simp only [upd]
      repeat' split
      all_goals first | rfl | (exfalso; omega) | (subst_vars; rfl)
    by_cases z : x + 1 = W
    · have es : sFx W st H x i = dN i (H x) := by rw [sFx_s hx, if_pos z]; rfl
      rw [← ef, es]
      simp (disch := first | assumption | omega | decide | (simp only [ma_wd0, ma_wdi, ma_wdr, ma_wdl, ma_wdn] <;> omega)) only [↓reduceIte, evK, evL, evS, evA, evJ, Option.bind_some, Option.toList, List.cons_append, List.nil_append, nI_add, pk_mul, bI0, ite_not, ev_rbb, up_n, up_s, up_u, pk_us, pk_un, Nat.reduceAdd, nI_ltT, nI_ltF, nI_leT, nI_leF, nI_eqT, nI_eqF, bk_Thought_smoothed, gfC, ldC, aaF, stFx, h18, ce_Math_abs, t_Math_abs, ab, hw, Nat.add_zero]
    · have es : sFx W st H x i = dN i (H x) + sFx W st H (x + 1) (nrN st (sFx W st H (x + 1)) i) := by rw [sFx_s hx, if_neg z]
      have hn := nrN_le (st := st) (f := sFx W st H (x + 1)) (show i ≤ 40 by omega)
      have hvv := hv (nrN st (sFx W st H (x + 1)) i) (by omega) (by omega)
      have L := fun m => t_Thought_leastNear (sc := sc) (c := va_up c (107 + x) (fun j => if j < i then nI (sFx W st H x j) else c (107 + x) j)) (m := m) (w := w) d (x + 1) (i - st) (i + st) (nI i - nI st) (sFx W st H (x + 1)) (by omega) (fun h hh => sFx_le hH hW _ h hh) (fun h hh => by rw [up_n _ _ _ _ (by omega)]; exact hv h (by omega) hh) (mx0 (by omega) (by omega)) (by omega) (by omega)
      rw [show arN (sFx W st H (x + 1)) (i - st) (min 40 (i + st) - (i - st)) = nrN st (sFx W st H (x + 1)) i from rfl] at L
      rw [← ef, es]
      simp (disch := first | assumption | omega | decide | (simp only [ma_wd0, ma_wdi, ma_wdr, ma_wdl, ma_wdn] <;> omega)) only [↓reduceIte, evK, evL, evS, evA, evJ, Option.bind_some, Option.toList, List.cons_append, List.nil_append, nI_add, pk_mul, bI0, ite_not, ev_rbb, up_n, up_s, up_u, pk_us, pk_un, Nat.reduceAdd, nI_ltT, nI_ltF, nI_leT, nI_leF, nI_eqT, nI_eqF, bk_Thought_smoothed, gfC, ldC, aaF, stFx, ldFx, h18, ce_Math_abs, t_Math_abs, ab, hw, hs, ce_Thought_leastNear, L, hvv])
  have h0 : va_up c (107 + x) (fun j => if j < 0 then nI (sFx W st H x j) else c (107 + x) j) = c := by
    rw [show (fun j => if j < 0 then nI (sFx W st H x j) else c (107 + x) j) = c (107 + x) from by funext j; rw [if_neg (by omega)], up_self]
  simp only [h0] at hl
  refine ⟨va_up c (107 + x) (fun j => if j < 41 then nI (sFx W st H x j) else c (107 + x) j), fun m => (hl m).trans ?_, fun k hk => up_n _ _ _ _ hk, fun h hh => by rw [up_s, if_pos (by omega)]⟩
  conv => lhs; rw [bh_Thought_smoothed_16]
  simp (disch := first | assumption | omega | decide | (simp only [ma_wd0, ma_wdi, ma_wdr, ma_wdl, ma_wdn] <;> omega)) only [↓reduceIte, evK, evL, evS, evA, evJ, Option.bind_some, Option.toList, List.cons_append, List.nil_append, nI_add, pk_mul, bI0, ite_not, ev_rbb, up_n, up_s, up_u, pk_us, pk_un, Nat.reduceAdd, nI_ltT, nI_ltF, nI_leT, nI_leF, nI_eqT, nI_eqF, bk_Thought_smoothed, n_a1]
theorem t_feet (d st : Nat) (H : Nat → Nat) (y : Int32) (hW : W ≤ 14) (hH : ∀ j, H j ≤ 40) (hst : st ≤ 9) : ∀ (x : Nat) (c : Nat → Nat → Int32) (u : Option Value), x ≤ W → c 1 0 = nI W → c 1 1 = nI st → (∀ j, j < W → c 18 j = nI (H j)) → (∀ j h, x ≤ j → j < W → h ≤ 40 → c (107 + j) h = nI (sFx W st H j h)) →
    ∃ c', (∀ m, ∃ u', ev sc (d + 2) 99 (pm_blk 99 10) [some (.ref 103), some (.int y), some (.int (nI x - nI 1)), u] [] (hp c w m) = ev sc (d + 2) 99 (pm_blk 99 108) [some (.ref 103), some (.int y), some (.int (-1)), u'] [] (hp c' w m)) ∧ (∀ k, k < 107 ∨ 120 < k → c' k = c k) ∧ ∀ j h, j < W → h ≤ 40 → c' (107 + j) h = nI (sFx W st H j h)
  | 0, c, u, hx, hw, hs, h18, hv => by
    refine ⟨c, fun m => ⟨u, ?_⟩, fun _ _ => rfl, fun j h hj hh => hv j h (by omega) hj hh⟩
    conv => lhs; rw [bh_Thought_smoothed_10]
    simp (disch := first | assumption | omega | decide | (simp only [ma_wd0, ma_wdi, ma_wdr, ma_wdl, ma_wdn] <;> omega)) only [↓reduceIte, evK, evL, evS, evA, evJ, Option.bind_some, Option.toList, List.cons_append, List.nil_append, nI_add, pk_mul, bI0, ite_not, ev_rbb, up_n, up_s, up_u, pk_us, pk_un, Nat.reduceAdd, nI_ltT, nI_ltF, nI_leT, nI_leF, nI_eqT, nI_eqF, n_01, n_m1lt]
  | x + 1, c, u, hx, hw, hs, h18, hv => by
    obtain ⟨c2, e2, f2, v2⟩ := t_feet_row (sc := sc) (w := w) d x st H y (by omega) hW hH hst hw hs (h18 x (by omega)) (fun h h1 hh => hv (x + 1) h (by omega) h1 hh)
    obtain ⟨c3, e3, f3, v3⟩ := t_feet d st H y hW hH hst x c2 (some (.int (nI 41))) (by omega) (by rw [f2 1 (by omega)]; exact hw) (by rw [f2 1 (by omega)]; exact hs) (fun j hj => by rw [f2 18 (by omega)]; exact h18 j hj) (fun j h h1 h2 hh => by
      by_cases z : j = x
      · subst z; exact v2 h hh
      · rw [f2 _ (by omega)]; exact hv j h (by omega) h2 hh)
    refine ⟨c3, fun m => ?_, fun k hk => by rw [f3 k hk, f2 k (by omega)], v3⟩
    obtain ⟨u', e3⟩ := e3 m
    refine ⟨u', ?_⟩
    conv => lhs; rw [bh_Thought_smoothed_10]
    simp (disch := first | assumption | omega | decide | (simp only [ma_wd0, ma_wdi, ma_wdr, ma_wdl, ma_wdn] <;> omega)) only [↓reduceIte, evK, evL, evS, evA, evJ, Option.bind_some, Option.toList, List.cons_append, List.nil_append, nI_add, pk_mul, bI0, ite_not, ev_rbb, up_n, up_s, up_u, pk_us, pk_un, Nat.reduceAdd, nI_ltT, nI_ltF, nI_leT, nI_leF, nI_eqT, nI_eqF, bk_Thought_smoothed, nI_m1, e2, e3]
def leN (f : Nat → Nat) (lo : Nat) : Nat → Nat
  | 0 => 1000000
  | i + 1 => f (arN f lo i)
theorem leN_s {f : Nat → Nat} {lo i : Nat} (hf : f (lo + i) ≤ 560) : min (leN f lo i) (f (lo + i)) = leN f lo (i + 1) := by
  rcases i with _ | i
  · show min 1000000 (f (lo + 0)) = f lo
    rw [Nat.add_zero] at hf ⊢
    omega
  · show min (f (arN f lo i)) (f (lo + (i + 1))) = f (arN f lo (i + 1))
    rw [show lo + (i + 1) = lo + i + 1 by omega]
    by_cases z : f (lo + i + 1) < f (arN f lo i)
    · rw [show arN f lo (i + 1) = lo + i + 1 from if_pos z]; omega
    · rw [show arN f lo (i + 1) = arN f lo i from if_neg z]; omega
theorem leN_le {f : Nat → Nat} {lo : Nat} (i : Nat) (hf : ∀ h, h ≤ lo + i → f h ≤ 560) : leN f lo i ≤ 1000000 := by
  rcases i with _ | i
  · exact Nat.le_refl _
  · have := hf (arN f lo i) (by have := arN_in f lo i; omega)
    show f (arN f lo i) ≤ _
    omega
theorem t_MO_leastNear (d x h st : Nat) (f : Nat → Nat) (hx : x < W) (hW : W ≤ 14) (hh : h ≤ 40) (hst : st ≤ 9) (hf : ∀ h, h ≤ 40 → f h ≤ 560) (hw : m 138 6 + nI 10 = nI W) (hs : m 138 7 + nI 3 = nI st) (hv : ∀ h, h ≤ 40 → m 160 (41 * x + h) = nI (f h)) : cc sc (d + 1) 263 [.ref 138, .int (nI x), .int (nI h)] (hp c w m) = some (some (.int (nI (f (nrN st f h)))), hp c w m) := by
  have hl := run_loop (fun i z => ev sc (d + 1) 263 (pm_blk 263 27) [some (.ref 138), some (.int (nI x)), some (.int (nI h)), some (.int (nI (leN f (h - st) i))), some (.int (nI (h - st + i)))] [] z) (fun i => hp c w m) (min 40 (h + st) - (h - st) + 1) (by
    intro i hi
    have v1 := hv (h - st + i) (by omega)
    have f1 := hf (h - st + i) (by omega)
    have f2 := leN_le (f := f) (lo := h - st) i (fun y hy => hf y (by omega))
    conv => lhs; rw [bh_MO_leastNear_27]
    simp (disch := first | assumption | omega | decide | (simp only [ma_wd0, ma_wdi, ma_wdr, ma_wdl, ma_wdn] <;> omega)) only [↓reduceIte, evK, evL, evS, evA, evJ, Option.bind_some, Option.toList, List.cons_append, List.nil_append, nI_add, pk_mul, bI0, ite_not, ev_rbb, up_n, up_s, up_u, pk_us, pk_un, Nat.reduceAdd, nI_ltT, nI_ltF, nI_leT, nI_leF, nI_eqT, nI_eqF, gfM, ldM, ce_MO_steep, t_MO_steep, hs, ce_MO_lesser, t_MO_lesser, iMn_n, v1, leN_s]
    rfl)
  simp only [show leN f (h - st) 0 = 1000000 from rfl, Nat.add_zero] at hl
  simp (disch := first | assumption | omega | decide | (simp only [ma_wd0, ma_wdi, ma_wdr, ma_wdl, ma_wdn] <;> omega)) only [↓reduceIte, evK, evL, evS, evA, evJ, Option.bind_some, Option.toList, List.cons_append, List.nil_append, nI_add, pk_mul, bI0, ite_not, ev_rbb, up_n, up_s, up_u, pk_us, pk_un, Nat.reduceAdd, nI_ltT, nI_ltF, nI_leT, nI_leF, nI_eqT, nI_eqF, en_MO_leastNear, bk_MO_leastNear, ce_MO_wide, t_MO_wide, hw, ce_MO_steep, t_MO_steep, hs, ce_MO_greater, t_MO_greater, iMx0, hl]
  rw [bh_MO_leastNear_27]
  simp (disch := first | assumption | omega | decide | (simp only [ma_wd0, ma_wdi, ma_wdr, ma_wdl, ma_wdn] <;> omega)) only [↓reduceIte, evK, evL, evS, evA, evJ, Option.bind_some, Option.toList, List.cons_append, List.nil_append, nI_add, pk_mul, bI0, ite_not, ev_rbb, up_n, up_s, up_u, pk_us, pk_un, Nat.reduceAdd, nI_ltT, nI_ltF, nI_leT, nI_leF, nI_eqT, nI_eqF, bk_MO_leastNear, ce_MO_steep, t_MO_steep, hs, ce_MO_lesser, t_MO_lesser, iMn_n]
  rfl
end PO
