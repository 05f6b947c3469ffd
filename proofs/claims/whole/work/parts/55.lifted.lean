/-! ===== lifted ===== -/
def liZ (W : Nat) (b : Int32) (Z : Nat → Nat → Int32) : Nat → Nat → Int32 := va_up Z 0 (fun i => if 5 ≤ i ∧ i < 5 + W then iHd (Z 0 i + b) (nI 0) (nI 40) else Z 0 i)
theorem liZ_0 (W : Nat) (b : Int32) (Z : Nat → Nat → Int32) (i : Nat) : liZ W b Z 0 i = if 5 ≤ i ∧ i < 5 + W then iHd (Z 0 i + b) (nI 0) (nI 40) else Z 0 i := by unfold liZ; rw [up_s]
theorem zI.li {W S : Nat} {b : Int32} {Z : Nat → Nat → Int32} (h : zI W S Z) (hW : W ≤ 14) : zI W S (liZ W b Z) := by
  obtain ⟨h1, h2, h3, h4⟩ := h
  refine ⟨fun j hj => ?_, fun j hj => ?_, fun j hj => ?_, ?_⟩
  · rw [liZ_0]
    split
    · exact iHd_bd _
    · exact h1 j hj
  · rw [liZ_0, if_neg (by omega)]; exact h2 j hj
  · rw [liZ_0, if_neg (by omega)]; exact h3 j hj
  · rw [liZ_0, if_neg (by omega)]; exact h4
def bV (i : Nat) : Int32 := -20 + nI i
theorem bV_s (i : Nat) : bV i + nI 1 = bV (i + 1) := by
  unfold bV
  rw [Int32.add_assoc, nI_add]
theorem bV_le : ∀ i, i < 41 → (bV i ≤ nI 20) = True := fun i hi => eq_true ((show ∀ i, i < 41 → bV i ≤ nI 20 by decide +kernel) i hi)
theorem bV_41 : (bV 41 ≤ nI 20) = False := eq_false (by decide +kernel)
theorem bV_0 : bV 0 = -20 := by decide +kernel
def fitF (D C H : Nat → Int32) : Nat → Nat → Bool
  | 0, _ => true
  | k + 1, i => decide (D (nK (C i)) = H i) && fitF D C H k (i + 1)
def FA (fit : Nat → Bool) : Nat → Nat × (Nat → Int32)
  | 0 => (0, fun _ => 0)
  | i + 1 => if fit i = true then ((FA fit i).1 + 1, upd (FA fit i).2 (FA fit i).1 (bV i)) else FA fit i
theorem FA_le (fit : Nat → Bool) : ∀ i, (FA fit i).1 ≤ i
  | 0 => Nat.le_refl _
  | i + 1 => by
    have := FA_le fit i
    unfold FA
    split
    · simp only; omega
    · omega
def leF (p : Nat × (Nat → Int32)) : Int32 := if p.1 = 0 then -100 else p.2 0
def cntA (g : Int32 → Nat) (a : Nat → Int32) : Nat → Nat → Nat
  | 0, _ => 0
  | n + 1, h => cntA g a n h + if g (a n) = h then 1 else 0
theorem cntA_congr {g : Int32 → Nat} {a a' : Nat → Int32} : ∀ n h, (∀ j, j < n → a j = a' j) → cntA g a n h = cntA g a' n h
  | 0, _, _ => rfl
  | n + 1, h, e => by
    unfold cntA
    rw [cntA_congr n h (fun j hj => e j (by omega)), e n (by omega)]
theorem cntA_le (g : Int32 → Nat) (a : Nat → Int32) : ∀ n h, cntA g a n h ≤ n
  | 0, _ => Nat.le_refl _
  | n + 1, h => by
    have := cntA_le g a n h
    unfold cntA
    split <;> omega
def mxF (f : Nat → Nat) : Nat → Nat
  | 0 => 0
  | n + 1 => max (mxF f n) (f n)
theorem mxF_le {f : Nat → Nat} {v : Nat} : ∀ n, mxF f n ≤ v ↔ ∀ i, i < n → f i ≤ v
  | 0 => by
    constructor
    · intro _ i hi; omega
    · intro _; exact Nat.zero_le _
  | n + 1 => by
    unfold mxF
    rw [Nat.max_le, mxF_le n]
    constructor
    · rintro ⟨h1, h2⟩ i hi
      by_cases e : i = n
      · rw [e]; exact h2
      · exact h1 i (by omega)
    · intro h
      exact ⟨fun i hi => h i (by omega), h n (by omega)⟩
theorem mxF_cnt {g : Int32 → Nat} {a : Nat → Int32} {n N : Nat} (hg : g (a n) < N) : mxF (cntA g a (n + 1)) N = max (mxF (cntA g a n) N) (cntA g a n (g (a n)) + 1) := by
  apply Nat.le_antisymm
  · rw [mxF_le]
    intro i hi
    have h1 := (mxF_le (f := cntA g a n) (v := mxF (cntA g a n) N) N).mp (Nat.le_refl _) i hi
    rw [show cntA g a (n + 1) i = cntA g a n i + if g (a n) = i then 1 else 0 from rfl]
    split
    next e => subst e; omega
    next => omega
  · rw [Nat.max_le]
    constructor
    · rw [mxF_le]
      intro i hi
      have h1 := (mxF_le (f := cntA g a (n + 1)) (v := mxF (cntA g a (n + 1)) N) N).mp (Nat.le_refl _) i hi
      have : cntA g a (n + 1) i = cntA g a n i + if g (a n) = i then 1 else 0 := rfl
      omega
    · have h1 := (mxF_le (f := cntA g a (n + 1)) (v := mxF (cntA g a (n + 1)) N) N).mp (Nat.le_refl _) _ hg
      have : cntA g a (n + 1) (g (a n)) = cntA g a n (g (a n)) + if g (a n) = g (a n) then 1 else 0 := rfl
      rw [if_pos rfl] at this
      omega
def liM (W n : Nat) (a : Nat → Int32) (m1 m : Nat → Nat → Int32) : Prop := (∀ r, r ≠ 138 → r ≠ 139 → r ≠ 158 → r ≠ 159 → r ≠ 162 → r ≠ 163 → m r = m1 r) ∧ (∀ f, f ≠ 50 → m 138 f = m1 138 f) ∧ (∀ k, k < 5 ∨ 5 + W ≤ k → m 139 k = m1 139 k) ∧ m 138 50 = nI n ∧ ∀ j, j < n → m 162 j = a j
section PL
variable {sc : Nat × (Nat → Int32)} {W S Q : Nat} {ls : List lL} {c m c1 m1 Z Zb : Nat → Nat → Int32} {w : Nat → Int64}
theorem ldDx {d mm x i : Nat} {is : List ma_I} {L : ma_L} {S : List Value} {o : List Nat} (hx : x < 14) (hi : i < 25) : ev sc d mm ((.iaload, o) :: is) L (.int (nI i) :: .ref (122 + x) :: S) (hp c w m) = ev sc d mm is L (.int (c (122 + x) i) :: S) (hp c w m) := by
  rcases (show x = 0 ∨ x = 1 ∨ x = 2 ∨ x = 3 ∨ x = 4 ∨ x = 5 ∨ x = 6 ∨ x = 7 ∨ x = 8 ∨ x = 9 ∨ x = 10 ∨ x = 11 ∨ x = 12 ∨ x = 13 by omega) with rfl | rfl | rfl | rfl | rfl | rfl | rfl | rfl | rfl | rfl | rfl | rfl | rfl | rfl <;> simp (disch := first | assumption | omega | decide | (simp only [ma_wd0, ma_wdi, ma_wdr, ma_wdl, ma_wdn] <;> omega)) only [ldD, Nat.reduceAdd]
theorem stDx {d mm x i : Nat} {is : List ma_I} {L : ma_L} {S : List Value} {o : List Nat} {v : Int32} (hx : x < 14) (hi : i < 25) : ev sc d mm ((.iastore, o) :: is) L (.int v :: .int (nI i) :: .ref (122 + x) :: S) (hp c w m) = ev sc d mm is L S (hp (va_up c (122 + x) (upd (c (122 + x)) i v)) w m) := by
  rcases (show x = 0 ∨ x = 1 ∨ x = 2 ∨ x = 3 ∨ x = 4 ∨ x = 5 ∨ x = 6 ∨ x = 7 ∨ x = 8 ∨ x = 9 ∨ x = 10 ∨ x = 11 ∨ x = 12 ∨ x = 13 by omega) with rfl | rfl | rfl | rfl | rfl | rfl | rfl | rfl | rfl | rfl | rfl | rfl | rfl | rfl <;> simp (disch := first | assumption | omega | decide | (simp only [ma_wd0, ma_wdi, ma_wdr, ma_wdl, ma_wdn] <;> omega)) only [stD, Nat.reduceAdd]
theorem aaD {d mm i : Nat} {is : List ma_I} {L : ma_L} {S : List Value} {o : List Nat} (hi : i < 14) : ev sc d mm ((.aaload, o) :: is) L (.int (nI i) :: .ref 121 :: S) (hp c w m) = ev sc d mm is L (.ref (122 + i) :: S) (hp c w m) := ev_aa (k := 121) (n := 0) (Or.inr rfl) hi
theorem aaF {d mm i : Nat} {is : List ma_I} {L : ma_L} {S : List Value} {o : List Nat} (hi : i < 14) : ev sc d mm ((.aaload, o) :: is) L (.int (nI i) :: .ref 106 :: S) (hp c w m) = ev sc d mm is L (.ref (107 + i) :: S) (hp c w m) := ev_aa (k := 106) (n := 0) (Or.inl rfl) hi
theorem t_liftSpare (d : Nat) (b : Int32) (hz : zC 17 c Z S) (hS : S ≤ 8) (hw : c 1 0 = nI W) (hW : W ≤ 14) : ∃ c', (∀ m, cc sc (d + 10) 105 [.ref 103, .int b] (hp c w m) = some (none, hp c' w m)) ∧ zC 97 c' (liZ W b Z) S ∧ ∀ k, k < 97 ∨ 101 < k → c' k = c k := by
  have hL := fun m => t_Line_copy (sc := sc) (c := c) (m := m) (w := w) d 97 17 (by simp [lX])
  have s2 := hz.lE (lV_E c 97 17) hS
  have q2 : ∀ k, k < 97 ∨ 101 < k → lV c 97 17 k = c k := fun k hk => lV_fr c 97 17 k (by simp only [List.mem_cons, List.not_mem_nil, or_false]; omega)
  have e1 := q2 1 (by omega)
  have e18 := q2 18 (by omega)
  generalize lV c 97 17 = c1 at hL s2 q2 e1 e18
  have hl := fun m => run_loop (fun i h => ev sc (d + 10) 105 (pm_blk 105 13) [some (.ref 103), some (.int b), some (.int (nI i))] [] h) (fun i => hp (va_up c1 98 (fun j => if j < i then iHd (c 18 j + b) (nI 0) (nI 40) else c1 98 j)) w m) W (by
    intro i hi
    conv => lhs; rw [bh_Thought_liftSpare_13]
    simp (disch := first | assumption | omega | decide | (simp only [ma_wd0, ma_wdi, ma_wdr, ma_wdl, ma_wdn] <;> omega)) only [↓reduceIte, evK, evL, evS, evA, evJ, Option.bind_some, Option.toList, List.cons_append, List.nil_append, nI_add, pk_mul, bI0, ite_not, ev_rbb, up_n, up_s, up_u, pk_us, pk_un, Nat.reduceAdd, nI_ltT, nI_ltF, nI_leT, nI_leF, nI_eqT, nI_eqF, gfC, ldC, stC, e1, e18, hw, ce_LH_hold, t_LH_hold]
    congr 3
    funext j
    simp only [upd]
    repeat' split
    all_goals first | rfl | (exfalso; omega) | (subst_vars; rfl))
  have h0 : va_up c1 98 (fun j => if j < 0 then iHd (c 18 j + b) (nI 0) (nI 40) else c1 98 j) = c1 := by
    rw [show (fun j => if j < 0 then iHd (c 18 j + b) (nI 0) (nI 40) else c1 98 j) = c1 98 from by funext j; rw [if_neg (by omega)], up_self]
  simp only [h0] at hl
  refine ⟨va_up c1 98 (fun j => if j < W then iHd (c 18 j + b) (nI 0) (nI 40) else c1 98 j), fun m => ?_, ?_, fun k hk => ?_⟩
  · simp (disch := first | assumption | omega | decide | (simp only [ma_wd0, ma_wdi, ma_wdr, ma_wdl, ma_wdn] <;> omega)) only [↓reduceIte, evK, evL, evS, evA, evJ, Option.bind_some, Option.toList, List.cons_append, List.nil_append, nI_add, pk_mul, bI0, ite_not, ev_rbb, up_n, up_s, up_u, pk_us, pk_un, Nat.reduceAdd, nI_ltT, nI_ltF, nI_leT, nI_leF, nI_eqT, nI_eqF, en_Thought_liftSpare, gfC, ce_Line_copy, hL, hl]
    rw [bh_Thought_liftSpare_13]
    simp (disch := first | assumption | omega | decide | (simp only [ma_wd0, ma_wdi, ma_wdr, ma_wdl, ma_wdn] <;> omega)) only [↓reduceIte, evK, evL, evS, evA, evJ, Option.bind_some, Option.toList, List.cons_append, List.nil_append, nI_add, pk_mul, bI0, ite_not, ev_rbb, up_n, up_s, up_u, pk_us, pk_un, Nat.reduceAdd, nI_ltT, nI_ltF, nI_leT, nI_leF, nI_eqT, nI_eqF, bk_Thought_liftSpare, gfC, e1, hw]
  · obtain ⟨⟨a1, a2, a3, a4, a5⟩, h6, h7, h8, h9⟩ := s2
    refine ⟨?_, fun j hj => ?_, fun j hj => ?_, fun j hj => ?_, fun j hj => ?_⟩
    · rw [up_n _ _ _ _ (by omega), liZ_0, liZ_0, liZ_0, liZ_0, liZ_0, if_neg (by omega), if_neg (by omega), if_neg (by omega), if_neg (by omega), if_neg (by omega)]
      exact ⟨a1, a2, a3, a4, a5⟩
    · rw [up_s, liZ_0]
      by_cases z : j < W
      · rw [if_pos z, if_pos (by omega), ← hz.2.1 j hj]
      · rw [if_neg z, if_neg (by omega)]; exact h6 j hj
    · rw [up_n _ _ _ _ (by omega), liZ_0, if_neg (by omega)]; exact h7 j hj
    · rw [up_n _ _ _ _ (by omega), liZ_0, if_neg (by omega)]; exact h8 j hj
    · rw [up_n _ _ _ _ (by omega), liZ_0, if_neg (by omega)]; exact h9 j hj
  · rw [up_n _ _ _ _ (by omega)]; exact q2 k hk
theorem t_liftsThought (d : Nat) (b : Int32) (hw : m 138 6 + nI 10 = nI W) (hW : W ≤ 14) : cc sc (d + 1) 269 [.ref 138, .int b] (hp c w m) = some (none, hp c w (va_up m 139 (fun k => if 5 ≤ k ∧ k < 5 + W then iHd (m 141 k + nI 10 + b) (nI 0) (nI 40) - nI 10 else m 139 k))) := by
  have hl := run_loop (fun i h => ev sc (d + 1) 269 (pm_blk 269 2) [some (.ref 138), some (.int b), some (.int (nI i))] [] h) (fun i => hp c w (va_up m 139 (fun k => if 5 ≤ k ∧ k < 5 + i then iHd (m 141 k + nI 10 + b) (nI 0) (nI 40) - nI 10 else m 139 k))) W (by
    intro i hi
    conv => lhs; rw [bh_MO_liftsThought_2]
    simp (disch := first | assumption | omega | decide | (simp only [ma_wd0, ma_wdi, ma_wdr, ma_wdl, ma_wdn] <;> omega)) only [↓reduceIte, evK, evL, evS, evA, evJ, Option.bind_some, Option.toList, List.cons_append, List.nil_append, nI_add, pk_mul, bI0, ite_not, ev_rbb, up_n, up_s, up_u, pk_us, pk_un, Nat.reduceAdd, nI_ltT, nI_ltF, nI_leT, nI_leF, nI_eqT, nI_eqF, gfM, ldM, stM, ce_MO_wide, t_MO_wide, hw, ce_MO_held, t_MO_held]
    congr 3
    funext j
    simp only [upd]
    repeat' split
    all_goals first | rfl | (exfalso; omega) | (subst_vars; rfl))
  have h0 : va_up m 139 (fun k => if 5 ≤ k ∧ k < 5 + 0 then iHd (m 141 k + nI 10 + b) (nI 0) (nI 40) - nI 10 else m 139 k) = m := by
    rw [show (fun k => if 5 ≤ k ∧ k < 5 + 0 then iHd (m 141 k + nI 10 + b) (nI 0) (nI 40) - nI 10 else m 139 k) = m 139 from by funext j; rw [if_neg (by omega)], up_self]
  simp only [h0] at hl
  simp (disch := first | assumption | omega | decide | (simp only [ma_wd0, ma_wdi, ma_wdr, ma_wdl, ma_wdn] <;> omega)) only [↓reduceIte, evK, evL, evS, evA, evJ, Option.bind_some, Option.toList, List.cons_append, List.nil_append, nI_add, pk_mul, bI0, ite_not, ev_rbb, up_n, up_s, up_u, pk_us, pk_un, Nat.reduceAdd, nI_ltT, nI_ltF, nI_leT, nI_leF, nI_eqT, nI_eqF, en_MO_liftsThought, hl]
  rw [bh_MO_liftsThought_2]
  simp (disch := first | assumption | omega | decide | (simp only [ma_wd0, ma_wdi, ma_wdr, ma_wdl, ma_wdn] <;> omega)) only [↓reduceIte, evK, evL, evS, evA, evJ, Option.bind_some, Option.toList, List.cons_append, List.nil_append, nI_add, pk_mul, bI0, ite_not, ev_rbb, up_n, up_s, up_u, pk_us, pk_un, Nat.reduceAdd, nI_ltT, nI_ltF, nI_leT, nI_leF, nI_eqT, nI_eqF, bk_MO_liftsThought, ce_MO_wide, t_MO_wide, hw]
theorem zM.li {b : Int32} (hz : zM m1 Z S) (hS : S ≤ 8) (hW : W ≤ 14) (h41 : ∀ k, k < 49 → m 141 k = m1 139 k) (h39 : ∀ k, k < 5 ∨ 5 + W ≤ k → m 139 k = m1 139 k) : zM (va_up m 139 (fun k => if 5 ≤ k ∧ k < 5 + W then iHd (m 141 k + nI 10 + b) (nI 0) (nI 40) - nI 10 else m 139 k)) (liZ W b Z) S := by
  obtain ⟨⟨a1, a2, a3, a4, a5⟩, h6, h7, h8, h9⟩ := hz
  unfold zM
  simp only [up_s, liZ_0]
  refine ⟨⟨?_, ?_, ?_, ?_, ?_⟩, fun j hj => ?_, fun j hj => ?_, fun j hj => ?_, fun j hj => ?_⟩
  · rw [if_neg (by omega), if_neg (by omega), h39 _ (by omega)]; exact a1
  · rw [if_neg (by omega), if_neg (by omega), h39 _ (by omega)]; exact a2
  · rw [if_neg (by omega), if_neg (by omega), h39 _ (by omega)]; exact a3
  · rw [if_neg (by omega), if_neg (by omega), h39 _ (by omega)]; exact a4
  · rw [if_neg (by omega), if_neg (by omega), h39 _ (by omega)]; exact a5
  · by_cases z : j < W
    · rw [if_pos (by omega), if_pos (by omega), nI_sa, h41 _ (by omega), h6 j hj]
    · rw [if_neg (by omega), if_neg (by omega), h39 _ (by omega)]; exact h6 j hj
  · rw [if_neg (by omega), if_neg (by omega), h39 _ (by omega)]; exact h7 j hj
  · rw [if_neg (by omega), if_neg (by omega), h39 _ (by omega)]; exact h8 j hj
  · rw [if_neg (by omega), if_neg (by omega), h39 _ (by omega)]; exact h9 j hj
theorem fits_loop (d d' n : Nat) (C H : Nat → Int32) (hn8 : n ≤ 8) : ∀ (k i : Nat) (c m : Nat → Nat → Int32), i + k = n → tR W S Q ls c m → jR 97 W S c m Zb → c 5 = C → c 6 = H → c 1 8 = nI n → m 138 47 = nI n → (∀ j, j < n → ∃ k t, k < W ∧ t < 24 ∧ c 5 j = nI k ∧ m 161 (2 * j) = nI k ∧ c 6 j = nI t ∧ m 161 (2 * j + 1) = nI t) →
    ∃ g f g' f', (∀ m0, ev sc (d + 3) 106 (pm_blk 106 2) [some (.ref 103), some (.int (nI i))] [] (hp c w m0) = some (some (.int (bI (fitF (fun x => duskS ls W (zH Zb) (zN Zb) (Zb 0 0) x) C H k i = true))), hp (va_up (va_up c 94 g) 95 f) w m0)) ∧ (∀ c0, ev sc (d' + 6) 270 (pm_blk 270 2) [some (.ref 138), some (.int (nI i))] [] (hp c0 w m) = some (some (.int (bI (fitF (fun x => duskS ls W (zH Zb) (zN Zb) (Zb 0 0) x) C H k i = true))), hp c0 w (va_up (va_up m 158 g') 159 f')))
  | 0, i, c, m, hi, t, j, h5, h6, h18, h47, hu => by
    refine ⟨c 94, c 95, m 158, m 159, fun m0 => ?_, fun c0 => ?_⟩
    · rw [up_self, up_self, bh_Thought_fitsSunsets_2]
      simp (disch := first | assumption | omega | decide | (simp only [ma_wd0, ma_wdi, ma_wdr, ma_wdl, ma_wdn] <;> omega)) only [↓reduceIte, evK, evL, evS, evA, evJ, Option.bind_some, Option.toList, List.cons_append, List.nil_append, nI_add, pk_mul, bI0, ite_not, ev_rbb, up_n, up_s, up_u, pk_us, pk_un, Nat.reduceAdd, nI_ltT, nI_ltF, nI_leT, nI_leF, nI_eqT, nI_eqF, bk_Thought_fitsSunsets, gfC, h18, fitF, bI_t]
    · rw [up_self, up_self, bh_MO_fitsLifted_2]
      simp (disch := first | assumption | omega | decide | (simp only [ma_wd0, ma_wdi, ma_wdr, ma_wdl, ma_wdn] <;> omega)) only [↓reduceIte, evK, evL, evS, evA, evJ, Option.bind_some, Option.toList, List.cons_append, List.nil_append, nI_add, pk_mul, bI0, ite_not, ev_rbb, up_n, up_s, up_u, pk_us, pk_un, Nat.reduceAdd, nI_ltT, nI_ltF, nI_leT, nI_leF, nI_eqT, nI_eqF, bk_MO_fitsLifted, gfM, h47, fitF, bI_t]
  | k + 1, i, c, m, hi, t, j, h5, h6, h18, h47, hu => by
    have hW := t.1.2.2.2
    obtain ⟨x, tt, hx, htt, u1, u2, u3, u4⟩ := hu i (by omega)
    obtain ⟨g1, f1, hc⟩ := t_Asker_dusk (sc := sc) (c := c) (w := w) d x W 97 ls (Or.inr rfl) hx t.1 j.hB
    obtain ⟨g2, f2, hm⟩ := t_MO_duskOf (sc := sc) (m := m) (w := w) d' x W ls hx t.2.1
    rw [(j.dusk hx hW).1] at hc
    rw [(j.dusk hx hW).2] at hm
    have kp := fun m => t_Told_kept (sc := sc) (c := c) (m := m) (w := w) (d + 1) x W hx hW t.1.2.1
    have eC : nK (C i) = x := by rw [← h5, u1, nK_nI (by omega)]
    have eH : H i = nI tt := by rw [← h6, u3]
    by_cases z : duskS ls W (zH Zb) (zN Zb) (Zb 0 0) x = nI tt
    · have e : fitF (fun x => duskS ls W (zH Zb) (zN Zb) (Zb 0 0) x) C H (k + 1) i = fitF (fun x => duskS ls W (zH Zb) (zN Zb) (Zb 0 0) x) C H k (i + 1) := by simp [fitF, eC, eH, z]
      rw [e]
      have FJ : FR 97 c m (va_up (va_up c 94 g1) 95 f1) (va_up (va_up m 158 g2) 159 f2) := FR.junk g1 f1 g2 f2
      obtain ⟨g, f, g', f', i1, i2⟩ := fits_loop d d' n C H hn8 k (i + 1) (va_up (va_up c 94 g1) 95 f1) (va_up (va_up m 158 g2) 159 f2) (by omega) (t.FR (Or.inr rfl) FJ) (j.junk g1 f1 g2 f2) h5 h6 h18 h47 hu
      rw [upJ c (by decide)] at i1
      rw [upJ m (by decide)] at i2
      refine ⟨g, f, g', f', fun m0 => ?_, fun c0 => ?_⟩
      · rw [bh_Thought_fitsSunsets_2]
        simp (disch := first | assumption | omega | decide | (simp only [ma_wd0, ma_wdi, ma_wdr, ma_wdl, ma_wdn] <;> omega)) only [↓reduceIte, evK, evL, evS, evA, evJ, Option.bind_some, Option.toList, List.cons_append, List.nil_append, nI_add, pk_mul, bI0, ite_not, ev_rbb, up_n, up_s, up_u, pk_us, pk_un, Nat.reduceAdd, nI_ltT, nI_ltF, nI_leT, nI_leF, nI_eqT, nI_eqF, bk_Thought_fitsSunsets, gfC, ldC, h18, u1, u3, ce_Told_kept, kp, ce_Asker_dusk, hc, z, i1]
      · rw [bh_MO_fitsLifted_2]
        simp (disch := first | assumption | omega | decide | (simp only [ma_wd0, ma_wdi, ma_wdr, ma_wdl, ma_wdn] <;> omega)) only [↓reduceIte, evK, evL, evS, evA, evJ, Option.bind_some, Option.toList, List.cons_append, List.nil_append, nI_add, pk_mul, bI0, ite_not, ev_rbb, up_n, up_s, up_u, pk_us, pk_un, Nat.reduceAdd, nI_ltT, nI_ltF, nI_leT, nI_leF, nI_eqT, nI_eqF, bk_MO_fitsLifted, gfM, ldM, h47, u2, u4, ce_MO_duskOf, hm, z, i2]
    · have e : fitF (fun x => duskS ls W (zH Zb) (zN Zb) (Zb 0 0) x) C H (k + 1) i = false := by simp [fitF, eC, eH, z]
      rw [e]
      refine ⟨g1, f1, g2, f2, fun m0 => ?_, fun c0 => ?_⟩
      · rw [bh_Thought_fitsSunsets_2]
        simp (disch := first | assumption | omega | decide | (simp only [ma_wd0, ma_wdi, ma_wdr, ma_wdl, ma_wdn] <;> omega)) only [↓reduceIte, evK, evL, evS, evA, evJ, Option.bind_some, Option.toList, List.cons_append, List.nil_append, nI_add, pk_mul, bI0, ite_not, ev_rbb, up_n, up_s, up_u, pk_us, pk_un, Nat.reduceAdd, nI_ltT, nI_ltF, nI_leT, nI_leF, nI_eqT, nI_eqF, bk_Thought_fitsSunsets, gfC, ldC, h18, u1, u3, ce_Told_kept, kp, ce_Asker_dusk, hc, z, bI_f, Bool.false_eq_true, not_false_eq_true]
      · rw [bh_MO_fitsLifted_2]
        simp (disch := first | assumption | omega | decide | (simp only [ma_wd0, ma_wdi, ma_wdr, ma_wdl, ma_wdn] <;> omega)) only [↓reduceIte, evK, evL, evS, evA, evJ, Option.bind_some, Option.toList, List.cons_append, List.nil_append, nI_add, pk_mul, bI0, ite_not, ev_rbb, up_n, up_s, up_u, pk_us, pk_un, Nat.reduceAdd, nI_ltT, nI_ltF, nI_leT, nI_leF, nI_eqT, nI_eqF, bk_MO_fitsLifted, gfM, ldM, h47, u2, u4, ce_MO_duskOf, hm, z, bI_f, Bool.false_eq_true, not_false_eq_true]
theorem t_duskOr24_97 (d x : Nat) (hx : x < W) (hC : aC c ls W) (hz : zC 97 c Zb S) (hi : zI W S Zb) : ∃ g f, ∀ m, cc sc (d + 3) 108 [.ref 103, .ref 97, .int (nI x)] (hp c w m) = some (some (.int (nI (dkN ls W Zb x))), hp (va_up (va_up c 94 g) 95 f) w m) := by
  have hW := hC.2.2.2
  obtain ⟨g1, f1, hc⟩ := t_Asker_dusk (sc := sc) (c := c) (w := w) d x W 97 ls (Or.inr rfl) hx hC (fun j hj => by rw [hz.2.1 j hj]; exact hi.1 j hj)
  have e : duskS ls W (c (97 + 1)) (c (97 + 2)) (c 97 6) x = duskS ls W (zH Zb) (zN Zb) (Zb 0 0) x := by
    rw [hz.1.1]
    exact duskS_congr hx hW hz.2.1 hz.2.2.1
  rw [e] at hc
  refine ⟨g1, f1, fun m => ?_⟩
  rcases dkN_ex ls W Zb x with ⟨e1, e2⟩ | ⟨e1, e2⟩
  · simp (disch := first | assumption | omega | decide | (simp only [ma_wd0, ma_wdi, ma_wdr, ma_wdl, ma_wdn] <;> omega)) only [↓reduceIte, evK, evL, evS, evA, evJ, Option.bind_some, Option.toList, List.cons_append, List.nil_append, nI_add, pk_mul, bI0, ite_not, ev_rbb, up_n, up_s, up_u, pk_us, pk_un, Nat.reduceAdd, nI_ltT, nI_ltF, nI_leT, nI_leF, nI_eqT, nI_eqF, en_Thought_duskOr24, bk_Thought_duskOr24, gfC, ce_Asker_dusk, hc, e1, e2]
  · simp (disch := first | assumption | omega | decide | (simp only [ma_wd0, ma_wdi, ma_wdr, ma_wdl, ma_wdn] <;> omega)) only [↓reduceIte, evK, evL, evS, evA, evJ, Option.bind_some, Option.toList, List.cons_append, List.nil_append, nI_add, pk_mul, bI0, ite_not, ev_rbb, up_n, up_s, up_u, pk_us, pk_un, Nat.reduceAdd, nI_ltT, nI_ltF, nI_leT, nI_leF, nI_eqT, nI_eqF, en_Thought_duskOr24, bk_Thought_duskOr24, gfC, ce_Asker_dusk, hc, e1, nI_m1ne]
theorem t_emptyDusks (d : Nat) (hw : c 1 0 = nI W) (hW : W ≤ 14) : ∃ c', (∀ m, cc sc d 104 [.ref 103] (hp c w m) = some (none, hp c' w m)) ∧ (∀ k, k < 122 ∨ 135 < k → c' k = c k) ∧ ∀ x, x < W → ∀ h, h < 25 → c' (122 + x) h = nI 0 := by
  have inn : ∀ (x : Nat) (c : Nat → Nat → Int32), x < 14 → ∃ c', (∀ m, ev sc d 104 (pm_blk 104 15) [some (.ref 103), some (.int (nI x)), some (.int (nI 0))] [] (hp c w m) = ev sc d 104 (pm_blk 104 2) [some (.ref 103), some (.int (nI (x + 1))), some (.int (nI 25))] [] (hp c' w m)) ∧ (∀ k, k ≠ 122 + x → c' k = c k) ∧ ∀ h, h < 25 → c' (122 + x) h = nI 0 := by
    intro x c hx
    have hl := fun m => run_loop (fun i h => ev sc d 104 (pm_blk 104 15) [some (.ref 103), some (.int (nI x)), some (.int (nI i))] [] h) (fun i => hp (va_up c (122 + x) (fun j => if j < i then nI 0 else c (122 + x) j)) w m) 25 (by
      intro i hi
      conv => lhs; rw [bh_Thought_emptyDusks_15]
      simp (disch := first | assumption | omega | decide | (simp only [ma_wd0, ma_wdi, ma_wdr, ma_wdl, ma_wdn] <;> omega)) only [↓reduceIte, evK, evL, evS, evA, evJ, Option.bind_some, Option.toList, List.cons_append, List.nil_append, nI_add, pk_mul, bI0, ite_not, ev_rbb, up_n, up_s, up_u, pk_us, pk_un, Nat.reduceAdd, nI_ltT, nI_ltF, nI_leT, nI_leF, nI_eqT, nI_eqF, gfC, aaD, stDx]
      congr 3
      funext j
      simp only [upd]
      repeat' split
      all_goals first | rfl | (exfalso; omega))
    have h0 : va_up c (122 + x) (fun j => if j < 0 then nI 0 else c (122 + x) j) = c := by
      rw [show (fun j => if j < 0 then nI 0 else c (122 + x) j) = c (122 + x) from by funext j; rw [if_neg (by omega)], up_self]
    simp only [h0] at hl
    refine ⟨va_up c (122 + x) (fun j => if j < 25 then nI 0 else c (122 + x) j), fun m => (hl m).trans ?_, fun k hk => up_n _ _ _ _ hk, fun h hh => by rw [up_s, if_pos hh]⟩
    conv => lhs; rw [bh_Thought_emptyDusks_15]
    simp (disch := first | assumption | omega | decide | (simp only [ma_wd0, ma_wdi, ma_wdr, ma_wdl, ma_wdn] <;> omega)) only [↓reduceIte, evK, evL, evS, evA, evJ, Option.bind_some, Option.toList, List.cons_append, List.nil_append, nI_add, pk_mul, bI0, ite_not, ev_rbb, up_n, up_s, up_u, pk_us, pk_un, Nat.reduceAdd, nI_ltT, nI_ltF, nI_leT, nI_leF, nI_eqT, nI_eqF, bk_Thought_emptyDusks]
  obtain ⟨s, -, c', -, e1, -, hfr, hval⟩ := sim_loop (w := w) W (fun i (s : Option Value) h => ev sc d 104 (pm_blk 104 2) [some (.ref 103), some (.int (nI i)), s] [] h)
    (fun i (s : Unit) h => (none : Option (Option Value × List ma_C)))
    (fun i s t c' m' => (∀ k, k < 122 ∨ 135 < k → c' k = c k) ∧ ∀ x, x < i → ∀ h, h < 25 → c' (122 + x) h = nI 0) (by
      rintro i s t c2 m2 hi ⟨hf, hv⟩
      obtain ⟨c3, e3, f3, v3⟩ := inn i c2 (by omega)
      have hw2 : c2 1 0 = nI W := by rw [hf 1 (by omega)]; exact hw
      refine ⟨some (.int (nI 25)), t, c3, m2, fun m0 => ?_, fun _ => rfl, fun k hk => by rw [f3 k (by omega), hf k hk], fun x hx h hh => ?_⟩
      · conv => lhs; rw [bh_Thought_emptyDusks_2]
        simp (disch := first | assumption | omega | decide | (simp only [ma_wd0, ma_wdi, ma_wdr, ma_wdl, ma_wdn] <;> omega)) only [↓reduceIte, evK, evL, evS, evA, evJ, Option.bind_some, Option.toList, List.cons_append, List.nil_append, nI_add, pk_mul, bI0, ite_not, ev_rbb, up_n, up_s, up_u, pk_us, pk_un, Nat.reduceAdd, nI_ltT, nI_ltF, nI_leT, nI_leF, nI_eqT, nI_eqF, gfC, hw2, e3]
      · by_cases z : x = i
        · subst z; exact v3 h hh
        · rw [f3 _ (by omega)]; exact hv x (by omega) h hh) W 0 none () c c (by omega) ⟨fun _ _ => rfl, fun x hx => by omega⟩
  refine ⟨c', fun m => ?_, hfr, hval⟩
  have hw2 : c' 1 0 = nI W := by rw [hfr 1 (by omega)]; exact hw
  simp (disch := first | assumption | omega | decide | (simp only [ma_wd0, ma_wdi, ma_wdr, ma_wdl, ma_wdn] <;> omega)) only [↓reduceIte, evK, evL, evS, evA, evJ, Option.bind_some, Option.toList, List.cons_append, List.nil_append, nI_add, pk_mul, bI0, ite_not, ev_rbb, up_n, up_s, up_u, pk_us, pk_un, Nat.reduceAdd, nI_ltT, nI_ltF, nI_leT, nI_leF, nI_eqT, nI_eqF, en_Thought_emptyDusks, e1]
  rw [bh_Thought_emptyDusks_2]
  simp (disch := first | assumption | omega | decide | (simp only [ma_wd0, ma_wdi, ma_wdr, ma_wdl, ma_wdn] <;> omega)) only [↓reduceIte, evK, evL, evS, evA, evJ, Option.bind_some, Option.toList, List.cons_append, List.nil_append, nI_add, pk_mul, bI0, ite_not, ev_rbb, up_n, up_s, up_u, pk_us, pk_un, Nat.reduceAdd, nI_ltT, nI_ltF, nI_leT, nI_leF, nI_eqT, nI_eqF, bk_Thought_emptyDusks, gfC, hw2]
theorem t_countDusks (d : Nat) (f : Nat → Nat → Nat) (hC : aC c ls W) (hz : zC 97 c Zb S) (hi : zI W S Zb) (hv : ∀ x, x < W → ∀ h, h < 25 → c (122 + x) h = nI (f x h)) : ∃ c', (∀ m, cc sc (d + 4) 107 [.ref 103] (hp c w m) = some (none, hp c' w m)) ∧ (∀ k, k ≤ 93 → c' k = c k) ∧ ∀ x, x < W → ∀ h, h < 25 → c' (122 + x) h = nI (f x h + if dkN ls W Zb x = h then 1 else 0) := by
  have hW := hC.2.2.2
  obtain ⟨s, -, c', -, e1, -, hfr, hval, -⟩ := sim_loop (w := w) W (fun i (s : Unit) h => ev sc (d + 4) 107 (pm_blk 107 2) [some (.ref 103), some (.int (nI i))] [] h)
    (fun i (s : Unit) h => (none : Option (Option Value × List ma_C)))
    (fun i s t c' m' => (∀ k, k ≤ 93 ∨ (97 ≤ k ∧ k ≤ 101) → c' k = c k) ∧ (∀ x, x < i → ∀ h, h < 25 → c' (122 + x) h = nI (f x h + if dkN ls W Zb x = h then 1 else 0)) ∧ ∀ x, i ≤ x → x < W → ∀ h, h < 25 → c' (122 + x) h = nI (f x h)) (by
      rintro i s t c2 m2 hi' ⟨hf, hv1, hv2⟩
      have hC2 : aC c2 ls W := by
        unfold aC lC at *
        rw [hf 1 (by omega), hf 7 (by omega), hf 8 (by omega), hf 9 (by omega), hf 10 (by omega), hf 11 (by omega), hf 12 (by omega)]
        exact hC
      have hz2 : zC 97 c2 Zb S := hz.eq (fun k a b => hf k (by omega))
      have hw2 := hC2.2.1
      obtain ⟨g1, f1, hd⟩ := t_duskOr24_97 (sc := sc) (w := w) d i hi' hC2 hz2 hi
      have hdk := dkN_le ls W Zb i
      generalize hdke : dkN ls W Zb i = dk at hd hdk
      have hcv := hv2 i (Nat.le_refl _) hi' dk (by omega)
      refine ⟨(), (), va_up (va_up (va_up c2 94 g1) 95 f1) (122 + i) (upd (c2 (122 + i)) dk (nI (f i dk + 1))), m2, fun m0 => ?_, fun _ => rfl, fun k hk => ?_, fun x hx h hh => ?_, fun x hx hxW h hh => ?_⟩
      · conv => lhs; rw [bh_Thought_countDusks_2]
        simp (disch := first | assumption | omega | decide | (simp only [ma_wd0, ma_wdi, ma_wdr, ma_wdl, ma_wdn] <;> omega)) only [↓reduceIte, evK, evL, evS, evA, evJ, Option.bind_some, Option.toList, List.cons_append, List.nil_append, nI_add, pk_mul, bI0, ite_not, ev_rbb, up_n, up_s, up_u, pk_us, pk_un, Nat.reduceAdd, nI_ltT, nI_ltF, nI_leT, nI_leF, nI_eqT, nI_eqF, gfC, hw2, aaD, ce_Thought_duskOr24, hd, ldDx, stDx, hcv]
      · simp (disch := first | assumption | omega | decide | (simp only [ma_wd0, ma_wdi, ma_wdr, ma_wdl, ma_wdn] <;> omega)) only [up_n, up_s, up_u, pk_us, pk_un, Nat.reduceAdd]
        exact hf k hk
      · by_cases z : x = i
        · subst z
          rw [up_s, hdke]
          by_cases q : dk = h
          · subst q; rw [pk_us, if_pos rfl]
          · rw [pk_un (Ne.symm q), if_neg q]; exact hv2 x (Nat.le_refl _) hi' h hh
        · simp (disch := first | assumption | omega | decide | (simp only [ma_wd0, ma_wdi, ma_wdr, ma_wdl, ma_wdn] <;> omega)) only [up_n, up_s, up_u, pk_us, pk_un, Nat.reduceAdd]
          exact hv1 x (by omega) h hh
      · simp (disch := first | assumption | omega | decide | (simp only [ma_wd0, ma_wdi, ma_wdr, ma_wdl, ma_wdn] <;> omega)) only [up_n, up_s, up_u, pk_us, pk_un, Nat.reduceAdd]
        exact hv2 x (by omega) hxW h hh) W 0 () () c c (by omega) ⟨fun _ _ => rfl, fun x hx => by omega, fun x _ hx h hh => hv x hx h hh⟩
  refine ⟨c', fun m => ?_, fun k hk => hfr k (Or.inl hk), hval⟩
  have hw2 : c' 1 0 = nI W := by rw [hfr 1 (by omega)]; exact hC.2.1
  simp (disch := first | assumption | omega | decide | (simp only [ma_wd0, ma_wdi, ma_wdr, ma_wdl, ma_wdn] <;> omega)) only [↓reduceIte, evK, evL, evS, evA, evJ, Option.bind_some, Option.toList, List.cons_append, List.nil_append, nI_add, pk_mul, bI0, ite_not, ev_rbb, up_n, up_s, up_u, pk_us, pk_un, Nat.reduceAdd, nI_ltT, nI_ltF, nI_leT, nI_leF, nI_eqT, nI_eqF, en_Thought_countDusks, e1]
  rw [bh_Thought_countDusks_2]
  simp (disch := first | assumption | omega | decide | (simp only [ma_wd0, ma_wdi, ma_wdr, ma_wdl, ma_wdn] <;> omega)) only [↓reduceIte, evK, evL, evS, evA, evJ, Option.bind_some, Option.toList, List.cons_append, List.nil_append, nI_add, pk_mul, bI0, ite_not, ev_rbb, up_n, up_s, up_u, pk_us, pk_un, Nat.reduceAdd, nI_ltT, nI_ltF, nI_leT, nI_leF, nI_eqT, nI_eqF, bk_Thought_countDusks, gfC, hw2]
theorem t_greatestGroup (d x : Nat) (f : Nat → Nat) (hx : x < 14) (hf : ∀ h, f h ≤ 41) (hv : ∀ h, h < 25 → c (122 + x) h = nI (f h)) : cc sc (d + 1) 110 [.ref 103, .int (nI x)] (hp c w m) = some (some (.int (nI (mxF f 25))), hp c w m) := by
  have hb : ∀ n, mxF f n ≤ 41 := fun n => (mxF_le n).mpr (fun i _ => hf i)
  have hl := run_loop (fun i h => ev sc (d + 1) 110 (pm_blk 110 4) [some (.ref 103), some (.int (nI x)), some (.int (nI (mxF f i))), some (.int (nI i))] [] h) (fun i => hp c w m) 25 (by
    intro i hi
    have hvi := hv i hi
    have hbi := hb i
    have hfi := hf i
    conv => lhs; rw [bh_Thought_greatestGroup_4]
    simp (disch := first | assumption | omega | decide | (simp only [ma_wd0, ma_wdi, ma_wdr, ma_wdl, ma_wdn] <;> omega)) only [↓reduceIte, evK, evL, evS, evA, evJ, Option.bind_some, Option.toList, List.cons_append, List.nil_append, nI_add, pk_mul, bI0, ite_not, ev_rbb, up_n, up_s, up_u, pk_us, pk_un, Nat.reduceAdd, nI_ltT, nI_ltF, nI_leT, nI_leF, nI_eqT, nI_eqF, gfC, aaD, ldDx, hvi, ce_Math_max, t_Math_max, mx_eq, iMx_n]
    rfl)
  rw [show mxF f 0 = 0 from rfl] at hl
  simp (disch := first | assumption | omega | decide | (simp only [ma_wd0, ma_wdi, ma_wdr, ma_wdl, ma_wdn] <;> omega)) only [↓reduceIte, evK, evL, evS, evA, evJ, Option.bind_some, Option.toList, List.cons_append, List.nil_append, nI_add, pk_mul, bI0, ite_not, ev_rbb, up_n, up_s, up_u, pk_us, pk_un, Nat.reduceAdd, nI_ltT, nI_ltF, nI_leT, nI_leF, nI_eqT, nI_eqF, en_Thought_greatestGroup, hl]
  rw [bh_Thought_greatestGroup_4]
  simp (disch := first | assumption | omega | decide | (simp only [ma_wd0, ma_wdi, ma_wdr, ma_wdl, ma_wdn] <;> omega)) only [↓reduceIte, evK, evL, evS, evA, evJ, Option.bind_some, Option.toList, List.cons_append, List.nil_append, nI_add, pk_mul, bI0, ite_not, ev_rbb, up_n, up_s, up_u, pk_us, pk_un, Nat.reduceAdd, nI_ltT, nI_ltF, nI_leT, nI_leF, nI_eqT, nI_eqF, bk_Thought_greatestGroup]
end PL
