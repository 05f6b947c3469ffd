/-! ===== moors: both tables, the call ===== -/
def pubW (sc : Nat × (Nat → Int32)) (w : Nat → Int64) (d mC mM : Nat) (as : List Value) (c m : Nat → Nat → Int32) : Prop := ∃ c' w' m' v, (∀ m0, cc sc d mC (.ref 0 :: as) (hp c w m0) = some (some (.int v), hp c' w' m0)) ∧ (∀ c0 w0, cc sc d mM (.ref 138 :: as) (hp c0 w0 m) = some (some (.int v), hp c0 w0 m')) ∧ gR c' m'
theorem uL_s (f : Nat → Int64) (k : Nat) (x : Int64) (j : Nat) : vp_updL f k x j = if j = k then x else f j := by
  by_cases h : j = k
  · subst h; rw [pk_uLs, if_pos rfl]
  · rw [pk_uLn h, if_neg h]
def popR : Nat → Nat → Nat
  | 0, _ => 0
  | k + 1, n => n % 2 + popR k (n / 2)
theorem popR_le : ∀ k n, popR k n ≤ k
  | 0, _ => Nat.le_refl _
  | k + 1, n => by
    have := popR_le k (n / 2)
    unfold popR
    omega
theorem popR_0 : ∀ k, popR k 0 = 0
  | 0 => rfl
  | k + 1 => by
    unfold popR
    rw [Nat.zero_div, popR_0 k]
theorem and_d2 (a b : Nat) : (a &&& b) / 2 = a / 2 &&& b / 2 := by
  apply Nat.eq_of_testBit_eq
  intro i
  rw [Nat.testBit_div_two, Nat.testBit_and, Nat.testBit_and, Nat.testBit_div_two, Nat.testBit_div_two]
theorem or_d2 (a b : Nat) : (a ||| b) / 2 = a / 2 ||| b / 2 := by
  apply Nat.eq_of_testBit_eq
  intro i
  rw [Nat.testBit_div_two, Nat.testBit_or, Nat.testBit_or, Nat.testBit_div_two, Nat.testBit_div_two]
theorem and_m2 (a b : Nat) : (a &&& b) % 2 = (a % 2) * (b % 2) := by
  have h := Nat.testBit_and a b 0
  rw [Nat.testBit_zero, Nat.testBit_zero, Nat.testBit_zero, Bool.eq_iff_iff] at h
  simp only [Bool.and_eq_true, Bool.or_eq_true, decide_eq_true_eq] at h
  rcases (show a % 2 = 0 ∨ a % 2 = 1 by omega) with ha | ha <;> rcases (show b % 2 = 0 ∨ b % 2 = 1 by omega) with hb | hb <;> rw [ha, hb] at h ⊢ <;> omega
theorem or_m2 (a b : Nat) : (a ||| b) % 2 = max (a % 2) (b % 2) := by
  have h := Nat.testBit_or a b 0
  rw [Nat.testBit_zero, Nat.testBit_zero, Nat.testBit_zero, Bool.eq_iff_iff] at h
  simp only [Bool.and_eq_true, Bool.or_eq_true, decide_eq_true_eq] at h
  rcases (show a % 2 = 0 ∨ a % 2 = 1 by omega) with ha | ha <;> rcases (show b % 2 = 0 ∨ b % 2 = 1 by omega) with hb | hb <;> rw [ha, hb] at h ⊢ <;> omega
theorem pop_k : ∀ k n, 0 < n → n < 2 ^ k → popR k (n &&& (n - 1)) + 1 = popR k n
  | 0, n, h1, h2 => by simp at h2; omega
  | k + 1, n, h1, h2 => by
    have hp := p2_d k
    unfold popR
    rw [and_d2, and_m2]
    rcases (show n % 2 = 0 ∨ n % 2 = 1 by omega) with hb | hb
    · have ih := pop_k k (n / 2) (by omega) (by omega)
      rw [show (n - 1) / 2 = n / 2 - 1 by omega, hb, Nat.zero_mul]
      omega
    · rw [show (n - 1) / 2 = n / 2 by omega, show (n - 1) % 2 = 0 by omega, hb, Nat.and_self]
      omega
theorem pop_on : ∀ q n r, n < 2 ^ 14 → popR 14 n ≤ q → onE q (nI n) = true ∧ onS q (nI n) (nI r) = nI (r + popR 14 n)
  | 0, n, r, hn, hq => by
    by_cases z : n = 0
    · subst z
      rw [popR_0]
      exact ⟨decide_eq_true rfl, rfl⟩
    · have := pop_k 14 n (by omega) hn
      omega
  | q + 1, n, r, hn, hq => by
    by_cases z : n = 0
    · subst z
      rw [popR_0]
      refine ⟨?_, ?_⟩
      · simp only [onE, decide_true, Bool.true_or]
      · simp only [onS, if_true]
        rfl
    · have h1 := pop_k 14 n (by omega) hn
      have hle : n &&& (n - 1) ≤ n := Nat.and_le_left
      obtain ⟨i1, i2⟩ := pop_on q (n &&& (n - 1)) (r + 1) (by omega) (by omega)
      have e : nI n &&& (nI n - nI 1) = nI (n &&& (n - 1)) := by rw [pk_sub (by omega), n_and]
      have hne : ¬ nI n = nI 0 := fun h => z ((nI_eq (by omega) (by omega)).mp h)
      refine ⟨?_, ?_⟩
      · simp only [onE, e, i1, Bool.or_true]
      · simp only [onS]
        rw [if_neg hne, e, nI_add, i2]
        congr 1
        omega
theorem pop_or : ∀ {x U : Nat} (n : Nat), U.testBit x = false → x < n → popR n (U ||| 2 ^ x) = popR n U + 1
  | x, U, 0, h, hx => by omega
  | 0, U, n + 1, h, hx => by
    unfold popR
    rw [Nat.testBit_zero] at h
    have h0 : U % 2 = 0 := by simp at h; omega
    rw [or_d2, or_m2, h0, show (2 ^ 0 : Nat) = 1 from rfl, show (1 : Nat) / 2 = 0 from rfl, Nat.or_zero]
    show max 0 (1 % 2) + _ = 0 + _ + 1
    omega
  | x + 1, U, n + 1, h, hx => by
    unfold popR
    have h2 : (U / 2).testBit x = false := by rw [Nat.testBit_div_two]; exact h
    have hp := p2_d x
    rw [or_d2, or_m2, show 2 ^ (x + 1) / 2 = 2 ^ x by omega, show 2 ^ (x + 1) % 2 = 0 by omega, pop_or n h2 (by omega)]
    omega
theorem or_less {U x : Nat} (h : U.testBit x = false) : U < U ||| 2 ^ x := by
  have hle : U ≤ U ||| 2 ^ x := Nat.left_le_or
  rcases Nat.lt_or_ge U (U ||| 2 ^ x) with z | z
  · exact z
  · exfalso
    have e : U ||| 2 ^ x = U := by omega
    have := Nat.testBit_or U (2 ^ x) x
    rw [e, h, Nat.testBit_two_pow_self] at this
    cases this
section PU
variable {sc : Nat × (Nat → Int32)} {S W : Nat} {c m : Nat → Nat → Int32} {w : Nat → Int64} {H g a : Nat → Nat}
theorem t_ways_in (d x : Nat) (y : Int32) (D : Nat → Nat → Nat) (ok : Nat → Nat → Bool) (hDe : D = fun s x => dN (a s) x) (hoe : ok = fun s x => decide (g s ≤ H x)) (hS : S ≤ 8) (hx : x < W) (hW : W ≤ 14) (hw3 : c 1 3 = nI S) (hw0 : c 1 0 = nI W) (hH : ∀ j, H j ≤ 40) (hg : ∀ s, g s ≤ 40) (ha : ∀ s, a s < 14) (h18 : ∀ x, x < W → c 18 x = nI (H x)) (h2 : ∀ s, s < S → c 2 s = nI (g s)) (h20 : ∀ s, s < S → c 20 s = nI (a s)) : ∀ q, q < 2 ^ S → ∀ m, ev sc (d + 2) 115 (pm_blk 115 58) [some (.ref 103), some (.int y), some (.int (nI (2 ^ S - 1))), some (.int (nI x)), some (.int (nI q))] [] (hp c (fun j => if j < 2 ^ S then (if q < j then lN (WnN S D ok (x + 1) j) else lN (WnN S D ok x j)) else w j) m) = ev sc (d + 2) 115 (pm_blk 115 44) [some (.ref 103), some (.int y), some (.int (nI (2 ^ S - 1))), some (.int (nI (x + 1))), some (.int (nI 0))] [] (hp c (fun j => if j < 2 ^ S then lN (WnN S D ok (x + 1) j) else w j) m)
  | 0, hq => fun m => by
    have e : (fun j => if j < 2 ^ S then (if 0 < j then lN (WnN S D ok (x + 1) j) else lN (WnN S D ok x j)) else w j) = (fun j => if j < 2 ^ S then lN (WnN S D ok (x + 1) j) else w j) := by
      funext j
      by_cases z : j = 0
      · subst z; rw [WnN_0, WnN_0]; simp
      · rw [if_pos (show 0 < j by omega)]
    rw [e]
    conv => lhs; rw [bh_Thought_moored_58]
    simp (disch := first | assumption | omega | decide | (simp only [ma_wd0, ma_wdi, ma_wdr, ma_wdl, ma_wdn] <;> omega)) only [↓reduceIte, evK, evL, evS, evA, evJ, Option.bind_some, Option.toList, List.cons_append, List.nil_append, nI_add, pk_mul, bI0, ite_not, ev_rbb, up_n, up_s, up_u, pk_us, pk_un, Nat.reduceAdd, nI_ltT, nI_ltF, nI_leT, nI_leF, nI_eqT, nI_eqF, bk_Thought_moored]
  | q + 1, hq => fun m => by
    have h256 : 2 ^ S ≤ 256 := Nat.le_trans (Nat.pow_le_pow_right (by decide) hS) (by decide)
    have hD : ∀ s x, x < 14 → D s x ≤ 13 := fun s x hx => by rw [hDe]; have := ha s; simp only [dN]; omega
    have ih := t_ways_in d x y D ok hDe hoe hS hx hW hw3 hw0 hH hg ha h18 h2 h20 q (by omega) m
    generalize hwq : (fun j => if j < 2 ^ S then (if q + 1 < j then lN (WnN S D ok (x + 1) j) else lN (WnN S D ok x j)) else w j) = wq
    have ev1 : wq (q + 1) = lN (WnN S D ok x (q + 1)) := by rw [← hwq]; simp only; rw [if_pos hq, if_neg (by omega)]
    have WW := t_wayWith (sc := sc) (c := c) (w := wq) (S := S) (W := W) (H := H) (g := g) (a := a) d x (q + 1) (WnN S D ok x) hS hx hW hq hw3 hH hg ha (h18 x hx) h2 h20 (fun s hs => by
      have := clr_less hs
      rw [← hwq]
      simp only
      rw [if_pos (by omega), if_neg (by omega)]) (fun s hs => WnN_b hS hD (by omega) (by have := clr_less hs; omega))
    rw [← hDe, ← hoe] at WW
    have b1 := WnN_b (ok := ok) hS hD (c := x) (set := q + 1) (by omega) hq
    have b2 := (wwN_b (ok := ok) (W' := WnN S D ok x) (x := x) (set := q + 1) (by omega) hD (fun s hs => WnN_b hS hD (by omega) (by have := clr_less hs; omega)) S).1
    have n62 : noW < 2 ^ 63 := by decide
    have n8 : 8 * tC < 2 ^ 63 := by decide
    have b1' : WnN S D ok x (q + 1) < 2 ^ 63 := by rcases b1 with z | z <;> omega
    have mn := fun h => t_Math_min_l (sc := sc) (d + 1) (WnN S D ok x (q + 1)) (wwN D ok (WnN S D ok x) x (q + 1) S) b1' (by omega) h
    rw [show min (WnN S D ok x (q + 1)) (wwN D ok (WnN S D ok x) x (q + 1) S) = WnN S D ok (x + 1) (q + 1) from rfl] at mn
    have eu : vp_updL wq (q + 1) (lN (WnN S D ok (x + 1) (q + 1))) = (fun j => if j < 2 ^ S then (if q < j then lN (WnN S D ok (x + 1) j) else lN (WnN S D ok x j)) else w j) := by
      funext j
      rw [uL_s, ← hwq]
      by_cases z : j = q + 1
      · subst z; rw [if_pos rfl, if_pos hq, if_pos (by omega)]
      · rw [if_neg z]
        simp only
        by_cases z2 : j < 2 ^ S
        · rw [if_pos z2, if_pos z2]
          by_cases z3 : q + 1 < j
          · rw [if_pos z3, if_pos (by omega)]
          · rw [if_neg z3, if_neg (by omega)]
        · rw [if_neg z2, if_neg z2]
    rw [← eu] at ih
    conv => lhs; rw [bh_Thought_moored_58]
    simp (disch := first | assumption | omega | decide | (simp only [ma_wd0, ma_wdi, ma_wdr, ma_wdl, ma_wdn] <;> omega)) only [↓reduceIte, evK, evL, evS, evA, evJ, Option.bind_some, Option.toList, List.cons_append, List.nil_append, nI_add, pk_mul, bI0, ite_not, ev_rbb, up_n, up_s, up_u, pk_us, pk_un, Nat.reduceAdd, nI_ltT, nI_ltF, nI_leT, nI_leF, nI_eqT, nI_eqF, gfC, ev_ll, ev_ls, ev1, ce_Thought_wayWith, WW, ce_Math_min_l, mn, pk_m1, ih]
theorem t_ways (d : Nat) (y : Int32) (D : Nat → Nat → Nat) (ok : Nat → Nat → Bool) (hDe : D = fun s x => dN (a s) x) (hoe : ok = fun s x => decide (g s ≤ H x)) (hS : S ≤ 8) (hW : W ≤ 14) (hw3 : c 1 3 = nI S) (hw0 : c 1 0 = nI W) (hH : ∀ j, H j ≤ 40) (hg : ∀ s, g s ≤ 40) (ha : ∀ s, a s < 14) (h18 : ∀ x, x < W → c 18 x = nI (H x)) (h2 : ∀ s, s < S → c 2 s = nI (g s)) (h20 : ∀ s, s < S → c 20 s = nI (a s)) : ∃ w' u, w' (2 ^ S - 1) = lN (WnN S D ok W (2 ^ S - 1)) ∧ ∀ m, ev sc (d + 2) 115 (pm_blk 115 14) [some (.ref 103), some (.int y), some (.int (nI (2 ^ S - 1))), some (.int (nI 0)), none] [] (hp c w m) = ev sc (d + 2) 115 (pm_blk 115 99) [some (.ref 103), some (.int y), some (.int (nI (2 ^ S - 1))), some (.int (nI W)), u] [] (hp c w' m) := by
  have h256 : 2 ^ S ≤ 256 := Nat.le_trans (Nat.pow_le_pow_right (by decide) hS) (by decide)
  have hpos : 0 < 2 ^ S := Nat.two_pow_pos S
  have L1 := fun m => run_loop (fun i h => ev sc (d + 2) 115 (pm_blk 115 14) [some (.ref 103), some (.int y), some (.int (nI (2 ^ S - 1))), some (.int (nI i)), none] [] h) (fun i => hp c (fun j => if j < i then lN (WnN S D ok 0 j) else w j) m) (2 ^ S) (by
    intro i hi
    have eu : vp_updL (fun j => if j < i then lN (WnN S D ok 0 j) else w j) i (lN (WnN S D ok 0 i)) = (fun j => if j < i + 1 then lN (WnN S D ok 0 j) else w j) := by
      funext j
      rw [uL_s]
      by_cases z : j = i
      · subst z; rw [if_pos rfl, if_pos (by omega)]
      · rw [if_neg z]
        by_cases z2 : j < i
        · rw [if_pos z2, if_pos (by omega)]
        · rw [if_neg z2, if_neg (by omega)]
    conv => lhs; rw [bh_Thought_moored_14]
    rw [← eu]
    by_cases z : i = 0
    · subst z
      rw [show WnN S D ok 0 0 = 0 from rfl]
      simp (disch := first | assumption | omega | decide | (simp only [ma_wd0, ma_wdi, ma_wdr, ma_wdl, ma_wdn] <;> omega)) only [↓reduceIte, evK, evL, evS, evA, evJ, Option.bind_some, Option.toList, List.cons_append, List.nil_append, nI_add, pk_mul, bI0, ite_not, ev_rbb, up_n, up_s, up_u, pk_us, pk_un, Nat.reduceAdd, nI_ltT, nI_ltF, nI_leT, nI_leF, nI_eqT, nI_eqF, bk_Thought_moored, gfC, litL0, ev_ls]
    · rw [show WnN S D ok 0 i = noW from if_neg z]
      simp (disch := first | assumption | omega | decide | (simp only [ma_wd0, ma_wdi, ma_wdr, ma_wdl, ma_wdn] <;> omega)) only [↓reduceIte, evK, evL, evS, evA, evJ, Option.bind_some, Option.toList, List.cons_append, List.nil_append, nI_add, pk_mul, bI0, ite_not, ev_rbb, up_n, up_s, up_u, pk_us, pk_un, Nat.reduceAdd, nI_ltT, nI_ltF, nI_leT, nI_leF, nI_eqT, nI_eqF, bk_Thought_moored, gfC, lit62, ev_ls])
  have e0 : (fun j => if j < 0 then lN (WnN S D ok 0 j) else w j) = w := by funext j; rw [if_neg (by omega)]
  simp only [e0] at L1
  have L2 : ∀ n, n ≤ W → ∃ u, ∀ m, ev sc (d + 2) 115 (pm_blk 115 44) [some (.ref 103), some (.int y), some (.int (nI (2 ^ S - 1))), some (.int (nI 0)), none] [] (hp c (fun j => if j < 2 ^ S then lN (WnN S D ok 0 j) else w j) m) = ev sc (d + 2) 115 (pm_blk 115 44) [some (.ref 103), some (.int y), some (.int (nI (2 ^ S - 1))), some (.int (nI n)), u] [] (hp c (fun j => if j < 2 ^ S then lN (WnN S D ok n j) else w j) m) := by
    intro n
    induction n with
    | zero => intro _; exact ⟨none, fun m => rfl⟩
    | succ n ih =>
      intro hn
      obtain ⟨u, ih⟩ := ih (by omega)
      have I := t_ways_in (sc := sc) (w := w) d n y D ok hDe hoe hS (by omega) hW hw3 hw0 hH hg ha h18 h2 h20 (2 ^ S - 1) (by omega)
      have e : (fun j => if j < 2 ^ S then (if 2 ^ S - 1 < j then lN (WnN S D ok (n + 1) j) else lN (WnN S D ok n j)) else w j) = (fun j => if j < 2 ^ S then lN (WnN S D ok n j) else w j) := by
        funext j
        by_cases z : j < 2 ^ S
        · rw [if_pos z, if_pos z, if_neg (by omega)]
        · rw [if_neg z, if_neg z]
      rw [e] at I
      refine ⟨some (.int (nI 0)), fun m => (ih m).trans ?_⟩
      conv => lhs; rw [bh_Thought_moored_44]
      have I := I m
      simp (disch := first | assumption | omega | decide | (simp only [ma_wd0, ma_wdi, ma_wdr, ma_wdl, ma_wdn] <;> omega)) only [↓reduceIte, evK, evL, evS, evA, evJ, Option.bind_some, Option.toList, List.cons_append, List.nil_append, nI_add, pk_mul, bI0, ite_not, ev_rbb, up_n, up_s, up_u, pk_us, pk_un, Nat.reduceAdd, nI_ltT, nI_ltF, nI_leT, nI_leF, nI_eqT, nI_eqF, gfC, hw0, I]
  obtain ⟨u, L2⟩ := L2 W (Nat.le_refl _)
  have X : ∀ m, ev sc (d + 2) 115 (pm_blk 115 14) [some (.ref 103), some (.int y), some (.int (nI (2 ^ S - 1))), some (.int (nI (2 ^ S))), none] [] (hp c (fun j => if j < 2 ^ S then lN (WnN S D ok 0 j) else w j) m) = ev sc (d + 2) 115 (pm_blk 115 44) [some (.ref 103), some (.int y), some (.int (nI (2 ^ S - 1))), some (.int (nI 0)), none] [] (hp c (fun j => if j < 2 ^ S then lN (WnN S D ok 0 j) else w j) m) := by
    intro m
    conv => lhs; rw [bh_Thought_moored_14]
    simp (disch := first | assumption | omega | decide | (simp only [ma_wd0, ma_wdi, ma_wdr, ma_wdl, ma_wdn] <;> omega)) only [↓reduceIte, evK, evL, evS, evA, evJ, Option.bind_some, Option.toList, List.cons_append, List.nil_append, nI_add, pk_mul, bI0, ite_not, ev_rbb, up_n, up_s, up_u, pk_us, pk_un, Nat.reduceAdd, nI_ltT, nI_ltF, nI_leT, nI_leF, nI_eqT, nI_eqF, bk_Thought_moored]
  refine ⟨fun j => if j < 2 ^ S then lN (WnN S D ok W j) else w j, u, by simp only; rw [if_pos (by omega)], fun m => ((L1 m).trans (X m)).trans ((L2 m).trans ?_)⟩
  conv => lhs; rw [bh_Thought_moored_44]
  simp (disch := first | assumption | omega | decide | (simp only [ma_wd0, ma_wdi, ma_wdr, ma_wdl, ma_wdn] <;> omega)) only [↓reduceIte, evK, evL, evS, evA, evJ, Option.bind_some, Option.toList, List.cons_append, List.nil_append, nI_add, pk_mul, bI0, ite_not, ev_rbb, up_n, up_s, up_u, pk_us, pk_un, Nat.reduceAdd, nI_ltT, nI_ltF, nI_leT, nI_leF, nI_eqT, nI_eqF, gfC, hw0]
theorem t_MO_onesOf14 (d n : Nat) (hn : n < 2 ^ 14) (h : List ma_C) : cc sc d 275 [.ref 138, .int (nI n)] h = some (some (.int (nI (popR 14 n))), h) := by
  have o := pop_on 14 n 0 hn (popR_le 14 n)
  have hl := t_ones_loop (sc := sc) (h := h) d (nI n) 14 (nI n) (nI 0) o.1
  rw [o.2, Nat.zero_add] at hl
  simp (disch := first | assumption | omega | decide | (simp only [ma_wd0, ma_wdi, ma_wdr, ma_wdl, ma_wdn] <;> omega)) only [↓reduceIte, evK, evL, evS, evA, evJ, Option.bind_some, Option.toList, List.cons_append, List.nil_append, nI_add, pk_mul, bI0, ite_not, ev_rbb, en_MO_onesOf, hl]
theorem t_MO_canMoor (d s x U : Nat) (hs : s < 8) (hx : x < 14) (hU : U < 2 ^ 14) (hH : H x ≤ 40) (hg : g s ≤ 40) (h1 : m 139 (5 + x) + nI 10 = nI (H x)) (h2 : m 142 s = nI (g s)) : ∀ c, cc sc (d + 1) 280 [.ref 138, .int (nI s), .int (nI x), .int (nI U)] (hp c w m) = some (some (.int (bI (g s ≤ H x ∧ U.testBit x = false))), hp c w m) := by
  intro c
  have hU31 : U < 2 ^ 31 := by omega
  by_cases z1 : U.testBit x = true
  · have zz : ¬ (g s ≤ H x ∧ U.testBit x = false) := fun q => by rw [z1] at q; exact Bool.noConfusion q.2
    rw [bI_f zz]
    simp (disch := first | assumption | omega | decide | (simp only [ma_wd0, ma_wdi, ma_wdr, ma_wdl, ma_wdn] <;> omega)) only [↓reduceIte, evK, evL, evS, evA, evJ, Option.bind_some, Option.toList, List.cons_append, List.nil_append, nI_add, pk_mul, bI0, ite_not, ev_rbb, up_n, up_s, up_u, pk_us, pk_un, Nat.reduceAdd, nI_ltT, nI_ltF, nI_leT, nI_leF, nI_eqT, nI_eqF, en_MO_canMoor, bk_MO_canMoor, ce_MO_has, t_MO_has, n_bit, z1, not_true_eq_false]
  · have z1' : U.testBit x = false := by simpa using z1
    by_cases z2 : g s ≤ H x
    · rw [bI_t ⟨z2, z1'⟩]
      simp (disch := first | assumption | omega | decide | (simp only [ma_wd0, ma_wdi, ma_wdr, ma_wdl, ma_wdn] <;> omega)) only [↓reduceIte, evK, evL, evS, evA, evJ, Option.bind_some, Option.toList, List.cons_append, List.nil_append, nI_add, pk_mul, bI0, ite_not, ev_rbb, up_n, up_s, up_u, pk_us, pk_un, Nat.reduceAdd, nI_ltT, nI_ltF, nI_leT, nI_leF, nI_eqT, nI_eqF, en_MO_canMoor, bk_MO_canMoor, ce_MO_has, t_MO_has, n_bit, z1', Bool.false_eq_true, not_false_eq_true, ce_MO_heightOf, t_MO_heightOf, h1, gfM, ldM, h2]
    · rw [bI_f (fun q => z2 q.1)]
      simp (disch := first | assumption | omega | decide | (simp only [ma_wd0, ma_wdi, ma_wdr, ma_wdl, ma_wdn] <;> omega)) only [↓reduceIte, evK, evL, evS, evA, evJ, Option.bind_some, Option.toList, List.cons_append, List.nil_append, nI_add, pk_mul, bI0, ite_not, ev_rbb, up_n, up_s, up_u, pk_us, pk_un, Nat.reduceAdd, nI_ltT, nI_ltF, nI_leT, nI_leF, nI_eqT, nI_eqF, en_MO_canMoor, bk_MO_canMoor, ce_MO_has, t_MO_has, n_bit, z1', Bool.false_eq_true, not_false_eq_true, ce_MO_heightOf, t_MO_heightOf, h1, gfM, ldM, h2]
theorem t_MO_mooredBy (d s x U v : Nat) (hs : s < 8) (hx : x < 14) (hU : U < 2 ^ 14) (ha : a s < 14) (h1 : m 139 (33 + s) = nI (a s)) (h2 : m 165 (U ||| 2 ^ x) = nI v) : ∀ c, cc sc (d + 1) 281 [.ref 138, .int (nI s), .int (nI x), .int (nI U)] (hp c w m) = some (some (.int (nI (dN (a s) x + v))), hp c w m) := by
  intro c
  have hor : U ||| 2 ^ x < 16384 := Nat.or_lt_two_pow (n := 14) hU (p2_lt hx)
  simp (disch := first | assumption | omega | decide | (simp only [ma_wd0, ma_wdi, ma_wdr, ma_wdl, ma_wdn] <;> omega)) only [↓reduceIte, evK, evL, evS, evA, evJ, Option.bind_some, Option.toList, List.cons_append, List.nil_append, nI_add, pk_mul, bI0, ite_not, ev_rbb, up_n, up_s, up_u, pk_us, pk_un, Nat.reduceAdd, nI_ltT, nI_ltF, nI_leT, nI_leF, nI_eqT, nI_eqF, en_MO_mooredBy, gfM, ldM, h1, ce_MO_far, t_MO_far, iFr_n, n_sh, n_or, h2]
theorem t_finds_row (d U : Nat) (D : Nat → Nat → Nat) (ok : Nat → Nat → Bool) (hDe : D = fun s x => dN (a s) x) (hoe : ok = fun s x => decide (g s ≤ H x)) (hU : U < 2 ^ W) (hS : S ≤ 8) (hW : W ≤ 14) (hH : ∀ j, H j ≤ 40) (hg : ∀ s, g s ≤ 40) (ha : ∀ s, a s < 14) (hw : m 138 6 + nI 10 = nI W) (h9 : m 138 9 = nI S) (h18 : ∀ x, x < W → m 139 (5 + x) + nI 10 = nI (H x)) (h2 : ∀ s, s < S → m 142 s = nI (g s)) (h20 : ∀ s, s < S → m 139 (33 + s) = nI (a s)) (hv : ∀ U', U < U' → U' < 2 ^ W → m 165 U' = nI (MnN S W D ok (S - popR 14 U') U')) (u2 u3 u4 : Option Value) :
    ∃ v2 v3 v4, ∀ (w : Nat → Int64) c, ev sc (d + 2) 279 (pm_blk 279 9) [some (.ref 138), some (.int (nI U)), u2, u3, u4] [] (hp c w m) = ev sc (d + 2) 279 (pm_blk 279 9) [some (.ref 138), some (.int (nI U - nI 1)), v2, v3, v4] [] (hp c w (va_up m 165 (upd (m 165) U (nI (MnN S W D ok (S - popR 14 U) U))))) := by
  have hU14 : U < 2 ^ 14 := Nat.lt_of_lt_of_le hU (Nat.pow_le_pow_right (by decide) hW)
  have hU31 : U < 2 ^ 31 := by omega
  have O := fun h => t_MO_onesOf14 (sc := sc) (d + 1) U hU14 h
  have hpl := popR_le 14 U
  generalize hpe : popR 14 U = p at *
  by_cases hSp : S ≤ p
  · rw [show S - p = 0 by omega, show MnN S W D ok 0 U = 0 from rfl]
    refine ⟨some (.int (nI p)), some (.int (nI 0)), some (.int (nI 0)), fun w c => ?_⟩
    by_cases hw0 : W = 0
    · conv => lhs; rw [bh_MO_findsMoored_9]
      simp (disch := first | assumption | omega | decide | (simp only [ma_wd0, ma_wdi, ma_wdr, ma_wdl, ma_wdn] <;> omega)) only [↓reduceIte, evK, evL, evS, evA, evJ, Option.bind_some, Option.toList, List.cons_append, List.nil_append, nI_add, pk_mul, bI0, ite_not, ev_rbb, up_n, up_s, up_u, pk_us, pk_un, Nat.reduceAdd, nI_ltT, nI_ltF, nI_leT, nI_leF, nI_eqT, nI_eqF, bk_MO_findsMoored, ce_MO_onesOf, O, gfM, h9]
      rw [bh_MO_findsMoored_38]
      simp (disch := first | assumption | omega | decide | (simp only [ma_wd0, ma_wdi, ma_wdr, ma_wdl, ma_wdn] <;> omega)) only [↓reduceIte, evK, evL, evS, evA, evJ, Option.bind_some, Option.toList, List.cons_append, List.nil_append, nI_add, pk_mul, bI0, ite_not, ev_rbb, up_n, up_s, up_u, pk_us, pk_un, Nat.reduceAdd, nI_ltT, nI_ltF, nI_leT, nI_leF, nI_eqT, nI_eqF, bk_MO_findsMoored, ce_MO_wide, t_MO_wide, hw, hw0, gfM, stM, h9, n_a1]
    · conv => lhs; rw [bh_MO_findsMoored_9]
      simp (disch := first | assumption | omega | decide | (simp only [ma_wd0, ma_wdi, ma_wdr, ma_wdl, ma_wdn] <;> omega)) only [↓reduceIte, evK, evL, evS, evA, evJ, Option.bind_some, Option.toList, List.cons_append, List.nil_append, nI_add, pk_mul, bI0, ite_not, ev_rbb, up_n, up_s, up_u, pk_us, pk_un, Nat.reduceAdd, nI_ltT, nI_ltF, nI_leT, nI_leF, nI_eqT, nI_eqF, bk_MO_findsMoored, ce_MO_onesOf, O, gfM, h9]
      rw [bh_MO_findsMoored_38]
      simp (disch := first | assumption | omega | decide | (simp only [ma_wd0, ma_wdi, ma_wdr, ma_wdl, ma_wdn] <;> omega)) only [↓reduceIte, evK, evL, evS, evA, evJ, Option.bind_some, Option.toList, List.cons_append, List.nil_append, nI_add, pk_mul, bI0, ite_not, ev_rbb, up_n, up_s, up_u, pk_us, pk_un, Nat.reduceAdd, nI_ltT, nI_ltF, nI_leT, nI_leF, nI_eqT, nI_eqF, bk_MO_findsMoored, ce_MO_wide, t_MO_wide, hw, gfM, stM, h9, n_a1]
  · obtain ⟨k, hk⟩ : ∃ k, S - p = k + 1 := ⟨S - p - 1, by omega⟩
    have hsp : S - (k + 1) = p := by omega
    have hL := fun (w : Nat → Int64) c => run_loop (fun i h => ev sc (d + 2) 279 (pm_blk 279 38) [some (.ref 138), some (.int (nI U)), some (.int (nI p)), some (.int (nI (mmN D ok (MnN S W D ok k) p U i))), some (.int (nI i))] [] h) (fun i => hp c w m) W (by
      intro i hi
      have hmf := mmN_far (D := D) (ok := ok) (M' := MnN S W D ok k) (s := p) (U := U) i
      have cm := t_MO_canMoor (sc := sc) (m := m) (w := w) (g := g) (H := H) d p i U (by omega) (by omega) hU14 (hH i) (hg p) (h18 i hi) (h2 p (by omega))
      conv => lhs; rw [bh_MO_findsMoored_38]
      by_cases z : g p ≤ H i ∧ U.testBit i = false
      · have hor : U ||| 2 ^ i < 2 ^ W := Nat.or_lt_two_pow hU (p2_lt hi)
        have hvv := hv (U ||| 2 ^ i) (or_less z.2) hor
        rw [pop_or 14 z.2 (by omega), hpe, show S - (p + 1) = k by omega] at hvv
        have hMf := MnN_far (S := S) (W := W) (D := D) (ok := ok) k (U ||| 2 ^ i)
        have mb := t_MO_mooredBy (sc := sc) (m := m) (w := w) (a := a) d p i U (MnN S W D ok k (U ||| 2 ^ i)) (by omega) (by omega) hU14 (ha p) (h20 p (by omega)) hvv
        have hd : dN (a p) i ≤ 14 := by have := ha p; unfold dN; omega
        have es : mmN D ok (MnN S W D ok k) p U (i + 1) = min (mmN D ok (MnN S W D ok k) p U i) (dN (a p) i + MnN S W D ok k (U ||| 2 ^ i)) := by
          have : mmN D ok (MnN S W D ok k) p U (i + 1) = min (mmN D ok (MnN S W D ok k) p U i) (D p i + MnN S W D ok k (U ||| 2 ^ i)) := if_pos ⟨by rw [hoe]; exact decide_eq_true z.1, z.2⟩
          rw [this, hDe]
        rw [es]
        simp (disch := first | assumption | omega | decide | (simp only [ma_wd0, ma_wdi, ma_wdr, ma_wdl, ma_wdn] <;> omega)) only [↓reduceIte, evK, evL, evS, evA, evJ, Option.bind_some, Option.toList, List.cons_append, List.nil_append, nI_add, pk_mul, bI0, ite_not, ev_rbb, up_n, up_s, up_u, pk_us, pk_un, Nat.reduceAdd, nI_ltT, nI_ltF, nI_leT, nI_leF, nI_eqT, nI_eqF, bk_MO_findsMoored, ce_MO_wide, t_MO_wide, hw, gfM, h9, ce_MO_canMoor, cm, z, and_self, not_true_eq_false, ce_MO_mooredBy, mb, ce_MO_lesser, t_MO_lesser, iMn_n]
      · have es : mmN D ok (MnN S W D ok k) p U (i + 1) = mmN D ok (MnN S W D ok k) p U i := if_neg (fun q => z ⟨by rw [hoe] at q; exact of_decide_eq_true q.1, q.2⟩)
        rw [es]
        simp (disch := first | assumption | omega | decide | (simp only [ma_wd0, ma_wdi, ma_wdr, ma_wdl, ma_wdn] <;> omega)) only [↓reduceIte, evK, evL, evS, evA, evJ, Option.bind_some, Option.toList, List.cons_append, List.nil_append, nI_add, pk_mul, bI0, ite_not, ev_rbb, up_n, up_s, up_u, pk_us, pk_un, Nat.reduceAdd, nI_ltT, nI_ltF, nI_leT, nI_leF, nI_eqT, nI_eqF, bk_MO_findsMoored, ce_MO_wide, t_MO_wide, hw, gfM, h9, ce_MO_canMoor, cm, z, not_false_eq_true])
    rw [hk, show MnN S W D ok (k + 1) U = mmN D ok (MnN S W D ok k) p U W by rw [← hsp]; rfl]
    rw [show mmN D ok (MnN S W D ok k) p U 0 = 1000000 from rfl] at hL
    refine ⟨some (.int (nI p)), some (.int (nI (mmN D ok (MnN S W D ok k) p U W))), some (.int (nI W)), fun w c => ?_⟩
    conv => lhs; rw [bh_MO_findsMoored_9]
    simp (disch := first | assumption | omega | decide | (simp only [ma_wd0, ma_wdi, ma_wdr, ma_wdl, ma_wdn] <;> omega)) only [↓reduceIte, evK, evL, evS, evA, evJ, Option.bind_some, Option.toList, List.cons_append, List.nil_append, nI_add, pk_mul, bI0, ite_not, ev_rbb, up_n, up_s, up_u, pk_us, pk_un, Nat.reduceAdd, nI_ltT, nI_ltF, nI_leT, nI_leF, nI_eqT, nI_eqF, bk_MO_findsMoored, ce_MO_onesOf, O, gfM, h9, hL]
    rw [bh_MO_findsMoored_38]
    simp (disch := first | assumption | omega | decide | (simp only [ma_wd0, ma_wdi, ma_wdr, ma_wdl, ma_wdn] <;> omega)) only [↓reduceIte, evK, evL, evS, evA, evJ, Option.bind_some, Option.toList, List.cons_append, List.nil_append, nI_add, pk_mul, bI0, ite_not, ev_rbb, up_n, up_s, up_u, pk_us, pk_un, Nat.reduceAdd, nI_ltT, nI_ltF, nI_leT, nI_leF, nI_eqT, nI_eqF, bk_MO_findsMoored, ce_MO_wide, t_MO_wide, hw, gfM, stM, n_a1]
theorem t_findsMoored (d : Nat) (D : Nat → Nat → Nat) (ok : Nat → Nat → Bool) (hDe : D = fun s x => dN (a s) x) (hoe : ok = fun s x => decide (g s ≤ H x)) (hS : S ≤ 8) (hW : W ≤ 14) (hH : ∀ j, H j ≤ 40) (hg : ∀ s, g s ≤ 40) (ha : ∀ s, a s < 14) (hw : m 138 6 + nI 10 = nI W) (h9 : m 138 9 = nI S) (h18 : ∀ x, x < W → m 139 (5 + x) + nI 10 = nI (H x)) (h2 : ∀ s, s < S → m 142 s = nI (g s)) (h20 : ∀ s, s < S → m 139 (33 + s) = nI (a s)) : ∃ f, (∀ (w : Nat → Int64) c, cc sc (d + 2) 279 [.ref 138] (hp c w m) = some (none, hp c w (va_up m 165 f))) ∧ ∀ U, U < 2 ^ W → f U = nI (MnN S W D ok (S - popR 14 U) U) := by
  have h14 : 2 ^ W ≤ 2 ^ 14 := Nat.pow_le_pow_right (by decide) hW
  have hpos : 1 ≤ 2 ^ W := Nat.one_le_two_pow
  have rcU : ∀ n (f : Nat → Int32) (u2 u3 u4 : Option Value), n ≤ 2 ^ W → (∀ U, n ≤ U → U < 2 ^ W → f U = nI (MnN S W D ok (S - popR 14 U) U)) → ∃ f', (∀ (w : Nat → Int64) c, ev sc (d + 2) 279 (pm_blk 279 9) [some (.ref 138), some (.int (nI n - nI 1)), u2, u3, u4] [] (hp c w (va_up m 165 f)) = some (none, hp c w (va_up m 165 f'))) ∧ ∀ U, U < 2 ^ W → f' U = nI (MnN S W D ok (S - popR 14 U) U) := by
    intro n
    induction n with
    | zero =>
      intro f u2 u3 u4 _ hf
      refine ⟨f, fun w c => ?_, fun U hU => hf U (by omega) hU⟩
      rw [bh_MO_findsMoored_9]
      simp (disch := first | assumption | omega | decide | (simp only [ma_wd0, ma_wdi, ma_wdr, ma_wdl, ma_wdn] <;> omega)) only [↓reduceIte, evK, evL, evS, evA, evJ, Option.bind_some, Option.toList, List.cons_append, List.nil_append, nI_add, pk_mul, bI0, ite_not, ev_rbb, up_n, up_s, up_u, pk_us, pk_un, Nat.reduceAdd, nI_ltT, nI_ltF, nI_leT, nI_leF, nI_eqT, nI_eqF, bk_MO_findsMoored, n_01, n_m1lt]
    | succ n ih =>
      intro f u2 u3 u4 hn hf
      obtain ⟨v2, v3, v4, E⟩ := t_finds_row (sc := sc) (m := va_up m 165 f) (S := S) (W := W) (H := H) (g := g) (a := a) d n D ok hDe hoe (by omega) hS hW hH hg ha hw h9 h18 h2 h20 (fun U' h1 h2 => by rw [up_s]; exact hf U' (by omega) h2) u2 u3 u4
      rw [up_u, up_s] at E
      obtain ⟨f', E2, hf'⟩ := ih (upd f n (nI (MnN S W D ok (S - popR 14 n) n))) v2 v3 v4 (by omega) (fun U h1 h2 => by
        by_cases e : U = n
        · subst e; exact pk_us
        · rw [pk_un e]; exact hf U (by omega) h2)
      refine ⟨f', fun w c => ?_, hf'⟩
      rw [nI_m1]
      exact (E w c).trans (E2 w c)
  obtain ⟨f', E, hf⟩ := rcU (2 ^ W) (m 165) none none none (Nat.le_refl _) (fun U h1 h2 => by omega)
  rw [up_self] at E
  refine ⟨f', fun w c => ?_, hf⟩
  simp (disch := first | assumption | omega | decide | (simp only [ma_wd0, ma_wdi, ma_wdr, ma_wdl, ma_wdn] <;> omega)) only [↓reduceIte, evK, evL, evS, evA, evJ, Option.bind_some, Option.toList, List.cons_append, List.nil_append, nI_add, pk_mul, bI0, ite_not, ev_rbb, up_n, up_s, up_u, pk_us, pk_un, Nat.reduceAdd, nI_ltT, nI_ltF, nI_leT, nI_leF, nI_eqT, nI_eqF, en_MO_findsMoored, ce_MO_wide, t_MO_wide, hw, n_sh, E]
end PU
