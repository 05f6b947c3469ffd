/-! ===== moors: the call ===== -/
section PV
variable {sc : Nat × (Nat → Int32)} {S W : Nat} {c m : Nat → Nat → Int32} {w : Nat → Int64} {H g a : Nat → Nat}
/-- the reference's while -/
theorem t_moor_while (d j U xs Mv : Nat) (y : Int32) (M' : Nat → Nat) (hU : U < 2 ^ W) (hj : j < S) (hS : S ≤ 8) (hW : W ≤ 14) (hH : ∀ j, H j ≤ 40) (hg : ∀ s, g s ≤ 40) (ha : ∀ s, a s < 14) (h18 : ∀ x, x < W → m 139 (5 + x) + nI 10 = nI (H x)) (h2 : ∀ s, s < S → m 142 s = nI (g s)) (h20 : ∀ s, s < S → m 139 (33 + s) = nI (a s)) (hx : xs < W) (hMv : Mv ≤ 1000000) (hM' : ∀ U, M' U ≤ 1000000) (hv : m 165 U = nI Mv) (hv2 : ∀ x, x < W → U.testBit x = false → m 165 (U ||| 2 ^ x) = nI (M' (U ||| 2 ^ x))) (hok : g j ≤ H xs ∧ U.testBit xs = false) (heq : dN (a j) xs + M' (U ||| 2 ^ xs) = Mv) :
    ∀ q x, x + q = xs → (∀ i, x ≤ i → i < xs → ¬ (g j ≤ H i ∧ U.testBit i = false ∧ dN (a j) i + M' (U ||| 2 ^ i) = Mv)) → ∀ c, ev sc (d + 2) 278 (pm_blk 278 75) [some (.ref 138), some (.int y), some (.int (nI U)), some (.int (nI x)), some (.int (nI j))] [] (hp c w m) = ev sc (d + 2) 278 (pm_blk 278 64) [some (.ref 138), some (.int y), some (.int (nI (U ||| 2 ^ xs))), some (.int (nI xs)), some (.int (nI (j + 1)))] [] (hp c w m)
  | 0, x, hq, hi => fun c => by
    have : x = xs := by omega
    subst this
    have hU14 : U < 2 ^ 14 := Nat.lt_of_lt_of_le hU (Nat.pow_le_pow_right (by decide) hW)
    have cm := t_MO_canMoor (sc := sc) (m := m) (w := w) (g := g) (H := H) d j x U (by omega) (by omega) hU14 (hH x) (hg j) (h18 x hx) (h2 j hj)
    have mb := t_MO_mooredBy (sc := sc) (m := m) (w := w) (a := a) d j x U (M' (U ||| 2 ^ x)) (by omega) (by omega) hU14 (ha j) (h20 j hj) (hv2 x hx hok.2)
    rw [heq] at mb
    conv => lhs; rw [bh_MO_moors_75]
    simp (disch := first | assumption | omega | decide | (simp only [ma_wd0, ma_wdi, ma_wdr, ma_wdl, ma_wdn] <;> omega)) only [↓reduceIte, evK, evL, evS, evA, evJ, Option.bind_some, Option.toList, List.cons_append, List.nil_append, nI_add, pk_mul, bI0, ite_not, ev_rbb, up_n, up_s, up_u, pk_us, pk_un, Nat.reduceAdd, nI_ltT, nI_ltF, nI_leT, nI_leF, nI_eqT, nI_eqF, bk_MO_moors, ce_MO_canMoor, cm, hok, and_self, not_true_eq_false, ce_MO_mooredBy, mb, gfM, ldM, hv, n_sh, n_or]
  | q + 1, x, hq, hi => fun c => by
    have ih := t_moor_while d j U xs Mv y M' hU hj hS hW hH hg ha h18 h2 h20 hx hMv hM' hv hv2 hok heq q (x + 1) (by omega) (fun i h1 h2 => hi i (by omega) h2) c
    have hU14 : U < 2 ^ 14 := Nat.lt_of_lt_of_le hU (Nat.pow_le_pow_right (by decide) hW)
    have cm := t_MO_canMoor (sc := sc) (m := m) (w := w) (g := g) (H := H) d j x U (by omega) (by omega) hU14 (hH x) (hg j) (h18 x (by omega)) (h2 j hj)
    conv => lhs; rw [bh_MO_moors_75]
    by_cases z : g j ≤ H x ∧ U.testBit x = false
    · have mb := t_MO_mooredBy (sc := sc) (m := m) (w := w) (a := a) d j x U (M' (U ||| 2 ^ x)) (by omega) (by omega) hU14 (ha j) (h20 j hj) (hv2 x (by omega) z.2)
      have hne : dN (a j) x + M' (U ||| 2 ^ x) ≠ Mv := fun q => hi x (Nat.le_refl _) (by omega) ⟨z.1, z.2, q⟩
      have hb : dN (a j) x + M' (U ||| 2 ^ x) < 2 ^ 31 := by
        have := hM' (U ||| 2 ^ x)
        have := ha j
        unfold dN
        omega
      simp (disch := first | assumption | omega | decide | (simp only [ma_wd0, ma_wdi, ma_wdr, ma_wdl, ma_wdn] <;> omega)) only [↓reduceIte, evK, evL, evS, evA, evJ, Option.bind_some, Option.toList, List.cons_append, List.nil_append, nI_add, pk_mul, bI0, ite_not, ev_rbb, up_n, up_s, up_u, pk_us, pk_un, Nat.reduceAdd, nI_ltT, nI_ltF, nI_leT, nI_leF, nI_eqT, nI_eqF, bk_MO_moors, ce_MO_canMoor, cm, z, and_self, not_true_eq_false, ce_MO_mooredBy, mb, gfM, ldM, hv, ih]
    · simp (disch := first | assumption | omega | decide | (simp only [ma_wd0, ma_wdi, ma_wdr, ma_wdl, ma_wdn] <;> omega)) only [↓reduceIte, evK, evL, evS, evA, evJ, Option.bind_some, Option.toList, List.cons_append, List.nil_append, nI_add, pk_mul, bI0, ite_not, ev_rbb, up_n, up_s, up_u, pk_us, pk_un, Nat.reduceAdd, nI_ltT, nI_ltF, nI_leT, nI_leF, nI_eqT, nI_eqF, bk_MO_moors, ce_MO_canMoor, cm, z, not_false_eq_true, ih]
theorem p_moors (d : Nat) (b : Int32) (h : gR c m) : pubW sc w (d + 20) 35 278 [.int b] c m := by
  obtain ⟨W, S, Q, ls, Z, gg⟩ := h.e
  obtain ⟨t, j, -, -, -⟩ := id gg
  have hw1 := t.1.2.1
  have hW := t.1.2.2.2
  have hW3 := t.1.2.2.1
  have hq0 := h.q0
  obtain ⟨t0, j0, -, -, -⟩ := gg.q0
  generalize hm1 : va_up m 138 (upd (m 138) 0 (nI 0)) = m1 at t0 j0 hq0
  have hw2 := t0.2.1.2.1
  obtain ⟨s1, s2, hS, hd⟩ := t0.2.2.1
  have hZ : ∀ j, j < 14 → nK (Z 0 (5 + j)) < 41 ∧ Z 0 (5 + j) = nI (nK (Z 0 (5 + j))) := fun k hk => by
    obtain ⟨v, hv, e⟩ := nI_ex (n := 40) (j.2.2.1.1 k hk)
    rw [e, nK_nI (by omega)]
    exact ⟨by omega, rfl⟩
  generalize hHd : (fun k => if k < 14 then nK (Z 0 (5 + k)) else 0) = H
  generalize hgd : (fun s => if s < S then nK (c 2 s) else 0) = g
  generalize had : (fun s => if s < S then nK (Z 0 (33 + s)) else 0) = a
  have hH : ∀ k, H k ≤ 40 := fun k => by
    rw [← hHd]
    simp only
    split
    next z => have := (hZ k z).1; omega
    next => omega
  have e1 : ∀ k, k < W → c 18 k = nI (H k) := fun k hk => by
    rw [← hHd]
    simp only
    rw [if_pos (by omega)]
    exact (j.1.2.1 k (by omega)).trans (hZ k (by omega)).2
  have e2 : ∀ k, k < W → m1 139 (5 + k) + nI 10 = nI (H k) := fun k hk => by
    rw [← hHd]
    simp only
    rw [if_pos (by omega)]
    exact (j0.2.1.2.1 k (by omega)).trans (hZ k (by omega)).2
  have hgs : ∀ s, s < S → g s ≤ 40 ∧ c 2 s = nI (g s) ∧ m1 142 s = nI (g s) := fun s hs => by
    obtain ⟨k, hk, k1, k2⟩ := hd s hs
    rw [← hgd]
    simp only
    rw [if_pos hs, k1, nK_nI (by omega)]
    exact ⟨hk, rfl, k2⟩
  have hg : ∀ s, g s ≤ 40 := fun s => by
    by_cases z : s < S
    · exact (hgs s z).1
    · rw [← hgd]; simp only; rw [if_neg z]; omega
  have has : ∀ s, s < S → a s < W ∧ c 20 s = nI (a s) ∧ m1 139 (33 + s) = nI (a s) := fun s hs => by
    obtain ⟨k, hk, e⟩ := j.2.2.1.2.2.1 s hs
    have ea : a s = k := by rw [← had]; simp only; rw [if_pos hs, e, nK_nI (by omega)]
    rw [ea]
    exact ⟨hk, (j.1.2.2.2.1 s hs).trans e, (j0.2.1.2.2.2.1 s hs).trans e⟩
  have ha : ∀ s, a s < 14 := fun s => by
    by_cases z : s < S
    · have := (has s z).1; omega
    · rw [← had]; simp only; rw [if_neg z]; omega
  generalize hDe : (fun s x => dN (a s) x) = D
  generalize hoe : (fun s x => decide (g s ≤ H x)) = ok
  have hD : ∀ s x, x < 14 → D s x ≤ 13 := fun s x hx => by rw [← hDe]; have := ha s; simp only [dN]; omega
  obtain ⟨f, FM, vM⟩ := t_findsMoored (sc := sc) (m := m1) (S := S) (W := W) (H := H) (g := g) (a := a) (d + 17) D ok hDe.symm hoe.symm hS hW hH hg ha hw2 s2 e2 (fun s hs => (hgs s hs).2.2) (fun s hs => (has s hs).2.2)
  have hjk : ∀ f, gR c (va_up m1 165 f) := fun f => hq0.q (fun _ _ => rfl) (fun k hk => up_n _ _ _ _ (by simp only [mE, List.mem_cons, List.not_mem_nil, or_false] at hk; omega)) (fun k hk => by rw [up_n _ _ _ _ (by omega)])
  have h256 : 2 ^ S ≤ 256 := Nat.le_trans (Nat.pow_le_pow_right (by decide) hS) (by decide)
  have hpos : 1 ≤ 2 ^ S := Nat.one_le_two_pow
  have hWpos : 0 < 2 ^ W := Nat.two_pow_pos W
  have v0 := vM 0 hWpos
  rw [popR_0, Nat.sub_zero] at v0
  have hMf := MnN_far (S := S) (W := W) (D := D) (ok := ok) S 0
  have WV := W_V (ok := ok) hS hW hD
  obtain ⟨VM1, VM2⟩ := V_M (ok := ok) hS hW hD S 0 (Nat.le_refl _)
  have dich := MnN_dich (S := S) (ok := ok) hW hD S 0
  have n62 : noW < 2 ^ 63 := by decide
  have CL : ∀ y : Int32, ∃ w' u, w' (2 ^ S - 1) = lN (VnN S W D ok S 0) ∧ ∀ m, ev sc (d + 19) 115 (pm_blk 115 14) [some (.ref 103), some (.int y), some (.int (nI (2 ^ S - 1))), some (.int (nI 0)), none] [] (hp c w m) = ev sc (d + 19) 115 (pm_blk 115 99) [some (.ref 103), some (.int y), some (.int (nI (2 ^ S - 1))), some (.int (nI W)), u] [] (hp c w' m) := fun y => by
    obtain ⟨w', u, p1, p2⟩ := t_ways (sc := sc) (w := w) (S := S) (W := W) (H := H) (g := g) (a := a) (c := c) (d + 17) y D ok hDe.symm hoe.symm hS hW s1 hw1 hH hg ha e1 (fun s hs => (hgs s hs).2.1) (fun s hs => (has s hs).2.1)
    rw [WV] at p1
    exact ⟨w', u, p1, p2⟩
  have BADX : ¬ (nI 10 ≤ b ∧ b ≤ nI (9 + S)) → ¬ b = nI 0 → pubW sc w (d + 20) 35 278 [.int b] c m := fun bb b0 => by
    refine ⟨c, w, m1, -1, fun m0 => ?_, fun c0 w0 => ?_, hq0⟩
    · by_cases q : b < nI 10
      · have hm1n : (nI 0 ≤ (-1 : Int32)) = False := eq_false (by decide +kernel)
        simp (disch := first | assumption | omega | decide | (simp only [ma_wd0, ma_wdi, ma_wdr, ma_wdl, ma_wdn] <;> omega)) only [↓reduceIte, evK, evL, evS, evA, evJ, Option.bind_some, Option.toList, List.cons_append, List.nil_append, nI_add, pk_mul, bI0, ite_not, ev_rbb, up_n, up_s, up_u, pk_us, pk_un, Nat.reduceAdd, nI_ltT, nI_ltF, nI_leT, nI_leF, nI_eqT, nI_eqF, en_LH_moors, bk_LH_moors, gfC, b0, ce_LH_numbered, t_LH_numbered, q, ce_Told_isShip, t_Told_isShip, s1, hm1n, false_and, not_false_eq_true]
      · have hc : ¬ (nI 0 ≤ b - nI 10 ∧ b - nI 10 < nI S) := by
          rintro ⟨z1, z2⟩
          apply bb
          rw [Int32.lt_iff_toInt_lt, nI_toInt (by omega)] at q
          have k1 : (b - nI 10).toInt = b.toInt - 10 := by
            have := Int32.toInt_lt b
            rw [Int32.toInt_sub, nI_toInt (by omega)]
            exact Int.bmod_eq_of_le (by omega) (by omega)
          rw [Int32.lt_iff_toInt_lt, k1, nI_toInt (by omega)] at z2
          simp only [Int32.le_iff_toInt_le]
          rw [nI_toInt (by omega), nI_toInt (by omega)]
          omega
        simp (disch := first | assumption | omega | decide | (simp only [ma_wd0, ma_wdi, ma_wdr, ma_wdl, ma_wdn] <;> omega)) only [↓reduceIte, evK, evL, evS, evA, evJ, Option.bind_some, Option.toList, List.cons_append, List.nil_append, nI_add, pk_mul, bI0, ite_not, ev_rbb, up_n, up_s, up_u, pk_us, pk_un, Nat.reduceAdd, nI_ltT, nI_ltF, nI_leT, nI_leF, nI_eqT, nI_eqF, en_LH_moors, bk_LH_moors, gfC, b0, ce_LH_numbered, t_LH_numbered, q, ce_Told_isShip, t_Told_isShip, s1, hc, not_false_eq_true]
    · simp (disch := first | assumption | omega | decide | (simp only [ma_wd0, ma_wdi, ma_wdr, ma_wdl, ma_wdn] <;> omega)) only [↓reduceIte, evK, evL, evS, evA, evJ, Option.bind_some, Option.toList, List.cons_append, List.nil_append, nI_add, pk_mul, bI0, ite_not, ev_rbb, up_n, up_s, up_u, pk_us, pk_un, Nat.reduceAdd, nI_ltT, nI_ltF, nI_leT, nI_leF, nI_eqT, nI_eqF, en_MO_moors, bk_MO_moors, pfM, hm1, b0, gfM, s2, ce_MO_isIn, t_MO_isIn, bb, not_false_eq_true]
  by_cases hno : MnN S W D ok S 0 = 1000000
  · -- no way
    have hV := VM1 hno
    rw [hno] at v0
    by_cases b0 : b = nI 0
    · subst b0
      obtain ⟨w', u, p1, p2⟩ := CL (-1)
      rw [hV] at p1
      refine ⟨c, w', va_up m1 165 f, -1, fun m0 => ?_, fun c0 w0 => ?_, hjk f⟩
      · have p2 := p2 m0
        simp (disch := first | assumption | omega | decide | (simp only [ma_wd0, ma_wdi, ma_wdr, ma_wdl, ma_wdn] <;> omega)) only [↓reduceIte, evK, evL, evS, evA, evJ, Option.bind_some, Option.toList, List.cons_append, List.nil_append, nI_add, pk_mul, bI0, ite_not, ev_rbb, up_n, up_s, up_u, pk_us, pk_un, Nat.reduceAdd, nI_ltT, nI_ltF, nI_leT, nI_leF, nI_eqT, nI_eqF, en_LH_moors, bk_LH_moors, gfC, ce_Thought_moored, en_Thought_moored, s1, n_sh, pk_sub, p2]
        simp (disch := first | assumption | omega | decide | (simp only [ma_wd0, ma_wdi, ma_wdr, ma_wdl, ma_wdn] <;> omega)) only [↓reduceIte, evK, evL, evS, evA, evJ, Option.bind_some, Option.toList, List.cons_append, List.nil_append, nI_add, pk_mul, bI0, ite_not, ev_rbb, up_n, up_s, up_u, pk_us, pk_un, Nat.reduceAdd, nI_ltT, nI_ltF, nI_leT, nI_leF, nI_eqT, nI_eqF, bk_Thought_moored, gfC, ev_ll, p1, lit62, lcE]
      · have F := FM w0 c0
        simp (disch := first | assumption | omega | decide | (simp only [ma_wd0, ma_wdi, ma_wdr, ma_wdl, ma_wdn] <;> omega)) only [↓reduceIte, evK, evL, evS, evA, evJ, Option.bind_some, Option.toList, List.cons_append, List.nil_append, nI_add, pk_mul, bI0, ite_not, ev_rbb, up_n, up_s, up_u, pk_us, pk_un, Nat.reduceAdd, nI_ltT, nI_ltF, nI_leT, nI_leF, nI_eqT, nI_eqF, en_MO_moors, bk_MO_moors, pfM, hm1, ce_MO_findsMoored, F, gfM, ldM, v0]
    by_cases bb : nI 10 ≤ b ∧ b ≤ nI (9 + S)
    · obtain ⟨k10, hk1, hk2, rfl⟩ := rng (by omega) bb.1 bb.2 (by omega)
      obtain ⟨col, rfl⟩ : ∃ col, k10 = col + 10 := ⟨k10 - 10, by omega⟩
      have ek : nI (col + 10) - nI 10 = nI col := by rw [pk_sub (by omega)]; rfl
      have ek2 : col + 10 - 10 = col := by omega
      obtain ⟨w', u, p1, p2⟩ := CL (nI col)
      rw [hV] at p1
      refine ⟨c, w', va_up m1 165 f, -1, fun m0 => ?_, fun c0 w0 => ?_, hjk f⟩
      · have p2 := p2 m0
        simp (disch := first | assumption | omega | decide | (simp only [ma_wd0, ma_wdi, ma_wdr, ma_wdl, ma_wdn] <;> omega)) only [↓reduceIte, evK, evL, evS, evA, evJ, Option.bind_some, Option.toList, List.cons_append, List.nil_append, nI_add, pk_mul, bI0, ite_not, ev_rbb, up_n, up_s, up_u, pk_us, pk_un, Nat.reduceAdd, nI_ltT, nI_ltF, nI_leT, nI_leF, nI_eqT, nI_eqF, en_LH_moors, bk_LH_moors, gfC, ce_LH_numbered, t_LH_numbered, ek, ek2, ce_Told_isShip, t_Told_isShip, s1, and_self, not_true_eq_false, ce_Thought_moored, en_Thought_moored, n_sh, pk_sub, p2]
        simp (disch := first | assumption | omega | decide | (simp only [ma_wd0, ma_wdi, ma_wdr, ma_wdl, ma_wdn] <;> omega)) only [↓reduceIte, evK, evL, evS, evA, evJ, Option.bind_some, Option.toList, List.cons_append, List.nil_append, nI_add, pk_mul, bI0, ite_not, ev_rbb, up_n, up_s, up_u, pk_us, pk_un, Nat.reduceAdd, nI_ltT, nI_ltF, nI_leT, nI_leF, nI_eqT, nI_eqF, bk_Thought_moored, gfC, ev_ll, p1, lit62, lcE]
      · have F := FM w0 c0
        simp (disch := first | assumption | omega | decide | (simp only [ma_wd0, ma_wdi, ma_wdr, ma_wdl, ma_wdn] <;> omega)) only [↓reduceIte, evK, evL, evS, evA, evJ, Option.bind_some, Option.toList, List.cons_append, List.nil_append, nI_add, pk_mul, bI0, ite_not, ev_rbb, up_n, up_s, up_u, pk_us, pk_un, Nat.reduceAdd, nI_ltT, nI_ltF, nI_leT, nI_leF, nI_eqT, nI_eqF, en_MO_moors, bk_MO_moors, pfM, hm1, gfM, s2, ce_MO_isIn, t_MO_isIn, and_self, not_true_eq_false, ce_MO_findsMoored, F, ldM, v0]
    · exact BADX bb b0
  · -- a way
    obtain ⟨hV, hK⟩ := VM2 hno
    rw [Nat.sub_self] at hK
    have hMs := dich.resolve_left hno
    have hK2 : KnN S W D ok S 0 < 4294967296 := Nat.lt_of_lt_of_le hK (by decide)
    have hVlt : VnN S W D ok S 0 < 2 ^ 62 := by rw [hV]; omega
    have hVno : VnN S W D ok S 0 ≠ noW := fun q => by rw [q] at hVlt; exact absurd hVlt (by decide)
    by_cases b0 : b = nI 0
    · subst b0
      obtain ⟨w', u, p1, p2⟩ := CL (-1)
      have e32 : VnN S W D ok S 0 / 2 ^ 32 = MnN S W D ok S 0 := by
        rw [hV, show (2 : Nat) ^ 32 = 4294967296 by decide]
        omega
      refine ⟨c, w', va_up m1 165 f, nI (MnN S W D ok S 0), fun m0 => ?_, fun c0 w0 => ?_, hjk f⟩
      · have p2 := p2 m0
        simp (disch := first | assumption | omega | decide | (simp only [ma_wd0, ma_wdi, ma_wdr, ma_wdl, ma_wdn] <;> omega)) only [↓reduceIte, evK, evL, evS, evA, evJ, Option.bind_some, Option.toList, List.cons_append, List.nil_append, nI_add, pk_mul, bI0, ite_not, ev_rbb, up_n, up_s, up_u, pk_us, pk_un, Nat.reduceAdd, nI_ltT, nI_ltF, nI_leT, nI_leF, nI_eqT, nI_eqF, en_LH_moors, bk_LH_moors, gfC, ce_Thought_moored, en_Thought_moored, s1, n_sh, pk_sub, p2]
        have lc : (lg_cmp (lN (VnN S W D ok S 0)) (lN noW) = nI 0) = False := by rw [lcE (by omega) n62]; exact eq_false hVno
        have sh := l_shr (k := 32) (by omega) hVlt
        rw [e32] at sh
        simp (disch := first | assumption | omega | decide | (simp only [ma_wd0, ma_wdi, ma_wdr, ma_wdl, ma_wdn] <;> omega)) only [↓reduceIte, evK, evL, evS, evA, evJ, Option.bind_some, Option.toList, List.cons_append, List.nil_append, nI_add, pk_mul, bI0, ite_not, ev_rbb, up_n, up_s, up_u, pk_us, pk_un, Nat.reduceAdd, nI_ltT, nI_ltF, nI_leT, nI_leF, nI_eqT, nI_eqF, bk_Thought_moored, gfC, ev_ll, p1, lit62, lc, sh, lN_i]
      · have F := FM w0 c0
        simp (disch := first | assumption | omega | decide | (simp only [ma_wd0, ma_wdi, ma_wdr, ma_wdl, ma_wdn] <;> omega)) only [↓reduceIte, evK, evL, evS, evA, evJ, Option.bind_some, Option.toList, List.cons_append, List.nil_append, nI_add, pk_mul, bI0, ite_not, ev_rbb, up_n, up_s, up_u, pk_us, pk_un, Nat.reduceAdd, nI_ltT, nI_ltF, nI_leT, nI_leF, nI_eqT, nI_eqF, en_MO_moors, bk_MO_moors, pfM, hm1, ce_MO_findsMoored, F, gfM, ldM, v0]
    by_cases bb : nI 10 ≤ b ∧ b ≤ nI (9 + S)
    · obtain ⟨k10, hk1, hk2, rfl⟩ := rng (by omega) bb.1 bb.2 (by omega)
      obtain ⟨col, rfl⟩ : ∃ col, k10 = col + 10 := ⟨k10 - 10, by omega⟩
      have ek : nI (col + 10) - nI 10 = nI col := by rw [pk_sub (by omega)]; rfl
      have ek2 : col + 10 - 10 = col := by omega
      obtain ⟨w', u, p1, p2⟩ := CL (nI col)
      obtain ⟨nib, hcW⟩ := V_nib (ok := ok) hS hW hD hno (show col < S by omega)
      -- the reference's way
      have R : ∀ n, n ≤ col + 1 → uFN S W D ok n < 2 ^ W ∧ popR 14 (uFN S W D ok n) = n ∧ ∃ at' : Int32, (∀ j, n = j + 1 → at' = nI (cFN S W D ok j)) ∧ ∀ c0 w0, ev sc (d + 20) 278 (pm_blk 278 64) [some (.ref 138), some (.int (nI (col + 10))), some (.int (nI 0)), some (.int (-1)), some (.int (nI 0))] [] (hp c0 w0 (va_up m1 165 f)) = ev sc (d + 20) 278 (pm_blk 278 64) [some (.ref 138), some (.int (nI (col + 10))), some (.int (nI (uFN S W D ok n))), some (.int at'), some (.int (nI n))] [] (hp c0 w0 (va_up m1 165 f)) := by
        intro n
        induction n with
        | zero => intro _; exact ⟨hWpos, popR_0 14, -1, fun j hj => by omega, fun c0 w0 => rfl⟩
        | succ n ih =>
          intro hn
          obtain ⟨i1, i2, at', -, i4⟩ := ih (by omega)
          have hne := path_ne (ok := ok) hW hS hD hno n (by omega)
          obtain ⟨k, hk⟩ : ∃ k, S - n = k + 1 := ⟨S - n - 1, by omega⟩
          have hk2 : S - (n + 1) = k := by omega
          have hk3 : S - (k + 1) = n := by omega
          rw [hk] at hne
          obtain ⟨x1, x2, x3, x4, x5⟩ := xsN_spec hne
          have eU : uFN S W D ok (n + 1) = uFN S W D ok n ||| 2 ^ xsN S W D ok k (uFN S W D ok n) := by
            show uFN S W D ok n ||| 2 ^ xsN S W D ok (S - (n + 1)) (uFN S W D ok n) = _
            rw [hk2]
          have eC : cFN S W D ok n = xsN S W D ok k (uFN S W D ok n) := by unfold cFN; rw [hk2]
          have hxp : ∀ i, xpN S W D ok k (uFN S W D ok n) i = decide (ok n i = true ∧ (uFN S W D ok n).testBit i = false ∧ D n i + MnN S W D ok k (uFN S W D ok n ||| 2 ^ i) = MnN S W D ok (k + 1) (uFN S W D ok n)) := fun i => by unfold xpN; rw [hk3]
          rw [hk3] at x2 x4
          rw [eU]
          have hvU := vM (uFN S W D ok n) i1
          rw [i2, hk] at hvU
          generalize xsN S W D ok k (uFN S W D ok n) = xs at *
          generalize hUe : uFN S W D ok n = U at *
          have hU14 : U < 2 ^ 14 := Nat.lt_of_lt_of_le i1 (Nat.pow_le_pow_right (by decide) hW)
          have okx : ∀ i, ok n i = true ↔ g n ≤ H i := fun i => by rw [← hoe]; exact decide_eq_true_iff
          have Dx : ∀ i, D n i = dN (a n) i := fun i => by rw [← hDe]
          have WH := fun w0 => t_moor_while (sc := sc) (m := va_up m1 165 f) (w := w0) (S := S) (W := W) (H := H) (g := g) (a := a) (d + 18) n U xs (MnN S W D ok (k + 1) U) (nI (col + 10)) (MnN S W D ok k) i1 (by omega) hS hW hH hg ha (fun x hx => by rw [up_n _ _ _ _ (by omega)]; exact e2 x hx) (fun s hs => by rw [up_n _ _ _ _ (by omega)]; exact (hgs s hs).2.2) (fun s hs => by rw [up_n _ _ _ _ (by omega)]; exact (has s hs).2.2) x1 (MnN_far _ _) (MnN_far k) (by rw [up_s]; exact hvU) (fun x hx hb => by
              rw [up_s, vM (U ||| 2 ^ x) (Nat.or_lt_two_pow i1 (p2_lt hx)), pop_or 14 hb (by omega), i2, hk2]) ⟨(okx xs).mp x2, x3⟩ (by rw [← Dx]; exact x4) xs 0 (by omega) (fun i _ hi q => by
              have := x5 i hi
              rw [hxp, decide_eq_false_iff_not] at this
              exact this ⟨(okx i).mpr q.1, q.2.1, by rw [Dx]; exact q.2.2⟩)
          refine ⟨Nat.or_lt_two_pow i1 (p2_lt x1), by rw [pop_or 14 x3 (by omega), i2], nI xs, fun j hj => by
            have : j = n := by omega
            subst this
            rw [eC], fun c0 w0 => (i4 c0 w0).trans ?_⟩
          have WH := WH w0 c0
          conv => lhs; rw [bh_MO_moors_64]
          simp (disch := first | assumption | omega | decide | (simp only [ma_wd0, ma_wdi, ma_wdr, ma_wdl, ma_wdn] <;> omega)) only [↓reduceIte, evK, evL, evS, evA, evJ, Option.bind_some, Option.toList, List.cons_append, List.nil_append, nI_add, pk_mul, bI0, ite_not, ev_rbb, up_n, up_s, up_u, pk_us, pk_un, Nat.reduceAdd, nI_ltT, nI_ltF, nI_leT, nI_leF, nI_eqT, nI_eqF, ek, ek2, WH]
      obtain ⟨-, -, at', hat, R⟩ := R (col + 1) (Nat.le_refl _)
      have hat := hat col rfl
      subst hat
      refine ⟨c, w', va_up m1 165 f, nI (cFN S W D ok col), fun m0 => ?_, fun c0 w0 => ?_, hjk f⟩
      · have p2 := p2 m0
        simp (disch := first | assumption | omega | decide | (simp only [ma_wd0, ma_wdi, ma_wdr, ma_wdl, ma_wdn] <;> omega)) only [↓reduceIte, evK, evL, evS, evA, evJ, Option.bind_some, Option.toList, List.cons_append, List.nil_append, nI_add, pk_mul, bI0, ite_not, ev_rbb, up_n, up_s, up_u, pk_us, pk_un, Nat.reduceAdd, nI_ltT, nI_ltF, nI_leT, nI_leF, nI_eqT, nI_eqF, en_LH_moors, bk_LH_moors, gfC, ce_LH_numbered, t_LH_numbered, ek, ek2, ce_Told_isShip, t_Told_isShip, s1, and_self, not_true_eq_false, ce_Thought_moored, en_Thought_moored, n_sh, pk_sub, p2]
        have lc : (lg_cmp (lN (VnN S W D ok S 0)) (lN noW) = nI 0) = False := by rw [lcE (by omega) n62]; exact eq_false hVno
        have sh := l_shr (k := 4 * (7 - col)) (by omega) hVlt
        rw [p16] at sh
        have hdl : VnN S W D ok S 0 / 16 ^ (7 - col) < 2 ^ 64 := Nat.lt_of_le_of_lt (Nat.div_le_self _ _) (by omega)
        have mk := wb_m15 hdl
        rw [nib] at mk
        simp (disch := first | assumption | omega | decide | (simp only [ma_wd0, ma_wdi, ma_wdr, ma_wdl, ma_wdn] <;> omega)) only [↓reduceIte, evK, evL, evS, evA, evJ, Option.bind_some, Option.toList, List.cons_append, List.nil_append, nI_add, pk_mul, bI0, ite_not, ev_rbb, up_n, up_s, up_u, pk_us, pk_un, Nat.reduceAdd, nI_ltT, nI_ltF, nI_leT, nI_leF, nI_eqT, nI_eqF, bk_Thought_moored, gfC, ev_ll, p1, lit62, lc, nI_m1ne, ce_Thought_shiftOf, en_Thought_shiftOf, pk_sub, sh, lit15, mk, lN_i]
      · have F := FM w0 c0
        have R := R c0 w0
        simp (disch := first | assumption | omega | decide | (simp only [ma_wd0, ma_wdi, ma_wdr, ma_wdl, ma_wdn] <;> omega)) only [↓reduceIte, evK, evL, evS, evA, evJ, Option.bind_some, Option.toList, List.cons_append, List.nil_append, nI_add, pk_mul, bI0, ite_not, ev_rbb, up_n, up_s, up_u, pk_us, pk_un, Nat.reduceAdd, nI_ltT, nI_ltF, nI_leT, nI_leF, nI_eqT, nI_eqF, en_MO_moors, bk_MO_moors, pfM, hm1, gfM, s2, ce_MO_isIn, t_MO_isIn, and_self, not_true_eq_false, ce_MO_findsMoored, F, ldM, v0, R]
        rw [bh_MO_moors_64]
        simp (disch := first | assumption | omega | decide | (simp only [ma_wd0, ma_wdi, ma_wdr, ma_wdl, ma_wdn] <;> omega)) only [↓reduceIte, evK, evL, evS, evA, evJ, Option.bind_some, Option.toList, List.cons_append, List.nil_append, nI_add, pk_mul, bI0, ite_not, ev_rbb, up_n, up_s, up_u, pk_us, pk_un, Nat.reduceAdd, nI_ltT, nI_ltF, nI_leT, nI_leF, nI_eqT, nI_eqF, bk_MO_moors, ek, ek2]
    · exact BADX bb b0
end PV
