/-! ===== raise, lift, mend, hours, undo, look, shipOf, book, of, sun, costs ===== -/
theorem kR17 {c m : Nat → Nat → Int32} : kR 17 c m := fun z => absurd z (by omega)
def gQ (W S Q : Nat) (ls : List lL) (c m Z : Nat → Nat → Int32) : Prop := tR W S Q ls c m ∧ jR 17 W S c m Z ∧ pR W S c m ∧ iR c m ∧ xR c m
theorem gQ.g {W S Q : Nat} {ls : List lL} {c m Z : Nat → Nat → Int32} (h : gQ W S Q ls c m Z) : gR c m := ⟨W, S, Q, ls, h.1, ⟨Z, h.2.1⟩, h.2.2.1, h.2.2.2.1, h.2.2.2.2⟩
theorem gQ.fr {W S Q : Nat} {ls : List lL} {c m c' m' Z Z' : Nat → Nat → Int32} (h : gQ W S Q ls c m Z) (hj : jR 17 W S c' m' Z') (hF : FR 17 c m c' m') : gQ W S Q ls c' m' Z' := by
  obtain ⟨t, j, p, i, x⟩ := h
  have f1 : ∀ k, k ∉ FX 17 → c' k = c k := hF.1
  have f2 : ∀ k, k ∉ FY → m' k = m k := hF.2.2.1
  have f3 := hF.2.2.2
  simp only [FX, List.mem_cons, List.not_mem_nil, or_false, not_or] at f1
  simp only [FY, List.mem_cons, List.not_mem_nil, or_false, not_or] at f2
  refine ⟨t.FR (Or.inl rfl) hF, hj, p.eq (fun k a b => f1 k (by omega)) (f2 140 (by omega)) (f3 3 (by omega) (by omega)), i.eq (by rw [f1 0 (by omega)]) (fun k a b => f1 k (by omega)) (f2 _ (by omega)) (f3 _ (by omega) (by omega)), x.eq (by rw [f1 79 (by omega)]) (by rw [f1 79 (by omega)]) (by rw [f1 79 (by omega)]) (f1 80 (by omega)) (f3 _ (by omega) (by omega)) (f3 _ (by omega) (by omega)) (f3 _ (by omega) (by omega)) (f2 _ (by omega)) (f2 _ (by omega))⟩
theorem gQ.q0 {W S Q : Nat} {ls : List lL} {c m Z : Nat → Nat → Int32} (h : gQ W S Q ls c m Z) : gQ W S Q ls c (va_up m 138 (upd (m 138) 0 (nI 0))) Z := by
  obtain ⟨t, j, p, i, x⟩ := h
  refine ⟨t.eq (fun _ _ => rfl) (fun k hk => up_n _ _ _ _ ?_) (fun k hk => m0_q ?_), j.eq (fun _ _ _ => rfl) rfl (up_n _ _ _ _ (by omega)) (up_n _ _ _ _ (by omega)) (m0_q (by omega)), p.eq (fun _ _ _ => rfl) (up_n _ _ _ _ (by omega)) (m0_q (by omega)), i.eq rfl (fun _ _ _ => rfl) (up_n _ _ _ _ (by omega)) (m0_q (by omega)), x.eq rfl rfl rfl rfl (m0_q (by omega)) (m0_q (by omega)) (m0_q (by omega)) (up_n _ _ _ _ (by omega)) (up_n _ _ _ _ (by omega))⟩
  · simp only [tRm, List.mem_cons, List.not_mem_nil, or_false] at hk; omega
  · simp only [tRf, List.mem_cons, List.not_mem_nil, or_false] at hk; omega
section P2
variable {sc : Nat × (Nat → Int32)} {W S Q : Nat} {ls : List lL} {c m Z : Nat → Nat → Int32} {w : Nat → Int64}
theorem g_keep (d : Nat) (h : gQ W S Q ls c m Z) : ∃ c' m', (∀ m0, cc sc (d + 10) 69 [.ref 47, .ref 17] (hp c w m0) = some (none, hp c' w m0)) ∧ (∀ c0, cc sc (d + 10) 209 [.ref 138] (hp c0 w m) = some (none, hp c0 w m')) ∧ gQ W S Q ls c' m' Z ∧ c' 96 = c 96 := by
  obtain ⟨t, j, p, i, x⟩ := h
  obtain ⟨c', m', r1, r2, hp', f1, f2, f3⟩ := j_keep (sc := sc) (w := w) d p j t.2.2.1.2.2.1
  have f1' : ∀ k, k < 47 ∨ 78 < k → c' k = c k := fun k hk => f1 k (KX_not hk)
  have f2' : ∀ k, k ≠ 138 → k ≠ 140 → m' k = m k := fun k a b => f2 k (by simp only [List.mem_cons, List.not_mem_nil, or_false]; omega)
  refine ⟨c', m', r1, r2, ⟨t.eq (fun k hk => f1' k ?_) (fun k hk => f2' k ?_ ?_) (fun k hk => f3 k ?_), j.eq (fun k a b => f1' k (by omega)) (f1' _ (by omega)) (f2' _ (by omega) (by omega)) (f2' _ (by omega) (by omega)) (f3 _ (by omega)), hp', i.eq (by rw [f1' 0 (by omega)]) (fun k a b => f1' k (by omega)) (f2' _ (by omega) (by omega)) (f3 _ (by omega)), x.eq (by rw [f1' 79 (by omega)]) (by rw [f1' 79 (by omega)]) (by rw [f1' 79 (by omega)]) (f1' _ (by omega)) (f3 _ (by omega)) (f3 _ (by omega)) (f3 _ (by omega)) (f2' _ (by omega) (by omega)) (f2' _ (by omega) (by omega))⟩, f1' _ (by omega)⟩
  · simp only [tRc, List.mem_cons, List.not_mem_nil, or_false] at hk; omega
  · simp only [tRm, List.mem_cons, List.not_mem_nil, or_false] at hk; omega
  · simp only [tRm, List.mem_cons, List.not_mem_nil, or_false] at hk; omega
  · simp only [tRf, List.mem_cons, List.not_mem_nil, or_false] at hk; omega
theorem gR.e {c m : Nat → Nat → Int32} (h : gR c m) : ∃ W S Q ls Z, gQ W S Q ls c m Z := by
  obtain ⟨W, S, Q, ls, t, ⟨Z, j⟩, p, i, x⟩ := h
  exact ⟨W, S, Q, ls, Z, t, j, p, i, x⟩
theorem p_raise (d : Nat) (a b : Int32) (h : gR c m) : pub sc w (d + 20) 9 208 [.int a, .int b] c m := by
  obtain ⟨W, S, Q, ls, Z, g⟩ := h.e
  have hw1 := g.1.1.2.1
  have hw2 := g.1.2.1.2.1
  have hW := g.1.1.2.2.2
  by_cases h1 : nI 0 ≤ a ∧ a < nI W
  · obtain ⟨ka, hka, rfl⟩ := rngl (by omega) h1.1 h1.2
    by_cases h2 : nI 0 ≤ b ∧ b ≤ nI 40
    · obtain ⟨kb, -, hkb, rfl⟩ := rng (by omega) h2.1 h2.2 (by omega)
      obtain ⟨c1, m1, k1, k2, g1, -⟩ := g_keep (sc := sc) (w := w) (d + 9) g.q0
      obtain ⟨v, c2, m2, s1, s2, Z2, j2, -, f2, -⟩ := j_set (sc := sc) (w := w) (d + 10) ka (nI kb) g1.1 g1.2.1 kR17 hka (by rw [nI_toInt (by omega)]; omega)
      have g2 := g1.fr j2 f2
      have z1 : c2 18 ka = Z2 0 (5 + ka) := j2.1.2.1 ka (by omega)
      have z2 : m2 139 (5 + ka) + nI 10 = Z2 0 (5 + ka) := j2.2.1.2.1 ka (by omega)
      simp only [wkA17] at s1
      refine ⟨c2, m2, Z2 0 (5 + ka), fun m0 => ?_, fun c0 => ?_, g2.g⟩
      · simp (disch := first | assumption | omega | decide | (simp only [ma_wd0, ma_wdi, ma_wdr, ma_wdl, ma_wdn] <;> omega)) only [↓reduceIte, evK, evL, evS, evA, evJ, Option.bind_some, Option.toList, List.cons_append, List.nil_append, nI_add, pk_mul, bI0, ite_not, ev_rbb, up_n, up_s, up_u, pk_us, pk_un, Nat.reduceAdd, nI_ltT, nI_ltF, nI_leT, nI_leF, nI_eqT, nI_eqF, en_LH_raise, bk_LH_raise, gfC, ldC, ce_Told_isColumn, t_Told_isColumn, hw1, h1, h2, and_self, not_true_eq_false, ce_LH_within, t_LH_within, ce_Past_keep, k1, ce_Works_setColumn, s1, z1]
      · simp (disch := first | assumption | omega | decide | (simp only [ma_wd0, ma_wdi, ma_wdr, ma_wdl, ma_wdn] <;> omega)) only [↓reduceIte, evK, evL, evS, evA, evJ, Option.bind_some, Option.toList, List.cons_append, List.nil_append, nI_add, pk_mul, bI0, ite_not, ev_rbb, up_n, up_s, up_u, pk_us, pk_un, Nat.reduceAdd, nI_ltT, nI_ltF, nI_leT, nI_leF, nI_eqT, nI_eqF, en_MO_raise, bk_MO_raise, pfM, ce_MO_isColumn, t_MO_isColumn, hw2, h1, h2, and_self, not_true_eq_false, ce_MO_isIn, t_MO_isIn, ce_MO_keepsAhead, k2, ce_MO_sets, s2, ce_MO_heightOf, t_MO_heightOf, z2]
    · refine ⟨c, _, -1, fun m0 => ?_, fun c0 => ?_, h.q0⟩
      · simp (disch := first | assumption | omega | decide | (simp only [ma_wd0, ma_wdi, ma_wdr, ma_wdl, ma_wdn] <;> omega)) only [↓reduceIte, evK, evL, evS, evA, evJ, Option.bind_some, Option.toList, List.cons_append, List.nil_append, nI_add, pk_mul, bI0, ite_not, ev_rbb, up_n, up_s, up_u, pk_us, pk_un, Nat.reduceAdd, nI_ltT, nI_ltF, nI_leT, nI_leF, nI_eqT, nI_eqF, en_LH_raise, bk_LH_raise, gfC, ce_Told_isColumn, t_Told_isColumn, hw1, h1, h2, and_self, not_true_eq_false, not_false_eq_true, ce_LH_within, t_LH_within]
      · simp (disch := first | assumption | omega | decide | (simp only [ma_wd0, ma_wdi, ma_wdr, ma_wdl, ma_wdn] <;> omega)) only [↓reduceIte, evK, evL, evS, evA, evJ, Option.bind_some, Option.toList, List.cons_append, List.nil_append, nI_add, pk_mul, bI0, ite_not, ev_rbb, up_n, up_s, up_u, pk_us, pk_un, Nat.reduceAdd, nI_ltT, nI_ltF, nI_leT, nI_leF, nI_eqT, nI_eqF, en_MO_raise, bk_MO_raise, pfM, ce_MO_isColumn, t_MO_isColumn, hw2, h1, h2, and_self, not_true_eq_false, not_false_eq_true, ce_MO_isIn, t_MO_isIn]
  · refine ⟨c, _, -1, fun m0 => ?_, fun c0 => ?_, h.q0⟩
    · simp (disch := first | assumption | omega | decide | (simp only [ma_wd0, ma_wdi, ma_wdr, ma_wdl, ma_wdn] <;> omega)) only [↓reduceIte, evK, evL, evS, evA, evJ, Option.bind_some, Option.toList, List.cons_append, List.nil_append, nI_add, pk_mul, bI0, ite_not, ev_rbb, up_n, up_s, up_u, pk_us, pk_un, Nat.reduceAdd, nI_ltT, nI_ltF, nI_leT, nI_leF, nI_eqT, nI_eqF, en_LH_raise, bk_LH_raise, gfC, ce_Told_isColumn, t_Told_isColumn, hw1, h1, and_self, not_true_eq_false, not_false_eq_true, ce_LH_within, t_LH_within]
    · simp (disch := first | assumption | omega | decide | (simp only [ma_wd0, ma_wdi, ma_wdr, ma_wdl, ma_wdn] <;> omega)) only [↓reduceIte, evK, evL, evS, evA, evJ, Option.bind_some, Option.toList, List.cons_append, List.nil_append, nI_add, pk_mul, bI0, ite_not, ev_rbb, up_n, up_s, up_u, pk_us, pk_un, Nat.reduceAdd, nI_ltT, nI_ltF, nI_leT, nI_leF, nI_eqT, nI_eqF, en_MO_raise, bk_MO_raise, pfM, ce_MO_isColumn, t_MO_isColumn, hw2, h1, and_self, not_true_eq_false, not_false_eq_true, ce_MO_isIn, t_MO_isIn]
theorem p_lift (d : Nat) (a : Int32) (h : gR c m) : pub sc w (d + 20) 11 225 [.int a] c m := by
  obtain ⟨W, S, Q, ls, Z, g⟩ := h.e
  by_cases h0 : a = nI 0
  · subst h0
    have h2 : (-20 ≤ nI 0 ∧ nI 0 ≤ nI 20) := by decide +kernel
    refine ⟨c, _, -1, fun m0 => ?_, fun c0 => ?_, h.q0⟩
    · simp (disch := first | assumption | omega | decide | (simp only [ma_wd0, ma_wdi, ma_wdr, ma_wdl, ma_wdn] <;> omega)) only [↓reduceIte, evK, evL, evS, evA, evJ, Option.bind_some, Option.toList, List.cons_append, List.nil_append, nI_add, pk_mul, bI0, ite_not, ev_rbb, up_n, up_s, up_u, pk_us, pk_un, Nat.reduceAdd, nI_ltT, nI_ltF, nI_leT, nI_leF, nI_eqT, nI_eqF, en_LH_lift, bk_LH_lift]
    · simp (disch := first | assumption | omega | decide | (simp only [ma_wd0, ma_wdi, ma_wdr, ma_wdl, ma_wdn] <;> omega)) only [↓reduceIte, evK, evL, evS, evA, evJ, Option.bind_some, Option.toList, List.cons_append, List.nil_append, nI_add, pk_mul, bI0, ite_not, ev_rbb, up_n, up_s, up_u, pk_us, pk_un, Nat.reduceAdd, nI_ltT, nI_ltF, nI_leT, nI_leF, nI_eqT, nI_eqF, en_MO_lift, bk_MO_lift, pfM, ce_MO_isIn, t_MO_isIn, h2, not_true_eq_false, and_self]
  · by_cases h2 : -20 ≤ a ∧ a ≤ nI 20
    · obtain ⟨c1, m1, k1, k2, g1, -⟩ := g_keep (sc := sc) (w := w) (d + 9) g.q0
      obtain ⟨v, c2, m2, s1, s2, Z2, j2, -, f2, -⟩ := j_move (sc := sc) (w := w) (d + 9) a g1.1 g1.2.1 kR17
      have g2 := g1.fr j2 f2
      simp only [wkA17] at s1
      refine ⟨c2, m2, v, fun m0 => ?_, fun c0 => ?_, g2.g⟩
      · simp (disch := first | assumption | omega | decide | (simp only [ma_wd0, ma_wdi, ma_wdr, ma_wdl, ma_wdn] <;> omega)) only [↓reduceIte, evK, evL, evS, evA, evJ, Option.bind_some, Option.toList, List.cons_append, List.nil_append, nI_add, pk_mul, bI0, ite_not, ev_rbb, up_n, up_s, up_u, pk_us, pk_un, Nat.reduceAdd, nI_ltT, nI_ltF, nI_leT, nI_leF, nI_eqT, nI_eqF, en_LH_lift, bk_LH_lift, gfC, h0, h2, not_true_eq_false, and_self, ce_LH_within, t_LH_within, ce_Past_keep, k1, ce_Works_moveAll, s1]
      · simp (disch := first | assumption | omega | decide | (simp only [ma_wd0, ma_wdi, ma_wdr, ma_wdl, ma_wdn] <;> omega)) only [↓reduceIte, evK, evL, evS, evA, evJ, Option.bind_some, Option.toList, List.cons_append, List.nil_append, nI_add, pk_mul, bI0, ite_not, ev_rbb, up_n, up_s, up_u, pk_us, pk_un, Nat.reduceAdd, nI_ltT, nI_ltF, nI_leT, nI_leF, nI_eqT, nI_eqF, en_MO_lift, bk_MO_lift, pfM, h0, h2, not_true_eq_false, and_self, ce_MO_isIn, t_MO_isIn, ce_MO_keepsAhead, k2, ce_MO_lifts, s2]
    · refine ⟨c, _, -1, fun m0 => ?_, fun c0 => ?_, h.q0⟩
      · simp (disch := first | assumption | omega | decide | (simp only [ma_wd0, ma_wdi, ma_wdr, ma_wdl, ma_wdn] <;> omega)) only [↓reduceIte, evK, evL, evS, evA, evJ, Option.bind_some, Option.toList, List.cons_append, List.nil_append, nI_add, pk_mul, bI0, ite_not, ev_rbb, up_n, up_s, up_u, pk_us, pk_un, Nat.reduceAdd, nI_ltT, nI_ltF, nI_leT, nI_leF, nI_eqT, nI_eqF, en_LH_lift, bk_LH_lift, gfC, h0, h2, not_false_eq_true, ce_LH_within, t_LH_within]
      · simp (disch := first | assumption | omega | decide | (simp only [ma_wd0, ma_wdi, ma_wdr, ma_wdl, ma_wdn] <;> omega)) only [↓reduceIte, evK, evL, evS, evA, evJ, Option.bind_some, Option.toList, List.cons_append, List.nil_append, nI_add, pk_mul, bI0, ite_not, ev_rbb, up_n, up_s, up_u, pk_us, pk_un, Nat.reduceAdd, nI_ltT, nI_ltF, nI_leT, nI_leF, nI_eqT, nI_eqF, en_MO_lift, bk_MO_lift, pfM, h0, h2, not_false_eq_true, ce_MO_isIn, t_MO_isIn]
theorem p_mend (d : Nat) (a : Int32) (h : gR c m) : pub sc w (d + 20) 12 227 [.int a] c m := by
  obtain ⟨W, S, Q, ls, Z, g⟩ := h.e
  have hw1 := g.1.1.2.1
  have hw2 := g.1.2.1.2.1
  have hW := g.1.1.2.2.2
  by_cases h1 : nI 0 ≤ a ∧ a < nI W
  · obtain ⟨ka, hka, rfl⟩ := rngl (by omega) h1.1 h1.2
    obtain ⟨c1, m1, k1, k2, g1, -⟩ := g_keep (sc := sc) (w := w) (d + 9) g.q0
    obtain ⟨v, c2, m2, s1, s2, Z2, j2, -, f2, -⟩ := j_mend (sc := sc) (w := w) (d + 10) ka g1.1 g1.2.1 kR17 hka
    have g2 := g1.fr j2 f2
    simp only [wkA17] at s1
    refine ⟨c2, m2, v, fun m0 => ?_, fun c0 => ?_, g2.g⟩
    · simp (disch := first | assumption | omega | decide | (simp only [ma_wd0, ma_wdi, ma_wdr, ma_wdl, ma_wdn] <;> omega)) only [↓reduceIte, evK, evL, evS, evA, evJ, Option.bind_some, Option.toList, List.cons_append, List.nil_append, nI_add, pk_mul, bI0, ite_not, ev_rbb, up_n, up_s, up_u, pk_us, pk_un, Nat.reduceAdd, nI_ltT, nI_ltF, nI_leT, nI_leF, nI_eqT, nI_eqF, en_LH_mend, bk_LH_mend, gfC, ce_Told_isColumn, t_Told_isColumn, hw1, h1, and_self, not_true_eq_false, ce_Past_keep, k1, ce_Works_mendColumn, s1]
    · simp (disch := first | assumption | omega | decide | (simp only [ma_wd0, ma_wdi, ma_wdr, ma_wdl, ma_wdn] <;> omega)) only [↓reduceIte, evK, evL, evS, evA, evJ, Option.bind_some, Option.toList, List.cons_append, List.nil_append, nI_add, pk_mul, bI0, ite_not, ev_rbb, up_n, up_s, up_u, pk_us, pk_un, Nat.reduceAdd, nI_ltT, nI_ltF, nI_leT, nI_leF, nI_eqT, nI_eqF, en_MO_mend, bk_MO_mend, pfM, ce_MO_isColumn, t_MO_isColumn, hw2, h1, and_self, not_true_eq_false, ce_MO_keepsAhead, k2, ce_MO_mends, s2]
  · refine ⟨c, _, -1, fun m0 => ?_, fun c0 => ?_, h.q0⟩
    · simp (disch := first | assumption | omega | decide | (simp only [ma_wd0, ma_wdi, ma_wdr, ma_wdl, ma_wdn] <;> omega)) only [↓reduceIte, evK, evL, evS, evA, evJ, Option.bind_some, Option.toList, List.cons_append, List.nil_append, nI_add, pk_mul, bI0, ite_not, ev_rbb, up_n, up_s, up_u, pk_us, pk_un, Nat.reduceAdd, nI_ltT, nI_ltF, nI_leT, nI_leF, nI_eqT, nI_eqF, en_LH_mend, bk_LH_mend, gfC, ce_Told_isColumn, t_Told_isColumn, hw1, h1, not_false_eq_true]
    · simp (disch := first | assumption | omega | decide | (simp only [ma_wd0, ma_wdi, ma_wdr, ma_wdl, ma_wdn] <;> omega)) only [↓reduceIte, evK, evL, evS, evA, evJ, Option.bind_some, Option.toList, List.cons_append, List.nil_append, nI_add, pk_mul, bI0, ite_not, ev_rbb, up_n, up_s, up_u, pk_us, pk_un, Nat.reduceAdd, nI_ltT, nI_ltF, nI_leT, nI_leF, nI_eqT, nI_eqF, en_MO_mend, bk_MO_mend, pfM, ce_MO_isColumn, t_MO_isColumn, hw2, h1, not_false_eq_true]
theorem p_hours (d : Nat) (a : Int32) (h : gR c m) : pub sc w (d + 20) 13 229 [.int a] c m := by
  obtain ⟨W, S, Q, ls, Z, g⟩ := h.e
  have u1 : c 17 6 = Z 0 0 := g.2.1.1.1.1
  have u2 : m 139 0 = Z 0 0 := g.2.1.2.1.1.1
  by_cases h1 : nI 1 ≤ a ∧ a ≤ nI 60
  · obtain ⟨n, hn0, hn, rfl⟩ := rng (by omega) h1.1 h1.2 (by omega)
    by_cases h2 : Z 0 0 + nI n ≤ nI 9999
    · have g0 : gQ W S Q ls (va_up c 96 (upd (upd (upd (c 96) 3 (nI 0)) 4 (-1)) 5 (-1))) (va_up m 138 (upd (m 138) 0 (nI 0))) Z := by
        obtain ⟨t, j, p, i, x⟩ := g.q0
        refine ⟨t.eq (fun k hk => up_n _ _ _ _ ?_) (fun _ _ => rfl) (fun _ _ => rfl), j.eq (fun k a b => up_n _ _ _ _ (by omega)) (up_n _ _ _ _ (by omega)) rfl rfl rfl, p.eq (fun k a b => up_n _ _ _ _ (by omega)) rfl rfl, i.eq rfl (fun k a b => up_n _ _ _ _ (by omega)) rfl rfl, x.eq rfl rfl rfl rfl rfl rfl rfl rfl rfl⟩
        simp only [tRc, List.mem_cons, List.not_mem_nil, or_false] at hk; omega
      obtain ⟨s, t, c', m', e1, e2, ⟨Z', g'⟩, hsum⟩ := sim_loop (w := w) n (fun i (s : Unit) h => ev sc (d + 20) 13 (pm_blk 13 36) [some (.ref 0), some (.int (nI n)), some (.int (nI i))] [] h)
        (fun i (s : Int32) h => ev sc (d + 20) 229 (pm_blk 229 36) [some (.ref 138), some (.int (nI n)), some (.int s), some (.int (nI i))] [] h)
        (fun i s t c' m' => (∃ Z', gQ W S Q ls c' m' Z') ∧ c' 96 3 = t) (by
          rintro i s t c1 m1 hi ⟨⟨Z1, g1⟩, hs⟩
          obtain ⟨c2, m2, k1, k2, g2, h96⟩ := g_keep (sc := sc) (w := w) (d + 9) g1
          obtain ⟨c3, m3, e, r1, r2, Z3, j3, -, f3, p3⟩ := j_hour (sc := sc) (w := w) (d + 7) g2.1 g2.2.1 kR17
          have g3 := g2.fr j3 f3
          simp only [wkA17] at r1 p3
          refine ⟨s, t + e, c3, m3, fun m0 => ?_, fun c0 => ?_, ⟨Z3, g3⟩, by rw [p3, h96, hs]⟩
          · conv => lhs; rw [bh_LH_hours_36]
            simp (disch := first | assumption | omega | decide | (simp only [ma_wd0, ma_wdi, ma_wdr, ma_wdl, ma_wdn] <;> omega)) only [↓reduceIte, evK, evL, evS, evA, evJ, Option.bind_some, Option.toList, List.cons_append, List.nil_append, nI_add, pk_mul, bI0, ite_not, ev_rbb, up_n, up_s, up_u, pk_us, pk_un, Nat.reduceAdd, nI_ltT, nI_ltF, nI_leT, nI_leF, nI_eqT, nI_eqF, gfC, ce_Past_keep, k1, ce_Works_passHour, r1]
          · conv => lhs; rw [bh_MO_hours_36]
            simp (disch := first | assumption | omega | decide | (simp only [ma_wd0, ma_wdi, ma_wdr, ma_wdl, ma_wdn] <;> omega)) only [↓reduceIte, evK, evL, evS, evA, evJ, Option.bind_some, Option.toList, List.cons_append, List.nil_append, nI_add, pk_mul, bI0, ite_not, ev_rbb, up_n, up_s, up_u, pk_us, pk_un, Nat.reduceAdd, nI_ltT, nI_ltF, nI_leT, nI_leF, nI_eqT, nI_eqF, ce_MO_keepsAhead, k2, ce_MO_goesBy, r2]) n 0 () (nI 0) _ _ (by omega) ⟨⟨Z, g0⟩, by rw [up_s, pk_un (by omega), pk_un (by omega), pk_us]⟩
      refine ⟨c', m', t, fun m0 => ?_, fun c0 => ?_, g'.g⟩
      · simp (disch := first | assumption | omega | decide | (simp only [ma_wd0, ma_wdi, ma_wdr, ma_wdl, ma_wdn] <;> omega)) only [↓reduceIte, evK, evL, evS, evA, evJ, Option.bind_some, Option.toList, List.cons_append, List.nil_append, nI_add, pk_mul, bI0, ite_not, ev_rbb, up_n, up_s, up_u, pk_us, pk_un, Nat.reduceAdd, nI_ltT, nI_ltF, nI_leT, nI_leF, nI_eqT, nI_eqF, en_LH_hours, bk_LH_hours, gfC, pfC, h1, h2, and_self, not_true_eq_false, ce_LH_within, t_LH_within, u1, ce_Works_beginCounts, en_Works_beginCounts, e1]
        rw [bh_LH_hours_36]
        simp (disch := first | assumption | omega | decide | (simp only [ma_wd0, ma_wdi, ma_wdr, ma_wdl, ma_wdn] <;> omega)) only [↓reduceIte, evK, evL, evS, evA, evJ, Option.bind_some, Option.toList, List.cons_append, List.nil_append, nI_add, pk_mul, bI0, ite_not, ev_rbb, up_n, up_s, up_u, pk_us, pk_un, Nat.reduceAdd, nI_ltT, nI_ltF, nI_leT, nI_leF, nI_eqT, nI_eqF, bk_LH_hours, gfC, hsum]
      · simp (disch := first | assumption | omega | decide | (simp only [ma_wd0, ma_wdi, ma_wdr, ma_wdl, ma_wdn] <;> omega)) only [↓reduceIte, evK, evL, evS, evA, evJ, Option.bind_some, Option.toList, List.cons_append, List.nil_append, nI_add, pk_mul, bI0, ite_not, ev_rbb, up_n, up_s, up_u, pk_us, pk_un, Nat.reduceAdd, nI_ltT, nI_ltF, nI_leT, nI_leF, nI_eqT, nI_eqF, en_MO_hours, bk_MO_hours, gfM, pfM, ldM, h1, h2, and_self, not_true_eq_false, ce_MO_isIn, t_MO_isIn, u2, e2]
        rw [bh_MO_hours_36]
        simp (disch := first | assumption | omega | decide | (simp only [ma_wd0, ma_wdi, ma_wdr, ma_wdl, ma_wdn] <;> omega)) only [↓reduceIte, evK, evL, evS, evA, evJ, Option.bind_some, Option.toList, List.cons_append, List.nil_append, nI_add, pk_mul, bI0, ite_not, ev_rbb, up_n, up_s, up_u, pk_us, pk_un, Nat.reduceAdd, nI_ltT, nI_ltF, nI_leT, nI_leF, nI_eqT, nI_eqF, bk_MO_hours]
    · refine ⟨c, _, -1, fun m0 => ?_, fun c0 => ?_, h.q0⟩
      · simp (disch := first | assumption | omega | decide | (simp only [ma_wd0, ma_wdi, ma_wdr, ma_wdl, ma_wdn] <;> omega)) only [↓reduceIte, evK, evL, evS, evA, evJ, Option.bind_some, Option.toList, List.cons_append, List.nil_append, nI_add, pk_mul, bI0, ite_not, ev_rbb, up_n, up_s, up_u, pk_us, pk_un, Nat.reduceAdd, nI_ltT, nI_ltF, nI_leT, nI_leF, nI_eqT, nI_eqF, en_LH_hours, bk_LH_hours, gfC, h1, h2, u1, and_self, not_true_eq_false, ce_LH_within, t_LH_within]
      · simp (disch := first | assumption | omega | decide | (simp only [ma_wd0, ma_wdi, ma_wdr, ma_wdl, ma_wdn] <;> omega)) only [↓reduceIte, evK, evL, evS, evA, evJ, Option.bind_some, Option.toList, List.cons_append, List.nil_append, nI_add, pk_mul, bI0, ite_not, ev_rbb, up_n, up_s, up_u, pk_us, pk_un, Nat.reduceAdd, nI_ltT, nI_ltF, nI_leT, nI_leF, nI_eqT, nI_eqF, en_MO_hours, bk_MO_hours, gfM, pfM, ldM, h1, h2, u2, and_self, not_true_eq_false, ce_MO_isIn, t_MO_isIn]
  · refine ⟨c, _, -1, fun m0 => ?_, fun c0 => ?_, h.q0⟩
    · simp (disch := first | assumption | omega | decide | (simp only [ma_wd0, ma_wdi, ma_wdr, ma_wdl, ma_wdn] <;> omega)) only [↓reduceIte, evK, evL, evS, evA, evJ, Option.bind_some, Option.toList, List.cons_append, List.nil_append, nI_add, pk_mul, bI0, ite_not, ev_rbb, up_n, up_s, up_u, pk_us, pk_un, Nat.reduceAdd, nI_ltT, nI_ltF, nI_leT, nI_leF, nI_eqT, nI_eqF, en_LH_hours, bk_LH_hours, gfC, h1, not_false_eq_true, ce_LH_within, t_LH_within]
    · simp (disch := first | assumption | omega | decide | (simp only [ma_wd0, ma_wdi, ma_wdr, ma_wdl, ma_wdn] <;> omega)) only [↓reduceIte, evK, evL, evS, evA, evJ, Option.bind_some, Option.toList, List.cons_append, List.nil_append, nI_add, pk_mul, bI0, ite_not, ev_rbb, up_n, up_s, up_u, pk_us, pk_un, Nat.reduceAdd, nI_ltT, nI_ltF, nI_leT, nI_leF, nI_eqT, nI_eqF, en_MO_hours, bk_MO_hours, gfM, pfM, h1, not_false_eq_true, ce_MO_isIn, t_MO_isIn]
theorem p_undo (d : Nat) (h : gR c m) : pub sc w (d + 20) 39 161 [] c m := by
  obtain ⟨W, S, Q, ls, Z, t, j, p, i, x⟩ := h.e
  obtain ⟨c', m', v, hv, r1, r2, hh⟩ := j_undo (sc := sc) (w := w) (d + 9) (d + 20) p t.2.2.1.2.2.1 j.2.2.2.1 j.t17
  refine ⟨c', m', v, fun m0 => ?_, r2, ?_⟩
  · rcases hv with rfl | rfl
    · simp (disch := first | assumption | omega | decide | (simp only [ma_wd0, ma_wdi, ma_wdr, ma_wdl, ma_wdn] <;> omega)) only [↓reduceIte, evK, evL, evS, evA, evJ, Option.bind_some, Option.toList, List.cons_append, List.nil_append, nI_add, pk_mul, bI0, ite_not, ev_rbb, up_n, up_s, up_u, pk_us, pk_un, Nat.reduceAdd, nI_ltT, nI_ltF, nI_leT, nI_leF, nI_eqT, nI_eqF, en_LH_undo, gfC, ce_Past_goBack, r1]
    · simp (disch := first | assumption | omega | decide | (simp only [ma_wd0, ma_wdi, ma_wdr, ma_wdl, ma_wdn] <;> omega)) only [↓reduceIte, evK, evL, evS, evA, evJ, Option.bind_some, Option.toList, List.cons_append, List.nil_append, nI_add, pk_mul, bI0, ite_not, ev_rbb, up_n, up_s, up_u, pk_us, pk_un, Nat.reduceAdd, nI_ltT, nI_ltF, nI_leT, nI_leF, nI_eqT, nI_eqF, en_LH_undo, gfC, ce_Past_goBack, r1]
  · rcases hh with ⟨rfl, rfl⟩ | ⟨Z', j', p', f1, f2, f3⟩
    · exact h.q0
    · refine gR.h t i x j' p' (fun k hk => f1 k ?_) (fun k a b f e g => f2 k ?_) (fun k a b _ _ => f3 k b a)
      · simp only [List.mem_cons, List.not_mem_nil, or_false]; omega
      · simp only [List.mem_cons, List.not_mem_nil, or_false]; omega
theorem p_look (d : Nat) (a : Int32) (h : gR c m) : pub sc w (d + 20) 41 290 [.int a] c m := by
  obtain ⟨W, S, Q, ls, Z, t, j, p, i, x⟩ := h.e
  obtain ⟨⟨z0, z1, z2, z3, z4⟩, -⟩ := j.1
  obtain ⟨⟨y0, y1, y2, y3, y4⟩, -⟩ := j.2.1
  have w1 := t.1.2.1
  have w2 := t.2.1.2.1
  have l1 := t.1.1.1
  have l2 := t.2.1.1.1
  obtain ⟨s1, s2, -, -⟩ := t.2.2.1
  obtain ⟨q1, q2, -, -⟩ := t.2.2.2.1
  obtain ⟨st, gu, -, -, -, g1, g2, g3, g4⟩ := t.2.2.2.2.1
  obtain ⟨nu, -, u1, u2, -⟩ := t.2.2.2.2.2.1
  obtain ⟨no, -, o1, o2, -⟩ := t.2.2.2.2.2.2.1
  obtain ⟨nw, -, v1, v2, -⟩ := t.2.2.2.2.2.2.2
  obtain ⟨np, -, p1, p2, -⟩ := p
  have key : ∀ k : Nat, k < 15 → a = nI k → pub sc w (d + 20) 41 290 [.int a] c m := by
    intro k hk ha
    subst ha
    rcases (show k = 0 ∨ k = 1 ∨ k = 2 ∨ k = 3 ∨ k = 4 ∨ k = 5 ∨ k = 6 ∨ k = 7 ∨ k = 8 ∨ k = 9 ∨ k = 10 ∨ k = 11 ∨ k = 12 ∨ k = 13 ∨ k = 14 by omega) with rfl | rfl | rfl | rfl | rfl | rfl | rfl | rfl | rfl | rfl | rfl | rfl | rfl | rfl | rfl
    all_goals
      refine ⟨c, _, ?_, fun m0 => ?_, fun c0 => ?_, h.q0⟩; rotate_left 1
      · (simp (disch := first | assumption | omega | decide | (simp only [ma_wd0, ma_wdi, ma_wdr, ma_wdl, ma_wdn] <;> omega)) only [↓reduceIte, evK, evL, evS, evA, evJ, Option.bind_some, Option.toList, List.cons_append, List.nil_append, nI_add, pk_mul, bI0, ite_not, ev_rbb, up_n, up_s, up_u, pk_us, pk_un, Nat.reduceAdd, nI_ltT, nI_ltF, nI_leT, nI_leF, nI_eqT, nI_eqF, en_LH_look, bk_LH_look, ev_sw, swc_s, swc_0, gfC, w1, l1, s1, q1, g1, g3, u1, o1, v1, p1, z0, z1, z2, z3, z4]) <;> rfl
      · (simp (disch := first | assumption | omega | decide | (simp only [ma_wd0, ma_wdi, ma_wdr, ma_wdl, ma_wdn] <;> omega)) only [↓reduceIte, evK, evL, evS, evA, evJ, Option.bind_some, Option.toList, List.cons_append, List.nil_append, nI_add, pk_mul, bI0, ite_not, ev_rbb, up_n, up_s, up_u, pk_us, pk_un, Nat.reduceAdd, nI_ltT, nI_ltF, nI_leT, nI_leF, nI_eqT, nI_eqF, en_MO_look, bk_MO_look, gfM, pfM, ldM, ce_MO_wide, t_MO_wide, ce_MO_steep, t_MO_steep, w2, l2, s2, q2, g2, g4, u2, o2, v2, p2, y0, y1, y2, y3, y4]) <;> rfl
  by_cases hk : ∃ k : Nat, k < 15 ∧ a = nI k
  · obtain ⟨k, h1, h2⟩ := hk
    exact key k h1 h2
  · have hn : ∀ k : Nat, k < 15 → (a = nI k) = False := fun k h => eq_false (fun z => hk ⟨k, h, z⟩)
    have n0 := hn 0 (by omega)
    have n1 := hn 1 (by omega)
    have n2 := hn 2 (by omega)
    have n3 := hn 3 (by omega)
    have n4 := hn 4 (by omega)
    have n5 := hn 5 (by omega)
    have n6 := hn 6 (by omega)
    have n7 := hn 7 (by omega)
    have n8 := hn 8 (by omega)
    have n9 := hn 9 (by omega)
    have n10 := hn 10 (by omega)
    have n11 := hn 11 (by omega)
    have n12 := hn 12 (by omega)
    have n13 := hn 13 (by omega)
    have n14 := hn 14 (by omega)
    refine ⟨c, _, -100000, fun m0 => ?_, fun c0 => ?_, h.q0⟩
    · simp (disch := first | assumption | omega | decide | (simp only [ma_wd0, ma_wdi, ma_wdr, ma_wdl, ma_wdn] <;> omega)) only [↓reduceIte, evK, evL, evS, evA, evJ, Option.bind_some, Option.toList, List.cons_append, List.nil_append, nI_add, pk_mul, bI0, ite_not, ev_rbb, up_n, up_s, up_u, pk_us, pk_un, Nat.reduceAdd, nI_ltT, nI_ltF, nI_leT, nI_leF, nI_eqT, nI_eqF, en_LH_look, bk_LH_look, ev_sw, swc_s, swc_0, n0, n1, n2, n3, n4, n5, n6, n7, n8, n9, n10, n11, n12, n13, n14]
    · simp (disch := first | assumption | omega | decide | (simp only [ma_wd0, ma_wdi, ma_wdr, ma_wdl, ma_wdn] <;> omega)) only [↓reduceIte, evK, evL, evS, evA, evJ, Option.bind_some, Option.toList, List.cons_append, List.nil_append, nI_add, pk_mul, bI0, ite_not, ev_rbb, up_n, up_s, up_u, pk_us, pk_un, Nat.reduceAdd, nI_ltT, nI_ltF, nI_leT, nI_leF, nI_eqT, nI_eqF, en_MO_look, bk_MO_look, gfM, pfM, ldM, n0, n1, n2, n3, n4, n5, n6, n7, n8, n9, n10, n11, n12, n13, n14]
theorem p_shipOf (d : Nat) (a b : Int32) (h : gR c m) : pub sc w (d + 20) 22 247 [.int a, .int b] c m := by
  obtain ⟨W, S, Q, ls, Z, t, j, p, i, x⟩ := h.e
  obtain ⟨s1, s2, hS, hd⟩ := t.2.2.1
  by_cases h1 : nI 0 ≤ a ∧ a < nI S
  · obtain ⟨ka, hka, rfl⟩ := rngl (by omega) h1.1 h1.2
    obtain ⟨dr, -, d1, d2⟩ := hd ka hka
    have z1 : c 20 ka = Z 0 (33 + ka) := j.1.2.2.2.1 ka hka
    have z2 : m 139 (33 + ka) = Z 0 (33 + ka) := j.2.1.2.2.2.1 ka hka
    have z3 : c 21 ka = Z 0 (41 + ka) := j.1.2.2.2.2 ka hka
    have z4 : m 139 (41 + ka) = Z 0 (41 + ka) := j.2.1.2.2.2.2 ka hka
    by_cases b0 : b = nI 0
    · subst b0
      refine ⟨c, _, Z 0 (33 + ka), fun m0 => ?_, fun c0 => ?_, h.q0⟩
      · simp (disch := first | assumption | omega | decide | (simp only [ma_wd0, ma_wdi, ma_wdr, ma_wdl, ma_wdn] <;> omega)) only [↓reduceIte, evK, evL, evS, evA, evJ, Option.bind_some, Option.toList, List.cons_append, List.nil_append, nI_add, pk_mul, bI0, ite_not, ev_rbb, up_n, up_s, up_u, pk_us, pk_un, Nat.reduceAdd, nI_ltT, nI_ltF, nI_leT, nI_leF, nI_eqT, nI_eqF, en_LH_shipOf, bk_LH_shipOf, gfC, ldC, ce_Told_isShip, t_Told_isShip, s1, h1, and_self, not_true_eq_false, ev_sw, swc_s, swc_0, z1]
      · simp (disch := first | assumption | omega | decide | (simp only [ma_wd0, ma_wdi, ma_wdr, ma_wdl, ma_wdn] <;> omega)) only [↓reduceIte, evK, evL, evS, evA, evJ, Option.bind_some, Option.toList, List.cons_append, List.nil_append, nI_add, pk_mul, bI0, ite_not, ev_rbb, up_n, up_s, up_u, pk_us, pk_un, Nat.reduceAdd, nI_ltT, nI_ltF, nI_leT, nI_leF, nI_eqT, nI_eqF, en_MO_shipOf, bk_MO_shipOf, gfM, pfM, ldM, ce_MO_isShip, t_MO_isShip, s2, h1, and_self, not_true_eq_false, z2]
    · by_cases b1 : b = nI 1
      · subst b1
        refine ⟨c, _, nI dr, fun m0 => ?_, fun c0 => ?_, h.q0⟩
        · simp (disch := first | assumption | omega | decide | (simp only [ma_wd0, ma_wdi, ma_wdr, ma_wdl, ma_wdn] <;> omega)) only [↓reduceIte, evK, evL, evS, evA, evJ, Option.bind_some, Option.toList, List.cons_append, List.nil_append, nI_add, pk_mul, bI0, ite_not, ev_rbb, up_n, up_s, up_u, pk_us, pk_un, Nat.reduceAdd, nI_ltT, nI_ltF, nI_leT, nI_leF, nI_eqT, nI_eqF, en_LH_shipOf, bk_LH_shipOf, gfC, ldC, ce_Told_isShip, t_Told_isShip, s1, h1, and_self, not_true_eq_false, ev_sw, swc_s, swc_0, d1]
        · simp (disch := first | assumption | omega | decide | (simp only [ma_wd0, ma_wdi, ma_wdr, ma_wdl, ma_wdn] <;> omega)) only [↓reduceIte, evK, evL, evS, evA, evJ, Option.bind_some, Option.toList, List.cons_append, List.nil_append, nI_add, pk_mul, bI0, ite_not, ev_rbb, up_n, up_s, up_u, pk_us, pk_un, Nat.reduceAdd, nI_ltT, nI_ltF, nI_leT, nI_leF, nI_eqT, nI_eqF, en_MO_shipOf, bk_MO_shipOf, gfM, pfM, ldM, ce_MO_isShip, t_MO_isShip, s2, h1, and_self, not_true_eq_false, d2]
      · by_cases b2 : b = nI 2
        · subst b2
          refine ⟨c, _, Z 0 (41 + ka), fun m0 => ?_, fun c0 => ?_, h.q0⟩
          · simp (disch := first | assumption | omega | decide | (simp only [ma_wd0, ma_wdi, ma_wdr, ma_wdl, ma_wdn] <;> omega)) only [↓reduceIte, evK, evL, evS, evA, evJ, Option.bind_some, Option.toList, List.cons_append, List.nil_append, nI_add, pk_mul, bI0, ite_not, ev_rbb, up_n, up_s, up_u, pk_us, pk_un, Nat.reduceAdd, nI_ltT, nI_ltF, nI_leT, nI_leF, nI_eqT, nI_eqF, en_LH_shipOf, bk_LH_shipOf, gfC, ldC, ce_Told_isShip, t_Told_isShip, s1, h1, and_self, not_true_eq_false, ev_sw, swc_s, swc_0, z3]
          · simp (disch := first | assumption | omega | decide | (simp only [ma_wd0, ma_wdi, ma_wdr, ma_wdl, ma_wdn] <;> omega)) only [↓reduceIte, evK, evL, evS, evA, evJ, Option.bind_some, Option.toList, List.cons_append, List.nil_append, nI_add, pk_mul, bI0, ite_not, ev_rbb, up_n, up_s, up_u, pk_us, pk_un, Nat.reduceAdd, nI_ltT, nI_ltF, nI_leT, nI_leF, nI_eqT, nI_eqF, en_MO_shipOf, bk_MO_shipOf, gfM, pfM, ldM, ce_MO_isShip, t_MO_isShip, s2, h1, and_self, not_true_eq_false, z4]
        · refine ⟨c, _, -1, fun m0 => ?_, fun c0 => ?_, h.q0⟩
          · simp (disch := first | assumption | omega | decide | (simp only [ma_wd0, ma_wdi, ma_wdr, ma_wdl, ma_wdn] <;> omega)) only [↓reduceIte, evK, evL, evS, evA, evJ, Option.bind_some, Option.toList, List.cons_append, List.nil_append, nI_add, pk_mul, bI0, ite_not, ev_rbb, up_n, up_s, up_u, pk_us, pk_un, Nat.reduceAdd, nI_ltT, nI_ltF, nI_leT, nI_leF, nI_eqT, nI_eqF, en_LH_shipOf, bk_LH_shipOf, gfC, ldC, ce_Told_isShip, t_Told_isShip, s1, h1, and_self, not_true_eq_false, ev_sw, swc_s, swc_0, b0, b1, b2]
          · simp (disch := first | assumption | omega | decide | (simp only [ma_wd0, ma_wdi, ma_wdr, ma_wdl, ma_wdn] <;> omega)) only [↓reduceIte, evK, evL, evS, evA, evJ, Option.bind_some, Option.toList, List.cons_append, List.nil_append, nI_add, pk_mul, bI0, ite_not, ev_rbb, up_n, up_s, up_u, pk_us, pk_un, Nat.reduceAdd, nI_ltT, nI_ltF, nI_leT, nI_leF, nI_eqT, nI_eqF, en_MO_shipOf, bk_MO_shipOf, gfM, pfM, ldM, ce_MO_isShip, t_MO_isShip, s2, h1, and_self, not_true_eq_false, b0, b1, b2]
  · refine ⟨c, _, -1, fun m0 => ?_, fun c0 => ?_, h.q0⟩
    · simp (disch := first | assumption | omega | decide | (simp only [ma_wd0, ma_wdi, ma_wdr, ma_wdl, ma_wdn] <;> omega)) only [↓reduceIte, evK, evL, evS, evA, evJ, Option.bind_some, Option.toList, List.cons_append, List.nil_append, nI_add, pk_mul, bI0, ite_not, ev_rbb, up_n, up_s, up_u, pk_us, pk_un, Nat.reduceAdd, nI_ltT, nI_ltF, nI_leT, nI_leF, nI_eqT, nI_eqF, en_LH_shipOf, bk_LH_shipOf, gfC, ce_Told_isShip, t_Told_isShip, s1, h1, not_false_eq_true]
    · simp (disch := first | assumption | omega | decide | (simp only [ma_wd0, ma_wdi, ma_wdr, ma_wdl, ma_wdn] <;> omega)) only [↓reduceIte, evK, evL, evS, evA, evJ, Option.bind_some, Option.toList, List.cons_append, List.nil_append, nI_add, pk_mul, bI0, ite_not, ev_rbb, up_n, up_s, up_u, pk_us, pk_un, Nat.reduceAdd, nI_ltT, nI_ltF, nI_leT, nI_leF, nI_eqT, nI_eqF, en_MO_shipOf, bk_MO_shipOf, gfM, pfM, ce_MO_isShip, t_MO_isShip, s2, h1, not_false_eq_true]
theorem p_book (d : Nat) (a b : Int32) (h : gR c m) : pub sc w (d + 20) 24 251 [.int a, .int b] c m := by
  obtain ⟨W, S, Q, ls, Z, t, j, p, i, x⟩ := h.e
  obtain ⟨k, hk, k1, k2⟩ := j.k
  have hb := j.2.2.2.1
  by_cases h1 : nI 0 ≤ a ∧ a ≤ nI k - nI 1
  · have hk0 : 0 < k := by
      rcases Nat.eq_zero_or_pos k with z | z
      · subst z
        exfalso
        have e : (nI 0 - nI 1).toInt = -1 := by decide +kernel
        have e0 : (nI 0).toInt = 0 := by decide +kernel
        simp only [Int32.le_iff_toInt_le] at h1
        omega
      · exact z
    rw [pk_sub (by omega)] at h1
    obtain ⟨ka, -, hka, rfl⟩ := rng (by omega) h1.1 h1.2 (by omega)
    by_cases h2 : nI 0 ≤ b ∧ b ≤ nI 3
    · obtain ⟨kb, -, hkb, rfl⟩ := rng (by omega) h2.1 h2.2 (by omega)
      have e := hb (ka * 4 + kb) (by omega)
      have e4 : 4 * ka + kb = ka * 4 + kb := by omega
      refine ⟨c, _, m 145 (ka * 4 + kb), fun m0 => ?_, fun c0 => ?_, h.q0⟩
      · simp (disch := first | assumption | omega | decide | (simp only [ma_wd0, ma_wdi, ma_wdr, ma_wdl, ma_wdn] <;> omega)) only [↓reduceIte, evK, evL, evS, evA, evJ, Option.bind_some, Option.toList, List.cons_append, List.nil_append, nI_add, pk_mul, bI0, ite_not, ev_rbb, up_n, up_s, up_u, pk_us, pk_un, Nat.reduceAdd, nI_ltT, nI_ltF, nI_leT, nI_leF, nI_eqT, nI_eqF, en_LH_book, bk_LH_book, gfC, ldC, alC, k1, pk_sub, Nat.reduceSub, h1, h2, and_self, not_true_eq_false, ce_LH_within, t_LH_within, ce_Book_cell, en_Book_cell, bk_Book_cell, e]
      · simp (disch := first | assumption | omega | decide | (simp only [ma_wd0, ma_wdi, ma_wdr, ma_wdl, ma_wdn] <;> omega)) only [↓reduceIte, evK, evL, evS, evA, evJ, Option.bind_some, Option.toList, List.cons_append, List.nil_append, nI_add, pk_mul, bI0, ite_not, ev_rbb, up_n, up_s, up_u, pk_us, pk_un, Nat.reduceAdd, nI_ltT, nI_ltF, nI_leT, nI_leF, nI_eqT, nI_eqF, en_MO_book, bk_MO_book, gfM, pfM, ldM, k2, pk_sub, h1, h2, and_self, not_true_eq_false, ce_MO_isIn, t_MO_isIn, e4]
    · refine ⟨c, _, -1, fun m0 => ?_, fun c0 => ?_, h.q0⟩
      · simp (disch := first | assumption | omega | decide | (simp only [ma_wd0, ma_wdi, ma_wdr, ma_wdl, ma_wdn] <;> omega)) only [↓reduceIte, evK, evL, evS, evA, evJ, Option.bind_some, Option.toList, List.cons_append, List.nil_append, nI_add, pk_mul, bI0, ite_not, ev_rbb, up_n, up_s, up_u, pk_us, pk_un, Nat.reduceAdd, nI_ltT, nI_ltF, nI_leT, nI_leF, nI_eqT, nI_eqF, en_LH_book, bk_LH_book, gfC, k1, pk_sub, h1, h2, and_self, not_true_eq_false, not_false_eq_true, ce_LH_within, t_LH_within]
      · simp (disch := first | assumption | omega | decide | (simp only [ma_wd0, ma_wdi, ma_wdr, ma_wdl, ma_wdn] <;> omega)) only [↓reduceIte, evK, evL, evS, evA, evJ, Option.bind_some, Option.toList, List.cons_append, List.nil_append, nI_add, pk_mul, bI0, ite_not, ev_rbb, up_n, up_s, up_u, pk_us, pk_un, Nat.reduceAdd, nI_ltT, nI_ltF, nI_leT, nI_leF, nI_eqT, nI_eqF, en_MO_book, bk_MO_book, gfM, pfM, ldM, k2, pk_sub, h1, h2, and_self, not_true_eq_false, not_false_eq_true, ce_MO_isIn, t_MO_isIn]
  · refine ⟨c, _, -1, fun m0 => ?_, fun c0 => ?_, h.q0⟩
    · simp (disch := first | assumption | omega | decide | (simp only [ma_wd0, ma_wdi, ma_wdr, ma_wdl, ma_wdn] <;> omega)) only [↓reduceIte, evK, evL, evS, evA, evJ, Option.bind_some, Option.toList, List.cons_append, List.nil_append, nI_add, pk_mul, bI0, ite_not, ev_rbb, up_n, up_s, up_u, pk_us, pk_un, Nat.reduceAdd, nI_ltT, nI_ltF, nI_leT, nI_leF, nI_eqT, nI_eqF, en_LH_book, bk_LH_book, gfC, k1, h1, not_false_eq_true, ce_LH_within, t_LH_within]
    · simp (disch := first | assumption | omega | decide | (simp only [ma_wd0, ma_wdi, ma_wdr, ma_wdl, ma_wdn] <;> omega)) only [↓reduceIte, evK, evL, evS, evA, evJ, Option.bind_some, Option.toList, List.cons_append, List.nil_append, nI_add, pk_mul, bI0, ite_not, ev_rbb, up_n, up_s, up_u, pk_us, pk_un, Nat.reduceAdd, nI_ltT, nI_ltF, nI_leT, nI_leF, nI_eqT, nI_eqF, en_MO_book, bk_MO_book, gfM, pfM, ldM, k2, h1, not_false_eq_true, ce_MO_isIn, t_MO_isIn]
end P2
