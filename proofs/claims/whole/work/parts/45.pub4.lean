/-! ===== set, sea ===== -/
section P4
variable {sc : Nat × (Nat → Int32)} {W S Q : Nat} {ls : List lL} {c m Z : Nat → Nat → Int32} {w : Nat → Int64}
theorem p_set (d : Nat) (a b v : Int32) (h : gR c m) : pub sc w (d + 20) 6 169 [.int a, .int b, .int v] c m := by
  obtain ⟨W, S, Q, ls, Z, t, j, p, i, x⟩ := h.e
  have hw1 := t.1.2.1
  have hw2 := t.2.1.2.1
  have hW := t.1.2.2.2
  obtain ⟨s1, s2, hS, hd⟩ := t.2.2.1
  obtain ⟨q1, q2, hQ, hq⟩ := t.2.2.2.1
  obtain ⟨st, gu, st1, st9, gu1, g1, g2, g3, g4⟩ := t.2.2.2.2.1
  by_cases a0 : a = nI 0
  · subst a0
    by_cases h1 : nI 1 ≤ v ∧ v ≤ nI 9
    · obtain ⟨k, hk1, hk9, rfl⟩ := rng (by omega) h1.1 h1.2 (by omega)
      refine ⟨?_, ?_, ?_, fun m0 => ?_, fun c0 => ?_, ?_⟩; rotate_left 3
      · (simp (disch := first | assumption | omega | decide | (simp only [ma_wd0, ma_wdi, ma_wdr, ma_wdl, ma_wdn] <;> omega)) only [↓reduceIte, evK, evL, evS, evA, evJ, Option.bind_some, Option.toList, List.cons_append, List.nil_append, nI_add, pk_mul, bI0, ite_not, ev_rbb, up_n, up_s, up_u, pk_us, pk_un, Nat.reduceAdd, nI_ltT, nI_ltF, nI_leT, nI_leF, nI_eqT, nI_eqF, en_LH_set, bk_LH_set, gfC, pfC, ce_LH_changeRule, en_LH_changeRule, bk_LH_changeRule, ce_LH_within, t_LH_within, h1, and_self, not_true_eq_false, ce_Past_forget, en_Past_forget]) <;> rfl
      · (simp (disch := first | assumption | omega | decide | (simp only [ma_wd0, ma_wdi, ma_wdr, ma_wdl, ma_wdn] <;> omega)) only [↓reduceIte, evK, evL, evS, evA, evJ, Option.bind_some, Option.toList, List.cons_append, List.nil_append, nI_add, pk_mul, bI0, ite_not, ev_rbb, up_n, up_s, up_u, pk_us, pk_un, Nat.reduceAdd, nI_ltT, nI_ltF, nI_leT, nI_leF, nI_eqT, nI_eqF, en_MO_set, bk_MO_set, gfM, pfM, ce_MO_canSet, en_MO_canSet, bk_MO_canSet, ce_MO_isIn, t_MO_isIn, h1, and_self, not_true_eq_false]) <;> rfl
      · refine ⟨W, S, Q, ls, ⟨?_, ?_, ?_, ?_, ⟨k, gu, by omega, by omega, by omega, ?_, ?_, ?_, ?_⟩, ?_, ?_, ?_⟩, ⟨Z, j.eq (fun k a b => ?_) ?_ ?_ ?_ ?_⟩, p.zero ?_ ?_ ?_, i.eq ?_ (fun k a b => ?_) ?_ ?_, x.eq ?_ ?_ ?_ ?_ ?_ ?_ ?_ ?_ ?_⟩
        · (have hkp := t.1; unfold aC lC at hkp ⊢; (try (simp (disch := first | assumption | omega | decide | (simp only [ma_wd0, ma_wdi, ma_wdr, ma_wdl, ma_wdn] <;> omega)) only [up_n, up_s, up_u, pk_us, pk_un, Nat.reduceAdd])); exact hkp)
        · (have hkp := t.2.1; unfold aM lM at hkp ⊢; (try (simp (disch := first | assumption | omega | decide | (simp only [ma_wd0, ma_wdi, ma_wdr, ma_wdl, ma_wdn] <;> omega)) only [up_n, up_s, up_u, pk_us, pk_un, Nat.reduceAdd])); exact hkp)
        · (have hkp := t.2.2.1; unfold tS at hkp ⊢; (try (simp (disch := first | assumption | omega | decide | (simp only [ma_wd0, ma_wdi, ma_wdr, ma_wdl, ma_wdn] <;> omega)) only [up_n, up_s, up_u, pk_us, pk_un, Nat.reduceAdd])); exact hkp)
        · (have hkp := t.2.2.2.1; unfold tQ at hkp ⊢; (try (simp (disch := first | assumption | omega | decide | (simp only [ma_wd0, ma_wdi, ma_wdr, ma_wdl, ma_wdn] <;> omega)) only [up_n, up_s, up_u, pk_us, pk_un, Nat.reduceAdd])); exact hkp)
        · simp (disch := first | assumption | omega | decide | (simp only [ma_wd0, ma_wdi, ma_wdr, ma_wdl, ma_wdn] <;> omega)) only [up_n, up_s, up_u, pk_us, pk_un, Nat.reduceAdd]
        · simp (disch := first | assumption | omega | decide | (simp only [ma_wd0, ma_wdi, ma_wdr, ma_wdl, ma_wdn] <;> omega)) only [up_n, up_s, up_u, pk_us, pk_un, Nat.reduceAdd]
          exact Int32.sub_add_cancel _ _
        · simp (disch := first | assumption | omega | decide | (simp only [ma_wd0, ma_wdi, ma_wdr, ma_wdl, ma_wdn] <;> omega)) only [up_n, up_s, up_u, pk_us, pk_un, Nat.reduceAdd]
          exact g3
        · simp (disch := first | assumption | omega | decide | (simp only [ma_wd0, ma_wdi, ma_wdr, ma_wdl, ma_wdn] <;> omega)) only [up_n, up_s, up_u, pk_us, pk_un, Nat.reduceAdd]
          exact g4
        · (have hkp := t.2.2.2.2.2.1; unfold tU at hkp ⊢; (try (simp (disch := first | assumption | omega | decide | (simp only [ma_wd0, ma_wdi, ma_wdr, ma_wdl, ma_wdn] <;> omega)) only [up_n, up_s, up_u, pk_us, pk_un, Nat.reduceAdd])); exact hkp)
        · (have hkp := t.2.2.2.2.2.2.1; unfold tO at hkp ⊢; (try (simp (disch := first | assumption | omega | decide | (simp only [ma_wd0, ma_wdi, ma_wdr, ma_wdl, ma_wdn] <;> omega)) only [up_n, up_s, up_u, pk_us, pk_un, Nat.reduceAdd])); exact hkp)
        · (have hkp := t.2.2.2.2.2.2.2; unfold tW at hkp ⊢; (try (simp (disch := first | assumption | omega | decide | (simp only [ma_wd0, ma_wdi, ma_wdr, ma_wdl, ma_wdn] <;> omega)) only [up_n, up_s, up_u, pk_us, pk_un, Nat.reduceAdd])); exact hkp)
        all_goals simp (disch := first | assumption | omega | decide | (simp only [ma_wd0, ma_wdi, ma_wdr, ma_wdl, ma_wdn] <;> omega)) only [up_n, up_s, up_u, pk_us, pk_un, Nat.reduceAdd]
    · refine ⟨c, _, nI 0, fun m0 => ?_, fun c0 => ?_, h.q0⟩
      · simp (disch := first | assumption | omega | decide | (simp only [ma_wd0, ma_wdi, ma_wdr, ma_wdl, ma_wdn] <;> omega)) only [↓reduceIte, evK, evL, evS, evA, evJ, Option.bind_some, Option.toList, List.cons_append, List.nil_append, nI_add, pk_mul, bI0, ite_not, ev_rbb, up_n, up_s, up_u, pk_us, pk_un, Nat.reduceAdd, nI_ltT, nI_ltF, nI_leT, nI_leF, nI_eqT, nI_eqF, en_LH_set, bk_LH_set, gfC, pfC, ce_LH_changeRule, en_LH_changeRule, bk_LH_changeRule, ce_LH_within, t_LH_within, h1, not_false_eq_true]
      · simp (disch := first | assumption | omega | decide | (simp only [ma_wd0, ma_wdi, ma_wdr, ma_wdl, ma_wdn] <;> omega)) only [↓reduceIte, evK, evL, evS, evA, evJ, Option.bind_some, Option.toList, List.cons_append, List.nil_append, nI_add, pk_mul, bI0, ite_not, ev_rbb, up_n, up_s, up_u, pk_us, pk_un, Nat.reduceAdd, nI_ltT, nI_ltF, nI_leT, nI_leF, nI_eqT, nI_eqF, en_MO_set, bk_MO_set, gfM, pfM, ce_MO_canSet, en_MO_canSet, bk_MO_canSet, ce_MO_isIn, t_MO_isIn, h1, not_false_eq_true]
  by_cases a1 : a = nI 1
  · subst a1
    by_cases h1 : nI 0 ≤ v ∧ v ≤ nI 1000
    · obtain ⟨k, hk1, hk9, rfl⟩ := rng (by omega) h1.1 h1.2 (by omega)
      refine ⟨?_, ?_, ?_, fun m0 => ?_, fun c0 => ?_, ?_⟩; rotate_left 3
      · (simp (disch := first | assumption | omega | decide | (simp only [ma_wd0, ma_wdi, ma_wdr, ma_wdl, ma_wdn] <;> omega)) only [↓reduceIte, evK, evL, evS, evA, evJ, Option.bind_some, Option.toList, List.cons_append, List.nil_append, nI_add, pk_mul, bI0, ite_not, ev_rbb, up_n, up_s, up_u, pk_us, pk_un, Nat.reduceAdd, nI_ltT, nI_ltF, nI_leT, nI_leF, nI_eqT, nI_eqF, en_LH_set, bk_LH_set, gfC, pfC, ce_LH_changeRule, en_LH_changeRule, bk_LH_changeRule, ce_LH_within, t_LH_within, h1, and_self, not_true_eq_false, ce_Past_forget, en_Past_forget]) <;> rfl
      · (simp (disch := first | assumption | omega | decide | (simp only [ma_wd0, ma_wdi, ma_wdr, ma_wdl, ma_wdn] <;> omega)) only [↓reduceIte, evK, evL, evS, evA, evJ, Option.bind_some, Option.toList, List.cons_append, List.nil_append, nI_add, pk_mul, bI0, ite_not, ev_rbb, up_n, up_s, up_u, pk_us, pk_un, Nat.reduceAdd, nI_ltT, nI_ltF, nI_leT, nI_leF, nI_eqT, nI_eqF, en_MO_set, bk_MO_set, gfM, pfM, ce_MO_canSet, en_MO_canSet, bk_MO_canSet, ce_MO_isIn, t_MO_isIn, h1, and_self, not_true_eq_false]) <;> rfl
      · refine ⟨W, S, Q, ls, ⟨?_, ?_, ?_, ?_, ⟨st, k, by omega, by omega, by omega, ?_, ?_, ?_, ?_⟩, ?_, ?_, ?_⟩, ⟨Z, j.eq (fun k a b => ?_) ?_ ?_ ?_ ?_⟩, p.zero ?_ ?_ ?_, i.eq ?_ (fun k a b => ?_) ?_ ?_, x.eq ?_ ?_ ?_ ?_ ?_ ?_ ?_ ?_ ?_⟩
        · (have hkp := t.1; unfold aC lC at hkp ⊢; (try (simp (disch := first | assumption | omega | decide | (simp only [ma_wd0, ma_wdi, ma_wdr, ma_wdl, ma_wdn] <;> omega)) only [up_n, up_s, up_u, pk_us, pk_un, Nat.reduceAdd])); exact hkp)
        · (have hkp := t.2.1; unfold aM lM at hkp ⊢; (try (simp (disch := first | assumption | omega | decide | (simp only [ma_wd0, ma_wdi, ma_wdr, ma_wdl, ma_wdn] <;> omega)) only [up_n, up_s, up_u, pk_us, pk_un, Nat.reduceAdd])); exact hkp)
        · (have hkp := t.2.2.1; unfold tS at hkp ⊢; (try (simp (disch := first | assumption | omega | decide | (simp only [ma_wd0, ma_wdi, ma_wdr, ma_wdl, ma_wdn] <;> omega)) only [up_n, up_s, up_u, pk_us, pk_un, Nat.reduceAdd])); exact hkp)
        · (have hkp := t.2.2.2.1; unfold tQ at hkp ⊢; (try (simp (disch := first | assumption | omega | decide | (simp only [ma_wd0, ma_wdi, ma_wdr, ma_wdl, ma_wdn] <;> omega)) only [up_n, up_s, up_u, pk_us, pk_un, Nat.reduceAdd])); exact hkp)
        · simp (disch := first | assumption | omega | decide | (simp only [ma_wd0, ma_wdi, ma_wdr, ma_wdl, ma_wdn] <;> omega)) only [up_n, up_s, up_u, pk_us, pk_un, Nat.reduceAdd]
          exact g1
        · simp (disch := first | assumption | omega | decide | (simp only [ma_wd0, ma_wdi, ma_wdr, ma_wdl, ma_wdn] <;> omega)) only [up_n, up_s, up_u, pk_us, pk_un, Nat.reduceAdd]
          exact g2
        · simp (disch := first | assumption | omega | decide | (simp only [ma_wd0, ma_wdi, ma_wdr, ma_wdl, ma_wdn] <;> omega)) only [up_n, up_s, up_u, pk_us, pk_un, Nat.reduceAdd]
        · simp (disch := first | assumption | omega | decide | (simp only [ma_wd0, ma_wdi, ma_wdr, ma_wdl, ma_wdn] <;> omega)) only [up_n, up_s, up_u, pk_us, pk_un, Nat.reduceAdd]
        · (have hkp := t.2.2.2.2.2.1; unfold tU at hkp ⊢; (try (simp (disch := first | assumption | omega | decide | (simp only [ma_wd0, ma_wdi, ma_wdr, ma_wdl, ma_wdn] <;> omega)) only [up_n, up_s, up_u, pk_us, pk_un, Nat.reduceAdd])); exact hkp)
        · (have hkp := t.2.2.2.2.2.2.1; unfold tO at hkp ⊢; (try (simp (disch := first | assumption | omega | decide | (simp only [ma_wd0, ma_wdi, ma_wdr, ma_wdl, ma_wdn] <;> omega)) only [up_n, up_s, up_u, pk_us, pk_un, Nat.reduceAdd])); exact hkp)
        · (have hkp := t.2.2.2.2.2.2.2; unfold tW at hkp ⊢; (try (simp (disch := first | assumption | omega | decide | (simp only [ma_wd0, ma_wdi, ma_wdr, ma_wdl, ma_wdn] <;> omega)) only [up_n, up_s, up_u, pk_us, pk_un, Nat.reduceAdd])); exact hkp)
        all_goals simp (disch := first | assumption | omega | decide | (simp only [ma_wd0, ma_wdi, ma_wdr, ma_wdl, ma_wdn] <;> omega)) only [up_n, up_s, up_u, pk_us, pk_un, Nat.reduceAdd]
    · refine ⟨c, _, nI 0, fun m0 => ?_, fun c0 => ?_, h.q0⟩
      · simp (disch := first | assumption | omega | decide | (simp only [ma_wd0, ma_wdi, ma_wdr, ma_wdl, ma_wdn] <;> omega)) only [↓reduceIte, evK, evL, evS, evA, evJ, Option.bind_some, Option.toList, List.cons_append, List.nil_append, nI_add, pk_mul, bI0, ite_not, ev_rbb, up_n, up_s, up_u, pk_us, pk_un, Nat.reduceAdd, nI_ltT, nI_ltF, nI_leT, nI_leF, nI_eqT, nI_eqF, en_LH_set, bk_LH_set, gfC, pfC, ce_LH_changeRule, en_LH_changeRule, bk_LH_changeRule, ce_LH_within, t_LH_within, h1, not_false_eq_true]
      · simp (disch := first | assumption | omega | decide | (simp only [ma_wd0, ma_wdi, ma_wdr, ma_wdl, ma_wdn] <;> omega)) only [↓reduceIte, evK, evL, evS, evA, evJ, Option.bind_some, Option.toList, List.cons_append, List.nil_append, nI_add, pk_mul, bI0, ite_not, ev_rbb, up_n, up_s, up_u, pk_us, pk_un, Nat.reduceAdd, nI_ltT, nI_ltF, nI_leT, nI_leF, nI_eqT, nI_eqF, en_MO_set, bk_MO_set, gfM, pfM, ce_MO_canSet, en_MO_canSet, bk_MO_canSet, ce_MO_isIn, t_MO_isIn, h1, not_false_eq_true]
  by_cases a2 : a = nI 2
  · subst a2
    by_cases hc : nI 0 ≤ b ∧ b < nI W
    · by_cases h1 : nI 0 ≤ v ∧ v ≤ nI 99
      · obtain ⟨kb, hkb, rfl⟩ := rngl (by omega) hc.1 hc.2
        obtain ⟨k, hk1, hk9, rfl⟩ := rng (by omega) h1.1 h1.2 (by omega)
        have hJ := j.un hS (x := kb) (by omega) (v := nI k) (by rw [nI_toInt (by omega)]; omega)
        refine ⟨?_, ?_, ?_, fun m0 => ?_, fun c0 => ?_, ?_⟩; rotate_left 3
        · (simp (disch := first | assumption | omega | decide | (simp only [ma_wd0, ma_wdi, ma_wdr, ma_wdl, ma_wdn] <;> omega)) only [↓reduceIte, evK, evL, evS, evA, evJ, Option.bind_some, Option.toList, List.cons_append, List.nil_append, nI_add, pk_mul, bI0, ite_not, ev_rbb, up_n, up_s, up_u, pk_us, pk_un, Nat.reduceAdd, nI_ltT, nI_ltF, nI_leT, nI_leF, nI_eqT, nI_eqF, en_LH_set, bk_LH_set, gfC, pfC, stC, ce_LH_changeOne, en_LH_changeOne, bk_LH_changeOne, ce_Told_isColumn, t_Told_isColumn, hw1, hc, ce_LH_within, t_LH_within, h1, and_self, not_true_eq_false, ce_Past_forget, en_Past_forget]) <;> rfl
        · (simp (disch := first | assumption | omega | decide | (simp only [ma_wd0, ma_wdi, ma_wdr, ma_wdl, ma_wdn] <;> omega)) only [↓reduceIte, evK, evL, evS, evA, evJ, Option.bind_some, Option.toList, List.cons_append, List.nil_append, nI_add, pk_mul, bI0, ite_not, ev_rbb, up_n, up_s, up_u, pk_us, pk_un, Nat.reduceAdd, nI_ltT, nI_ltF, nI_leT, nI_leF, nI_eqT, nI_eqF, en_MO_set, bk_MO_set, gfM, pfM, stM, ce_MO_canSet, en_MO_canSet, bk_MO_canSet, ce_MO_isColumn, t_MO_isColumn, hw2, hc, ce_MO_isIn, t_MO_isIn, h1, and_self, not_true_eq_false]) <;> rfl
        · refine gR.h t i x (hJ.eq (fun k a b => ?_) ?_ ?_ ?_ ?_) (p.zero ?_ ?_ ?_) (fun k hk => ?_) (fun k a b f e g => ?_) (fun k a b f e => ?_)
          all_goals simp (disch := first | assumption | omega | decide | (simp only [ma_wd0, ma_wdi, ma_wdr, ma_wdl, ma_wdn] <;> omega)) only [up_n, up_s, up_u, pk_us, pk_un, Nat.reduceAdd]
      · refine ⟨c, _, nI 0, fun m0 => ?_, fun c0 => ?_, h.q0⟩
        · simp (disch := first | assumption | omega | decide | (simp only [ma_wd0, ma_wdi, ma_wdr, ma_wdl, ma_wdn] <;> omega)) only [↓reduceIte, evK, evL, evS, evA, evJ, Option.bind_some, Option.toList, List.cons_append, List.nil_append, nI_add, pk_mul, bI0, ite_not, ev_rbb, up_n, up_s, up_u, pk_us, pk_un, Nat.reduceAdd, nI_ltT, nI_ltF, nI_leT, nI_leF, nI_eqT, nI_eqF, en_LH_set, bk_LH_set, gfC, pfC, ce_LH_changeOne, en_LH_changeOne, bk_LH_changeOne, ce_Told_isColumn, t_Told_isColumn, hw1, hc, and_self, not_true_eq_false, ce_LH_within, t_LH_within, h1, not_false_eq_true]
        · simp (disch := first | assumption | omega | decide | (simp only [ma_wd0, ma_wdi, ma_wdr, ma_wdl, ma_wdn] <;> omega)) only [↓reduceIte, evK, evL, evS, evA, evJ, Option.bind_some, Option.toList, List.cons_append, List.nil_append, nI_add, pk_mul, bI0, ite_not, ev_rbb, up_n, up_s, up_u, pk_us, pk_un, Nat.reduceAdd, nI_ltT, nI_ltF, nI_leT, nI_leF, nI_eqT, nI_eqF, en_MO_set, bk_MO_set, gfM, pfM, ce_MO_canSet, en_MO_canSet, bk_MO_canSet, ce_MO_isColumn, t_MO_isColumn, hw2, hc, and_self, not_true_eq_false, ce_MO_isIn, t_MO_isIn, h1, not_false_eq_true]
    · refine ⟨c, _, nI 0, fun m0 => ?_, fun c0 => ?_, h.q0⟩
      · simp (disch := first | assumption | omega | decide | (simp only [ma_wd0, ma_wdi, ma_wdr, ma_wdl, ma_wdn] <;> omega)) only [↓reduceIte, evK, evL, evS, evA, evJ, Option.bind_some, Option.toList, List.cons_append, List.nil_append, nI_add, pk_mul, bI0, ite_not, ev_rbb, up_n, up_s, up_u, pk_us, pk_un, Nat.reduceAdd, nI_ltT, nI_ltF, nI_leT, nI_leF, nI_eqT, nI_eqF, en_LH_set, bk_LH_set, gfC, pfC, ce_LH_changeOne, en_LH_changeOne, bk_LH_changeOne, ce_Told_isColumn, t_Told_isColumn, hw1, hc, not_false_eq_true]
      · simp (disch := first | assumption | omega | decide | (simp only [ma_wd0, ma_wdi, ma_wdr, ma_wdl, ma_wdn] <;> omega)) only [↓reduceIte, evK, evL, evS, evA, evJ, Option.bind_some, Option.toList, List.cons_append, List.nil_append, nI_add, pk_mul, bI0, ite_not, ev_rbb, up_n, up_s, up_u, pk_us, pk_un, Nat.reduceAdd, nI_ltT, nI_ltF, nI_leT, nI_leF, nI_eqT, nI_eqF, en_MO_set, bk_MO_set, gfM, pfM, ce_MO_canSet, en_MO_canSet, bk_MO_canSet, ce_MO_isColumn, t_MO_isColumn, hw2, hc, not_false_eq_true]
  by_cases a3 : a = nI 3
  · subst a3
    by_cases hc : nI 0 ≤ b ∧ b < nI S
    · by_cases h1 : nI 0 ≤ v ∧ v < nI W
      · obtain ⟨kb, hkb, rfl⟩ := rngl (by omega) hc.1 hc.2
        obtain ⟨k, hk, rfl⟩ := rngl (by omega) h1.1 h1.2
        have hJ := j.ua hS hkb hk
        refine ⟨?_, ?_, ?_, fun m0 => ?_, fun c0 => ?_, ?_⟩; rotate_left 3
        · (simp (disch := first | assumption | omega | decide | (simp only [ma_wd0, ma_wdi, ma_wdr, ma_wdl, ma_wdn] <;> omega)) only [↓reduceIte, evK, evL, evS, evA, evJ, Option.bind_some, Option.toList, List.cons_append, List.nil_append, nI_add, pk_mul, bI0, ite_not, ev_rbb, up_n, up_s, up_u, pk_us, pk_un, Nat.reduceAdd, nI_ltT, nI_ltF, nI_leT, nI_leF, nI_eqT, nI_eqF, en_LH_set, bk_LH_set, gfC, pfC, stC, ce_LH_changeOne, en_LH_changeOne, bk_LH_changeOne, ce_Told_isColumn, t_Told_isColumn, ce_Told_isShip, t_Told_isShip, s1, hw1, hc, h1, and_self, not_true_eq_false, ce_Past_forget, en_Past_forget]) <;> rfl
        · (simp (disch := first | assumption | omega | decide | (simp only [ma_wd0, ma_wdi, ma_wdr, ma_wdl, ma_wdn] <;> omega)) only [↓reduceIte, evK, evL, evS, evA, evJ, Option.bind_some, Option.toList, List.cons_append, List.nil_append, nI_add, pk_mul, bI0, ite_not, ev_rbb, up_n, up_s, up_u, pk_us, pk_un, Nat.reduceAdd, nI_ltT, nI_ltF, nI_leT, nI_leF, nI_eqT, nI_eqF, en_MO_set, bk_MO_set, gfM, pfM, stM, ce_MO_canSet, en_MO_canSet, bk_MO_canSet, ce_MO_isColumn, t_MO_isColumn, ce_MO_isShip, t_MO_isShip, s2, hw2, hc, h1, and_self, not_true_eq_false]) <;> rfl
        · refine gR.h t i x (hJ.eq (fun k a b => ?_) ?_ ?_ ?_ ?_) (p.zero ?_ ?_ ?_) (fun k hk => ?_) (fun k a b f e g => ?_) (fun k a b f e => ?_)
          all_goals simp (disch := first | assumption | omega | decide | (simp only [ma_wd0, ma_wdi, ma_wdr, ma_wdl, ma_wdn] <;> omega)) only [up_n, up_s, up_u, pk_us, pk_un, Nat.reduceAdd]
      · refine ⟨c, _, nI 0, fun m0 => ?_, fun c0 => ?_, h.q0⟩
        · simp (disch := first | assumption | omega | decide | (simp only [ma_wd0, ma_wdi, ma_wdr, ma_wdl, ma_wdn] <;> omega)) only [↓reduceIte, evK, evL, evS, evA, evJ, Option.bind_some, Option.toList, List.cons_append, List.nil_append, nI_add, pk_mul, bI0, ite_not, ev_rbb, up_n, up_s, up_u, pk_us, pk_un, Nat.reduceAdd, nI_ltT, nI_ltF, nI_leT, nI_leF, nI_eqT, nI_eqF, en_LH_set, bk_LH_set, gfC, pfC, ce_LH_changeOne, en_LH_changeOne, bk_LH_changeOne, ce_Told_isColumn, t_Told_isColumn, ce_Told_isShip, t_Told_isShip, s1, hw1, hc, and_self, not_true_eq_false, h1, not_false_eq_true]
        · simp (disch := first | assumption | omega | decide | (simp only [ma_wd0, ma_wdi, ma_wdr, ma_wdl, ma_wdn] <;> omega)) only [↓reduceIte, evK, evL, evS, evA, evJ, Option.bind_some, Option.toList, List.cons_append, List.nil_append, nI_add, pk_mul, bI0, ite_not, ev_rbb, up_n, up_s, up_u, pk_us, pk_un, Nat.reduceAdd, nI_ltT, nI_ltF, nI_leT, nI_leF, nI_eqT, nI_eqF, en_MO_set, bk_MO_set, gfM, pfM, ce_MO_canSet, en_MO_canSet, bk_MO_canSet, ce_MO_isColumn, t_MO_isColumn, ce_MO_isShip, t_MO_isShip, s2, hw2, hc, and_self, not_true_eq_false, h1, not_false_eq_true]
    · refine ⟨c, _, nI 0, fun m0 => ?_, fun c0 => ?_, h.q0⟩
      · simp (disch := first | assumption | omega | decide | (simp only [ma_wd0, ma_wdi, ma_wdr, ma_wdl, ma_wdn] <;> omega)) only [↓reduceIte, evK, evL, evS, evA, evJ, Option.bind_some, Option.toList, List.cons_append, List.nil_append, nI_add, pk_mul, bI0, ite_not, ev_rbb, up_n, up_s, up_u, pk_us, pk_un, Nat.reduceAdd, nI_ltT, nI_ltF, nI_leT, nI_leF, nI_eqT, nI_eqF, en_LH_set, bk_LH_set, gfC, pfC, ce_LH_changeOne, en_LH_changeOne, bk_LH_changeOne, ce_Told_isShip, t_Told_isShip, s1, hc, not_false_eq_true]
      · simp (disch := first | assumption | omega | decide | (simp only [ma_wd0, ma_wdi, ma_wdr, ma_wdl, ma_wdn] <;> omega)) only [↓reduceIte, evK, evL, evS, evA, evJ, Option.bind_some, Option.toList, List.cons_append, List.nil_append, nI_add, pk_mul, bI0, ite_not, ev_rbb, up_n, up_s, up_u, pk_us, pk_un, Nat.reduceAdd, nI_ltT, nI_ltF, nI_leT, nI_leF, nI_eqT, nI_eqF, en_MO_set, bk_MO_set, gfM, pfM, ce_MO_canSet, en_MO_canSet, bk_MO_canSet, ce_MO_isShip, t_MO_isShip, s2, hc, not_false_eq_true]
  by_cases a4 : a = nI 4
  · subst a4
    by_cases hc : nI 0 ≤ b ∧ b < nI Q
    · by_cases h1 : nI 0 ≤ v ∧ v < nI W
      · obtain ⟨kb, hkb, rfl⟩ := rngl (by omega) hc.1 hc.2
        obtain ⟨k, hk, rfl⟩ := rngl (by omega) h1.1 h1.2
        refine ⟨?_, ?_, ?_, fun m0 => ?_, fun c0 => ?_, ?_⟩; rotate_left 3
        · (simp (disch := first | assumption | omega | decide | (simp only [ma_wd0, ma_wdi, ma_wdr, ma_wdl, ma_wdn] <;> omega)) only [↓reduceIte, evK, evL, evS, evA, evJ, Option.bind_some, Option.toList, List.cons_append, List.nil_append, nI_add, pk_mul, bI0, ite_not, ev_rbb, up_n, up_s, up_u, pk_us, pk_un, Nat.reduceAdd, nI_ltT, nI_ltF, nI_leT, nI_leF, nI_eqT, nI_eqF, en_LH_set, bk_LH_set, gfC, pfC, stC, ce_LH_changeOne, en_LH_changeOne, bk_LH_changeOne, ce_Told_isColumn, t_Told_isColumn, ce_Told_isPier, t_Told_isPier, q1, hw1, hc, h1, and_self, not_true_eq_false, ce_Past_forget, en_Past_forget]) <;> rfl
        · (simp (disch := first | assumption | omega | decide | (simp only [ma_wd0, ma_wdi, ma_wdr, ma_wdl, ma_wdn] <;> omega)) only [↓reduceIte, evK, evL, evS, evA, evJ, Option.bind_some, Option.toList, List.cons_append, List.nil_append, nI_add, pk_mul, bI0, ite_not, ev_rbb, up_n, up_s, up_u, pk_us, pk_un, Nat.reduceAdd, nI_ltT, nI_ltF, nI_leT, nI_leF, nI_eqT, nI_eqF, en_MO_set, bk_MO_set, gfM, pfM, stM, ce_MO_canSet, en_MO_canSet, bk_MO_canSet, ce_MO_isColumn, t_MO_isColumn, ce_MO_isPier, t_MO_isPier, q2, hw2, hc, h1, and_self, not_true_eq_false]) <;> rfl
        · refine ⟨W, S, Q, ls, ⟨?_, ?_, ?_, ⟨?_, ?_, hQ, fun y hy => ?_⟩, ?_, ?_, ?_, ?_⟩, ⟨Z, j.eq (fun k a b => ?_) ?_ ?_ ?_ ?_⟩, p.zero ?_ ?_ ?_, i.eq ?_ (fun k a b => ?_) ?_ ?_, x.eq ?_ ?_ ?_ ?_ ?_ ?_ ?_ ?_ ?_⟩
          · (have hkp := t.1; unfold aC lC at hkp ⊢; (try (simp (disch := first | assumption | omega | decide | (simp only [ma_wd0, ma_wdi, ma_wdr, ma_wdl, ma_wdn] <;> omega)) only [up_n, up_s, up_u, pk_us, pk_un, Nat.reduceAdd])); exact hkp)
          · (have hkp := t.2.1; unfold aM lM at hkp ⊢; (try (simp (disch := first | assumption | omega | decide | (simp only [ma_wd0, ma_wdi, ma_wdr, ma_wdl, ma_wdn] <;> omega)) only [up_n, up_s, up_u, pk_us, pk_un, Nat.reduceAdd])); exact hkp)
          · (have hkp := t.2.2.1; unfold tS at hkp ⊢; (try (simp (disch := first | assumption | omega | decide | (simp only [ma_wd0, ma_wdi, ma_wdr, ma_wdl, ma_wdn] <;> omega)) only [up_n, up_s, up_u, pk_us, pk_un, Nat.reduceAdd])); exact hkp)
          · simp (disch := first | assumption | omega | decide | (simp only [ma_wd0, ma_wdi, ma_wdr, ma_wdl, ma_wdn] <;> omega)) only [up_n, up_s, up_u, pk_us, pk_un, Nat.reduceAdd]
            exact q1
          · simp (disch := first | assumption | omega | decide | (simp only [ma_wd0, ma_wdi, ma_wdr, ma_wdl, ma_wdn] <;> omega)) only [up_n, up_s, up_u, pk_us, pk_un, Nat.reduceAdd]
            exact q2
          · obtain ⟨k1, e1, hk1, he1, r1, r2, r3, r4⟩ := hq y hy
            by_cases e : y = kb
            · subst e
              simp (disch := first | assumption | omega | decide | (simp only [ma_wd0, ma_wdi, ma_wdr, ma_wdl, ma_wdn] <;> omega)) only [up_n, up_s, up_u, pk_us, pk_un, Nat.reduceAdd]
              exact ⟨k, e1, hk, he1, rfl, rfl, r3, r4⟩
            · simp (disch := first | assumption | omega | decide | (simp only [ma_wd0, ma_wdi, ma_wdr, ma_wdl, ma_wdn] <;> omega)) only [up_n, up_s, up_u, pk_us, pk_un, Nat.reduceAdd]
              exact ⟨k1, e1, hk1, he1, r1, r2, r3, r4⟩
          · (have hkp := t.2.2.2.2.1; unfold tG at hkp ⊢; (try (simp (disch := first | assumption | omega | decide | (simp only [ma_wd0, ma_wdi, ma_wdr, ma_wdl, ma_wdn] <;> omega)) only [up_n, up_s, up_u, pk_us, pk_un, Nat.reduceAdd])); exact hkp)
          · (have hkp := t.2.2.2.2.2.1; unfold tU at hkp ⊢; (try (simp (disch := first | assumption | omega | decide | (simp only [ma_wd0, ma_wdi, ma_wdr, ma_wdl, ma_wdn] <;> omega)) only [up_n, up_s, up_u, pk_us, pk_un, Nat.reduceAdd])); exact hkp)
          · (have hkp := t.2.2.2.2.2.2.1; unfold tO at hkp ⊢; (try (simp (disch := first | assumption | omega | decide | (simp only [ma_wd0, ma_wdi, ma_wdr, ma_wdl, ma_wdn] <;> omega)) only [up_n, up_s, up_u, pk_us, pk_un, Nat.reduceAdd])); exact hkp)
          · (have hkp := t.2.2.2.2.2.2.2; unfold tW at hkp ⊢; (try (simp (disch := first | assumption | omega | decide | (simp only [ma_wd0, ma_wdi, ma_wdr, ma_wdl, ma_wdn] <;> omega)) only [up_n, up_s, up_u, pk_us, pk_un, Nat.reduceAdd])); exact hkp)
          all_goals simp (disch := first | assumption | omega | decide | (simp only [ma_wd0, ma_wdi, ma_wdr, ma_wdl, ma_wdn] <;> omega)) only [up_n, up_s, up_u, pk_us, pk_un, Nat.reduceAdd]
      · refine ⟨c, _, nI 0, fun m0 => ?_, fun c0 => ?_, h.q0⟩
        · simp (disch := first | assumption | omega | decide | (simp only [ma_wd0, ma_wdi, ma_wdr, ma_wdl, ma_wdn] <;> omega)) only [↓reduceIte, evK, evL, evS, evA, evJ, Option.bind_some, Option.toList, List.cons_append, List.nil_append, nI_add, pk_mul, bI0, ite_not, ev_rbb, up_n, up_s, up_u, pk_us, pk_un, Nat.reduceAdd, nI_ltT, nI_ltF, nI_leT, nI_leF, nI_eqT, nI_eqF, en_LH_set, bk_LH_set, gfC, pfC, ce_LH_changeOne, en_LH_changeOne, bk_LH_changeOne, ce_Told_isColumn, t_Told_isColumn, ce_Told_isPier, t_Told_isPier, q1, hw1, hc, and_self, not_true_eq_false, h1, not_false_eq_true]
        · simp (disch := first | assumption | omega | decide | (simp only [ma_wd0, ma_wdi, ma_wdr, ma_wdl, ma_wdn] <;> omega)) only [↓reduceIte, evK, evL, evS, evA, evJ, Option.bind_some, Option.toList, List.cons_append, List.nil_append, nI_add, pk_mul, bI0, ite_not, ev_rbb, up_n, up_s, up_u, pk_us, pk_un, Nat.reduceAdd, nI_ltT, nI_ltF, nI_leT, nI_leF, nI_eqT, nI_eqF, en_MO_set, bk_MO_set, gfM, pfM, ce_MO_canSet, en_MO_canSet, bk_MO_canSet, ce_MO_isColumn, t_MO_isColumn, ce_MO_isPier, t_MO_isPier, q2, hw2, hc, and_self, not_true_eq_false, h1, not_false_eq_true]
    · refine ⟨c, _, nI 0, fun m0 => ?_, fun c0 => ?_, h.q0⟩
      · simp (disch := first | assumption | omega | decide | (simp only [ma_wd0, ma_wdi, ma_wdr, ma_wdl, ma_wdn] <;> omega)) only [↓reduceIte, evK, evL, evS, evA, evJ, Option.bind_some, Option.toList, List.cons_append, List.nil_append, nI_add, pk_mul, bI0, ite_not, ev_rbb, up_n, up_s, up_u, pk_us, pk_un, Nat.reduceAdd, nI_ltT, nI_ltF, nI_leT, nI_leF, nI_eqT, nI_eqF, en_LH_set, bk_LH_set, gfC, pfC, ce_LH_changeOne, en_LH_changeOne, bk_LH_changeOne, ce_Told_isPier, t_Told_isPier, q1, hc, not_false_eq_true]
      · simp (disch := first | assumption | omega | decide | (simp only [ma_wd0, ma_wdi, ma_wdr, ma_wdl, ma_wdn] <;> omega)) only [↓reduceIte, evK, evL, evS, evA, evJ, Option.bind_some, Option.toList, List.cons_append, List.nil_append, nI_add, pk_mul, bI0, ite_not, ev_rbb, up_n, up_s, up_u, pk_us, pk_un, Nat.reduceAdd, nI_ltT, nI_ltF, nI_leT, nI_leF, nI_eqT, nI_eqF, en_MO_set, bk_MO_set, gfM, pfM, ce_MO_canSet, en_MO_canSet, bk_MO_canSet, ce_MO_isPier, t_MO_isPier, q2, hc, not_false_eq_true]
  refine ⟨c, _, nI 0, fun m0 => ?_, fun c0 => ?_, h.q0⟩
  · by_cases h2 : a < nI 2
    · simp (disch := first | assumption | omega | decide | (simp only [ma_wd0, ma_wdi, ma_wdr, ma_wdl, ma_wdn] <;> omega)) only [↓reduceIte, evK, evL, evS, evA, evJ, Option.bind_some, Option.toList, List.cons_append, List.nil_append, nI_add, pk_mul, bI0, ite_not, ev_rbb, up_n, up_s, up_u, pk_us, pk_un, Nat.reduceAdd, nI_ltT, nI_ltF, nI_leT, nI_leF, nI_eqT, nI_eqF, en_LH_set, bk_LH_set, gfC, ce_LH_changeRule, en_LH_changeRule, bk_LH_changeRule, h2, a0, a1]
    · simp (disch := first | assumption | omega | decide | (simp only [ma_wd0, ma_wdi, ma_wdr, ma_wdl, ma_wdn] <;> omega)) only [↓reduceIte, evK, evL, evS, evA, evJ, Option.bind_some, Option.toList, List.cons_append, List.nil_append, nI_add, pk_mul, bI0, ite_not, ev_rbb, up_n, up_s, up_u, pk_us, pk_un, Nat.reduceAdd, nI_ltT, nI_ltF, nI_leT, nI_leF, nI_eqT, nI_eqF, en_LH_set, bk_LH_set, gfC, ce_LH_changeOne, en_LH_changeOne, bk_LH_changeOne, h2, a2, a3, a4]
  · simp (disch := first | assumption | omega | decide | (simp only [ma_wd0, ma_wdi, ma_wdr, ma_wdl, ma_wdn] <;> omega)) only [↓reduceIte, evK, evL, evS, evA, evJ, Option.bind_some, Option.toList, List.cons_append, List.nil_append, nI_add, pk_mul, bI0, ite_not, ev_rbb, up_n, up_s, up_u, pk_us, pk_un, Nat.reduceAdd, nI_ltT, nI_ltF, nI_leT, nI_leF, nI_eqT, nI_eqF, en_MO_set, bk_MO_set, gfM, pfM, ce_MO_canSet, en_MO_canSet, bk_MO_canSet, a0, a1, a2, a3, a4]
/-- a new sea -/
def bL (c : Nat → Nat → Int32) (i : Nat) : Nat → Nat → Int32 := va_up (va_up c 18 (fun j => if j < i then nI 10 else c 18 j)) 19 (fun j => if j < i then nI 0 else c 19 j)
theorem t_Line_begin (d : Nat) : cc sc d 64 [.ref 17] (hp c w m) = some (none, hp (va_up (bL c 14) 17 (upd (upd (upd (upd (c 17) 4 (nI 0)) 5 (nI 0)) 6 (nI 0)) 8 (nI 0))) w m) := by
  have hl := run_loop (fun i h => ev sc d 64 (pm_blk 64 2) [some (.ref 17), some (.int (nI i))] [] h) (fun i => hp (bL c i) w m) 14 (by
    intro i hi
    conv => lhs; rw [bh_Line_begin_2]
    simp only [bL]
    simp (disch := first | assumption | omega | decide | (simp only [ma_wd0, ma_wdi, ma_wdr, ma_wdl, ma_wdn] <;> omega)) only [↓reduceIte, evK, evL, evS, evA, evJ, Option.bind_some, Option.toList, List.cons_append, List.nil_append, nI_add, pk_mul, bI0, ite_not, ev_rbb, up_n, up_s, up_u, pk_us, pk_un, Nat.reduceAdd, nI_ltT, nI_ltF, nI_leT, nI_leF, nI_eqT, nI_eqF, gfC, stC]
    have e1 : upd (fun j => if j < i then nI 10 else c 18 j) i (nI 10) = (fun j => if j < i + 1 then nI 10 else c 18 j) := by
      funext j
      simp only [upd]
      repeat' split
      all_goals first | rfl | (exfalso; omega)
    have e2 : upd (fun j => if j < i then nI 0 else c 19 j) i (nI 0) = (fun j => if j < i + 1 then nI 0 else c 19 j) := by
      funext j
      simp only [upd]
      repeat' split
      all_goals first | rfl | (exfalso; omega)
    rw [e1, e2, up_c _ 19 18 _ _ (by omega), up_u, up_u])
  have h0 : bL c 0 = c := by
    unfold bL
    rw [show (fun j => if j < 0 then nI 10 else c 18 j) = c 18 from by funext j; rw [if_neg (by omega)], show (fun j => if j < 0 then nI 0 else c 19 j) = c 19 from by funext j; rw [if_neg (by omega)], up_self, up_self]
  rw [h0] at hl
  simp (disch := first | assumption | omega | decide | (simp only [ma_wd0, ma_wdi, ma_wdr, ma_wdl, ma_wdn] <;> omega)) only [↓reduceIte, evK, evL, evS, evA, evJ, Option.bind_some, Option.toList, List.cons_append, List.nil_append, nI_add, pk_mul, bI0, ite_not, ev_rbb, up_n, up_s, up_u, pk_us, pk_un, Nat.reduceAdd, nI_ltT, nI_ltF, nI_leT, nI_leF, nI_eqT, nI_eqF, en_Line_begin, hl]
  rw [bh_Line_begin_2]
  have e17 : bL c 14 17 = c 17 := by unfold bL; simp (disch := first | assumption | omega | decide | (simp only [ma_wd0, ma_wdi, ma_wdr, ma_wdl, ma_wdn] <;> omega)) only [up_n, up_s, up_u, pk_us, pk_un, Nat.reduceAdd]
  simp (disch := first | assumption | omega | decide | (simp only [ma_wd0, ma_wdi, ma_wdr, ma_wdl, ma_wdn] <;> omega)) only [↓reduceIte, evK, evL, evS, evA, evJ, Option.bind_some, Option.toList, List.cons_append, List.nil_append, nI_add, pk_mul, bI0, ite_not, ev_rbb, up_n, up_s, up_u, pk_us, pk_un, Nat.reduceAdd, nI_ltT, nI_ltF, nI_leT, nI_leF, nI_eqT, nI_eqF, bk_Line_begin, pfC, e17]
theorem t_sea_loop (d : Nat) (x : Value) : ev sc d 163 (pm_blk 163 70) [some (.ref 138), some x, some (.int (nI 0))] [] (hp c w m) = some (some (.int (nI 1)), hp c w (va_up (va_up m 139 (fun j => if j < 49 ∧ j ≠ 1 then nI 0 else m 139 j)) 138 (upd (m 138) 3 (nI 0)))) := by
  have hl := run_loop (fun i h => ev sc d 163 (pm_blk 163 70) [some (.ref 138), some x, some (.int (nI i))] [] h) (fun i => hp c w (va_up m 139 (fun j => if j < i ∧ j ≠ 1 then nI 0 else m 139 j))) 49 (by
    intro i hi
    conv => lhs; rw [bh_MO_sea_70]
    by_cases e : i = 1
    · subst e
      have e1 : (fun j => if j < 1 ∧ j ≠ 1 then nI 0 else m 139 j) = (fun j => if j < 1 + 1 ∧ j ≠ 1 then nI 0 else m 139 j) := by
        funext j
        repeat' split
        all_goals first | rfl | (exfalso; omega)
      simp (disch := first | assumption | omega | decide | (simp only [ma_wd0, ma_wdi, ma_wdr, ma_wdl, ma_wdn] <;> omega)) only [↓reduceIte, evK, evL, evS, evA, evJ, Option.bind_some, Option.toList, List.cons_append, List.nil_append, nI_add, pk_mul, bI0, ite_not, ev_rbb, up_n, up_s, up_u, pk_us, pk_un, Nat.reduceAdd, nI_ltT, nI_ltF, nI_leT, nI_leF, nI_eqT, nI_eqF, bk_MO_sea, gfM, stM]
      rw [e1]
    · have e1 : upd (fun j => if j < i ∧ j ≠ 1 then nI 0 else m 139 j) i (nI 0) = (fun j => if j < i + 1 ∧ j ≠ 1 then nI 0 else m 139 j) := by
        funext j
        simp only [upd]
        repeat' split
        all_goals first | rfl | (exfalso; omega)
      simp (disch := first | assumption | omega | decide | (simp only [ma_wd0, ma_wdi, ma_wdr, ma_wdl, ma_wdn] <;> omega)) only [↓reduceIte, evK, evL, evS, evA, evJ, Option.bind_some, Option.toList, List.cons_append, List.nil_append, nI_add, pk_mul, bI0, ite_not, ev_rbb, up_n, up_s, up_u, pk_us, pk_un, Nat.reduceAdd, nI_ltT, nI_ltF, nI_leT, nI_leF, nI_eqT, nI_eqF, bk_MO_sea, gfM, stM, e1])
  have h0 : va_up m 139 (fun j => if j < 0 ∧ j ≠ 1 then nI 0 else m 139 j) = m := by
    rw [show (fun j => if j < 0 ∧ j ≠ 1 then nI 0 else m 139 j) = m 139 from by funext j; rw [if_neg (by omega)], up_self]
  rw [h0] at hl
  rw [hl, bh_MO_sea_70]
  simp (disch := first | assumption | omega | decide | (simp only [ma_wd0, ma_wdi, ma_wdr, ma_wdl, ma_wdn] <;> omega)) only [↓reduceIte, evK, evL, evS, evA, evJ, Option.bind_some, Option.toList, List.cons_append, List.nil_append, nI_add, pk_mul, bI0, ite_not, ev_rbb, up_n, up_s, up_u, pk_us, pk_un, Nat.reduceAdd, nI_ltT, nI_ltF, nI_leT, nI_leF, nI_eqT, nI_eqF, bk_MO_sea, pfM]
theorem p_sea (d : Nat) (a : Int32) (h : gR c m) : pub sc w (d + 20) 2 163 [.int a] c m := by
  obtain ⟨W, S, Q, ls, Z, t, j, p, i, x⟩ := h.e
  by_cases h1 : nI 3 ≤ a ∧ a ≤ nI 14
  · obtain ⟨k, hk3, hk, rfl⟩ := rng (by omega) h1.1 h1.2 (by omega)
    have z1 : c 17 7 = Z 0 1 := j.1.1.2.1
    have z2 : m 139 1 = Z 0 1 := j.2.1.1.2.1
    refine ⟨?_, ?_, ?_, fun m0 => ?_, fun c0 => ?_, ?_⟩; rotate_left 3
    · (simp (disch := first | assumption | omega | decide | (simp only [ma_wd0, ma_wdi, ma_wdr, ma_wdl, ma_wdn] <;> omega)) only [↓reduceIte, evK, evL, evS, evA, evJ, Option.bind_some, Option.toList, List.cons_append, List.nil_append, nI_add, pk_mul, bI0, ite_not, ev_rbb, up_n, up_s, up_u, pk_us, pk_un, Nat.reduceAdd, nI_ltT, nI_ltF, nI_leT, nI_leF, nI_eqT, nI_eqF, en_LH_sea, bk_LH_sea, gfC, pfC, h1, and_self, not_true_eq_false, ce_LH_within, t_LH_within, ce_Told_begin, en_Told_begin, ce_Law_empty, en_Law_empty, ce_Line_begin, t_Line_begin, ce_Past_forget, en_Past_forget]) <;> rfl
    · (simp (disch := first | assumption | omega | decide | (simp only [ma_wd0, ma_wdi, ma_wdr, ma_wdl, ma_wdn] <;> omega)) only [↓reduceIte, evK, evL, evS, evA, evJ, Option.bind_some, Option.toList, List.cons_append, List.nil_append, nI_add, pk_mul, bI0, ite_not, ev_rbb, up_n, up_s, up_u, pk_us, pk_un, Nat.reduceAdd, nI_ltT, nI_ltF, nI_leT, nI_leF, nI_eqT, nI_eqF, en_MO_sea, bk_MO_sea, gfM, pfM, stM, h1, and_self, not_true_eq_false, ce_MO_isIn, t_MO_isIn, t_sea_loop]) <;> rfl
    · refine ⟨k, 0, 0, [], ⟨⟨⟨?_, by simp, fun i l hl => by simp at hl⟩, ?_, hk3, hk⟩, ⟨⟨?_, by simp, fun i l hl => by simp at hl⟩, ?_, hk3, hk⟩, ⟨?_, ?_, by omega, fun j hj => by omega⟩, ⟨?_, ?_, by omega, fun j hj => by omega⟩, ⟨3, 0, by omega, by omega, by omega, ?_, ?_, ?_, ?_⟩, ⟨0, by omega, ?_, ?_, fun j hj => by omega⟩, ⟨0, by omega, ?_, ?_, fun j hj => by omega⟩, ⟨0, by omega, ?_, ?_, fun j hj => by omega⟩⟩, ⟨fun r j => if r = 0 then (if j = 1 then Z 0 1 else if 5 ≤ j ∧ j < 19 then nI 10 else nI 0) else Z r j, ⟨⟨?_, ?_, ?_, ?_, ?_⟩, fun j hj => ?_, fun j hj => ?_, fun j hj => by omega, fun j hj => by omega⟩, ⟨⟨?_, ?_, ?_, ?_, ?_⟩, fun j hj => ?_, fun j hj => ?_, fun j hj => by omega, fun j hj => by omega⟩, ⟨fun j hj => ?_, fun j hj => ?_, fun j hj => by omega, 0, by omega, ?_⟩, fun k hk => ?_, Or.inl ⟨rfl, ?_⟩⟩, p.zero ?_ ?_ ?_, i.eq ?_ (fun k a b => ?_) ?_ ?_, x.eq ?_ ?_ ?_ ?_ ?_ ?_ ?_ ?_ ?_⟩
      all_goals try simp only [bL]
      all_goals try (simp (disch := first | assumption | omega | decide | (simp only [ma_wd0, ma_wdi, ma_wdr, ma_wdl, ma_wdn] <;> omega)) only [up_n, up_s, up_u, pk_us, pk_un, Nat.reduceAdd, if_pos, if_neg])
      all_goals first | rfl | exact nI_sa _ | exact z1 | exact z2 | decide +kernel | exact j.2.2.2.1 _ hk | exact j.t17
  · refine ⟨c, _, nI 0, fun m0 => ?_, fun c0 => ?_, h.q0⟩
    · simp (disch := first | assumption | omega | decide | (simp only [ma_wd0, ma_wdi, ma_wdr, ma_wdl, ma_wdn] <;> omega)) only [↓reduceIte, evK, evL, evS, evA, evJ, Option.bind_some, Option.toList, List.cons_append, List.nil_append, nI_add, pk_mul, bI0, ite_not, ev_rbb, up_n, up_s, up_u, pk_us, pk_un, Nat.reduceAdd, nI_ltT, nI_ltF, nI_leT, nI_leF, nI_eqT, nI_eqF, en_LH_sea, bk_LH_sea, h1, not_false_eq_true, ce_LH_within, t_LH_within]
    · simp (disch := first | assumption | omega | decide | (simp only [ma_wd0, ma_wdi, ma_wdr, ma_wdl, ma_wdn] <;> omega)) only [↓reduceIte, evK, evL, evS, evA, evJ, Option.bind_some, Option.toList, List.cons_append, List.nil_append, nI_add, pk_mul, bI0, ite_not, ev_rbb, up_n, up_s, up_u, pk_us, pk_un, Nat.reduceAdd, nI_ltT, nI_ltF, nI_leT, nI_leF, nI_eqT, nI_eqF, en_MO_sea, bk_MO_sea, pfM, h1, not_false_eq_true, ce_MO_isIn, t_MO_isIn]
end P4
