/-! ===== state, ship, pier, sunset, fee, fault, end ===== -/
theorem rng {x : Int32} {a b : Nat} (hb : b < 2 ^ 31) (h1 : nI a ≤ x) (h2 : x ≤ nI b) (ha : a < 2 ^ 31) : ∃ k, a ≤ k ∧ k ≤ b ∧ x = nI k := by
  simp only [Int32.le_iff_toInt_le] at h1 h2
  rw [nI_toInt ha] at h1
  rw [nI_toInt hb] at h2
  obtain ⟨k, hk, rfl⟩ := nI_ex (n := b) (v := x) (by omega)
  rw [nI_toInt (by omega)] at h1
  exact ⟨k, by omega, hk, rfl⟩
theorem rngl {x : Int32} {b : Nat} (hb : b < 2 ^ 31) (h1 : nI 0 ≤ x) (h2 : x < nI b) : ∃ k, k < b ∧ x = nI k := by
  simp only [Int32.le_iff_toInt_le, Int32.lt_iff_toInt_lt] at h1 h2
  rw [nI_toInt (by omega)] at h1
  rw [nI_toInt hb] at h2
  obtain ⟨k, hk, rfl⟩ := nI_ex (n := b) (v := x) (by omega)
  rw [nI_toInt (by omega)] at h2
  exact ⟨k, by omega, rfl⟩
theorem zC.ext {a S : Nat} {c Z : Nat → Nat → Int32} (h : zC a c Z S) (hS : S < 8) (v u : Int32) : zC a (va_up (va_up c (a + 3) (upd (c (a + 3)) S v)) (a + 4) (upd (c (a + 4)) S u)) (zs (zs Z (33 + S) v) (41 + S) u) (S + 1) := by
  obtain ⟨⟨h1, h2, h3, h4, h5⟩, h6, h7, h8, h9⟩ := h
  refine ⟨?_, fun j hj => ?_, fun j hj => ?_, fun j hj => ?_, fun j hj => ?_⟩
  · simp (disch := first | assumption | omega | decide | (simp only [ma_wd0, ma_wdi, ma_wdr, ma_wdl, ma_wdn] <;> omega)) only [up_n, up_s, up_u, pk_us, pk_un, Nat.reduceAdd, zs_n]
    exact ⟨h1, h2, h3, h4, h5⟩
  · simp (disch := first | assumption | omega | decide | (simp only [ma_wd0, ma_wdi, ma_wdr, ma_wdl, ma_wdn] <;> omega)) only [up_n, up_s, up_u, pk_us, pk_un, Nat.reduceAdd, zs_n]
    exact h6 j hj
  · simp (disch := first | assumption | omega | decide | (simp only [ma_wd0, ma_wdi, ma_wdr, ma_wdl, ma_wdn] <;> omega)) only [up_n, up_s, up_u, pk_us, pk_un, Nat.reduceAdd, zs_n]
    exact h7 j hj
  · by_cases e : j = S
    · subst e
      simp (disch := first | assumption | omega | decide | (simp only [ma_wd0, ma_wdi, ma_wdr, ma_wdl, ma_wdn] <;> omega)) only [up_n, up_s, up_u, pk_us, pk_un, Nat.reduceAdd, zs_n, zs_0]
    · simp (disch := first | assumption | omega | decide | (simp only [ma_wd0, ma_wdi, ma_wdr, ma_wdl, ma_wdn] <;> omega)) only [up_n, up_s, up_u, pk_us, pk_un, Nat.reduceAdd, zs_n]
      exact h8 j (by omega)
  · by_cases e : j = S
    · subst e
      simp (disch := first | assumption | omega | decide | (simp only [ma_wd0, ma_wdi, ma_wdr, ma_wdl, ma_wdn] <;> omega)) only [up_n, up_s, up_u, pk_us, pk_un, Nat.reduceAdd, zs_n, zs_0]
    · simp (disch := first | assumption | omega | decide | (simp only [ma_wd0, ma_wdi, ma_wdr, ma_wdl, ma_wdn] <;> omega)) only [up_n, up_s, up_u, pk_us, pk_un, Nat.reduceAdd, zs_n]
      exact h9 j (by omega)
theorem zM.ext {S : Nat} {m Z : Nat → Nat → Int32} (h : zM m Z S) (hS : S < 8) (v u : Int32) : zM (va_up m 139 (upd (upd (m 139) (33 + S) v) (41 + S) u)) (zs (zs Z (33 + S) v) (41 + S) u) (S + 1) := by
  obtain ⟨⟨h1, h2, h3, h4, h5⟩, h6, h7, h8, h9⟩ := h
  refine ⟨?_, fun j hj => ?_, fun j hj => ?_, fun j hj => ?_, fun j hj => ?_⟩
  · simp (disch := first | assumption | omega | decide | (simp only [ma_wd0, ma_wdi, ma_wdr, ma_wdl, ma_wdn] <;> omega)) only [up_n, up_s, up_u, pk_us, pk_un, Nat.reduceAdd, zs_n]
    exact ⟨h1, h2, h3, h4, h5⟩
  · simp (disch := first | assumption | omega | decide | (simp only [ma_wd0, ma_wdi, ma_wdr, ma_wdl, ma_wdn] <;> omega)) only [up_n, up_s, up_u, pk_us, pk_un, Nat.reduceAdd, zs_n]
    exact h6 j hj
  · simp (disch := first | assumption | omega | decide | (simp only [ma_wd0, ma_wdi, ma_wdr, ma_wdl, ma_wdn] <;> omega)) only [up_n, up_s, up_u, pk_us, pk_un, Nat.reduceAdd, zs_n]
    exact h7 j hj
  · by_cases e : j = S
    · subst e
      simp (disch := first | assumption | omega | decide | (simp only [ma_wd0, ma_wdi, ma_wdr, ma_wdl, ma_wdn] <;> omega)) only [up_n, up_s, up_u, pk_us, pk_un, Nat.reduceAdd, zs_n, zs_0]
    · simp (disch := first | assumption | omega | decide | (simp only [ma_wd0, ma_wdi, ma_wdr, ma_wdl, ma_wdn] <;> omega)) only [up_n, up_s, up_u, pk_us, pk_un, Nat.reduceAdd, zs_n]
      exact h8 j (by omega)
  · by_cases e : j = S
    · subst e
      simp (disch := first | assumption | omega | decide | (simp only [ma_wd0, ma_wdi, ma_wdr, ma_wdl, ma_wdn] <;> omega)) only [up_n, up_s, up_u, pk_us, pk_un, Nat.reduceAdd, zs_n, zs_0]
    · simp (disch := first | assumption | omega | decide | (simp only [ma_wd0, ma_wdi, ma_wdr, ma_wdl, ma_wdn] <;> omega)) only [up_n, up_s, up_u, pk_us, pk_un, Nat.reduceAdd, zs_n]
      exact h9 j (by omega)
theorem zI.ext {W S k : Nat} {Z : Nat → Nat → Int32} (h : zI W S Z) (hS : S < 8) (hk : k < W) (u : Int32) : zI W (S + 1) (zs (zs Z (33 + S) (nI k)) (41 + S) u) := by
  obtain ⟨h1, h2, h3, h4⟩ := h
  refine ⟨fun j hj => ?_, fun j hj => ?_, fun j hj => ?_, ?_⟩
  · simp (disch := first | assumption | omega | decide | (simp only [ma_wd0, ma_wdi, ma_wdr, ma_wdl, ma_wdn] <;> omega)) only [zs_n]
    exact h1 j hj
  · simp (disch := first | assumption | omega | decide | (simp only [ma_wd0, ma_wdi, ma_wdr, ma_wdl, ma_wdn] <;> omega)) only [zs_n]
    exact h2 j hj
  · by_cases e : j = S
    · subst e
      simp (disch := first | assumption | omega | decide | (simp only [ma_wd0, ma_wdi, ma_wdr, ma_wdl, ma_wdn] <;> omega)) only [zs_n, zs_0]
      exact ⟨k, hk, rfl⟩
    · simp (disch := first | assumption | omega | decide | (simp only [ma_wd0, ma_wdi, ma_wdr, ma_wdl, ma_wdn] <;> omega)) only [zs_n]
      exact h3 j (by omega)
  · simp (disch := first | assumption | omega | decide | (simp only [ma_wd0, ma_wdi, ma_wdr, ma_wdl, ma_wdn] <;> omega)) only [zs_n]
    exact h4
theorem jR.t17 {W S : Nat} {c m Z : Nat → Nat → Int32} (h : jR 17 W S c m Z) : m 138 5 = nI 0 := h.2.2.2.2.elim (fun z => z.2) (fun z => absurd z.1 (by omega))
section P1
variable {sc : Nat × (Nat → Int32)} {c m : Nat → Nat → Int32} {w : Nat → Int64}
theorem p_state (d : Nat) (v : Int32) (h : gR c m) : pub sc w (d + 20) 1 162 [.int v] c m := by
  obtain ⟨W, S, Q, ls, t, ⟨Z, j⟩, p, i, x⟩ := h
  have hS := t.2.2.1.2.2.1
  have e1 : c 17 7 = Z 0 1 := j.1.1.2.1
  have e2 : m 139 1 = Z 0 1 := j.2.1.1.2.1
  have hJ := (j.s.uf hS (f := 7) (i := 1) v (by omega)).1
  refine ⟨?_, ?_, ?_, fun m0 => ?_, fun c0 => ?_, ?_⟩; rotate_left 3
  · (simp (disch := first | assumption | omega | decide | (simp only [ma_wd0, ma_wdi, ma_wdr, ma_wdl, ma_wdn] <;> omega)) only [↓reduceIte, evK, evL, evS, evA, evJ, Option.bind_some, Option.toList, List.cons_append, List.nil_append, nI_add, pk_mul, bI0, ite_not, ev_rbb, up_n, up_s, up_u, pk_us, pk_un, Nat.reduceAdd, nI_ltT, nI_ltF, nI_leT, nI_leF, nI_eqT, nI_eqF, en_LH_state, gfC, pfC, e1, ce_Past_forget, en_Past_forget]) <;> rfl
  · (simp (disch := first | assumption | omega | decide | (simp only [ma_wd0, ma_wdi, ma_wdr, ma_wdl, ma_wdn] <;> omega)) only [↓reduceIte, evK, evL, evS, evA, evJ, Option.bind_some, Option.toList, List.cons_append, List.nil_append, nI_add, pk_mul, bI0, ite_not, ev_rbb, up_n, up_s, up_u, pk_us, pk_un, Nat.reduceAdd, nI_ltT, nI_ltF, nI_leT, nI_leF, nI_eqT, nI_eqF, en_MO_state, gfM, pfM, ldM, stM, e2]) <;> rfl
  · refine gR.h t i x (hJ.eq (fun k a b => ?_) ?_ ?_ ?_ ?_) (p.zero ?_ ?_ ?_) (fun k hk => ?_) (fun k a b f e g => ?_) (fun k a b f e => ?_)
    all_goals simp (disch := first | assumption | omega | decide | (simp only [ma_wd0, ma_wdi, ma_wdr, ma_wdl, ma_wdn] <;> omega)) only [up_n, up_s, up_u, pk_us, pk_un, Nat.reduceAdd]
theorem p_ship (d : Nat) (a b : Int32) (h : gR c m) : pub sc w (d + 20) 4 165 [.int a, .int b] c m := by
  obtain ⟨W, S, Q, ls, t, ⟨Z, j⟩, p, i, x⟩ := id h
  obtain ⟨s1, s2, hS, hd⟩ := t.2.2.1
  have hw1 := t.1.2.1
  have hw2 := t.2.1.2.1
  have hW := t.1.2.2.2
  by_cases h1 : nI 0 ≤ a ∧ a < nI W
  · obtain ⟨ka, hka, rfl⟩ := rngl (by omega) h1.1 h1.2
    by_cases h2 : nI 0 ≤ b ∧ b ≤ nI 40
    · obtain ⟨kb, -, hkb, rfl⟩ := rng (by omega) h2.1 h2.2 (by omega)
      by_cases h3 : S = 8
      · subst h3
        refine ⟨c, _, -1, fun m0 => ?_, fun c0 => ?_, h.q0⟩
        · simp (disch := first | assumption | omega | decide | (simp only [ma_wd0, ma_wdi, ma_wdr, ma_wdl, ma_wdn] <;> omega)) only [↓reduceIte, evK, evL, evS, evA, evJ, Option.bind_some, Option.toList, List.cons_append, List.nil_append, nI_add, pk_mul, bI0, ite_not, ev_rbb, up_n, up_s, up_u, pk_us, pk_un, Nat.reduceAdd, nI_ltT, nI_ltF, nI_leT, nI_leF, nI_eqT, nI_eqF, en_LH_ship, bk_LH_ship, gfC, ce_Told_isColumn, t_Told_isColumn, hw1, s1, h1, h2, and_self, not_true_eq_false, ce_LH_within, t_LH_within]
        · simp (disch := first | assumption | omega | decide | (simp only [ma_wd0, ma_wdi, ma_wdr, ma_wdl, ma_wdn] <;> omega)) only [↓reduceIte, evK, evL, evS, evA, evJ, Option.bind_some, Option.toList, List.cons_append, List.nil_append, nI_add, pk_mul, bI0, ite_not, ev_rbb, up_n, up_s, up_u, pk_us, pk_un, Nat.reduceAdd, nI_ltT, nI_ltF, nI_leT, nI_leF, nI_eqT, nI_eqF, en_MO_ship, bk_MO_ship, gfM, pfM, ce_MO_isColumn, t_MO_isColumn, hw2, s2, h1, h2, and_self, not_true_eq_false, ce_MO_isIn, t_MO_isIn]
      · refine ⟨?_, ?_, ?_, fun m0 => ?_, fun c0 => ?_, ?_⟩; rotate_left 3
        · (simp (disch := first | assumption | omega | decide | (simp only [ma_wd0, ma_wdi, ma_wdr, ma_wdl, ma_wdn] <;> omega)) only [↓reduceIte, evK, evL, evS, evA, evJ, Option.bind_some, Option.toList, List.cons_append, List.nil_append, nI_add, pk_mul, bI0, ite_not, ev_rbb, up_n, up_s, up_u, pk_us, pk_un, Nat.reduceAdd, nI_ltT, nI_ltF, nI_leT, nI_leF, nI_eqT, nI_eqF, en_LH_ship, bk_LH_ship, gfC, pfC, stC, ce_Told_isColumn, t_Told_isColumn, hw1, s1, h1, h2, and_self, not_true_eq_false, ce_LH_within, t_LH_within, ce_Past_forget, en_Past_forget]) <;> rfl
        · (simp (disch := first | assumption | omega | decide | (simp only [ma_wd0, ma_wdi, ma_wdr, ma_wdl, ma_wdn] <;> omega)) only [↓reduceIte, evK, evL, evS, evA, evJ, Option.bind_some, Option.toList, List.cons_append, List.nil_append, nI_add, pk_mul, bI0, ite_not, ev_rbb, up_n, up_s, up_u, pk_us, pk_un, Nat.reduceAdd, nI_ltT, nI_ltF, nI_leT, nI_leF, nI_eqT, nI_eqF, en_MO_ship, bk_MO_ship, gfM, pfM, stM, ce_MO_isColumn, t_MO_isColumn, hw2, s2, h1, h2, and_self, not_true_eq_false, ce_MO_isIn, t_MO_isIn, pk_sub, Nat.add_sub_cancel]) <;> rfl
        · refine ⟨W, S + 1, Q, ls, ⟨?_, ?_, ⟨?_, ?_, by omega, fun k hk => ?_⟩, ?_, ?_, ?_, ?_, ?_⟩, ⟨zs (zs Z (33 + S) (nI ka)) (41 + S) (nI 0), ?_, ?_, j.2.2.1.ext (by omega) hka _, fun k hk => ?_, Or.inl ⟨rfl, ?_⟩⟩, p.zero ?_ ?_ ?_, i.eq ?_ (fun k a b => ?_) ?_ ?_, x.eq ?_ ?_ ?_ ?_ ?_ ?_ ?_ ?_ ?_⟩
          · (have hkp := t.1; unfold aC lC at hkp ⊢; (try (simp (disch := first | assumption | omega | decide | (simp only [ma_wd0, ma_wdi, ma_wdr, ma_wdl, ma_wdn] <;> omega)) only [up_n, up_s, up_u, pk_us, pk_un, Nat.reduceAdd])); exact hkp)
          · (have hkp := t.2.1; unfold aM lM at hkp ⊢; (try (simp (disch := first | assumption | omega | decide | (simp only [ma_wd0, ma_wdi, ma_wdr, ma_wdl, ma_wdn] <;> omega)) only [up_n, up_s, up_u, pk_us, pk_un, Nat.reduceAdd])); exact hkp)
          · simp (disch := first | assumption | omega | decide | (simp only [ma_wd0, ma_wdi, ma_wdr, ma_wdl, ma_wdn] <;> omega)) only [up_n, up_s, up_u, pk_us, pk_un, Nat.reduceAdd]
          · simp (disch := first | assumption | omega | decide | (simp only [ma_wd0, ma_wdi, ma_wdr, ma_wdl, ma_wdn] <;> omega)) only [up_n, up_s, up_u, pk_us, pk_un, Nat.reduceAdd]
          · by_cases e : k = S
            · subst e
              simp (disch := first | assumption | omega | decide | (simp only [ma_wd0, ma_wdi, ma_wdr, ma_wdl, ma_wdn] <;> omega)) only [up_n, up_s, up_u, pk_us, pk_un, Nat.reduceAdd]
              exact ⟨kb, hkb, rfl, rfl⟩
            · simp (disch := first | assumption | omega | decide | (simp only [ma_wd0, ma_wdi, ma_wdr, ma_wdl, ma_wdn] <;> omega)) only [up_n, up_s, up_u, pk_us, pk_un, Nat.reduceAdd]
              exact hd k (by omega)
          · (have hkp := t.2.2.2.1; unfold tQ at hkp ⊢; (try (simp (disch := first | assumption | omega | decide | (simp only [ma_wd0, ma_wdi, ma_wdr, ma_wdl, ma_wdn] <;> omega)) only [up_n, up_s, up_u, pk_us, pk_un, Nat.reduceAdd])); exact hkp)
          · (have hkp := t.2.2.2.2.1; unfold tG at hkp ⊢; (try (simp (disch := first | assumption | omega | decide | (simp only [ma_wd0, ma_wdi, ma_wdr, ma_wdl, ma_wdn] <;> omega)) only [up_n, up_s, up_u, pk_us, pk_un, Nat.reduceAdd])); exact hkp)
          · (have hkp := t.2.2.2.2.2.1; unfold tU at hkp ⊢; (try (simp (disch := first | assumption | omega | decide | (simp only [ma_wd0, ma_wdi, ma_wdr, ma_wdl, ma_wdn] <;> omega)) only [up_n, up_s, up_u, pk_us, pk_un, Nat.reduceAdd])); exact hkp)
          · (have hkp := t.2.2.2.2.2.2.1; unfold tO at hkp ⊢; (try (simp (disch := first | assumption | omega | decide | (simp only [ma_wd0, ma_wdi, ma_wdr, ma_wdl, ma_wdn] <;> omega)) only [up_n, up_s, up_u, pk_us, pk_un, Nat.reduceAdd])); exact hkp)
          · (have hkp := t.2.2.2.2.2.2.2; unfold tW at hkp ⊢; (try (simp (disch := first | assumption | omega | decide | (simp only [ma_wd0, ma_wdi, ma_wdr, ma_wdl, ma_wdn] <;> omega)) only [up_n, up_s, up_u, pk_us, pk_un, Nat.reduceAdd])); exact hkp)
          · exact (j.1.ext (by omega) (nI ka) (nI 0)).eq (fun k a b => by rcases (show k = 17 ∨ k = 18 ∨ k = 19 ∨ k = 20 ∨ k = 21 by omega) with rfl | rfl | rfl | rfl | rfl <;> (simp (disch := first | assumption | omega | decide | (simp only [ma_wd0, ma_wdi, ma_wdr, ma_wdl, ma_wdn] <;> omega)) only [up_n, up_s, up_u, pk_us, pk_un, Nat.reduceAdd]))
          · exact (j.2.1.ext (by omega) (nI ka) (nI 0)).eq (by omega) (fun k hk => by simp (disch := first | assumption | omega | decide | (simp only [ma_wd0, ma_wdi, ma_wdr, ma_wdl, ma_wdn] <;> omega)) only [up_n, up_s, up_u, pk_us, pk_un, Nat.reduceAdd])
          all_goals (simp (disch := first | assumption | omega | decide | (simp only [ma_wd0, ma_wdi, ma_wdr, ma_wdl, ma_wdn] <;> omega)) only [up_n, up_s, up_u, pk_us, pk_un, Nat.reduceAdd]) <;> first | exact j.2.2.2.1 k hk | exact j.t17 | skip
    · refine ⟨c, _, -1, fun m0 => ?_, fun c0 => ?_, h.q0⟩
      · simp (disch := first | assumption | omega | decide | (simp only [ma_wd0, ma_wdi, ma_wdr, ma_wdl, ma_wdn] <;> omega)) only [↓reduceIte, evK, evL, evS, evA, evJ, Option.bind_some, Option.toList, List.cons_append, List.nil_append, nI_add, pk_mul, bI0, ite_not, ev_rbb, up_n, up_s, up_u, pk_us, pk_un, Nat.reduceAdd, nI_ltT, nI_ltF, nI_leT, nI_leF, nI_eqT, nI_eqF, en_LH_ship, bk_LH_ship, gfC, ce_Told_isColumn, t_Told_isColumn, hw1, s1, h1, h2, and_self, not_true_eq_false, not_false_eq_true, ce_LH_within, t_LH_within]
      · simp (disch := first | assumption | omega | decide | (simp only [ma_wd0, ma_wdi, ma_wdr, ma_wdl, ma_wdn] <;> omega)) only [↓reduceIte, evK, evL, evS, evA, evJ, Option.bind_some, Option.toList, List.cons_append, List.nil_append, nI_add, pk_mul, bI0, ite_not, ev_rbb, up_n, up_s, up_u, pk_us, pk_un, Nat.reduceAdd, nI_ltT, nI_ltF, nI_leT, nI_leF, nI_eqT, nI_eqF, en_MO_ship, bk_MO_ship, gfM, pfM, ce_MO_isColumn, t_MO_isColumn, hw2, s2, h1, h2, and_self, not_true_eq_false, not_false_eq_true, ce_MO_isIn, t_MO_isIn]
  · refine ⟨c, _, -1, fun m0 => ?_, fun c0 => ?_, h.q0⟩
    · simp (disch := first | assumption | omega | decide | (simp only [ma_wd0, ma_wdi, ma_wdr, ma_wdl, ma_wdn] <;> omega)) only [↓reduceIte, evK, evL, evS, evA, evJ, Option.bind_some, Option.toList, List.cons_append, List.nil_append, nI_add, pk_mul, bI0, ite_not, ev_rbb, up_n, up_s, up_u, pk_us, pk_un, Nat.reduceAdd, nI_ltT, nI_ltF, nI_leT, nI_leF, nI_eqT, nI_eqF, en_LH_ship, bk_LH_ship, gfC, ce_Told_isColumn, t_Told_isColumn, hw1, s1, h1, and_self, not_true_eq_false, not_false_eq_true, ce_LH_within, t_LH_within]
    · simp (disch := first | assumption | omega | decide | (simp only [ma_wd0, ma_wdi, ma_wdr, ma_wdl, ma_wdn] <;> omega)) only [↓reduceIte, evK, evL, evS, evA, evJ, Option.bind_some, Option.toList, List.cons_append, List.nil_append, nI_add, pk_mul, bI0, ite_not, ev_rbb, up_n, up_s, up_u, pk_us, pk_un, Nat.reduceAdd, nI_ltT, nI_ltF, nI_leT, nI_leF, nI_eqT, nI_eqF, en_MO_ship, bk_MO_ship, gfM, pfM, ce_MO_isColumn, t_MO_isColumn, hw2, s2, h1, and_self, not_true_eq_false, not_false_eq_true, ce_MO_isIn, t_MO_isIn]
theorem p_pier (d : Nat) (a b : Int32) (h : gR c m) : pub sc w (d + 20) 5 168 [.int a, .int b] c m := by
  obtain ⟨W, S, Q, ls, t, ⟨Z, j⟩, p, i, x⟩ := id h
  obtain ⟨s1, s2, hQ, hd⟩ := t.2.2.2.1
  have hw1 := t.1.2.1
  have hw2 := t.2.1.2.1
  have hW := t.1.2.2.2
  by_cases h1 : nI 0 ≤ a ∧ a < nI W
  · obtain ⟨ka, hka, rfl⟩ := rngl (by omega) h1.1 h1.2
    by_cases h2 : nI 0 ≤ b ∧ b ≤ nI 20
    · obtain ⟨kb, -, hkb, rfl⟩ := rng (by omega) h2.1 h2.2 (by omega)
      by_cases h3 : Q = 6
      · subst h3
        refine ⟨c, _, -1, fun m0 => ?_, fun c0 => ?_, h.q0⟩
        · simp (disch := first | assumption | omega | decide | (simp only [ma_wd0, ma_wdi, ma_wdr, ma_wdl, ma_wdn] <;> omega)) only [↓reduceIte, evK, evL, evS, evA, evJ, Option.bind_some, Option.toList, List.cons_append, List.nil_append, nI_add, pk_mul, bI0, ite_not, ev_rbb, up_n, up_s, up_u, pk_us, pk_un, Nat.reduceAdd, nI_ltT, nI_ltF, nI_leT, nI_leF, nI_eqT, nI_eqF, en_LH_pier, bk_LH_pier, gfC, ce_Told_isColumn, t_Told_isColumn, hw1, s1, h1, h2, and_self, not_true_eq_false, ce_LH_within, t_LH_within]
        · simp (disch := first | assumption | omega | decide | (simp only [ma_wd0, ma_wdi, ma_wdr, ma_wdl, ma_wdn] <;> omega)) only [↓reduceIte, evK, evL, evS, evA, evJ, Option.bind_some, Option.toList, List.cons_append, List.nil_append, nI_add, pk_mul, bI0, ite_not, ev_rbb, up_n, up_s, up_u, pk_us, pk_un, Nat.reduceAdd, nI_ltT, nI_ltF, nI_leT, nI_leF, nI_eqT, nI_eqF, en_MO_pier, bk_MO_pier, gfM, pfM, ce_MO_isColumn, t_MO_isColumn, hw2, s2, h1, h2, and_self, not_true_eq_false, ce_MO_isIn, t_MO_isIn]
      · refine ⟨?_, ?_, ?_, fun m0 => ?_, fun c0 => ?_, ?_⟩; rotate_left 3
        · (simp (disch := first | assumption | omega | decide | (simp only [ma_wd0, ma_wdi, ma_wdr, ma_wdl, ma_wdn] <;> omega)) only [↓reduceIte, evK, evL, evS, evA, evJ, Option.bind_some, Option.toList, List.cons_append, List.nil_append, nI_add, pk_mul, bI0, ite_not, ev_rbb, up_n, up_s, up_u, pk_us, pk_un, Nat.reduceAdd, nI_ltT, nI_ltF, nI_leT, nI_leF, nI_eqT, nI_eqF, en_LH_pier, bk_LH_pier, gfC, pfC, stC, ce_Told_isColumn, t_Told_isColumn, hw1, s1, h1, h2, and_self, not_true_eq_false, ce_LH_within, t_LH_within, ce_Past_forget, en_Past_forget]) <;> rfl
        · (simp (disch := first | assumption | omega | decide | (simp only [ma_wd0, ma_wdi, ma_wdr, ma_wdl, ma_wdn] <;> omega)) only [↓reduceIte, evK, evL, evS, evA, evJ, Option.bind_some, Option.toList, List.cons_append, List.nil_append, nI_add, pk_mul, bI0, ite_not, ev_rbb, up_n, up_s, up_u, pk_us, pk_un, Nat.reduceAdd, nI_ltT, nI_ltF, nI_leT, nI_leF, nI_eqT, nI_eqF, en_MO_pier, bk_MO_pier, gfM, pfM, stM, ce_MO_isColumn, t_MO_isColumn, hw2, s2, h1, h2, and_self, not_true_eq_false, ce_MO_isIn, t_MO_isIn, pk_sub, Nat.add_sub_cancel]) <;> rfl
        · refine ⟨W, S, Q + 1, ls, ⟨?_, ?_, ?_, ⟨?_, ?_, by omega, fun k hk => ?_⟩, ?_, ?_, ?_, ?_⟩, ⟨Z, j.eq (fun k a b => ?_) ?_ ?_ ?_ ?_⟩, p.zero ?_ ?_ ?_, i.eq ?_ (fun k a b => ?_) ?_ ?_, x.eq ?_ ?_ ?_ ?_ ?_ ?_ ?_ ?_ ?_⟩
          · (have hkp := t.1; unfold aC lC at hkp ⊢; (try (simp (disch := first | assumption | omega | decide | (simp only [ma_wd0, ma_wdi, ma_wdr, ma_wdl, ma_wdn] <;> omega)) only [up_n, up_s, up_u, pk_us, pk_un, Nat.reduceAdd])); exact hkp)
          · (have hkp := t.2.1; unfold aM lM at hkp ⊢; (try (simp (disch := first | assumption | omega | decide | (simp only [ma_wd0, ma_wdi, ma_wdr, ma_wdl, ma_wdn] <;> omega)) only [up_n, up_s, up_u, pk_us, pk_un, Nat.reduceAdd])); exact hkp)
          · (have hkp := t.2.2.1; unfold tS at hkp ⊢; (try (simp (disch := first | assumption | omega | decide | (simp only [ma_wd0, ma_wdi, ma_wdr, ma_wdl, ma_wdn] <;> omega)) only [up_n, up_s, up_u, pk_us, pk_un, Nat.reduceAdd])); exact hkp)
          · simp (disch := first | assumption | omega | decide | (simp only [ma_wd0, ma_wdi, ma_wdr, ma_wdl, ma_wdn] <;> omega)) only [up_n, up_s, up_u, pk_us, pk_un, Nat.reduceAdd]
          · simp (disch := first | assumption | omega | decide | (simp only [ma_wd0, ma_wdi, ma_wdr, ma_wdl, ma_wdn] <;> omega)) only [up_n, up_s, up_u, pk_us, pk_un, Nat.reduceAdd]
          · by_cases e : k = Q
            · subst e
              simp (disch := first | assumption | omega | decide | (simp only [ma_wd0, ma_wdi, ma_wdr, ma_wdl, ma_wdn] <;> omega)) only [up_n, up_s, up_u, pk_us, pk_un, Nat.reduceAdd]
              exact ⟨ka, kb, hka, hkb, rfl, rfl, rfl, rfl⟩
            · simp (disch := first | assumption | omega | decide | (simp only [ma_wd0, ma_wdi, ma_wdr, ma_wdl, ma_wdn] <;> omega)) only [up_n, up_s, up_u, pk_us, pk_un, Nat.reduceAdd]
              exact hd k (by omega)
          · (have hkp := t.2.2.2.2.1; unfold tG at hkp ⊢; (try (simp (disch := first | assumption | omega | decide | (simp only [ma_wd0, ma_wdi, ma_wdr, ma_wdl, ma_wdn] <;> omega)) only [up_n, up_s, up_u, pk_us, pk_un, Nat.reduceAdd])); exact hkp)
          · (have hkp := t.2.2.2.2.2.1; unfold tU at hkp ⊢; (try (simp (disch := first | assumption | omega | decide | (simp only [ma_wd0, ma_wdi, ma_wdr, ma_wdl, ma_wdn] <;> omega)) only [up_n, up_s, up_u, pk_us, pk_un, Nat.reduceAdd])); exact hkp)
          · (have hkp := t.2.2.2.2.2.2.1; unfold tO at hkp ⊢; (try (simp (disch := first | assumption | omega | decide | (simp only [ma_wd0, ma_wdi, ma_wdr, ma_wdl, ma_wdn] <;> omega)) only [up_n, up_s, up_u, pk_us, pk_un, Nat.reduceAdd])); exact hkp)
          · obtain ⟨n, hn, n1, n2, n3⟩ := t.2.2.2.2.2.2.2
            refine ⟨n, hn, ?_, ?_, fun i hi => ?_⟩
            · simp (disch := first | assumption | omega | decide | (simp only [ma_wd0, ma_wdi, ma_wdr, ma_wdl, ma_wdn] <;> omega)) only [up_n, up_s, up_u, pk_us, pk_un, Nat.reduceAdd]
              exact n1
            · simp (disch := first | assumption | omega | decide | (simp only [ma_wd0, ma_wdi, ma_wdr, ma_wdl, ma_wdn] <;> omega)) only [up_n, up_s, up_u, pk_us, pk_un, Nat.reduceAdd]
              exact n2
            · obtain ⟨pp, hh, s, tt, y, hpp, rest⟩ := n3 i hi
              simp (disch := first | assumption | omega | decide | (simp only [ma_wd0, ma_wdi, ma_wdr, ma_wdl, ma_wdn] <;> omega)) only [up_n, up_s, up_u, pk_us, pk_un, Nat.reduceAdd]
              exact ⟨pp, hh, s, tt, y, by omega, rest⟩
          all_goals simp (disch := first | assumption | omega | decide | (simp only [ma_wd0, ma_wdi, ma_wdr, ma_wdl, ma_wdn] <;> omega)) only [up_n, up_s, up_u, pk_us, pk_un, Nat.reduceAdd]
    · refine ⟨c, _, -1, fun m0 => ?_, fun c0 => ?_, h.q0⟩
      · simp (disch := first | assumption | omega | decide | (simp only [ma_wd0, ma_wdi, ma_wdr, ma_wdl, ma_wdn] <;> omega)) only [↓reduceIte, evK, evL, evS, evA, evJ, Option.bind_some, Option.toList, List.cons_append, List.nil_append, nI_add, pk_mul, bI0, ite_not, ev_rbb, up_n, up_s, up_u, pk_us, pk_un, Nat.reduceAdd, nI_ltT, nI_ltF, nI_leT, nI_leF, nI_eqT, nI_eqF, en_LH_pier, bk_LH_pier, gfC, ce_Told_isColumn, t_Told_isColumn, hw1, s1, h1, h2, and_self, not_true_eq_false, not_false_eq_true, ce_LH_within, t_LH_within]
      · simp (disch := first | assumption | omega | decide | (simp only [ma_wd0, ma_wdi, ma_wdr, ma_wdl, ma_wdn] <;> omega)) only [↓reduceIte, evK, evL, evS, evA, evJ, Option.bind_some, Option.toList, List.cons_append, List.nil_append, nI_add, pk_mul, bI0, ite_not, ev_rbb, up_n, up_s, up_u, pk_us, pk_un, Nat.reduceAdd, nI_ltT, nI_ltF, nI_leT, nI_leF, nI_eqT, nI_eqF, en_MO_pier, bk_MO_pier, gfM, pfM, ce_MO_isColumn, t_MO_isColumn, hw2, s2, h1, h2, and_self, not_true_eq_false, not_false_eq_true, ce_MO_isIn, t_MO_isIn]
  · refine ⟨c, _, -1, fun m0 => ?_, fun c0 => ?_, h.q0⟩
    · simp (disch := first | assumption | omega | decide | (simp only [ma_wd0, ma_wdi, ma_wdr, ma_wdl, ma_wdn] <;> omega)) only [↓reduceIte, evK, evL, evS, evA, evJ, Option.bind_some, Option.toList, List.cons_append, List.nil_append, nI_add, pk_mul, bI0, ite_not, ev_rbb, up_n, up_s, up_u, pk_us, pk_un, Nat.reduceAdd, nI_ltT, nI_ltF, nI_leT, nI_leF, nI_eqT, nI_eqF, en_LH_pier, bk_LH_pier, gfC, ce_Told_isColumn, t_Told_isColumn, hw1, s1, h1, and_self, not_true_eq_false, not_false_eq_true, ce_LH_within, t_LH_within]
    · simp (disch := first | assumption | omega | decide | (simp only [ma_wd0, ma_wdi, ma_wdr, ma_wdl, ma_wdn] <;> omega)) only [↓reduceIte, evK, evL, evS, evA, evJ, Option.bind_some, Option.toList, List.cons_append, List.nil_append, nI_add, pk_mul, bI0, ite_not, ev_rbb, up_n, up_s, up_u, pk_us, pk_un, Nat.reduceAdd, nI_ltT, nI_ltF, nI_leT, nI_leF, nI_eqT, nI_eqF, en_MO_pier, bk_MO_pier, gfM, pfM, ce_MO_isColumn, t_MO_isColumn, hw2, s2, h1, and_self, not_true_eq_false, not_false_eq_true, ce_MO_isIn, t_MO_isIn]
theorem p_sunset (d : Nat) (a b : Int32) (h : gR c m) : pub sc w (d + 20) 30 266 [.int a, .int b] c m := by
  obtain ⟨W, S, Q, ls, t, ⟨Z, j⟩, p, i, x⟩ := id h
  obtain ⟨n, hn, s1, s2, hd⟩ := t.2.2.2.2.2.1
  have hw1 := t.1.2.1
  have hw2 := t.2.1.2.1
  have hW := t.1.2.2.2
  by_cases h0 : a = -1
  · subst h0
    refine ⟨?_, ?_, ?_, fun m0 => ?_, fun c0 => ?_, ?_⟩; rotate_left 3
    · (simp (disch := first | assumption | omega | decide | (simp only [ma_wd0, ma_wdi, ma_wdr, ma_wdl, ma_wdn] <;> omega)) only [↓reduceIte, evK, evL, evS, evA, evJ, Option.bind_some, Option.toList, List.cons_append, List.nil_append, nI_add, pk_mul, bI0, ite_not, ev_rbb, up_n, up_s, up_u, pk_us, pk_un, Nat.reduceAdd, nI_ltT, nI_ltF, nI_leT, nI_leF, nI_eqT, nI_eqF, en_LH_sunset, bk_LH_sunset, gfC, pfC]) <;> rfl
    · (simp (disch := first | assumption | omega | decide | (simp only [ma_wd0, ma_wdi, ma_wdr, ma_wdl, ma_wdn] <;> omega)) only [↓reduceIte, evK, evL, evS, evA, evJ, Option.bind_some, Option.toList, List.cons_append, List.nil_append, nI_add, pk_mul, bI0, ite_not, ev_rbb, up_n, up_s, up_u, pk_us, pk_un, Nat.reduceAdd, nI_ltT, nI_ltF, nI_leT, nI_leF, nI_eqT, nI_eqF, en_MO_sunset, bk_MO_sunset, gfM, pfM]) <;> rfl
    · refine ⟨W, S, Q, ls, ⟨?_, ?_, ?_, ?_, ?_, ⟨0, by omega, ?_, ?_, fun j hj => by omega⟩, ?_, ?_⟩, ⟨Z, j.eq (fun k a b => ?_) ?_ ?_ ?_ ?_⟩, p.eq (fun k a b => ?_) ?_ ?_, i.eq ?_ (fun k a b => ?_) ?_ ?_, x.eq ?_ ?_ ?_ ?_ ?_ ?_ ?_ ?_ ?_⟩
      · (have hkp := t.1; unfold aC lC at hkp ⊢; (try (simp (disch := first | assumption | omega | decide | (simp only [ma_wd0, ma_wdi, ma_wdr, ma_wdl, ma_wdn] <;> omega)) only [up_n, up_s, up_u, pk_us, pk_un, Nat.reduceAdd])); exact hkp)
      · (have hkp := t.2.1; unfold aM lM at hkp ⊢; (try (simp (disch := first | assumption | omega | decide | (simp only [ma_wd0, ma_wdi, ma_wdr, ma_wdl, ma_wdn] <;> omega)) only [up_n, up_s, up_u, pk_us, pk_un, Nat.reduceAdd])); exact hkp)
      · (have hkp := t.2.2.1; unfold tS at hkp ⊢; (try (simp (disch := first | assumption | omega | decide | (simp only [ma_wd0, ma_wdi, ma_wdr, ma_wdl, ma_wdn] <;> omega)) only [up_n, up_s, up_u, pk_us, pk_un, Nat.reduceAdd])); exact hkp)
      · (have hkp := t.2.2.2.1; unfold tQ at hkp ⊢; (try (simp (disch := first | assumption | omega | decide | (simp only [ma_wd0, ma_wdi, ma_wdr, ma_wdl, ma_wdn] <;> omega)) only [up_n, up_s, up_u, pk_us, pk_un, Nat.reduceAdd])); exact hkp)
      · (have hkp := t.2.2.2.2.1; unfold tG at hkp ⊢; (try (simp (disch := first | assumption | omega | decide | (simp only [ma_wd0, ma_wdi, ma_wdr, ma_wdl, ma_wdn] <;> omega)) only [up_n, up_s, up_u, pk_us, pk_un, Nat.reduceAdd])); exact hkp)
      · simp (disch := first | assumption | omega | decide | (simp only [ma_wd0, ma_wdi, ma_wdr, ma_wdl, ma_wdn] <;> omega)) only [up_n, up_s, up_u, pk_us, pk_un, Nat.reduceAdd]
      · simp (disch := first | assumption | omega | decide | (simp only [ma_wd0, ma_wdi, ma_wdr, ma_wdl, ma_wdn] <;> omega)) only [up_n, up_s, up_u, pk_us, pk_un, Nat.reduceAdd]
      · (have hkp := t.2.2.2.2.2.2.1; unfold tO at hkp ⊢; (try (simp (disch := first | assumption | omega | decide | (simp only [ma_wd0, ma_wdi, ma_wdr, ma_wdl, ma_wdn] <;> omega)) only [up_n, up_s, up_u, pk_us, pk_un, Nat.reduceAdd])); exact hkp)
      · (have hkp := t.2.2.2.2.2.2.2; unfold tW at hkp ⊢; (try (simp (disch := first | assumption | omega | decide | (simp only [ma_wd0, ma_wdi, ma_wdr, ma_wdl, ma_wdn] <;> omega)) only [up_n, up_s, up_u, pk_us, pk_un, Nat.reduceAdd])); exact hkp)
      all_goals simp (disch := first | assumption | omega | decide | (simp only [ma_wd0, ma_wdi, ma_wdr, ma_wdl, ma_wdn] <;> omega)) only [up_n, up_s, up_u, pk_us, pk_un, Nat.reduceAdd]
  · by_cases h1 : nI 0 ≤ a ∧ a < nI W
    · obtain ⟨ka, hka, rfl⟩ := rngl (by omega) h1.1 h1.2
      by_cases h2 : nI 0 ≤ b ∧ b ≤ nI 23
      · obtain ⟨kb, -, hkb, rfl⟩ := rng (by omega) h2.1 h2.2 (by omega)
        by_cases h3 : n = 8
        · subst h3
          refine ⟨c, _, -1, fun m0 => ?_, fun c0 => ?_, h.q0⟩
          · simp (disch := first | assumption | omega | decide | (simp only [ma_wd0, ma_wdi, ma_wdr, ma_wdl, ma_wdn] <;> omega)) only [↓reduceIte, evK, evL, evS, evA, evJ, Option.bind_some, Option.toList, List.cons_append, List.nil_append, nI_add, pk_mul, bI0, ite_not, ev_rbb, up_n, up_s, up_u, pk_us, pk_un, Nat.reduceAdd, nI_ltT, nI_ltF, nI_leT, nI_leF, nI_eqT, nI_eqF, en_LH_sunset, bk_LH_sunset, h0, gfC, ce_Told_isColumn, t_Told_isColumn, hw1, s1, h1, h2, and_self, not_true_eq_false, ce_LH_within, t_LH_within]
          · simp (disch := first | assumption | omega | decide | (simp only [ma_wd0, ma_wdi, ma_wdr, ma_wdl, ma_wdn] <;> omega)) only [↓reduceIte, evK, evL, evS, evA, evJ, Option.bind_some, Option.toList, List.cons_append, List.nil_append, nI_add, pk_mul, bI0, ite_not, ev_rbb, up_n, up_s, up_u, pk_us, pk_un, Nat.reduceAdd, nI_ltT, nI_ltF, nI_leT, nI_leF, nI_eqT, nI_eqF, en_MO_sunset, bk_MO_sunset, h0, gfM, pfM, ce_MO_isColumn, t_MO_isColumn, hw2, s2, h1, h2, and_self, not_true_eq_false, ce_MO_isIn, t_MO_isIn]
        · refine ⟨?_, ?_, ?_, fun m0 => ?_, fun c0 => ?_, ?_⟩; rotate_left 3
          · (simp (disch := first | assumption | omega | decide | (simp only [ma_wd0, ma_wdi, ma_wdr, ma_wdl, ma_wdn] <;> omega)) only [↓reduceIte, evK, evL, evS, evA, evJ, Option.bind_some, Option.toList, List.cons_append, List.nil_append, nI_add, pk_mul, bI0, ite_not, ev_rbb, up_n, up_s, up_u, pk_us, pk_un, Nat.reduceAdd, nI_ltT, nI_ltF, nI_leT, nI_leF, nI_eqT, nI_eqF, en_LH_sunset, bk_LH_sunset, h0, gfC, pfC, stC, ce_Told_isColumn, t_Told_isColumn, hw1, s1, h1, h2, and_self, not_true_eq_false, ce_LH_within, t_LH_within]) <;> rfl
          · (simp (disch := first | assumption | omega | decide | (simp only [ma_wd0, ma_wdi, ma_wdr, ma_wdl, ma_wdn] <;> omega)) only [↓reduceIte, evK, evL, evS, evA, evJ, Option.bind_some, Option.toList, List.cons_append, List.nil_append, nI_add, pk_mul, bI0, ite_not, ev_rbb, up_n, up_s, up_u, pk_us, pk_un, Nat.reduceAdd, nI_ltT, nI_ltF, nI_leT, nI_leF, nI_eqT, nI_eqF, en_MO_sunset, bk_MO_sunset, h0, gfM, pfM, stM, ce_MO_isColumn, t_MO_isColumn, hw2, s2, h1, h2, and_self, not_true_eq_false, ce_MO_isIn, t_MO_isIn]) <;> rfl
          · refine ⟨W, S, Q, ls, ⟨?_, ?_, ?_, ?_, ?_, ⟨n + 1, by omega, ?_, ?_, fun k hk => ?_⟩, ?_, ?_⟩, ⟨Z, j.eq (fun k a b => ?_) ?_ ?_ ?_ ?_⟩, p.eq (fun k a b => ?_) ?_ ?_, i.eq ?_ (fun k a b => ?_) ?_ ?_, x.eq ?_ ?_ ?_ ?_ ?_ ?_ ?_ ?_ ?_⟩
            · (have hkp := t.1; unfold aC lC at hkp ⊢; (try (simp (disch := first | assumption | omega | decide | (simp only [ma_wd0, ma_wdi, ma_wdr, ma_wdl, ma_wdn] <;> omega)) only [up_n, up_s, up_u, pk_us, pk_un, Nat.reduceAdd])); exact hkp)
            · (have hkp := t.2.1; unfold aM lM at hkp ⊢; (try (simp (disch := first | assumption | omega | decide | (simp only [ma_wd0, ma_wdi, ma_wdr, ma_wdl, ma_wdn] <;> omega)) only [up_n, up_s, up_u, pk_us, pk_un, Nat.reduceAdd])); exact hkp)
            · (have hkp := t.2.2.1; unfold tS at hkp ⊢; (try (simp (disch := first | assumption | omega | decide | (simp only [ma_wd0, ma_wdi, ma_wdr, ma_wdl, ma_wdn] <;> omega)) only [up_n, up_s, up_u, pk_us, pk_un, Nat.reduceAdd])); exact hkp)
            · (have hkp := t.2.2.2.1; unfold tQ at hkp ⊢; (try (simp (disch := first | assumption | omega | decide | (simp only [ma_wd0, ma_wdi, ma_wdr, ma_wdl, ma_wdn] <;> omega)) only [up_n, up_s, up_u, pk_us, pk_un, Nat.reduceAdd])); exact hkp)
            · (have hkp := t.2.2.2.2.1; unfold tG at hkp ⊢; (try (simp (disch := first | assumption | omega | decide | (simp only [ma_wd0, ma_wdi, ma_wdr, ma_wdl, ma_wdn] <;> omega)) only [up_n, up_s, up_u, pk_us, pk_un, Nat.reduceAdd])); exact hkp)
            · simp (disch := first | assumption | omega | decide | (simp only [ma_wd0, ma_wdi, ma_wdr, ma_wdl, ma_wdn] <;> omega)) only [up_n, up_s, up_u, pk_us, pk_un, Nat.reduceAdd]
            · simp (disch := first | assumption | omega | decide | (simp only [ma_wd0, ma_wdi, ma_wdr, ma_wdl, ma_wdn] <;> omega)) only [up_n, up_s, up_u, pk_us, pk_un, Nat.reduceAdd]
            · by_cases e : k = n
              · subst e
                simp (disch := first | assumption | omega | decide | (simp only [ma_wd0, ma_wdi, ma_wdr, ma_wdl, ma_wdn] <;> omega)) only [up_n, up_s, up_u, pk_us, pk_un, Nat.reduceAdd]
                exact ⟨ka, kb, hka, by omega, rfl, rfl, rfl, rfl⟩
              · simp (disch := first | assumption | omega | decide | (simp only [ma_wd0, ma_wdi, ma_wdr, ma_wdl, ma_wdn] <;> omega)) only [up_n, up_s, up_u, pk_us, pk_un, Nat.reduceAdd]
                exact hd k (by omega)
            · (have hkp := t.2.2.2.2.2.2.1; unfold tO at hkp ⊢; (try (simp (disch := first | assumption | omega | decide | (simp only [ma_wd0, ma_wdi, ma_wdr, ma_wdl, ma_wdn] <;> omega)) only [up_n, up_s, up_u, pk_us, pk_un, Nat.reduceAdd])); exact hkp)
            · (have hkp := t.2.2.2.2.2.2.2; unfold tW at hkp ⊢; (try (simp (disch := first | assumption | omega | decide | (simp only [ma_wd0, ma_wdi, ma_wdr, ma_wdl, ma_wdn] <;> omega)) only [up_n, up_s, up_u, pk_us, pk_un, Nat.reduceAdd])); exact hkp)
            all_goals simp (disch := first | assumption | omega | decide | (simp only [ma_wd0, ma_wdi, ma_wdr, ma_wdl, ma_wdn] <;> omega)) only [up_n, up_s, up_u, pk_us, pk_un, Nat.reduceAdd]
      · refine ⟨c, _, -1, fun m0 => ?_, fun c0 => ?_, h.q0⟩
        · simp (disch := first | assumption | omega | decide | (simp only [ma_wd0, ma_wdi, ma_wdr, ma_wdl, ma_wdn] <;> omega)) only [↓reduceIte, evK, evL, evS, evA, evJ, Option.bind_some, Option.toList, List.cons_append, List.nil_append, nI_add, pk_mul, bI0, ite_not, ev_rbb, up_n, up_s, up_u, pk_us, pk_un, Nat.reduceAdd, nI_ltT, nI_ltF, nI_leT, nI_leF, nI_eqT, nI_eqF, en_LH_sunset, bk_LH_sunset, h0, gfC, ce_Told_isColumn, t_Told_isColumn, hw1, s1, h1, h2, and_self, not_true_eq_false, not_false_eq_true, ce_LH_within, t_LH_within]
        · simp (disch := first | assumption | omega | decide | (simp only [ma_wd0, ma_wdi, ma_wdr, ma_wdl, ma_wdn] <;> omega)) only [↓reduceIte, evK, evL, evS, evA, evJ, Option.bind_some, Option.toList, List.cons_append, List.nil_append, nI_add, pk_mul, bI0, ite_not, ev_rbb, up_n, up_s, up_u, pk_us, pk_un, Nat.reduceAdd, nI_ltT, nI_ltF, nI_leT, nI_leF, nI_eqT, nI_eqF, en_MO_sunset, bk_MO_sunset, h0, gfM, pfM, ce_MO_isColumn, t_MO_isColumn, hw2, s2, h1, h2, and_self, not_true_eq_false, not_false_eq_true, ce_MO_isIn, t_MO_isIn]
    · refine ⟨c, _, -1, fun m0 => ?_, fun c0 => ?_, h.q0⟩
      · simp (disch := first | assumption | omega | decide | (simp only [ma_wd0, ma_wdi, ma_wdr, ma_wdl, ma_wdn] <;> omega)) only [↓reduceIte, evK, evL, evS, evA, evJ, Option.bind_some, Option.toList, List.cons_append, List.nil_append, nI_add, pk_mul, bI0, ite_not, ev_rbb, up_n, up_s, up_u, pk_us, pk_un, Nat.reduceAdd, nI_ltT, nI_ltF, nI_leT, nI_leF, nI_eqT, nI_eqF, en_LH_sunset, bk_LH_sunset, h0, gfC, ce_Told_isColumn, t_Told_isColumn, hw1, s1, h1, and_self, not_true_eq_false, not_false_eq_true, ce_LH_within, t_LH_within]
      · simp (disch := first | assumption | omega | decide | (simp only [ma_wd0, ma_wdi, ma_wdr, ma_wdl, ma_wdn] <;> omega)) only [↓reduceIte, evK, evL, evS, evA, evJ, Option.bind_some, Option.toList, List.cons_append, List.nil_append, nI_add, pk_mul, bI0, ite_not, ev_rbb, up_n, up_s, up_u, pk_us, pk_un, Nat.reduceAdd, nI_ltT, nI_ltF, nI_leT, nI_leF, nI_eqT, nI_eqF, en_MO_sunset, bk_MO_sunset, h0, gfM, pfM, ce_MO_isColumn, t_MO_isColumn, hw2, s2, h1, and_self, not_true_eq_false, not_false_eq_true, ce_MO_isIn, t_MO_isIn]
theorem fee_math {a b : Nat} (ha : a ≤ 9999) (hb : b ≤ 999) : nI 1000 * nI a + nI 999 - nI b = nI a * nI 1000 + (nI 1000 - nI b) - nI 1 := by
  rw [pk_sub (by omega), pk_mul, pk_mul, nI_add, nI_add, pk_sub (by omega), pk_sub (by omega)]
  congr 1
  omega
theorem p_fee (d : Nat) (a b : Int32) (h : gR c m) : pub sc w (d + 20) 36 282 [.int a, .int b] c m := by
  by_cases h1 : nI 0 ≤ a ∧ a ≤ nI 9999
  · obtain ⟨ka, -, hka, rfl⟩ := rng (by omega) h1.1 h1.2 (by omega)
    by_cases h2 : nI 0 ≤ b ∧ b ≤ nI 999
    · obtain ⟨kb, -, hkb, rfl⟩ := rng (by omega) h2.1 h2.2 (by omega)
      have e1 : ka * 1000 + (1000 - kb) - 1 = 1000 * ka + 999 - kb := by omega
      refine ⟨c, _, nI (1000 * ka + 999 - kb) / nI (1000 - kb), fun m0 => ?_, fun c0 => ?_, h.q0⟩
      · simp (disch := first | assumption | omega | decide | (simp only [ma_wd0, ma_wdi, ma_wdr, ma_wdl, ma_wdn] <;> omega)) only [↓reduceIte, evK, evL, evS, evA, evJ, Option.bind_some, Option.toList, List.cons_append, List.nil_append, nI_add, pk_mul, bI0, ite_not, ev_rbb, up_n, up_s, up_u, pk_us, pk_un, Nat.reduceAdd, nI_ltT, nI_ltF, nI_leT, nI_leF, nI_eqT, nI_eqF, en_LH_fee, bk_LH_fee, h1, h2, and_self, not_true_eq_false, ce_LH_within, t_LH_within, pk_sub, e1]
      · simp (disch := first | assumption | omega | decide | (simp only [ma_wd0, ma_wdi, ma_wdr, ma_wdl, ma_wdn] <;> omega)) only [↓reduceIte, evK, evL, evS, evA, evJ, Option.bind_some, Option.toList, List.cons_append, List.nil_append, nI_add, pk_mul, bI0, ite_not, ev_rbb, up_n, up_s, up_u, pk_us, pk_un, Nat.reduceAdd, nI_ltT, nI_ltF, nI_leT, nI_leF, nI_eqT, nI_eqF, en_MO_fee, bk_MO_fee, gfM, pfM, h1, h2, and_self, not_true_eq_false, ce_MO_isIn, t_MO_isIn, pk_sub]
    · refine ⟨c, _, -1, fun m0 => ?_, fun c0 => ?_, h.q0⟩
      · simp (disch := first | assumption | omega | decide | (simp only [ma_wd0, ma_wdi, ma_wdr, ma_wdl, ma_wdn] <;> omega)) only [↓reduceIte, evK, evL, evS, evA, evJ, Option.bind_some, Option.toList, List.cons_append, List.nil_append, nI_add, pk_mul, bI0, ite_not, ev_rbb, up_n, up_s, up_u, pk_us, pk_un, Nat.reduceAdd, nI_ltT, nI_ltF, nI_leT, nI_leF, nI_eqT, nI_eqF, en_LH_fee, bk_LH_fee, h1, h2, and_self, not_true_eq_false, not_false_eq_true, ce_LH_within, t_LH_within]
      · simp (disch := first | assumption | omega | decide | (simp only [ma_wd0, ma_wdi, ma_wdr, ma_wdl, ma_wdn] <;> omega)) only [↓reduceIte, evK, evL, evS, evA, evJ, Option.bind_some, Option.toList, List.cons_append, List.nil_append, nI_add, pk_mul, bI0, ite_not, ev_rbb, up_n, up_s, up_u, pk_us, pk_un, Nat.reduceAdd, nI_ltT, nI_ltF, nI_leT, nI_leF, nI_eqT, nI_eqF, en_MO_fee, bk_MO_fee, gfM, pfM, h1, h2, and_self, not_true_eq_false, not_false_eq_true, ce_MO_isIn, t_MO_isIn]
  · refine ⟨c, _, -1, fun m0 => ?_, fun c0 => ?_, h.q0⟩
    · simp (disch := first | assumption | omega | decide | (simp only [ma_wd0, ma_wdi, ma_wdr, ma_wdl, ma_wdn] <;> omega)) only [↓reduceIte, evK, evL, evS, evA, evJ, Option.bind_some, Option.toList, List.cons_append, List.nil_append, nI_add, pk_mul, bI0, ite_not, ev_rbb, up_n, up_s, up_u, pk_us, pk_un, Nat.reduceAdd, nI_ltT, nI_ltF, nI_leT, nI_leF, nI_eqT, nI_eqF, en_LH_fee, bk_LH_fee, h1, and_self, not_true_eq_false, not_false_eq_true, ce_LH_within, t_LH_within]
    · simp (disch := first | assumption | omega | decide | (simp only [ma_wd0, ma_wdi, ma_wdr, ma_wdl, ma_wdn] <;> omega)) only [↓reduceIte, evK, evL, evS, evA, evJ, Option.bind_some, Option.toList, List.cons_append, List.nil_append, nI_add, pk_mul, bI0, ite_not, ev_rbb, up_n, up_s, up_u, pk_us, pk_un, Nat.reduceAdd, nI_ltT, nI_ltF, nI_leT, nI_leF, nI_eqT, nI_eqF, en_MO_fee, bk_MO_fee, gfM, pfM, h1, and_self, not_true_eq_false, not_false_eq_true, ce_MO_isIn, t_MO_isIn]
theorem p_fault (d : Nat) (a : Int32) (h : gR c m) : pub sc w (d + 20) 18 207 [.int a] c m := by
  obtain ⟨W, S, Q, ls, t, ⟨Z, j⟩, p, i, x⟩ := id h
  have f1 := x.2.1
  have f2 := x.2.2.1
  by_cases h0 : a = nI 0
  · refine ⟨c, _, m 138 36, fun m0 => ?_, fun c0 => ?_, h.q0⟩
    · simp (disch := first | assumption | omega | decide | (simp only [ma_wd0, ma_wdi, ma_wdr, ma_wdl, ma_wdn] <;> omega)) only [↓reduceIte, evK, evL, evS, evA, evJ, Option.bind_some, Option.toList, List.cons_append, List.nil_append, nI_add, pk_mul, bI0, ite_not, ev_rbb, up_n, up_s, up_u, pk_us, pk_un, Nat.reduceAdd, nI_ltT, nI_ltF, nI_leT, nI_leF, nI_eqT, nI_eqF, en_LH_fault, bk_LH_fault, h0, gfC, f1]
    · simp (disch := first | assumption | omega | decide | (simp only [ma_wd0, ma_wdi, ma_wdr, ma_wdl, ma_wdn] <;> omega)) only [↓reduceIte, evK, evL, evS, evA, evJ, Option.bind_some, Option.toList, List.cons_append, List.nil_append, nI_add, pk_mul, bI0, ite_not, ev_rbb, up_n, up_s, up_u, pk_us, pk_un, Nat.reduceAdd, nI_ltT, nI_ltF, nI_leT, nI_leF, nI_eqT, nI_eqF, en_MO_fault, bk_MO_fault, h0, gfM, pfM]
  · by_cases h1 : a = nI 1
    · refine ⟨c, _, m 138 37, fun m0 => ?_, fun c0 => ?_, h.q0⟩
      · simp (disch := first | assumption | omega | decide | (simp only [ma_wd0, ma_wdi, ma_wdr, ma_wdl, ma_wdn] <;> omega)) only [↓reduceIte, evK, evL, evS, evA, evJ, Option.bind_some, Option.toList, List.cons_append, List.nil_append, nI_add, pk_mul, bI0, ite_not, ev_rbb, up_n, up_s, up_u, pk_us, pk_un, Nat.reduceAdd, nI_ltT, nI_ltF, nI_leT, nI_leF, nI_eqT, nI_eqF, en_LH_fault, bk_LH_fault, h0, h1, gfC, f2]
      · simp (disch := first | assumption | omega | decide | (simp only [ma_wd0, ma_wdi, ma_wdr, ma_wdl, ma_wdn] <;> omega)) only [↓reduceIte, evK, evL, evS, evA, evJ, Option.bind_some, Option.toList, List.cons_append, List.nil_append, nI_add, pk_mul, bI0, ite_not, ev_rbb, up_n, up_s, up_u, pk_us, pk_un, Nat.reduceAdd, nI_ltT, nI_ltF, nI_leT, nI_leF, nI_eqT, nI_eqF, en_MO_fault, bk_MO_fault, h0, h1, gfM, pfM]
    · refine ⟨c, _, -1, fun m0 => ?_, fun c0 => ?_, h.q0⟩
      · simp (disch := first | assumption | omega | decide | (simp only [ma_wd0, ma_wdi, ma_wdr, ma_wdl, ma_wdn] <;> omega)) only [↓reduceIte, evK, evL, evS, evA, evJ, Option.bind_some, Option.toList, List.cons_append, List.nil_append, nI_add, pk_mul, bI0, ite_not, ev_rbb, up_n, up_s, up_u, pk_us, pk_un, Nat.reduceAdd, nI_ltT, nI_ltF, nI_leT, nI_leF, nI_eqT, nI_eqF, en_LH_fault, bk_LH_fault, h0, h1, gfC]
      · simp (disch := first | assumption | omega | decide | (simp only [ma_wd0, ma_wdi, ma_wdr, ma_wdl, ma_wdn] <;> omega)) only [↓reduceIte, evK, evL, evS, evA, evJ, Option.bind_some, Option.toList, List.cons_append, List.nil_append, nI_add, pk_mul, bI0, ite_not, ev_rbb, up_n, up_s, up_u, pk_us, pk_un, Nat.reduceAdd, nI_ltT, nI_ltF, nI_leT, nI_leF, nI_eqT, nI_eqF, en_MO_fault, bk_MO_fault, h0, h1, gfM, pfM]
theorem p_end (d : Nat) (a : Int32) (h : gR c m) : pub sc w (d + 20) 15 175 [.int a] c m := by
  obtain ⟨W, S, Q, ls, t, ⟨Z, j⟩, p, i, x⟩ := id h
  obtain ⟨n, hn, n1, n2, hb⟩ := x.1
  by_cases h1 : nI 0 ≤ a ∧ a ≤ nI n
  · obtain ⟨ka, -, hka, rfl⟩ := rng (by omega) h1.1 h1.2 (by omega)
    refine ⟨?_, ?_, ?_, fun m0 => ?_, fun c0 => ?_, ?_⟩; rotate_left 3
    · (simp (disch := first | assumption | omega | decide | (simp only [ma_wd0, ma_wdi, ma_wdr, ma_wdl, ma_wdn] <;> omega)) only [↓reduceIte, evK, evL, evS, evA, evJ, Option.bind_some, Option.toList, List.cons_append, List.nil_append, nI_add, pk_mul, bI0, ite_not, ev_rbb, up_n, up_s, up_u, pk_us, pk_un, Nat.reduceAdd, nI_ltT, nI_ltF, nI_leT, nI_leF, nI_eqT, nI_eqF, en_LH_end, bk_LH_end, gfC, pfC, n1, h1, and_self, not_true_eq_false, ce_LH_within, t_LH_within]) <;> rfl
    · (simp (disch := first | assumption | omega | decide | (simp only [ma_wd0, ma_wdi, ma_wdr, ma_wdl, ma_wdn] <;> omega)) only [↓reduceIte, evK, evL, evS, evA, evJ, Option.bind_some, Option.toList, List.cons_append, List.nil_append, nI_add, pk_mul, bI0, ite_not, ev_rbb, up_n, up_s, up_u, pk_us, pk_un, Nat.reduceAdd, nI_ltT, nI_ltF, nI_leT, nI_leF, nI_eqT, nI_eqF, en_MO_end, bk_MO_end, gfM, pfM, n2, h1, and_self, not_true_eq_false, ce_MO_isIn, t_MO_isIn]) <;> rfl
    · refine ⟨W, S, Q, ls, t.eq (fun k hk => ?_) (fun k hk => ?_) (fun k hk => ?_), ⟨Z, j.eq (fun k a b => ?_) ?_ ?_ ?_ ?_⟩, p.eq (fun k a b => ?_) ?_ ?_, i.eq ?_ (fun k a b => ?_) ?_ ?_, ⟨ka, by omega, ?_, ?_, fun j hj => ?_⟩, ?_, ?_, fun j hj => ?_⟩
      · simp only [tRc, List.mem_cons, List.not_mem_nil, or_false] at hk
        simp (disch := first | assumption | omega | decide | (simp only [ma_wd0, ma_wdi, ma_wdr, ma_wdl, ma_wdn] <;> omega)) only [up_n, up_s, up_u, pk_us, pk_un, Nat.reduceAdd]
      · simp only [tRm, List.mem_cons, List.not_mem_nil, or_false] at hk
        simp (disch := first | assumption | omega | decide | (simp only [ma_wd0, ma_wdi, ma_wdr, ma_wdl, ma_wdn] <;> omega)) only [up_n, up_s, up_u, pk_us, pk_un, Nat.reduceAdd]
      · simp only [tRf, List.mem_cons, List.not_mem_nil, or_false] at hk
        simp (disch := first | assumption | omega | decide | (simp only [ma_wd0, ma_wdi, ma_wdr, ma_wdl, ma_wdn] <;> omega)) only [up_n, up_s, up_u, pk_us, pk_un, Nat.reduceAdd]
      all_goals (simp (disch := first | assumption | omega | decide | (simp only [ma_wd0, ma_wdi, ma_wdr, ma_wdl, ma_wdn] <;> omega)) only [up_n, up_s, up_u, pk_us, pk_un, Nat.reduceAdd]) <;> first | exact hb j (by omega) | exact x.2.1 | exact x.2.2.1 | exact x.2.2.2 j hj
  · refine ⟨c, _, nI 0, fun m0 => ?_, fun c0 => ?_, h.q0⟩
    · simp (disch := first | assumption | omega | decide | (simp only [ma_wd0, ma_wdi, ma_wdr, ma_wdl, ma_wdn] <;> omega)) only [↓reduceIte, evK, evL, evS, evA, evJ, Option.bind_some, Option.toList, List.cons_append, List.nil_append, nI_add, pk_mul, bI0, ite_not, ev_rbb, up_n, up_s, up_u, pk_us, pk_un, Nat.reduceAdd, nI_ltT, nI_ltF, nI_leT, nI_leF, nI_eqT, nI_eqF, en_LH_end, bk_LH_end, gfC, pfC, n1, h1, not_false_eq_true, ce_LH_within, t_LH_within]
    · simp (disch := first | assumption | omega | decide | (simp only [ma_wd0, ma_wdi, ma_wdr, ma_wdl, ma_wdn] <;> omega)) only [↓reduceIte, evK, evL, evS, evA, evJ, Option.bind_some, Option.toList, List.cons_append, List.nil_append, nI_add, pk_mul, bI0, ite_not, ev_rbb, up_n, up_s, up_u, pk_us, pk_un, Nat.reduceAdd, nI_ltT, nI_ltF, nI_leT, nI_leF, nI_eqT, nI_eqF, en_MO_end, bk_MO_end, gfM, pfM, n2, h1, not_false_eq_true, ce_MO_isIn, t_MO_isIn]
end P1
