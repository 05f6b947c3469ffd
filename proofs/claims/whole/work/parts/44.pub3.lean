/-! ===== of, sun, costs, set, sea ===== -/
section P3
variable {sc : Nat × (Nat → Int32)} {W S Q : Nat} {ls : List lL} {c m Z : Nat → Nat → Int32} {w : Nat → Int64}
theorem gR.jk {c m : Nat → Nat → Int32} (h : gR c m) (g f g' f' : Nat → Int32) : gR (va_up (va_up c 94 g) 95 f) (va_up (va_up m 158 g') 159 f') := h.q (fun k hk => by simp (disch := first | assumption | omega | decide | (simp only [ma_wd0, ma_wdi, ma_wdr, ma_wdl, ma_wdn] <;> omega)) only [up_n, up_s, up_u, pk_us, pk_un, Nat.reduceAdd]) (fun k hk => by
  simp only [mE, List.mem_cons, List.not_mem_nil, or_false] at hk
  simp (disch := first | assumption | omega | decide | (simp only [ma_wd0, ma_wdi, ma_wdr, ma_wdl, ma_wdn] <;> omega)) only [up_n, up_s, up_u, pk_us, pk_un, Nat.reduceAdd]) (fun k hk => by simp (disch := first | assumption | omega | decide | (simp only [ma_wd0, ma_wdi, ma_wdr, ma_wdl, ma_wdn] <;> omega)) only [up_n, up_s, up_u, pk_us, pk_un, Nat.reduceAdd])
theorem jR.dusk {a x : Nat} (h : jR a W S c m Z) (hx : x < W) (hW : W ≤ 14) : duskS ls W (c (a + 1)) (c (a + 2)) (c a 6) x = duskS ls W (zH Z) (zN Z) (Z 0 0) x ∧ duskS ls W (fun j => m 139 (5 + j) + nI 10) (fun j => m 139 (19 + j)) (m 139 0) x = duskS ls W (zH Z) (zN Z) (Z 0 0) x := by
  rw [h.1.1.1, h.2.1.1.1]
  exact ⟨duskS_congr hx hW h.1.2.1 h.1.2.2.1, duskS_congr hx hW h.2.1.2.1 h.2.1.2.2.1⟩
theorem jR.sun {a x : Nat} (h : jR a W S c m Z) (g : Int32) (hx : x < W) (hW : W ≤ 14) : sunS ls W (c (a + 1)) (c (a + 2)) (c a 6) x g = sunS ls W (zH Z) (zN Z) (Z 0 0) x g ∧ sunS ls W (fun j => m 139 (5 + j) + nI 10) (fun j => m 139 (19 + j)) (m 139 0) x g = sunS ls W (zH Z) (zN Z) (Z 0 0) x g := by
  rw [h.1.1.1, h.2.1.1.1]
  exact ⟨sunS_congr g hx hW h.1.2.1 h.1.2.2.1, sunS_congr g hx hW h.2.1.2.1 h.2.1.2.2.1⟩
theorem jR.lean {a x : Nat} (h : jR a W S c m Z) (hx : x < W) (hW : W ≤ 14) : leanS W (c (a + 1)) x = leanS W (zH Z) x ∧ leanS W (fun j => m 139 (5 + j) + nI 10) x = leanS W (zH Z) x :=
  ⟨leanS_congr hx hW h.1.2.1, leanS_congr hx hW h.2.1.2.1⟩
theorem p_of (d : Nat) (a b : Int32) (h : gR c m) : pub sc w (d + 20) 19 242 [.int a, .int b] c m := by
  obtain ⟨W, S, Q, ls, Z, g⟩ := h.e
  have hw1 := g.1.1.2.1
  have hw2 := g.1.2.1.2.1
  have hW := g.1.1.2.2.2
  obtain ⟨t, j, -, -, -⟩ := id g
  obtain ⟨t0, j0, -, -, -⟩ := g.q0
  by_cases h1 : nI 0 ≤ a ∧ a < nI W
  · obtain ⟨x, hx, rfl⟩ := rngl (by omega) h1.1 h1.2
    have z1 : c 18 x = Z 0 (5 + x) := j.1.2.1 x (by omega)
    have z2 : m 139 (5 + x) + nI 10 = Z 0 (5 + x) := j.2.1.2.1 x (by omega)
    have z3 : c 19 x = Z 0 (19 + x) := j.1.2.2.1 x (by omega)
    have z4 : m 139 (19 + x) = Z 0 (19 + x) := j.2.1.2.2.1 x (by omega)
    by_cases b0 : b = nI 0
    · subst b0
      refine ⟨c, _, Z 0 (5 + x), fun m0 => ?_, fun c0 => ?_, h.q0⟩
      · simp (disch := first | assumption | omega | decide | (simp only [ma_wd0, ma_wdi, ma_wdr, ma_wdl, ma_wdn] <;> omega)) only [↓reduceIte, evK, evL, evS, evA, evJ, Option.bind_some, Option.toList, List.cons_append, List.nil_append, nI_add, pk_mul, bI0, ite_not, ev_rbb, up_n, up_s, up_u, pk_us, pk_un, Nat.reduceAdd, nI_ltT, nI_ltF, nI_leT, nI_leF, nI_eqT, nI_eqF, en_LH_of, bk_LH_of, gfC, ldC, ce_Told_isColumn, t_Told_isColumn, hw1, h1, and_self, not_true_eq_false, ev_sw, swc_s, swc_0, z1]
      · simp (disch := first | assumption | omega | decide | (simp only [ma_wd0, ma_wdi, ma_wdr, ma_wdl, ma_wdn] <;> omega)) only [↓reduceIte, evK, evL, evS, evA, evJ, Option.bind_some, Option.toList, List.cons_append, List.nil_append, nI_add, pk_mul, bI0, ite_not, ev_rbb, up_n, up_s, up_u, pk_us, pk_un, Nat.reduceAdd, nI_ltT, nI_ltF, nI_leT, nI_leF, nI_eqT, nI_eqF, en_MO_of, bk_MO_of, gfM, pfM, ldM, ce_MO_isColumn, t_MO_isColumn, hw2, h1, and_self, not_true_eq_false, ce_MO_heightOf, t_MO_heightOf, z2]
    by_cases b1 : b = nI 1
    · subst b1
      refine ⟨c, _, Z 0 (19 + x), fun m0 => ?_, fun c0 => ?_, h.q0⟩
      · simp (disch := first | assumption | omega | decide | (simp only [ma_wd0, ma_wdi, ma_wdr, ma_wdl, ma_wdn] <;> omega)) only [↓reduceIte, evK, evL, evS, evA, evJ, Option.bind_some, Option.toList, List.cons_append, List.nil_append, nI_add, pk_mul, bI0, ite_not, ev_rbb, up_n, up_s, up_u, pk_us, pk_un, Nat.reduceAdd, nI_ltT, nI_ltF, nI_leT, nI_leF, nI_eqT, nI_eqF, en_LH_of, bk_LH_of, gfC, ldC, ce_Told_isColumn, t_Told_isColumn, hw1, h1, and_self, not_true_eq_false, ev_sw, swc_s, swc_0, z3]
      · simp (disch := first | assumption | omega | decide | (simp only [ma_wd0, ma_wdi, ma_wdr, ma_wdl, ma_wdn] <;> omega)) only [↓reduceIte, evK, evL, evS, evA, evJ, Option.bind_some, Option.toList, List.cons_append, List.nil_append, nI_add, pk_mul, bI0, ite_not, ev_rbb, up_n, up_s, up_u, pk_us, pk_un, Nat.reduceAdd, nI_ltT, nI_ltF, nI_leT, nI_leF, nI_eqT, nI_eqF, en_MO_of, bk_MO_of, gfM, pfM, ldM, ce_MO_isColumn, t_MO_isColumn, hw2, h1, and_self, not_true_eq_false, z4]
    by_cases b2 : b = nI 2
    · subst b2
      obtain ⟨g1, f1, hc⟩ := t_Asker_wear (sc := sc) (c := c) (w := w) (d + 17) x W 17 ls (Or.inl rfl) hx t.1 j.hB
      obtain ⟨g2, f2, hm⟩ := t_MO_wearOf (sc := sc) (m := va_up m 138 (upd (m 138) 0 (nI 0))) (w := w) (d + 15) x W ls hx t0.2.1
      rw [(j.wear hx hW).1] at hc
      rw [(j0.wear hx hW).2] at hm
      refine ⟨_, _, wearS ls W (zH Z) (zN Z) (Z 0 0) x, fun m0 => ?_, fun c0 => ?_, h.q0.jk g1 f1 g2 f2⟩
      · simp (disch := first | assumption | omega | decide | (simp only [ma_wd0, ma_wdi, ma_wdr, ma_wdl, ma_wdn] <;> omega)) only [↓reduceIte, evK, evL, evS, evA, evJ, Option.bind_some, Option.toList, List.cons_append, List.nil_append, nI_add, pk_mul, bI0, ite_not, ev_rbb, up_n, up_s, up_u, pk_us, pk_un, Nat.reduceAdd, nI_ltT, nI_ltF, nI_leT, nI_leF, nI_eqT, nI_eqF, en_LH_of, bk_LH_of, gfC, ldC, ce_Told_isColumn, t_Told_isColumn, hw1, h1, and_self, not_true_eq_false, ev_sw, swc_s, swc_0, ce_Asker_wear, hc]
      · simp (disch := first | assumption | omega | decide | (simp only [ma_wd0, ma_wdi, ma_wdr, ma_wdl, ma_wdn] <;> omega)) only [↓reduceIte, evK, evL, evS, evA, evJ, Option.bind_some, Option.toList, List.cons_append, List.nil_append, nI_add, pk_mul, bI0, ite_not, ev_rbb, up_n, up_s, up_u, pk_us, pk_un, Nat.reduceAdd, nI_ltT, nI_ltF, nI_leT, nI_leF, nI_eqT, nI_eqF, en_MO_of, bk_MO_of, gfM, pfM, ldM, ce_MO_isColumn, t_MO_isColumn, hw2, h1, and_self, not_true_eq_false, ce_MO_wearOf, hm]
    by_cases b3 : b = nI 3
    · subst b3
      obtain ⟨g1, f1, hc⟩ := t_Asker_slide (sc := sc) (c := c) (w := w) (d + 17) x W 17 ls (Or.inl rfl) hx t.1 j.hB
      obtain ⟨g2, f2, hm⟩ := t_MO_slideOf (sc := sc) (m := va_up m 138 (upd (m 138) 0 (nI 0))) (w := w) (d + 15) x W ls hx t0.2.1
      rw [(j.slide hx hW).1] at hc
      rw [(j0.slide hx hW).2] at hm
      refine ⟨_, _, slideS ls W (zH Z) (zN Z) (Z 0 0) x, fun m0 => ?_, fun c0 => ?_, h.q0.jk g1 f1 g2 f2⟩
      · simp (disch := first | assumption | omega | decide | (simp only [ma_wd0, ma_wdi, ma_wdr, ma_wdl, ma_wdn] <;> omega)) only [↓reduceIte, evK, evL, evS, evA, evJ, Option.bind_some, Option.toList, List.cons_append, List.nil_append, nI_add, pk_mul, bI0, ite_not, ev_rbb, up_n, up_s, up_u, pk_us, pk_un, Nat.reduceAdd, nI_ltT, nI_ltF, nI_leT, nI_leF, nI_eqT, nI_eqF, en_LH_of, bk_LH_of, gfC, ldC, ce_Told_isColumn, t_Told_isColumn, hw1, h1, and_self, not_true_eq_false, ev_sw, swc_s, swc_0, ce_Asker_slide, hc]
      · simp (disch := first | assumption | omega | decide | (simp only [ma_wd0, ma_wdi, ma_wdr, ma_wdl, ma_wdn] <;> omega)) only [↓reduceIte, evK, evL, evS, evA, evJ, Option.bind_some, Option.toList, List.cons_append, List.nil_append, nI_add, pk_mul, bI0, ite_not, ev_rbb, up_n, up_s, up_u, pk_us, pk_un, Nat.reduceAdd, nI_ltT, nI_ltF, nI_leT, nI_leF, nI_eqT, nI_eqF, en_MO_of, bk_MO_of, gfM, pfM, ldM, ce_MO_isColumn, t_MO_isColumn, hw2, h1, and_self, not_true_eq_false, ce_MO_slideOf, hm]
    by_cases b4 : b = nI 4
    · subst b4
      obtain ⟨g1, f1, hc⟩ := t_Asker_dusk (sc := sc) (c := c) (w := w) (d + 17) x W 17 ls (Or.inl rfl) hx t.1 j.hB
      obtain ⟨g2, f2, hm⟩ := t_MO_duskOf (sc := sc) (m := va_up m 138 (upd (m 138) 0 (nI 0))) (w := w) (d + 14) x W ls hx t0.2.1
      rw [(j.dusk hx hW).1] at hc
      rw [(j0.dusk hx hW).2] at hm
      refine ⟨_, _, duskS ls W (zH Z) (zN Z) (Z 0 0) x, fun m0 => ?_, fun c0 => ?_, h.q0.jk g1 f1 g2 f2⟩
      · simp (disch := first | assumption | omega | decide | (simp only [ma_wd0, ma_wdi, ma_wdr, ma_wdl, ma_wdn] <;> omega)) only [↓reduceIte, evK, evL, evS, evA, evJ, Option.bind_some, Option.toList, List.cons_append, List.nil_append, nI_add, pk_mul, bI0, ite_not, ev_rbb, up_n, up_s, up_u, pk_us, pk_un, Nat.reduceAdd, nI_ltT, nI_ltF, nI_leT, nI_leF, nI_eqT, nI_eqF, en_LH_of, bk_LH_of, gfC, ldC, ce_Told_isColumn, t_Told_isColumn, hw1, h1, and_self, not_true_eq_false, ev_sw, swc_s, swc_0, ce_Asker_dusk, hc]
      · simp (disch := first | assumption | omega | decide | (simp only [ma_wd0, ma_wdi, ma_wdr, ma_wdl, ma_wdn] <;> omega)) only [↓reduceIte, evK, evL, evS, evA, evJ, Option.bind_some, Option.toList, List.cons_append, List.nil_append, nI_add, pk_mul, bI0, ite_not, ev_rbb, up_n, up_s, up_u, pk_us, pk_un, Nat.reduceAdd, nI_ltT, nI_ltF, nI_leT, nI_leF, nI_eqT, nI_eqF, en_MO_of, bk_MO_of, gfM, pfM, ldM, ce_MO_isColumn, t_MO_isColumn, hw2, h1, and_self, not_true_eq_false, ce_MO_duskOf, hm]
    by_cases b5 : b = nI 5
    · subst b5
      have hc := fun m => t_Asker_leans (sc := sc) (c := c) (m := m) (w := w) (d + 19) x W 17 (Or.inl rfl) hx hW hw1 j.hB
      have hm := fun c => t_MO_leansOf (sc := sc) (c := c) (m := va_up m 138 (upd (m 138) 0 (nI 0))) (w := w) (d + 18) x W hx hW t0.2.1.2.1
      rw [(j.lean hx hW).1] at hc
      rw [(j0.lean hx hW).2] at hm
      refine ⟨c, _, leanS W (zH Z) x, fun m0 => ?_, fun c0 => ?_, h.q0⟩
      · simp (disch := first | assumption | omega | decide | (simp only [ma_wd0, ma_wdi, ma_wdr, ma_wdl, ma_wdn] <;> omega)) only [↓reduceIte, evK, evL, evS, evA, evJ, Option.bind_some, Option.toList, List.cons_append, List.nil_append, nI_add, pk_mul, bI0, ite_not, ev_rbb, up_n, up_s, up_u, pk_us, pk_un, Nat.reduceAdd, nI_ltT, nI_ltF, nI_leT, nI_leF, nI_eqT, nI_eqF, en_LH_of, bk_LH_of, gfC, ldC, ce_Told_isColumn, t_Told_isColumn, hw1, h1, and_self, not_true_eq_false, ev_sw, swc_s, swc_0, ce_Asker_leans, hc]
      · simp (disch := first | assumption | omega | decide | (simp only [ma_wd0, ma_wdi, ma_wdr, ma_wdl, ma_wdn] <;> omega)) only [↓reduceIte, evK, evL, evS, evA, evJ, Option.bind_some, Option.toList, List.cons_append, List.nil_append, nI_add, pk_mul, bI0, ite_not, ev_rbb, up_n, up_s, up_u, pk_us, pk_un, Nat.reduceAdd, nI_ltT, nI_ltF, nI_leT, nI_leF, nI_eqT, nI_eqF, en_MO_of, bk_MO_of, gfM, pfM, ldM, ce_MO_isColumn, t_MO_isColumn, hw2, h1, and_self, not_true_eq_false, ce_MO_leansOf, hm]
    refine ⟨c, _, -2, fun m0 => ?_, fun c0 => ?_, h.q0⟩
    · simp (disch := first | assumption | omega | decide | (simp only [ma_wd0, ma_wdi, ma_wdr, ma_wdl, ma_wdn] <;> omega)) only [↓reduceIte, evK, evL, evS, evA, evJ, Option.bind_some, Option.toList, List.cons_append, List.nil_append, nI_add, pk_mul, bI0, ite_not, ev_rbb, up_n, up_s, up_u, pk_us, pk_un, Nat.reduceAdd, nI_ltT, nI_ltF, nI_leT, nI_leF, nI_eqT, nI_eqF, en_LH_of, bk_LH_of, gfC, ldC, ce_Told_isColumn, t_Told_isColumn, hw1, h1, and_self, not_true_eq_false, ev_sw, swc_s, swc_0, b0, b1, b2, b3, b4, b5]
    · simp (disch := first | assumption | omega | decide | (simp only [ma_wd0, ma_wdi, ma_wdr, ma_wdl, ma_wdn] <;> omega)) only [↓reduceIte, evK, evL, evS, evA, evJ, Option.bind_some, Option.toList, List.cons_append, List.nil_append, nI_add, pk_mul, bI0, ite_not, ev_rbb, up_n, up_s, up_u, pk_us, pk_un, Nat.reduceAdd, nI_ltT, nI_ltF, nI_leT, nI_leF, nI_eqT, nI_eqF, en_MO_of, bk_MO_of, gfM, pfM, ldM, ce_MO_isColumn, t_MO_isColumn, hw2, h1, and_self, not_true_eq_false, b0, b1, b2, b3, b4, b5]
  · refine ⟨c, _, -2, fun m0 => ?_, fun c0 => ?_, h.q0⟩
    · simp (disch := first | assumption | omega | decide | (simp only [ma_wd0, ma_wdi, ma_wdr, ma_wdl, ma_wdn] <;> omega)) only [↓reduceIte, evK, evL, evS, evA, evJ, Option.bind_some, Option.toList, List.cons_append, List.nil_append, nI_add, pk_mul, bI0, ite_not, ev_rbb, up_n, up_s, up_u, pk_us, pk_un, Nat.reduceAdd, nI_ltT, nI_ltF, nI_leT, nI_leF, nI_eqT, nI_eqF, en_LH_of, bk_LH_of, gfC, ce_Told_isColumn, t_Told_isColumn, hw1, h1, not_false_eq_true]
    · simp (disch := first | assumption | omega | decide | (simp only [ma_wd0, ma_wdi, ma_wdr, ma_wdl, ma_wdn] <;> omega)) only [↓reduceIte, evK, evL, evS, evA, evJ, Option.bind_some, Option.toList, List.cons_append, List.nil_append, nI_add, pk_mul, bI0, ite_not, ev_rbb, up_n, up_s, up_u, pk_us, pk_un, Nat.reduceAdd, nI_ltT, nI_ltF, nI_leT, nI_leF, nI_eqT, nI_eqF, en_MO_of, bk_MO_of, gfM, pfM, ce_MO_isColumn, t_MO_isColumn, hw2, h1, not_false_eq_true]
theorem p_sun (d : Nat) (a b : Int32) (h : gR c m) : pub sc w (d + 20) 20 245 [.int a, .int b] c m := by
  obtain ⟨W, S, Q, ls, Z, g⟩ := h.e
  have hw1 := g.1.1.2.1
  have hw2 := g.1.2.1.2.1
  have hW := g.1.1.2.2.2
  obtain ⟨t, j, -, -, -⟩ := id g
  obtain ⟨t0, j0, -, -, -⟩ := g.q0
  by_cases h1 : nI 0 ≤ a ∧ a < nI W
  · obtain ⟨x, hx, rfl⟩ := rngl (by omega) h1.1 h1.2
    by_cases h2 : nI 0 ≤ b ∧ b ≤ nI 23
    · obtain ⟨g1, f1, hc⟩ := t_Asker_sunAt (sc := sc) (c := c) (w := w) (d + 17) x W ls b hx t.1 j.hB
      obtain ⟨g2, f2, hm⟩ := t_MO_sunOver (sc := sc) (m := va_up m 138 (upd (m 138) 0 (nI 0))) (w := w) (d + 15) x W ls b hx t0.2.1
      rw [(j.sun b hx hW).1] at hc
      rw [(j0.sun b hx hW).2] at hm
      refine ⟨_, _, sunS ls W (zH Z) (zN Z) (Z 0 0) x b, fun m0 => ?_, fun c0 => ?_, h.q0.jk g1 f1 g2 f2⟩
      · simp (disch := first | assumption | omega | decide | (simp only [ma_wd0, ma_wdi, ma_wdr, ma_wdl, ma_wdn] <;> omega)) only [↓reduceIte, evK, evL, evS, evA, evJ, Option.bind_some, Option.toList, List.cons_append, List.nil_append, nI_add, pk_mul, bI0, ite_not, ev_rbb, up_n, up_s, up_u, pk_us, pk_un, Nat.reduceAdd, nI_ltT, nI_ltF, nI_leT, nI_leF, nI_eqT, nI_eqF, en_LH_sun, bk_LH_sun, gfC, ce_Told_isColumn, t_Told_isColumn, hw1, h1, h2, and_self, not_true_eq_false, ce_LH_within, t_LH_within, ce_Asker_sunAt, hc]
      · simp (disch := first | assumption | omega | decide | (simp only [ma_wd0, ma_wdi, ma_wdr, ma_wdl, ma_wdn] <;> omega)) only [↓reduceIte, evK, evL, evS, evA, evJ, Option.bind_some, Option.toList, List.cons_append, List.nil_append, nI_add, pk_mul, bI0, ite_not, ev_rbb, up_n, up_s, up_u, pk_us, pk_un, Nat.reduceAdd, nI_ltT, nI_ltF, nI_leT, nI_leF, nI_eqT, nI_eqF, en_MO_sun, bk_MO_sun, pfM, ce_MO_isColumn, t_MO_isColumn, hw2, h1, h2, and_self, not_true_eq_false, ce_MO_isIn, t_MO_isIn, ce_MO_sunOver, hm]
    · refine ⟨c, _, -1, fun m0 => ?_, fun c0 => ?_, h.q0⟩
      · simp (disch := first | assumption | omega | decide | (simp only [ma_wd0, ma_wdi, ma_wdr, ma_wdl, ma_wdn] <;> omega)) only [↓reduceIte, evK, evL, evS, evA, evJ, Option.bind_some, Option.toList, List.cons_append, List.nil_append, nI_add, pk_mul, bI0, ite_not, ev_rbb, up_n, up_s, up_u, pk_us, pk_un, Nat.reduceAdd, nI_ltT, nI_ltF, nI_leT, nI_leF, nI_eqT, nI_eqF, en_LH_sun, bk_LH_sun, gfC, ce_Told_isColumn, t_Told_isColumn, hw1, h1, h2, and_self, not_true_eq_false, not_false_eq_true, ce_LH_within, t_LH_within]
      · simp (disch := first | assumption | omega | decide | (simp only [ma_wd0, ma_wdi, ma_wdr, ma_wdl, ma_wdn] <;> omega)) only [↓reduceIte, evK, evL, evS, evA, evJ, Option.bind_some, Option.toList, List.cons_append, List.nil_append, nI_add, pk_mul, bI0, ite_not, ev_rbb, up_n, up_s, up_u, pk_us, pk_un, Nat.reduceAdd, nI_ltT, nI_ltF, nI_leT, nI_leF, nI_eqT, nI_eqF, en_MO_sun, bk_MO_sun, pfM, ce_MO_isColumn, t_MO_isColumn, hw2, h1, h2, and_self, not_true_eq_false, not_false_eq_true, ce_MO_isIn, t_MO_isIn]
  · refine ⟨c, _, -1, fun m0 => ?_, fun c0 => ?_, h.q0⟩
    · simp (disch := first | assumption | omega | decide | (simp only [ma_wd0, ma_wdi, ma_wdr, ma_wdl, ma_wdn] <;> omega)) only [↓reduceIte, evK, evL, evS, evA, evJ, Option.bind_some, Option.toList, List.cons_append, List.nil_append, nI_add, pk_mul, bI0, ite_not, ev_rbb, up_n, up_s, up_u, pk_us, pk_un, Nat.reduceAdd, nI_ltT, nI_ltF, nI_leT, nI_leF, nI_eqT, nI_eqF, en_LH_sun, bk_LH_sun, gfC, ce_Told_isColumn, t_Told_isColumn, hw1, h1, not_false_eq_true]
    · simp (disch := first | assumption | omega | decide | (simp only [ma_wd0, ma_wdi, ma_wdr, ma_wdl, ma_wdn] <;> omega)) only [↓reduceIte, evK, evL, evS, evA, evJ, Option.bind_some, Option.toList, List.cons_append, List.nil_append, nI_add, pk_mul, bI0, ite_not, ev_rbb, up_n, up_s, up_u, pk_us, pk_un, Nat.reduceAdd, nI_ltT, nI_ltF, nI_leT, nI_leF, nI_eqT, nI_eqF, en_MO_sun, bk_MO_sun, pfM, ce_MO_isColumn, t_MO_isColumn, hw2, h1, not_false_eq_true]
theorem p_costs (d : Nat) (a b : Int32) (h : gR c m) : pub sc w (d + 20) 21 246 [.int a, .int b] c m := by
  obtain ⟨W, S, Q, ls, Z, g⟩ := h.e
  have hw1 := g.1.1.2.1
  have hw2 := g.1.2.1.2.1
  have hW := g.1.1.2.2.2
  obtain ⟨t, j, -, -, -⟩ := id g
  obtain ⟨t0, j0, -, -, -⟩ := g.q0
  by_cases h1 : nI 0 ≤ a ∧ a < nI W
  · obtain ⟨x, hx, rfl⟩ := rngl (by omega) h1.1 h1.2
    by_cases h2 : nI 0 ≤ b ∧ b ≤ nI 40
    · obtain ⟨kb, -, hkb, rfl⟩ := rng (by omega) h2.1 h2.2 (by omega)
      obtain ⟨g1, f1, hc⟩ := t_Asker_cost (sc := sc) (c := c) (w := w) (d + 17) x W 17 ls (nI kb) (by rw [nI_toInt (by omega)]; omega) (Or.inl rfl) hx t.1 j.hB
      obtain ⟨g2, f2, hm⟩ := t_MO_costOf (sc := sc) (m := va_up m 138 (upd (m 138) 0 (nI 0))) (w := w) (d + 15) x W ls (nI kb) hx t0.2.1
      rw [(j.cost (nI kb) hx hW).1] at hc
      rw [(j0.cost (nI kb) hx hW).2] at hm
      refine ⟨_, _, costS ls W (zH Z) (zN Z) (Z 0 0) x (nI kb), fun m0 => ?_, fun c0 => ?_, h.q0.jk g1 f1 g2 f2⟩
      · simp (disch := first | assumption | omega | decide | (simp only [ma_wd0, ma_wdi, ma_wdr, ma_wdl, ma_wdn] <;> omega)) only [↓reduceIte, evK, evL, evS, evA, evJ, Option.bind_some, Option.toList, List.cons_append, List.nil_append, nI_add, pk_mul, bI0, ite_not, ev_rbb, up_n, up_s, up_u, pk_us, pk_un, Nat.reduceAdd, nI_ltT, nI_ltF, nI_leT, nI_leF, nI_eqT, nI_eqF, en_LH_costs, bk_LH_costs, gfC, ce_Told_isColumn, t_Told_isColumn, hw1, h1, h2, and_self, not_true_eq_false, ce_LH_within, t_LH_within, ce_Asker_cost, hc]
      · simp (disch := first | assumption | omega | decide | (simp only [ma_wd0, ma_wdi, ma_wdr, ma_wdl, ma_wdn] <;> omega)) only [↓reduceIte, evK, evL, evS, evA, evJ, Option.bind_some, Option.toList, List.cons_append, List.nil_append, nI_add, pk_mul, bI0, ite_not, ev_rbb, up_n, up_s, up_u, pk_us, pk_un, Nat.reduceAdd, nI_ltT, nI_ltF, nI_leT, nI_leF, nI_eqT, nI_eqF, en_MO_costs, bk_MO_costs, pfM, ce_MO_isColumn, t_MO_isColumn, hw2, h1, h2, and_self, not_true_eq_false, ce_MO_isIn, t_MO_isIn, ce_MO_costOf, hm]
    · refine ⟨c, _, -1, fun m0 => ?_, fun c0 => ?_, h.q0⟩
      · simp (disch := first | assumption | omega | decide | (simp only [ma_wd0, ma_wdi, ma_wdr, ma_wdl, ma_wdn] <;> omega)) only [↓reduceIte, evK, evL, evS, evA, evJ, Option.bind_some, Option.toList, List.cons_append, List.nil_append, nI_add, pk_mul, bI0, ite_not, ev_rbb, up_n, up_s, up_u, pk_us, pk_un, Nat.reduceAdd, nI_ltT, nI_ltF, nI_leT, nI_leF, nI_eqT, nI_eqF, en_LH_costs, bk_LH_costs, gfC, ce_Told_isColumn, t_Told_isColumn, hw1, h1, h2, and_self, not_true_eq_false, not_false_eq_true, ce_LH_within, t_LH_within]
      · simp (disch := first | assumption | omega | decide | (simp only [ma_wd0, ma_wdi, ma_wdr, ma_wdl, ma_wdn] <;> omega)) only [↓reduceIte, evK, evL, evS, evA, evJ, Option.bind_some, Option.toList, List.cons_append, List.nil_append, nI_add, pk_mul, bI0, ite_not, ev_rbb, up_n, up_s, up_u, pk_us, pk_un, Nat.reduceAdd, nI_ltT, nI_ltF, nI_leT, nI_leF, nI_eqT, nI_eqF, en_MO_costs, bk_MO_costs, pfM, ce_MO_isColumn, t_MO_isColumn, hw2, h1, h2, and_self, not_true_eq_false, not_false_eq_true, ce_MO_isIn, t_MO_isIn]
  · refine ⟨c, _, -1, fun m0 => ?_, fun c0 => ?_, h.q0⟩
    · simp (disch := first | assumption | omega | decide | (simp only [ma_wd0, ma_wdi, ma_wdr, ma_wdl, ma_wdn] <;> omega)) only [↓reduceIte, evK, evL, evS, evA, evJ, Option.bind_some, Option.toList, List.cons_append, List.nil_append, nI_add, pk_mul, bI0, ite_not, ev_rbb, up_n, up_s, up_u, pk_us, pk_un, Nat.reduceAdd, nI_ltT, nI_ltF, nI_leT, nI_leF, nI_eqT, nI_eqF, en_LH_costs, bk_LH_costs, gfC, ce_Told_isColumn, t_Told_isColumn, hw1, h1, not_false_eq_true]
    · simp (disch := first | assumption | omega | decide | (simp only [ma_wd0, ma_wdi, ma_wdr, ma_wdl, ma_wdn] <;> omega)) only [↓reduceIte, evK, evL, evS, evA, evJ, Option.bind_some, Option.toList, List.cons_append, List.nil_append, nI_add, pk_mul, bI0, ite_not, ev_rbb, up_n, up_s, up_u, pk_us, pk_un, Nat.reduceAdd, nI_ltT, nI_ltF, nI_leT, nI_leF, nI_eqT, nI_eqF, en_MO_costs, bk_MO_costs, pfM, ce_MO_isColumn, t_MO_isColumn, hw2, h1, not_false_eq_true]
end P3
