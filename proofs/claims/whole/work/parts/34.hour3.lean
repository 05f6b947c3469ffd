/-! ===== wants pay, columns wear ===== -/
section J7
variable {sc : Nat × (Nat → Int32)} {a W S Q : Nat} {ls : List lL} {c m Z : Nat → Nat → Int32} {w : Nat → Int64}
theorem t_Told_isWanted (d i s t : Nat) (hr : Int32) (hi : i < 12) (h2 : c 16 (5 * i + 2) = nI s) (h3 : c 16 (5 * i + 3) = nI t) : cc sc (d + 2) 141 [.ref 1, .int (nI i), .int hr] (hp c w m) = some (some (.int (bI (nI s ≤ hr ∧ hr ≤ nI t))), hp c w m) := by
  have q2 := t_Rows_cell15 (sc := sc) (c := c) (m := m) (w := w) d i 2 (by omega)
  have q3 := t_Rows_cell15 (sc := sc) (c := c) (m := m) (w := w) d i 3 (by omega)
  rw [h2] at q2
  rw [h3] at q3
  simp (disch := first | assumption | omega | decide | (simp only [ma_wd0, ma_wdi, ma_wdr, ma_wdl, ma_wdn] <;> omega)) only [↓reduceIte, evK, evL, evS, evA, evJ, Option.bind_some, Option.toList, List.cons_append, List.nil_append, nI_add, pk_mul, bI0, ite_not, ev_rbb, up_n, up_s, up_u, pk_us, pk_un, Nat.reduceAdd, nI_ltT, nI_ltF, nI_leT, nI_leF, nI_eqT, nI_eqF, en_Told_isWanted, gfC, ce_Rows_cell, q2, q3, ce_LH_within, t_LH_within]
theorem t_Told_wantedColumn (d i p k : Nat) (hi : i < 12) (h0 : c 16 (5 * i) = nI p) (hp5 : c 1 5 = nI Q) (hpQ : p < Q) (hQ : Q ≤ 6) (h3 : c 3 p = nI k) (hkW : k < W) (hW : W ≤ 14) (hw : c 1 0 = nI W) : cc sc (d + 2) 142 [.ref 1, .int (nI i)] (hp c w m) = some (some (.int (nI k)), hp c w m) := by
  have q0 := t_Rows_cell15 (sc := sc) (c := c) (m := m) (w := w) d i 0 (by omega)
  rw [show 5 * i + 0 = 5 * i from rfl, h0] at q0
  have kp := t_Told_kept (sc := sc) (c := c) (m := m) (w := w) d k W hkW hW hw
  simp (disch := first | assumption | omega | decide | (simp only [ma_wd0, ma_wdi, ma_wdr, ma_wdl, ma_wdn] <;> omega)) only [↓reduceIte, evK, evL, evS, evA, evJ, Option.bind_some, Option.toList, List.cons_append, List.nil_append, nI_add, pk_mul, bI0, ite_not, ev_rbb, up_n, up_s, up_u, pk_us, pk_un, Nat.reduceAdd, nI_ltT, nI_ltF, nI_leT, nI_leF, nI_eqT, nI_eqF, en_Told_wantedColumn, bk_Told_wantedColumn, gfC, ldC, ce_Rows_cell, q0, ce_Told_isPier, t_Told_isPier, hp5, and_self, not_true_eq_false, h3, ce_Told_kept, kp]
theorem t_MO_isWantedAt (d i s t : Nat) (hr : Int32) (hi : i < 12) (h2 : m 157 (5 * i + 2) = nI s) (h3 : m 157 (5 * i + 3) = nI t) : cc sc (d + 1) 237 [.ref 138, .int (nI i), .int hr] (hp c w m) = some (some (.int (bI (nI s ≤ hr ∧ hr ≤ nI t))), hp c w m) := by
  simp (disch := first | assumption | omega | decide | (simp only [ma_wd0, ma_wdi, ma_wdr, ma_wdl, ma_wdn] <;> omega)) only [↓reduceIte, evK, evL, evS, evA, evJ, Option.bind_some, Option.toList, List.cons_append, List.nil_append, nI_add, pk_mul, bI0, ite_not, ev_rbb, up_n, up_s, up_u, pk_us, pk_un, Nat.reduceAdd, nI_ltT, nI_ltF, nI_leT, nI_leF, nI_eqT, nI_eqF, en_MO_isWantedAt, gfM, ldM, h2, h3, ce_MO_isIn, t_MO_isIn]
theorem j_pay (d i n : Nat) (k : Int32) (hT : tR W S Q ls c m) (hJ : jR a W S c m Z) (hk : kR a c m) (hi : i < n) (hn : n ≤ 12) (hn1 : c 15 0 = nI n) (hn2 : m 138 40 = nI n) (hw : wL Q (c 16) (m 157) i) : ∃ e x3, ∃ f3 : Option Value → Option Value, ∃ c' m', (∀ m0 y3, ev sc (d + 10) 156 (pm_blk 156 2) [some (.ref (wkA a)), some (.ref a), some (.int (nI i)), y3] [] (hp c w m0) = ev sc (d + 10) 156 (pm_blk 156 2) [some (.ref (wkA a)), some (.ref a), some (.int (nI (i + 1))), f3 y3] [] (hp c' w m0)) ∧
    (∀ c0 y3, ev sc (d + 10) 236 (pm_blk 236 4) [some (.ref 138), some (.int k), some (.int (nI i)), y3] [] (hp c0 w m) = ev sc (d + 10) 236 (pm_blk 236 4) [some (.ref 138), some (.int (k + e)), some (.int (nI (i + 1))), x3] [] (hp c0 w m')) ∧ ∃ Z', jR a W S c' m' Z' ∧ kR a c' m' ∧ FR a c m c' m' ∧ c' (wkA a) 3 = c (wkA a) 3 + e := by
  have ha := hJ.aa
  have hS := hT.2.2.1.2.2.1
  have hW := hT.1.2.2.2
  have hQ1 := hT.2.2.2.1.1
  have hQ6 := hT.2.2.2.1.2.2.1
  obtain ⟨p, h, s, t, y, hp, hh, hst, ht, hy, w0, v0, w1, v1, w2, v2, w3, v3, w4, v4⟩ := hw
  obtain ⟨x, ey, hx, -, x1, x2, -, -⟩ := hT.2.2.2.1.2.2.2 p hp
  have z1 : c (a + 1) x = Z 0 (5 + x) := hJ.1.2.1 x (by omega)
  have z2 : m 139 (5 + x) + nI 10 = Z 0 (5 + x) := hJ.2.1.2.1 x (by omega)
  have u1 : c a 6 = Z 0 0 := hJ.1.1.1
  have u2 : m 139 0 = Z 0 0 := hJ.2.1.1.1
  have i1 := fun m => t_Told_isWanted (sc := sc) (c := c) (m := m) (w := w) (d + 7) i s t (iRem (Z 0 0) (nI 24)) (by omega) w2 w3
  have i2 := fun c => t_MO_isWantedAt (sc := sc) (c := c) (m := m) (w := w) (d + 8) i s t (iRem (Z 0 0) (nI 24)) (by omega) v2 v3
  have c1 := fun m => t_Told_wantedColumn (sc := sc) (c := c) (m := m) (w := w) (d + 7) i p x (by omega) w0 hQ1 hp hQ6 x1 hx hW hT.1.2.1
  have q1 := fun m => t_Rows_cell15 (sc := sc) (c := c) (m := m) (w := w) (d + 8) i 1 (by omega)
  have q4 := fun m => t_Rows_cell15 (sc := sc) (c := c) (m := m) (w := w) (d + 8) i 4 (by omega)
  rw [w1] at q1
  rw [w4] at q4
  have hi12 : i < 12 := by omega
  by_cases hP : nI s ≤ iRem (Z 0 0) (nI 24) ∧ iRem (Z 0 0) (nI 24) ≤ nI t
  · by_cases hH : Z 0 (5 + x) = nI h
    · have hJ3 := hJ.s.uf hS (f := 4) (i := 3) (Z 0 3 + nI y) (by omega)
      obtain ⟨Z', hJ4, -⟩ := hJ3.nt hS (nI 4) (nI i) (nI y)
      have hwk := wkA_e a
      obtain ⟨kk, hk150, k1, k2⟩ := hJ3.1.k
      have n1 := fun m => t_Works_note (sc := sc) (c := va_up (va_up c a (upd (c a) 4 (Z 0 3 + nI y))) (wkA a) (upd (c (wkA a)) 3 (c (wkA a) 3 + nI 1))) (m := m) (w := w) (d + 7) a kk (nI 4) (nI i) (nI y) ha hk150 (by rw [up_n _ _ _ _ (by omega)]; exact k1)
      have n2 := fun c => t_MO_notes (sc := sc) (c := c) (w := w) (d + 9) kk (nI 4) (nI i) (nI y) hk150 k2 hJ3.1.t
      rw [nCf_wk ha] at n1
      have g1 : c a 4 = Z 0 3 := hJ.1.1.2.2.2.1
      have g2 : m 139 3 = Z 0 3 := hJ.2.1.1.2.2.2.1
      have h138 : nMf (va_up m 139 (upd (m 139) 3 (Z 0 3 + nI y))) (nI 4) (nI i) (nI y) 138 = m 138 := nM_138 _ _ _ _
      have hJ5 := hJ4.1.c1 (upd (c (wkA a)) 3 (c (wkA a) 3 + nI 1)) _ rfl
      have hF5 := hJ4.2.1.tr (FR.c1 (upd (c (wkA a)) 3 (c (wkA a) 3 + nI 1)) _ (fun _ _ _ => rfl))
      rw [up_self] at hJ5 hF5
      refine ⟨nI 1, some (.int (nI (5 * i))), fun _ => some (.int (nI y)), _, _, fun m0 y3 => ?_, fun c0 y3 => ?_, Z', hJ5, ?_, hF5, ?_⟩
      · rcases ha with rfl | rfl
        · simp (disch := first | assumption | omega | decide | (simp only [ma_wd0, ma_wdi, ma_wdr, ma_wdl, ma_wdn] <;> omega)) only [up_n, up_s, up_u, pk_us, pk_un, Nat.reduceAdd, wkA17] at z1 u1 g1 n1 ⊢
          conv => lhs; rw [bh_Works_payWants_2]
          simp (disch := first | assumption | omega | decide | (simp only [ma_wd0, ma_wdi, ma_wdr, ma_wdl, ma_wdn] <;> omega)) only [↓reduceIte, evK, evL, evS, evA, evJ, Option.bind_some, Option.toList, List.cons_append, List.nil_append, nI_add, pk_mul, bI0, ite_not, ev_rbb, up_n, up_s, up_u, pk_us, pk_un, Nat.reduceAdd, nI_ltT, nI_ltF, nI_leT, nI_leF, nI_eqT, nI_eqF, bk_Works_payWants, gfC, ldC, stC, pfC, hn1, u1, nI24, ce_Told_isWanted, i1, hP, not_true_eq_false, and_self, ce_Told_wantedColumn, c1, z1, ce_Rows_cell, q1, hH, q4, g1, ce_Works_note, n1]
        · simp (disch := first | assumption | omega | decide | (simp only [ma_wd0, ma_wdi, ma_wdr, ma_wdl, ma_wdn] <;> omega)) only [up_n, up_s, up_u, pk_us, pk_un, Nat.reduceAdd, wkA97] at z1 u1 g1 n1 ⊢
          conv => lhs; rw [bh_Works_payWants_2]
          simp (disch := first | assumption | omega | decide | (simp only [ma_wd0, ma_wdi, ma_wdr, ma_wdl, ma_wdn] <;> omega)) only [↓reduceIte, evK, evL, evS, evA, evJ, Option.bind_some, Option.toList, List.cons_append, List.nil_append, nI_add, pk_mul, bI0, ite_not, ev_rbb, up_n, up_s, up_u, pk_us, pk_un, Nat.reduceAdd, nI_ltT, nI_ltF, nI_leT, nI_leF, nI_eqT, nI_eqF, bk_Works_payWants, gfC, ldC, stC, pfC, hn1, u1, nI24, ce_Told_isWanted, i1, hP, not_true_eq_false, and_self, ce_Told_wantedColumn, c1, z1, ce_Rows_cell, q1, hH, q4, g1, ce_Works_note, n1]
      · conv => lhs; rw [bh_MO_pays_4]
        simp (disch := first | assumption | omega | decide | (simp only [ma_wd0, ma_wdi, ma_wdr, ma_wdl, ma_wdn] <;> omega)) only [↓reduceIte, evK, evL, evS, evA, evJ, Option.bind_some, Option.toList, List.cons_append, List.nil_append, nI_add, pk_mul, bI0, ite_not, ev_rbb, up_n, up_s, up_u, pk_us, pk_un, Nat.reduceAdd, nI_ltT, nI_ltF, nI_leT, nI_leF, nI_eqT, nI_eqF, bk_MO_pays, gfM, ldM, stM, hn2, u2, nI24, ce_MO_isWantedAt, i2, hP, not_true_eq_false, and_self, v0, v1, x2, ce_MO_heightOf, t_MO_heightOf, z2, hH, v4, g2, ce_MO_notes, n2]
      · intro z
        have hkz := hk z
        subst z
        simp only [wkA97, up_s, h138]
        rw [pk_un (by omega), pk_un (by omega)]
        exact hkz
      · rw [up_s, pk_us]
    · refine ⟨nI 0, some (.int (nI (5 * i))), id, c, m, fun m0 y3 => ?_, fun c0 y3 => ?_, Z, hJ, hk, FR.rf, (Int32.add_zero _).symm⟩
      · rcases ha with rfl | rfl
        · simp (disch := first | assumption | omega | decide | (simp only [ma_wd0, ma_wdi, ma_wdr, ma_wdl, ma_wdn] <;> omega)) only [up_n, up_s, up_u, pk_us, pk_un, Nat.reduceAdd, wkA17] at z1 u1 ⊢
          conv => lhs; rw [bh_Works_payWants_2]
          simp (disch := first | assumption | omega | decide | (simp only [ma_wd0, ma_wdi, ma_wdr, ma_wdl, ma_wdn] <;> omega)) only [↓reduceIte, evK, evL, evS, evA, evJ, Option.bind_some, Option.toList, List.cons_append, List.nil_append, nI_add, pk_mul, bI0, ite_not, ev_rbb, up_n, up_s, up_u, pk_us, pk_un, Nat.reduceAdd, nI_ltT, nI_ltF, nI_leT, nI_leF, nI_eqT, nI_eqF, bk_Works_payWants, gfC, ldC, stC, pfC, hn1, u1, nI24, ce_Told_isWanted, i1, hP, not_true_eq_false, and_self, ce_Told_wantedColumn, c1, z1, ce_Rows_cell, q1, hH]
          rfl
        · simp (disch := first | assumption | omega | decide | (simp only [ma_wd0, ma_wdi, ma_wdr, ma_wdl, ma_wdn] <;> omega)) only [up_n, up_s, up_u, pk_us, pk_un, Nat.reduceAdd, wkA97] at z1 u1 ⊢
          conv => lhs; rw [bh_Works_payWants_2]
          simp (disch := first | assumption | omega | decide | (simp only [ma_wd0, ma_wdi, ma_wdr, ma_wdl, ma_wdn] <;> omega)) only [↓reduceIte, evK, evL, evS, evA, evJ, Option.bind_some, Option.toList, List.cons_append, List.nil_append, nI_add, pk_mul, bI0, ite_not, ev_rbb, up_n, up_s, up_u, pk_us, pk_un, Nat.reduceAdd, nI_ltT, nI_ltF, nI_leT, nI_leF, nI_eqT, nI_eqF, bk_Works_payWants, gfC, ldC, stC, pfC, hn1, u1, nI24, ce_Told_isWanted, i1, hP, not_true_eq_false, and_self, ce_Told_wantedColumn, c1, z1, ce_Rows_cell, q1, hH]
          rfl
      · rw [show k + nI 0 = k from Int32.add_zero k]
        conv => lhs; rw [bh_MO_pays_4]
        simp (disch := first | assumption | omega | decide | (simp only [ma_wd0, ma_wdi, ma_wdr, ma_wdl, ma_wdn] <;> omega)) only [↓reduceIte, evK, evL, evS, evA, evJ, Option.bind_some, Option.toList, List.cons_append, List.nil_append, nI_add, pk_mul, bI0, ite_not, ev_rbb, up_n, up_s, up_u, pk_us, pk_un, Nat.reduceAdd, nI_ltT, nI_ltF, nI_leT, nI_leF, nI_eqT, nI_eqF, bk_MO_pays, gfM, ldM, hn2, u2, nI24, ce_MO_isWantedAt, i2, hP, not_true_eq_false, and_self, v0, v1, x2, ce_MO_heightOf, t_MO_heightOf, z2, hH]
  · refine ⟨nI 0, some (.int (nI (5 * i))), id, c, m, fun m0 y3 => ?_, fun c0 y3 => ?_, Z, hJ, hk, FR.rf, (Int32.add_zero _).symm⟩
    · rcases ha with rfl | rfl
      · simp (disch := first | assumption | omega | decide | (simp only [ma_wd0, ma_wdi, ma_wdr, ma_wdl, ma_wdn] <;> omega)) only [up_n, up_s, up_u, pk_us, pk_un, Nat.reduceAdd, wkA17] at z1 u1 ⊢
        conv => lhs; rw [bh_Works_payWants_2]
        simp (disch := first | assumption | omega | decide | (simp only [ma_wd0, ma_wdi, ma_wdr, ma_wdl, ma_wdn] <;> omega)) only [↓reduceIte, evK, evL, evS, evA, evJ, Option.bind_some, Option.toList, List.cons_append, List.nil_append, nI_add, pk_mul, bI0, ite_not, ev_rbb, up_n, up_s, up_u, pk_us, pk_un, Nat.reduceAdd, nI_ltT, nI_ltF, nI_leT, nI_leF, nI_eqT, nI_eqF, bk_Works_payWants, gfC, ldC, stC, pfC, hn1, u1, nI24, ce_Told_isWanted, i1, hP, not_false_eq_true]
        rfl
      · simp (disch := first | assumption | omega | decide | (simp only [ma_wd0, ma_wdi, ma_wdr, ma_wdl, ma_wdn] <;> omega)) only [up_n, up_s, up_u, pk_us, pk_un, Nat.reduceAdd, wkA97] at z1 u1 ⊢
        conv => lhs; rw [bh_Works_payWants_2]
        simp (disch := first | assumption | omega | decide | (simp only [ma_wd0, ma_wdi, ma_wdr, ma_wdl, ma_wdn] <;> omega)) only [↓reduceIte, evK, evL, evS, evA, evJ, Option.bind_some, Option.toList, List.cons_append, List.nil_append, nI_add, pk_mul, bI0, ite_not, ev_rbb, up_n, up_s, up_u, pk_us, pk_un, Nat.reduceAdd, nI_ltT, nI_ltF, nI_leT, nI_leF, nI_eqT, nI_eqF, bk_Works_payWants, gfC, ldC, stC, pfC, hn1, u1, nI24, ce_Told_isWanted, i1, hP, not_false_eq_true]
        rfl
    · rw [show k + nI 0 = k from Int32.add_zero k]
      conv => lhs; rw [bh_MO_pays_4]
      simp (disch := first | assumption | omega | decide | (simp only [ma_wd0, ma_wdi, ma_wdr, ma_wdl, ma_wdn] <;> omega)) only [↓reduceIte, evK, evL, evS, evA, evJ, Option.bind_some, Option.toList, List.cons_append, List.nil_append, nI_add, pk_mul, bI0, ite_not, ev_rbb, up_n, up_s, up_u, pk_us, pk_un, Nat.reduceAdd, nI_ltT, nI_ltF, nI_leT, nI_leF, nI_eqT, nI_eqF, bk_MO_pays, gfM, ldM, hn2, u2, nI24, ce_MO_isWantedAt, i2, hP, not_false_eq_true]
end J7
