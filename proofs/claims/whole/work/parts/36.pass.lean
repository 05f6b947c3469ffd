/-! ===== gusts; an hour passes ===== -/
def drS (v : Int32) : Int32 := (v.toUInt32 >>> ((nI 8).toUInt32 &&& Int32.toUInt32 31)).toInt32
theorem drS_ex (v : Int32) : ∃ k, k < 2 ^ 24 ∧ drS v = nI k := by
  refine ⟨v.toUInt32.toNat / 2 ^ 8, ?_, ?_⟩
  · have := v.toUInt32.toNat_lt
    omega
  · have h8 : (nI 8).toUInt32 &&& Int32.toUInt32 31 = 8 := by decide +kernel
    unfold drS
    rw [h8]
    apply Int32.toBitVec_inj.mp
    apply BitVec.eq_of_toNat_eq
    have h1 : (v.toUInt32 >>> (8 : UInt32)).toNat = v.toUInt32.toNat / 2 ^ 8 := by
      rw [UInt32.toNat_shiftRight]
      rw [show (8 : UInt32).toNat % 32 = 8 from rfl, Nat.shiftRight_eq_div_pow]
    have := v.toUInt32.toNat_lt
    rw [pk_tn (by omega)]
    exact h1
def nxS (v : Int32) : Int32 := nI 1664525 * v + nI 1013904223
theorem gust_bd {h : Int32} (hh : 0 ≤ h.toInt ∧ h.toInt ≤ 40) : 0 ≤ (iMx (nI 0) (h - nI 1)).toInt ∧ (iMx (nI 0) (h - nI 1)).toInt ≤ 40 := by
  obtain ⟨k, hk, rfl⟩ := nI_ex (n := 40) hh
  by_cases h0 : k = 0
  · subst h0; decide +kernel
  · rw [pk_sub (by omega)]
    unfold iMx
    split
    · decide +kernel
    · rw [nI_toInt (by omega)]; omega
section J9
variable {sc : Nat × (Nat → Int32)} {a W S Q : Nat} {ls : List lL} {c m Z : Nat → Nat → Int32} {w : Nat → Int64}
theorem t_Line_draw (d n : Nat) (h1 : 1 ≤ n) (hn : n < 2 ^ 31) : cc sc d 66 [.ref 17, .int (nI n)] (hp c w m) = some (some (.int (iRem (drS (nxS (c 17 7))) (nI n))), hp (va_up c 17 (upd (c 17) 7 (nxS (c 17 7)))) w m) := by
  simp (disch := first | assumption | omega | decide | (simp only [ma_wd0, ma_wdi, ma_wdr, ma_wdl, ma_wdn] <;> omega)) only [↓reduceIte, evK, evL, evS, evA, evJ, Option.bind_some, Option.toList, List.cons_append, List.nil_append, nI_add, pk_mul, bI0, ite_not, ev_rbb, up_n, up_s, up_u, pk_us, pk_un, Nat.reduceAdd, nI_ltT, nI_ltF, nI_leT, nI_leF, nI_eqT, nI_eqF, en_Line_draw, bk_Line_draw, gfC, pfC]
  rfl
theorem t_MO_draw (d n : Nat) (h1 : 1 ≤ n) (hn : n < 2 ^ 31) : cc sc d 241 [.ref 138, .int (nI n)] (hp c w m) = some (some (.int (iRem (drS (nxS (m 139 1))) (nI n))), hp c w (va_up m 139 (upd (m 139) 1 (nxS (m 139 1))))) := by
  simp (disch := first | assumption | omega | decide | (simp only [ma_wd0, ma_wdi, ma_wdr, ma_wdl, ma_wdn] <;> omega)) only [↓reduceIte, evK, evL, evS, evA, evJ, Option.bind_some, Option.toList, List.cons_append, List.nil_append, nI_add, pk_mul, bI0, ite_not, ev_rbb, up_n, up_s, up_u, pk_us, pk_un, Nat.reduceAdd, nI_ltT, nI_ltF, nI_leT, nI_leF, nI_eqT, nI_eqF, en_MO_draw, gfM, ldM, stM]
  rfl
theorem t_MO_blows0 (d : Nat) (h : m 138 5 = nI 1 ∨ (m 138 5 = nI 0 ∧ m 138 8 = nI 0)) : cc sc d 240 [.ref 138] (hp c w m) = some (none, hp c w m) := by
  rcases h with h | ⟨h, h'⟩
  · simp (disch := first | assumption | omega | decide | (simp only [ma_wd0, ma_wdi, ma_wdr, ma_wdl, ma_wdn] <;> omega)) only [↓reduceIte, evK, evL, evS, evA, evJ, Option.bind_some, Option.toList, List.cons_append, List.nil_append, nI_add, pk_mul, bI0, ite_not, ev_rbb, up_n, up_s, up_u, pk_us, pk_un, Nat.reduceAdd, nI_ltT, nI_ltF, nI_leT, nI_leF, nI_eqT, nI_eqF, en_MO_blows, bk_MO_blows, gfM, h]
  · simp (disch := first | assumption | omega | decide | (simp only [ma_wd0, ma_wdi, ma_wdr, ma_wdl, ma_wdn] <;> omega)) only [↓reduceIte, evK, evL, evS, evA, evJ, Option.bind_some, Option.toList, List.cons_append, List.nil_append, nI_add, pk_mul, bI0, ite_not, ev_rbb, up_n, up_s, up_u, pk_us, pk_un, Nat.reduceAdd, nI_ltT, nI_ltF, nI_leT, nI_leF, nI_eqT, nI_eqF, en_MO_blows, bk_MO_blows, gfM, h, h']
theorem j_gust (d g : Nat) (hT : tR W S Q ls c m) (hJ : jR 17 W S c m Z) (hk : kR 17 c m) (g1 : c 1 2 = nI g) (g2 : m 138 8 = nI g) (hg0 : 0 < g) (hg : g ≤ 1000) : sJ sc w 17 W S c m (d + 11) 159 [.ref 96, .ref 17] (d + 11) 240 [.ref 138] none none := by
  have hS := hT.2.2.1.2.2.1
  have hW := hT.1.2.2.2
  have hW3 := hT.1.2.2.1
  have hw1 := hT.1.2.1
  have hw2 := hT.2.1.2.1
  have ht : m 138 5 = nI 0 := by
    rcases hJ.2.2.2.2 with z | z
    · exact z.2
    · omega
  have e1 : c 17 7 = Z 0 1 := hJ.1.1.2.1
  have e2 : m 139 1 = Z 0 1 := hJ.2.1.1.2.1
  have hJ1 := hJ.s.uf hS (f := 7) (i := 1) (nxS (Z 0 1)) (by omega)
  have d1 := fun m => t_Line_draw (sc := sc) (c := c) (m := m) (w := w) (d + 10) 1000 (by omega) (by omega)
  have d2 := fun c => t_MO_draw (sc := sc) (c := c) (m := m) (w := w) (d + 10) 1000 (by omega) (by omega)
  rw [e1] at d1
  rw [e2] at d2
  obtain ⟨k, hk24, ek⟩ := drS_ex (nxS (Z 0 1))
  rw [ek, iRem_nI (by omega) (by omega) (by omega)] at d1 d2
  by_cases hb : k % 1000 < g
  · obtain ⟨k', hk24', ek'⟩ := drS_ex (nxS (nxS (Z 0 1)))
    have d3 := fun m => t_Line_draw (sc := sc) (c := va_up c 17 (upd (c 17) 7 (nxS (Z 0 1)))) (m := m) (w := w) (d + 10) W (by omega) (by omega)
    have d4 := fun c => t_MO_draw (sc := sc) (c := c) (m := va_up m 139 (upd (m 139) 1 (nxS (Z 0 1)))) (w := w) (d + 10) W (by omega) (by omega)
    simp only [up_s, pk_us, up_u] at d3 d4
    rw [ek', iRem_nI (by omega) (by omega) (by omega)] at d3 d4
    have hx : k' % W < W := Nat.mod_lt _ (by omega)
    generalize k' % W = x at d3 d4 hx
    have z1 : c 18 x = Z 0 (5 + x) := hJ.1.2.1 x (by omega)
    have z2 : m 139 (5 + x) + nI 10 = Z 0 (5 + x) := hJ.2.1.2.1 x (by omega)
    have hJ3 := (hJ1.uf hS (f := 7) (i := 1) (nxS (nxS (Z 0 1))) (by omega)).up hS (x := x) (by omega) (gust_bd (hJ.2.2.1.1 x (by omega)))
    generalize hnv : iMx (nI 0) (Z 0 (5 + x) - nI 1) = nv at hJ3
    obtain ⟨kk, hk150, k1, k2⟩ := hJ3.1.k
    obtain ⟨Z', hJ4, -⟩ := hJ3.nt hS (nI 6) (nI x) nv
    have n1 := fun m => t_Works_note (sc := sc) (m := m) (w := w) (d + 8) 17 kk (nI 6) (nI x) nv (Or.inl rfl) hk150 k1
    have n2 := fun c => t_MO_notes (sc := sc) (c := c) (w := w) (d + 10) kk (nI 6) (nI x) nv hk150 k2 hJ3.1.t
    refine ⟨_, _, fun m0 => ?_, fun c0 => ?_, Z', hJ4.1, hJ4.kr hk, hJ4.2.1, hJ4.pd⟩
    · simp (disch := first | assumption | omega | decide | (simp only [ma_wd0, ma_wdi, ma_wdr, ma_wdl, ma_wdn] <;> omega)) only [up_n, up_s, up_u, pk_us, pk_un, Nat.reduceAdd, wkA17] at n1
      simp (disch := first | assumption | omega | decide | (simp only [ma_wd0, ma_wdi, ma_wdr, ma_wdl, ma_wdn] <;> omega)) only [↓reduceIte, evK, evL, evS, evA, evJ, Option.bind_some, Option.toList, List.cons_append, List.nil_append, nI_add, pk_mul, bI0, ite_not, ev_rbb, up_n, up_s, up_u, pk_us, pk_un, Nat.reduceAdd, nI_ltT, nI_ltF, nI_leT, nI_leF, nI_eqT, nI_eqF, en_Works_drawGust, bk_Works_drawGust, gfC, ldC, stC, ce_Line_draw, d1, d3, g1, hw1, z1, ce_Math_max, t_Math_max, mx_eq, hnv, ce_Works_note, n1]
    · simp (disch := first | assumption | omega | decide | (simp only [ma_wd0, ma_wdi, ma_wdr, ma_wdl, ma_wdn] <;> omega)) only [up_n, up_s, up_u, pk_us, pk_un, Nat.reduceAdd] at n2
      simp (disch := first | assumption | omega | decide | (simp only [ma_wd0, ma_wdi, ma_wdr, ma_wdl, ma_wdn] <;> omega)) only [↓reduceIte, evK, evL, evS, evA, evJ, Option.bind_some, Option.toList, List.cons_append, List.nil_append, nI_add, pk_mul, bI0, ite_not, ev_rbb, up_n, up_s, up_u, pk_us, pk_un, Nat.reduceAdd, nI_ltT, nI_ltF, nI_leT, nI_leF, nI_eqT, nI_eqF, en_MO_blows, bk_MO_blows, gfM, ldM, stM, ht, g2, ce_MO_draw, d2, d4, ce_MO_wide, t_MO_wide, hw2, ce_MO_heightOf, t_MO_heightOf, z2, ce_MO_greater, t_MO_greater, hnv, ce_MO_heightBe, t_MO_heightBe, nI_sa, ce_MO_notes, n2]
  · refine ⟨_, _, fun m0 => ?_, fun c0 => ?_, _, hJ1.1, hJ1.kr hk, hJ1.2.1, hJ1.pd⟩
    · simp (disch := first | assumption | omega | decide | (simp only [ma_wd0, ma_wdi, ma_wdr, ma_wdl, ma_wdn] <;> omega)) only [↓reduceIte, evK, evL, evS, evA, evJ, Option.bind_some, Option.toList, List.cons_append, List.nil_append, nI_add, pk_mul, bI0, ite_not, ev_rbb, up_n, up_s, up_u, pk_us, pk_un, Nat.reduceAdd, nI_ltT, nI_ltF, nI_leT, nI_leF, nI_eqT, nI_eqF, en_Works_drawGust, bk_Works_drawGust, gfC, ldC, stC, ce_Line_draw, d1, g1]
    · simp (disch := first | assumption | omega | decide | (simp only [ma_wd0, ma_wdi, ma_wdr, ma_wdl, ma_wdn] <;> omega)) only [↓reduceIte, evK, evL, evS, evA, evJ, Option.bind_some, Option.toList, List.cons_append, List.nil_append, nI_add, pk_mul, bI0, ite_not, ev_rbb, up_n, up_s, up_u, pk_us, pk_un, Nat.reduceAdd, nI_ltT, nI_ltF, nI_leT, nI_leF, nI_eqT, nI_eqF, en_MO_blows, bk_MO_blows, gfM, ldM, stM, ht, g2, ce_MO_draw, d2]
end J9
