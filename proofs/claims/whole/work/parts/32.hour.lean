/-! ===== ships slide and scrape, wants pay, columns wear, gusts ===== -/
theorem sl_math {x y s : Int32} (hx : 0 ≤ x.toInt ∧ x.toInt ≤ 40) (hy : 0 ≤ y.toInt ∧ y.toInt ≤ 40) (hs : 0 ≤ s.toInt ∧ s.toInt ≤ 40) : (y < x - s) = ¬ (x - y ≤ s) := by
  have k1 := Int32_sub_toInt (a := x) (b := y) (by omega) (by omega)
  have k2 := Int32_sub_toInt (a := x) (b := s) (by omega) (by omega)
  simp only [Int32.lt_iff_toInt_lt, Int32.le_iff_toInt_le, k1, k2, eq_iff_iff]
  omega
section J5
variable {sc : Nat × (Nat → Int32)} {a W S Q : Nat} {ls : List lL} {c m Z : Nat → Nat → Int32} {w : Nat → Int64}
theorem j_slide (d i : Nat) (hT : tR W S Q ls c m) (hJ : jR a W S c m Z) (hk : kR a c m) (hi : i < S) : ∃ x3 x4 c' m', (∀ m0 y3 y4, ev sc (d + 10) 153 (pm_blk 153 2) [some (.ref (wkA a)), some (.ref a), some (.int (nI i)), y3, y4] [] (hp c w m0) = ev sc (d + 10) 153 (pm_blk 153 2) [some (.ref (wkA a)), some (.ref a), some (.int (nI (i + 1))), x3, x4] [] (hp c' w m0)) ∧ (∀ c0, cc sc (d + 10) 232 [.ref 138, .int (nI i)] (hp c0 w m) = some (none, hp c0 w m')) ∧ jP a W S c m c' m' := by
  have ha := hJ.aa
  have hS := hT.2.2.1.2.2.1
  have hS1 := hT.2.2.1.1
  have hW := hT.1.2.2.2
  have hW3 := hT.1.2.2.1
  obtain ⟨x, hx, ex⟩ := hJ.2.2.1.2.2.1 i hi
  have z1 : c (a + 3) i = nI x := (hJ.1.2.2.2.1 i hi).trans ex
  have z2 : m 139 (33 + i) = nI x := (hJ.2.1.2.2.2.1 i hi).trans ex
  have kp := fun m => t_Told_kept (sc := sc) (c := c) (m := m) (w := w) (d + 8) x W hx hW hT.1.2.1
  have hy := lowS_lt (H := zH Z) hx hW3
  have l1 := fun m0 => (j_low (sc := sc) (w := w) (d + 9) x hT hJ hx).1 m0
  have l2 := fun c0 => (j_low (sc := sc) (w := w) (d + 8) x hT hJ hx).2 c0
  generalize lowS W (zH Z) x = y at hy l1 l2
  have h1 : c (a + 1) x = Z 0 (5 + x) := hJ.1.2.1 x (by omega)
  have h2 : m 139 (5 + x) + nI 10 = Z 0 (5 + x) := hJ.2.1.2.1 x (by omega)
  have h3 : c (a + 1) y = Z 0 (5 + y) := hJ.1.2.1 y (by omega)
  have h4 : m 139 (5 + y) + nI 10 = Z 0 (5 + y) := hJ.2.1.2.1 y (by omega)
  obtain ⟨g1, f1, hc⟩ := t_Asker_slide (sc := sc) (c := c) (w := w) (d + 7) x W a ls ha hx hT.1 hJ.hB
  obtain ⟨g2, f2, hm⟩ := t_MO_slideOf (sc := sc) (m := m) (w := w) (d + 5) x W ls hx hT.2.1
  rw [(hJ.slide hx hW).1] at hc
  rw [(hJ.slide hx hW).2] at hm
  have hs : 0 ≤ (slideS ls W (zH Z) (zN Z) (Z 0 0) x).toInt ∧ (slideS ls W (zH Z) (zN Z) (Z 0 0) x).toInt ≤ 40 := iHd_bd _
  generalize slideS ls W (zH Z) (zN Z) (Z 0 0) x = v at hc hm hs
  have hq := sl_math (hJ.2.2.1.1 x (by omega)) (hJ.2.2.1.1 y (by omega)) hs
  have hJ2 := hJ.s.junk g1 f1 g2 f2
  refine ⟨some (.int (nI x)), some (.int (nI y)), ?_⟩
  by_cases hb : Z 0 (5 + x) - Z 0 (5 + y) ≤ v
  · have hq' : (Z 0 (5 + y) < Z 0 (5 + x) - v) = False := by rw [hq]; simp [hb]
    refine ⟨_, _, fun m0 y3 y4 => ?_, fun c0 => ?_, Z, hJ2.1, hJ2.kr hk, hJ2.2.1, hJ2.pd⟩
    · rcases ha with rfl | rfl
      · simp only [wkA17, Nat.reduceAdd] at l1 h1 h3 z1 ⊢
        conv => lhs; rw [bh_Works_slideShips_2]
        simp (disch := first | assumption | omega | decide | (simp only [ma_wd0, ma_wdi, ma_wdr, ma_wdl, ma_wdn] <;> omega)) only [↓reduceIte, evK, evL, evS, evA, evJ, Option.bind_some, Option.toList, List.cons_append, List.nil_append, nI_add, pk_mul, bI0, ite_not, ev_rbb, up_n, up_s, up_u, pk_us, pk_un, Nat.reduceAdd, nI_ltT, nI_ltF, nI_leT, nI_leF, nI_eqT, nI_eqF, bk_Works_slideShips, gfC, ldC, hS1, z1, ce_Told_kept, kp, ce_Works_lowerBeside, l1, h1, h3, ce_Asker_slide, hc, hb]
      · simp only [wkA97, Nat.reduceAdd] at l1 h1 h3 z1 ⊢
        conv => lhs; rw [bh_Works_slideShips_2]
        simp (disch := first | assumption | omega | decide | (simp only [ma_wd0, ma_wdi, ma_wdr, ma_wdl, ma_wdn] <;> omega)) only [↓reduceIte, evK, evL, evS, evA, evJ, Option.bind_some, Option.toList, List.cons_append, List.nil_append, nI_add, pk_mul, bI0, ite_not, ev_rbb, up_n, up_s, up_u, pk_us, pk_un, Nat.reduceAdd, nI_ltT, nI_ltF, nI_leT, nI_leF, nI_eqT, nI_eqF, bk_Works_slideShips, gfC, ldC, hS1, z1, ce_Told_kept, kp, ce_Works_lowerBeside, l1, h1, h3, ce_Asker_slide, hc, hb]
    · simp (disch := first | assumption | omega | decide | (simp only [ma_wd0, ma_wdi, ma_wdr, ma_wdl, ma_wdn] <;> omega)) only [↓reduceIte, evK, evL, evS, evA, evJ, Option.bind_some, Option.toList, List.cons_append, List.nil_append, nI_add, pk_mul, bI0, ite_not, ev_rbb, up_n, up_s, up_u, pk_us, pk_un, Nat.reduceAdd, nI_ltT, nI_ltF, nI_leT, nI_leF, nI_eqT, nI_eqF, en_MO_slides, bk_MO_slides, gfM, ldM, z2, ce_MO_lowerBeside, l2, ce_MO_heightOf, t_MO_heightOf, h2, h4, ce_MO_slideOf, hm, hq']
  · have hq' : (Z 0 (5 + y) < Z 0 (5 + x) - v) = True := by rw [hq]; simp [hb]
    have hJ3 := hJ2.ua hS hi hy
    obtain ⟨k, hk150, k1, k2⟩ := hJ3.1.k
    obtain ⟨Z', hJ4, -⟩ := hJ3.nt hS (nI 2) (nI i) (nI y)
    have n1 := fun m => t_Works_note (sc := sc) (m := m) (w := w) (d + 7) a k (nI 2) (nI i) (nI y) ha hk150 k1
    have n2 := fun c => t_MO_notes (sc := sc) (c := c) (w := w) (d + 9) k (nI 2) (nI i) (nI y) hk150 k2 hJ3.1.t
    refine ⟨_, _, fun m0 y3 y4 => ?_, fun c0 => ?_, Z', hJ4.1, hJ4.kr hk, hJ4.2.1, hJ4.pd⟩
    · rcases ha with rfl | rfl
      · simp (disch := first | assumption | omega | decide | (simp only [ma_wd0, ma_wdi, ma_wdr, ma_wdl, ma_wdn] <;> omega)) only [up_n, up_s, up_u, pk_us, pk_un, Nat.reduceAdd, wkA17] at l1 h1 h3 z1 n1 ⊢
        conv => lhs; rw [bh_Works_slideShips_2]
        simp (disch := first | assumption | omega | decide | (simp only [ma_wd0, ma_wdi, ma_wdr, ma_wdl, ma_wdn] <;> omega)) only [↓reduceIte, evK, evL, evS, evA, evJ, Option.bind_some, Option.toList, List.cons_append, List.nil_append, nI_add, pk_mul, bI0, ite_not, ev_rbb, up_n, up_s, up_u, pk_us, pk_un, Nat.reduceAdd, nI_ltT, nI_ltF, nI_leT, nI_leF, nI_eqT, nI_eqF, bk_Works_slideShips, gfC, ldC, stC, hS1, z1, ce_Told_kept, kp, ce_Works_lowerBeside, l1, h1, h3, ce_Asker_slide, hc, hb, ce_Works_note, n1]
      · simp (disch := first | assumption | omega | decide | (simp only [ma_wd0, ma_wdi, ma_wdr, ma_wdl, ma_wdn] <;> omega)) only [up_n, up_s, up_u, pk_us, pk_un, Nat.reduceAdd, wkA97] at l1 h1 h3 z1 n1 ⊢
        conv => lhs; rw [bh_Works_slideShips_2]
        simp (disch := first | assumption | omega | decide | (simp only [ma_wd0, ma_wdi, ma_wdr, ma_wdl, ma_wdn] <;> omega)) only [↓reduceIte, evK, evL, evS, evA, evJ, Option.bind_some, Option.toList, List.cons_append, List.nil_append, nI_add, pk_mul, bI0, ite_not, ev_rbb, up_n, up_s, up_u, pk_us, pk_un, Nat.reduceAdd, nI_ltT, nI_ltF, nI_leT, nI_leF, nI_eqT, nI_eqF, bk_Works_slideShips, gfC, ldC, stC, hS1, z1, ce_Told_kept, kp, ce_Works_lowerBeside, l1, h1, h3, ce_Asker_slide, hc, hb, ce_Works_note, n1]
    · simp (disch := first | assumption | omega | decide | (simp only [ma_wd0, ma_wdi, ma_wdr, ma_wdl, ma_wdn] <;> omega)) only [up_n, up_s, up_u, pk_us, pk_un, Nat.reduceAdd] at n2
      simp (disch := first | assumption | omega | decide | (simp only [ma_wd0, ma_wdi, ma_wdr, ma_wdl, ma_wdn] <;> omega)) only [↓reduceIte, evK, evL, evS, evA, evJ, Option.bind_some, Option.toList, List.cons_append, List.nil_append, nI_add, pk_mul, bI0, ite_not, ev_rbb, up_n, up_s, up_u, pk_us, pk_un, Nat.reduceAdd, nI_ltT, nI_ltF, nI_leT, nI_leF, nI_eqT, nI_eqF, en_MO_slides, bk_MO_slides, gfM, ldM, stM, z2, ce_MO_lowerBeside, l2, ce_MO_heightOf, t_MO_heightOf, h2, h4, ce_MO_slideOf, hm, hq', ce_MO_notes, n2]
theorem jR.c1 (h : jR a W S c m Z) (f g : Nat → Int32) (h5 : g 5 = m 138 5) : jR a W S (va_up c (wkA a) f) (va_up m 138 g) Z := by
  have ha := h.aa
  have he := wkA_e a
  obtain ⟨hz, hm, hi, hb, ht⟩ := h
  refine ⟨hz.row _ (by omega), hm.row _ (by omega), hi, fun j hj => ?_, ?_⟩
  · rw [up_n _ _ _ _ (by omega), up_n _ _ _ _ (by omega)]; exact hb j hj
  · rw [up_s, h5]; exact ht
theorem FR.c1 (f g : Nat → Int32) (h : ∀ k, k ≠ 44 → k ≠ 45 → g k = m 138 k) : FR a c m (va_up c (wkA a) f) (va_up m 138 g) := by
  have he := wkA_e a
  refine ⟨fr.rf.up ?_ _, fun _ => up_n _ _ _ _ (by omega), fr.rf.up (by simp [FY]) _, fun k h1 h2 => ?_⟩
  · simp [FX]; omega
  · rw [up_s]; exact h k h1 h2
end J5
