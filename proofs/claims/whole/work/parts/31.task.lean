/-! ===== a line of the roster; ships slide, scrape ===== -/
section J4
variable {sc : Nat × (Nat → Int32)} {a W S Q : Nat} {ls : List lL} {c m Z : Nat → Nat → Int32} {w : Nat → Int64}
theorem t_Rows_cell13 (d i k : Nat) (h : 5 * i + k < 80) : cc sc (d + 1) 87 [.ref 13, .int (nI i), .int (nI k)] (hp c w m) = some (some (.int (c 14 (5 * i + k))), hp c w m) := by
  rw [Nat.mul_comm 5 i] at h ⊢
  simp (disch := first | assumption | omega | decide | (simp only [ma_wd0, ma_wdi, ma_wdr, ma_wdl, ma_wdn] <;> omega)) only [↓reduceIte, evK, evL, evS, evA, evJ, Option.bind_some, Option.toList, List.cons_append, List.nil_append, nI_add, pk_mul, bI0, ite_not, ev_rbb, up_n, up_s, up_u, pk_us, pk_un, Nat.reduceAdd, nI_ltT, nI_ltF, nI_leT, nI_leF, nI_eqT, nI_eqF, en_Rows_cell, bk_Rows_cell, gfC, ldC, alC, pk_sub, Nat.reduceSub, ce_LH_within, t_LH_within, and_true, true_and, not_true_eq_false, and_self]
theorem t_Rows_cell15 (d i k : Nat) (h : 5 * i + k < 80) : cc sc (d + 1) 87 [.ref 15, .int (nI i), .int (nI k)] (hp c w m) = some (some (.int (c 16 (5 * i + k))), hp c w m) := by
  rw [Nat.mul_comm 5 i] at h ⊢
  simp (disch := first | assumption | omega | decide | (simp only [ma_wd0, ma_wdi, ma_wdr, ma_wdl, ma_wdn] <;> omega)) only [↓reduceIte, evK, evL, evS, evA, evJ, Option.bind_some, Option.toList, List.cons_append, List.nil_append, nI_add, pk_mul, bI0, ite_not, ev_rbb, up_n, up_s, up_u, pk_us, pk_un, Nat.reduceAdd, nI_ltT, nI_ltF, nI_leT, nI_leF, nI_eqT, nI_eqF, en_Rows_cell, bk_Rows_cell, gfC, ldC, alC, pk_sub, Nat.reduceSub, ce_LH_within, t_LH_within, and_true, true_and, not_true_eq_false, and_self]
theorem j_does (d i : Nat) (hT : tR W S Q ls c m) (hJ : jR a W S c m Z) (hk : kR a c m) (hi : i < 16) (hr : rL W (c 14) (m 156) i) : sJ sc w a W S c m (d + 11) 152 [.ref (wkA a), .ref a, .int (nI i)] (d + 11) 231 [.ref 138, .int (nI (4 * i))] none none := by
  have ha := hJ.aa
  have hW := hT.1.2.2.2
  have hw1 := hT.1.2.1
  obtain ⟨t, k, v, o, ht, hk3, -, -, e1, e2, e3, e4, hr⟩ := hr
  have q1 := fun m => t_Rows_cell13 (sc := sc) (c := c) (m := m) (w := w) (d + 9) i 1 (by omega)
  have q2 := fun m => t_Rows_cell13 (sc := sc) (c := c) (m := m) (w := w) (d + 9) i 2 (by omega)
  have q3 := fun m => t_Rows_cell13 (sc := sc) (c := c) (m := m) (w := w) (d + 9) i 3 (by omega)
  rw [e1] at q1
  rw [e3] at q2
  rcases hr with ⟨rfl, hv, ho, e5, e6⟩ | ⟨hk12, hv1, hv2⟩ | ⟨rfl, hv⟩
  · rw [e5] at q3
    obtain ⟨x, c', m', r1, r2, hP⟩ := j_set (sc := sc) (w := w) (d + 1) v (nI o) hT hJ hk hv (by rw [nI_toInt (by omega)]; omega)
    refine ⟨c', m', fun m0 => ?_, fun c0 => ?_, hP⟩
    · rcases ha with rfl | rfl
      · simp only [wkA17] at r1 ⊢
        simp (disch := first | assumption | omega | decide | (simp only [ma_wd0, ma_wdi, ma_wdr, ma_wdl, ma_wdn] <;> omega)) only [↓reduceIte, evK, evL, evS, evA, evJ, Option.bind_some, Option.toList, List.cons_append, List.nil_append, nI_add, pk_mul, bI0, ite_not, ev_rbb, up_n, up_s, up_u, pk_us, pk_un, Nat.reduceAdd, nI_ltT, nI_ltF, nI_leT, nI_leF, nI_eqT, nI_eqF, en_Works_doTask, bk_Works_doTask, gfC, ce_Rows_cell, q1, q2, q3, hw1, ce_Told_isColumn, t_Told_isColumn, and_self, not_true_eq_false, ce_Works_setColumn, r1]
      · simp only [wkA97] at r1 ⊢
        simp (disch := first | assumption | omega | decide | (simp only [ma_wd0, ma_wdi, ma_wdr, ma_wdl, ma_wdn] <;> omega)) only [↓reduceIte, evK, evL, evS, evA, evJ, Option.bind_some, Option.toList, List.cons_append, List.nil_append, nI_add, pk_mul, bI0, ite_not, ev_rbb, up_n, up_s, up_u, pk_us, pk_un, Nat.reduceAdd, nI_ltT, nI_ltF, nI_leT, nI_leF, nI_eqT, nI_eqF, en_Works_doTask, bk_Works_doTask, gfC, ce_Rows_cell, q1, q2, q3, hw1, ce_Told_isColumn, t_Told_isColumn, and_self, not_true_eq_false, ce_Works_setColumn, r1]
    · have f1 : m' 156 = m 156 := by obtain ⟨Z', -, -, hF, -⟩ := hP; exact hF.2.2.1 156 (by simp [FY])
      simp (disch := first | assumption | omega | decide | (simp only [ma_wd0, ma_wdi, ma_wdr, ma_wdl, ma_wdn] <;> omega)) only [↓reduceIte, evK, evL, evS, evA, evJ, Option.bind_some, Option.toList, List.cons_append, List.nil_append, nI_add, pk_mul, bI0, ite_not, ev_rbb, up_n, up_s, up_u, pk_us, pk_un, Nat.reduceAdd, nI_ltT, nI_ltF, nI_leT, nI_leF, nI_eqT, nI_eqF, en_MO_does, bk_MO_does, gfM, ldM, e2, e4, e6, f1, ce_MO_sets, r2]
  · have hx : ∀ n : Int32, (n = if k = 1 then nI v else - nI v) → sJ sc w a W S c m (d + 11) 152 [.ref (wkA a), .ref a, .int (nI i)] (d + 11) 231 [.ref 138, .int (nI (4 * i))] none none := by
      intro n hn
      obtain ⟨x, c', m', r1, r2, hP⟩ := j_move (sc := sc) (w := w) d n hT hJ hk
      have f1 : m' 156 = m 156 := by obtain ⟨Z', -, -, hF, -⟩ := hP; exact hF.2.2.1 156 (by simp [FY])
      refine ⟨c', m', fun m0 => ?_, fun c0 => ?_, hP⟩
      · rcases hk12 with rfl | rfl
        · rw [if_pos rfl] at hn
          subst hn
          rcases ha with rfl | rfl
          · simp only [wkA17] at r1 ⊢
            simp (disch := first | assumption | omega | decide | (simp only [ma_wd0, ma_wdi, ma_wdr, ma_wdl, ma_wdn] <;> omega)) only [↓reduceIte, evK, evL, evS, evA, evJ, Option.bind_some, Option.toList, List.cons_append, List.nil_append, nI_add, pk_mul, bI0, ite_not, ev_rbb, up_n, up_s, up_u, pk_us, pk_un, Nat.reduceAdd, nI_ltT, nI_ltF, nI_leT, nI_leF, nI_eqT, nI_eqF, en_Works_doTask, bk_Works_doTask, gfC, ce_Rows_cell, q1, q2, ce_Works_moveAll, r1]
          · simp only [wkA97] at r1 ⊢
            simp (disch := first | assumption | omega | decide | (simp only [ma_wd0, ma_wdi, ma_wdr, ma_wdl, ma_wdn] <;> omega)) only [↓reduceIte, evK, evL, evS, evA, evJ, Option.bind_some, Option.toList, List.cons_append, List.nil_append, nI_add, pk_mul, bI0, ite_not, ev_rbb, up_n, up_s, up_u, pk_us, pk_un, Nat.reduceAdd, nI_ltT, nI_ltF, nI_leT, nI_leF, nI_eqT, nI_eqF, en_Works_doTask, bk_Works_doTask, gfC, ce_Rows_cell, q1, q2, ce_Works_moveAll, r1]
        · rw [if_neg (by omega)] at hn
          subst hn
          rcases ha with rfl | rfl
          · simp only [wkA17] at r1 ⊢
            simp (disch := first | assumption | omega | decide | (simp only [ma_wd0, ma_wdi, ma_wdr, ma_wdl, ma_wdn] <;> omega)) only [↓reduceIte, evK, evL, evS, evA, evJ, Option.bind_some, Option.toList, List.cons_append, List.nil_append, nI_add, pk_mul, bI0, ite_not, ev_rbb, up_n, up_s, up_u, pk_us, pk_un, Nat.reduceAdd, nI_ltT, nI_ltF, nI_leT, nI_leF, nI_eqT, nI_eqF, en_Works_doTask, bk_Works_doTask, gfC, ce_Rows_cell, q1, q2, ce_Works_moveAll, r1]
          · simp only [wkA97] at r1 ⊢
            simp (disch := first | assumption | omega | decide | (simp only [ma_wd0, ma_wdi, ma_wdr, ma_wdl, ma_wdn] <;> omega)) only [↓reduceIte, evK, evL, evS, evA, evJ, Option.bind_some, Option.toList, List.cons_append, List.nil_append, nI_add, pk_mul, bI0, ite_not, ev_rbb, up_n, up_s, up_u, pk_us, pk_un, Nat.reduceAdd, nI_ltT, nI_ltF, nI_leT, nI_leF, nI_eqT, nI_eqF, en_Works_doTask, bk_Works_doTask, gfC, ce_Rows_cell, q1, q2, ce_Works_moveAll, r1]
      · rcases hk12 with rfl | rfl
        · rw [if_pos rfl] at hn
          subst hn
          simp (disch := first | assumption | omega | decide | (simp only [ma_wd0, ma_wdi, ma_wdr, ma_wdl, ma_wdn] <;> omega)) only [↓reduceIte, evK, evL, evS, evA, evJ, Option.bind_some, Option.toList, List.cons_append, List.nil_append, nI_add, pk_mul, bI0, ite_not, ev_rbb, up_n, up_s, up_u, pk_us, pk_un, Nat.reduceAdd, nI_ltT, nI_ltF, nI_leT, nI_leF, nI_eqT, nI_eqF, en_MO_does, bk_MO_does, gfM, ldM, e2, e4, f1, ce_MO_lifts, r2]
        · rw [if_neg (by omega)] at hn
          subst hn
          simp (disch := first | assumption | omega | decide | (simp only [ma_wd0, ma_wdi, ma_wdr, ma_wdl, ma_wdn] <;> omega)) only [↓reduceIte, evK, evL, evS, evA, evJ, Option.bind_some, Option.toList, List.cons_append, List.nil_append, nI_add, pk_mul, bI0, ite_not, ev_rbb, up_n, up_s, up_u, pk_us, pk_un, Nat.reduceAdd, nI_ltT, nI_ltF, nI_leT, nI_leF, nI_eqT, nI_eqF, en_MO_does, bk_MO_does, gfM, ldM, e2, e4, f1, ce_MO_lifts, r2]
    exact hx _ rfl
  · obtain ⟨x, c', m', r1, r2, hP⟩ := j_mend (sc := sc) (w := w) (d + 1) v hT hJ hk hv
    refine ⟨c', m', fun m0 => ?_, fun c0 => ?_, hP⟩
    · rcases ha with rfl | rfl
      · simp only [wkA17] at r1 ⊢
        simp (disch := first | assumption | omega | decide | (simp only [ma_wd0, ma_wdi, ma_wdr, ma_wdl, ma_wdn] <;> omega)) only [↓reduceIte, evK, evL, evS, evA, evJ, Option.bind_some, Option.toList, List.cons_append, List.nil_append, nI_add, pk_mul, bI0, ite_not, ev_rbb, up_n, up_s, up_u, pk_us, pk_un, Nat.reduceAdd, nI_ltT, nI_ltF, nI_leT, nI_leF, nI_eqT, nI_eqF, en_Works_doTask, bk_Works_doTask, gfC, ce_Rows_cell, q1, q2, hw1, ce_Told_isColumn, t_Told_isColumn, and_self, not_true_eq_false, ce_Works_mendColumn, r1]
      · simp only [wkA97] at r1 ⊢
        simp (disch := first | assumption | omega | decide | (simp only [ma_wd0, ma_wdi, ma_wdr, ma_wdl, ma_wdn] <;> omega)) only [↓reduceIte, evK, evL, evS, evA, evJ, Option.bind_some, Option.toList, List.cons_append, List.nil_append, nI_add, pk_mul, bI0, ite_not, ev_rbb, up_n, up_s, up_u, pk_us, pk_un, Nat.reduceAdd, nI_ltT, nI_ltF, nI_leT, nI_leF, nI_eqT, nI_eqF, en_Works_doTask, bk_Works_doTask, gfC, ce_Rows_cell, q1, q2, hw1, ce_Told_isColumn, t_Told_isColumn, and_self, not_true_eq_false, ce_Works_mendColumn, r1]
    · have f1 : m' 156 = m 156 := by obtain ⟨Z', -, -, hF, -⟩ := hP; exact hF.2.2.1 156 (by simp [FY])
      simp (disch := first | assumption | omega | decide | (simp only [ma_wd0, ma_wdi, ma_wdr, ma_wdl, ma_wdn] <;> omega)) only [↓reduceIte, evK, evL, evS, evA, evJ, Option.bind_some, Option.toList, List.cons_append, List.nil_append, nI_add, pk_mul, bI0, ite_not, ev_rbb, up_n, up_s, up_u, pk_us, pk_un, Nat.reduceAdd, nI_ltT, nI_ltF, nI_leT, nI_leF, nI_eqT, nI_eqF, en_MO_does, bk_MO_does, gfM, ldM, e2, e4, f1, ce_MO_mends, r2]
def lowS (W : Nat) (H : Nat → Int32) (x : Nat) : Nat := if x = 0 then 1 else if x + 1 = W then x - 1 else if H (x + 1) < H (x - 1) then x + 1 else x - 1
theorem lowS_lt {W : Nat} {H : Nat → Int32} {x : Nat} (hx : x < W) (hW : 3 ≤ W) : lowS W H x < W := by
  unfold lowS
  repeat' split
  all_goals omega
theorem j_low (d x : Nat) (hT : tR W S Q ls c m) (hJ : jR a W S c m Z) (hx : x < W) : (∀ m0, cc sc d 154 [.ref (wkA a), .ref a, .int (nI x)] (hp c w m0) = some (some (.int (nI (lowS W (zH Z) x))), hp c w m0)) ∧ (∀ c0, cc sc (d + 1) 233 [.ref 138, .int (nI x)] (hp c0 w m) = some (some (.int (nI (lowS W (zH Z) x))), hp c0 w m)) := by
  have ha := hJ.aa
  have hW := hT.1.2.2.2
  have hW3 := hT.1.2.2.1
  have hw1 := hT.1.2.1
  have hw2 := hT.2.1.2.1
  unfold lowS
  by_cases h0 : x = 0
  · subst h0
    rw [if_pos rfl]
    constructor
    · intro m0
      rcases ha with rfl | rfl
      · simp only [wkA17]
        simp (disch := first | assumption | omega | decide | (simp only [ma_wd0, ma_wdi, ma_wdr, ma_wdl, ma_wdn] <;> omega)) only [↓reduceIte, evK, evL, evS, evA, evJ, Option.bind_some, Option.toList, List.cons_append, List.nil_append, nI_add, pk_mul, bI0, ite_not, ev_rbb, up_n, up_s, up_u, pk_us, pk_un, Nat.reduceAdd, nI_ltT, nI_ltF, nI_leT, nI_leF, nI_eqT, nI_eqF, en_Works_lowerBeside, bk_Works_lowerBeside, gfC, hw1]
      · simp only [wkA97]
        simp (disch := first | assumption | omega | decide | (simp only [ma_wd0, ma_wdi, ma_wdr, ma_wdl, ma_wdn] <;> omega)) only [↓reduceIte, evK, evL, evS, evA, evJ, Option.bind_some, Option.toList, List.cons_append, List.nil_append, nI_add, pk_mul, bI0, ite_not, ev_rbb, up_n, up_s, up_u, pk_us, pk_un, Nat.reduceAdd, nI_ltT, nI_ltF, nI_leT, nI_leF, nI_eqT, nI_eqF, en_Works_lowerBeside, bk_Works_lowerBeside, gfC, hw1]
    · intro c0
      simp (disch := first | assumption | omega | decide | (simp only [ma_wd0, ma_wdi, ma_wdr, ma_wdl, ma_wdn] <;> omega)) only [↓reduceIte, evK, evL, evS, evA, evJ, Option.bind_some, Option.toList, List.cons_append, List.nil_append, nI_add, pk_mul, bI0, ite_not, ev_rbb, up_n, up_s, up_u, pk_us, pk_un, Nat.reduceAdd, nI_ltT, nI_ltF, nI_leT, nI_leF, nI_eqT, nI_eqF, en_MO_lowerBeside, bk_MO_lowerBeside, hw2]
  · rw [if_neg h0]
    by_cases h1 : x + 1 = W
    · rw [if_pos h1]
      constructor
      · intro m0
        rcases ha with rfl | rfl
        · simp only [wkA17]
          simp (disch := first | assumption | omega | decide | (simp only [ma_wd0, ma_wdi, ma_wdr, ma_wdl, ma_wdn] <;> omega)) only [↓reduceIte, evK, evL, evS, evA, evJ, Option.bind_some, Option.toList, List.cons_append, List.nil_append, nI_add, pk_mul, bI0, ite_not, ev_rbb, up_n, up_s, up_u, pk_us, pk_un, Nat.reduceAdd, nI_ltT, nI_ltF, nI_leT, nI_leF, nI_eqT, nI_eqF, en_Works_lowerBeside, bk_Works_lowerBeside, gfC, hw1, pk_sub]
        · simp only [wkA97]
          simp (disch := first | assumption | omega | decide | (simp only [ma_wd0, ma_wdi, ma_wdr, ma_wdl, ma_wdn] <;> omega)) only [↓reduceIte, evK, evL, evS, evA, evJ, Option.bind_some, Option.toList, List.cons_append, List.nil_append, nI_add, pk_mul, bI0, ite_not, ev_rbb, up_n, up_s, up_u, pk_us, pk_un, Nat.reduceAdd, nI_ltT, nI_ltF, nI_leT, nI_leF, nI_eqT, nI_eqF, en_Works_lowerBeside, bk_Works_lowerBeside, gfC, hw1, pk_sub]
      · intro c0
        simp (disch := first | assumption | omega | decide | (simp only [ma_wd0, ma_wdi, ma_wdr, ma_wdl, ma_wdn] <;> omega)) only [↓reduceIte, evK, evL, evS, evA, evJ, Option.bind_some, Option.toList, List.cons_append, List.nil_append, nI_add, pk_mul, bI0, ite_not, ev_rbb, up_n, up_s, up_u, pk_us, pk_un, Nat.reduceAdd, nI_ltT, nI_ltF, nI_leT, nI_leF, nI_eqT, nI_eqF, en_MO_lowerBeside, bk_MO_lowerBeside, ce_MO_wide, t_MO_wide, hw2, pk_sub]
    · rw [if_neg h1]
      have z1 : c (a + 1) (x + 1) = zH Z (x + 1) := hJ.1.2.1 _ (by omega)
      have z2 : c (a + 1) (x - 1) = zH Z (x - 1) := hJ.1.2.1 _ (by omega)
      have z3 : m 139 (5 + (x + 1)) + nI 10 = zH Z (x + 1) := hJ.2.1.2.1 _ (by omega)
      have z4 : m 139 (5 + (x - 1)) + nI 10 = zH Z (x - 1) := hJ.2.1.2.1 _ (by omega)
      by_cases h2 : zH Z (x + 1) < zH Z (x - 1)
      · have h3 : (zH Z (x - 1) ≤ zH Z (x + 1)) = False := eq_false (by
          simp only [Int32.lt_iff_toInt_lt, Int32.le_iff_toInt_le] at *
          omega)
        rw [if_pos h2]
        constructor
        · intro m0
          rcases ha with rfl | rfl
          · simp only [wkA17, Nat.reduceAdd] at z1 z2 ⊢
            simp (disch := first | assumption | omega | decide | (simp only [ma_wd0, ma_wdi, ma_wdr, ma_wdl, ma_wdn] <;> omega)) only [↓reduceIte, evK, evL, evS, evA, evJ, Option.bind_some, Option.toList, List.cons_append, List.nil_append, nI_add, pk_mul, bI0, ite_not, ev_rbb, up_n, up_s, up_u, pk_us, pk_un, Nat.reduceAdd, nI_ltT, nI_ltF, nI_leT, nI_leF, nI_eqT, nI_eqF, en_Works_lowerBeside, bk_Works_lowerBeside, gfC, ldC, hw1, pk_sub, z1, z2, h2, h3]
          · simp only [wkA97, Nat.reduceAdd] at z1 z2 ⊢
            simp (disch := first | assumption | omega | decide | (simp only [ma_wd0, ma_wdi, ma_wdr, ma_wdl, ma_wdn] <;> omega)) only [↓reduceIte, evK, evL, evS, evA, evJ, Option.bind_some, Option.toList, List.cons_append, List.nil_append, nI_add, pk_mul, bI0, ite_not, ev_rbb, up_n, up_s, up_u, pk_us, pk_un, Nat.reduceAdd, nI_ltT, nI_ltF, nI_leT, nI_leF, nI_eqT, nI_eqF, en_Works_lowerBeside, bk_Works_lowerBeside, gfC, ldC, hw1, pk_sub, z1, z2, h2, h3]
        · intro c0
          simp (disch := first | assumption | omega | decide | (simp only [ma_wd0, ma_wdi, ma_wdr, ma_wdl, ma_wdn] <;> omega)) only [↓reduceIte, evK, evL, evS, evA, evJ, Option.bind_some, Option.toList, List.cons_append, List.nil_append, nI_add, pk_mul, bI0, ite_not, ev_rbb, up_n, up_s, up_u, pk_us, pk_un, Nat.reduceAdd, nI_ltT, nI_ltF, nI_leT, nI_leF, nI_eqT, nI_eqF, en_MO_lowerBeside, bk_MO_lowerBeside, ce_MO_wide, t_MO_wide, hw2, pk_sub, ce_MO_heightOf, t_MO_heightOf, z3, z4, h2, h3]
      · have h3 : (zH Z (x - 1) ≤ zH Z (x + 1)) = True := eq_true (by
          simp only [Int32.lt_iff_toInt_lt, Int32.le_iff_toInt_le] at *
          omega)
        rw [if_neg h2]
        constructor
        · intro m0
          rcases ha with rfl | rfl
          · simp only [wkA17, Nat.reduceAdd] at z1 z2 ⊢
            simp (disch := first | assumption | omega | decide | (simp only [ma_wd0, ma_wdi, ma_wdr, ma_wdl, ma_wdn] <;> omega)) only [↓reduceIte, evK, evL, evS, evA, evJ, Option.bind_some, Option.toList, List.cons_append, List.nil_append, nI_add, pk_mul, bI0, ite_not, ev_rbb, up_n, up_s, up_u, pk_us, pk_un, Nat.reduceAdd, nI_ltT, nI_ltF, nI_leT, nI_leF, nI_eqT, nI_eqF, en_Works_lowerBeside, bk_Works_lowerBeside, gfC, ldC, hw1, pk_sub, z1, z2, h2, h3]
          · simp only [wkA97, Nat.reduceAdd] at z1 z2 ⊢
            simp (disch := first | assumption | omega | decide | (simp only [ma_wd0, ma_wdi, ma_wdr, ma_wdl, ma_wdn] <;> omega)) only [↓reduceIte, evK, evL, evS, evA, evJ, Option.bind_some, Option.toList, List.cons_append, List.nil_append, nI_add, pk_mul, bI0, ite_not, ev_rbb, up_n, up_s, up_u, pk_us, pk_un, Nat.reduceAdd, nI_ltT, nI_ltF, nI_leT, nI_leF, nI_eqT, nI_eqF, en_Works_lowerBeside, bk_Works_lowerBeside, gfC, ldC, hw1, pk_sub, z1, z2, h2, h3]
        · intro c0
          simp (disch := first | assumption | omega | decide | (simp only [ma_wd0, ma_wdi, ma_wdr, ma_wdl, ma_wdn] <;> omega)) only [↓reduceIte, evK, evL, evS, evA, evJ, Option.bind_some, Option.toList, List.cons_append, List.nil_append, nI_add, pk_mul, bI0, ite_not, ev_rbb, up_n, up_s, up_u, pk_us, pk_un, Nat.reduceAdd, nI_ltT, nI_ltF, nI_leT, nI_leF, nI_eqT, nI_eqF, en_MO_lowerBeside, bk_MO_lowerBeside, ce_MO_wide, t_MO_wide, hw2, pk_sub, ce_MO_heightOf, t_MO_heightOf, z3, z4, h2, h3]
end J4
