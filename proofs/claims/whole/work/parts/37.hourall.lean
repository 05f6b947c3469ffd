/-! ===== an hour passes, class and reference ===== -/
section K1
variable {sc : Nat × (Nat → Int32)} {a W S Q : Nat} {ls : List lL} {c m Z : Nat → Nat → Int32} {w : Nat → Int64}
theorem jP.rf (hJ : jR a W S c m Z) (hk : kR a c m) : jP a W S c m c m := ⟨Z, hJ, hk, FR.rf, rfl⟩
theorem j_roster (d : Nat) (hT : tR W S Q ls c m) (hJ : jR a W S c m Z) (hk : kR a c m) : ∃ c' m' k, (∀ m0, ev sc (d + 12) 151 (pm_blk 151 2) [some (.ref (wkA a)), some (.ref a), some (.int (nI 0))] [] (hp c w m0) = ev sc (d + 12) 151 (pm_blk 151 47) [some (.ref (wkA a)), some (.ref a), some (.int k)] [] (hp c' w m0)) ∧
    (∀ c0, ev sc (d + 12) 230 (pm_blk 230 2) [some (.ref 138), some (.int (nI 0)), none] [] (hp c0 w m) = ev sc (d + 12) 230 (pm_blk 230 40) [some (.ref 138), some (.int k), none] [] (hp c0 w m')) ∧ jP a W S c m c' m' := by
  have ha := hJ.aa
  obtain ⟨n, hn16, hn1, hn2, hL⟩ := hT.2.2.2.2.2.2.1
  obtain ⟨s, t, c', m', e1, e2, hP⟩ := sim_loop (w := w) n (fun i (s : Unit) h => ev sc (d + 12) 151 (pm_blk 151 2) [some (.ref (wkA a)), some (.ref a), some (.int (nI i))] [] h)
    (fun i (s : Unit) h => ev sc (d + 12) 230 (pm_blk 230 2) [some (.ref 138), some (.int (nI i)), none] [] h)
    (fun i s t c' m' => jP a W S c m c' m') (by
      rintro i s t c1 m1 hi hP0
      obtain ⟨Z1, hJ1, hk1, hF1, hp1⟩ := id hP0
      have hT1 := hT.FR ha hF1
      have q13 : c1 13 = c 13 := hF1.1 13 (by rcases ha with rfl | rfl <;> simp [FX])
      have q14 : c1 14 = c 14 := hF1.1 14 (by rcases ha with rfl | rfl <;> simp [FX])
      have q156 : m1 156 = m 156 := hF1.2.2.1 156 (by simp [FY])
      have q38 : m1 138 38 = m 138 38 := hF1.2.2.2 38 (by omega) (by omega)
      have hr := hL i hi
      rw [← q14, ← q156] at hr
      rw [← q13] at hn1
      rw [← q38] at hn2
      obtain ⟨tt, _, _, _, htt, _, r1, r2, _⟩ := id hr
      have u1 : c1 a 6 = Z1 0 0 := hJ1.1.1.1
      have u2 : m1 139 0 = Z1 0 0 := hJ1.2.1.1.1
      have q0 := fun m => t_Rows_cell13 (sc := sc) (c := c1) (m := m) (w := w) (d + 10) i 0 (by omega)
      rw [show 5 * i + 0 = 5 * i from rfl, r1] at q0
      by_cases hb : nI tt = Z1 0 0
      · obtain ⟨c2, m2, e1, e2, hP⟩ := j_does (sc := sc) (w := w) d i hT1 hJ1 hk1 (by omega) hr
        refine ⟨s, t, c2, m2, fun m0 => ?_, fun c0 => ?_, hP0.tr hP⟩
        · rcases ha with rfl | rfl
          · simp only [wkA17] at e1 ⊢
            conv => lhs; rw [bh_Works_passHour_2]
            simp (disch := first | assumption | omega | decide | (simp only [ma_wd0, ma_wdi, ma_wdr, ma_wdl, ma_wdn] <;> omega)) only [↓reduceIte, evK, evL, evS, evA, evJ, Option.bind_some, Option.toList, List.cons_append, List.nil_append, nI_add, pk_mul, bI0, ite_not, ev_rbb, up_n, up_s, up_u, pk_us, pk_un, Nat.reduceAdd, nI_ltT, nI_ltF, nI_leT, nI_leF, nI_eqT, nI_eqF, bk_Works_passHour, gfC, hn1, ce_Rows_cell, q0, u1, hb, ce_Works_doTask, e1]
          · simp only [wkA97] at e1 ⊢
            conv => lhs; rw [bh_Works_passHour_2]
            simp (disch := first | assumption | omega | decide | (simp only [ma_wd0, ma_wdi, ma_wdr, ma_wdl, ma_wdn] <;> omega)) only [↓reduceIte, evK, evL, evS, evA, evJ, Option.bind_some, Option.toList, List.cons_append, List.nil_append, nI_add, pk_mul, bI0, ite_not, ev_rbb, up_n, up_s, up_u, pk_us, pk_un, Nat.reduceAdd, nI_ltT, nI_ltF, nI_leT, nI_leF, nI_eqT, nI_eqF, bk_Works_passHour, gfC, hn1, ce_Rows_cell, q0, u1, hb, ce_Works_doTask, e1]
        · conv => lhs; rw [bh_MO_goesBy_2]
          simp (disch := first | assumption | omega | decide | (simp only [ma_wd0, ma_wdi, ma_wdr, ma_wdl, ma_wdn] <;> omega)) only [↓reduceIte, evK, evL, evS, evA, evJ, Option.bind_some, Option.toList, List.cons_append, List.nil_append, nI_add, pk_mul, bI0, ite_not, ev_rbb, up_n, up_s, up_u, pk_us, pk_un, Nat.reduceAdd, nI_ltT, nI_ltF, nI_leT, nI_leF, nI_eqT, nI_eqF, bk_MO_goesBy, gfM, ldM, hn2, r2, u2, hb, ce_MO_does, e2]
      · refine ⟨s, t, c1, m1, fun m0 => ?_, fun c0 => ?_, hP0⟩
        · rcases ha with rfl | rfl
          · simp only [wkA17] at ⊢
            conv => lhs; rw [bh_Works_passHour_2]
            simp (disch := first | assumption | omega | decide | (simp only [ma_wd0, ma_wdi, ma_wdr, ma_wdl, ma_wdn] <;> omega)) only [↓reduceIte, evK, evL, evS, evA, evJ, Option.bind_some, Option.toList, List.cons_append, List.nil_append, nI_add, pk_mul, bI0, ite_not, ev_rbb, up_n, up_s, up_u, pk_us, pk_un, Nat.reduceAdd, nI_ltT, nI_ltF, nI_leT, nI_leF, nI_eqT, nI_eqF, bk_Works_passHour, gfC, hn1, ce_Rows_cell, q0, u1, hb]
          · simp only [wkA97] at ⊢
            conv => lhs; rw [bh_Works_passHour_2]
            simp (disch := first | assumption | omega | decide | (simp only [ma_wd0, ma_wdi, ma_wdr, ma_wdl, ma_wdn] <;> omega)) only [↓reduceIte, evK, evL, evS, evA, evJ, Option.bind_some, Option.toList, List.cons_append, List.nil_append, nI_add, pk_mul, bI0, ite_not, ev_rbb, up_n, up_s, up_u, pk_us, pk_un, Nat.reduceAdd, nI_ltT, nI_ltF, nI_leT, nI_leF, nI_eqT, nI_eqF, bk_Works_passHour, gfC, hn1, ce_Rows_cell, q0, u1, hb]
        · conv => lhs; rw [bh_MO_goesBy_2]
          simp (disch := first | assumption | omega | decide | (simp only [ma_wd0, ma_wdi, ma_wdr, ma_wdl, ma_wdn] <;> omega)) only [↓reduceIte, evK, evL, evS, evA, evJ, Option.bind_some, Option.toList, List.cons_append, List.nil_append, nI_add, pk_mul, bI0, ite_not, ev_rbb, up_n, up_s, up_u, pk_us, pk_un, Nat.reduceAdd, nI_ltT, nI_ltF, nI_leT, nI_leF, nI_eqT, nI_eqF, bk_MO_goesBy, gfM, ldM, hn2, r2, u2, hb]) n 0 () () c m (by omega) (jP.rf hJ hk)
  obtain ⟨Z1, hJ1, hk1, hF1, hp1⟩ := id hP
  have q13 : c' 13 = c 13 := hF1.1 13 (by rcases ha with rfl | rfl <;> simp [FX])
  have q38 : m' 138 38 = m 138 38 := hF1.2.2.2 38 (by omega) (by omega)
  rw [← q13] at hn1
  rw [← q38] at hn2
  refine ⟨c', m', nI n, fun m0 => (e1 m0).trans ?_, fun c0 => (e2 c0).trans ?_, hP⟩
  · rcases ha with rfl | rfl
    · simp only [wkA17]
      conv => lhs; rw [bh_Works_passHour_2]
      simp (disch := first | assumption | omega | decide | (simp only [ma_wd0, ma_wdi, ma_wdr, ma_wdl, ma_wdn] <;> omega)) only [↓reduceIte, evK, evL, evS, evA, evJ, Option.bind_some, Option.toList, List.cons_append, List.nil_append, nI_add, pk_mul, bI0, ite_not, ev_rbb, up_n, up_s, up_u, pk_us, pk_un, Nat.reduceAdd, nI_ltT, nI_ltF, nI_leT, nI_leF, nI_eqT, nI_eqF, gfC, hn1]
    · simp only [wkA97]
      conv => lhs; rw [bh_Works_passHour_2]
      simp (disch := first | assumption | omega | decide | (simp only [ma_wd0, ma_wdi, ma_wdr, ma_wdl, ma_wdn] <;> omega)) only [↓reduceIte, evK, evL, evS, evA, evJ, Option.bind_some, Option.toList, List.cons_append, List.nil_append, nI_add, pk_mul, bI0, ite_not, ev_rbb, up_n, up_s, up_u, pk_us, pk_un, Nat.reduceAdd, nI_ltT, nI_ltF, nI_leT, nI_leF, nI_eqT, nI_eqF, gfC, hn1]
  · conv => lhs; rw [bh_MO_goesBy_2]
    simp (disch := first | assumption | omega | decide | (simp only [ma_wd0, ma_wdi, ma_wdr, ma_wdl, ma_wdn] <;> omega)) only [↓reduceIte, evK, evL, evS, evA, evJ, Option.bind_some, Option.toList, List.cons_append, List.nil_append, nI_add, pk_mul, bI0, ite_not, ev_rbb, up_n, up_s, up_u, pk_us, pk_un, Nat.reduceAdd, nI_ltT, nI_ltF, nI_leT, nI_leF, nI_eqT, nI_eqF, gfM, hn2]
theorem j_slides (d : Nat) (hT : tR W S Q ls c m) (hJ : jR a W S c m Z) (hk : kR a c m) : ∃ c' m', (∀ m0, cc sc (d + 11) 153 [.ref (wkA a), .ref a] (hp c w m0) = some (none, hp c' w m0)) ∧
    (∀ c0, ev sc (d + 12) 230 (pm_blk 230 42) [some (.ref 138), some (.int (nI 0)), none] [] (hp c0 w m) = ev sc (d + 12) 230 (pm_blk 230 61) [some (.ref 138), some (.int (nI S)), none] [] (hp c0 w m')) ∧ jP a W S c m c' m' := by
  have ha := hJ.aa
  have hS := hT.2.2.1.2.2.1
  obtain ⟨s, t, c', m', e1, e2, hP⟩ := sim_loop (w := w) S (fun i (s : Option Value × Option Value) h => ev sc (d + 11) 153 (pm_blk 153 2) [some (.ref (wkA a)), some (.ref a), some (.int (nI i)), s.1, s.2] [] h)
    (fun i (s : Unit) h => ev sc (d + 12) 230 (pm_blk 230 42) [some (.ref 138), some (.int (nI i)), none] [] h)
    (fun i s t c' m' => jP a W S c m c' m') (by
      rintro i s t c1 m1 hi hP0
      obtain ⟨Z1, hJ1, hk1, hF1, hp1⟩ := id hP0
      have hT1 := hT.FR ha hF1
      have hs2 := hT1.2.2.1.2.1
      obtain ⟨x3, x4, c2, m2, e1, e2, hP⟩ := j_slide (sc := sc) (w := w) (d + 1) i hT1 hJ1 hk1 hi
      refine ⟨(x3, x4), t, c2, m2, fun m0 => e1 m0 _ _, fun c0 => ?_, hP0.tr hP⟩
      conv => lhs; rw [bh_MO_goesBy_42]
      simp (disch := first | assumption | omega | decide | (simp only [ma_wd0, ma_wdi, ma_wdr, ma_wdl, ma_wdn] <;> omega)) only [↓reduceIte, evK, evL, evS, evA, evJ, Option.bind_some, Option.toList, List.cons_append, List.nil_append, nI_add, pk_mul, bI0, ite_not, ev_rbb, up_n, up_s, up_u, pk_us, pk_un, Nat.reduceAdd, nI_ltT, nI_ltF, nI_leT, nI_leF, nI_eqT, nI_eqF, gfM, hs2, ce_MO_slides, e2]) S 0 (none, none) () c m (by omega) (jP.rf hJ hk)
  obtain ⟨Z1, hJ1, hk1, hF1, hp1⟩ := id hP
  have hT1 := hT.FR ha hF1
  have hs1 := hT1.2.2.1.1
  have hs2 := hT1.2.2.1.2.1
  refine ⟨c', m', fun m0 => ?_, fun c0 => (e2 c0).trans ?_, hP⟩
  · rw [en_Works_slideShips]
    simp (disch := first | assumption | omega | decide | (simp only [ma_wd0, ma_wdi, ma_wdr, ma_wdl, ma_wdn] <;> omega)) only [↓reduceIte, evK, evL, evS, evA, evJ, Option.bind_some, Option.toList, List.cons_append, List.nil_append, nI_add, pk_mul, bI0, ite_not, ev_rbb, up_n, up_s, up_u, pk_us, pk_un, Nat.reduceAdd, nI_ltT, nI_ltF, nI_leT, nI_leF, nI_eqT, nI_eqF, ]
    refine (e1 m0).trans ?_
    rcases ha with rfl | rfl
    · simp only [wkA17]
      rw [bh_Works_slideShips_2]
      simp (disch := first | assumption | omega | decide | (simp only [ma_wd0, ma_wdi, ma_wdr, ma_wdl, ma_wdn] <;> omega)) only [↓reduceIte, evK, evL, evS, evA, evJ, Option.bind_some, Option.toList, List.cons_append, List.nil_append, nI_add, pk_mul, bI0, ite_not, ev_rbb, up_n, up_s, up_u, pk_us, pk_un, Nat.reduceAdd, nI_ltT, nI_ltF, nI_leT, nI_leF, nI_eqT, nI_eqF, bk_Works_slideShips, gfC, hs1]
    · simp only [wkA97]
      rw [bh_Works_slideShips_2]
      simp (disch := first | assumption | omega | decide | (simp only [ma_wd0, ma_wdi, ma_wdr, ma_wdl, ma_wdn] <;> omega)) only [↓reduceIte, evK, evL, evS, evA, evJ, Option.bind_some, Option.toList, List.cons_append, List.nil_append, nI_add, pk_mul, bI0, ite_not, ev_rbb, up_n, up_s, up_u, pk_us, pk_un, Nat.reduceAdd, nI_ltT, nI_ltF, nI_leT, nI_leF, nI_eqT, nI_eqF, bk_Works_slideShips, gfC, hs1]
  · conv => lhs; rw [bh_MO_goesBy_42]
    simp (disch := first | assumption | omega | decide | (simp only [ma_wd0, ma_wdi, ma_wdr, ma_wdl, ma_wdn] <;> omega)) only [↓reduceIte, evK, evL, evS, evA, evJ, Option.bind_some, Option.toList, List.cons_append, List.nil_append, nI_add, pk_mul, bI0, ite_not, ev_rbb, up_n, up_s, up_u, pk_us, pk_un, Nat.reduceAdd, nI_ltT, nI_ltF, nI_leT, nI_leF, nI_eqT, nI_eqF, gfM, hs2]
theorem j_scrapes (d : Nat) (hT : tR W S Q ls c m) (hJ : jR a W S c m Z) (hk : kR a c m) : ∃ c' m', (∀ m0, cc sc (d + 11) 155 [.ref (wkA a), .ref a] (hp c w m0) = some (none, hp c' w m0)) ∧
    (∀ c0, ev sc (d + 12) 230 (pm_blk 230 63) [some (.ref 138), some (.int (nI 0)), none] [] (hp c0 w m) = ev sc (d + 12) 230 (pm_blk 230 82) [some (.ref 138), some (.int (nI S)), none] [] (hp c0 w m')) ∧ jP a W S c m c' m' := by
  have ha := hJ.aa
  have hS := hT.2.2.1.2.2.1
  obtain ⟨s, t, c', m', e1, e2, hP⟩ := sim_loop (w := w) S (fun i (s : Option Value) h => ev sc (d + 11) 155 (pm_blk 155 2) [some (.ref (wkA a)), some (.ref a), some (.int (nI i)), s] [] h)
    (fun i (s : Unit) h => ev sc (d + 12) 230 (pm_blk 230 63) [some (.ref 138), some (.int (nI i)), none] [] h)
    (fun i s t c' m' => jP a W S c m c' m') (by
      rintro i s t c1 m1 hi hP0
      obtain ⟨Z1, hJ1, hk1, hF1, hp1⟩ := id hP0
      have hT1 := hT.FR ha hF1
      have hs2 := hT1.2.2.1.2.1
      obtain ⟨x3, c2, m2, e1, e2, hP⟩ := j_scrape (sc := sc) (w := w) (d + 1) i hT1 hJ1 hk1 hi
      refine ⟨x3, t, c2, m2, fun m0 => e1 m0 _, fun c0 => ?_, hP0.tr hP⟩
      conv => lhs; rw [bh_MO_goesBy_63]
      simp (disch := first | assumption | omega | decide | (simp only [ma_wd0, ma_wdi, ma_wdr, ma_wdl, ma_wdn] <;> omega)) only [↓reduceIte, evK, evL, evS, evA, evJ, Option.bind_some, Option.toList, List.cons_append, List.nil_append, nI_add, pk_mul, bI0, ite_not, ev_rbb, up_n, up_s, up_u, pk_us, pk_un, Nat.reduceAdd, nI_ltT, nI_ltF, nI_leT, nI_leF, nI_eqT, nI_eqF, gfM, hs2, ce_MO_scrapes, e2]) S 0 none () c m (by omega) (jP.rf hJ hk)
  obtain ⟨Z1, hJ1, hk1, hF1, hp1⟩ := id hP
  have hT1 := hT.FR ha hF1
  have hs1 := hT1.2.2.1.1
  have hs2 := hT1.2.2.1.2.1
  refine ⟨c', m', fun m0 => ?_, fun c0 => (e2 c0).trans ?_, hP⟩
  · rw [en_Works_scrapeShips]
    simp (disch := first | assumption | omega | decide | (simp only [ma_wd0, ma_wdi, ma_wdr, ma_wdl, ma_wdn] <;> omega)) only [↓reduceIte, evK, evL, evS, evA, evJ, Option.bind_some, Option.toList, List.cons_append, List.nil_append, nI_add, pk_mul, bI0, ite_not, ev_rbb, up_n, up_s, up_u, pk_us, pk_un, Nat.reduceAdd, nI_ltT, nI_ltF, nI_leT, nI_leF, nI_eqT, nI_eqF, ]
    refine (e1 m0).trans ?_
    rcases ha with rfl | rfl
    · simp only [wkA17]
      rw [bh_Works_scrapeShips_2]
      simp (disch := first | assumption | omega | decide | (simp only [ma_wd0, ma_wdi, ma_wdr, ma_wdl, ma_wdn] <;> omega)) only [↓reduceIte, evK, evL, evS, evA, evJ, Option.bind_some, Option.toList, List.cons_append, List.nil_append, nI_add, pk_mul, bI0, ite_not, ev_rbb, up_n, up_s, up_u, pk_us, pk_un, Nat.reduceAdd, nI_ltT, nI_ltF, nI_leT, nI_leF, nI_eqT, nI_eqF, bk_Works_scrapeShips, gfC, hs1]
    · simp only [wkA97]
      rw [bh_Works_scrapeShips_2]
      simp (disch := first | assumption | omega | decide | (simp only [ma_wd0, ma_wdi, ma_wdr, ma_wdl, ma_wdn] <;> omega)) only [↓reduceIte, evK, evL, evS, evA, evJ, Option.bind_some, Option.toList, List.cons_append, List.nil_append, nI_add, pk_mul, bI0, ite_not, ev_rbb, up_n, up_s, up_u, pk_us, pk_un, Nat.reduceAdd, nI_ltT, nI_ltF, nI_leT, nI_leF, nI_eqT, nI_eqF, bk_Works_scrapeShips, gfC, hs1]
  · conv => lhs; rw [bh_MO_goesBy_63]
    simp (disch := first | assumption | omega | decide | (simp only [ma_wd0, ma_wdi, ma_wdr, ma_wdl, ma_wdn] <;> omega)) only [↓reduceIte, evK, evL, evS, evA, evJ, Option.bind_some, Option.toList, List.cons_append, List.nil_append, nI_add, pk_mul, bI0, ite_not, ev_rbb, up_n, up_s, up_u, pk_us, pk_un, Nat.reduceAdd, nI_ltT, nI_ltF, nI_leT, nI_leF, nI_eqT, nI_eqF, gfM, hs2]
theorem j_wears (d : Nat) (k : Value) (hT : tR W S Q ls c m) (hJ : jR a W S c m Z) (hk : kR a c m) : ∃ c' m', (∀ m0, cc sc (d + 11) 157 [.ref (wkA a), .ref a] (hp c w m0) = some (none, hp c' w m0)) ∧
    (∀ c0, ev sc (d + 12) 230 (pm_blk 230 89) [some (.ref 138), some k, some (.int (nI 0))] [] (hp c0 w m) = ev sc (d + 12) 230 (pm_blk 230 108) [some (.ref 138), some k, some (.int (nI W))] [] (hp c0 w m')) ∧ jP a W S c m c' m' := by
  have ha := hJ.aa
  have hW := hT.1.2.2.2
  obtain ⟨s, t, c', m', e1, e2, hP⟩ := sim_loop (w := w) W (fun i (s : Unit) h => ev sc (d + 11) 157 (pm_blk 157 2) [some (.ref (wkA a)), some (.ref a), some (.int (nI i))] [] h)
    (fun i (s : Unit) h => ev sc (d + 12) 230 (pm_blk 230 89) [some (.ref 138), some k, some (.int (nI i))] [] h)
    (fun i s t c' m' => jP a W S c m c' m') (by
      rintro i s t c1 m1 hi hP0
      obtain ⟨Z1, hJ1, hk1, hF1, hp1⟩ := id hP0
      have hT1 := hT.FR ha hF1
      have hw2 := hT1.2.1.2.1
      obtain ⟨c2, m2, e1, e2, hP⟩ := j_wear (sc := sc) (w := w) (d + 1) i hT1 hJ1 hk1 hi
      refine ⟨s, t, c2, m2, fun m0 => e1 m0, fun c0 => ?_, hP0.tr hP⟩
      conv => lhs; rw [bh_MO_goesBy_89]
      simp (disch := first | assumption | omega | decide | (simp only [ma_wd0, ma_wdi, ma_wdr, ma_wdl, ma_wdn] <;> omega)) only [↓reduceIte, evK, evL, evS, evA, evJ, Option.bind_some, Option.toList, List.cons_append, List.nil_append, nI_add, pk_mul, bI0, ite_not, ev_rbb, up_n, up_s, up_u, pk_us, pk_un, Nat.reduceAdd, nI_ltT, nI_ltF, nI_leT, nI_leF, nI_eqT, nI_eqF, ce_MO_wide, t_MO_wide, hw2, ce_MO_wears, e2]) W 0 () () c m (by omega) (jP.rf hJ hk)
  obtain ⟨Z1, hJ1, hk1, hF1, hp1⟩ := id hP
  have hT1 := hT.FR ha hF1
  have hw1 := hT1.1.2.1
  have hw2 := hT1.2.1.2.1
  refine ⟨c', m', fun m0 => ?_, fun c0 => (e2 c0).trans ?_, hP⟩
  · rw [en_Works_wearColumns]
    simp (disch := first | assumption | omega | decide | (simp only [ma_wd0, ma_wdi, ma_wdr, ma_wdl, ma_wdn] <;> omega)) only [↓reduceIte, evK, evL, evS, evA, evJ, Option.bind_some, Option.toList, List.cons_append, List.nil_append, nI_add, pk_mul, bI0, ite_not, ev_rbb, up_n, up_s, up_u, pk_us, pk_un, Nat.reduceAdd, nI_ltT, nI_ltF, nI_leT, nI_leF, nI_eqT, nI_eqF, ]
    refine (e1 m0).trans ?_
    rcases ha with rfl | rfl
    · simp only [wkA17]
      rw [bh_Works_wearColumns_2]
      simp (disch := first | assumption | omega | decide | (simp only [ma_wd0, ma_wdi, ma_wdr, ma_wdl, ma_wdn] <;> omega)) only [↓reduceIte, evK, evL, evS, evA, evJ, Option.bind_some, Option.toList, List.cons_append, List.nil_append, nI_add, pk_mul, bI0, ite_not, ev_rbb, up_n, up_s, up_u, pk_us, pk_un, Nat.reduceAdd, nI_ltT, nI_ltF, nI_leT, nI_leF, nI_eqT, nI_eqF, bk_Works_wearColumns, gfC, hw1]
    · simp only [wkA97]
      rw [bh_Works_wearColumns_2]
      simp (disch := first | assumption | omega | decide | (simp only [ma_wd0, ma_wdi, ma_wdr, ma_wdl, ma_wdn] <;> omega)) only [↓reduceIte, evK, evL, evS, evA, evJ, Option.bind_some, Option.toList, List.cons_append, List.nil_append, nI_add, pk_mul, bI0, ite_not, ev_rbb, up_n, up_s, up_u, pk_us, pk_un, Nat.reduceAdd, nI_ltT, nI_ltF, nI_leT, nI_leF, nI_eqT, nI_eqF, bk_Works_wearColumns, gfC, hw1]
  · conv => lhs; rw [bh_MO_goesBy_89]
    simp (disch := first | assumption | omega | decide | (simp only [ma_wd0, ma_wdi, ma_wdr, ma_wdl, ma_wdn] <;> omega)) only [↓reduceIte, evK, evL, evS, evA, evJ, Option.bind_some, Option.toList, List.cons_append, List.nil_append, nI_add, pk_mul, bI0, ite_not, ev_rbb, up_n, up_s, up_u, pk_us, pk_un, Nat.reduceAdd, nI_ltT, nI_ltF, nI_leT, nI_leF, nI_eqT, nI_eqF, ce_MO_wide, t_MO_wide, hw2]
def jE (a W S : Nat) (c0 m0 c m : Nat → Nat → Int32) (e : Int32) : Prop := ∃ Z, jR a W S c m Z ∧ kR a c m ∧ FR a c0 m0 c m ∧ c (wkA a) 3 = c0 (wkA a) 3 + e
theorem jE.tr {c0 m0 c1 m1 : Nat → Nat → Int32} {e : Int32} (h1 : jE a W S c0 m0 c1 m1 e) (h2 : jP a W S c1 m1 c m) : jE a W S c0 m0 c m e := by
  obtain ⟨Z1, -, -, f1, p1⟩ := h1
  obtain ⟨Z, j, k, f, p⟩ := h2
  exact ⟨Z, j, k, f1.tr f, p.trans p1⟩
theorem jP.trE {c0 m0 c1 m1 : Nat → Nat → Int32} {e : Int32} (h1 : jP a W S c0 m0 c1 m1) (h2 : jE a W S c1 m1 c m e) : jE a W S c0 m0 c m e := by
  obtain ⟨Z1, -, -, f1, p1⟩ := h1
  obtain ⟨Z, j, k, f, p⟩ := h2
  exact ⟨Z, j, k, f1.tr f, by rw [p, p1]⟩
theorem j_pays (d : Nat) (hT : tR W S Q ls c m) (hJ : jR a W S c m Z) (hk : kR a c m) : ∃ c' m' e, (∀ m0, cc sc (d + 11) 156 [.ref (wkA a), .ref a] (hp c w m0) = some (none, hp c' w m0)) ∧
    (∀ c0, cc sc (d + 11) 236 [.ref 138] (hp c0 w m) = some (some (.int e), hp c0 w m')) ∧ jE a W S c m c' m' e := by
  have ha := hJ.aa
  obtain ⟨n, hn12, hn1, hn2, hL⟩ := hT.2.2.2.2.2.2.2
  obtain ⟨s, t, c', m', e1, e2, hP⟩ := sim_loop (w := w) n (fun i (s : Option Value) h => ev sc (d + 11) 156 (pm_blk 156 2) [some (.ref (wkA a)), some (.ref a), some (.int (nI i)), s] [] h)
    (fun i (s : Int32 × Option Value) h => ev sc (d + 11) 236 (pm_blk 236 4) [some (.ref 138), some (.int s.1), some (.int (nI i)), s.2] [] h)
    (fun i s t c' m' => jE a W S c m c' m' t.1) (by
      rintro i s t c1 m1 hi ⟨Z1, hJ1, hk1, hF1, hp1⟩
      have hT1 := hT.FR ha hF1
      have q15 : c1 15 = c 15 := hF1.1 15 (by rcases ha with rfl | rfl <;> simp [FX])
      have q16 : c1 16 = c 16 := hF1.1 16 (by rcases ha with rfl | rfl <;> simp [FX])
      have q157 : m1 157 = m 157 := hF1.2.2.1 157 (by simp [FY])
      have q40 : m1 138 40 = m 138 40 := hF1.2.2.2 40 (by omega) (by omega)
      have hr := hL i hi
      rw [← q16, ← q157] at hr
      rw [← q15] at hn1
      rw [← q40] at hn2
      obtain ⟨e, x3, f3, c2, m2, e1, e2, Z2, hJ2, hk2, hF2, hp2⟩ := j_pay (sc := sc) (w := w) (d + 1) i n t.1 hT1 hJ1 hk1 hi hn12 hn1 hn2 hr
      exact ⟨f3 s, (t.1 + e, x3), c2, m2, fun m0 => e1 m0 s, fun c0 => e2 c0 t.2, Z2, hJ2, hk2, hF1.tr hF2, by rw [hp2, hp1, Int32.add_assoc]⟩) n 0 none (nI 0, none) c m (by omega) ⟨Z, hJ, hk, FR.rf, (Int32.add_zero _).symm⟩
  obtain ⟨Z1, hJ1, hk1, hF1, hp1⟩ := id hP
  have q15 : c' 15 = c 15 := hF1.1 15 (by rcases ha with rfl | rfl <;> simp [FX])
  have q40 : m' 138 40 = m 138 40 := hF1.2.2.2 40 (by omega) (by omega)
  rw [← q15] at hn1
  rw [← q40] at hn2
  refine ⟨c', m', t.1, fun m0 => ?_, fun c0 => ?_, hP⟩
  · rw [en_Works_payWants]
    simp (disch := first | assumption | omega | decide | (simp only [ma_wd0, ma_wdi, ma_wdr, ma_wdl, ma_wdn] <;> omega)) only [↓reduceIte, evK, evL, evS, evA, evJ, Option.bind_some, Option.toList, List.cons_append, List.nil_append, nI_add, pk_mul, bI0, ite_not, ev_rbb, up_n, up_s, up_u, pk_us, pk_un, Nat.reduceAdd, nI_ltT, nI_ltF, nI_leT, nI_leF, nI_eqT, nI_eqF, ]
    refine (e1 m0).trans ?_
    rcases ha with rfl | rfl
    · simp only [wkA17]
      rw [bh_Works_payWants_2]
      simp (disch := first | assumption | omega | decide | (simp only [ma_wd0, ma_wdi, ma_wdr, ma_wdl, ma_wdn] <;> omega)) only [↓reduceIte, evK, evL, evS, evA, evJ, Option.bind_some, Option.toList, List.cons_append, List.nil_append, nI_add, pk_mul, bI0, ite_not, ev_rbb, up_n, up_s, up_u, pk_us, pk_un, Nat.reduceAdd, nI_ltT, nI_ltF, nI_leT, nI_leF, nI_eqT, nI_eqF, bk_Works_payWants, gfC, hn1]
    · simp only [wkA97]
      rw [bh_Works_payWants_2]
      simp (disch := first | assumption | omega | decide | (simp only [ma_wd0, ma_wdi, ma_wdr, ma_wdl, ma_wdn] <;> omega)) only [↓reduceIte, evK, evL, evS, evA, evJ, Option.bind_some, Option.toList, List.cons_append, List.nil_append, nI_add, pk_mul, bI0, ite_not, ev_rbb, up_n, up_s, up_u, pk_us, pk_un, Nat.reduceAdd, nI_ltT, nI_ltF, nI_leT, nI_leF, nI_eqT, nI_eqF, bk_Works_payWants, gfC, hn1]
  · rw [en_MO_pays]
    simp (disch := first | assumption | omega | decide | (simp only [ma_wd0, ma_wdi, ma_wdr, ma_wdl, ma_wdn] <;> omega)) only [↓reduceIte, evK, evL, evS, evA, evJ, Option.bind_some, Option.toList, List.cons_append, List.nil_append, nI_add, pk_mul, bI0, ite_not, ev_rbb, up_n, up_s, up_u, pk_us, pk_un, Nat.reduceAdd, nI_ltT, nI_ltF, nI_leT, nI_leF, nI_eqT, nI_eqF, ]
    refine (e2 c0).trans ?_
    rw [bh_MO_pays_4]
    simp (disch := first | assumption | omega | decide | (simp only [ma_wd0, ma_wdi, ma_wdr, ma_wdl, ma_wdn] <;> omega)) only [↓reduceIte, evK, evL, evS, evA, evJ, Option.bind_some, Option.toList, List.cons_append, List.nil_append, nI_add, pk_mul, bI0, ite_not, ev_rbb, up_n, up_s, up_u, pk_us, pk_un, Nat.reduceAdd, nI_ltT, nI_ltF, nI_leT, nI_leF, nI_eqT, nI_eqF, bk_MO_pays, gfM, hn2]
theorem j_hour (d : Nat) (hT : tR W S Q ls c m) (hJ : jR a W S c m Z) (hk : kR a c m) : ∃ c' m' e, (∀ m0, cc sc (d + 12) 151 [.ref (wkA a), .ref a] (hp c w m0) = some (none, hp c' w m0)) ∧
    (∀ c0, cc sc (d + 12) 230 [.ref 138] (hp c0 w m) = some (some (.int e), hp c0 w m')) ∧ jE a W S c m c' m' e := by
  have ha := hJ.aa
  have hS := hT.2.2.1.2.2.1
  obtain ⟨c1, m1, k, r1, r2, hP1⟩ := j_roster (sc := sc) (w := w) d hT hJ hk
  obtain ⟨Z1, hJ1, hk1, hF1, -⟩ := id hP1
  have hT1 := hT.FR ha hF1
  obtain ⟨c2, m2, s1, s2, hP2⟩ := j_slides (sc := sc) (w := w) d hT1 hJ1 hk1
  obtain ⟨Z2, hJ2, hk2, hF2, -⟩ := id hP2
  have hT2 := hT1.FR ha hF2
  obtain ⟨c3, m3, t1, t2, hP3⟩ := j_scrapes (sc := sc) (w := w) d hT2 hJ2 hk2
  obtain ⟨Z3, hJ3, hk3, hF3, -⟩ := id hP3
  have hT3 := hT2.FR ha hF3
  obtain ⟨c4, m4, e, u1, u2, hE4⟩ := j_pays (sc := sc) (w := w) d hT3 hJ3 hk3
  obtain ⟨Z4, hJ4, hk4, hF4, -⟩ := id hE4
  have hT4 := hT3.FR ha hF4
  obtain ⟨c5, m5, v1, v2, hP5⟩ := j_wears (sc := sc) (w := w) d (.int e) hT4 hJ4 hk4
  obtain ⟨Z5, hJ5, hk5, hF5, -⟩ := id hP5
  have hT5 := hT4.FR ha hF5
  obtain ⟨st, g, -, -, hg, -, -, g1, g2⟩ := hT5.2.2.2.2.1
  obtain ⟨rest, hrest⟩ : ∃ r : List ma_I, r = [(.aload_n 0, []), (.getfield 19, [11, 2]), (.ifnull 18, [89]), (.aload_n 0, []), (.getfield 9, [11, 0]), (.getfield 110, [10, 2]), (.ifCond .le 8, [89]), (.aload_n 0, []), (.aload_n 1, []), (.invokevirtual 113, [0, 159, 2, 11]), (.nop, [89])] := ⟨_, rfl⟩
  have h47 : pm_blk 151 47 = (.aload_n 0, []) :: (.aload_n 1, []) :: (.invokevirtual 97, [0, 153, 2, 11]) :: (.aload_n 0, []) :: (.aload_n 1, []) :: (.invokevirtual 101, [0, 155, 2, 11]) :: (.aload_n 0, []) :: (.aload_n 1, []) :: (.invokevirtual 104, [0, 156, 2, 11]) :: (.aload_n 0, []) :: (.aload_n 1, []) :: (.invokevirtual 107, [0, 157, 2, 11]) :: rest := by rw [hrest]; rfl
  have hlast : ∃ c6 m6, (∀ m0, ev sc (d + 12) 151 rest [some (.ref (wkA a)), some (.ref a), some (.int k)] [] (hp c5 w m0) = ev sc (d + 12) 151 (pm_blk 151 89) [some (.ref (wkA a)), some (.ref a), some (.int k)] [] (hp c6 w m0)) ∧ (∀ c0, cc sc (d + 11) 240 [.ref 138] (hp c0 w m5) = some (none, hp c0 w m6)) ∧ jP a W S c5 m5 c6 m6 := by
    subst hrest
    rcases hJ5.2.2.2.2 with ⟨rfl, ht⟩ | ⟨rfl, ht⟩
    · by_cases hg0 : g = 0
      · refine ⟨c5, m5, fun m0 => ?_, fun c0 => t_MO_blows0 _ (Or.inr ⟨ht, by rw [g2, hg0]⟩), jP.rf hJ5 hk5⟩
        simp only [wkA17]
        subst hg0
        simp (disch := first | assumption | omega | decide | (simp only [ma_wd0, ma_wdi, ma_wdr, ma_wdl, ma_wdn] <;> omega)) only [↓reduceIte, evK, evL, evS, evA, evJ, Option.bind_some, Option.toList, List.cons_append, List.nil_append, nI_add, pk_mul, bI0, ite_not, ev_rbb, up_n, up_s, up_u, pk_us, pk_un, Nat.reduceAdd, nI_ltT, nI_ltF, nI_leT, nI_leF, nI_eqT, nI_eqF, gfC, g1]
      · obtain ⟨c6, m6, b1, b2, hP6⟩ := j_gust (sc := sc) (w := w) d g hT5 hJ5 hk5 g1 g2 (by omega) hg
        refine ⟨c6, m6, fun m0 => ?_, b2, hP6⟩
        simp only [wkA17]
        simp (disch := first | assumption | omega | decide | (simp only [ma_wd0, ma_wdi, ma_wdr, ma_wdl, ma_wdn] <;> omega)) only [↓reduceIte, evK, evL, evS, evA, evJ, Option.bind_some, Option.toList, List.cons_append, List.nil_append, nI_add, pk_mul, bI0, ite_not, ev_rbb, up_n, up_s, up_u, pk_us, pk_un, Nat.reduceAdd, nI_ltT, nI_ltF, nI_leT, nI_leF, nI_eqT, nI_eqF, gfC, g1, ce_Works_drawGust, b1]
    · refine ⟨c5, m5, fun m0 => ?_, fun c0 => t_MO_blows0 _ (Or.inl ht), jP.rf hJ5 hk5⟩
      simp only [wkA97]
      simp (disch := first | assumption | omega | decide | (simp only [ma_wd0, ma_wdi, ma_wdr, ma_wdl, ma_wdn] <;> omega)) only [↓reduceIte, evK, evL, evS, evA, evJ, Option.bind_some, Option.toList, List.cons_append, List.nil_append, nI_add, pk_mul, bI0, ite_not, ev_rbb, up_n, up_s, up_u, pk_us, pk_un, Nat.reduceAdd, nI_ltT, nI_ltF, nI_leT, nI_leF, nI_eqT, nI_eqF, gfC]
  obtain ⟨c6, m6, b1, b2, hP6⟩ := hlast
  obtain ⟨Z6, hJ6, hk6, hF6, -⟩ := id hP6
  have hJ7 := hJ6.s.uf hS (f := 6) (i := 0) (Z6 0 0 + nI 1) (by omega)
  have x1 : c6 a 6 = Z6 0 0 := hJ6.1.1.1
  have x2 : m6 139 0 = Z6 0 0 := hJ6.2.1.1.1
  have hP7 : jP a W S c6 m6 _ _ := ⟨_, hJ7.1, hJ7.kr hk6, hJ7.2.1, hJ7.pd⟩
  refine ⟨_, _, e, fun m0 => ?_, fun c0 => ?_, ((((hP1.tr hP2).tr hP3).trE hE4).tr ((hP5.tr hP6).tr hP7))⟩
  · rw [en_Works_passHour]
    simp (disch := first | assumption | omega | decide | (simp only [ma_wd0, ma_wdi, ma_wdr, ma_wdl, ma_wdn] <;> omega)) only [↓reduceIte, evK, evL, evS, evA, evJ, Option.bind_some, Option.toList, List.cons_append, List.nil_append, nI_add, pk_mul, bI0, ite_not, ev_rbb, up_n, up_s, up_u, pk_us, pk_un, Nat.reduceAdd, nI_ltT, nI_ltF, nI_leT, nI_leF, nI_eqT, nI_eqF, ]
    rw [r1, h47]
    clear hrest h47
    rcases ha with rfl | rfl
    · simp only [wkA17] at s1 t1 u1 v1 b1 ⊢
      simp (disch := first | assumption | omega | decide | (simp only [ma_wd0, ma_wdi, ma_wdr, ma_wdl, ma_wdn] <;> omega)) only [↓reduceIte, evK, evL, evS, evA, evJ, Option.bind_some, Option.toList, List.cons_append, List.nil_append, nI_add, pk_mul, bI0, ite_not, ev_rbb, up_n, up_s, up_u, pk_us, pk_un, Nat.reduceAdd, nI_ltT, nI_ltF, nI_leT, nI_leF, nI_eqT, nI_eqF, ce_Works_slideShips, s1, ce_Works_scrapeShips, t1, ce_Works_payWants, u1, ce_Works_wearColumns, v1, b1, bk_Works_passHour, gfC, pfC, x1]
    · simp only [wkA97] at s1 t1 u1 v1 b1 ⊢
      simp (disch := first | assumption | omega | decide | (simp only [ma_wd0, ma_wdi, ma_wdr, ma_wdl, ma_wdn] <;> omega)) only [↓reduceIte, evK, evL, evS, evA, evJ, Option.bind_some, Option.toList, List.cons_append, List.nil_append, nI_add, pk_mul, bI0, ite_not, ev_rbb, up_n, up_s, up_u, pk_us, pk_un, Nat.reduceAdd, nI_ltT, nI_ltF, nI_leT, nI_leF, nI_eqT, nI_eqF, ce_Works_slideShips, s1, ce_Works_scrapeShips, t1, ce_Works_payWants, u1, ce_Works_wearColumns, v1, b1, bk_Works_passHour, gfC, pfC, x1]
  · rw [en_MO_goesBy]
    simp (disch := first | assumption | omega | decide | (simp only [ma_wd0, ma_wdi, ma_wdr, ma_wdl, ma_wdn] <;> omega)) only [↓reduceIte, evK, evL, evS, evA, evJ, Option.bind_some, Option.toList, List.cons_append, List.nil_append, nI_add, pk_mul, bI0, ite_not, ev_rbb, up_n, up_s, up_u, pk_us, pk_un, Nat.reduceAdd, nI_ltT, nI_ltF, nI_leT, nI_leF, nI_eqT, nI_eqF, r2, bk_MO_goesBy, s2, t2, ce_MO_pays, u2, v2, ce_MO_blows, b2, gfM, ldM, stM, x2]
end K1
