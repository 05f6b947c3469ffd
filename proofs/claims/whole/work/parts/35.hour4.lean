/-! ===== columns wear, gusts ===== -/
theorem wear_bd {n v : Int32} (hn : 0 ≤ n.toInt ∧ n.toInt ≤ 99) (hv : 0 ≤ v.toInt ∧ v.toInt ≤ 99) : 0 ≤ (iMn (nI 99) (n + v)).toInt ∧ (iMn (nI 99) (n + v)).toInt ≤ 99 := by
  obtain ⟨k, hk, rfl⟩ := nI_ex (n := 99) hn
  obtain ⟨j, hj, rfl⟩ := nI_ex (n := 99) hv
  rw [nI_add]
  unfold iMn
  split
  · rw [nI_toInt (by omega)]; omega
  next z =>
    have := nI_ltI (a := 99) (b := k + j) (by omega) (by omega)
    rw [this] at z
    rw [nI_toInt (by omega)]; omega
theorem iHd_bd99 (v : Int32) : 0 ≤ (iHd v (nI 0) (nI 99)).toInt ∧ (iHd v (nI 0) (nI 99)).toInt ≤ 99 := by
  have k0 : (nI 0).toInt = 0 := by decide +kernel
  have k1 : (nI 99).toInt = 99 := by decide +kernel
  unfold iHd
  simp only [Int32.lt_iff_toInt_lt]
  repeat' split
  all_goals omega
section J8
variable {sc : Nat × (Nat → Int32)} {a W S Q : Nat} {ls : List lL} {c m Z : Nat → Nat → Int32} {w : Nat → Int64}
theorem t_Works_noteW (d k : Nat) (f : Nat → Int32) (u b e : Int32) (ha : a = 17 ∨ a = 97) (hk : k ≤ 150) (h8 : c a 8 = nI k) : cc sc (d + 2) 147 [.ref (wkA a), .ref a, .int u, .int b, .int e] (hp (va_up c (wkA a) f) w m) = some (none, hp (nCf a (va_up c (wkA a) f) u b e) w m) := by
  have he := wkA_e a
  exact t_Works_note d a k u b e ha hk (by rw [up_n _ _ _ _ (by omega)]; exact h8)
theorem j_wear (d x : Nat) (hT : tR W S Q ls c m) (hJ : jR a W S c m Z) (hk : kR a c m) (hx : x < W) : ∃ c' m', (∀ m0, ev sc (d + 10) 157 (pm_blk 157 2) [some (.ref (wkA a)), some (.ref a), some (.int (nI x))] [] (hp c w m0) = ev sc (d + 10) 157 (pm_blk 157 2) [some (.ref (wkA a)), some (.ref a), some (.int (nI (x + 1)))] [] (hp c' w m0)) ∧ (∀ c0, cc sc (d + 10) 238 [.ref 138, .int (nI x)] (hp c0 w m) = some (none, hp c0 w m')) ∧ jP a W S c m c' m' := by
  have ha := hJ.aa
  have hS := hT.2.2.1.2.2.1
  have hW := hT.1.2.2.2
  have hw1 := hT.1.2.1
  have z1 : c (a + 1) x = Z 0 (5 + x) := hJ.1.2.1 x (by omega)
  have z2 : m 139 (5 + x) + nI 10 = Z 0 (5 + x) := hJ.2.1.2.1 x (by omega)
  have u1 : c (a + 2) x = Z 0 (19 + x) := hJ.1.2.2.1 x (by omega)
  have u2 : m 139 (19 + x) = Z 0 (19 + x) := hJ.2.1.2.2.1 x (by omega)
  obtain ⟨hh, hh40, eh⟩ := nI_ex (n := 40) (hJ.2.2.1.1 x (by omega))
  rw [eh] at z1 z2
  by_cases h0 : hh = 0
  · subst h0
    refine ⟨c, m, fun m0 => ?_, fun c0 => ?_, Z, hJ, hk, FR.rf, rfl⟩
    · rcases ha with rfl | rfl
      · simp only [wkA17, Nat.reduceAdd] at z1 ⊢
        conv => lhs; rw [bh_Works_wearColumns_2]
        simp (disch := first | assumption | omega | decide | (simp only [ma_wd0, ma_wdi, ma_wdr, ma_wdl, ma_wdn] <;> omega)) only [↓reduceIte, evK, evL, evS, evA, evJ, Option.bind_some, Option.toList, List.cons_append, List.nil_append, nI_add, pk_mul, bI0, ite_not, ev_rbb, up_n, up_s, up_u, pk_us, pk_un, Nat.reduceAdd, nI_ltT, nI_ltF, nI_leT, nI_leF, nI_eqT, nI_eqF, bk_Works_wearColumns, gfC, ldC, hw1, z1]
      · simp only [wkA97, Nat.reduceAdd] at z1 ⊢
        conv => lhs; rw [bh_Works_wearColumns_2]
        simp (disch := first | assumption | omega | decide | (simp only [ma_wd0, ma_wdi, ma_wdr, ma_wdl, ma_wdn] <;> omega)) only [↓reduceIte, evK, evL, evS, evA, evJ, Option.bind_some, Option.toList, List.cons_append, List.nil_append, nI_add, pk_mul, bI0, ite_not, ev_rbb, up_n, up_s, up_u, pk_us, pk_un, Nat.reduceAdd, nI_ltT, nI_ltF, nI_leT, nI_leF, nI_eqT, nI_eqF, bk_Works_wearColumns, gfC, ldC, hw1, z1]
    · simp (disch := first | assumption | omega | decide | (simp only [ma_wd0, ma_wdi, ma_wdr, ma_wdl, ma_wdn] <;> omega)) only [↓reduceIte, evK, evL, evS, evA, evJ, Option.bind_some, Option.toList, List.cons_append, List.nil_append, nI_add, pk_mul, bI0, ite_not, ev_rbb, up_n, up_s, up_u, pk_us, pk_un, Nat.reduceAdd, nI_ltT, nI_ltF, nI_leT, nI_leF, nI_eqT, nI_eqF, en_MO_wears, bk_MO_wears, ce_MO_heightOf, t_MO_heightOf, z2]
  · obtain ⟨g1, f1, hc⟩ := t_Asker_wear (sc := sc) (c := c) (w := w) (d + 7) x W a ls ha hx hT.1 hJ.hB
    obtain ⟨g2, f2, hm⟩ := t_MO_wearOf (sc := sc) (m := m) (w := w) (d + 5) x W ls hx hT.2.1
    rw [(hJ.wear hx hW).1] at hc
    rw [(hJ.wear hx hW).2] at hm
    have hs : 0 ≤ (wearS ls W (zH Z) (zN Z) (Z 0 0) x).toInt ∧ (wearS ls W (zH Z) (zN Z) (Z 0 0) x).toInt ≤ 99 := iHd_bd99 _
    generalize wearS ls W (zH Z) (zN Z) (Z 0 0) x = v at hc hm hs
    have hwb := wear_bd (hJ.2.2.1.2.1 x (by omega)) hs
    have hJ2 := (hJ.s.junk g1 f1 g2 f2).un hS (x := x) (by omega) hwb
    generalize hnw : iMn (nI 99) (Z 0 (19 + x) + v) = nw at hJ2 hwb
    obtain ⟨kw, hkw, rfl⟩ := nI_ex (n := 99) hwb
    by_cases hb : kw < 99
    · refine ⟨_, _, fun m0 => ?_, fun c0 => ?_, _, hJ2.1, hJ2.kr hk, hJ2.2.1, hJ2.pd⟩
      · rcases ha with rfl | rfl
        · simp (disch := first | assumption | omega | decide | (simp only [ma_wd0, ma_wdi, ma_wdr, ma_wdl, ma_wdn] <;> omega)) only [up_n, up_s, up_u, pk_us, pk_un, Nat.reduceAdd, wkA17] at z1 u1 ⊢
          conv => lhs; rw [bh_Works_wearColumns_2]
          simp (disch := first | assumption | omega | decide | (simp only [ma_wd0, ma_wdi, ma_wdr, ma_wdl, ma_wdn] <;> omega)) only [↓reduceIte, evK, evL, evS, evA, evJ, Option.bind_some, Option.toList, List.cons_append, List.nil_append, nI_add, pk_mul, bI0, ite_not, ev_rbb, up_n, up_s, up_u, pk_us, pk_un, Nat.reduceAdd, nI_ltT, nI_ltF, nI_leT, nI_leF, nI_eqT, nI_eqF, bk_Works_wearColumns, gfC, ldC, stC, hw1, z1, u1, ce_Asker_wear, hc, ce_Math_min, t_Math_min, mn_eq, hnw]
        · simp (disch := first | assumption | omega | decide | (simp only [ma_wd0, ma_wdi, ma_wdr, ma_wdl, ma_wdn] <;> omega)) only [up_n, up_s, up_u, pk_us, pk_un, Nat.reduceAdd, wkA97] at z1 u1 ⊢
          conv => lhs; rw [bh_Works_wearColumns_2]
          simp (disch := first | assumption | omega | decide | (simp only [ma_wd0, ma_wdi, ma_wdr, ma_wdl, ma_wdn] <;> omega)) only [↓reduceIte, evK, evL, evS, evA, evJ, Option.bind_some, Option.toList, List.cons_append, List.nil_append, nI_add, pk_mul, bI0, ite_not, ev_rbb, up_n, up_s, up_u, pk_us, pk_un, Nat.reduceAdd, nI_ltT, nI_ltF, nI_leT, nI_leF, nI_eqT, nI_eqF, bk_Works_wearColumns, gfC, ldC, stC, hw1, z1, u1, ce_Asker_wear, hc, ce_Math_min, t_Math_min, mn_eq, hnw]
      · simp (disch := first | assumption | omega | decide | (simp only [ma_wd0, ma_wdi, ma_wdr, ma_wdl, ma_wdn] <;> omega)) only [↓reduceIte, evK, evL, evS, evA, evJ, Option.bind_some, Option.toList, List.cons_append, List.nil_append, nI_add, pk_mul, bI0, ite_not, ev_rbb, up_n, up_s, up_u, pk_us, pk_un, Nat.reduceAdd, nI_ltT, nI_ltF, nI_leT, nI_leF, nI_eqT, nI_eqF, en_MO_wears, bk_MO_wears, gfM, ldM, stM, ce_MO_heightOf, t_MO_heightOf, z2, u2, ce_MO_wearOf, hm, ce_MO_lesser, t_MO_lesser, hnw]
    · have hJ3 := ((hJ2.up hS (x := x) (by omega) (v := nI 0) (by decide +kernel)).un hS (x := x) (by omega) (v := nI 0) (by decide +kernel)).uf hS (f := 5) (i := 4) (Z 0 4 + nI 1) (by omega)
      obtain ⟨k, hk150, k1, k2⟩ := hJ3.1.k
      obtain ⟨k', hk150', -, k2'⟩ := hJ2.1.k
      obtain ⟨Z', hJ4, -⟩ := hJ3.nt hS (nI 5) (nI x) (nI hh)
      have n2 := fun c => t_MO_notes (sc := sc) (c := c) (w := w) (d + 9) k' (nI 5) (nI x) (nI hh) hk150' k2' hJ2.1.t
      generalize hfs : fst1 (c (wkA a) 5) (nI x) = fs
      generalize hfm : fst1 (m 138 45) (nI x) = fm
      have hwk := wkA_e a
      have b1 : c a 5 = Z 0 4 := hJ.1.1.2.2.2.2
      have b2 : m 139 4 = Z 0 4 := hJ.2.1.1.2.2.2.2
      rw [nM_c _ _ _ _ (show 4 ≠ 2 by omega) (by omega), nM_c _ _ _ _ (show 19 + x ≠ 2 by omega) (by omega), nM_c _ _ _ _ (show 5 + x ≠ 2 by omega) (by omega)] at hJ4
      have hJ5 := hJ4.1.c1 (upd (c (wkA a)) 5 fs) (upd (m 138) 45 fm) (by rw [pk_un (by omega), hJ4.2.2.2])
      have hF5 := hJ4.2.1.tr (FR.c1 (upd (c (wkA a)) 5 fs) (upd (m 138) 45 fm) (fun k a b => by rw [pk_un b, hJ4.2.2.2]))
      rw [← nCf_wk ha] at hJ5 hF5
      refine ⟨_, _, fun m0 => ?_, fun c0 => ?_, Z', hJ5, ?_, hF5, ?_⟩
      · have n1 := fun m => t_Works_noteW (sc := sc) (m := m) (w := w) (d + 6) k (upd (c (wkA a)) 5 fs) (nI 5) (nI x) (nI hh) ha hk150 k1
        rcases ha with rfl | rfl
        · simp (disch := first | assumption | omega | decide | (simp only [ma_wd0, ma_wdi, ma_wdr, ma_wdl, ma_wdn] <;> omega)) only [up_n, up_s, up_u, pk_us, pk_un, Nat.reduceAdd, wkA17] at z1 u1 b1 n1 hfs ⊢
          conv => lhs; rw [bh_Works_wearColumns_2]
          by_cases hq : c 96 5 = -1
          · rw [fst1_t hq] at hfs
            subst hfs
            simp (disch := first | assumption | omega | decide | (simp only [ma_wd0, ma_wdi, ma_wdr, ma_wdl, ma_wdn] <;> omega)) only [↓reduceIte, evK, evL, evS, evA, evJ, Option.bind_some, Option.toList, List.cons_append, List.nil_append, nI_add, pk_mul, bI0, ite_not, ev_rbb, up_n, up_s, up_u, pk_us, pk_un, Nat.reduceAdd, nI_ltT, nI_ltF, nI_leT, nI_leF, nI_eqT, nI_eqF, bk_Works_wearColumns, gfC, ldC, stC, pfC, hw1, z1, u1, b1, ce_Asker_wear, hc, ce_Math_min, t_Math_min, mn_eq, hnw, ce_Works_breakColumn, en_Works_breakColumn, bk_Works_breakColumn, hq, ce_Works_note, n1]
          · rw [fst1_f hq] at hfs
            subst hfs
            simp (disch := first | assumption | omega | decide | (simp only [ma_wd0, ma_wdi, ma_wdr, ma_wdl, ma_wdn] <;> omega)) only [↓reduceIte, evK, evL, evS, evA, evJ, Option.bind_some, Option.toList, List.cons_append, List.nil_append, nI_add, pk_mul, bI0, ite_not, ev_rbb, up_n, up_s, up_u, pk_us, pk_un, Nat.reduceAdd, nI_ltT, nI_ltF, nI_leT, nI_leF, nI_eqT, nI_eqF, bk_Works_wearColumns, gfC, ldC, stC, pfC, hw1, z1, u1, b1, ce_Asker_wear, hc, ce_Math_min, t_Math_min, mn_eq, hnw, ce_Works_breakColumn, en_Works_breakColumn, bk_Works_breakColumn, hq, ce_Works_note, n1]
        · simp (disch := first | assumption | omega | decide | (simp only [ma_wd0, ma_wdi, ma_wdr, ma_wdl, ma_wdn] <;> omega)) only [up_n, up_s, up_u, pk_us, pk_un, Nat.reduceAdd, wkA97] at z1 u1 b1 n1 hfs ⊢
          conv => lhs; rw [bh_Works_wearColumns_2]
          by_cases hq : c 102 5 = -1
          · rw [fst1_t hq] at hfs
            subst hfs
            simp (disch := first | assumption | omega | decide | (simp only [ma_wd0, ma_wdi, ma_wdr, ma_wdl, ma_wdn] <;> omega)) only [↓reduceIte, evK, evL, evS, evA, evJ, Option.bind_some, Option.toList, List.cons_append, List.nil_append, nI_add, pk_mul, bI0, ite_not, ev_rbb, up_n, up_s, up_u, pk_us, pk_un, Nat.reduceAdd, nI_ltT, nI_ltF, nI_leT, nI_leF, nI_eqT, nI_eqF, bk_Works_wearColumns, gfC, ldC, stC, pfC, hw1, z1, u1, b1, ce_Asker_wear, hc, ce_Math_min, t_Math_min, mn_eq, hnw, ce_Works_breakColumn, en_Works_breakColumn, bk_Works_breakColumn, hq, ce_Works_note, n1]
          · rw [fst1_f hq] at hfs
            subst hfs
            simp (disch := first | assumption | omega | decide | (simp only [ma_wd0, ma_wdi, ma_wdr, ma_wdl, ma_wdn] <;> omega)) only [↓reduceIte, evK, evL, evS, evA, evJ, Option.bind_some, Option.toList, List.cons_append, List.nil_append, nI_add, pk_mul, bI0, ite_not, ev_rbb, up_n, up_s, up_u, pk_us, pk_un, Nat.reduceAdd, nI_ltT, nI_ltF, nI_leT, nI_leF, nI_eqT, nI_eqF, bk_Works_wearColumns, gfC, ldC, stC, pfC, hw1, z1, u1, b1, ce_Asker_wear, hc, ce_Math_min, t_Math_min, mn_eq, hnw, ce_Works_breakColumn, en_Works_breakColumn, bk_Works_breakColumn, hq, ce_Works_note, n1]
      · have h138 := hJ4.2.2.2
        simp (disch := first | assumption | omega | decide | (simp only [ma_wd0, ma_wdi, ma_wdr, ma_wdl, ma_wdn] <;> omega)) only [up_n, up_s, up_u, pk_us, pk_un, Nat.reduceAdd] at n2
        by_cases hq : m 138 45 = -1
        · rw [fst1_t hq] at hfm
          subst hfm
          simp (disch := first | assumption | omega | decide | (simp only [ma_wd0, ma_wdi, ma_wdr, ma_wdl, ma_wdn] <;> omega)) only [↓reduceIte, evK, evL, evS, evA, evJ, Option.bind_some, Option.toList, List.cons_append, List.nil_append, nI_add, pk_mul, bI0, ite_not, ev_rbb, up_n, up_s, up_u, pk_us, pk_un, Nat.reduceAdd, nI_ltT, nI_ltF, nI_leT, nI_leF, nI_eqT, nI_eqF, en_MO_wears, bk_MO_wears, gfM, ldM, stM, pfM, ce_MO_heightOf, t_MO_heightOf, ce_MO_heightBe, t_MO_heightBe, z2, u2, ce_MO_wearOf, hm, ce_MO_lesser, t_MO_lesser, hnw, ce_MO_notes, n2, nM_139, nM_138, b2, hq]
        · rw [fst1_f hq] at hfm
          subst hfm
          have : upd (m 138) 45 (m 138 45) = m 138 := by funext k; unfold upd; split <;> simp_all
          rw [this, ← h138, up_self]
          simp (disch := first | assumption | omega | decide | (simp only [ma_wd0, ma_wdi, ma_wdr, ma_wdl, ma_wdn] <;> omega)) only [↓reduceIte, evK, evL, evS, evA, evJ, Option.bind_some, Option.toList, List.cons_append, List.nil_append, nI_add, pk_mul, bI0, ite_not, ev_rbb, up_n, up_s, up_u, pk_us, pk_un, Nat.reduceAdd, nI_ltT, nI_ltF, nI_leT, nI_leF, nI_eqT, nI_eqF, en_MO_wears, bk_MO_wears, gfM, ldM, stM, pfM, ce_MO_heightOf, t_MO_heightOf, ce_MO_heightBe, t_MO_heightBe, z2, u2, ce_MO_wearOf, hm, ce_MO_lesser, t_MO_lesser, hnw, ce_MO_notes, n2, nM_139, nM_138, b2, hq]
      · intro z
        have hkz := hk z
        rw [nCf_wk ha]
        subst z
        simp only [wkA97, up_s, pk_us] at hfs ⊢
        rw [pk_un (by omega), pk_un (by omega), ← hfs, ← hfm, hkz.2]
        exact ⟨hkz.1, rfl⟩
      · rw [nCf_wk ha, up_s, pk_un (by omega)]
end J8
