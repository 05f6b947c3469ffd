/-! ===== ships scrape, wants pay ===== -/
theorem nCf_wk {a : Nat} (ha : a = 17 ∨ a = 97) (c : Nat → Nat → Int32) (f : Nat → Int32) (u b e : Int32) : nCf a (va_up c (wkA a) f) u b e = va_up (nCf a c u b e) (wkA a) f := by
  have he := wkA_e a
  unfold nCf
  rw [up_n _ _ _ _ (show a ≠ wkA a by omega), up_n _ _ _ _ (show 23 ≠ wkA a by omega)]
  split
  · rfl
  · rw [up_c _ (wkA a) 23 _ _ (by omega), up_c _ (wkA a) a _ _ (by omega)]
theorem nM_138 (m : Nat → Nat → Int32) (u b e : Int32) : nMf m u b e 138 = m 138 := nM_fr u b e 138 (by simp)
theorem nM_139 {m : Nat → Nat → Int32} (u b e : Int32) {i : Nat} (hi : i ≠ 2) : nMf m u b e 139 i = m 139 i := by
  unfold nMf
  split
  · rfl
  · rw [up_s, pk_un hi]
theorem nM_c {m : Nat → Nat → Int32} (u b e v : Int32) {i : Nat} (h2 : i ≠ 2) (h0 : i ≠ 0) : nMf (va_up m 139 (upd (m 139) i v)) u b e = va_up (nMf m u b e) 139 (upd (nMf m u b e 139) i v) := by
  unfold nMf
  rw [up_n _ _ _ _ (show 138 ≠ 139 by omega), up_s, pk_un (Ne.symm h2), pk_un (Ne.symm h0), up_n _ _ _ _ (show 145 ≠ 139 by omega)]
  split
  · rfl
  · rw [up_s, up_c _ 139 145 _ _ (by omega), up_u, up_u]
    congr 1
    funext k
    unfold upd
    by_cases h : k = 2
    · simp [h, Ne.symm h2]
    · simp [h]
def fst1 (v k : Int32) : Int32 := if v = -1 then k else v
theorem fst1_t {v k : Int32} (h : v = -1) : fst1 v k = k := if_pos h
theorem fst1_f {v k : Int32} (h : ¬ v = -1) : fst1 v k = v := if_neg h
section J6
variable {sc : Nat × (Nat → Int32)} {a W S Q : Nat} {ls : List lL} {c m Z : Nat → Nat → Int32} {w : Nat → Int64}
theorem j_scrape (d i : Nat) (hT : tR W S Q ls c m) (hJ : jR a W S c m Z) (hk : kR a c m) (hi : i < S) : ∃ x3 c' m', (∀ m0 y3, ev sc (d + 10) 155 (pm_blk 155 2) [some (.ref (wkA a)), some (.ref a), some (.int (nI i)), y3] [] (hp c w m0) = ev sc (d + 10) 155 (pm_blk 155 2) [some (.ref (wkA a)), some (.ref a), some (.int (nI (i + 1))), x3] [] (hp c' w m0)) ∧ (∀ c0, cc sc (d + 10) 235 [.ref 138, .int (nI i)] (hp c0 w m) = some (none, hp c0 w m')) ∧ jP a W S c m c' m' := by
  have ha := hJ.aa
  have hS := hT.2.2.1.2.2.1
  have hS1 := hT.2.2.1.1
  have hW := hT.1.2.2.2
  obtain ⟨x, hx, ex⟩ := hJ.2.2.1.2.2.1 i hi
  have z1 : c (a + 3) i = nI x := (hJ.1.2.2.2.1 i hi).trans ex
  have z2 : m 139 (33 + i) = nI x := (hJ.2.1.2.2.2.1 i hi).trans ex
  have h1 : c (a + 1) x = Z 0 (5 + x) := hJ.1.2.1 x (by omega)
  have h2 : m 139 (5 + x) + nI 10 = Z 0 (5 + x) := hJ.2.1.2.1 x (by omega)
  have s1 : c (a + 4) i = Z 0 (41 + i) := hJ.1.2.2.2.2 i hi
  have s2 : m 139 (41 + i) = Z 0 (41 + i) := hJ.2.1.2.2.2.2 i hi
  have kp := fun m => t_Told_kept (sc := sc) (c := c) (m := m) (w := w) (d + 8) x W hx hW hT.1.2.1
  obtain ⟨dr, -, d1, d2⟩ := hT.2.2.1.2.2.2 i hi
  generalize hl : nI dr - Z 0 (5 + x) = l
  refine ⟨some (.int l), ?_⟩
  by_cases hb : l ≤ nI 0
  · have hb' : (nI 0 < l) = False := eq_false (by simp only [Int32.lt_iff_toInt_lt, Int32.le_iff_toInt_le] at *; omega)
    refine ⟨c, m, fun m0 y3 => ?_, fun c0 => ?_, Z, hJ, hk, FR.rf, rfl⟩
    · rcases ha with rfl | rfl
      · simp only [wkA17, Nat.reduceAdd] at h1 z1 ⊢
        conv => lhs; rw [bh_Works_scrapeShips_2]
        simp (disch := first | assumption | omega | decide | (simp only [ma_wd0, ma_wdi, ma_wdr, ma_wdl, ma_wdn] <;> omega)) only [↓reduceIte, evK, evL, evS, evA, evJ, Option.bind_some, Option.toList, List.cons_append, List.nil_append, nI_add, pk_mul, bI0, ite_not, ev_rbb, up_n, up_s, up_u, pk_us, pk_un, Nat.reduceAdd, nI_ltT, nI_ltF, nI_leT, nI_leF, nI_eqT, nI_eqF, bk_Works_scrapeShips, gfC, ldC, hS1, d1, z1, ce_Told_kept, kp, h1, hl, hb]
      · simp only [wkA97, Nat.reduceAdd] at h1 z1 ⊢
        conv => lhs; rw [bh_Works_scrapeShips_2]
        simp (disch := first | assumption | omega | decide | (simp only [ma_wd0, ma_wdi, ma_wdr, ma_wdl, ma_wdn] <;> omega)) only [↓reduceIte, evK, evL, evS, evA, evJ, Option.bind_some, Option.toList, List.cons_append, List.nil_append, nI_add, pk_mul, bI0, ite_not, ev_rbb, up_n, up_s, up_u, pk_us, pk_un, Nat.reduceAdd, nI_ltT, nI_ltF, nI_leT, nI_leF, nI_eqT, nI_eqF, bk_Works_scrapeShips, gfC, ldC, hS1, d1, z1, ce_Told_kept, kp, h1, hl, hb]
    · simp (disch := first | assumption | omega | decide | (simp only [ma_wd0, ma_wdi, ma_wdr, ma_wdl, ma_wdn] <;> omega)) only [↓reduceIte, evK, evL, evS, evA, evJ, Option.bind_some, Option.toList, List.cons_append, List.nil_append, nI_add, pk_mul, bI0, ite_not, ev_rbb, up_n, up_s, up_u, pk_us, pk_un, Nat.reduceAdd, nI_ltT, nI_ltF, nI_leT, nI_leF, nI_eqT, nI_eqF, en_MO_scrapes, bk_MO_scrapes, gfM, ldM, z2, d2, ce_MO_heightOf, t_MO_heightOf, h2, hl, hb, hb']
  · have hb' : (nI 0 < l) = True := eq_true (by simp only [Int32.lt_iff_toInt_lt, Int32.le_iff_toInt_le] at *; omega)
    have hJ3 := hJ.s.us hS hi (Z 0 (41 + i) + nI 1)
    obtain ⟨Z', hJ4, -⟩ := hJ3.nt hS (nI 3) (nI i) l
    generalize hfs : fst1 (c (wkA a) 4) (nI i) = fs
    generalize hfm : fst1 (m 138 44) (nI i) = fm
    have hwk := wkA_e a
    obtain ⟨k, hk150, k1, k2⟩ := hJ3.1.k
    have n1 := fun m => t_Works_note (sc := sc) (c := va_up (va_up c (a + 4) (upd (c (a + 4)) i (Z 0 (41 + i) + nI 1))) (wkA a) (upd (c (wkA a)) 4 fs)) (m := m) (w := w) (d + 7) a k (nI 3) (nI i) l ha hk150 (by rw [up_n _ _ _ _ (by omega)]; exact k1)
    have n2 := fun c => t_MO_notes (sc := sc) (c := c) (w := w) (d + 9) k (nI 3) (nI i) l hk150 k2 hJ3.1.t
    rw [nCf_wk ha] at n1
    have h138 : nMf (va_up m 139 (upd (m 139) (41 + i) (Z 0 (41 + i) + nI 1))) (nI 3) (nI i) l 138 = m 138 := nM_138 _ _ _ _
    refine ⟨_, _, fun m0 y3 => ?_, fun c0 => ?_, Z', hJ4.1.c1 (upd (c (wkA a)) 4 fs) (upd (m 138) 44 fm) (by rw [pk_un (by omega), h138]), ?_, hJ4.2.1.tr (FR.c1 _ _ (fun k a b => by rw [pk_un a, h138])), ?_⟩
    · rcases ha with rfl | rfl
      · simp (disch := first | assumption | omega | decide | (simp only [ma_wd0, ma_wdi, ma_wdr, ma_wdl, ma_wdn] <;> omega)) only [up_n, up_s, up_u, pk_us, pk_un, Nat.reduceAdd, wkA17] at h1 z1 s1 n1 hfs ⊢
        conv => lhs; rw [bh_Works_scrapeShips_2]
        by_cases hq : c 96 4 = -1
        · rw [fst1_t hq] at hfs
          subst hfs
          simp (disch := first | assumption | omega | decide | (simp only [ma_wd0, ma_wdi, ma_wdr, ma_wdl, ma_wdn] <;> omega)) only [↓reduceIte, evK, evL, evS, evA, evJ, Option.bind_some, Option.toList, List.cons_append, List.nil_append, nI_add, pk_mul, bI0, ite_not, ev_rbb, up_n, up_s, up_u, pk_us, pk_un, Nat.reduceAdd, nI_ltT, nI_ltF, nI_leT, nI_leF, nI_eqT, nI_eqF, bk_Works_scrapeShips, gfC, ldC, stC, pfC, hS1, d1, z1, ce_Told_kept, kp, h1, hl, hb, s1, hq, ce_Works_note, n1]
        · rw [fst1_f hq] at hfs
          subst hfs
          simp (disch := first | assumption | omega | decide | (simp only [ma_wd0, ma_wdi, ma_wdr, ma_wdl, ma_wdn] <;> omega)) only [↓reduceIte, evK, evL, evS, evA, evJ, Option.bind_some, Option.toList, List.cons_append, List.nil_append, nI_add, pk_mul, bI0, ite_not, ev_rbb, up_n, up_s, up_u, pk_us, pk_un, Nat.reduceAdd, nI_ltT, nI_ltF, nI_leT, nI_leF, nI_eqT, nI_eqF, bk_Works_scrapeShips, gfC, ldC, stC, pfC, hS1, d1, z1, ce_Told_kept, kp, h1, hl, hb, s1, hq, ce_Works_note, n1]
      · simp (disch := first | assumption | omega | decide | (simp only [ma_wd0, ma_wdi, ma_wdr, ma_wdl, ma_wdn] <;> omega)) only [up_n, up_s, up_u, pk_us, pk_un, Nat.reduceAdd, wkA97] at h1 z1 s1 n1 hfs ⊢
        conv => lhs; rw [bh_Works_scrapeShips_2]
        by_cases hq : c 102 4 = -1
        · rw [fst1_t hq] at hfs
          subst hfs
          simp (disch := first | assumption | omega | decide | (simp only [ma_wd0, ma_wdi, ma_wdr, ma_wdl, ma_wdn] <;> omega)) only [↓reduceIte, evK, evL, evS, evA, evJ, Option.bind_some, Option.toList, List.cons_append, List.nil_append, nI_add, pk_mul, bI0, ite_not, ev_rbb, up_n, up_s, up_u, pk_us, pk_un, Nat.reduceAdd, nI_ltT, nI_ltF, nI_leT, nI_leF, nI_eqT, nI_eqF, bk_Works_scrapeShips, gfC, ldC, stC, pfC, hS1, d1, z1, ce_Told_kept, kp, h1, hl, hb, s1, hq, ce_Works_note, n1]
        · rw [fst1_f hq] at hfs
          subst hfs
          simp (disch := first | assumption | omega | decide | (simp only [ma_wd0, ma_wdi, ma_wdr, ma_wdl, ma_wdn] <;> omega)) only [↓reduceIte, evK, evL, evS, evA, evJ, Option.bind_some, Option.toList, List.cons_append, List.nil_append, nI_add, pk_mul, bI0, ite_not, ev_rbb, up_n, up_s, up_u, pk_us, pk_un, Nat.reduceAdd, nI_ltT, nI_ltF, nI_leT, nI_leF, nI_eqT, nI_eqF, bk_Works_scrapeShips, gfC, ldC, stC, pfC, hS1, d1, z1, ce_Told_kept, kp, h1, hl, hb, s1, hq, ce_Works_note, n1]
    · by_cases hq : m 138 44 = -1
      · rw [fst1_t hq] at hfm
        subst hfm
        simp (disch := first | assumption | omega | decide | (simp only [ma_wd0, ma_wdi, ma_wdr, ma_wdl, ma_wdn] <;> omega)) only [↓reduceIte, evK, evL, evS, evA, evJ, Option.bind_some, Option.toList, List.cons_append, List.nil_append, nI_add, pk_mul, bI0, ite_not, ev_rbb, up_n, up_s, up_u, pk_us, pk_un, Nat.reduceAdd, nI_ltT, nI_ltF, nI_leT, nI_leF, nI_eqT, nI_eqF, en_MO_scrapes, bk_MO_scrapes, gfM, ldM, stM, pfM, z2, d2, ce_MO_heightOf, t_MO_heightOf, h2, hl, hb, hb', s2, ce_MO_notes, n2, h138, hq]
      · rw [fst1_f hq] at hfm
        subst hfm
        have : upd (m 138) 44 (m 138 44) = m 138 := by funext k; unfold upd; split <;> simp_all
        rw [this, ← h138, up_self]
        simp (disch := first | assumption | omega | decide | (simp only [ma_wd0, ma_wdi, ma_wdr, ma_wdl, ma_wdn] <;> omega)) only [↓reduceIte, evK, evL, evS, evA, evJ, Option.bind_some, Option.toList, List.cons_append, List.nil_append, nI_add, pk_mul, bI0, ite_not, ev_rbb, up_n, up_s, up_u, pk_us, pk_un, Nat.reduceAdd, nI_ltT, nI_ltF, nI_leT, nI_leF, nI_eqT, nI_eqF, en_MO_scrapes, bk_MO_scrapes, gfM, ldM, stM, pfM, z2, d2, ce_MO_heightOf, t_MO_heightOf, h2, hl, hb, hb', s2, ce_MO_notes, n2, h138, hq]
    · intro z
      have hkz := hk z
      subst z
      simp only [wkA97, up_s, pk_us] at hfs ⊢
      rw [pk_un (by omega), pk_un (by omega), ← hfs, ← hfm, hkz.1]
      exact ⟨rfl, hkz.2⟩
    · rw [up_s, pk_un (by omega)]
end J6
