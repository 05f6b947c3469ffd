/-! ===== meets: the call ===== -/
section PS
variable {sc : Nat × (Nat → Int32)} {W S Q n st : Nat} {ls : List lL} {c m Z : Nat → Nat → Int32} {w : Nat → Int64} {p h s t y k : Nat → Nat}
/-- both find the wanted lines; the class besides what pays and clashes -/
theorem j_wanted (d d' hr : Nat) (x2 x5 : Option Value) (hhr : hr < 24) (hn : n ≤ 12) (hF : wF n Q W c m p h s t y k) (hW : W ≤ 14) (hQ : Q ≤ 6) (hst : st ≤ 9) (h15 : c 15 0 = nI n) (h5 : c 1 5 = nI Q) (h1 : c 1 1 = nI st) (h10 : c 1 0 = nI W) (h40 : m 138 40 = nI n) : ∃ F c', F < 2 ^ n ∧ (∀ m0, cc sc (d + 4) 94 [.ref 103, .int (nI hr)] (hp c w m0) = some (some (.int (nI F)), hp c' w m0)) ∧ (∀ c0, ev sc (d' + 2) 255 (pm_blk 255 33) [some (.ref 138), some (.int (nI hr)), x2, some (.int (nI 0)), some (.int (nI 0)), x5] [] (hp c0 w m) = ev sc (d' + 2) 255 (pm_blk 255 65) [some (.ref 138), some (.int (nI hr)), x2, some (.int (nI F)), some (.int (nI n)), x5] [] (hp c0 w m)) ∧ (∀ r, r ≠ 104 → r ≠ 105 → c' r = c r) ∧ (∀ j, j < n → c' 104 j = nI (clN st h k n j)) ∧ ∀ j, j < n → c' 105 j = nI (y j) := by
  obtain ⟨-, -, c', m', e1, e2, hfr, h4, h5', rfl⟩ := sim_loop (w := w) n (fun i (u : Unit) h => ev sc (d + 4) 94 (pm_blk 94 4) [some (.ref 103), some (.int (nI hr)), some (.int (nI (setN (fun i => decide (s i ≤ hr ∧ hr ≤ t i)) i))), some (.int (nI i))] [] h)
    (fun i (u : Unit) h => ev sc (d' + 2) 255 (pm_blk 255 33) [some (.ref 138), some (.int (nI hr)), x2, some (.int (nI (setN (fun i => decide (s i ≤ hr ∧ hr ≤ t i)) i))), some (.int (nI i)), x5] [] h)
    (fun i u v c' m' => (∀ r, r ≠ 104 → r ≠ 105 → c' r = c r) ∧ (∀ j, j < i → c' 104 j = nI (clN st h k n j)) ∧ (∀ j, j < i → c' 105 j = nI (y j)) ∧ m = m') (by
      rintro i u v c' m' hi ⟨hfr, h4, h5', rfl⟩
      have hF' : wF n Q W c' m p h s t y k := fun j hj => by rw [hfr 16 (by omega) (by omega), hfr 3 (by omega) (by omega)]; exact hF j hj
      obtain ⟨-, q2, q3, q4, -, -, -, -, -, q10, q11, q12, q13, q14, -⟩ := hF' i hi
      have r15 : c' 15 0 = nI n := by rw [hfr 15 (by omega) (by omega)]; exact h15
      have r5 : c' 1 5 = nI Q := by rw [hfr 1 (by omega) (by omega)]; exact h5
      have r10 : c' 1 0 = nI W := by rw [hfr 1 (by omega) (by omega)]; exact h10
      have r1 : c' 1 1 = nI st := by rw [hfr 1 (by omega) (by omega)]; exact h1
      have hF2 : ∀ f, wF n Q W (va_up c' 105 f) m p h s t y k := fun f j hj => by rw [up_n _ _ _ _ (by omega), up_n _ _ _ _ (by omega)]; exact hF' j hj
      have cell := fun m => t_Rows_cell15 (sc := sc) (c := c') (m := m) (w := w) (d + 2) i 4 (by omega)
      rw [q14] at cell
      have cl := fun f => t_clashesOf (sc := sc) (w := w) (c := va_up c' 105 f) d i hi hn (hF2 f) hW hQ hst (by rw [up_n _ _ _ _ (by omega)]; exact r15) (by rw [up_n _ _ _ _ (by omega)]; exact r5) (by rw [up_n _ _ _ _ (by omega)]; exact r1) (by rw [up_n _ _ _ _ (by omega)]; exact r10)
      have iw := fun f g m => t_Told_isWanted (sc := sc) (c := va_up (va_up c' 105 f) 104 g) (m := m) (w := w) (d + 1) i (s i) (t i) (nI hr) (by omega) (by rw [up_n _ _ _ _ (by omega), up_n _ _ _ _ (by omega)]; exact q10) (by rw [up_n _ _ _ _ (by omega), up_n _ _ _ _ (by omega)]; exact q12)
      have im := fun c => t_MO_isWantedAt (sc := sc) (c := c) (m := m) (w := w) d' i (s i) (t i) (nI hr) (by omega) q11 q13
      have ec : (nI (s i) ≤ nI hr ∧ nI hr ≤ nI (t i)) ↔ (s i ≤ hr ∧ hr ≤ t i) := by rw [nI_leI (by omega) (by omega), nI_leI (by omega) (by omega)]
      refine ⟨(), (), va_up (va_up c' 105 (upd (c' 105) i (nI (y i)))) 104 (upd (c' 104) i (nI (clN st h k n i))), m, fun m0 => ?_, fun c0 => ?_, fun r a b => ?_, fun j hj => ?_, fun j hj => ?_, rfl⟩
      · conv => lhs; rw [bh_Thought_wantedSet_4]
        by_cases z : s i ≤ hr ∧ hr ≤ t i
        · have zz := ec.mpr z
          rw [setN_t (p := fun i => decide (s i ≤ hr ∧ hr ≤ t i)) (decide_eq_true z)]
          simp (disch := first | assumption | omega | decide | (simp only [ma_wd0, ma_wdi, ma_wdr, ma_wdl, ma_wdn] <;> omega)) only [↓reduceIte, evK, evL, evS, evA, evJ, Option.bind_some, Option.toList, List.cons_append, List.nil_append, nI_add, pk_mul, bI0, ite_not, ev_rbb, up_n, up_s, up_u, pk_us, pk_un, Nat.reduceAdd, nI_ltT, nI_ltF, nI_leT, nI_leF, nI_eqT, nI_eqF, bk_Thought_wantedSet, gfC, r15, ce_Rows_cell, cell, stC, ce_Thought_clashesOf, cl, ce_Told_isWanted, iw, zz, and_self, not_true_eq_false, n_sh, n_or]
        · have zz : ¬ (nI (s i) ≤ nI hr ∧ nI hr ≤ nI (t i)) := fun q => z (ec.mp q)
          rw [setN_f (p := fun i => decide (s i ≤ hr ∧ hr ≤ t i)) (by rw [decide_eq_true_eq]; exact z)]
          simp (disch := first | assumption | omega | decide | (simp only [ma_wd0, ma_wdi, ma_wdr, ma_wdl, ma_wdn] <;> omega)) only [↓reduceIte, evK, evL, evS, evA, evJ, Option.bind_some, Option.toList, List.cons_append, List.nil_append, nI_add, pk_mul, bI0, ite_not, ev_rbb, up_n, up_s, up_u, pk_us, pk_un, Nat.reduceAdd, nI_ltT, nI_ltF, nI_leT, nI_leF, nI_eqT, nI_eqF, bk_Thought_wantedSet, gfC, r15, ce_Rows_cell, cell, stC, ce_Thought_clashesOf, cl, ce_Told_isWanted, iw, zz, not_false_eq_true, n_or0]
      · conv => lhs; rw [bh_MO_meets_33]
        by_cases z : s i ≤ hr ∧ hr ≤ t i
        · have zz := ec.mpr z
          rw [setN_t (p := fun i => decide (s i ≤ hr ∧ hr ≤ t i)) (decide_eq_true z)]
          simp (disch := first | assumption | omega | decide | (simp only [ma_wd0, ma_wdi, ma_wdr, ma_wdl, ma_wdn] <;> omega)) only [↓reduceIte, evK, evL, evS, evA, evJ, Option.bind_some, Option.toList, List.cons_append, List.nil_append, nI_add, pk_mul, bI0, ite_not, ev_rbb, up_n, up_s, up_u, pk_us, pk_un, Nat.reduceAdd, nI_ltT, nI_ltF, nI_leT, nI_leF, nI_eqT, nI_eqF, bk_MO_meets, gfM, h40, ce_MO_isWantedAt, im, zz, and_self, not_true_eq_false, n_sh, n_or]
        · have zz : ¬ (nI (s i) ≤ nI hr ∧ nI hr ≤ nI (t i)) := fun q => z (ec.mp q)
          rw [setN_f (p := fun i => decide (s i ≤ hr ∧ hr ≤ t i)) (by rw [decide_eq_true_eq]; exact z)]
          simp (disch := first | assumption | omega | decide | (simp only [ma_wd0, ma_wdi, ma_wdr, ma_wdl, ma_wdn] <;> omega)) only [↓reduceIte, evK, evL, evS, evA, evJ, Option.bind_some, Option.toList, List.cons_append, List.nil_append, nI_add, pk_mul, bI0, ite_not, ev_rbb, up_n, up_s, up_u, pk_us, pk_un, Nat.reduceAdd, nI_ltT, nI_ltF, nI_leT, nI_leF, nI_eqT, nI_eqF, bk_MO_meets, gfM, h40, ce_MO_isWantedAt, im, zz, not_false_eq_true]
      · rw [up_n _ _ _ _ a, up_n _ _ _ _ b]; exact hfr r a b
      · rw [up_s]
        by_cases e : j = i
        · subst e; exact pk_us
        · rw [pk_un e]; exact h4 j (by omega)
      · rw [up_n _ _ _ _ (by omega), up_s]
        by_cases e : j = i
        · subst e; exact pk_us
        · rw [pk_un e]; exact h5' j (by omega)) n 0 () () c m (by omega) ⟨fun _ _ _ => rfl, fun j hj => by omega, fun j hj => by omega, rfl⟩
  refine ⟨setN (fun i => decide (s i ≤ hr ∧ hr ≤ t i)) n, c', setN_lt _ _, fun m0 => ?_, fun c0 => (e2 c0).trans ?_, hfr, h4, h5'⟩
  · have r15 : c' 15 0 = nI n := by rw [hfr 15 (by omega) (by omega)]; exact h15
    rw [show setN (fun i => decide (s i ≤ hr ∧ hr ≤ t i)) 0 = 0 from rfl] at e1
    simp (disch := first | assumption | omega | decide | (simp only [ma_wd0, ma_wdi, ma_wdr, ma_wdl, ma_wdn] <;> omega)) only [↓reduceIte, evK, evL, evS, evA, evJ, Option.bind_some, Option.toList, List.cons_append, List.nil_append, nI_add, pk_mul, bI0, ite_not, ev_rbb, up_n, up_s, up_u, pk_us, pk_un, Nat.reduceAdd, nI_ltT, nI_ltF, nI_leT, nI_leF, nI_eqT, nI_eqF, en_Thought_wantedSet, e1]
    rw [bh_Thought_wantedSet_4]
    simp (disch := first | assumption | omega | decide | (simp only [ma_wd0, ma_wdi, ma_wdr, ma_wdl, ma_wdn] <;> omega)) only [↓reduceIte, evK, evL, evS, evA, evJ, Option.bind_some, Option.toList, List.cons_append, List.nil_append, nI_add, pk_mul, bI0, ite_not, ev_rbb, up_n, up_s, up_u, pk_us, pk_un, Nat.reduceAdd, nI_ltT, nI_ltF, nI_leT, nI_leF, nI_eqT, nI_eqF, bk_Thought_wantedSet, gfC, r15]
  · conv => lhs; rw [bh_MO_meets_33]
    simp (disch := first | assumption | omega | decide | (simp only [ma_wd0, ma_wdi, ma_wdr, ma_wdl, ma_wdn] <;> omega)) only [↓reduceIte, evK, evL, evS, evA, evJ, Option.bind_some, Option.toList, List.cons_append, List.nil_append, nI_add, pk_mul, bI0, ite_not, ev_rbb, up_n, up_s, up_u, pk_us, pk_un, Nat.reduceAdd, nI_ltT, nI_ltF, nI_leT, nI_leF, nI_eqT, nI_eqF, gfM, h40]
theorem t_lowest (d v b : Nat) (hv : v < 2 ^ 12) (hb : b < 12) (hvb : v.testBit b = true) (h : List ma_C) : ∀ q i, i + q = b → (∀ j, i ≤ j → j < b → v.testBit j = false) → ev sc d 97 (pm_blk 97 2) [some (.int (nI v)), some (.int (nI i))] [] h = some (some (.int (nI b)), h)
  | 0, i, hi, hj => by
    have : i = b := by omega
    subst this
    rw [bh_Thought_lowest_2]
    simp (disch := first | assumption | omega | decide | (simp only [ma_wd0, ma_wdi, ma_wdr, ma_wdl, ma_wdn] <;> omega)) only [↓reduceIte, evK, evL, evS, evA, evJ, Option.bind_some, Option.toList, List.cons_append, List.nil_append, nI_add, pk_mul, bI0, ite_not, ev_rbb, up_n, up_s, up_u, pk_us, pk_un, Nat.reduceAdd, nI_ltT, nI_ltF, nI_leT, nI_leF, nI_eqT, nI_eqF, bk_Thought_lowest, n_bit, hvb]
  | q + 1, i, hi, hj => by
    have ih := t_lowest d v b hv hb hvb h q (i + 1) (by omega) (fun j a c => hj j (by omega) c)
    have hz := hj i (Nat.le_refl _) (by omega)
    rw [bh_Thought_lowest_2]
    simp (disch := first | assumption | omega | decide | (simp only [ma_wd0, ma_wdi, ma_wdr, ma_wdl, ma_wdn] <;> omega)) only [↓reduceIte, evK, evL, evS, evA, evJ, Option.bind_some, Option.toList, List.cons_append, List.nil_append, nI_add, pk_mul, bI0, ite_not, ev_rbb, up_n, up_s, up_u, pk_us, pk_un, Nat.reduceAdd, nI_ltT, nI_ltF, nI_leT, nI_leF, nI_eqT, nI_eqF, bk_Thought_lowest, n_bit, hz, Bool.false_eq_true, ih]
/-- the reference's inner loop: the first behind a with which it clashes -/
theorem t_pair_in (d wh F a : Nat) (x1 : Option Value) (hF2 : F < 2 ^ n) (ha : a < n) (hwh : wh = 2 ∨ wh = 3) (hn : n ≤ 12) (hF : wF n Q W c m p h s t y k) (hW : W ≤ 14) (hQ : Q ≤ 6) (hst : st ≤ 9) (h7 : m 138 7 + nI 3 = nI st) (h40 : m 138 40 = nI n) : ∀ q b, b + q = n →
    (F.testBit a = true ∧ ∃ b', b ≤ b' ∧ b' < n ∧ (clN st h k n a &&& F).testBit b' = true ∧ (∀ j, b ≤ j → j < b' → (clN st h k n a &&& F).testBit j = false) ∧ ∀ c0, ev sc (d + 2) 255 (pm_blk 255 88) [some (.ref 138), x1, some (.int (nI wh)), some (.int (nI F)), some (.int (nI a)), some (.int (nI b))] [] (hp c0 w m) = some (some (.int (if wh = 2 then nI a else nI b')), hp c0 w m)) ∨
    ((F.testBit a = true → ∀ j, b ≤ j → (clN st h k n a &&& F).testBit j = false) ∧ ∀ c0, ev sc (d + 2) 255 (pm_blk 255 88) [some (.ref 138), x1, some (.int (nI wh)), some (.int (nI F)), some (.int (nI a)), some (.int (nI b))] [] (hp c0 w m) = ev sc (d + 2) 255 (pm_blk 255 73) [some (.ref 138), x1, some (.int (nI wh)), some (.int (nI F)), some (.int (nI (a + 1))), some (.int (nI n))] [] (hp c0 w m))
  | 0, b, hb => by
    refine Or.inr ⟨fun _ j hj => ?_, fun c0 => ?_⟩
    · rw [Nat.testBit_and, Nat.testBit_lt_two_pow (x := F) (Nat.lt_of_lt_of_le hF2 (Nat.pow_le_pow_right (by decide) (by omega)))]
      simp
    · have : b = n := by omega
      subst this
      conv => lhs; rw [bh_MO_meets_88]
      simp (disch := first | assumption | omega | decide | (simp only [ma_wd0, ma_wdi, ma_wdr, ma_wdl, ma_wdn] <;> omega)) only [↓reduceIte, evK, evL, evS, evA, evJ, Option.bind_some, Option.toList, List.cons_append, List.nil_append, nI_add, pk_mul, bI0, ite_not, ev_rbb, up_n, up_s, up_u, pk_us, pk_un, Nat.reduceAdd, nI_ltT, nI_ltF, nI_leT, nI_leF, nI_eqT, nI_eqF, bk_MO_meets, gfM, h40]
  | q + 1, b, hb => by
    have hF31 : F < 2 ^ 31 := Nat.lt_of_lt_of_le hF2 (Nat.pow_le_pow_right (by decide) (by omega))
    have ih := t_pair_in d wh F a x1 hF2 ha hwh hn hF hW hQ hst h7 h40 q (b + 1) (by omega)
    have cm := t_MO_canMeet (sc := sc) (w := w) d a b ha (by omega) hn hF hW hQ hst h7
    have eb : (clN st h k n a).testBit b = !okN st h k a b := by
      rw [clN_bit]
      have e1 : decide (a < n) = true := by simp; omega
      have e2 : decide (b < n) = true := by simp; omega
      rw [e1, e2]
      rfl
    by_cases z1 : F.testBit a = true
    · by_cases z : F.testBit b = true ∧ okN st h k a b = false
      · obtain ⟨z2, z3⟩ := z
        refine Or.inl ⟨z1, b, Nat.le_refl _, by omega, by rw [Nat.testBit_and, eb, z2, z3]; rfl, fun j a b => by omega, fun c0 => ?_⟩
        conv => lhs; rw [bh_MO_meets_88]
        rcases hwh with rfl | rfl
        · simp (disch := first | assumption | omega | decide | (simp only [ma_wd0, ma_wdi, ma_wdr, ma_wdl, ma_wdn] <;> omega)) only [↓reduceIte, evK, evL, evS, evA, evJ, Option.bind_some, Option.toList, List.cons_append, List.nil_append, nI_add, pk_mul, bI0, ite_not, ev_rbb, up_n, up_s, up_u, pk_us, pk_un, Nat.reduceAdd, nI_ltT, nI_ltF, nI_leT, nI_leF, nI_eqT, nI_eqF, bk_MO_meets, gfM, h40, ce_MO_has, t_MO_has, n_bit, z1, z2, z3, not_true_eq_false, not_false_eq_true, Bool.false_eq_true, ce_MO_canMeet, cm]
        · simp (disch := first | assumption | omega | decide | (simp only [ma_wd0, ma_wdi, ma_wdr, ma_wdl, ma_wdn] <;> omega)) only [↓reduceIte, evK, evL, evS, evA, evJ, Option.bind_some, Option.toList, List.cons_append, List.nil_append, nI_add, pk_mul, bI0, ite_not, ev_rbb, up_n, up_s, up_u, pk_us, pk_un, Nat.reduceAdd, nI_ltT, nI_ltF, nI_leT, nI_leF, nI_eqT, nI_eqF, bk_MO_meets, gfM, h40, ce_MO_has, t_MO_has, n_bit, z1, z2, z3, not_true_eq_false, not_false_eq_true, Bool.false_eq_true, ce_MO_canMeet, cm, Nat.reduceEqDiff]
      · have hz : (clN st h k n a &&& F).testBit b = false := by
          rw [Nat.testBit_and, eb]
          cases e1 : F.testBit b
          · simp
          · cases e2 : okN st h k a b
            · exact absurd ⟨e1, e2⟩ z
            · rfl
        have es : ∀ c0, ev sc (d + 2) 255 (pm_blk 255 88) [some (.ref 138), x1, some (.int (nI wh)), some (.int (nI F)), some (.int (nI a)), some (.int (nI b))] [] (hp c0 w m) = ev sc (d + 2) 255 (pm_blk 255 88) [some (.ref 138), x1, some (.int (nI wh)), some (.int (nI F)), some (.int (nI a)), some (.int (nI (b + 1)))] [] (hp c0 w m) := by
          intro c0
          conv => lhs; rw [bh_MO_meets_88]
          by_cases z2 : F.testBit b = true
          · have z3 : okN st h k a b = true := by
              cases e : okN st h k a b
              · exact absurd ⟨z2, e⟩ z
              · rfl
            simp (disch := first | assumption | omega | decide | (simp only [ma_wd0, ma_wdi, ma_wdr, ma_wdl, ma_wdn] <;> omega)) only [↓reduceIte, evK, evL, evS, evA, evJ, Option.bind_some, Option.toList, List.cons_append, List.nil_append, nI_add, pk_mul, bI0, ite_not, ev_rbb, up_n, up_s, up_u, pk_us, pk_un, Nat.reduceAdd, nI_ltT, nI_ltF, nI_leT, nI_leF, nI_eqT, nI_eqF, bk_MO_meets, gfM, h40, ce_MO_has, t_MO_has, n_bit, z1, z2, z3, not_true_eq_false, ce_MO_canMeet, cm]
          · simp (disch := first | assumption | omega | decide | (simp only [ma_wd0, ma_wdi, ma_wdr, ma_wdl, ma_wdn] <;> omega)) only [↓reduceIte, evK, evL, evS, evA, evJ, Option.bind_some, Option.toList, List.cons_append, List.nil_append, nI_add, pk_mul, bI0, ite_not, ev_rbb, up_n, up_s, up_u, pk_us, pk_un, Nat.reduceAdd, nI_ltT, nI_ltF, nI_leT, nI_leF, nI_eqT, nI_eqF, bk_MO_meets, gfM, h40, ce_MO_has, t_MO_has, n_bit, z1, z2, not_true_eq_false, not_false_eq_true, Bool.false_eq_true]
        rcases ih with ⟨q1, b', q2, q3, q4, q5, q6⟩ | ⟨q1, q2⟩
        · exact Or.inl ⟨q1, b', by omega, q3, q4, fun j a c => by
            by_cases e : j = b
            · rw [e]; exact hz
            · exact q5 j (by omega) c, fun c0 => (es c0).trans (q6 c0)⟩
        · exact Or.inr ⟨fun q j hj => by
            by_cases e : j = b
            · rw [e]; exact hz
            · exact q1 q j (by omega), fun c0 => (es c0).trans (q2 c0)⟩
    · have es : ∀ c0, ev sc (d + 2) 255 (pm_blk 255 88) [some (.ref 138), x1, some (.int (nI wh)), some (.int (nI F)), some (.int (nI a)), some (.int (nI b))] [] (hp c0 w m) = ev sc (d + 2) 255 (pm_blk 255 88) [some (.ref 138), x1, some (.int (nI wh)), some (.int (nI F)), some (.int (nI a)), some (.int (nI (b + 1)))] [] (hp c0 w m) := by
        intro c0
        conv => lhs; rw [bh_MO_meets_88]
        simp (disch := first | assumption | omega | decide | (simp only [ma_wd0, ma_wdi, ma_wdr, ma_wdl, ma_wdn] <;> omega)) only [↓reduceIte, evK, evL, evS, evA, evJ, Option.bind_some, Option.toList, List.cons_append, List.nil_append, nI_add, pk_mul, bI0, ite_not, ev_rbb, up_n, up_s, up_u, pk_us, pk_un, Nat.reduceAdd, nI_ltT, nI_ltF, nI_leT, nI_leF, nI_eqT, nI_eqF, bk_MO_meets, gfM, h40, ce_MO_has, t_MO_has, n_bit, z1, not_false_eq_true, Bool.false_eq_true]
      rcases ih with ⟨q1, -⟩ | ⟨q1, q2⟩
      · exact absurd q1 z1
      · exact Or.inr ⟨fun q => absurd q z1, fun c0 => (es c0).trans (q2 c0)⟩
theorem j_pairs (d d' wh F : Nat) (x1 : Option Value) (hF2 : F < 2 ^ n) (hwh : wh = 2 ∨ wh = 3) (hn : n ≤ 12) (hF : wF n Q W c m p h s t y k) (hW : W ≤ 14) (hQ : Q ≤ 6) (hst : st ≤ 9) (h7 : m 138 7 + nI 3 = nI st) (h40 : m 138 40 = nI n) (h15 : c 15 0 = nI n) (h104 : ∀ j, j < n → c 104 j = nI (clN st h k n j)) : ∀ q a (u u' : Option Value), a + q = n → (∀ a', a' < a → F.testBit a' = true → clN st h k n a' &&& F = 0) → ∃ r,
    (∀ m0, ev sc (d' + 1) 96 (pm_blk 96 2) [some (.ref 103), some (.int (nI F)), some (.int (if wh = 2 then nI 1 else nI 0)), some (.int (nI a)), u] [] (hp c w m0) = some (some (.int r), hp c w m0)) ∧ (∀ c0, ev sc (d + 2) 255 (pm_blk 255 73) [some (.ref 138), x1, some (.int (nI wh)), some (.int (nI F)), some (.int (nI a)), u'] [] (hp c0 w m) = some (some (.int r), hp c0 w m))
  | 0, a, u, u', ha, hz => by
    refine ⟨-1, fun m0 => ?_, fun c0 => ?_⟩
    · rw [bh_Thought_firstClash_2]
      simp (disch := first | assumption | omega | decide | (simp only [ma_wd0, ma_wdi, ma_wdr, ma_wdl, ma_wdn] <;> omega)) only [↓reduceIte, evK, evL, evS, evA, evJ, Option.bind_some, Option.toList, List.cons_append, List.nil_append, nI_add, pk_mul, bI0, ite_not, ev_rbb, up_n, up_s, up_u, pk_us, pk_un, Nat.reduceAdd, nI_ltT, nI_ltF, nI_leT, nI_leF, nI_eqT, nI_eqF, bk_Thought_firstClash, gfC, h15]
    · rw [bh_MO_meets_73]
      simp (disch := first | assumption | omega | decide | (simp only [ma_wd0, ma_wdi, ma_wdr, ma_wdl, ma_wdn] <;> omega)) only [↓reduceIte, evK, evL, evS, evA, evJ, Option.bind_some, Option.toList, List.cons_append, List.nil_append, nI_add, pk_mul, bI0, ite_not, ev_rbb, up_n, up_s, up_u, pk_us, pk_un, Nat.reduceAdd, nI_ltT, nI_ltF, nI_leT, nI_leF, nI_eqT, nI_eqF, bk_MO_meets, gfM, h40]
  | q + 1, a, u, u', ha, hz => by
    have hF12 : F < 2 ^ 12 := Nat.lt_of_lt_of_le hF2 (Nat.pow_le_pow_right (by decide) (by omega))
    have hF31 : F < 2 ^ 31 := by omega
    have c4 := h104 a (by omega)
    have I := t_pair_in (sc := sc) (w := w) d wh F a x1 hF2 (by omega) hwh hn hF hW hQ hst h7 h40 (n - (a + 1)) (a + 1) (by omega)
    have hv12 : clN st h k n a &&& F < 2 ^ 12 := Nat.lt_of_le_of_lt Nat.and_le_right hF12
    have low : F.testBit a = true → ∀ j, j ≤ a → (clN st h k n a &&& F).testBit j = false := fun hb j hj => by
      rw [Nat.testBit_and]
      by_cases e : j = a
      · rw [e, clN_ir]; rfl
      · cases e1 : F.testBit j
        · simp
        · have := hz j (by omega) e1
          have hh := congrArg (fun v => Nat.testBit v a) this
          simp only [Nat.testBit_and, Nat.zero_testBit] at hh
          rw [hb, clN_sy] at hh
          simpa using hh
    rcases I with ⟨hb, b', i1, i2, i3, i4, i5⟩ | ⟨i1, i2⟩
    · have hne : clN st h k n a &&& F ≠ 0 := fun z => by rw [z] at i3; simp at i3
      refine ⟨if wh = 2 then nI a else nI b', fun m0 => ?_, fun c0 => ?_⟩
      · have lw := t_lowest (sc := sc) d' (clN st h k n a &&& F) b' hv12 (by omega) i3 (hp c w m0) b' 0 (by omega) (fun j _ hj => by
          rcases Nat.lt_or_ge a j with z | z
          · exact i4 j (by omega) hj
          · exact low hb j z)
        rw [bh_Thought_firstClash_2]
        rcases hwh with rfl | rfl
        · simp (disch := first | assumption | omega | decide | (simp only [ma_wd0, ma_wdi, ma_wdr, ma_wdl, ma_wdn] <;> omega)) only [↓reduceIte, evK, evL, evS, evA, evJ, Option.bind_some, Option.toList, List.cons_append, List.nil_append, nI_add, pk_mul, bI0, ite_not, ev_rbb, up_n, up_s, up_u, pk_us, pk_un, Nat.reduceAdd, nI_ltT, nI_ltF, nI_leT, nI_leF, nI_eqT, nI_eqF, bk_Thought_firstClash, gfC, ldC, h15, c4, n_and, n_bit, hb]
        · simp (disch := first | assumption | omega | decide | (simp only [ma_wd0, ma_wdi, ma_wdr, ma_wdl, ma_wdn] <;> omega)) only [↓reduceIte, evK, evL, evS, evA, evJ, Option.bind_some, Option.toList, List.cons_append, List.nil_append, nI_add, pk_mul, bI0, ite_not, ev_rbb, up_n, up_s, up_u, pk_us, pk_un, Nat.reduceAdd, nI_ltT, nI_ltF, nI_leT, nI_leF, nI_eqT, nI_eqF, bk_Thought_firstClash, gfC, ldC, h15, c4, n_and, n_bit, hb, Nat.reduceEqDiff, ce_Thought_lowest, en_Thought_lowest, lw]
      · rw [bh_MO_meets_73]
        have i5 := i5 c0
        simp (disch := first | assumption | omega | decide | (simp only [ma_wd0, ma_wdi, ma_wdr, ma_wdl, ma_wdn] <;> omega)) only [↓reduceIte, evK, evL, evS, evA, evJ, Option.bind_some, Option.toList, List.cons_append, List.nil_append, nI_add, pk_mul, bI0, ite_not, ev_rbb, up_n, up_s, up_u, pk_us, pk_un, Nat.reduceAdd, nI_ltT, nI_ltF, nI_leT, nI_leF, nI_eqT, nI_eqF, bk_MO_meets, gfM, h40, i5]
    · have hz2 : ∀ a', a' < a + 1 → F.testBit a' = true → clN st h k n a' &&& F = 0 := fun a' h1 h2 => by
        by_cases e : a' = a
        · subst e
          apply Nat.eq_of_testBit_eq
          intro j
          rw [Nat.zero_testBit]
          rcases Nat.lt_or_ge a' j with z | z
          · exact i1 h2 j (by omega)
          · exact low h2 j z
        · exact hz a' (by omega) h2
      obtain ⟨r, e1, e2⟩ := j_pairs d d' wh F x1 hF2 hwh hn hF hW hQ hst h7 h40 h15 h104 q (a + 1) (some (.int (nI (clN st h k n a &&& F)))) (some (.int (nI n))) (by omega) hz2
      refine ⟨r, fun m0 => ?_, fun c0 => ?_⟩
      · rw [bh_Thought_firstClash_2]
        have e1 := e1 m0
        by_cases hb : F.testBit a = true
        · have hv0 := hz2 a (by omega) hb
          rw [hv0] at e1
          simp (disch := first | assumption | omega | decide | (simp only [ma_wd0, ma_wdi, ma_wdr, ma_wdl, ma_wdn] <;> omega)) only [↓reduceIte, evK, evL, evS, evA, evJ, Option.bind_some, Option.toList, List.cons_append, List.nil_append, nI_add, pk_mul, bI0, ite_not, ev_rbb, up_n, up_s, up_u, pk_us, pk_un, Nat.reduceAdd, nI_ltT, nI_ltF, nI_leT, nI_leF, nI_eqT, nI_eqF, bk_Thought_firstClash, gfC, ldC, h15, c4, n_and, n_bit, hb, hv0, e1]
        · simp (disch := first | assumption | omega | decide | (simp only [ma_wd0, ma_wdi, ma_wdr, ma_wdl, ma_wdn] <;> omega)) only [↓reduceIte, evK, evL, evS, evA, evJ, Option.bind_some, Option.toList, List.cons_append, List.nil_append, nI_add, pk_mul, bI0, ite_not, ev_rbb, up_n, up_s, up_u, pk_us, pk_un, Nat.reduceAdd, nI_ltT, nI_ltF, nI_leT, nI_leF, nI_eqT, nI_eqF, bk_Thought_firstClash, gfC, ldC, h15, c4, n_and, n_bit, hb, Bool.false_eq_true, e1]
      · rw [bh_MO_meets_73]
        have i2 := i2 c0
        have e2 := e2 c0
        simp (disch := first | assumption | omega | decide | (simp only [ma_wd0, ma_wdi, ma_wdr, ma_wdl, ma_wdn] <;> omega)) only [↓reduceIte, evK, evL, evS, evA, evJ, Option.bind_some, Option.toList, List.cons_append, List.nil_append, nI_add, pk_mul, bI0, ite_not, ev_rbb, up_n, up_s, up_u, pk_us, pk_un, Nat.reduceAdd, nI_ltT, nI_ltF, nI_leT, nI_leF, nI_eqT, nI_eqF, bk_MO_meets, gfM, h40, i2, e2]
theorem sub_le {T F : Nat} (h : clr T F = 0) : T ≤ F := by
  have : T = T &&& F := by
    apply Nat.eq_of_testBit_eq
    intro i
    have hh := congrArg (fun v => Nat.testBit v i) h
    simp only [clr_bit, Nat.zero_testBit] at hh
    rw [Nat.testBit_and]
    cases e1 : T.testBit i <;> cases e2 : F.testBit i <;> simp_all
  rw [this]
  exact Nat.and_le_right
theorem in_iff {T F : Nat} (hF : F < 2 ^ n) : inN n F T ↔ clr T F = 0 := by
  constructor
  · intro g
    apply Nat.eq_of_testBit_eq
    intro i
    rw [clr_bit, Nat.zero_testBit]
    cases e : T.testBit i
    · rfl
    · rw [(g i e).2]; rfl
  · intro g i hi
    have hh := congrArg (fun v => Nat.testBit v i) g
    simp only [clr_bit, Nat.zero_testBit, hi] at hh
    have h2 : F.testBit i = true := by simpa using hh
    refine ⟨?_, h2⟩
    rcases Nat.lt_or_ge i n with z | z
    · exact z
    · rw [Nat.testBit_lt_two_pow (Nat.lt_of_lt_of_le hF (Nat.pow_le_pow_right (by decide) z))] at h2
      cases h2
theorem t_bestLoop (d wh F : Nat) (x1 : Option Value) (hF2 : F < 2 ^ n) (hn : n ≤ 12) (hF : wF n Q W c m p h s t y k) (hy : ∀ i, y i ≤ 99) (hW : W ≤ 14) (hQ : Q ≤ 6) (hst : st ≤ 9) (h7 : m 138 7 + nI 3 = nI st) (h40 : m 138 40 = nI n) : ∃ B, (∀ c0, ev sc (d + 3) 255 (pm_blk 255 161) [some (.ref 138), x1, some (.int (nI wh)), some (.int (nI F)), some (.int (nI 0)), some (.int (nI 1))] [] (hp c0 w m) = ev sc (d + 3) 255 (pm_blk 255 161) [some (.ref 138), x1, some (.int (nI wh)), some (.int (nI F)), some (.int (nI B)), some (.int (nI (F + 1)))] [] (hp c0 w m)) ∧ inN n F B ∧ cfN (clN st h k n) B ∧ ∀ T, inN n F T → cfN (clN st h k n) T → pdN y n T ≤ pdN y n B ∧ (pdN y n T = pdN y n B → B ≤ T) := by
  have hF12 : F < 2 ^ 12 := Nat.lt_of_lt_of_le hF2 (Nat.pow_le_pow_right (by decide) (by omega))
  obtain ⟨-, B, -, m', -, e2, b1, b2, b3, b4, rfl⟩ := sim_loop (w := w) (F + 1) (fun i (s : Unit) h => (none : Option (Option Value × List ma_C)))
    (fun i (B : Nat) h => ev sc (d + 3) 255 (pm_blk 255 161) [some (.ref 138), x1, some (.int (nI wh)), some (.int (nI F)), some (.int (nI B)), some (.int (nI i))] [] h)
    (fun i s B c' m' => inN n F B ∧ cfN (clN st h k n) B ∧ (∀ T, T < i → inN n F T → cfN (clN st h k n) T → pdN y n T ≤ pdN y n B ∧ (pdN y n T = pdN y n B → B ≤ T)) ∧ B < i ∧ m = m') (by
      rintro i u B c' m' hi ⟨b1, b2, b3, b4, rfl⟩
      have hB : B < 2 ^ 12 := by omega
      have hi12 : i < 2 ^ 12 := by omega
      have p1 := t_MO_paidBy (sc := sc) (w := w) (d + 1) i hi12 hn hF hy h40
      have p2 := t_MO_paidBy (sc := sc) (w := w) (d + 1) B hB hn hF hy h40
      have ca := t_MO_canAllMeet (sc := sc) (w := w) d i hi12 hn hF hW hQ hst h7 h40
      have l1 := pdN_le hy n i
      have l2 := pdN_le hy n B
      have hcl : clr i F < 2 ^ 31 := by have := clr_lt (b := F) hi12; omega
      by_cases z : clr i F = 0 ∧ pdN y n B < pdN y n i ∧ caB st h k n i = true
      · obtain ⟨z1, z2, z3⟩ := z
        have hin : inN n F i := (in_iff hF2).mpr z1
        refine ⟨(), i, c', m, fun _ => rfl, fun c0 => ?_, hin, (caB_iff (inN_lt hin)).mp z3, fun T hT g1 g2 => ?_, by omega, rfl⟩
        · conv => lhs; rw [bh_MO_meets_161]
          simp (disch := first | assumption | omega | decide | (simp only [ma_wd0, ma_wdi, ma_wdr, ma_wdl, ma_wdn] <;> omega)) only [↓reduceIte, evK, evL, evS, evA, evJ, Option.bind_some, Option.toList, List.cons_append, List.nil_append, nI_add, pk_mul, bI0, ite_not, ev_rbb, up_n, up_s, up_u, pk_us, pk_un, Nat.reduceAdd, nI_ltT, nI_ltF, nI_leT, nI_leF, nI_eqT, nI_eqF, bk_MO_meets, n_clr, z1, ce_MO_paidBy, p1, p2, ce_MO_canAllMeet, ca, z3, not_true_eq_false]
        · by_cases e : T = i
          · subst e; exact ⟨Nat.le_refl _, fun _ => Nat.le_refl _⟩
          · have := b3 T (by omega) g1 g2
            exact ⟨by omega, fun q => by omega⟩
      · refine ⟨(), B, c', m, fun _ => rfl, fun c0 => ?_, b1, b2, fun T hT g1 g2 => ?_, by omega, rfl⟩
        · conv => lhs; rw [bh_MO_meets_161]
          by_cases z1 : clr i F = 0
          · by_cases z2 : pdN y n B < pdN y n i
            · have z3 : ¬ caB st h k n i = true := fun q => z ⟨z1, z2, q⟩
              simp (disch := first | assumption | omega | decide | (simp only [ma_wd0, ma_wdi, ma_wdr, ma_wdl, ma_wdn] <;> omega)) only [↓reduceIte, evK, evL, evS, evA, evJ, Option.bind_some, Option.toList, List.cons_append, List.nil_append, nI_add, pk_mul, bI0, ite_not, ev_rbb, up_n, up_s, up_u, pk_us, pk_un, Nat.reduceAdd, nI_ltT, nI_ltF, nI_leT, nI_leF, nI_eqT, nI_eqF, bk_MO_meets, n_clr, z1, ce_MO_paidBy, p1, p2, ce_MO_canAllMeet, ca, z3, not_false_eq_true, Bool.false_eq_true]
            · simp (disch := first | assumption | omega | decide | (simp only [ma_wd0, ma_wdi, ma_wdr, ma_wdl, ma_wdn] <;> omega)) only [↓reduceIte, evK, evL, evS, evA, evJ, Option.bind_some, Option.toList, List.cons_append, List.nil_append, nI_add, pk_mul, bI0, ite_not, ev_rbb, up_n, up_s, up_u, pk_us, pk_un, Nat.reduceAdd, nI_ltT, nI_ltF, nI_leT, nI_leF, nI_eqT, nI_eqF, bk_MO_meets, n_clr, z1, ce_MO_paidBy, p1, p2]
          · simp (disch := first | assumption | omega | decide | (simp only [ma_wd0, ma_wdi, ma_wdr, ma_wdl, ma_wdn] <;> omega)) only [↓reduceIte, evK, evL, evS, evA, evJ, Option.bind_some, Option.toList, List.cons_append, List.nil_append, nI_add, pk_mul, bI0, ite_not, ev_rbb, up_n, up_s, up_u, pk_us, pk_un, Nat.reduceAdd, nI_ltT, nI_ltF, nI_leT, nI_leF, nI_eqT, nI_eqF, bk_MO_meets, n_clr]
        · by_cases e : T = i
          · subst e
            have z1 := (in_iff hF2).mp g1
            have z3 := (caB_iff (inN_lt g1)).mpr g2
            have z2 : ¬ pdN y n B < pdN y n T := fun q => z ⟨z1, q, z3⟩
            exact ⟨by omega, fun _ => by omega⟩
          · exact b3 T (by omega) g1 g2) F 1 () 0 c m (by omega) ⟨fun i hi => by simp at hi, fun a b ha => by simp at ha, fun T hT _ _ => by
        have : T = 0 := by omega
        subst this
        exact ⟨Nat.le_refl _, fun _ => Nat.le_refl _⟩, by omega, rfl⟩
  exact ⟨B, e2, b1, b2, fun T g1 g2 => b3 T (by have := sub_le ((in_iff hF2).mp g1); omega) g1 g2⟩
theorem p_meets (d : Nat) (a b : Int32) (h : gR c m) : pub sc w (d + 20) 26 255 [.int a, .int b] c m := by
  obtain ⟨W, S, Q, ls, Z, g⟩ := h.e
  have hq0 := h.q0
  obtain ⟨t0, j0, -, -, -⟩ := g.q0
  generalize hm1 : va_up m 138 (upd (m 138) 0 (nI 0)) = m1 at t0 j0 hq0
  have hW := t0.1.2.2.2
  obtain ⟨st, gu, st1, st9, gu1, g1, g2, -, -⟩ := t0.2.2.2.2.1
  obtain ⟨q1, q2, hQ, hq⟩ := t0.2.2.2.1
  obtain ⟨n, hn, n1, n2, hw⟩ := t0.2.2.2.2.2.2.2
  obtain ⟨p, hh, s, tt, y, k, hF, hy⟩ := wF_ex hW hQ hw hq
  by_cases h1 : nI 0 ≤ a ∧ a ≤ nI 23
  · obtain ⟨hr, -, hhr, rfl⟩ := rng (by omega) h1.1 h1.2 (by omega)
    by_cases h2 : nI 0 ≤ b ∧ b ≤ nI 3
    · obtain ⟨wh, -, hwh, rfl⟩ := rng (by omega) h2.1 h2.2 (by omega)
      obtain ⟨F, c1, hF2, E1, E2, fr1, r104, r105⟩ := j_wanted (sc := sc) (w := w) (d + 14) (d + 18) hr (some (.int (nI wh))) none (by omega) hn hF hW hQ st9 n1 q1 g1 t0.1.2.1 n2
      have E2' := E2
      have hF1 : wF n Q W c1 m1 p hh s tt y k := fun j hj => by rw [fr1 16 (by omega) (by omega), fr1 3 (by omega) (by omega)]; exact hF j hj
      have r15 : c1 15 0 = nI n := by rw [fr1 15 (by omega) (by omega)]; exact n1
      have hg : gR c1 m1 := hq0.q (fun k hk => fr1 k (by omega) (by omega)) (fun _ _ => rfl) (fun _ _ => rfl)
      have hF12 : F < 2 ^ 12 := Nat.lt_of_lt_of_le hF2 (Nat.pow_le_pow_right (by decide) (by omega))
      by_cases h3 : 2 ≤ wh
      · obtain ⟨r, R1, R2⟩ := j_pairs (sc := sc) (w := w) (d + 18) (d + 17) wh F (some (.int (nI hr))) hF2 (by omega) hn hF1 hW hQ st9 g2 n2 r15 r104 n 0 none none (by omega) (fun a' h => by omega)
        refine ⟨c1, m1, r, fun m0 => ?_, fun c0 => ?_, hg⟩
        · have R1 := R1 m0
          rcases (show wh = 2 ∨ wh = 3 by omega) with rfl | rfl
          · simp only [if_true] at R1
            simp (disch := first | assumption | omega | decide | (simp only [ma_wd0, ma_wdi, ma_wdr, ma_wdl, ma_wdn] <;> omega)) only [↓reduceIte, evK, evL, evS, evA, evJ, Option.bind_some, Option.toList, List.cons_append, List.nil_append, nI_add, pk_mul, bI0, ite_not, ev_rbb, up_n, up_s, up_u, pk_us, pk_un, Nat.reduceAdd, nI_ltT, nI_ltF, nI_leT, nI_leF, nI_eqT, nI_eqF, en_LH_meets, bk_LH_meets, gfC, ce_LH_within, t_LH_within, h1, h2, and_self, not_true_eq_false, ce_Thought_meetable, en_Thought_meetable, bk_Thought_meetable, ce_Thought_wantedSet, E1, ce_Thought_firstClash, en_Thought_firstClash, R1]
          · simp only [Nat.reduceEqDiff, if_false] at R1
            simp (disch := first | assumption | omega | decide | (simp only [ma_wd0, ma_wdi, ma_wdr, ma_wdl, ma_wdn] <;> omega)) only [↓reduceIte, evK, evL, evS, evA, evJ, Option.bind_some, Option.toList, List.cons_append, List.nil_append, nI_add, pk_mul, bI0, ite_not, ev_rbb, up_n, up_s, up_u, pk_us, pk_un, Nat.reduceAdd, nI_ltT, nI_ltF, nI_leT, nI_leF, nI_eqT, nI_eqF, en_LH_meets, bk_LH_meets, gfC, ce_LH_within, t_LH_within, h1, h2, and_self, not_true_eq_false, ce_Thought_meetable, en_Thought_meetable, bk_Thought_meetable, ce_Thought_wantedSet, E1, ce_Thought_firstClash, en_Thought_firstClash, R1]
        · have R2 := fun u => R2 u
          simp (disch := first | assumption | omega | decide | (simp only [ma_wd0, ma_wdi, ma_wdr, ma_wdl, ma_wdn] <;> omega)) only [↓reduceIte, evK, evL, evS, evA, evJ, Option.bind_some, Option.toList, List.cons_append, List.nil_append, nI_add, pk_mul, bI0, ite_not, ev_rbb, up_n, up_s, up_u, pk_us, pk_un, Nat.reduceAdd, nI_ltT, nI_ltF, nI_leT, nI_leF, nI_eqT, nI_eqF, en_MO_meets, bk_MO_meets, pfM, hm1, ce_MO_isIn, t_MO_isIn, h1, h2, and_self, not_true_eq_false, E2', R2]
      · obtain ⟨B, L, b1, b2, b3⟩ := t_bestLoop (sc := sc) (w := w) (d + 17) wh F (some (.int (nI hr))) hF2 hn hF1 hy hW hQ st9 g2 n2
        have hB := inN_lt b1
        have hB12 : B < 2 ^ 12 := Nat.lt_of_lt_of_le hB (Nat.pow_le_pow_right (by decide) (by omega))
        have BM := t_bestMet (sc := sc) (w := w) (c := c1) (n := n) (y := y) (d + 17 - n) (clN st hh k n) hn hy (fun i => clN_lt st hh k n i hn) r104 r105 n F (Nat.le_refl _) hF12
        rw [show d + 17 - n + n + 1 = d + 18 by omega, bm_best (clN_ir st hh k n) (clN_sy st hh k n) hn b1 b2 b3] at BM
        have pB := t_MO_paidBy (sc := sc) (w := w) (d + 18) B hB12 hn hF1 hy n2
        have hpd := pdN_le hy n B
        have hpd2 : pdN y n B * 4096 + (4095 - B) < 2 ^ 31 := by
          have : pdN y n B ≤ 1188 := by omega
          have := Nat.mul_le_mul_right 4096 this
          omega
        have ed : (pdN y n B * 4096 + (4095 - B)) / 4096 = pdN y n B := by omega
        have er : (pdN y n B * 4096 + (4095 - B)) % 4096 = 4095 - B := by omega
        unfold enN at BM
        have e4096 : (nI 4096 = nI 0) = False := eq_false (by decide +kernel)
        rcases (show wh = 0 ∨ wh = 1 by omega) with rfl | rfl
        · refine ⟨c1, m1, nI (pdN y n B), fun m0 => ?_, fun c0 => ?_, hg⟩
          · simp (disch := first | assumption | omega | decide | (simp only [ma_wd0, ma_wdi, ma_wdr, ma_wdl, ma_wdn] <;> omega)) only [↓reduceIte, evK, evL, evS, evA, evJ, Option.bind_some, Option.toList, List.cons_append, List.nil_append, nI_add, pk_mul, bI0, ite_not, ev_rbb, up_n, up_s, up_u, pk_us, pk_un, Nat.reduceAdd, nI_ltT, nI_ltF, nI_leT, nI_leF, nI_eqT, nI_eqF, en_LH_meets, bk_LH_meets, gfC, ce_LH_within, t_LH_within, h1, h2, and_self, not_true_eq_false, ce_Thought_meetable, en_Thought_meetable, bk_Thought_meetable, ce_Thought_wantedSet, E1, r15, ce_Thought_bestMet, BM, e4096, pk_div, ed]
          · simp (disch := first | assumption | omega | decide | (simp only [ma_wd0, ma_wdi, ma_wdr, ma_wdl, ma_wdn] <;> omega)) only [↓reduceIte, evK, evL, evS, evA, evJ, Option.bind_some, Option.toList, List.cons_append, List.nil_append, nI_add, pk_mul, bI0, ite_not, ev_rbb, up_n, up_s, up_u, pk_us, pk_un, Nat.reduceAdd, nI_ltT, nI_ltF, nI_leT, nI_leF, nI_eqT, nI_eqF, en_MO_meets, bk_MO_meets, pfM, hm1, ce_MO_isIn, t_MO_isIn, h1, h2, and_self, not_true_eq_false, E2', L]
            rw [bh_MO_meets_161]
            simp (disch := first | assumption | omega | decide | (simp only [ma_wd0, ma_wdi, ma_wdr, ma_wdl, ma_wdn] <;> omega)) only [↓reduceIte, evK, evL, evS, evA, evJ, Option.bind_some, Option.toList, List.cons_append, List.nil_append, nI_add, pk_mul, bI0, ite_not, ev_rbb, up_n, up_s, up_u, pk_us, pk_un, Nat.reduceAdd, nI_ltT, nI_ltF, nI_leT, nI_leF, nI_eqT, nI_eqF, bk_MO_meets, ce_MO_paidBy, pB]
        · refine ⟨c1, m1, nI B, fun m0 => ?_, fun c0 => ?_, hg⟩
          · have es : 4095 - (4095 - B) = B := by omega
            simp (disch := first | assumption | omega | decide | (simp only [ma_wd0, ma_wdi, ma_wdr, ma_wdl, ma_wdn] <;> omega)) only [↓reduceIte, evK, evL, evS, evA, evJ, Option.bind_some, Option.toList, List.cons_append, List.nil_append, nI_add, pk_mul, bI0, ite_not, ev_rbb, up_n, up_s, up_u, pk_us, pk_un, Nat.reduceAdd, nI_ltT, nI_ltF, nI_leT, nI_leF, nI_eqT, nI_eqF, en_LH_meets, bk_LH_meets, gfC, ce_LH_within, t_LH_within, h1, h2, and_self, not_true_eq_false, ce_Thought_meetable, en_Thought_meetable, bk_Thought_meetable, ce_Thought_wantedSet, E1, r15, ce_Thought_bestMet, BM, e4096, iRem_nI, er, pk_sub, es]
          · simp (disch := first | assumption | omega | decide | (simp only [ma_wd0, ma_wdi, ma_wdr, ma_wdl, ma_wdn] <;> omega)) only [↓reduceIte, evK, evL, evS, evA, evJ, Option.bind_some, Option.toList, List.cons_append, List.nil_append, nI_add, pk_mul, bI0, ite_not, ev_rbb, up_n, up_s, up_u, pk_us, pk_un, Nat.reduceAdd, nI_ltT, nI_ltF, nI_leT, nI_leF, nI_eqT, nI_eqF, en_MO_meets, bk_MO_meets, pfM, hm1, ce_MO_isIn, t_MO_isIn, h1, h2, and_self, not_true_eq_false, E2', L]
            rw [bh_MO_meets_161]
            simp (disch := first | assumption | omega | decide | (simp only [ma_wd0, ma_wdi, ma_wdr, ma_wdl, ma_wdn] <;> omega)) only [↓reduceIte, evK, evL, evS, evA, evJ, Option.bind_some, Option.toList, List.cons_append, List.nil_append, nI_add, pk_mul, bI0, ite_not, ev_rbb, up_n, up_s, up_u, pk_us, pk_un, Nat.reduceAdd, nI_ltT, nI_ltF, nI_leT, nI_leF, nI_eqT, nI_eqF, bk_MO_meets]
    · refine ⟨c, m1, -1, fun m0 => ?_, fun c0 => ?_, hq0⟩
      · simp (disch := first | assumption | omega | decide | (simp only [ma_wd0, ma_wdi, ma_wdr, ma_wdl, ma_wdn] <;> omega)) only [↓reduceIte, evK, evL, evS, evA, evJ, Option.bind_some, Option.toList, List.cons_append, List.nil_append, nI_add, pk_mul, bI0, ite_not, ev_rbb, up_n, up_s, up_u, pk_us, pk_un, Nat.reduceAdd, nI_ltT, nI_ltF, nI_leT, nI_leF, nI_eqT, nI_eqF, en_LH_meets, bk_LH_meets, gfC, ce_LH_within, t_LH_within, h1, h2, and_self, not_true_eq_false, not_false_eq_true]
      · simp (disch := first | assumption | omega | decide | (simp only [ma_wd0, ma_wdi, ma_wdr, ma_wdl, ma_wdn] <;> omega)) only [↓reduceIte, evK, evL, evS, evA, evJ, Option.bind_some, Option.toList, List.cons_append, List.nil_append, nI_add, pk_mul, bI0, ite_not, ev_rbb, up_n, up_s, up_u, pk_us, pk_un, Nat.reduceAdd, nI_ltT, nI_ltF, nI_leT, nI_leF, nI_eqT, nI_eqF, en_MO_meets, bk_MO_meets, pfM, hm1, ce_MO_isIn, t_MO_isIn, h1, h2, and_self, not_true_eq_false, not_false_eq_true]
  · refine ⟨c, m1, -1, fun m0 => ?_, fun c0 => ?_, hq0⟩
    · simp (disch := first | assumption | omega | decide | (simp only [ma_wd0, ma_wdi, ma_wdr, ma_wdl, ma_wdn] <;> omega)) only [↓reduceIte, evK, evL, evS, evA, evJ, Option.bind_some, Option.toList, List.cons_append, List.nil_append, nI_add, pk_mul, bI0, ite_not, ev_rbb, up_n, up_s, up_u, pk_us, pk_un, Nat.reduceAdd, nI_ltT, nI_ltF, nI_leT, nI_leF, nI_eqT, nI_eqF, en_LH_meets, bk_LH_meets, gfC, ce_LH_within, t_LH_within, h1, not_false_eq_true]
    · simp (disch := first | assumption | omega | decide | (simp only [ma_wd0, ma_wdi, ma_wdr, ma_wdl, ma_wdn] <;> omega)) only [↓reduceIte, evK, evL, evS, evA, evJ, Option.bind_some, Option.toList, List.cons_append, List.nil_append, nI_add, pk_mul, bI0, ite_not, ev_rbb, up_n, up_s, up_u, pk_us, pk_un, Nat.reduceAdd, nI_ltT, nI_ltF, nI_leT, nI_leF, nI_eqT, nI_eqF, en_MO_meets, bk_MO_meets, pfM, hm1, ce_MO_isIn, t_MO_isIn, h1, not_false_eq_true]
end PS
