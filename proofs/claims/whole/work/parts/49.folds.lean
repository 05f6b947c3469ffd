/-! ===== folds, coils, game ===== -/
theorem fold_math {a b s : Int32} (ha : 0 ≤ a.toInt ∧ a.toInt ≤ 40) (hb : 0 ≤ b.toInt ∧ b.toInt ≤ 40) (hs : 0 ≤ s.toInt ∧ s.toInt ≤ 40) : (a - b ≤ s) = ¬ (b < a - s) := by
  have k1 := Int32_sub_toInt (a := a) (b := b) (by omega) (by omega)
  have k2 := Int32_sub_toInt (a := a) (b := s) (by omega) (by omega)
  rw [Int32.lt_iff_toInt_lt, Int32.le_iff_toInt_le, k1, k2]
  apply propext
  omega
section P7
variable {sc : Nat × (Nat → Int32)} {W S Q : Nat} {ls : List lL} {c m Z : Nat → Nat → Int32} {w : Nat → Int64} {h : List ma_C}
theorem j_fold (d d' x : Nat) (v : Int32) (g : gQ W S Q ls c m Z) (hx : x < W) (hv : (∃ f, f < W ∧ v = nI f) ∨ v = -1 ∨ v = nI W) : ∃ (P : Bool) (c' m' : Nat → Nat → Int32), gQ W S Q ls c' m' Z ∧ (∀ m0, cc sc (d + 3) 102 [.ref 103, .int v, .int (nI x)] (hp c w m0) = some (some (.int (bI (P = true))), hp c' w m0)) ∧ (∀ c0, cc sc (d' + 5) 265 [.ref 138, .int (nI x), .int v] (hp c0 w m) = some (some (.int (bI (P = true))), hp c0 w m')) := by
  obtain ⟨t, j, -, -, -⟩ := id g
  have hw1 := t.1.2.1
  have hw2 := t.2.1.2.1
  have hW := t.1.2.2.2
  rcases hv with ⟨f, hf, rfl⟩ | rfl | rfl
  · obtain ⟨g1, f1, hc⟩ := t_Asker_slide (sc := sc) (c := c) (w := w) d f W 17 ls (Or.inl rfl) hf t.1 j.hB
    obtain ⟨g2, f2, hm⟩ := t_MO_slideOf (sc := sc) (m := m) (w := w) d' f W ls hf t.2.1
    rw [(j.slide hf hW).1] at hc
    rw [(j.slide hf hW).2] at hm
    have z1 : c 18 f = Z 0 (5 + f) := j.1.2.1 f (by omega)
    have z2 : m 139 (5 + f) + nI 10 = Z 0 (5 + f) := j.2.1.2.1 f (by omega)
    have z3 : c 18 x = Z 0 (5 + x) := j.1.2.1 x (by omega)
    have z4 : m 139 (5 + x) + nI 10 = Z 0 (5 + x) := j.2.1.2.1 x (by omega)
    have fm := fold_math (j.2.2.1.1 f (by omega)) (j.2.2.1.1 x (by omega)) (iHd_bd ((lL_tell (aQS W (zH Z) (zN Z) (iRem (Z 0 0) (nI 24)) (Z 0 0 / nI 24) (nI 0) f) 1 ls).getD (nI 2)))
    rw [show iHd ((lL_tell (aQS W (zH Z) (zN Z) (iRem (Z 0 0) (nI 24)) (Z 0 0 / nI 24) (nI 0) f) 1 ls).getD (nI 2)) (nI 0) (nI 40) = slideS ls W (zH Z) (zN Z) (Z 0 0) f from rfl] at fm
    generalize slideS ls W (zH Z) (zN Z) (Z 0 0) f = s at hc hm fm
    by_cases q : Z 0 (5 + x) < Z 0 (5 + f) - s
    · refine ⟨true, _, _, g.jk g1 f1 g2 f2, fun m0 => ?_, fun c0 => ?_⟩
      · simp (disch := first | assumption | omega | decide | (simp only [ma_wd0, ma_wdi, ma_wdr, ma_wdl, ma_wdn] <;> omega)) only [↓reduceIte, evK, evL, evS, evA, evJ, Option.bind_some, Option.toList, List.cons_append, List.nil_append, nI_add, pk_mul, bI0, ite_not, ev_rbb, up_n, up_s, up_u, pk_us, pk_un, Nat.reduceAdd, nI_ltT, nI_ltF, nI_leT, nI_leF, nI_eqT, nI_eqF, en_Thought_slidesInto, bk_Thought_slidesInto, gfC, ldC, ce_Told_isColumn, t_Told_isColumn, hw1, and_self, not_true_eq_false, z1, z3, ce_Asker_slide, hc, fm, q, bI_t]
      · simp (disch := first | assumption | omega | decide | (simp only [ma_wd0, ma_wdi, ma_wdr, ma_wdl, ma_wdn] <;> omega)) only [↓reduceIte, evK, evL, evS, evA, evJ, Option.bind_some, Option.toList, List.cons_append, List.nil_append, nI_add, pk_mul, bI0, ite_not, ev_rbb, up_n, up_s, up_u, pk_us, pk_un, Nat.reduceAdd, nI_ltT, nI_ltF, nI_leT, nI_leF, nI_eqT, nI_eqF, en_MO_isLowBy, bk_MO_isLowBy, ce_MO_wide, t_MO_wide, hw2, ce_MO_heightOf, t_MO_heightOf, z2, z4, ce_MO_slideOf, hm, q, bI_t]
    · refine ⟨false, _, _, g.jk g1 f1 g2 f2, fun m0 => ?_, fun c0 => ?_⟩
      · simp (disch := first | assumption | omega | decide | (simp only [ma_wd0, ma_wdi, ma_wdr, ma_wdl, ma_wdn] <;> omega)) only [↓reduceIte, evK, evL, evS, evA, evJ, Option.bind_some, Option.toList, List.cons_append, List.nil_append, nI_add, pk_mul, bI0, ite_not, ev_rbb, up_n, up_s, up_u, pk_us, pk_un, Nat.reduceAdd, nI_ltT, nI_ltF, nI_leT, nI_leF, nI_eqT, nI_eqF, en_Thought_slidesInto, bk_Thought_slidesInto, gfC, ldC, ce_Told_isColumn, t_Told_isColumn, hw1, and_self, not_true_eq_false, z1, z3, ce_Asker_slide, hc, fm, q, not_false_eq_true, bI_f, Bool.false_eq_true]
      · simp (disch := first | assumption | omega | decide | (simp only [ma_wd0, ma_wdi, ma_wdr, ma_wdl, ma_wdn] <;> omega)) only [↓reduceIte, evK, evL, evS, evA, evJ, Option.bind_some, Option.toList, List.cons_append, List.nil_append, nI_add, pk_mul, bI0, ite_not, ev_rbb, up_n, up_s, up_u, pk_us, pk_un, Nat.reduceAdd, nI_ltT, nI_ltF, nI_leT, nI_leF, nI_eqT, nI_eqF, en_MO_isLowBy, bk_MO_isLowBy, ce_MO_wide, t_MO_wide, hw2, ce_MO_heightOf, t_MO_heightOf, z2, z4, ce_MO_slideOf, hm, q, bI_f, Bool.false_eq_true, not_false_eq_true]
  · have e : (nI 0 ≤ (-1 : Int32)) = False := eq_false (by decide +kernel)
    refine ⟨true, c, m, g, fun m0 => ?_, fun c0 => ?_⟩
    · simp (disch := first | assumption | omega | decide | (simp only [ma_wd0, ma_wdi, ma_wdr, ma_wdl, ma_wdn] <;> omega)) only [↓reduceIte, evK, evL, evS, evA, evJ, Option.bind_some, Option.toList, List.cons_append, List.nil_append, nI_add, pk_mul, bI0, ite_not, ev_rbb, up_n, up_s, up_u, pk_us, pk_un, Nat.reduceAdd, nI_ltT, nI_ltF, nI_leT, nI_leF, nI_eqT, nI_eqF, en_Thought_slidesInto, bk_Thought_slidesInto, gfC, ldC, ce_Told_isColumn, t_Told_isColumn, hw1, e, false_and, not_false_eq_true, bI_t]
    · simp (disch := first | assumption | omega | decide | (simp only [ma_wd0, ma_wdi, ma_wdr, ma_wdl, ma_wdn] <;> omega)) only [↓reduceIte, evK, evL, evS, evA, evJ, Option.bind_some, Option.toList, List.cons_append, List.nil_append, nI_add, pk_mul, bI0, ite_not, ev_rbb, up_n, up_s, up_u, pk_us, pk_un, Nat.reduceAdd, nI_ltT, nI_ltF, nI_leT, nI_leF, nI_eqT, nI_eqF, en_MO_isLowBy, bk_MO_isLowBy, n_m1lt, bI_t]
  · refine ⟨true, c, m, g, fun m0 => ?_, fun c0 => ?_⟩
    · simp (disch := first | assumption | omega | decide | (simp only [ma_wd0, ma_wdi, ma_wdr, ma_wdl, ma_wdn] <;> omega)) only [↓reduceIte, evK, evL, evS, evA, evJ, Option.bind_some, Option.toList, List.cons_append, List.nil_append, nI_add, pk_mul, bI0, ite_not, ev_rbb, up_n, up_s, up_u, pk_us, pk_un, Nat.reduceAdd, nI_ltT, nI_ltF, nI_leT, nI_leF, nI_eqT, nI_eqF, en_Thought_slidesInto, bk_Thought_slidesInto, gfC, ldC, ce_Told_isColumn, t_Told_isColumn, hw1, and_false, not_false_eq_true, bI_t]
    · simp (disch := first | assumption | omega | decide | (simp only [ma_wd0, ma_wdi, ma_wdr, ma_wdl, ma_wdn] <;> omega)) only [↓reduceIte, evK, evL, evS, evA, evJ, Option.bind_some, Option.toList, List.cons_append, List.nil_append, nI_add, pk_mul, bI0, ite_not, ev_rbb, up_n, up_s, up_u, pk_us, pk_un, Nat.reduceAdd, nI_ltT, nI_ltF, nI_leT, nI_leF, nI_eqT, nI_eqF, en_MO_isLowBy, bk_MO_isLowBy, ce_MO_wide, t_MO_wide, hw2, bI_t]
theorem p_folds (d : Nat) (h : gR c m) : pub sc w (d + 20) 29 264 [] c m := by
  obtain ⟨W, S, Q, ls, Z, g⟩ := h.e
  have g0 := g.q0
  generalize hm1 : va_up m 138 (upd (m 138) 0 (nI 0)) = m1 at g0
  have hW := g.1.1.2.2.2
  obtain ⟨x, y, c3, m3, f1, f2, rfl, g3⟩ := sim_loop (w := w) W (fun i (s : Int32) h => ev sc (d + 19) 101 (pm_blk 101 4) [some (.ref 103), some (.int s), some (.int (nI i))] [] h)
        (fun i (s : Int32) h => ev sc (d + 20) 264 (pm_blk 264 9) [some (.ref 138), some (.int s), some (.int (nI i))] [] h)
        (fun i s t c' m' => s = t ∧ gQ W S Q ls c' m' Z) (by
          rintro i s t c1 m1 hi ⟨rfl, g1⟩
          have hw1 := g1.1.1.2.1
          have hw2 := g1.1.2.1.2.1
          have hv : (∃ f, f < W ∧ nI i - nI 1 = nI f) ∨ nI i - nI 1 = -1 ∨ nI i - nI 1 = nI W := by
            rcases Nat.eq_zero_or_pos i with z | z
            · subst z; exact Or.inr (Or.inl n_01)
            · exact Or.inl ⟨i - 1, by omega, pk_sub z⟩
          have hv2 : (∃ f, f < W ∧ nI (i + 1) = nI f) ∨ nI (i + 1) = -1 ∨ nI (i + 1) = nI W := by
            rcases Nat.lt_or_ge (i + 1) W with z | z
            · exact Or.inl ⟨i + 1, z, rfl⟩
            · exact Or.inr (Or.inr (by rw [show i + 1 = W by omega]))
          obtain ⟨P, c2, m2, g2, r1, r2⟩ := j_fold (sc := sc) (w := w) (d + 15) (d + 14) i _ g1 hi hv
          cases P with
          | false =>
            refine ⟨s, s, c2, m2, fun m0 => ?_, fun c0 => ?_, rfl, g2⟩
            · conv => lhs; rw [bh_Thought_foldSet_4]
              simp (disch := first | assumption | omega | decide | (simp only [ma_wd0, ma_wdi, ma_wdr, ma_wdl, ma_wdn] <;> omega)) only [↓reduceIte, evK, evL, evS, evA, evJ, Option.bind_some, Option.toList, List.cons_append, List.nil_append, nI_add, pk_mul, bI0, ite_not, ev_rbb, up_n, up_s, up_u, pk_us, pk_un, Nat.reduceAdd, nI_ltT, nI_ltF, nI_leT, nI_leF, nI_eqT, nI_eqF, bk_Thought_foldSet, gfC, hw1, ce_Thought_slidesInto, r1, Bool.false_eq_true, not_false_eq_true]
            · conv => lhs; rw [bh_MO_folds_9]
              simp (disch := first | assumption | omega | decide | (simp only [ma_wd0, ma_wdi, ma_wdr, ma_wdl, ma_wdn] <;> omega)) only [↓reduceIte, evK, evL, evS, evA, evJ, Option.bind_some, Option.toList, List.cons_append, List.nil_append, nI_add, pk_mul, bI0, ite_not, ev_rbb, up_n, up_s, up_u, pk_us, pk_un, Nat.reduceAdd, nI_ltT, nI_ltF, nI_leT, nI_leF, nI_eqT, nI_eqF, bk_MO_folds, ce_MO_wide, t_MO_wide, hw2, ce_MO_isLowBy, r2, Bool.false_eq_true, not_false_eq_true]
          | true =>
            obtain ⟨P, c3, m3, g3, r3, r4⟩ := j_fold (sc := sc) (w := w) (d + 15) (d + 14) i _ g2 hi hv2
            cases P with
            | false =>
              refine ⟨s, s, c3, m3, fun m0 => ?_, fun c0 => ?_, rfl, g3⟩
              · conv => lhs; rw [bh_Thought_foldSet_4]
                simp (disch := first | assumption | omega | decide | (simp only [ma_wd0, ma_wdi, ma_wdr, ma_wdl, ma_wdn] <;> omega)) only [↓reduceIte, evK, evL, evS, evA, evJ, Option.bind_some, Option.toList, List.cons_append, List.nil_append, nI_add, pk_mul, bI0, ite_not, ev_rbb, up_n, up_s, up_u, pk_us, pk_un, Nat.reduceAdd, nI_ltT, nI_ltF, nI_leT, nI_leF, nI_eqT, nI_eqF, bk_Thought_foldSet, gfC, hw1, ce_Thought_slidesInto, r1, r3, Bool.false_eq_true, not_false_eq_true, not_true_eq_false]
              · conv => lhs; rw [bh_MO_folds_9]
                simp (disch := first | assumption | omega | decide | (simp only [ma_wd0, ma_wdi, ma_wdr, ma_wdl, ma_wdn] <;> omega)) only [↓reduceIte, evK, evL, evS, evA, evJ, Option.bind_some, Option.toList, List.cons_append, List.nil_append, nI_add, pk_mul, bI0, ite_not, ev_rbb, up_n, up_s, up_u, pk_us, pk_un, Nat.reduceAdd, nI_ltT, nI_ltF, nI_leT, nI_leF, nI_eqT, nI_eqF, bk_MO_folds, ce_MO_wide, t_MO_wide, hw2, ce_MO_isLowBy, r2, r4, Bool.false_eq_true, not_false_eq_true, not_true_eq_false]
            | true =>
              refine ⟨s ||| nI (2 ^ i), s ||| nI (2 ^ i), c3, m3, fun m0 => ?_, fun c0 => ?_, rfl, g3⟩
              · conv => lhs; rw [bh_Thought_foldSet_4]
                simp (disch := first | assumption | omega | decide | (simp only [ma_wd0, ma_wdi, ma_wdr, ma_wdl, ma_wdn] <;> omega)) only [↓reduceIte, evK, evL, evS, evA, evJ, Option.bind_some, Option.toList, List.cons_append, List.nil_append, nI_add, pk_mul, bI0, ite_not, ev_rbb, up_n, up_s, up_u, pk_us, pk_un, Nat.reduceAdd, nI_ltT, nI_ltF, nI_leT, nI_leF, nI_eqT, nI_eqF, bk_Thought_foldSet, gfC, hw1, ce_Thought_slidesInto, r1, r3, not_true_eq_false, n_sh]
              · conv => lhs; rw [bh_MO_folds_9]
                simp (disch := first | assumption | omega | decide | (simp only [ma_wd0, ma_wdi, ma_wdr, ma_wdl, ma_wdn] <;> omega)) only [↓reduceIte, evK, evL, evS, evA, evJ, Option.bind_some, Option.toList, List.cons_append, List.nil_append, nI_add, pk_mul, bI0, ite_not, ev_rbb, up_n, up_s, up_u, pk_us, pk_un, Nat.reduceAdd, nI_ltT, nI_ltF, nI_leT, nI_leF, nI_eqT, nI_eqF, bk_MO_folds, ce_MO_wide, t_MO_wide, hw2, ce_MO_isLowBy, r2, r4, not_true_eq_false, n_sh]) W 0 (nI 0) (nI 0) c m1 (by omega) ⟨rfl, g0⟩
  have hw1 := g3.1.1.2.1
  have hw2 := g3.1.2.1.2.1
  refine ⟨c3, m3, x, fun m0 => ?_, fun c0 => ?_, g3.g⟩
  · simp (disch := first | assumption | omega | decide | (simp only [ma_wd0, ma_wdi, ma_wdr, ma_wdl, ma_wdn] <;> omega)) only [↓reduceIte, evK, evL, evS, evA, evJ, Option.bind_some, Option.toList, List.cons_append, List.nil_append, nI_add, pk_mul, bI0, ite_not, ev_rbb, up_n, up_s, up_u, pk_us, pk_un, Nat.reduceAdd, nI_ltT, nI_ltF, nI_leT, nI_leF, nI_eqT, nI_eqF, en_LH_folds, gfC, ce_Thought_foldSet, en_Thought_foldSet, f1]
    rw [bh_Thought_foldSet_4]
    simp (disch := first | assumption | omega | decide | (simp only [ma_wd0, ma_wdi, ma_wdr, ma_wdl, ma_wdn] <;> omega)) only [↓reduceIte, evK, evL, evS, evA, evJ, Option.bind_some, Option.toList, List.cons_append, List.nil_append, nI_add, pk_mul, bI0, ite_not, ev_rbb, up_n, up_s, up_u, pk_us, pk_un, Nat.reduceAdd, nI_ltT, nI_ltF, nI_leT, nI_leF, nI_eqT, nI_eqF, bk_Thought_foldSet, gfC, hw1]
  · simp (disch := first | assumption | omega | decide | (simp only [ma_wd0, ma_wdi, ma_wdr, ma_wdl, ma_wdn] <;> omega)) only [↓reduceIte, evK, evL, evS, evA, evJ, Option.bind_some, Option.toList, List.cons_append, List.nil_append, nI_add, pk_mul, bI0, ite_not, ev_rbb, up_n, up_s, up_u, pk_us, pk_un, Nat.reduceAdd, nI_ltT, nI_ltF, nI_leT, nI_leF, nI_eqT, nI_eqF, en_MO_folds, pfM, hm1, f2]
    rw [bh_MO_folds_9]
    simp (disch := first | assumption | omega | decide | (simp only [ma_wd0, ma_wdi, ma_wdr, ma_wdl, ma_wdn] <;> omega)) only [↓reduceIte, evK, evL, evS, evA, evJ, Option.bind_some, Option.toList, List.cons_append, List.nil_append, nI_add, pk_mul, bI0, ite_not, ev_rbb, up_n, up_s, up_u, pk_us, pk_un, Nat.reduceAdd, nI_ltT, nI_ltF, nI_leT, nI_leF, nI_eqT, nI_eqF, bk_MO_folds, ce_MO_wide, t_MO_wide, hw2]
def askF (q : Int32) (cl : Nat → Int32) : Nat → Int32
  | 0 => -1
  | p + 1 => if nI p = q then cl p else askF q cl p
theorem askF_congr {q : Int32} {cl cl' : Nat → Int32} : ∀ p, (∀ j, j < p → cl j = cl' j) → askF q cl p = askF q cl' p
  | 0, _ => rfl
  | p + 1, h => by
    simp only [askF]
    rw [h p (by omega), askF_congr p (fun j hj => h j (by omega))]
theorem askF_in {k : Nat} {cl : Nat → Int32} (hk : k < 2 ^ 31) : ∀ p, p ≤ 14 → k < p → askF (nI k) cl p = cl k
  | 0, _, h => by omega
  | p + 1, hp, h => by
    simp only [askF]
    by_cases e : p = k
    · subst e; rw [if_pos rfl]
    · rw [if_neg (fun z => e ((nI_eq (by omega) hk).mp z)), askF_in hk p (by omega) (by omega)]
theorem askF_out {k : Nat} {cl : Nat → Int32} (hk : k < 2 ^ 31) : ∀ p, p ≤ 14 → p ≤ k → askF (nI k) cl p = -1
  | 0, _, _ => rfl
  | p + 1, hp, h => by
    simp only [askF]
    rw [if_neg (fun z => by have := (nI_eq (by omega) hk).mp z; omega), askF_out hk p (by omega) (by omega)]
theorem n_0add (x : Int32) : nI 0 + x = x := by
  show (0 : Int32) + x = x
  exact Int32.zero_add x
theorem coil_loop (d d' : Nat) (l q : Int32) (H : Nat → Int32) (hW3 : 3 ≤ W) (hW : W ≤ 14) (h1 : ∀ j, j < 14 → c 18 j = H j) (h2 : ∀ j, j < 14 → m 139 (5 + j) + nI 10 = H j) (hw1 : c 1 0 = nI W) (hw2 : m 138 6 + nI 10 = nI W) : ∀ (k i part len n : Nat) (sum asked : Int32) (cl : Nat → Int32) (x5 : Option Value), i + k = W → ((i = 0 ∧ part = 0 ∧ len = 0 ∧ n = 0 ∧ sum = nI 0 ∧ asked = -1) ∨ (n = part + 1 ∧ n ≤ i ∧ cl part = nI len ∧ asked = askF q cl part)) →
    ∃ cl', ((∀ m0, ev sc d 114 (pm_blk 114 14) [some (.ref 103), some (.int l), some (.int q), some (.int (nI part)), some (.int (nI len)), some (.int sum), some (.int asked), some (.int (nI i))] [] (hp c w m0) = some (some (.int (-1)), hp c w m0)) ∧ ∀ c0, ev sc (d' + 1) 277 (pm_blk 277 7) [some (.ref 138), some (.int l), some (.int (nI n)), some (.int sum), some (.int (nI i)), x5] [] (hp c0 w (va_up m 164 cl)) = some (some (.int (-1)), hp c0 w (va_up m 164 cl')))
    ∨ ∃ n', 1 ≤ n' ∧ n' ≤ 14 ∧ (∀ m0, ev sc d 114 (pm_blk 114 14) [some (.ref 103), some (.int l), some (.int q), some (.int (nI part)), some (.int (nI len)), some (.int sum), some (.int asked), some (.int (nI i))] [] (hp c w m0) = some (some (.int (if q = -1 then nI n' else askF q cl' n')), hp c w m0)) ∧ ∀ c0, ev sc (d' + 1) 277 (pm_blk 277 7) [some (.ref 138), some (.int l), some (.int (nI n)), some (.int sum), some (.int (nI i)), x5] [] (hp c0 w (va_up m 164 cl)) = some (some (.int (nI n')), hp c0 w (va_up m 164 cl'))
  | 0, i, part, len, n, sum, asked, cl, x5, hi, hR => by
    rcases hR with hR | ⟨hn, hni, hcl, has⟩
    · omega
    · refine ⟨cl, Or.inr ⟨n, by omega, by omega, fun m0 => ?_, fun c0 => ?_⟩⟩
      · rw [bh_Thought_coiled_14]
        subst hn
        by_cases e1 : nI part = q <;> by_cases e2 : q = -1
        · exfalso
          rw [e2] at e1
          exact (nI_m1ne (j := part) (by omega)).mp e1
        · simp (disch := first | assumption | omega | decide | (simp only [ma_wd0, ma_wdi, ma_wdr, ma_wdl, ma_wdn] <;> omega)) only [↓reduceIte, evK, evL, evS, evA, evJ, Option.bind_some, Option.toList, List.cons_append, List.nil_append, nI_add, pk_mul, bI0, ite_not, ev_rbb, up_n, up_s, up_u, pk_us, pk_un, Nat.reduceAdd, nI_ltT, nI_ltF, nI_leT, nI_leF, nI_eqT, nI_eqF, bk_Thought_coiled, gfC, hw1, e1, e2, askF, hcl]
        · simp (disch := first | assumption | omega | decide | (simp only [ma_wd0, ma_wdi, ma_wdr, ma_wdl, ma_wdn] <;> omega)) only [↓reduceIte, evK, evL, evS, evA, evJ, Option.bind_some, Option.toList, List.cons_append, List.nil_append, nI_add, pk_mul, bI0, ite_not, ev_rbb, up_n, up_s, up_u, pk_us, pk_un, Nat.reduceAdd, nI_ltT, nI_ltF, nI_leT, nI_leF, nI_eqT, nI_eqF, bk_Thought_coiled, gfC, hw1, e1, e2, askF, hcl, nI_m1ne]
        · simp (disch := first | assumption | omega | decide | (simp only [ma_wd0, ma_wdi, ma_wdr, ma_wdl, ma_wdn] <;> omega)) only [↓reduceIte, evK, evL, evS, evA, evJ, Option.bind_some, Option.toList, List.cons_append, List.nil_append, nI_add, pk_mul, bI0, ite_not, ev_rbb, up_n, up_s, up_u, pk_us, pk_un, Nat.reduceAdd, nI_ltT, nI_ltF, nI_leT, nI_leF, nI_eqT, nI_eqF, bk_Thought_coiled, gfC, hw1, e1, e2, askF, hcl, has]
      · rw [bh_MO_findsCoils_7]
        simp (disch := first | assumption | omega | decide | (simp only [ma_wd0, ma_wdi, ma_wdr, ma_wdl, ma_wdn] <;> omega)) only [↓reduceIte, evK, evL, evS, evA, evJ, Option.bind_some, Option.toList, List.cons_append, List.nil_append, nI_add, pk_mul, bI0, ite_not, ev_rbb, up_n, up_s, up_u, pk_us, pk_un, Nat.reduceAdd, nI_ltT, nI_ltF, nI_leT, nI_leF, nI_eqT, nI_eqF, bk_MO_findsCoils, ce_MO_wide, t_MO_wide, hw2]
  | k + 1, i, part, len, n, sum, asked, cl, x5, hi, hR => by
    have z1 := h1 i (by omega)
    have z2 := h2 i (by omega)
    have hw2' : ∀ cl : Nat → Int32, (va_up m 164 cl) 138 6 + nI 10 = nI W := fun cl => by rw [up_n _ _ _ _ (by omega)]; exact hw2
    by_cases hl : H i ≤ l
    · rcases hR with ⟨rfl, rfl, rfl, rfl, rfl, rfl⟩ | ⟨hn, hni, hcl, has⟩
      · have ih := coil_loop d d' l q H hW3 hW h1 h2 hw1 hw2 k 1 0 1 1 (H 0) (-1) (upd cl 0 (nI 1)) (some (.int (H 0))) (by omega) (Or.inr ⟨rfl, by omega, pk_us, rfl⟩)
        have e1 : ∀ m0, ev sc d 114 (pm_blk 114 14) [some (.ref 103), some (.int l), some (.int q), some (.int (nI 0)), some (.int (nI 0)), some (.int (nI 0)), some (.int (-1)), some (.int (nI 0))] [] (hp c w m0) = ev sc d 114 (pm_blk 114 14) [some (.ref 103), some (.int l), some (.int q), some (.int (nI 0)), some (.int (nI 1)), some (.int (H 0)), some (.int (-1)), some (.int (nI 1))] [] (hp c w m0) := by
          intro m0
          conv => lhs; rw [bh_Thought_coiled_14]
          simp (disch := first | assumption | omega | decide | (simp only [ma_wd0, ma_wdi, ma_wdr, ma_wdl, ma_wdn] <;> omega)) only [↓reduceIte, evK, evL, evS, evA, evJ, Option.bind_some, Option.toList, List.cons_append, List.nil_append, nI_add, pk_mul, bI0, ite_not, ev_rbb, up_n, up_s, up_u, pk_us, pk_un, Nat.reduceAdd, nI_ltT, nI_ltF, nI_leT, nI_leF, nI_eqT, nI_eqF, bk_Thought_coiled, gfC, ldC, hw1, z1, hl, n_0add]
        have e2 : ∀ c0, ev sc (d' + 1) 277 (pm_blk 277 7) [some (.ref 138), some (.int l), some (.int (nI 0)), some (.int (nI 0)), some (.int (nI 0)), x5] [] (hp c0 w (va_up m 164 cl)) = ev sc (d' + 1) 277 (pm_blk 277 7) [some (.ref 138), some (.int l), some (.int (nI 1)), some (.int (H 0)), some (.int (nI 1)), some (.int (H 0))] [] (hp c0 w (va_up m 164 (upd cl 0 (nI 1)))) := by
          intro c0
          conv => lhs; rw [bh_MO_findsCoils_7]
          simp (disch := first | assumption | omega | decide | (simp only [ma_wd0, ma_wdi, ma_wdr, ma_wdl, ma_wdn] <;> omega)) only [↓reduceIte, evK, evL, evS, evA, evJ, Option.bind_some, Option.toList, List.cons_append, List.nil_append, nI_add, pk_mul, bI0, ite_not, ev_rbb, up_n, up_s, up_u, pk_us, pk_un, Nat.reduceAdd, nI_ltT, nI_ltF, nI_leT, nI_leF, nI_eqT, nI_eqF, bk_MO_findsCoils, ce_MO_wide, t_MO_wide, hw2, ce_MO_heightOf, t_MO_heightOf, z2, hl, gfM, ldM, stM, n_0add, pk_sub, Nat.sub_self, upd_uu]
        simp only [e1, e2]
        exact ih
      · by_cases hs : sum + H i ≤ l
        · have ih := coil_loop d d' l q H hW3 hW h1 h2 hw1 hw2 k (i + 1) part (len + 1) n (sum + H i) asked (upd cl part (nI (len + 1))) (some (.int (H i))) (by omega) (Or.inr ⟨hn, by omega, pk_us, by rw [has]; exact askF_congr part (fun j hj => (pk_un (by omega)).symm)⟩)
          subst hn
          have e1 : ∀ m0, ev sc d 114 (pm_blk 114 14) [some (.ref 103), some (.int l), some (.int q), some (.int (nI part)), some (.int (nI len)), some (.int sum), some (.int asked), some (.int (nI i))] [] (hp c w m0) = ev sc d 114 (pm_blk 114 14) [some (.ref 103), some (.int l), some (.int q), some (.int (nI part)), some (.int (nI (len + 1))), some (.int (sum + H i)), some (.int asked), some (.int (nI (i + 1)))] [] (hp c w m0) := by
            intro m0
            conv => lhs; rw [bh_Thought_coiled_14]
            simp (disch := first | assumption | omega | decide | (simp only [ma_wd0, ma_wdi, ma_wdr, ma_wdl, ma_wdn] <;> omega)) only [↓reduceIte, evK, evL, evS, evA, evJ, Option.bind_some, Option.toList, List.cons_append, List.nil_append, nI_add, pk_mul, bI0, ite_not, ev_rbb, up_n, up_s, up_u, pk_us, pk_un, Nat.reduceAdd, nI_ltT, nI_ltF, nI_leT, nI_leF, nI_eqT, nI_eqF, bk_Thought_coiled, gfC, ldC, hw1, z1, hl, hs]
          have e2 : ∀ c0, ev sc (d' + 1) 277 (pm_blk 277 7) [some (.ref 138), some (.int l), some (.int (nI (part + 1))), some (.int sum), some (.int (nI i)), x5] [] (hp c0 w (va_up m 164 cl)) = ev sc (d' + 1) 277 (pm_blk 277 7) [some (.ref 138), some (.int l), some (.int (nI (part + 1))), some (.int (sum + H i)), some (.int (nI (i + 1))), some (.int (H i))] [] (hp c0 w (va_up m 164 (upd cl part (nI (len + 1))))) := by
            intro c0
            conv => lhs; rw [bh_MO_findsCoils_7]
            simp (disch := first | assumption | omega | decide | (simp only [ma_wd0, ma_wdi, ma_wdr, ma_wdl, ma_wdn] <;> omega)) only [↓reduceIte, evK, evL, evS, evA, evJ, Option.bind_some, Option.toList, List.cons_append, List.nil_append, nI_add, pk_mul, bI0, ite_not, ev_rbb, up_n, up_s, up_u, pk_us, pk_un, Nat.reduceAdd, nI_ltT, nI_ltF, nI_leT, nI_leF, nI_eqT, nI_eqF, bk_MO_findsCoils, ce_MO_wide, t_MO_wide, hw2, ce_MO_heightOf, t_MO_heightOf, z2, hl, hs, gfM, ldM, stM, nI_m1, hcl]
          simp only [e1, e2]
          exact ih
        · have ih := coil_loop d d' l q H hW3 hW h1 h2 hw1 hw2 k (i + 1) (part + 1) 1 (n + 1) (H i) (if nI part = q then nI len else asked) (upd cl n (nI 1)) (some (.int (H i))) (by omega) (Or.inr ⟨by omega, by omega, by rw [hn]; exact pk_us, by
            simp only [askF]
            rw [pk_un (by omega), hcl, has, askF_congr (cl' := cl) part (fun j hj => pk_un (by omega))]⟩)
          subst hn
          have e1 : ∀ m0, ev sc d 114 (pm_blk 114 14) [some (.ref 103), some (.int l), some (.int q), some (.int (nI part)), some (.int (nI len)), some (.int sum), some (.int asked), some (.int (nI i))] [] (hp c w m0) = ev sc d 114 (pm_blk 114 14) [some (.ref 103), some (.int l), some (.int q), some (.int (nI (part + 1))), some (.int (nI 1)), some (.int (H i)), some (.int (if nI part = q then nI len else asked)), some (.int (nI (i + 1)))] [] (hp c w m0) := by
            intro m0
            conv => lhs; rw [bh_Thought_coiled_14]
            by_cases e : nI part = q
            · subst e
              simp (disch := first | assumption | omega | decide | (simp only [ma_wd0, ma_wdi, ma_wdr, ma_wdl, ma_wdn] <;> omega)) only [↓reduceIte, evK, evL, evS, evA, evJ, Option.bind_some, Option.toList, List.cons_append, List.nil_append, nI_add, pk_mul, bI0, ite_not, ev_rbb, up_n, up_s, up_u, pk_us, pk_un, Nat.reduceAdd, nI_ltT, nI_ltF, nI_leT, nI_leF, nI_eqT, nI_eqF, bk_Thought_coiled, gfC, ldC, hw1, z1, hl, hs, n_0add]
            · simp (disch := first | assumption | omega | decide | (simp only [ma_wd0, ma_wdi, ma_wdr, ma_wdl, ma_wdn] <;> omega)) only [↓reduceIte, evK, evL, evS, evA, evJ, Option.bind_some, Option.toList, List.cons_append, List.nil_append, nI_add, pk_mul, bI0, ite_not, ev_rbb, up_n, up_s, up_u, pk_us, pk_un, Nat.reduceAdd, nI_ltT, nI_ltF, nI_leT, nI_leF, nI_eqT, nI_eqF, bk_Thought_coiled, gfC, ldC, hw1, z1, hl, hs, e, n_0add]
          have e2 : ∀ c0, ev sc (d' + 1) 277 (pm_blk 277 7) [some (.ref 138), some (.int l), some (.int (nI (part + 1))), some (.int sum), some (.int (nI i)), x5] [] (hp c0 w (va_up m 164 cl)) = ev sc (d' + 1) 277 (pm_blk 277 7) [some (.ref 138), some (.int l), some (.int (nI (part + 1 + 1))), some (.int (H i)), some (.int (nI (i + 1))), some (.int (H i))] [] (hp c0 w (va_up m 164 (upd cl (part + 1) (nI 1)))) := by
            intro c0
            conv => lhs; rw [bh_MO_findsCoils_7]
            simp (disch := first | assumption | omega | decide | (simp only [ma_wd0, ma_wdi, ma_wdr, ma_wdl, ma_wdn] <;> omega)) only [↓reduceIte, evK, evL, evS, evA, evJ, Option.bind_some, Option.toList, List.cons_append, List.nil_append, nI_add, pk_mul, bI0, ite_not, ev_rbb, up_n, up_s, up_u, pk_us, pk_un, Nat.reduceAdd, nI_ltT, nI_ltF, nI_leT, nI_leF, nI_eqT, nI_eqF, bk_MO_findsCoils, ce_MO_wide, t_MO_wide, hw2, ce_MO_heightOf, t_MO_heightOf, z2, hl, hs, gfM, ldM, stM, nI_m1, n_0add, upd_uu]
          simp only [e1, e2]
          exact ih
    · refine ⟨cl, Or.inl ⟨fun m0 => ?_, fun c0 => ?_⟩⟩
      · rw [bh_Thought_coiled_14]
        simp (disch := first | assumption | omega | decide | (simp only [ma_wd0, ma_wdi, ma_wdr, ma_wdl, ma_wdn] <;> omega)) only [↓reduceIte, evK, evL, evS, evA, evJ, Option.bind_some, Option.toList, List.cons_append, List.nil_append, nI_add, pk_mul, bI0, ite_not, ev_rbb, up_n, up_s, up_u, pk_us, pk_un, Nat.reduceAdd, nI_ltT, nI_ltF, nI_leT, nI_leF, nI_eqT, nI_eqF, bk_Thought_coiled, gfC, ldC, hw1, z1, hl]
      · rw [bh_MO_findsCoils_7]
        simp (disch := first | assumption | omega | decide | (simp only [ma_wd0, ma_wdi, ma_wdr, ma_wdl, ma_wdn] <;> omega)) only [↓reduceIte, evK, evL, evS, evA, evJ, Option.bind_some, Option.toList, List.cons_append, List.nil_append, nI_add, pk_mul, bI0, ite_not, ev_rbb, up_n, up_s, up_u, pk_us, pk_un, Nat.reduceAdd, nI_ltT, nI_ltF, nI_leT, nI_leF, nI_eqT, nI_eqF, bk_MO_findsCoils, ce_MO_wide, t_MO_wide, hw2, ce_MO_heightOf, t_MO_heightOf, z2, hl]
end P7
