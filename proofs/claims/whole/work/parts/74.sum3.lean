/-! ===== text: sums ===== -/
section SX
variable {sc : Nat × (Nat → Int32)} {m0 : Nat → Nat → Int32} {w : Nat → Int64} {N : Nat} {T : Nat → Nat → Nat}
/-- what waits: nothing (0), plus (4), minus (5) -/
def wl (pw : Nat) : List lA := if pw = 0 then [] else [(pw, 0)]
def wv (pw : Nat) : Int32 := if pw = 0 then -1 else nI pw
def wt (pw : Nat) : List Bool := if pw = 0 then [] else [false]
noncomputable def hS2 (sc : Nat × (Nat → Int32)) (d pw : Nat) (x1 : Option Value) (h : List ma_C) : Option (Option Value × List ma_C) := if pw = 0 then ev sc d 196 (pm_blk 196 10) [some (.ref 138), x1] [] h else ev sc d 196 (pm_blk 196 57) [some (.ref 138), some (.int (nI (pw - 2)))] [] h
theorem wl_len (pw : Nat) : (wl pw).length = (wt pw).length := by unfold wl wt; split <;> rfl
theorem wl_flen {pw : Nat} (h : pw = 0 ∨ pw = 4 ∨ pw = 5) : ((wl pw).flatMap lB_x).length = (wt pw).length := by rcases h with rfl | rfl | rfl <;> rfl
theorem wt_le (pw : Nat) : (wt pw).length ≤ 1 := by unfold wt; split <;> simp
theorem wl_T {pw : Nat} (h : pw = 0 ∨ pw = 4 ∨ pw = 5) (t : List Bool) (ht : t.length + 1 ≤ 32) : lA_T (wl pw) (false :: wt pw ++ t) = some (false :: t) := by
  rcases h with rfl | rfl | rfl
  · rfl
  · simp only [wl, wt, if_neg (show ¬ (4 : Nat) = 0 by decide), List.cons_append, List.nil_append, lA_T, lA_t, List.length_cons]
    rw [if_pos (by omega)]
  · simp only [wl, wt, if_neg (show ¬ (5 : Nat) = 0 by decide), List.cons_append, List.nil_append, lA_T, lA_t, List.length_cons]
    rw [if_pos (by omega)]
/-- what waits is put -/
theorem t_pia (d pw i : Nat) (acc : List lA) (c : Nat → Nat → Int32) (hp' : pw = 0 ∨ pw = 4 ∨ pw = 5) (hc : cA N T i acc c) (hl : acc.length < 400) : ∃ c', (∀ m, cc sc (d + 1) 60 [.ref 85, .int (wv pw)] (hp c w m) = some (none, hp c' w m)) ∧ cF c c' ∧ cA N T i (acc ++ wl pw) c' := by
  rcases hp' with rfl | hp'
  · refine ⟨c, fun m => ?_, cF.rf, by simpa [wl] using hc⟩
    simp (disch := first | assumption | omega | decide | (simp only [ma_wd0, ma_wdi, ma_wdr, ma_wdl, ma_wdn] <;> omega)) only [↓reduceIte, evK, evL, evS, evA, evJ, Option.bind_some, Option.toList, List.cons_append, List.nil_append, nI_add, pk_mul, bI0, ite_not, ev_rbb, up_n, up_s, up_u, pk_us, pk_un, Nat.reduceAdd, nI_ltT, nI_ltF, nI_leT, nI_leF, nI_eqT, nI_eqF, wv, en_Law_putIfAny, bk_Law_putIfAny, gfC, gfM, ev_r0, ev_r1, eq_self, n_m1e, true_and, and_true, false_and, and_false, and_self, not_true_eq_false, not_false_eq_true]
  · have e0 : pw ≠ 0 := by omega
    have e1 : (nI pw = (-1 : Int32)) = False := by rcases hp' with rfl | rfl <;> exact eq_false (by decide +kernel)
    refine ⟨_, fun m => ?_, ptC_F acc.length (pw, 0), by unfold wl; rw [if_neg e0]; exact hc.pt (pw, 0)⟩
    have a3 := fun d m => t_put (sc := sc) (w := w) (m := m) d acc.length (pw, 0) hc.2.2.2.2.2.1 hl (show (0 : Nat) < 10000 by decide) (by show pw < 16; omega)
    dsimp only at a3
    unfold wv
    rw [if_neg e0]
    simp (disch := first | assumption | omega | decide | (simp only [ma_wd0, ma_wdi, ma_wdr, ma_wdl, ma_wdn] <;> omega)) only [↓reduceIte, evK, evL, evS, evA, evJ, Option.bind_some, Option.toList, List.cons_append, List.nil_append, nI_add, pk_mul, bI0, ite_not, ev_rbb, up_n, up_s, up_u, pk_us, pk_un, Nat.reduceAdd, nI_ltT, nI_ltF, nI_leT, nI_leF, nI_eqT, nI_eqF, en_Law_putIfAny, bk_Law_putIfAny, gfC, gfM, ev_r0, ev_r1, eq_self, n_m1e, true_and, and_true, false_and, and_false, and_self, not_true_eq_false, not_false_eq_true, e1, ce_Law_put, a3]
theorem cX.pia {f p : Nat} (d pw : Nat) (c : Nat → Nat → Int32) (hp' : pw = 0 ∨ pw = 4 ∨ pw = 5) (h : cX f p c) : ∃ c', (∀ m, cc sc (d + 1) 60 [.ref 85, .int (wv pw)] (hp c w m) = some (none, hp c' w m)) ∧ cF c c' ∧ cX f p c' := by
  rcases hp' with rfl | hp'
  · refine ⟨c, fun m => ?_, cF.rf, h⟩
    simp (disch := first | assumption | omega | decide | (simp only [ma_wd0, ma_wdi, ma_wdr, ma_wdl, ma_wdn] <;> omega)) only [↓reduceIte, evK, evL, evS, evA, evJ, Option.bind_some, Option.toList, List.cons_append, List.nil_append, nI_add, pk_mul, bI0, ite_not, ev_rbb, up_n, up_s, up_u, pk_us, pk_un, Nat.reduceAdd, nI_ltT, nI_ltF, nI_leT, nI_leF, nI_eqT, nI_eqF, wv, en_Law_putIfAny, bk_Law_putIfAny, gfC, gfM, ev_r0, ev_r1, eq_self, n_m1e, true_and, and_true, false_and, and_false, and_self, not_true_eq_false, not_false_eq_true]
  · have e0 : pw ≠ 0 := by omega
    have e1 : (nI pw = (-1 : Int32)) = False := by rcases hp' with rfl | rfl <;> exact eq_false (by decide +kernel)
    obtain ⟨c', r1, r2, r3⟩ := cX.put (sc := sc) (w := w) d (nI pw) (nI 0) h
    refine ⟨c', fun m => ?_, r2, r3⟩
    unfold wv
    rw [if_neg e0]
    simp (disch := first | assumption | omega | decide | (simp only [ma_wd0, ma_wdi, ma_wdr, ma_wdl, ma_wdn] <;> omega)) only [↓reduceIte, evK, evL, evS, evA, evJ, Option.bind_some, Option.toList, List.cons_append, List.nil_append, nI_add, pk_mul, bI0, ite_not, ev_rbb, up_n, up_s, up_u, pk_us, pk_un, Nat.reduceAdd, nI_ltT, nI_ltF, nI_leT, nI_leF, nI_eqT, nI_eqF, en_Law_putIfAny, bk_Law_putIfAny, gfC, gfM, ev_r0, ev_r1, eq_self, n_m1e, true_and, and_true, false_and, and_false, and_self, not_true_eq_false, not_false_eq_true, e1, ce_Law_put, r1]
/-- the reference: what waited is written, then it stands at the head of its loop -/
theorem t_wem (d pw i : Nat) (acc : List lA) (m : Nat → Nat → Int32) (hp' : pw = 0 ∨ pw = 4 ∨ pw = 5) (hm : mA N T i acc m) (hl : (acc.flatMap lB_x).length < 400) : ∃ m', (∀ x1, ∃ x1', ∀ c0, hS2 sc (d + 6) pw x1 (hp c0 w m) = ev sc (d + 6) 196 (pm_blk 196 10) [some (.ref 138), x1'] [] (hp c0 w m')) ∧ mF m m' ∧ mA N T i (acc ++ wl pw) m' := by
  rcases hp' with rfl | hp'
  · exact ⟨m, fun x1 => ⟨x1, fun c0 => rfl⟩, mF.rf, by simpa [wl] using hm⟩
  · have e0 : pw ≠ 0 := by omega
    refine ⟨emM (acc.flatMap lB_x).length (pw - 2, 0) m, fun x1 => ⟨some (.int (nI (pw - 2))), fun c0 => ?_⟩, emM_F _ _, ?_⟩
    · have a3 := fun d c => t_emits (sc := sc) (w := w) (c := c) d (acc.flatMap lB_x).length (pw - 2, 0) hm.2.2.2.2.1 hl
      dsimp only at a3
      unfold hS2
      rw [if_neg e0]
      simp (disch := first | assumption | omega | decide | (simp only [ma_wd0, ma_wdi, ma_wdr, ma_wdl, ma_wdn] <;> omega)) only [↓reduceIte, evK, evL, evS, evA, evJ, Option.bind_some, Option.toList, List.cons_append, List.nil_append, nI_add, pk_mul, bI0, ite_not, ev_rbb, up_n, up_s, up_u, pk_us, pk_un, Nat.reduceAdd, nI_ltT, nI_ltF, nI_leT, nI_leF, nI_eqT, nI_eqF, bk_MO_readSum, ce_MO_emits, a3]
    · unfold wl
      rw [if_neg e0]
      exact hm.em (pw, 0) (pw - 2, 0) (by rcases hp' with rfl | rfl <;> rfl)
theorem j_sumL (d' : Nat) (hT : tOK N T) (hR : rdS sc w N T m0) : ∀ (k i pw : Nat) (acc : List lA), i + k = N → i < N → (pw = 0 ∨ pw = 4 ∨ pw = 5) → lQ acc (wt pw).length i → ∃ r : oR, oL i (wt pw).length N r ∧ oT false (false :: wt pw) 3 r ∧
    (∀ d n x4 c, cA N T i acc c → n + N ≤ i + 400 → ∃ c', (∀ m1, hSum sc (d + 3) (wv pw) (nI 1) n x4 (hp c w m1) = some (some (.int (oB r)), hp c' w m1)) ∧ cF c c' ∧ oC N T acc r c') ∧
    (∀ x1 m, xK m0 m → mA N T i acc m → ∃ v1 m1, (∀ c0, hPro sc (d' + 5) x1 (hp c0 w m) = some (some (.int v1), hp c0 w m1)) ∧ ((v1 = -1 ∧ oV r = -1 ∧ mF m m1 ∧ oM N T acc r m1) ∨ (v1 = nI 0 ∧ ∃ m', (∀ c0 x1', hS2 sc (d' + 6) pw x1' (hp c0 w m1) = some (some (.int (oV r)), hp c0 w m')) ∧ mF m m' ∧ oM N T acc r m'))) := by
  intro k
  induction k using Nat.strongRecOn with
  | ind k ih =>
  intro i pw acc hk hi hpw hQ
  have hN := hT.2.1
  have hwt := wt_le pw
  have hwl := wl_len pw
  have hwf := wl_flen hpw
  have hq0 : lQ acc 0 i := ⟨by have := hQ.1; omega, by have := hQ.2; omega⟩
  obtain ⟨r1, l1, t1, n1, c1, m1⟩ := j_prod (sc := sc) (w := w) (m0 := m0) d' hT hR k i acc hk hi hq0
  cases r1 with
  | inr x =>
    obtain ⟨f, p⟩ := x
    refine ⟨.inr (f, p), l1, trivial, fun d n x4 c hc hb => ?_, fun x1 m hx hm => ?_⟩
    · obtain ⟨n', x4', c2, q1, q2, q3, q4⟩ := c1 d (wv pw) n x4 c hc hb
      obtain ⟨c3, s1, s2, s3⟩ := cX.pia (sc := sc) (w := w) (d + 1) pw c2 hpw q3
      refine ⟨c3, fun m1 => ?_, q2.tr s2, s3⟩
      rw [q1]
      unfold hSum
      rw [bh_Reader_readSum_9]
      simp (disch := first | assumption | omega | decide | (simp only [ma_wd0, ma_wdi, ma_wdr, ma_wdl, ma_wdn] <;> omega)) only [↓reduceIte, evK, evL, evS, evA, evJ, Option.bind_some, Option.toList, List.cons_append, List.nil_append, nI_add, pk_mul, bI0, ite_not, ev_rbb, up_n, up_s, up_u, pk_us, pk_un, Nat.reduceAdd, nI_ltT, nI_ltF, nI_leT, nI_leF, nI_eqT, nI_eqF, oB, bk_Reader_readSum, gfC, gfM, ev_r0, ev_r1, eq_self, n_m1e, true_and, and_true, false_and, and_false, and_self, not_true_eq_false, not_false_eq_true, ce_Law_putIfAny, s1]
    · obtain ⟨m2, q1, q2, q3⟩ := m1 x1 m hx hm
      exact ⟨-1, m2, q1, Or.inl ⟨rfl, rfl, q2, q3⟩⟩
  | inl x =>
    obtain ⟨as, j⟩ := x
    obtain ⟨b1, b2, b3, b4⟩ := l1
    have hQj : lQ (acc ++ as) (wt pw).length j := hQ.app (by omega) (by omega)
    obtain ⟨k0, k1, k2, k3, k4⟩ := hT.2.2 j b2
    have nj := n1 as j rfl
    by_cases h1 : T 0 j = 43 ∨ T 0 j = 45
    · have hn := hT.nx b2 (by omega)
      have hl1 : (acc ++ as).length < 400 := by have := hQj.1; omega
      have hl2 : ((acc ++ as).flatMap lB_x).length < 400 := by have := hQj.2; omega
      have hQ1 : lQ ((acc ++ as) ++ wl pw) 1 (j + 1) := ⟨by have := hQj.1; rw [List.length_append]; omega, by have := hQj.2; rw [List.flatMap_append, List.length_append]; omega⟩
      have hq1 : lQ ((acc ++ as) ++ wl pw) 0 (j + 1) := ⟨by have := hQ1.1; omega, by have := hQ1.2; omega⟩
      obtain ⟨r2, l2, t2, c2, m2, e2⟩ := j_operand d' (j + 1) ((acc ++ as) ++ wl pw) hT hR hn hq1
      obtain ⟨pw', hpw', epw, e45⟩ : ∃ pw', (pw' = 4 ∨ pw' = 5) ∧ pw' ≠ 0 ∧ ((T 0 j = 43 ∧ pw' = 4) ∨ (T 0 j = 45 ∧ pw' = 5)) := by
        rcases h1 with z | z
        · exact ⟨4, Or.inl rfl, by decide, Or.inl ⟨z, rfl⟩⟩
        · exact ⟨5, Or.inr rfl, by decide, Or.inr ⟨z, rfl⟩⟩
      have ewt : wt pw' = [false] := by unfold wt; rw [if_neg epw]
      cases r2 with
      | inr x =>
        obtain ⟨f, p⟩ := x
        refine ⟨.inr (f, p), l2, trivial, fun d n x4 c hc hb => ?_, fun x1 m hx hm => ?_⟩
        · obtain ⟨n', x4', c3, q1, q2, q3, q4⟩ := c1 d (wv pw) n x4 c hc hb
          have hb' := q4 as j rfl
          have q3 : cA N T j (acc ++ as) c3 := q3
          have hsk := q3.sk hn
          obtain ⟨c4, s1, s2, s3⟩ := t_pia (sc := sc) (w := w) (d + 1) pw (j + 1) (acc ++ as) (skC j c3) hpw hsk hl1
          obtain ⟨c5, u1, u2, u3⟩ := c2 d c4 s3
          obtain ⟨c6, v1, v2, v3⟩ := cX.pia (sc := sc) (w := w) (d + 1) pw' c5 (Or.inr hpw') u3
          refine ⟨c6, fun m1 => ?_, (((q2.tr skC_F).tr s2).tr u2).tr v2, v3⟩
          have a1 := fun d m => t_now (sc := sc) (w := w) (m := m) d hT q3.1 q3.2.1 b2
          have a2 := fun d m => t_skip (sc := sc) (w := w) (m := m) d q3.2.1
          unfold wv at v1
          rw [if_neg epw] at v1
          rw [q1]
          unfold hSum
          rcases e45 with ⟨z, rfl⟩ | ⟨z, rfl⟩
          · rw [z] at a1
            conv => lhs; rw [bh_Reader_readSum_9]
            simp (disch := first | assumption | omega | decide | (simp only [ma_wd0, ma_wdi, ma_wdr, ma_wdl, ma_wdn] <;> omega)) only [↓reduceIte, evK, evL, evS, evA, evJ, Option.bind_some, Option.toList, List.cons_append, List.nil_append, nI_add, pk_mul, bI0, ite_not, ev_rbb, up_n, up_s, up_u, pk_us, pk_un, Nat.reduceAdd, nI_ltT, nI_ltF, nI_leT, nI_leF, nI_eqT, nI_eqF, oB, bk_Reader_readSum, gfC, gfM, ev_r0, ev_r1, eq_self, n_m1e, true_and, and_true, false_and, and_false, and_self, not_true_eq_false, not_false_eq_true, ce_Tokens_now, a1, ce_Tokens_skip, a2, ce_Law_putIfAny, s1, ce_Reader_readOperand, u1]
            rw [bh_Reader_readSum_9]
            simp (disch := first | assumption | omega | decide | (simp only [ma_wd0, ma_wdi, ma_wdr, ma_wdl, ma_wdn] <;> omega)) only [↓reduceIte, evK, evL, evS, evA, evJ, Option.bind_some, Option.toList, List.cons_append, List.nil_append, nI_add, pk_mul, bI0, ite_not, ev_rbb, up_n, up_s, up_u, pk_us, pk_un, Nat.reduceAdd, nI_ltT, nI_ltF, nI_leT, nI_leF, nI_eqT, nI_eqF, oB, bk_Reader_readSum, gfC, gfM, ev_r0, ev_r1, eq_self, n_m1e, true_and, and_true, false_and, and_false, and_self, not_true_eq_false, not_false_eq_true, ce_Law_putIfAny, v1]
          · rw [z] at a1
            conv => lhs; rw [bh_Reader_readSum_9]
            simp (disch := first | assumption | omega | decide | (simp only [ma_wd0, ma_wdi, ma_wdr, ma_wdl, ma_wdn] <;> omega)) only [↓reduceIte, evK, evL, evS, evA, evJ, Option.bind_some, Option.toList, List.cons_append, List.nil_append, nI_add, pk_mul, bI0, ite_not, ev_rbb, up_n, up_s, up_u, pk_us, pk_un, Nat.reduceAdd, nI_ltT, nI_ltF, nI_leT, nI_leF, nI_eqT, nI_eqF, oB, bk_Reader_readSum, gfC, gfM, ev_r0, ev_r1, eq_self, n_m1e, true_and, and_true, false_and, and_false, and_self, not_true_eq_false, not_false_eq_true, ce_Tokens_now, a1, ce_Tokens_skip, a2, ce_Law_putIfAny, s1, ce_Reader_readOperand, u1]
            rw [bh_Reader_readSum_9]
            simp (disch := first | assumption | omega | decide | (simp only [ma_wd0, ma_wdi, ma_wdr, ma_wdl, ma_wdn] <;> omega)) only [↓reduceIte, evK, evL, evS, evA, evJ, Option.bind_some, Option.toList, List.cons_append, List.nil_append, nI_add, pk_mul, bI0, ite_not, ev_rbb, up_n, up_s, up_u, pk_us, pk_un, Nat.reduceAdd, nI_ltT, nI_ltF, nI_leT, nI_leF, nI_eqT, nI_eqF, oB, bk_Reader_readSum, gfC, gfM, ev_r0, ev_r1, eq_self, n_m1e, true_and, and_true, false_and, and_false, and_self, not_true_eq_false, not_false_eq_true, ce_Law_putIfAny, v1]
        · obtain ⟨m3, q1, q2, q3⟩ := m1 x1 m hx hm
          have q3 : mA N T j (acc ++ as) m3 := q3
          obtain ⟨m4, s1, s2, s3⟩ := t_wem (sc := sc) (w := w) d' pw j (acc ++ as) m3 hpw q3 hl2
          obtain ⟨m5, g1, g2, g3, g4⟩ := hR (d' + 2) j _ _ (s2.xK (q2.xK hx)) s3 hn
          obtain ⟨m6, u1, u2, u3⟩ := m2 m5 ((rd_F g2 g3).xK (s2.xK (q2.xK hx))) g4
          refine ⟨nI 0, m3, q1, Or.inr ⟨rfl, m6, fun c0 x1' => ?_, ((q2.tr s2).tr (rd_F g2 g3)).tr u2, u3⟩⟩
          obtain ⟨y1, s1⟩ := s1 x1'
          have a1 := fun d c => t_isSign (sc := sc) (w := w) (c := c) d 43 s3 (by unfold tkS; omega)
          have a2 := fun d c => t_isSign (sc := sc) (w := w) (c := c) d 45 s3 (by unfold tkS; omega)
          have e20 := s3.1.vS (by unfold tkS; omega)
          rw [s1 c0, bh_MO_readSum_10]
          rcases e45 with ⟨z, rfl⟩ | ⟨z, rfl⟩
          · rw [bI_t z] at a1
            rw [z] at e20
            simp (disch := first | assumption | omega | decide | (simp only [ma_wd0, ma_wdi, ma_wdr, ma_wdl, ma_wdn] <;> omega)) only [↓reduceIte, evK, evL, evS, evA, evJ, Option.bind_some, Option.toList, List.cons_append, List.nil_append, nI_add, pk_mul, bI0, ite_not, ev_rbb, up_n, up_s, up_u, pk_us, pk_un, Nat.reduceAdd, nI_ltT, nI_ltF, nI_leT, nI_leF, nI_eqT, nI_eqF, bk_MO_readSum, gfC, gfM, ev_r0, ev_r1, eq_self, n_m1e, true_and, and_true, false_and, and_false, and_self, not_true_eq_false, not_false_eq_true, ce_MO_isSign, a1, e20, ce_MO_reads, g1, ce_MO_readProduct, en_MO_readProduct, bk_MO_readProduct, ce_MO_readUnit, u1, oV]
          · rw [bI_f (by omega)] at a1
            rw [bI_t z] at a2
            rw [z] at e20
            simp (disch := first | assumption | omega | decide | (simp only [ma_wd0, ma_wdi, ma_wdr, ma_wdl, ma_wdn] <;> omega)) only [↓reduceIte, evK, evL, evS, evA, evJ, Option.bind_some, Option.toList, List.cons_append, List.nil_append, nI_add, pk_mul, bI0, ite_not, ev_rbb, up_n, up_s, up_u, pk_us, pk_un, Nat.reduceAdd, nI_ltT, nI_ltF, nI_leT, nI_leF, nI_eqT, nI_eqF, bk_MO_readSum, gfC, gfM, ev_r0, ev_r1, eq_self, n_m1e, true_and, and_true, false_and, and_false, and_self, not_true_eq_false, not_false_eq_true, ce_MO_isSign, a1, a2, e20, ce_MO_reads, g1, ce_MO_readProduct, en_MO_readProduct, bk_MO_readProduct, ce_MO_readUnit, u1, oV]
      | inl x =>
        obtain ⟨bs, j2⟩ := x
        obtain rfl := e2 bs j2 rfl
        obtain ⟨f1, f2, f3, f4⟩ := l2
        have hQ3 : lQ (acc ++ as ++ wl pw ++ bs) (wt pw').length (j + 1 + 1) := by
          rw [ewt]
          exact hQ1.app (by omega) (by omega)
        obtain ⟨r, l3, t3, c3, m3⟩ := ih (N - (j + 2)) (by omega) (j + 1 + 1) pw' _ (by omega) f2 (Or.inr hpw') hQ3
        rw [ewt] at l3 t3
        have eas : acc ++ as ++ wl pw ++ bs = acc ++ (as ++ wl pw ++ bs) := by simp only [List.append_assoc]
        rw [eas] at c3 m3
        refine ⟨oP (as ++ wl pw ++ bs) r, oP_L l3 (by omega) (by simp only [List.length_append, List.length_singleton]; omega) (by simp only [List.flatMap_append, List.length_append, List.length_singleton]; omega), oP_T t3 (fun t ht => ?_) (by omega), fun d n x4 c hc hb => ?_, fun x1 m hx hm => ?_⟩
        · have z1 := t1 (wt pw ++ t) (by rw [List.length_append]; omega)
          have z2 := wl_T hpw t (by omega)
          have z3 := t2 (false :: t) (by rw [List.length_cons]; omega)
          rw [List.cons_append] at z2
          rw [lA_T_app, lA_T_app, List.cons_append]
          rw [List.cons_append, List.nil_append] at z1
          rw [z1, Option.bind_some, z2, Option.bind_some]
          exact z3
        · obtain ⟨n', x4', c4, q1, q2, q3, q4⟩ := c1 d (wv pw) n x4 c hc hb
          have hb' := q4 as j rfl
          have q3 : cA N T j (acc ++ as) c4 := q3
          have hsk := q3.sk hn
          obtain ⟨c5, s1, s2, s3⟩ := t_pia (sc := sc) (w := w) (d + 1) pw (j + 1) (acc ++ as) (skC j c4) hpw hsk hl1
          obtain ⟨c6, u1, u2, u3⟩ := c2 d c5 s3
          have u3 : cA N T (j + 1 + 1) (acc ++ as ++ wl pw ++ bs) c6 := u3
          rw [eas] at u3
          obtain ⟨c7, v1, v2, v3⟩ := c3 d (n' + 1) (some (.int (nI (T 0 j)))) c6 u3 (by omega)
          refine ⟨c7, fun m1 => ?_, (((q2.tr skC_F).tr s2).tr u2).tr v2, oP_C v3⟩
          have a1 := fun d m => t_now (sc := sc) (w := w) (m := m) d hT q3.1 q3.2.1 b2
          have a2 := fun d m => t_skip (sc := sc) (w := w) (m := m) d q3.2.1
          rw [q1, oP_B, ← v1 m1]
          unfold hSum wv
          rw [if_neg epw]
          unfold wv at s1
          rcases e45 with ⟨z, rfl⟩ | ⟨z, rfl⟩
          · rw [z] at a1 ⊢
            conv => lhs; rw [bh_Reader_readSum_9]
            simp (disch := first | assumption | omega | decide | (simp only [ma_wd0, ma_wdi, ma_wdr, ma_wdl, ma_wdn] <;> omega)) only [↓reduceIte, evK, evL, evS, evA, evJ, Option.bind_some, Option.toList, List.cons_append, List.nil_append, nI_add, pk_mul, bI0, ite_not, ev_rbb, up_n, up_s, up_u, pk_us, pk_un, Nat.reduceAdd, nI_ltT, nI_ltF, nI_leT, nI_leF, nI_eqT, nI_eqF, oB, bk_Reader_readSum, gfC, gfM, ev_r0, ev_r1, eq_self, n_m1e, true_and, and_true, false_and, and_false, and_self, not_true_eq_false, not_false_eq_true, ce_Tokens_now, a1, ce_Tokens_skip, a2, ce_Law_putIfAny, s1, ce_Reader_readOperand, u1]
          · rw [z] at a1 ⊢
            conv => lhs; rw [bh_Reader_readSum_9]
            simp (disch := first | assumption | omega | decide | (simp only [ma_wd0, ma_wdi, ma_wdr, ma_wdl, ma_wdn] <;> omega)) only [↓reduceIte, evK, evL, evS, evA, evJ, Option.bind_some, Option.toList, List.cons_append, List.nil_append, nI_add, pk_mul, bI0, ite_not, ev_rbb, up_n, up_s, up_u, pk_us, pk_un, Nat.reduceAdd, nI_ltT, nI_ltF, nI_leT, nI_leF, nI_eqT, nI_eqF, oB, bk_Reader_readSum, gfC, gfM, ev_r0, ev_r1, eq_self, n_m1e, true_and, and_true, false_and, and_false, and_self, not_true_eq_false, not_false_eq_true, ce_Tokens_now, a1, ce_Tokens_skip, a2, ce_Law_putIfAny, s1, ce_Reader_readOperand, u1]
        · obtain ⟨m4, q1, q2, q3⟩ := m1 x1 m hx hm
          have q3 : mA N T j (acc ++ as) m4 := q3
          obtain ⟨m5, s1, s2, s3⟩ := t_wem (sc := sc) (w := w) d' pw j (acc ++ as) m4 hpw q3 hl2
          obtain ⟨m6, g1, g2, g3, g4⟩ := hR (d' + 2) j _ _ (s2.xK (q2.xK hx)) s3 hn
          have hx6 := (rd_F g2 g3).xK (s2.xK (q2.xK hx))
          obtain ⟨m7, u1, u2, u3⟩ := m2 m6 hx6 g4
          have u3 : mA N T (j + 1 + 1) (acc ++ as ++ wl pw ++ bs) m7 := u3
          rw [eas] at u3
          obtain ⟨v1, m8, p1, p2⟩ := m3 none m7 (u2.xK hx6) u3
          have a1 := fun d c => t_isSign (sc := sc) (w := w) (c := c) d 43 s3 (by unfold tkS; omega)
          have a2 := fun d c => t_isSign (sc := sc) (w := w) (c := c) d 45 s3 (by unfold tkS; omega)
          have e20 := s3.1.vS (by unfold tkS; omega)
          unfold hPro at p1
          have hfr := ((q2.tr s2).tr (rd_F g2 g3)).tr u2
          rcases p2 with ⟨rfl, ev, p3, p4⟩ | ⟨rfl, m9, p3, p4, p5⟩
          · refine ⟨nI 0, m4, q1, Or.inr ⟨rfl, m8, fun c0 x1' => ?_, hfr.tr p3, oP_M p4⟩⟩
            obtain ⟨y1, s1⟩ := s1 x1'
            rw [s1 c0, bh_MO_readSum_10, oP_V, ev]
            rcases e45 with ⟨z, rfl⟩ | ⟨z, rfl⟩
            · rw [bI_t z] at a1
              rw [z] at e20
              simp (disch := first | assumption | omega | decide | (simp only [ma_wd0, ma_wdi, ma_wdr, ma_wdl, ma_wdn] <;> omega)) only [↓reduceIte, evK, evL, evS, evA, evJ, Option.bind_some, Option.toList, List.cons_append, List.nil_append, nI_add, pk_mul, bI0, ite_not, ev_rbb, up_n, up_s, up_u, pk_us, pk_un, Nat.reduceAdd, nI_ltT, nI_ltF, nI_leT, nI_leF, nI_eqT, nI_eqF, bk_MO_readSum, gfC, gfM, ev_r0, ev_r1, eq_self, n_m1e, true_and, and_true, false_and, and_false, and_self, not_true_eq_false, not_false_eq_true, ce_MO_isSign, a1, e20, ce_MO_reads, g1, ce_MO_readProduct, en_MO_readProduct, bk_MO_readProduct, ce_MO_readUnit, u1, oV, p1]
            · rw [bI_f (by omega)] at a1
              rw [bI_t z] at a2
              rw [z] at e20
              simp (disch := first | assumption | omega | decide | (simp only [ma_wd0, ma_wdi, ma_wdr, ma_wdl, ma_wdn] <;> omega)) only [↓reduceIte, evK, evL, evS, evA, evJ, Option.bind_some, Option.toList, List.cons_append, List.nil_append, nI_add, pk_mul, bI0, ite_not, ev_rbb, up_n, up_s, up_u, pk_us, pk_un, Nat.reduceAdd, nI_ltT, nI_ltF, nI_leT, nI_leF, nI_eqT, nI_eqF, bk_MO_readSum, gfC, gfM, ev_r0, ev_r1, eq_self, n_m1e, true_and, and_true, false_and, and_false, and_self, not_true_eq_false, not_false_eq_true, ce_MO_isSign, a1, a2, e20, ce_MO_reads, g1, ce_MO_readProduct, en_MO_readProduct, bk_MO_readProduct, ce_MO_readUnit, u1, oV, p1]
          · refine ⟨nI 0, m4, q1, Or.inr ⟨rfl, m9, fun c0 x1' => ?_, hfr.tr p4, oP_M p5⟩⟩
            obtain ⟨y1, s1⟩ := s1 x1'
            have p3 := p3 c0 none
            unfold hS2 at p3
            rw [if_neg epw] at p3
            rw [s1 c0, bh_MO_readSum_10, oP_V, ← p3]
            rcases e45 with ⟨z, rfl⟩ | ⟨z, rfl⟩
            · rw [bI_t z] at a1
              rw [z] at e20
              simp (disch := first | assumption | omega | decide | (simp only [ma_wd0, ma_wdi, ma_wdr, ma_wdl, ma_wdn] <;> omega)) only [↓reduceIte, evK, evL, evS, evA, evJ, Option.bind_some, Option.toList, List.cons_append, List.nil_append, nI_add, pk_mul, bI0, ite_not, ev_rbb, up_n, up_s, up_u, pk_us, pk_un, Nat.reduceAdd, nI_ltT, nI_ltF, nI_leT, nI_leF, nI_eqT, nI_eqF, Nat.reduceSub, bk_MO_readSum, gfC, gfM, ev_r0, ev_r1, eq_self, n_m1e, true_and, and_true, false_and, and_false, and_self, not_true_eq_false, not_false_eq_true, ce_MO_isSign, a1, e20, ce_MO_reads, g1, ce_MO_readProduct, en_MO_readProduct, bk_MO_readProduct, ce_MO_readUnit, u1, oV, p1]
            · rw [bI_f (by omega)] at a1
              rw [bI_t z] at a2
              rw [z] at e20
              simp (disch := first | assumption | omega | decide | (simp only [ma_wd0, ma_wdi, ma_wdr, ma_wdl, ma_wdn] <;> omega)) only [↓reduceIte, evK, evL, evS, evA, evJ, Option.bind_some, Option.toList, List.cons_append, List.nil_append, nI_add, pk_mul, bI0, ite_not, ev_rbb, up_n, up_s, up_u, pk_us, pk_un, Nat.reduceAdd, nI_ltT, nI_ltF, nI_leT, nI_leF, nI_eqT, nI_eqF, Nat.reduceSub, bk_MO_readSum, gfC, gfM, ev_r0, ev_r1, eq_self, n_m1e, true_and, and_true, false_and, and_false, and_self, not_true_eq_false, not_false_eq_true, ce_MO_isSign, a1, a2, e20, ce_MO_reads, g1, ce_MO_readProduct, en_MO_readProduct, bk_MO_readProduct, ce_MO_readUnit, u1, oV, p1]
    · have hl1 : (acc ++ as).length < 401 := by have := hQj.1; omega
      have hQ1 : lQ ((acc ++ as) ++ wl pw) 0 j := ⟨by have := hQj.1; rw [List.length_append]; omega, by have := hQj.2; rw [List.flatMap_append, List.length_append]; omega⟩
      refine ⟨.inl (as ++ wl pw, j), ⟨b1, b2, by rw [List.length_append]; omega, by rw [List.flatMap_append, List.length_append]; omega⟩, fun t ht => ?_, fun d n x4 c hc hb => ?_, fun x1 m hx hm => ?_⟩
      · have z1 := t1 (wt pw ++ t) (by rw [List.length_append]; omega)
        have z2 := wl_T hpw t (by omega)
        rw [List.cons_append] at z2
        rw [lA_T_app, List.cons_append]
        rw [List.cons_append, List.nil_append] at z1
        rw [z1, Option.bind_some, z2]
      · obtain ⟨n', x4', c4, q1, q2, q3, q4⟩ := c1 d (wv pw) n x4 c hc hb
        have hb' := q4 as j rfl
        have q3 : cA N T j (acc ++ as) c4 := q3
        have a1 := fun d m => t_now (sc := sc) (w := w) (m := m) d hT q3.1 q3.2.1 b2
        obtain ⟨c5, s1, s2, s3⟩ : ∃ c', (∀ m, cc sc (d + 1 + 1) 60 [.ref 85, .int (wv pw)] (hp c4 w m) = some (none, hp c' w m)) ∧ cF c4 c' ∧ cA N T j (acc ++ as ++ wl pw) c' := by
          by_cases z : pw = 0
          · subst z
            refine ⟨c4, fun m => ?_, cF.rf, by simpa [wl] using q3⟩
            simp (disch := first | assumption | omega | decide | (simp only [ma_wd0, ma_wdi, ma_wdr, ma_wdl, ma_wdn] <;> omega)) only [↓reduceIte, evK, evL, evS, evA, evJ, Option.bind_some, Option.toList, List.cons_append, List.nil_append, nI_add, pk_mul, bI0, ite_not, ev_rbb, up_n, up_s, up_u, pk_us, pk_un, Nat.reduceAdd, nI_ltT, nI_ltF, nI_leT, nI_leF, nI_eqT, nI_eqF, wv, en_Law_putIfAny, bk_Law_putIfAny, gfC, gfM, ev_r0, ev_r1, eq_self, n_m1e, true_and, and_true, false_and, and_false, and_self, not_true_eq_false, not_false_eq_true]
          · refine t_pia (sc := sc) (w := w) (d + 1) pw j (acc ++ as) c4 hpw q3 ?_
            have e : (wt pw).length = 1 := by unfold wt; rw [if_neg z]; rfl
            have := hQj.1
            omega
        refine ⟨c5, fun m1 => ?_, q2.tr s2, by show cA N T j (acc ++ (as ++ wl pw)) c5; rw [← List.append_assoc]; exact s3⟩
        rw [q1]
        unfold hSum
        rw [bh_Reader_readSum_9]
        simp (disch := first | assumption | omega | decide | (simp only [ma_wd0, ma_wdi, ma_wdr, ma_wdl, ma_wdn] <;> omega)) only [↓reduceIte, evK, evL, evS, evA, evJ, Option.bind_some, Option.toList, List.cons_append, List.nil_append, nI_add, pk_mul, bI0, ite_not, ev_rbb, up_n, up_s, up_u, pk_us, pk_un, Nat.reduceAdd, nI_ltT, nI_ltF, nI_leT, nI_leF, nI_eqT, nI_eqF, oB, bk_Reader_readSum, gfC, gfM, ev_r0, ev_r1, eq_self, n_m1e, true_and, and_true, false_and, and_false, and_self, not_true_eq_false, not_false_eq_true, ce_Tokens_now, a1, ce_Law_putIfAny, s1]
      · obtain ⟨m4, q1, q2, q3⟩ := m1 x1 m hx hm
        have q3 : mA N T j (acc ++ as) m4 := q3
        obtain ⟨m5, s1, s2, s3⟩ : ∃ m', (∀ x1, ∃ x1', ∀ c0, hS2 sc (d' + 6) pw x1 (hp c0 w m4) = ev sc (d' + 6) 196 (pm_blk 196 10) [some (.ref 138), x1'] [] (hp c0 w m')) ∧ mF m4 m' ∧ mA N T j (acc ++ as ++ wl pw) m' := by
          by_cases z : pw = 0
          · subst z
            exact ⟨m4, fun x1 => ⟨x1, fun c0 => rfl⟩, mF.rf, by simpa [wl] using q3⟩
          · refine t_wem (sc := sc) (w := w) d' pw j (acc ++ as) m4 hpw q3 ?_
            have e : (wt pw).length = 1 := by unfold wt; rw [if_neg z]; rfl
            have := hQj.2
            omega
        refine ⟨nI 0, m4, q1, Or.inr ⟨rfl, m5, fun c0 x1' => ?_, q2.tr s2, by show mA N T j (acc ++ (as ++ wl pw)) m5; rw [← List.append_assoc]; exact s3⟩⟩
        obtain ⟨y1, s1⟩ := s1 x1'
        have a1 := fun d c => t_isSign (sc := sc) (w := w) (c := c) d 43 s3 (by unfold tkS; omega)
        have a2 := fun d c => t_isSign (sc := sc) (w := w) (c := c) d 45 s3 (by unfold tkS; omega)
        rw [bI_f (by omega)] at a1 a2
        rw [s1 c0, bh_MO_readSum_10]
        simp (disch := first | assumption | omega | decide | (simp only [ma_wd0, ma_wdi, ma_wdr, ma_wdl, ma_wdn] <;> omega)) only [↓reduceIte, evK, evL, evS, evA, evJ, Option.bind_some, Option.toList, List.cons_append, List.nil_append, nI_add, pk_mul, bI0, ite_not, ev_rbb, up_n, up_s, up_u, pk_us, pk_un, Nat.reduceAdd, nI_ltT, nI_ltF, nI_leT, nI_leF, nI_eqT, nI_eqF, bk_MO_readSum, gfC, gfM, ev_r0, ev_r1, eq_self, n_m1e, true_and, and_true, false_and, and_false, and_self, not_true_eq_false, not_false_eq_true, ce_MO_isSign, a1, a2, oV]
theorem j_sum (d' i : Nat) (acc : List lA) (hT : tOK N T) (hR : rdS sc w N T m0) (hi : i < N) (h1 : 1 ≤ i) (hQ : lQ acc 0 i) : ∃ r : oR, oL i 0 N r ∧ oT false [] 3 r ∧
    (∀ d c, cA N T i acc c → qC sc w N T (d + 3) 75 [.ref 84] acc r c) ∧ (∀ m, xK m0 m → mA N T i acc m → qM sc w N T (d' + 6) 196 [.ref 138] acc r m) := by
  have hN := hT.2.1
  obtain ⟨r1, l1, t1, c1, m1, e1⟩ := j_operand d' i acc hT hR hi hQ
  cases r1 with
  | inr x =>
    obtain ⟨f, p⟩ := x
    refine ⟨.inr (f, p), l1, trivial, fun d c hc => ?_, fun m hx hm => ?_⟩
    · obtain ⟨c2, q1, q2, q3⟩ := c1 d c hc
      refine ⟨c2, fun m1 => ?_, q2, q3⟩
      have a1 : ∀ d m, cc sc (d + 1) 60 [.ref 85, .int (-1)] (hp c2 w m) = some (none, hp c2 w m) := fun d m => by
        simp (disch := first | assumption | omega | decide | (simp only [ma_wd0, ma_wdi, ma_wdr, ma_wdl, ma_wdn] <;> omega)) only [↓reduceIte, evK, evL, evS, evA, evJ, Option.bind_some, Option.toList, List.cons_append, List.nil_append, nI_add, pk_mul, bI0, ite_not, ev_rbb, up_n, up_s, up_u, pk_us, pk_un, Nat.reduceAdd, nI_ltT, nI_ltF, nI_leT, nI_leF, nI_eqT, nI_eqF, en_Law_putIfAny, bk_Law_putIfAny, gfC, gfM, ev_r0, ev_r1, eq_self, n_m1e, true_and, and_true, false_and, and_false, and_self, not_true_eq_false, not_false_eq_true]
      simp (disch := first | assumption | omega | decide | (simp only [ma_wd0, ma_wdi, ma_wdr, ma_wdl, ma_wdn] <;> omega)) only [↓reduceIte, evK, evL, evS, evA, evJ, Option.bind_some, Option.toList, List.cons_append, List.nil_append, nI_add, pk_mul, bI0, ite_not, ev_rbb, up_n, up_s, up_u, pk_us, pk_un, Nat.reduceAdd, nI_ltT, nI_ltF, nI_leT, nI_leF, nI_eqT, nI_eqF, en_Reader_readSum, ce_Reader_readOperand, q1, oB]
      rw [bh_Reader_readSum_9]
      simp (disch := first | assumption | omega | decide | (simp only [ma_wd0, ma_wdi, ma_wdr, ma_wdl, ma_wdn] <;> omega)) only [↓reduceIte, evK, evL, evS, evA, evJ, Option.bind_some, Option.toList, List.cons_append, List.nil_append, nI_add, pk_mul, bI0, ite_not, ev_rbb, up_n, up_s, up_u, pk_us, pk_un, Nat.reduceAdd, nI_ltT, nI_ltF, nI_leT, nI_leF, nI_eqT, nI_eqF, bk_Reader_readSum, gfC, gfM, ev_r0, ev_r1, eq_self, n_m1e, true_and, and_true, false_and, and_false, and_self, not_true_eq_false, not_false_eq_true, ce_Law_putIfAny, a1]
    · obtain ⟨m2, q1, q2, q3⟩ := m1 m hx hm
      refine ⟨m2, fun c0 => ?_, q2, q3⟩
      simp (disch := first | assumption | omega | decide | (simp only [ma_wd0, ma_wdi, ma_wdr, ma_wdl, ma_wdn] <;> omega)) only [↓reduceIte, evK, evL, evS, evA, evJ, Option.bind_some, Option.toList, List.cons_append, List.nil_append, nI_add, pk_mul, bI0, ite_not, ev_rbb, up_n, up_s, up_u, pk_us, pk_un, Nat.reduceAdd, nI_ltT, nI_ltF, nI_leT, nI_leF, nI_eqT, nI_eqF, en_MO_readSum, bk_MO_readSum, gfC, gfM, ev_r0, ev_r1, eq_self, n_m1e, true_and, and_true, false_and, and_false, and_self, not_true_eq_false, not_false_eq_true, ce_MO_readProduct, en_MO_readProduct, bk_MO_readProduct, ce_MO_readUnit, q1, oV]
  | inl x =>
    obtain ⟨as, j⟩ := x
    obtain rfl := e1 as j rfl
    obtain ⟨b1, b2, b3, b4⟩ := l1
    have hQ2 : lQ (acc ++ as) (wt 0).length (i + 1) := hQ.app (by omega) (by omega)
    obtain ⟨r, l2, t2, c2, m2⟩ := j_sumL (sc := sc) (w := w) (m0 := m0) d' hT hR (N - (i + 1)) (i + 1) 0 (acc ++ as) (by omega) b2 (Or.inl rfl) hQ2
    refine ⟨oP as r, oP_L l2 (by omega) (by show as.length + i + 0 ≤ _; omega) (by show (as.flatMap lB_x).length + i + 0 ≤ _; omega), oP_T t2 (fun t ht => t1 t (by omega)) (by omega), fun d c hc => ?_, fun m hx hm => ?_⟩
    · obtain ⟨c3, q1, q2, q3⟩ := c1 d c hc
      obtain ⟨c4, s1, s2, s3⟩ := c2 d 0 none c3 q3 (by omega)
      refine ⟨c4, fun m1 => ?_, q2.tr s2, oP_C s3⟩
      unfold hSum at s1
      rw [oP_B]
      simp (disch := first | assumption | omega | decide | (simp only [ma_wd0, ma_wdi, ma_wdr, ma_wdl, ma_wdn] <;> omega)) only [↓reduceIte, evK, evL, evS, evA, evJ, Option.bind_some, Option.toList, List.cons_append, List.nil_append, nI_add, pk_mul, bI0, ite_not, ev_rbb, up_n, up_s, up_u, pk_us, pk_un, Nat.reduceAdd, nI_ltT, nI_ltF, nI_leT, nI_leF, nI_eqT, nI_eqF, en_Reader_readSum, ce_Reader_readOperand, q1, oB]
      exact s1 m1
    · obtain ⟨m3, q1, q2, q3⟩ := m1 m hx hm
      obtain ⟨v1, m4, p1, p2⟩ := m2 none m3 (q2.xK hx) q3
      unfold hPro at p1
      rcases p2 with ⟨rfl, ev, p3, p4⟩ | ⟨rfl, m9, p3, p4, p5⟩
      · refine ⟨m4, fun c0 => ?_, q2.tr p3, oP_M p4⟩
        rw [oP_V, ev]
        simp (disch := first | assumption | omega | decide | (simp only [ma_wd0, ma_wdi, ma_wdr, ma_wdl, ma_wdn] <;> omega)) only [↓reduceIte, evK, evL, evS, evA, evJ, Option.bind_some, Option.toList, List.cons_append, List.nil_append, nI_add, pk_mul, bI0, ite_not, ev_rbb, up_n, up_s, up_u, pk_us, pk_un, Nat.reduceAdd, nI_ltT, nI_ltF, nI_leT, nI_leF, nI_eqT, nI_eqF, en_MO_readSum, bk_MO_readSum, gfC, gfM, ev_r0, ev_r1, eq_self, n_m1e, true_and, and_true, false_and, and_false, and_self, not_true_eq_false, not_false_eq_true, ce_MO_readProduct, en_MO_readProduct, bk_MO_readProduct, ce_MO_readUnit, q1, oV, p1]
      · refine ⟨m9, fun c0 => ?_, q2.tr p4, oP_M p5⟩
        have p3 := p3 c0 none
        unfold hS2 at p3
        rw [if_pos rfl] at p3
        rw [oP_V]
        simp (disch := first | assumption | omega | decide | (simp only [ma_wd0, ma_wdi, ma_wdr, ma_wdl, ma_wdn] <;> omega)) only [↓reduceIte, evK, evL, evS, evA, evJ, Option.bind_some, Option.toList, List.cons_append, List.nil_append, nI_add, pk_mul, bI0, ite_not, ev_rbb, up_n, up_s, up_u, pk_us, pk_un, Nat.reduceAdd, nI_ltT, nI_ltF, nI_leT, nI_leF, nI_eqT, nI_eqF, en_MO_readSum, bk_MO_readSum, gfC, gfM, ev_r0, ev_r1, eq_self, n_m1e, true_and, and_true, false_and, and_false, and_self, not_true_eq_false, not_false_eq_true, ce_MO_readProduct, en_MO_readProduct, bk_MO_readProduct, ce_MO_readUnit, q1, oV, p1]
        exact p3
end SX
