/-! ===== text: conditions ===== -/
theorem fl_and : ∀ n, (List.replicate n ((10, 0) : lA)).flatMap lB_x = List.replicate n (10, 0)
  | 0 => rfl
  | n + 1 => by rw [List.replicate_succ, List.flatMap_cons, fl_and n]; rfl
theorem fl_or : ∀ n, (List.replicate n ((11, 0) : lA)).flatMap lB_x = List.replicate n (11, 0)
  | 0 => rfl
  | n + 1 => by rw [List.replicate_succ, List.flatMap_cons, fl_or n]; rfl
noncomputable def hCon (sc : Nat × (Nat → Int32)) (d o q : Nat) (fine : Int32) (n : Nat) (x5 : Option Value) (h : List ma_C) : Option (Option Value × List ma_C) := ev sc d 78 (pm_blk 78 11) [some (.ref 84), some (.int (nI o)), some (.int (nI q)), some (.int fine), some (.int (nI n)), x5] [] h
section CC
variable {sc : Nat × (Nat → Int32)} {m0 : Nat → Nat → Int32} {w : Nat → Int64} {N : Nat} {T : Nat → Nat → Nat}
theorem lastN_or {P : List Nat} {q x : Nat} (h : lastN P x) (hq : q ≤ 1) (hx : x ≠ 11) : lastN (P ++ List.replicate q 11) x := by
  have : q = 0 ∨ q = 1 := by omega
  rcases this with rfl | rfl
  · simpa using h
  · exact lastN_app P (Ne.symm hx) (by omega)
/-- the class: one or nothing is put -/
theorem t_put01 (d k i : Nat) (acc : List lA) (c : Nat → Nat → Int32) (x : Nat) (hx : x = 10 ∨ x = 11) (hc : cA N T i acc c) (hl : acc.length < 400) : (∀ m, cc sc d 59 [.ref 85, .int (nI x), .int (nI 0)] (hp c w m) = some (none, hp (ptC acc.length (x, 0) c) w m)) ∧ cF c (ptC acc.length (x, 0) c) ∧ cA N T i (acc ++ [(x, 0)]) (ptC acc.length (x, 0) c) :=
  ⟨fun m => t_put (sc := sc) (w := w) (m := m) d acc.length (x, 0) hc.2.2.2.2.2.1 hl (show (0 : Nat) < 10000 by decide) (show x < 16 by omega), ptC_F _ _, hc.pt (x, 0)⟩
/-- the class behind a fault: to the end -/
theorem con_fail {f p : Nat} (d o q n : Nat) (hq : q ≤ 1) (x5 : Option Value) (c : Nat → Nat → Int32) (h : cX f p c) : ∃ c', (∀ m, hCon sc (d + 1) o q (nI 0) n x5 (hp c w m) = some (some (.int (nI 0)), hp c' w m)) ∧ cF c c' ∧ cX f p c' := by
  have : q = 0 ∨ q = 1 := by omega
  rcases this with rfl | rfl
  · refine ⟨c, fun m => ?_, cF.rf, h⟩
    unfold hCon
    rw [bh_Reader_readCondition_11]
    simp (disch := first | assumption | omega | decide | (simp only [ma_wd0, ma_wdi, ma_wdr, ma_wdl, ma_wdn] <;> omega)) only [↓reduceIte, evK, evL, evS, evA, evJ, Option.bind_some, Option.toList, List.cons_append, List.nil_append, nI_add, pk_mul, bI0, ite_not, ev_rbb, up_n, up_s, up_u, pk_us, pk_un, Nat.reduceAdd, nI_ltT, nI_ltF, nI_leT, nI_leF, nI_eqT, nI_eqF, bk_Reader_readCondition, gfC, gfM, ev_r0, ev_r1, eq_self, n_m1e, true_and, and_true, false_and, and_false, and_self, not_true_eq_false, not_false_eq_true]
  · obtain ⟨c', r1, r2, r3⟩ := cX.put (sc := sc) (w := w) d (nI 11) (nI 0) h
    refine ⟨c', fun m => ?_, r2, r3⟩
    unfold hCon
    rw [bh_Reader_readCondition_11]
    simp (disch := first | assumption | omega | decide | (simp only [ma_wd0, ma_wdi, ma_wdr, ma_wdl, ma_wdn] <;> omega)) only [↓reduceIte, evK, evL, evS, evA, evJ, Option.bind_some, Option.toList, List.cons_append, List.nil_append, nI_add, pk_mul, bI0, ite_not, ev_rbb, up_n, up_s, up_u, pk_us, pk_un, Nat.reduceAdd, nI_ltT, nI_ltF, nI_leT, nI_leF, nI_eqT, nI_eqF, bk_Reader_readCondition, gfC, gfM, ev_r0, ev_r1, eq_self, n_m1e, true_and, and_true, false_and, and_false, and_self, not_true_eq_false, not_false_eq_true, ce_Law_put, r1]
theorem rt_T (u q a : Nat) (hq : q ≤ 1) (ha : a ≤ 1) (t : List Bool) (ht : t.length + (6 + 2 * u) ≤ 32) : lA_T (List.replicate a (10, 0)) (true :: (List.replicate a true ++ List.replicate q true ++ t)) = some (true :: (List.replicate q true ++ t)) := by
  have : a = 0 ∨ a = 1 := by omega
  rcases this with rfl | rfl
  · rfl
  · simp only [List.replicate_one, List.cons_append, List.nil_append, lA_T, lA_t, List.length_cons, List.length_append, List.length_replicate]
    rw [if_pos (by omega)]
theorem rt_T2 (u q : Nat) (hq : q ≤ 1) (t : List Bool) (ht : t.length + (6 + 2 * u) ≤ 32) : lA_T (List.replicate q (11, 0)) (true :: (List.replicate q true ++ t)) = some (true :: t) := by
  have : q = 0 ∨ q = 1 := by omega
  rcases this with rfl | rfl
  · rfl
  · simp only [List.replicate_one, List.cons_append, List.nil_append, lA_T, lA_t, List.length_cons]
    rw [if_pos (by omega)]
theorem j_conL (d' u o : Nat) (hT : tOK N T) (hR : rdS sc w N T m0) (ho : o + u = 8) (H : oneAt sc w N T m0 d' u) : ∀ (k i q a : Nat) (acc : List lA), i + k = N → i < N → 1 ≤ i → q ≤ 1 → a ≤ 1 → lQ acc (q + a) i → ∃ r : oR, oL i (q + a) N r ∧ oT true (true :: (List.replicate a true ++ List.replicate q true)) (6 + 2 * u) r ∧
    (∀ e n x5 c, 2 * u + 5 ≤ e → cA N T i (acc ++ List.replicate a (10, 0)) c → n + N ≤ i + 400 → ∃ c', (∀ m1, hCon sc e o q (nI 1) n x5 (hp c w m1) = some (some (.int (oB r)), hp c' w m1)) ∧ cF c c' ∧ oC N T acc r c') ∧
    ∀ (P : List Nat) (b : Nat) (x3 : Option Value) (m : Nat → Nat → Int32), xK m0 m → mA N T i acc m → pM (P ++ List.replicate q 11 ++ List.replicate a 10) m → lastN P 9 → lastN P 10 → lastN P 11 → m 138 31 = nI o → b ≤ o → P.length ≤ 3 * o → lQ acc (P.length + (q + a)) i → match r with
      | .inl (as, j) => ∃ x3' m', (∀ c0, hAny sc (d' + 8) b (nI 0) x3 (hp c0 w m) = hEnd sc (d' + 8) b x3' (hp c0 w m')) ∧ mG m m' ∧ mA N T j (acc ++ as) m' ∧ pM P m' ∧ m' 138 31 = nI o
      | .inr (f, p) => ∃ m', (∀ c0, hAny sc (d' + 8) b (nI 0) x3 (hp c0 w m) = some (some (.int (-1)), hp c0 w m')) ∧ mG m m' ∧ m' 138 34 = nI f ∧ m' 138 35 = nI p := by
  intro k
  induction k using Nat.strongRecOn with
  | ind k ih =>
  intro i q a acc hk hi h1 hq ha hQ
  have hN := hT.2.1
  obtain ⟨k0, k1, k2, k3, k4⟩ := hT.2.2 i hi
  -- the reference: what waits as and, then as or, is written
  have sAnd : ∀ (P : List Nat) (m : Nat → Nat → Int32), mA N T i acc m → pM (P ++ List.replicate q 11 ++ List.replicate a 10) m → lastN P 10 → m 138 31 = nI o → P.length ≤ 3 * o → ∃ m', (∀ c0, cc sc (d' + 7) 204 [.ref 138, .int (nI 10)] (hp c0 w m) = some (none, hp c0 w m')) ∧ mG m m' ∧ mA N T i (acc ++ List.replicate a (10, 0)) m' ∧ pM (P ++ List.replicate q 11) m' ∧ m' 138 31 = nI o := by
    intro P m hA hP l10 h31 hPl
    obtain ⟨m', r1, r2, r3, r4, r5⟩ := t_settles (sc := sc) (w := w) (i := i) (N := N) (T := T) (d' + 6) 10 (P ++ List.replicate q 11) (lastN_or l10 hq (by omega)) (by omega) a o _ m hA hP h31 (fun z => by omega) (by omega) (by have := hQ.2; omega) (by rw [List.length_append, List.length_replicate]; omega)
    refine ⟨m', r1, r2, ?_, r4, r5⟩
    unfold mA
    rw [List.flatMap_append, fl_and]
    exact r3
  have sOr : ∀ (P : List Nat) (m : Nat → Nat → Int32), mA N T i (acc ++ List.replicate a (10, 0)) m → pM (P ++ List.replicate q 11) m → lastN P 11 → m 138 31 = nI o → P.length ≤ 3 * o → ∃ m', (∀ c0, cc sc (d' + 7) 204 [.ref 138, .int (nI 11)] (hp c0 w m) = some (none, hp c0 w m')) ∧ mG m m' ∧ mA N T i (acc ++ List.replicate a (10, 0) ++ List.replicate q (11, 0)) m' ∧ pM P m' ∧ m' 138 31 = nI o := by
    intro P m hA hP l11 h31 hPl
    obtain ⟨m', r1, r2, r3, r4, r5⟩ := t_settles (sc := sc) (w := w) (i := i) (N := N) (T := T) (d' + 6) 11 P l11 (by omega) q o _ m hA hP h31 (fun z => by omega) (by omega) (by have := hQ.2; rw [List.flatMap_append, fl_and, List.length_append, List.length_replicate]; omega) (by omega)
    refine ⟨m', r1, r2, ?_, r4, r5⟩
    unfold mA
    rw [List.flatMap_append, fl_or]
    exact r3
  have len1 : (acc ++ List.replicate a ((10, 0) : lA)).length = acc.length + a := by rw [List.length_append, List.length_replicate]
  have len2 : ((acc ++ List.replicate a ((10, 0) : lA)).flatMap lB_x).length = (acc.flatMap lB_x).length + a := by rw [List.flatMap_append, fl_and, List.length_append, List.length_replicate]
  have len3 : (acc ++ List.replicate a ((10, 0) : lA) ++ List.replicate q (11, 0)).length = acc.length + a + q := by rw [List.length_append, List.length_replicate, len1]
  have len4 : ((acc ++ List.replicate a ((10, 0) : lA) ++ List.replicate q (11, 0)).flatMap lB_x).length = (acc.flatMap lB_x).length + a + q := by rw [List.flatMap_append, fl_or, List.length_append, List.length_replicate, len2]
  by_cases z : T 0 i = 268
  · -- or
    have hn := hT.nx hi (by omega)
    have hQ1 : lQ (acc ++ List.replicate a ((10, 0) : lA) ++ List.replicate q (11, 0)) 1 (i + 1) := ⟨by have := hQ.1; rw [len3]; omega, by have := hQ.2; rw [len4]; omega⟩
    obtain ⟨r1, l1, t1, c1, m1⟩ := H o (i + 1) (acc ++ List.replicate a ((10, 0) : lA) ++ List.replicate q (11, 0)) ho hn (by omega) hQ1.dr
    have cls : ∀ e n x5 c, 2 * u + 5 ≤ e → cA N T i (acc ++ List.replicate a (10, 0)) c → n + N ≤ i + 400 → ∃ c', (∀ m1, hCon sc e o q (nI 1) n x5 (hp c w m1) = hCon sc e o 1 (oB r1) (n + 1) (some (.int (nI 268))) (hp c' w m1)) ∧ cF c c' ∧ oC N T (acc ++ List.replicate a ((10, 0) : lA) ++ List.replicate q (11, 0)) r1 c' := by
      intro e n x5 c he hc hb
      obtain ⟨d, rfl⟩ : ∃ d, e = d + 1 := ⟨e - 1, by omega⟩
      have a1 := fun d m => t_now (sc := sc) (w := w) (m := m) d hT hc.1 hc.2.1 hi
      have a2 := fun d m => t_skip (sc := sc) (w := w) (m := m) d hc.2.1
      rw [z] at a1
      have hs := hc.sk hn
      have : q = 0 ∨ q = 1 := by omega
      rcases this with rfl | rfl
      · obtain ⟨c2, s1, s2, s3⟩ := c1 d (skC i c) (by omega) (by simpa using hs)
        have e01 : (nI 0 ||| nI 1) = nI 1 := by decide +kernel
        refine ⟨c2, fun m1 => ?_, skC_F.tr s2, s3⟩
        unfold hCon
        conv => lhs; rw [bh_Reader_readCondition_11]
        simp (disch := first | assumption | omega | decide | (simp only [ma_wd0, ma_wdi, ma_wdr, ma_wdl, ma_wdn] <;> omega)) only [↓reduceIte, evK, evL, evS, evA, evJ, Option.bind_some, Option.toList, List.cons_append, List.nil_append, nI_add, pk_mul, bI0, ite_not, ev_rbb, up_n, up_s, up_u, pk_us, pk_un, Nat.reduceAdd, nI_ltT, nI_ltF, nI_leT, nI_leF, nI_eqT, nI_eqF, bk_Reader_readCondition, gfC, gfM, ev_r0, ev_r1, eq_self, n_m1e, true_and, and_true, false_and, and_false, and_self, not_true_eq_false, not_false_eq_true, ce_Tokens_now, a1, ce_Tokens_skip, a2, e01, ce_Reader_readOne, s1]
      · obtain ⟨p1, p2, p3⟩ := t_put01 (sc := sc) (w := w) d 0 (i + 1) _ (skC i c) 11 (Or.inr rfl) hs (by have := hQ.1; rw [len1]; omega)
        obtain ⟨c2, s1, s2, s3⟩ := c1 d _ (by omega) p3
        have e01 : (nI 1 ||| nI 1) = nI 1 := by decide +kernel
        refine ⟨c2, fun m1 => ?_, (skC_F.tr p2).tr s2, s3⟩
        unfold hCon
        conv => lhs; rw [bh_Reader_readCondition_11]
        simp (disch := first | assumption | omega | decide | (simp only [ma_wd0, ma_wdi, ma_wdr, ma_wdl, ma_wdn] <;> omega)) only [↓reduceIte, evK, evL, evS, evA, evJ, Option.bind_some, Option.toList, List.cons_append, List.nil_append, nI_add, pk_mul, bI0, ite_not, ev_rbb, up_n, up_s, up_u, pk_us, pk_un, Nat.reduceAdd, nI_ltT, nI_ltF, nI_leT, nI_leF, nI_eqT, nI_eqF, bk_Reader_readCondition, gfC, gfM, ev_r0, ev_r1, eq_self, n_m1e, true_and, and_true, false_and, and_false, and_self, not_true_eq_false, not_false_eq_true, ce_Tokens_now, a1, ce_Tokens_skip, a2, ce_Law_put, p1, e01, ce_Reader_readOne, s1]
    have mod : ∀ (P : List Nat) (b : Nat) (x3 : Option Value) (m : Nat → Nat → Int32), xK m0 m → mA N T i acc m → pM (P ++ List.replicate q 11 ++ List.replicate a 10) m → lastN P 10 → lastN P 11 → m 138 31 = nI o → P.length ≤ 3 * o → ∃ m', (∀ c0, hAny sc (d' + 8) b (nI 0) x3 (hp c0 w m) = hAny sc (d' + 8) b (nI 1) x3 (hp c0 w m')) ∧ mG m m' ∧ xK m0 m' ∧ mA N T (i + 1) (acc ++ List.replicate a ((10, 0) : lA) ++ List.replicate q (11, 0)) m' ∧ pM (P ++ [11]) m' ∧ m' 138 31 = nI o := by
      intro P b x3 m hx hA hP l10 l11 h31 hPl
      obtain ⟨m2, s1, s2, s3, s4, s5⟩ := sAnd P m hA hP l10 h31 hPl
      obtain ⟨m3, u1, u2, u3, u4, u5⟩ := sOr P m2 s3 s4 l11 s5 hPl
      have a1 := fun d c => t_isWord (sc := sc) (w := w) (c := c) d 269 6 hA (by omega) (by omega) rfl
      have a2 := fun d c => t_isWord (sc := sc) (w := w) (c := c) d 268 5 hA (by omega) (by omega) rfl
      rw [bI_f (by omega)] at a1
      rw [bI_t z] at a2
      have a3 := fun d c => t_waits (sc := sc) (w := w) (c := c) d P.length 11 u4.1 (by omega)
      have g := (s2.tr u2).tr (wtM_G P.length 11)
      obtain ⟨m4, r1, r2, r3, r4⟩ := hR (d' + 4) i _ _ (g.xK hx) (mB.wt u3 P.length 11) hn
      refine ⟨m4, fun c0 => ?_, g.tr (rd_F r2 r3).g, (rd_F r2 r3).xK (g.xK hx), r4, rd_p r2 r3 (u4.wt 11), by rw [r3 31 (by decide), wtM_o]; exact u5⟩
      unfold hAny
      conv => lhs; rw [bh_MO_readAny_9]
      simp (disch := first | assumption | omega | decide | (simp only [ma_wd0, ma_wdi, ma_wdr, ma_wdl, ma_wdn] <;> omega)) only [↓reduceIte, evK, evL, evS, evA, evJ, Option.bind_some, Option.toList, List.cons_append, List.nil_append, nI_add, pk_mul, bI0, ite_not, ev_rbb, up_n, up_s, up_u, pk_us, pk_un, Nat.reduceAdd, nI_ltT, nI_ltF, nI_leT, nI_leF, nI_eqT, nI_eqF, bk_MO_readAny, gfC, gfM, ev_r0, ev_r1, eq_self, n_m1e, true_and, and_true, false_and, and_false, and_self, not_true_eq_false, not_false_eq_true, ce_MO_isWord, a1, a2, ce_MO_settles, s1, u1, ce_MO_waits, a3, ce_MO_reads, r1]
    cases r1 with
    | inr x =>
      obtain ⟨f, p⟩ := x
      refine ⟨.inr (f, p), l1, trivial, fun e n x5 c he hc hb => ?_, fun P b x3 m hx hA hP l9 l10 l11 h31 hb hPl hq' => ?_⟩
      · obtain ⟨c2, s1, s2, s3⟩ := cls e n x5 c he hc hb
        obtain ⟨d, rfl⟩ : ∃ d, e = d + 1 := ⟨e - 1, by omega⟩
        obtain ⟨c3, v1, v2, v3⟩ := con_fail (sc := sc) (w := w) d o 1 (n + 1) (by omega) (some (.int (nI 268))) c2 s3
        exact ⟨c3, fun m1 => (s1 m1).trans (v1 m1), s2.tr v2, v3⟩
      · obtain ⟨m2, s1, s2, s3, s4, s5, s6⟩ := mod P b x3 m hx hA hP l10 l11 h31 hPl
        have := m1 (P ++ [11]) 0 b x3 m2 s3 s4 (by simpa using s5) (lastN_app P (by omega) (by omega)) s6 (by omega) hb (by rw [List.length_append, List.length_singleton]; omega) (by rw [List.length_append, List.length_singleton]; exact ⟨by have := hq'.1; rw [len3]; omega, by have := hq'.2; rw [len4]; omega⟩)
        obtain ⟨m3, v1, v2, v3⟩ := this
        exact ⟨m3, fun c0 => (s1 c0).trans (v1 c0), s2.tr v2, v3⟩
    | inl x =>
      obtain ⟨as, j⟩ := x
      obtain ⟨b1, b2, b3, b4⟩ := l1
      have hQ2 : lQ (acc ++ List.replicate a ((10, 0) : lA) ++ List.replicate q (11, 0) ++ as) (1 + 0) j := hQ1.app (by omega) (by omega)
      obtain ⟨r2, l2, t2, c2, m2⟩ := ih (N - j) (by omega) j 1 0 _ (by omega) b2 (by omega) (by omega) (by omega) hQ2
      have eas : acc ++ List.replicate a ((10, 0) : lA) ++ List.replicate q (11, 0) ++ as = acc ++ (List.replicate a (10, 0) ++ List.replicate q (11, 0) ++ as) := by simp only [List.append_assoc]
      refine ⟨oP (List.replicate a (10, 0) ++ List.replicate q (11, 0) ++ as) r2, oP_L l2 (by omega) ?_ ?_, oP_T t2 (fun t ht => ?_) (by omega), fun e n x5 c he hc hb => ?_, fun P b x3 m hx hA hP l9 l10 l11 h31 hb hPl hq' => ?_⟩
      · simp only [List.length_append, List.length_replicate]; omega
      · simp only [List.flatMap_append, fl_and, fl_or, List.length_append, List.length_replicate]; omega
      · have z1 := rt_T u q a hq ha t ht
        have z2 := rt_T2 u q hq t ht
        have z3 := t1 (true :: t) (by rw [List.length_cons]; omega)
        rw [List.nil_append] at z3
        rw [lA_T_app, lA_T_app, List.cons_append, z1, Option.bind_some, z2, Option.bind_some, z3]
        rfl
      · obtain ⟨c3, s1, s2, s3⟩ := cls e n x5 c he hc hb
        have s3 : cA N T j (acc ++ List.replicate a ((10, 0) : lA) ++ List.replicate q (11, 0) ++ as) c3 := s3
        obtain ⟨c4, v1, v2, v3⟩ := c2 e (n + 1) (some (.int (nI 268))) c3 he (by simpa using s3) (by omega)
        rw [eas] at v3
        refine ⟨c4, fun m1 => ?_, s2.tr v2, oP_C v3⟩
        rw [s1 m1, oP_B]
        exact v1 m1
      · obtain ⟨m3, s1, s2, s3, s4, s5, s6⟩ := mod P b x3 m hx hA hP l10 l11 h31 hPl
        have := m1 (P ++ [11]) 0 b x3 m3 s3 s4 (by simpa using s5) (lastN_app P (by omega) (by omega)) s6 (by omega) hb (by rw [List.length_append, List.length_singleton]; omega) (by rw [List.length_append, List.length_singleton]; exact ⟨by have := hq'.1; rw [len3]; omega, by have := hq'.2; rw [len4]; omega⟩)
        obtain ⟨y3, m4, v1, v2, v3, v4, v5⟩ := this
        have v3 : mA N T j (acc ++ List.replicate a ((10, 0) : lA) ++ List.replicate q (11, 0) ++ as) m4 := by simpa using v3
        have w2 := m2 P b y3 m4 (v2.xK s3) v3 (by simpa using v4) l9 l10 l11 v5 hb hPl ⟨by have := hq'.1; rw [List.length_append, len3]; omega, by have := hq'.2; rw [List.flatMap_append, List.length_append, len4]; omega⟩
        cases r2 with
        | inr x =>
          obtain ⟨m5, w1, w2, w3⟩ := w2
          exact ⟨m5, fun c0 => ((s1 c0).trans (v1 c0)).trans (w1 c0), (s2.tr v2).tr w2, w3⟩
        | inl x =>
          obtain ⟨x3', m5, w1, w2, w3, w4, w5⟩ := w2
          refine ⟨x3', m5, fun c0 => ((s1 c0).trans (v1 c0)).trans (w1 c0), (s2.tr v2).tr w2, ?_, w4, w5⟩
          rw [eas, List.append_assoc] at w3
          exact w3
  · by_cases z2 : T 0 i = 269
    · -- and
      have hn := hT.nx hi (by omega)
      have hQ1 : lQ (acc ++ List.replicate a ((10, 0) : lA)) (q + 1) (i + 1) := ⟨by have := hQ.1; rw [len1]; omega, by have := hQ.2; rw [len2]; omega⟩
      obtain ⟨r1, l1, t1, c1, m1⟩ := H o (i + 1) (acc ++ List.replicate a ((10, 0) : lA)) ho hn (by omega) hQ1.dr
      have mod : ∀ (P : List Nat) (b : Nat) (x3 : Option Value) (m : Nat → Nat → Int32), xK m0 m → mA N T i acc m → pM (P ++ List.replicate q 11 ++ List.replicate a 10) m → lastN P 10 → m 138 31 = nI o → P.length ≤ 3 * o → ∃ m', (∀ c0, hAny sc (d' + 8) b (nI 0) x3 (hp c0 w m) = hAny sc (d' + 8) b (nI 1) x3 (hp c0 w m')) ∧ mG m m' ∧ xK m0 m' ∧ mA N T (i + 1) (acc ++ List.replicate a ((10, 0) : lA)) m' ∧ pM (P ++ List.replicate q 11 ++ [10]) m' ∧ m' 138 31 = nI o := by
        intro P b x3 m hx hA hP l10 h31 hPl
        obtain ⟨m2, s1, s2, s3, s4, s5⟩ := sAnd P m hA hP l10 h31 hPl
        have a1 := fun d c => t_isWord (sc := sc) (w := w) (c := c) d 269 6 hA (by omega) (by omega) rfl
        rw [bI_t z2] at a1
        have hlen : (P ++ List.replicate q 11).length = P.length + q := by rw [List.length_append, List.length_replicate]
        have a3 := fun d c => t_waits (sc := sc) (w := w) (c := c) d (P ++ List.replicate q 11).length 10 s4.1 (by omega)
        have g := s2.tr (wtM_G (P ++ List.replicate q 11).length 10)
        obtain ⟨m4, r1, r2, r3, r4⟩ := hR (d' + 4) i _ _ (g.xK hx) (mB.wt s3 (P ++ List.replicate q 11).length 10) hn
        refine ⟨m4, fun c0 => ?_, g.tr (rd_F r2 r3).g, (rd_F r2 r3).xK (g.xK hx), r4, rd_p r2 r3 (s4.wt 10), by rw [r3 31 (by decide), wtM_o]; exact s5⟩
        unfold hAny
        conv => lhs; rw [bh_MO_readAny_9]
        simp (disch := first | assumption | omega | decide | (simp only [ma_wd0, ma_wdi, ma_wdr, ma_wdl, ma_wdn] <;> omega)) only [↓reduceIte, evK, evL, evS, evA, evJ, Option.bind_some, Option.toList, List.cons_append, List.nil_append, nI_add, pk_mul, bI0, ite_not, ev_rbb, up_n, up_s, up_u, pk_us, pk_un, Nat.reduceAdd, nI_ltT, nI_ltF, nI_leT, nI_leF, nI_eqT, nI_eqF, bk_MO_readAny, gfC, gfM, ev_r0, ev_r1, eq_self, n_m1e, true_and, and_true, false_and, and_false, and_self, not_true_eq_false, not_false_eq_true, ce_MO_isWord, a1, ce_MO_settles, s1, ce_MO_waits, a3, ce_MO_reads, r1]
      have e01 : (nI q ||| nI 0) = nI q := by
        have : q = 0 ∨ q = 1 := by omega
        rcases this with rfl | rfl <;> decide +kernel
      have e10 : ∀ P : List Nat, (P ++ List.replicate q 11 ++ [10]).length = P.length + (q + 1) := fun P => by rw [List.length_append, List.length_append, List.length_replicate, List.length_singleton]; omega
      cases r1 with
      | inr x =>
        obtain ⟨f, p⟩ := x
        refine ⟨.inr (f, p), l1, trivial, fun e n x5 c he hc hb => ?_, fun P b x3 m hx hA hP l9 l10 l11 h31 hb hPl hq' => ?_⟩
        · obtain ⟨d, rfl⟩ : ∃ d, e = d + 1 := ⟨e - 1, by omega⟩
          obtain ⟨c2, s1, s2, s3⟩ := c1 d (skC i c) (by omega) (hc.sk hn)
          obtain ⟨c3, v1, v2, v3⟩ := cX.put (sc := sc) (w := w) d (nI 10) (nI 0) s3
          obtain ⟨c4, g1, g2, g3⟩ := con_fail (sc := sc) (w := w) d o q (n + 1) hq (some (.int (nI 269))) c3 v3
          refine ⟨c4, fun m1 => ?_, ((skC_F.tr s2).tr v2).tr g2, g3⟩
          have a1 := fun d m => t_now (sc := sc) (w := w) (m := m) d hT hc.1 hc.2.1 hi
          have a2 := fun d m => t_skip (sc := sc) (w := w) (m := m) d hc.2.1
          rw [z2] at a1
          show _ = some (some (Value.int (nI 0)), _)
          rw [← g1 m1]
          unfold hCon
          conv => lhs; rw [bh_Reader_readCondition_11]
          simp (disch := first | assumption | omega | decide | (simp only [ma_wd0, ma_wdi, ma_wdr, ma_wdl, ma_wdn] <;> omega)) only [↓reduceIte, evK, evL, evS, evA, evJ, Option.bind_some, Option.toList, List.cons_append, List.nil_append, nI_add, pk_mul, bI0, ite_not, ev_rbb, up_n, up_s, up_u, pk_us, pk_un, Nat.reduceAdd, nI_ltT, nI_ltF, nI_leT, nI_leF, nI_eqT, nI_eqF, bk_Reader_readCondition, gfC, gfM, ev_r0, ev_r1, eq_self, n_m1e, true_and, and_true, false_and, and_false, and_self, not_true_eq_false, not_false_eq_true, ce_Tokens_now, a1, ce_Tokens_skip, a2, e01, ce_Reader_readOne, s1, oB, ce_Law_put, v1]
        · obtain ⟨m2, s1, s2, s3, s4, s5, s6⟩ := mod P b x3 m hx hA hP l10 h31 hPl
          have := m1 (P ++ List.replicate q 11 ++ [10]) 0 b x3 m2 s3 s4 (by simpa using s5) (lastN_app _ (by omega) (by omega)) s6 (by omega) hb (by rw [e10]; omega) (by rw [e10]; exact ⟨by have := hq'.1; rw [len1]; omega, by have := hq'.2; rw [len2]; omega⟩)
          obtain ⟨m3, v1, v2, v3⟩ := this
          exact ⟨m3, fun c0 => (s1 c0).trans (v1 c0), s2.tr v2, v3⟩
      | inl x =>
        obtain ⟨as, j⟩ := x
        obtain ⟨b1, b2, b3, b4⟩ := l1
        have hQ2 : lQ (acc ++ List.replicate a ((10, 0) : lA) ++ as) (q + 1) j := hQ1.app (by omega) (by omega)
        obtain ⟨r2, l2, t2, c2, m2⟩ := ih (N - j) (by omega) j q 1 _ (by omega) b2 (by omega) hq (by omega) hQ2
        have eas : acc ++ List.replicate a ((10, 0) : lA) ++ as = acc ++ (List.replicate a (10, 0) ++ as) := by simp only [List.append_assoc]
        refine ⟨oP (List.replicate a (10, 0) ++ as) r2, oP_L l2 (by omega) ?_ ?_, oP_T t2 (fun t ht => ?_) (by omega), fun e n x5 c he hc hb => ?_, fun P b x3 m hx hA hP l9 l10 l11 h31 hb hPl hq' => ?_⟩
        · simp only [List.length_append, List.length_replicate]; omega
        · simp only [List.flatMap_append, fl_and, List.length_append, List.length_replicate]; omega
        · have z1 := rt_T u q a hq ha t ht
          have z3 := t1 (true :: (List.replicate q true ++ t)) (by rw [List.length_cons, List.length_append, List.length_replicate]; omega)
          rw [List.nil_append] at z3
          rw [lA_T_app, List.cons_append, z1, Option.bind_some, z3]
          rfl
        · obtain ⟨d, rfl⟩ : ∃ d, e = d + 1 := ⟨e - 1, by omega⟩
          obtain ⟨c3, s1, s2, s3⟩ := c1 d (skC i c) (by omega) (hc.sk hn)
          have s3 : cA N T j (acc ++ List.replicate a ((10, 0) : lA) ++ as) c3 := s3
          obtain ⟨p1, p2, p3⟩ := t_put01 (sc := sc) (w := w) d 0 j _ c3 10 (Or.inl rfl) s3 (by have := hQ2.1; omega)
          obtain ⟨c4, v1, v2, v3⟩ := c2 (d + 1) (n + 1) (some (.int (nI 269))) _ he p3 (by omega)
          rw [eas] at v3
          refine ⟨c4, fun m1 => ?_, ((skC_F.tr s2).tr p2).tr v2, oP_C v3⟩
          have a1 := fun d m => t_now (sc := sc) (w := w) (m := m) d hT hc.1 hc.2.1 hi
          have a2 := fun d m => t_skip (sc := sc) (w := w) (m := m) d hc.2.1
          rw [z2] at a1
          rw [oP_B, ← v1 m1]
          unfold hCon
          conv => lhs; rw [bh_Reader_readCondition_11]
          simp (disch := first | assumption | omega | decide | (simp only [ma_wd0, ma_wdi, ma_wdr, ma_wdl, ma_wdn] <;> omega)) only [↓reduceIte, evK, evL, evS, evA, evJ, Option.bind_some, Option.toList, List.cons_append, List.nil_append, nI_add, pk_mul, bI0, ite_not, ev_rbb, up_n, up_s, up_u, pk_us, pk_un, Nat.reduceAdd, nI_ltT, nI_ltF, nI_leT, nI_leF, nI_eqT, nI_eqF, bk_Reader_readCondition, gfC, gfM, ev_r0, ev_r1, eq_self, n_m1e, true_and, and_true, false_and, and_false, and_self, not_true_eq_false, not_false_eq_true, ce_Tokens_now, a1, ce_Tokens_skip, a2, e01, ce_Reader_readOne, s1, oB, ce_Law_put, p1]
        · obtain ⟨m3, s1, s2, s3, s4, s5, s6⟩ := mod P b x3 m hx hA hP l10 h31 hPl
          have := m1 (P ++ List.replicate q 11 ++ [10]) 0 b x3 m3 s3 s4 (by simpa using s5) (lastN_app _ (by omega) (by omega)) s6 (by omega) hb (by rw [e10]; omega) (by rw [e10]; exact ⟨by have := hq'.1; rw [len1]; omega, by have := hq'.2; rw [len2]; omega⟩)
          obtain ⟨y3, m4, v1, v2, v3, v4, v5⟩ := this
          have v3 : mA N T j (acc ++ List.replicate a ((10, 0) : lA) ++ as) m4 := by simpa using v3
          have w2 := m2 P b y3 m4 (v2.xK s3) v3 v4 l9 l10 l11 v5 hb hPl ⟨by have := hq'.1; rw [List.length_append, len1]; omega, by have := hq'.2; rw [List.flatMap_append, List.length_append, len2]; omega⟩
          cases r2 with
          | inr x =>
            obtain ⟨m5, w1, w2, w3⟩ := w2
            exact ⟨m5, fun c0 => ((s1 c0).trans (v1 c0)).trans (w1 c0), (s2.tr v2).tr w2, w3⟩
          | inl x =>
            obtain ⟨x3', m5, w1, w2, w3, w4, w5⟩ := w2
            refine ⟨x3', m5, fun c0 => ((s1 c0).trans (v1 c0)).trans (w1 c0), (s2.tr v2).tr w2, ?_, w4, w5⟩
            rw [eas, List.append_assoc] at w3
            exact w3
    · -- neither
      have eas : acc ++ List.replicate a ((10, 0) : lA) ++ List.replicate q (11, 0) = acc ++ (List.replicate a (10, 0) ++ List.replicate q (11, 0)) := by simp only [List.append_assoc]
      refine ⟨.inl (List.replicate a (10, 0) ++ List.replicate q (11, 0), i), ⟨by omega, hi, ?_, ?_⟩, fun t ht => ?_, fun e n x5 c he hc hb => ?_, fun P b x3 m hx hA hP l9 l10 l11 h31 hb hPl hq' => ?_⟩
      · simp only [List.length_append, List.length_replicate]; omega
      · simp only [List.flatMap_append, fl_and, fl_or, List.length_append, List.length_replicate]; omega
      · have z1 := rt_T u q a hq ha t ht
        have z3 := rt_T2 u q hq t ht
        rw [lA_T_app, List.cons_append, z1, Option.bind_some, z3]
      · obtain ⟨d, rfl⟩ : ∃ d, e = d + 1 := ⟨e - 1, by omega⟩
        have a1 := fun d m => t_now (sc := sc) (w := w) (m := m) d hT hc.1 hc.2.1 hi
        have : q = 0 ∨ q = 1 := by omega
        rcases this with rfl | rfl
        · refine ⟨c, fun m1 => ?_, cF.rf, by simp only [oC, List.replicate_zero, List.append_nil]; exact hc⟩
          unfold hCon
          rw [bh_Reader_readCondition_11]
          simp (disch := first | assumption | omega | decide | (simp only [ma_wd0, ma_wdi, ma_wdr, ma_wdl, ma_wdn] <;> omega)) only [↓reduceIte, evK, evL, evS, evA, evJ, Option.bind_some, Option.toList, List.cons_append, List.nil_append, nI_add, pk_mul, bI0, ite_not, ev_rbb, up_n, up_s, up_u, pk_us, pk_un, Nat.reduceAdd, nI_ltT, nI_ltF, nI_leT, nI_leF, nI_eqT, nI_eqF, bk_Reader_readCondition, gfC, gfM, ev_r0, ev_r1, eq_self, n_m1e, true_and, and_true, false_and, and_false, and_self, not_true_eq_false, not_false_eq_true, ce_Tokens_now, a1, oB]
        · obtain ⟨p1, p2, p3⟩ := t_put01 (sc := sc) (w := w) d 0 i _ c 11 (Or.inr rfl) hc (by have := hQ.1; rw [len1]; omega)
          refine ⟨_, fun m1 => ?_, p2, by simp only [oC, List.replicate_one, ← List.append_assoc]; exact p3⟩
          unfold hCon
          rw [bh_Reader_readCondition_11]
          simp (disch := first | assumption | omega | decide | (simp only [ma_wd0, ma_wdi, ma_wdr, ma_wdl, ma_wdn] <;> omega)) only [↓reduceIte, evK, evL, evS, evA, evJ, Option.bind_some, Option.toList, List.cons_append, List.nil_append, nI_add, pk_mul, bI0, ite_not, ev_rbb, up_n, up_s, up_u, pk_us, pk_un, Nat.reduceAdd, nI_ltT, nI_ltF, nI_leT, nI_leF, nI_eqT, nI_eqF, bk_Reader_readCondition, gfC, gfM, ev_r0, ev_r1, eq_self, n_m1e, true_and, and_true, false_and, and_false, and_self, not_true_eq_false, not_false_eq_true, ce_Tokens_now, a1, oB, ce_Law_put, p1]
      · obtain ⟨m2, s1, s2, s3, s4, s5⟩ := sAnd P m hA hP l10 h31 hPl
        obtain ⟨m3, u1, u2, u3, u4, u5⟩ := sOr P m2 s3 s4 l11 s5 hPl
        have a1 := fun d c => t_isWord (sc := sc) (w := w) (c := c) d 269 6 hA (by omega) (by omega) rfl
        have a2 := fun d c => t_isWord (sc := sc) (w := w) (c := c) d 268 5 hA (by omega) (by omega) rfl
        rw [bI_f z2] at a1
        rw [bI_f z] at a2
        rw [eas] at u3
        refine ⟨x3, m3, fun c0 => ?_, s2.tr u2, u3, u4, u5⟩
        unfold hAny hEnd
        rw [bh_MO_readAny_9]
        simp (disch := first | assumption | omega | decide | (simp only [ma_wd0, ma_wdi, ma_wdr, ma_wdl, ma_wdn] <;> omega)) only [↓reduceIte, evK, evL, evS, evA, evJ, Option.bind_some, Option.toList, List.cons_append, List.nil_append, nI_add, pk_mul, bI0, ite_not, ev_rbb, up_n, up_s, up_u, pk_us, pk_un, Nat.reduceAdd, nI_ltT, nI_ltF, nI_leT, nI_leF, nI_eqT, nI_eqF, bk_MO_readAny, gfC, gfM, ev_r0, ev_r1, eq_self, n_m1e, true_and, and_true, false_and, and_false, and_self, not_true_eq_false, not_false_eq_true, ce_MO_isWord, a1, a2, ce_MO_settles, s1, u1]
theorem cnd_of (d' u : Nat) (hT : tOK N T) (hR : rdS sc w N T m0) (H : oneAt sc w N T m0 d' u) : cndAt sc w N T m0 d' u := by
  intro o i acc ho hi h1 hQ
  have hN := hT.2.1
  obtain ⟨r1, l1, t1, c1, m1⟩ := H o i acc ho hi h1 hQ
  cases r1 with
  | inr x =>
    obtain ⟨f, p⟩ := x
    refine ⟨.inr (f, p), l1, trivial, fun e c he hc => ?_, fun P b x3 m hx hA hP l9 l10 l11 h31 hb hPl hq' => ?_⟩
    · obtain ⟨d, rfl⟩ : ∃ d, e = d + 1 := ⟨e - 1, by omega⟩
      obtain ⟨c2, s1, s2, s3⟩ := c1 d c (by omega) hc
      obtain ⟨c3, v1, v2, v3⟩ := con_fail (sc := sc) (w := w) d o 0 0 (by omega) none c2 s3
      refine ⟨c3, fun m1 => ?_, s2.tr v2, v3⟩
      show _ = some (some (Value.int (nI 0)), _)
      rw [← v1 m1]
      unfold hCon
      simp (disch := first | assumption | omega | decide | (simp only [ma_wd0, ma_wdi, ma_wdr, ma_wdl, ma_wdn] <;> omega)) only [↓reduceIte, evK, evL, evS, evA, evJ, Option.bind_some, Option.toList, List.cons_append, List.nil_append, nI_add, pk_mul, bI0, ite_not, ev_rbb, up_n, up_s, up_u, pk_us, pk_un, Nat.reduceAdd, nI_ltT, nI_ltF, nI_leT, nI_leF, nI_eqT, nI_eqF, en_Reader_readCondition, ce_Reader_readOne, s1, oB]
    · exact m1 P 0 b x3 m hx hA (by simpa using hP) l9 h31 (by omega) hb (by omega) hq'
  | inl x =>
    obtain ⟨as, j⟩ := x
    obtain ⟨b1, b2, b3, b4⟩ := l1
    have hQ2 : lQ (acc ++ as) (0 + 0) j := hQ.app (by omega) (by omega)
    obtain ⟨r2, l2, t2, c2, m2⟩ := j_conL (sc := sc) (w := w) (m0 := m0) d' u o hT hR ho H (N - j) j 0 0 (acc ++ as) (by omega) b2 (by omega) (by omega) (by omega) hQ2
    refine ⟨oP as r2, oP_L l2 (by omega) (by omega) (by omega), oP_T t2 (fun t ht => ?_) (by omega), fun e c he hc => ?_, fun P b x3 m hx hA hP l9 l10 l11 h31 hb hPl hq' => ?_⟩
    · exact t1 t (by omega)
    · obtain ⟨d, rfl⟩ : ∃ d, e = d + 1 := ⟨e - 1, by omega⟩
      obtain ⟨c3, s1, s2, s3⟩ := c1 d c (by omega) hc
      have s3 : cA N T j (acc ++ as) c3 := s3
      obtain ⟨c4, v1, v2, v3⟩ := c2 (d + 1) 0 none c3 he (by simpa using s3) (by omega)
      refine ⟨c4, fun m1 => ?_, s2.tr v2, oP_C v3⟩
      rw [oP_B, ← v1 m1]
      unfold hCon
      simp (disch := first | assumption | omega | decide | (simp only [ma_wd0, ma_wdi, ma_wdr, ma_wdl, ma_wdn] <;> omega)) only [↓reduceIte, evK, evL, evS, evA, evJ, Option.bind_some, Option.toList, List.cons_append, List.nil_append, nI_add, pk_mul, bI0, ite_not, ev_rbb, up_n, up_s, up_u, pk_us, pk_un, Nat.reduceAdd, nI_ltT, nI_ltF, nI_leT, nI_leF, nI_eqT, nI_eqF, en_Reader_readCondition, ce_Reader_readOne, s1, oB]
    · have := m1 P 0 b x3 m hx hA (by simpa using hP) l9 h31 (by omega) hb (by omega) hq'
      obtain ⟨y3, m4, v1, v2, v3, v4, v5⟩ := this
      have v3 : mA N T j (acc ++ as) m4 := by simpa using v3
      have w2 := m2 P b y3 m4 (v2.xK hx) v3 (by simpa using v4) l9 l10 l11 v5 hb hPl ⟨by have := hq'.1; rw [List.length_append]; omega, by have := hq'.2; rw [List.flatMap_append, List.length_append]; omega⟩
      cases r2 with
      | inr x =>
        obtain ⟨m5, w1, w2, w3⟩ := w2
        exact ⟨m5, fun c0 => (v1 c0).trans (w1 c0), v2.tr w2, w3⟩
      | inl x =>
        obtain ⟨x3', m5, w1, w2, w3, w4, w5⟩ := w2
        refine ⟨x3', m5, fun c0 => (v1 c0).trans (w1 c0), v2.tr w2, ?_, w4, w5⟩
        rw [List.append_assoc] at w3
        exact w3
theorem cnd_all (d' : Nat) (hT : tOK N T) (hR : rdS sc w N T m0) : ∀ u, oneAt sc w N T m0 d' u ∧ cndAt sc w N T m0 d' u
  | 0 => ⟨one_0 d' hT hR, cnd_of d' 0 hT hR (one_0 d' hT hR)⟩
  | u + 1 => by
    have h := cnd_all d' hT hR u
    have h1 := one_s d' u hT hR h.1 h.2
    exact ⟨h1, cnd_of d' (u + 1) hT hR h1⟩
end CC
