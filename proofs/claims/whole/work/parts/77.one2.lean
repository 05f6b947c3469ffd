/-! ===== text: one of a condition's parts: not, brackets, comparison ===== -/
section OO
variable {sc : Nat × (Nat → Int32)} {m0 : Nat → Nat → Int32} {w : Nat → Int64} {N : Nat} {T : Nat → Nat → Nat}
theorem lQ.dr {acc : List lA} {q i : Nat} (h : lQ acc q i) : lQ acc 0 i := ⟨by have := h.1; omega, by have := h.2; omega⟩
/-- a comparison, in the reference: then what waits on top -/
theorem one_cmp (d' u o i : Nat) (acc : List lA) (hT : tOK N T) (hR : rdS sc w N T m0) (ho : o + u = 8) (hi : i < N) (h1 : 1 ≤ i) (hQ : lQ acc 0 i) (n1 : T 0 i ≠ 270) (n2 : T 0 i ≠ 40) : ∃ r : oR, oL i 0 N r ∧ oT true [] (4 + 2 * u) r ∧ (∀ e c, 2 * u + 4 ≤ e → cA N T i acc c → qC sc w N T e 79 [.ref 84, .int (nI o)] acc r c) ∧ oneM sc w N T m0 d' o i acc r := by
  obtain ⟨r, l, t, hc, hm⟩ := j_cmp (sc := sc) (w := w) (m0 := m0) d' o i acc hT hR hi h1 hQ
  have hN := hT.2.1
  refine ⟨r, l, t.mono (by omega), fun e c he h => hc e c (by omega) n1 n2 h, fun P n b x3 m hx hA hP hl ho' hn hb hPl hq => ?_⟩
  obtain ⟨m2, q1, q2, q3⟩ := hm m hx hA
  have a1 := fun d c => t_isWord (sc := sc) (w := w) (c := c) d 270 7 hA (by omega) (by omega) rfl
  have a2 := fun d c => t_isSign (sc := sc) (w := w) (c := c) d 40 hA (by unfold tkS; omega)
  rw [bI_f n1] at a1
  rw [bI_f n2] at a2
  cases r with
  | inr x =>
    refine ⟨m2, fun c0 => ?_, q2.g, q3⟩
    unfold hAny
    conv => lhs; rw [bh_MO_readAny_9]
    simp (disch := first | assumption | omega | decide | (simp only [ma_wd0, ma_wdi, ma_wdr, ma_wdl, ma_wdn] <;> omega)) only [↓reduceIte, evK, evL, evS, evA, evJ, Option.bind_some, Option.toList, List.cons_append, List.nil_append, nI_add, pk_mul, bI0, ite_not, ev_rbb, up_n, up_s, up_u, pk_us, pk_un, Nat.reduceAdd, nI_ltT, nI_ltF, nI_leT, nI_leF, nI_eqT, nI_eqF, bk_MO_readAny, gfC, gfM, ev_r0, ev_r1, eq_self, n_m1e, true_and, and_true, false_and, and_false, and_self, not_true_eq_false, not_false_eq_true, ce_MO_isWord, a1, ce_MO_isSign, a2, ce_MO_readCompared, q1, oV]
  | inl x =>
    obtain ⟨as, j⟩ := x
    have q3 : mA N T j (acc ++ as) m2 := q3
    obtain ⟨b1, b2, b3, b4⟩ := l
    obtain ⟨m3, s1, s2, s3, s4, s5⟩ := t_settles (sc := sc) (w := w) (i := j) (N := N) (T := T) (d' + 6) 9 P hl (by omega) n o _ m2 q3 (hP.F q2) (by rw [q2.2.1 31 (by decide)]; exact ho') (fun _ => hn) (by omega) (by have := hq.2; rw [List.flatMap_append, List.length_append]; omega) (by omega)
    rw [if_pos rfl] at s5
    refine ⟨some (.int (nI 0)), m3, fun c0 => ?_, q2.g.tr s2, ?_, s4, s5⟩
    · unfold hAny
      conv => lhs; rw [bh_MO_readAny_9]
      simp (disch := first | assumption | omega | decide | (simp only [ma_wd0, ma_wdi, ma_wdr, ma_wdl, ma_wdn] <;> omega)) only [↓reduceIte, evK, evL, evS, evA, evJ, Option.bind_some, Option.toList, List.cons_append, List.nil_append, nI_add, pk_mul, bI0, ite_not, ev_rbb, up_n, up_s, up_u, pk_us, pk_un, Nat.reduceAdd, nI_ltT, nI_ltF, nI_leT, nI_leF, nI_eqT, nI_eqF, bk_MO_readAny, gfC, gfM, ev_r0, ev_r1, eq_self, n_m1e, true_and, and_true, false_and, and_false, and_self, not_true_eq_false, not_false_eq_true, ce_MO_isWord, a1, ce_MO_isSign, a2, ce_MO_readCompared, q1, oV, ce_MO_settles, s1]
    · unfold mA
      rw [List.flatMap_append, fl_not]
      exact s3
theorem one_0 (d' : Nat) (hT : tOK N T) (hR : rdS sc w N T m0) : oneAt sc w N T m0 d' 0 := by
  intro o i acc ho hi h1 hQ
  have hN := hT.2.1
  obtain ⟨k0, k1, k2, k3, k4⟩ := hT.2.2 i hi
  by_cases h : T 0 i ≠ 270 ∧ T 0 i ≠ 40
  · exact one_cmp d' 0 o i acc hT hR ho hi h1 hQ h.1 h.2
  · obtain rfl : o = 8 := by omega
    have hz : T 0 i = 270 ∨ T 0 i = 40 := by omega
    refine ⟨.inr (3, T 1 i), ⟨by omega, by omega, k2⟩, trivial, fun e c he hc => ?_, fun P n b x3 m hx hA hP hl ho' hn hb hPl hq => ?_⟩
    · obtain ⟨d, rfl⟩ : ∃ d, e = d + 4 := ⟨e - 4, by omega⟩
      refine ⟨_, fun m1 => ?_, flC_F _, flC_X 3 ⟨acc.length, by have := hQ.1; omega, hc.2.2.2.2.2.1⟩⟩
      have a1 := fun d m => t_now (sc := sc) (w := w) (m := m) d hT hc.1 hc.2.1 hi
      have a3 := fun d m => t_fail (sc := sc) (w := w) (m := m) d 3 hT hc.1 hc.2.1 hi
      rcases hz with z | z
      · rw [z] at a1
        simp (disch := first | assumption | omega | decide | (simp only [ma_wd0, ma_wdi, ma_wdr, ma_wdl, ma_wdn] <;> omega)) only [↓reduceIte, evK, evL, evS, evA, evJ, Option.bind_some, Option.toList, List.cons_append, List.nil_append, nI_add, pk_mul, bI0, ite_not, ev_rbb, up_n, up_s, up_u, pk_us, pk_un, Nat.reduceAdd, nI_ltT, nI_ltF, nI_leT, nI_leF, nI_eqT, nI_eqF, en_Reader_readOne, bk_Reader_readOne, gfC, gfM, ev_r0, ev_r1, eq_self, n_m1e, true_and, and_true, false_and, and_false, and_self, not_true_eq_false, not_false_eq_true, ce_Tokens_now, a1, ce_Tokens_fail, a3, oB]
      · rw [z] at a1
        simp (disch := first | assumption | omega | decide | (simp only [ma_wd0, ma_wdi, ma_wdr, ma_wdl, ma_wdn] <;> omega)) only [↓reduceIte, evK, evL, evS, evA, evJ, Option.bind_some, Option.toList, List.cons_append, List.nil_append, nI_add, pk_mul, bI0, ite_not, ev_rbb, up_n, up_s, up_u, pk_us, pk_un, Nat.reduceAdd, nI_ltT, nI_ltF, nI_leT, nI_leF, nI_eqT, nI_eqF, en_Reader_readOne, bk_Reader_readOne, gfC, gfM, ev_r0, ev_r1, eq_self, n_m1e, true_and, and_true, false_and, and_false, and_self, not_true_eq_false, not_false_eq_true, ce_Tokens_now, a1, ce_Tokens_fail, a3, oB]
    · have a1 := fun d c => t_isWord (sc := sc) (w := w) (c := c) d 270 7 hA (by omega) (by omega) rfl
      have a2 := fun d c => t_isSign (sc := sc) (w := w) (c := c) d 40 hA (by unfold tkS; omega)
      have a4 := fun d c => t_errs (sc := sc) (w := w) (c := c) d 3 hA
      have eo := erM_o (N := N) (T := T) (acc := acc) (m := m) (i := i) 3
      refine ⟨erM T i 3 m, fun c0 => ?_, (erM_F _).g, eo.1, eo.2⟩
      unfold hAny
      conv => lhs; rw [bh_MO_readAny_9]
      rcases hz with z | z
      · rw [bI_t z] at a1
        simp (disch := first | assumption | omega | decide | (simp only [ma_wd0, ma_wdi, ma_wdr, ma_wdl, ma_wdn] <;> omega)) only [↓reduceIte, evK, evL, evS, evA, evJ, Option.bind_some, Option.toList, List.cons_append, List.nil_append, nI_add, pk_mul, bI0, ite_not, ev_rbb, up_n, up_s, up_u, pk_us, pk_un, Nat.reduceAdd, nI_ltT, nI_ltF, nI_leT, nI_leF, nI_eqT, nI_eqF, bk_MO_readAny, gfC, gfM, ev_r0, ev_r1, eq_self, n_m1e, true_and, and_true, false_and, and_false, and_self, not_true_eq_false, not_false_eq_true, ce_MO_isWord, a1, ho', ce_MO_errs, a4]
      · rw [bI_f (by omega)] at a1
        rw [bI_t z] at a2
        simp (disch := first | assumption | omega | decide | (simp only [ma_wd0, ma_wdi, ma_wdr, ma_wdl, ma_wdn] <;> omega)) only [↓reduceIte, evK, evL, evS, evA, evJ, Option.bind_some, Option.toList, List.cons_append, List.nil_append, nI_add, pk_mul, bI0, ite_not, ev_rbb, up_n, up_s, up_u, pk_us, pk_un, Nat.reduceAdd, nI_ltT, nI_ltF, nI_leT, nI_leF, nI_eqT, nI_eqF, bk_MO_readAny, gfC, gfM, ev_r0, ev_r1, eq_self, n_m1e, true_and, and_true, false_and, and_false, and_self, not_true_eq_false, not_false_eq_true, ce_MO_isWord, a1, ce_MO_isSign, a2, ho', ce_MO_errs, a4]
theorem rep1 (P : List Nat) (n : Nat) : P ++ List.replicate n 9 ++ [9] = P ++ List.replicate (n + 1) 9 := by rw [List.append_assoc, List.replicate_succ']
theorem one_s (d' u : Nat) (hT : tOK N T) (hR : rdS sc w N T m0) (H1 : oneAt sc w N T m0 d' u) (H2 : cndAt sc w N T m0 d' u) : oneAt sc w N T m0 d' (u + 1) := by
  intro o i acc ho hi h1 hQ
  have hN := hT.2.1
  obtain ⟨k0, k1, k2, k3, k4⟩ := hT.2.2 i hi
  by_cases h : T 0 i ≠ 270 ∧ T 0 i ≠ 40
  · exact one_cmp d' (u + 1) o i acc hT hR ho hi h1 hQ h.1 h.2
  by_cases z : T 0 i = 270
  · have hn := hT.nx hi (by omega)
    obtain ⟨r, l, t, hc, hm⟩ := H1 (o + 1) (i + 1) acc (by omega) hn (by omega) (hQ.le (by omega))
    -- the reference's road, up to the part that is denied
    have road : ∀ (P : List Nat) (n b : Nat) (x3 : Option Value) (m : Nat → Nat → Int32), xK m0 m → mA N T i acc m → pM (P ++ List.replicate n 9) m → m 138 31 = nI o → P.length + n ≤ 3 * o + 2 → ∃ x3' m', (∀ c0, hAny sc (d' + 8) b (nI 1) x3 (hp c0 w m) = hAny sc (d' + 8) b (nI 1) x3' (hp c0 w m')) ∧ mG m m' ∧ xK m0 m' ∧ mA N T (i + 1) acc m' ∧ pM (P ++ List.replicate (n + 1) 9) m' ∧ m' 138 31 = nI (o + 1) := by
      intro P n b x3 m hx hA hP ho' hPl
      have a1 := fun d c => t_isWord (sc := sc) (w := w) (c := c) d 270 7 hA (by omega) (by omega) rfl
      rw [bI_t z] at a1
      have hA1 := (mB.op hA (o + 1))
      have hP1 := hP.op (o + 1)
      have hlen : (P ++ List.replicate n 9).length = P.length + n := by rw [List.length_append, List.length_replicate]
      have a2 := fun d c => t_waits (sc := sc) (w := w) (c := c) d (P ++ List.replicate n 9).length 9 hP1.1 (by omega)
      have hA2 := hA1.wt (P ++ List.replicate n 9).length 9
      have hP2 := hP1.wt 9
      have g1 := (opM_G (m := m) (o + 1)).tr (wtM_G (P ++ List.replicate n 9).length 9)
      have e31 : wtM (P ++ List.replicate n 9).length 9 (opM (o + 1) m) 138 31 = nI (o + 1) := by rw [wtM_o, opM_o]
      obtain ⟨m2, r1, r2, r3, r4⟩ := hR (d' + 4) i _ _ (g1.xK hx) hA2 hn
      refine ⟨some (.int (nI 1)), m2, fun c0 => ?_, g1.tr (rd_F r2 r3).g, (rd_F r2 r3).xK (g1.xK hx), r4, ?_, ?_⟩
      · unfold hAny
        conv => lhs; rw [bh_MO_readAny_9]
        unfold opM at a2 r1
        simp (disch := first | assumption | omega | decide | (simp only [ma_wd0, ma_wdi, ma_wdr, ma_wdl, ma_wdn] <;> omega)) only [↓reduceIte, evK, evL, evS, evA, evJ, Option.bind_some, Option.toList, List.cons_append, List.nil_append, nI_add, pk_mul, bI0, ite_not, ev_rbb, up_n, up_s, up_u, pk_us, pk_un, Nat.reduceAdd, nI_ltT, nI_ltF, nI_leT, nI_leF, nI_eqT, nI_eqF, bk_MO_readAny, gfC, gfM, ev_r0, ev_r1, eq_self, n_m1e, true_and, and_true, false_and, and_false, and_self, not_true_eq_false, not_false_eq_true, ce_MO_isWord, a1, ho', pfM, ce_MO_waits, a2, ce_MO_reads, r1]
      · rw [← rep1]
        exact rd_p r2 r3 hP2
      · rw [r3 31 (by decide)]; exact e31
    cases r with
    | inr x =>
      obtain ⟨f, p⟩ := x
      refine ⟨.inr (f, p), l, trivial, fun e c he hc' => ?_, fun P n b x3 m hx hA hP hl ho' hn hb hPl hq => ?_⟩
      · obtain ⟨d, rfl⟩ : ∃ d, e = d + 1 := ⟨e - 1, by omega⟩
        obtain ⟨c2, q1, q2, q3⟩ := hc d _ (by omega) (hc'.sk hn)
        obtain ⟨c3, s1, s2, s3⟩ := cX.put (sc := sc) (w := w) d (nI 3) (nI 0) q3
        refine ⟨c3, fun m1 => ?_, (skC_F.tr q2).tr s2, s3⟩
        have a1 := fun d m => t_now (sc := sc) (w := w) (m := m) d hT hc'.1 hc'.2.1 hi
        have a2 := fun d m => t_skip (sc := sc) (w := w) (m := m) d hc'.2.1
        rw [z] at a1
        simp (disch := first | assumption | omega | decide | (simp only [ma_wd0, ma_wdi, ma_wdr, ma_wdl, ma_wdn] <;> omega)) only [↓reduceIte, evK, evL, evS, evA, evJ, Option.bind_some, Option.toList, List.cons_append, List.nil_append, nI_add, pk_mul, bI0, ite_not, ev_rbb, up_n, up_s, up_u, pk_us, pk_un, Nat.reduceAdd, nI_ltT, nI_ltF, nI_leT, nI_leF, nI_eqT, nI_eqF, en_Reader_readOne, bk_Reader_readOne, gfC, gfM, ev_r0, ev_r1, eq_self, n_m1e, true_and, and_true, false_and, and_false, and_self, not_true_eq_false, not_false_eq_true, ce_Tokens_now, a1, ce_Tokens_skip, a2, ce_Reader_readOne, q1, ce_Law_put, s1, oB]
      · obtain ⟨y3, m2, s1, s2, s3, s4, s5, s6⟩ := road P n b x3 m hx hA hP ho' hPl
        obtain ⟨m3, q1, q2, q3⟩ := hm P (n + 1) b y3 m2 s3 s4 s5 hl s6 (by omega) (by omega) (by omega) ⟨by have := hq.1; omega, by have := hq.2; omega⟩
        exact ⟨m3, fun c0 => (s1 c0).trans (q1 c0), s2.tr q2, q3⟩
    | inl x =>
      obtain ⟨as, j⟩ := x
      obtain ⟨b1, b2, b3, b4⟩ := l
      have e3 : (lB_x (3, 0)).length = 1 := rfl
      refine ⟨.inl (as ++ [(3, 0)], j), ⟨by omega, b2, by rw [List.length_append, List.length_singleton]; omega, by rw [fl_app, e3]; omega⟩, fun t' ht => ?_, fun e c he hc' => ?_, fun P n b x3 m hx hA hP hl ho' hn hb hPl hq => ?_⟩
      · have z1 := t t' (by omega)
        rw [List.nil_append] at z1
        rw [lA_T_app, List.nil_append, z1]
        simp only [Option.bind_some, lA_T, lA_t, List.length_cons]
        rw [if_pos (by omega)]
      · obtain ⟨d, rfl⟩ : ∃ d, e = d + 1 := ⟨e - 1, by omega⟩
        obtain ⟨c2, q1, q2, q3⟩ := hc d _ (by omega) (hc'.sk hn)
        have q3 : cA N T j (acc ++ as) c2 := q3
        have q4 := q3.pt (3, 0)
        rw [List.append_assoc] at q4
        refine ⟨_, fun m1 => ?_, (skC_F.tr q2).tr (ptC_F _ _), q4⟩
        have a1 := fun d m => t_now (sc := sc) (w := w) (m := m) d hT hc'.1 hc'.2.1 hi
        have a2 := fun d m => t_skip (sc := sc) (w := w) (m := m) d hc'.2.1
        have a3 := fun d m => t_put (sc := sc) (w := w) (m := m) d (acc ++ as).length (3, 0) q3.2.2.2.2.2.1 (by have := hQ.1; rw [List.length_append]; omega) (by decide) (by decide)
        dsimp only at a3
        rw [z] at a1
        simp (disch := first | assumption | omega | decide | (simp only [ma_wd0, ma_wdi, ma_wdr, ma_wdl, ma_wdn] <;> omega)) only [↓reduceIte, evK, evL, evS, evA, evJ, Option.bind_some, Option.toList, List.cons_append, List.nil_append, nI_add, pk_mul, bI0, ite_not, ev_rbb, up_n, up_s, up_u, pk_us, pk_un, Nat.reduceAdd, nI_ltT, nI_ltF, nI_leT, nI_leF, nI_eqT, nI_eqF, en_Reader_readOne, bk_Reader_readOne, gfC, gfM, ev_r0, ev_r1, eq_self, n_m1e, true_and, and_true, false_and, and_false, and_self, not_true_eq_false, not_false_eq_true, ce_Tokens_now, a1, ce_Tokens_skip, a2, ce_Reader_readOne, q1, ce_Law_put, a3, oB]
      · obtain ⟨y3, m2, s1, s2, s3, s4, s5, s6⟩ := road P n b x3 m hx hA hP ho' hPl
        obtain ⟨z3, m3, q1, q2, q3, q4, q5⟩ := hm P (n + 1) b y3 m2 s3 s4 s5 hl s6 (by omega) (by omega) (by omega) ⟨by have := hq.1; omega, by have := hq.2; omega⟩
        refine ⟨z3, m3, fun c0 => (s1 c0).trans (q1 c0), s2.tr q2, ?_, q4, by rw [q5]; congr 1; omega⟩
        rw [List.replicate_succ] at q3
        simp only [List.append_assoc, List.cons_append, List.nil_append] at q3 ⊢
        exact q3
  · have z : T 0 i = 40 := by omega
    have hn := hT.nx hi (by omega)
    obtain ⟨r, l, t, hc, hm⟩ := H2 (o + 1) (i + 1) acc (by omega) hn (by omega) (hQ.le (by omega))
    have road : ∀ (P : List Nat) (n b : Nat) (x3 : Option Value) (m : Nat → Nat → Int32), xK m0 m → mA N T i acc m → pM (P ++ List.replicate n 9) m → m 138 31 = nI o → P.length + n ≤ 3 * o + 2 → ∃ x3' m', (∀ c0, hAny sc (d' + 8) b (nI 1) x3 (hp c0 w m) = hAny sc (d' + 8) (b + 1) (nI 1) x3' (hp c0 w m')) ∧ mG m m' ∧ xK m0 m' ∧ mA N T (i + 1) acc m' ∧ pM (P ++ List.replicate n 9 ++ [12]) m' ∧ m' 138 31 = nI (o + 1) := by
      intro P n b x3 m hx hA hP ho' hPl
      have a1 := fun d c => t_isWord (sc := sc) (w := w) (c := c) d 270 7 hA (by omega) (by omega) rfl
      have a0 := fun d c => t_isSign (sc := sc) (w := w) (c := c) d 40 hA (by unfold tkS; omega)
      rw [bI_f (by omega)] at a1
      rw [bI_t z] at a0
      have hA1 := (mB.op hA (o + 1))
      have hP1 := hP.op (o + 1)
      have hlen : (P ++ List.replicate n 9).length = P.length + n := by rw [List.length_append, List.length_replicate]
      have a2 := fun d c => t_waits (sc := sc) (w := w) (c := c) d (P ++ List.replicate n 9).length 12 hP1.1 (by omega)
      have hA2 := hA1.wt (P ++ List.replicate n 9).length 12
      have hP2 := hP1.wt 12
      have g1 := (opM_G (m := m) (o + 1)).tr (wtM_G (P ++ List.replicate n 9).length 12)
      have e31 : wtM (P ++ List.replicate n 9).length 12 (opM (o + 1) m) 138 31 = nI (o + 1) := by rw [wtM_o, opM_o]
      obtain ⟨m2, r1, r2, r3, r4⟩ := hR (d' + 4) i _ _ (g1.xK hx) hA2 hn
      refine ⟨some (.int (nI 0)), m2, fun c0 => ?_, g1.tr (rd_F r2 r3).g, (rd_F r2 r3).xK (g1.xK hx), r4, ?_, ?_⟩
      · unfold hAny
        conv => lhs; rw [bh_MO_readAny_9]
        unfold opM at a2 r1
        simp (disch := first | assumption | omega | decide | (simp only [ma_wd0, ma_wdi, ma_wdr, ma_wdl, ma_wdn] <;> omega)) only [↓reduceIte, evK, evL, evS, evA, evJ, Option.bind_some, Option.toList, List.cons_append, List.nil_append, nI_add, pk_mul, bI0, ite_not, ev_rbb, up_n, up_s, up_u, pk_us, pk_un, Nat.reduceAdd, nI_ltT, nI_ltF, nI_leT, nI_leF, nI_eqT, nI_eqF, bk_MO_readAny, gfC, gfM, ev_r0, ev_r1, eq_self, n_m1e, true_and, and_true, false_and, and_false, and_self, not_true_eq_false, not_false_eq_true, ce_MO_isWord, a1, ce_MO_isSign, a0, ho', pfM, ce_MO_waits, a2, ce_MO_reads, r1]
      · exact rd_p r2 r3 hP2
      · rw [r3 31 (by decide)]; exact e31
    have l12 : ∀ (P : List Nat) (n x : Nat), x ≠ 12 → lastN (P ++ List.replicate n 9 ++ [12]) x := fun P n x hx => lastN_app _ (Ne.symm hx) (by omega)
    have hl12 : ∀ (P : List Nat) (n : Nat), (P ++ List.replicate n 9 ++ [12]).length = P.length + n + 1 := fun P n => by rw [List.length_append, List.length_append, List.length_replicate, List.length_singleton]
    cases r with
    | inr x =>
      obtain ⟨f, p⟩ := x
      refine ⟨.inr (f, p), l, trivial, fun e c he hc' => ?_, fun P n b x3 m hx hA hP hl ho' hn hb hPl hq => ?_⟩
      · obtain ⟨d, rfl⟩ : ∃ d, e = d + 1 := ⟨e - 1, by omega⟩
        obtain ⟨c2, q1, q2, q3⟩ := hc d _ (by omega) (hc'.sk hn)
        refine ⟨c2, fun m1 => ?_, skC_F.tr q2, q3⟩
        have a1 := fun d m => t_now (sc := sc) (w := w) (m := m) d hT hc'.1 hc'.2.1 hi
        have a2 := fun d m => t_skip (sc := sc) (w := w) (m := m) d hc'.2.1
        rw [z] at a1
        simp (disch := first | assumption | omega | decide | (simp only [ma_wd0, ma_wdi, ma_wdr, ma_wdl, ma_wdn] <;> omega)) only [↓reduceIte, evK, evL, evS, evA, evJ, Option.bind_some, Option.toList, List.cons_append, List.nil_append, nI_add, pk_mul, bI0, ite_not, ev_rbb, up_n, up_s, up_u, pk_us, pk_un, Nat.reduceAdd, nI_ltT, nI_ltF, nI_leT, nI_leF, nI_eqT, nI_eqF, en_Reader_readOne, bk_Reader_readOne, gfC, gfM, ev_r0, ev_r1, eq_self, n_m1e, true_and, and_true, false_and, and_false, and_self, not_true_eq_false, not_false_eq_true, ce_Tokens_now, a1, ce_Tokens_skip, a2, ce_Reader_readCondition, q1, oB]
      · obtain ⟨y3, m2, s1, s2, s3, s4, s5, s6⟩ := road P n b x3 m hx hA hP ho' hPl
        obtain ⟨m3, q1, q2, q3⟩ := hm (P ++ List.replicate n 9 ++ [12]) (b + 1) y3 m2 s3 s4 s5 (l12 _ _ _ (by omega)) (l12 _ _ _ (by omega)) (l12 _ _ _ (by omega)) s6 (by omega) (by rw [hl12]; omega) (by rw [hl12]; exact ⟨by have := hq.1; omega, by have := hq.2; omega⟩)
        exact ⟨m3, fun c0 => (s1 c0).trans (q1 c0), s2.tr q2, q3⟩
    | inl x =>
      obtain ⟨as, j⟩ := x
      obtain ⟨b1, b2, b3, b4⟩ := l
      obtain ⟨u0, u1, u2, u3, u4⟩ := hT.2.2 j b2
      by_cases y : T 0 j = 41
      · have hj := hT.nx b2 (by omega)
        refine ⟨.inl (as, j + 1), ⟨by omega, hj, by omega, by omega⟩, t.mono (by omega), fun e c he hc' => ?_, fun P n b x3 m hx hA hP hl ho' hn hb hPl hq => ?_⟩
        · obtain ⟨d, rfl⟩ : ∃ d, e = d + 2 := ⟨e - 2, by omega⟩
          obtain ⟨c2, q1, q2, q3⟩ := hc (d + 1) _ (by omega) (hc'.sk hn)
          have q3 : cA N T j (acc ++ as) c2 := q3
          refine ⟨_, fun m1 => ?_, (skC_F.tr q2).tr skC_F, q3.sk hj⟩
          have a1 := fun d m => t_now (sc := sc) (w := w) (m := m) d hT hc'.1 hc'.2.1 hi
          have a2 := fun d m => t_skip (sc := sc) (w := w) (m := m) d hc'.2.1
          have a3 := fun d m => t_take (sc := sc) (w := w) (m := m) d 41 hT q3.1 q3.2.1 b2 (by omega)
          simp only [if_pos y] at a3
          rw [z] at a1
          simp (disch := first | assumption | omega | decide | (simp only [ma_wd0, ma_wdi, ma_wdr, ma_wdl, ma_wdn] <;> omega)) only [↓reduceIte, evK, evL, evS, evA, evJ, Option.bind_some, Option.toList, List.cons_append, List.nil_append, nI_add, pk_mul, bI0, ite_not, ev_rbb, up_n, up_s, up_u, pk_us, pk_un, Nat.reduceAdd, nI_ltT, nI_ltF, nI_leT, nI_leF, nI_eqT, nI_eqF, en_Reader_readOne, bk_Reader_readOne, gfC, gfM, ev_r0, ev_r1, eq_self, n_m1e, true_and, and_true, false_and, and_false, and_self, not_true_eq_false, not_false_eq_true, ce_Tokens_now, a1, ce_Tokens_skip, a2, ce_Reader_readCondition, q1, oB, ce_Tokens_take, a3]
        · obtain ⟨y3, m2, s1, s2, s3, s4, s5, s6⟩ := road P n b x3 m hx hA hP ho' hPl
          obtain ⟨z3, m3, q1, q2, q3, q4, q5⟩ := hm (P ++ List.replicate n 9 ++ [12]) (b + 1) y3 m2 s3 s4 s5 (l12 _ _ _ (by omega)) (l12 _ _ _ (by omega)) (l12 _ _ _ (by omega)) s6 (by omega) (by rw [hl12]; omega) (by rw [hl12]; exact ⟨by have := hq.1; omega, by have := hq.2; omega⟩)
          have a1 := fun d c => t_isSign (sc := sc) (w := w) (c := c) d 41 q3 (by unfold tkS; omega)
          rw [bI_t y] at a1
          have h33 := q4.1
          rw [hl12] at h33
          have p1 : nI (P.length + n + 1) - nI 1 = nI (P.length + n) := nI_pred _
          have p2 : nI (b + 1) - nI 1 = nI b := nI_pred _
          have p3 : nI (o + 1) - nI 1 = nI o := nI_pred _
          have p4 : (b + 1 = 0) = False := eq_false (by omega)
          have hM : mB N T j ((acc ++ as).flatMap lB_x) (va_up m3 138 (upd (m3 138) 33 (nI (P.length + n)))) := by
            have q3 : mB N T j ((acc ++ as).flatMap lB_x) m3 := q3
            unfold mB at *
            rw [up_s, pk_un (by omega), pk_un (by omega), pk_un (by omega), pk_un (by omega), pk_un (by omega), up_n _ _ _ _ (by omega), up_n _ _ _ _ (by omega)]
            exact q3
          have hPM : pM (P ++ List.replicate n 9) (va_up m3 138 (upd (m3 138) 33 (nI (P.length + n)))) := by
            refine ⟨by rw [up_s, pk_us, List.length_append, List.length_replicate], fun jj x hjj => ?_⟩
            rw [up_n _ _ _ _ (by omega)]
            exact q4.2 jj x (by rw [List.getElem?_append_left (List.getElem?_eq_some_iff.mp hjj).1]; exact hjj)
          have gM : mG m3 (va_up m3 138 (upd (m3 138) 33 (nI (P.length + n)))) := ⟨fun k a _ _ _ => up_n _ _ _ _ a, fun j a => by rw [up_s, pk_un (mem9 a).2.2], fun j _ => ⟨by rw [up_n _ _ _ _ (by omega)], by rw [up_n _ _ _ _ (by omega)]⟩⟩
          obtain ⟨m4, v1, v2, v3, v4, v5⟩ := t_settles (sc := sc) (w := w) (i := j) (N := N) (T := T) (d' + 6) 9 P hl (by omega) n o _ _ (hM.op o) (hPM.op o) (opM_o o) (fun _ => hn) (by omega) (by have := hq.2; rw [List.flatMap_append, List.length_append]; omega) (by omega)
          rw [if_pos rfl] at v5
          have gg := ((s2.tr q2).tr gM).tr ((opM_G o).tr v2)
          obtain ⟨m5, r1, r2, r3, r4⟩ := hR (d' + 4) j _ _ (gg.xK hx) v3 hj
          refine ⟨z3, m5, fun c0 => ?_, gg.tr (rd_F r2 r3).g, ?_, rd_p r2 r3 v4, by rw [r3 31 (by decide)]; exact v5⟩
          · rw [s1 c0, q1 c0]
            unfold opM at v1
            simp only [up_s, up_u] at v1
            unfold hEnd hAny
            simp (disch := first | assumption | omega | decide | (simp only [ma_wd0, ma_wdi, ma_wdr, ma_wdl, ma_wdn] <;> omega)) only [↓reduceIte, evK, evL, evS, evA, evJ, Option.bind_some, Option.toList, List.cons_append, List.nil_append, nI_add, pk_mul, bI0, ite_not, ev_rbb, up_n, up_s, up_u, pk_us, pk_un, Nat.reduceAdd, nI_ltT, nI_ltF, nI_leT, nI_leF, nI_eqT, nI_eqF, bk_MO_readAny, gfC, gfM, ev_r0, ev_r1, eq_self, n_m1e, true_and, and_true, false_and, and_false, and_self, not_true_eq_false, not_false_eq_true, p4, ce_MO_isSign, a1, h33, p1, pfM, p2, q5, p3, ce_MO_settles, v1, ce_MO_reads, r1]
          · unfold mA
            rw [List.flatMap_append, fl_not]
            exact r4
      · refine ⟨.inr (1, T 1 j), ⟨by omega, by omega, u2⟩, trivial, fun e c he hc' => ?_, fun P n b x3 m hx hA hP hl ho' hn hb hPl hq => ?_⟩
        · obtain ⟨d, rfl⟩ : ∃ d, e = d + 2 := ⟨e - 2, by omega⟩
          obtain ⟨c2, q1, q2, q3⟩ := hc (d + 1) _ (by omega) (hc'.sk hn)
          have q3 : cA N T j (acc ++ as) c2 := q3
          refine ⟨_, fun m1 => ?_, (skC_F.tr q2).tr (flC_F _), flC_X 1 ⟨(acc ++ as).length, by have := hQ.1; rw [List.length_append]; omega, q3.2.2.2.2.2.1⟩⟩
          have a1 := fun d m => t_now (sc := sc) (w := w) (m := m) d hT hc'.1 hc'.2.1 hi
          have a2 := fun d m => t_skip (sc := sc) (w := w) (m := m) d hc'.2.1
          have a3 := fun d m => t_take (sc := sc) (w := w) (m := m) d 41 hT q3.1 q3.2.1 b2 (by omega)
          simp only [if_neg y] at a3
          rw [z] at a1
          simp (disch := first | assumption | omega | decide | (simp only [ma_wd0, ma_wdi, ma_wdr, ma_wdl, ma_wdn] <;> omega)) only [↓reduceIte, evK, evL, evS, evA, evJ, Option.bind_some, Option.toList, List.cons_append, List.nil_append, nI_add, pk_mul, bI0, ite_not, ev_rbb, up_n, up_s, up_u, pk_us, pk_un, Nat.reduceAdd, nI_ltT, nI_ltF, nI_leT, nI_leF, nI_eqT, nI_eqF, en_Reader_readOne, bk_Reader_readOne, gfC, gfM, ev_r0, ev_r1, eq_self, n_m1e, true_and, and_true, false_and, and_false, and_self, not_true_eq_false, not_false_eq_true, ce_Tokens_now, a1, ce_Tokens_skip, a2, ce_Reader_readCondition, q1, oB, ce_Tokens_take, a3]
        · obtain ⟨y3, m2, s1, s2, s3, s4, s5, s6⟩ := road P n b x3 m hx hA hP ho' hPl
          obtain ⟨z3, m3, q1, q2, q3, q4, q5⟩ := hm (P ++ List.replicate n 9 ++ [12]) (b + 1) y3 m2 s3 s4 s5 (l12 _ _ _ (by omega)) (l12 _ _ _ (by omega)) (l12 _ _ _ (by omega)) s6 (by omega) (by rw [hl12]; omega) (by rw [hl12]; exact ⟨by have := hq.1; omega, by have := hq.2; omega⟩)
          have a1 := fun d c => t_isSign (sc := sc) (w := w) (c := c) d 41 q3 (by unfold tkS; omega)
          rw [bI_f y] at a1
          have a4 := fun d c => t_errs (sc := sc) (w := w) (c := c) d 1 q3
          have eo := erM_o (N := N) (T := T) (acc := acc) (m := m3) (i := j) 1
          have p4 : (b + 1 = 0) = False := eq_false (by omega)
          refine ⟨erM T j 1 m3, fun c0 => ?_, (s2.tr q2).tr (erM_F _).g, eo.1, eo.2⟩
          rw [s1 c0, q1 c0]
          unfold hEnd
          simp (disch := first | assumption | omega | decide | (simp only [ma_wd0, ma_wdi, ma_wdr, ma_wdl, ma_wdn] <;> omega)) only [↓reduceIte, evK, evL, evS, evA, evJ, Option.bind_some, Option.toList, List.cons_append, List.nil_append, nI_add, pk_mul, bI0, ite_not, ev_rbb, up_n, up_s, up_u, pk_us, pk_un, Nat.reduceAdd, nI_ltT, nI_ltF, nI_leT, nI_leF, nI_eqT, nI_eqF, bk_MO_readAny, gfC, gfM, ev_r0, ev_r1, eq_self, n_m1e, true_and, and_true, false_and, and_false, and_self, not_true_eq_false, not_false_eq_true, p4, ce_MO_isSign, a1, ce_MO_errs, a4]
end OO
