/-! ===== text: one of a condition's parts ===== -/
noncomputable def hAny (sc : Nat × (Nat → Int32)) (d b : Nat) (due : Int32) (x3 : Option Value) (h : List ma_C) : Option (Option Value × List ma_C) := ev sc d 201 (pm_blk 201 9) [some (.ref 138), some (.int (nI b)), some (.int due), x3] [] h
noncomputable def hEnd (sc : Nat × (Nat → Int32)) (d b : Nat) (x3 : Option Value) (h : List ma_C) : Option (Option Value × List ma_C) := ev sc d 201 [(.iload_n 1, []), (.ifCond .ne 5, [192]), (.iconst 0, []), (.ireturn, [0])] [some (.ref 138), some (.int (nI b)), some (.int (nI 0)), x3] [] h
def oneM (sc : Nat × (Nat → Int32)) (w : Nat → Int64) (N : Nat) (T : Nat → Nat → Nat) (m0 : Nat → Nat → Int32) (d' o i : Nat) (acc : List lA) (r : oR) : Prop := ∀ (P : List Nat) (n b : Nat) (x3 : Option Value) (m : Nat → Nat → Int32), xK m0 m → mA N T i acc m → pM (P ++ List.replicate n 9) m → lastN P 9 → m 138 31 = nI o → n ≤ o → b ≤ o → P.length + n ≤ 3 * o + 2 → lQ acc (P.length + n) i → match r with
  | .inl (as, j) => ∃ x3' m', (∀ c0, hAny sc (d' + 8) b (nI 1) x3 (hp c0 w m) = hAny sc (d' + 8) b (nI 0) x3' (hp c0 w m')) ∧ mG m m' ∧ mA N T j (acc ++ as ++ List.replicate n (3, 0)) m' ∧ pM P m' ∧ m' 138 31 = nI (o - n)
  | .inr (f, p) => ∃ m', (∀ c0, hAny sc (d' + 8) b (nI 1) x3 (hp c0 w m) = some (some (.int (-1)), hp c0 w m')) ∧ mG m m' ∧ m' 138 34 = nI f ∧ m' 138 35 = nI p
def cndM (sc : Nat × (Nat → Int32)) (w : Nat → Int64) (N : Nat) (T : Nat → Nat → Nat) (m0 : Nat → Nat → Int32) (d' o i : Nat) (acc : List lA) (r : oR) : Prop := ∀ (P : List Nat) (b : Nat) (x3 : Option Value) (m : Nat → Nat → Int32), xK m0 m → mA N T i acc m → pM P m → lastN P 9 → lastN P 10 → lastN P 11 → m 138 31 = nI o → b ≤ o → P.length ≤ 3 * o → lQ acc P.length i → match r with
  | .inl (as, j) => ∃ x3' m', (∀ c0, hAny sc (d' + 8) b (nI 1) x3 (hp c0 w m) = hEnd sc (d' + 8) b x3' (hp c0 w m')) ∧ mG m m' ∧ mA N T j (acc ++ as) m' ∧ pM P m' ∧ m' 138 31 = nI o
  | .inr (f, p) => ∃ m', (∀ c0, hAny sc (d' + 8) b (nI 1) x3 (hp c0 w m) = some (some (.int (-1)), hp c0 w m')) ∧ mG m m' ∧ m' 138 34 = nI f ∧ m' 138 35 = nI p
def oneAt (sc : Nat × (Nat → Int32)) (w : Nat → Int64) (N : Nat) (T : Nat → Nat → Nat) (m0 : Nat → Nat → Int32) (d' u : Nat) : Prop := ∀ (o i : Nat) (acc : List lA), o + u = 8 → i < N → 1 ≤ i → lQ acc 0 i → ∃ r : oR, oL i 0 N r ∧ oT true [] (4 + 2 * u) r ∧ (∀ e c, 2 * u + 4 ≤ e → cA N T i acc c → qC sc w N T e 79 [.ref 84, .int (nI o)] acc r c) ∧ oneM sc w N T m0 d' o i acc r
def cndAt (sc : Nat × (Nat → Int32)) (w : Nat → Int64) (N : Nat) (T : Nat → Nat → Nat) (m0 : Nat → Nat → Int32) (d' u : Nat) : Prop := ∀ (o i : Nat) (acc : List lA), o + u = 8 → i < N → 1 ≤ i → lQ acc 0 i → ∃ r : oR, oL i 0 N r ∧ oT true [] (6 + 2 * u) r ∧ (∀ e c, 2 * u + 5 ≤ e → cA N T i acc c → qC sc w N T e 78 [.ref 84, .int (nI o)] acc r c) ∧ cndM sc w N T m0 d' o i acc r
theorem fl_not : ∀ n, (List.replicate n ((3, 0) : lA)).flatMap lB_x = List.replicate n (9, 0)
  | 0 => rfl
  | n + 1 => by rw [List.replicate_succ, List.flatMap_cons, fl_not n]; rfl
theorem oT.mono {b : Bool} {st : List Bool} {D D' : Nat} {r : oR} (h : oT b st D r) (hD : D ≤ D') : oT b st D' r := by
  cases r with
  | inl x => exact fun t ht => h t (by omega)
  | inr x => trivial
section ON
variable {sc : Nat × (Nat → Int32)} {m0 : Nat → Nat → Int32} {w : Nat → Int64} {N : Nat} {T : Nat → Nat → Nat}
def opM (o : Nat) (m : Nat → Nat → Int32) : Nat → Nat → Int32 := va_up m 138 (upd (m 138) 31 (nI o))
theorem opM_G {m : Nat → Nat → Int32} (o : Nat) : mG m (opM o m) := ⟨fun k a _ _ _ => up_n _ _ _ _ a, fun j a => by unfold opM; rw [up_s, pk_un (mem9 a).2.1], fun j _ => ⟨by unfold opM; rw [up_n _ _ _ _ (by omega)], by unfold opM; rw [up_n _ _ _ _ (by omega)]⟩⟩
theorem mB.op {m : Nat → Nat → Int32} {i : Nat} {cd : List (Nat × Nat)} (h : mB N T i cd m) (o : Nat) : mB N T i cd (opM o m) := by
  unfold mB opM at *
  rw [up_s, pk_un (by omega), pk_un (by omega), pk_un (by omega), pk_un (by omega), pk_un (by omega), up_n _ _ _ _ (by omega), up_n _ _ _ _ (by omega)]
  exact h
theorem pM.op {m : Nat → Nat → Int32} {P : List Nat} (h : pM P m) (o : Nat) : pM P (opM o m) := by
  unfold pM opM at *
  rw [up_s, pk_un (by omega), up_n _ _ _ _ (by omega)]
  exact h
theorem opM_o {m : Nat → Nat → Int32} (o : Nat) : opM o m 138 31 = nI o := by unfold opM; rw [up_s, pk_us]
theorem rd_p {m m' : Nat → Nat → Int32} {P : List Nat} (h1 : ∀ k, k ≠ 138 → m' k = m k) (h2 : ∀ j, j ∉ [17, 18, 19, 20] → m' 138 j = m 138 j) (h : pM P m) : pM P m' := h.F (rd_F h1 h2)
theorem j_cmp (d' o i : Nat) (acc : List lA) (hT : tOK N T) (hR : rdS sc w N T m0) (hi : i < N) (h1 : 1 ≤ i) (hQ : lQ acc 0 i) : ∃ r : oR, oL i 0 N r ∧ oT true [] 4 r ∧
    (∀ e c, 4 ≤ e → T 0 i ≠ 270 → T 0 i ≠ 40 → cA N T i acc c → qC sc w N T e 79 [.ref 84, .int (nI o)] acc r c) ∧ (∀ m, xK m0 m → mA N T i acc m → qM sc w N T (d' + 7) 203 [.ref 138] acc r m) := by
  have hN := hT.2.1
  have hk1 := (hT.2.2 i hi).2.1
  obtain ⟨r1, l1, t1, c1, m1⟩ := j_sum (sc := sc) (w := w) (m0 := m0) d' i acc hT hR hi h1 hQ
  cases r1 with
  | inr x =>
    obtain ⟨f, p⟩ := x
    refine ⟨.inr (f, p), l1, trivial, fun e c he n1 n2 hc => ?_, fun m hx hm => ?_⟩
    · obtain ⟨d, rfl⟩ : ∃ d, e = d + 4 := ⟨e - 4, by omega⟩
      obtain ⟨c2, q1, q2, q3⟩ := c1 d c hc
      refine ⟨c2, fun m1 => ?_, q2, q3⟩
      have a1 := fun d m => t_now (sc := sc) (w := w) (m := m) d hT hc.1 hc.2.1 hi
      simp (disch := first | assumption | omega | decide | (simp only [ma_wd0, ma_wdi, ma_wdr, ma_wdl, ma_wdn] <;> omega)) only [↓reduceIte, evK, evL, evS, evA, evJ, Option.bind_some, Option.toList, List.cons_append, List.nil_append, nI_add, pk_mul, bI0, ite_not, ev_rbb, up_n, up_s, up_u, pk_us, pk_un, Nat.reduceAdd, nI_ltT, nI_ltF, nI_leT, nI_leF, nI_eqT, nI_eqF, en_Reader_readOne, bk_Reader_readOne, gfC, gfM, ev_r0, ev_r1, eq_self, n_m1e, true_and, and_true, false_and, and_false, and_self, not_true_eq_false, not_false_eq_true, ce_Tokens_now, a1, ce_Reader_readSum, q1, oB]
    · obtain ⟨m2, q1, q2, q3⟩ := m1 m hx hm
      refine ⟨m2, fun c0 => ?_, q2, q3⟩
      simp (disch := first | assumption | omega | decide | (simp only [ma_wd0, ma_wdi, ma_wdr, ma_wdl, ma_wdn] <;> omega)) only [↓reduceIte, evK, evL, evS, evA, evJ, Option.bind_some, Option.toList, List.cons_append, List.nil_append, nI_add, pk_mul, bI0, ite_not, ev_rbb, up_n, up_s, up_u, pk_us, pk_un, Nat.reduceAdd, nI_ltT, nI_ltF, nI_leT, nI_leF, nI_eqT, nI_eqF, en_MO_readCompared, bk_MO_readCompared, gfC, gfM, ev_r0, ev_r1, eq_self, n_m1e, true_and, and_true, false_and, and_false, and_self, not_true_eq_false, not_false_eq_true, ce_MO_readSum, q1, oV]
  | inl x =>
    obtain ⟨as, j⟩ := x
    obtain ⟨b1, b2, b3, b4⟩ := l1
    have hQj : lQ (acc ++ as) 0 j := hQ.app (by omega) (by omega)
    obtain ⟨k0, k1, k2, k3, k4⟩ := hT.2.2 j b2
    by_cases h2 : 60 ≤ T 0 j ∧ T 0 j ≤ 62
    · have hn := hT.nx b2 (by omega)
      obtain ⟨r2, l2, t2, c2, m2⟩ := j_sum (sc := sc) (w := w) (m0 := m0) d' (j + 1) (acc ++ as) hT hR hn (by omega) (hQj.le (by omega))
      have hx60 : tkS (T 0 j) := by unfold tkS; omega
      cases r2 with
      | inr x =>
        obtain ⟨f, p⟩ := x
        refine ⟨.inr (f, p), l2, trivial, fun e c he n1 n2 hc => ?_, fun m hx hm => ?_⟩
        · obtain ⟨d, rfl⟩ : ∃ d, e = d + 4 := ⟨e - 4, by omega⟩
          obtain ⟨c3, q1, q2, q3⟩ := c1 d c hc
          have q3 : cA N T j (acc ++ as) c3 := q3
          obtain ⟨c4, s1, s2, s3⟩ := c2 d _ (q3.sk hn)
          refine ⟨c4, fun m1 => ?_, (q2.tr skC_F).tr s2, s3⟩
          have a1 := fun d m => t_now (sc := sc) (w := w) (m := m) d hT hc.1 hc.2.1 hi
          have a2 := fun d m => t_now (sc := sc) (w := w) (m := m) d hT q3.1 q3.2.1 b2
          have a3 := fun d m => t_skip (sc := sc) (w := w) (m := m) d q3.2.1
          simp (disch := first | assumption | omega | decide | (simp only [ma_wd0, ma_wdi, ma_wdr, ma_wdl, ma_wdn] <;> omega)) only [↓reduceIte, evK, evL, evS, evA, evJ, Option.bind_some, Option.toList, List.cons_append, List.nil_append, nI_add, pk_mul, bI0, ite_not, ev_rbb, up_n, up_s, up_u, pk_us, pk_un, Nat.reduceAdd, nI_ltT, nI_ltF, nI_leT, nI_leF, nI_eqT, nI_eqF, en_Reader_readOne, bk_Reader_readOne, gfC, gfM, ev_r0, ev_r1, eq_self, n_m1e, true_and, and_true, false_and, and_false, and_self, not_true_eq_false, not_false_eq_true, ce_Tokens_now, a1, ce_Reader_readSum, q1, oB, a2, ce_LH_within, t_LH_within, ce_Tokens_skip, a3, s1]
        · obtain ⟨m3, q1, q2, q3⟩ := m1 m hx hm
          have q3 : mA N T j (acc ++ as) m3 := q3
          obtain ⟨m4, g1, g2, g3, g4⟩ := hR (d' + 3) j _ _ (q2.xK hx) q3 hn
          obtain ⟨m5, s1, s2, s3⟩ := m2 m4 ((rd_F g2 g3).xK (q2.xK hx)) g4
          refine ⟨m5, fun c0 => ?_, (q2.tr (rd_F g2 g3)).tr s2, s3⟩
          have a1 := fun d c => t_isSign (sc := sc) (w := w) (c := c) d 60 q3 (by unfold tkS; omega)
          have a2 := fun d c => t_isSign (sc := sc) (w := w) (c := c) d 61 q3 (by unfold tkS; omega)
          have a3 := fun d c => t_isSign (sc := sc) (w := w) (c := c) d 62 q3 (by unfold tkS; omega)
          have e20 := q3.1.vS hx60
          have : T 0 j = 60 ∨ T 0 j = 61 ∨ T 0 j = 62 := by omega
          rcases this with z | z | z
          all_goals
            rw [z] at a1 a2 a3 e20
            simp only [bI_t (rfl : (60 : Nat) = 60), bI_t (rfl : (61 : Nat) = 61), bI_t (rfl : (62 : Nat) = 62), bI_f (show ¬ (60 : Nat) = 61 by decide), bI_f (show ¬ (60 : Nat) = 62 by decide), bI_f (show ¬ (61 : Nat) = 60 by decide), bI_f (show ¬ (61 : Nat) = 62 by decide), bI_f (show ¬ (62 : Nat) = 60 by decide), bI_f (show ¬ (62 : Nat) = 61 by decide)] at a1 a2 a3
            simp (disch := first | assumption | omega | decide | (simp only [ma_wd0, ma_wdi, ma_wdr, ma_wdl, ma_wdn] <;> omega)) only [↓reduceIte, evK, evL, evS, evA, evJ, Option.bind_some, Option.toList, List.cons_append, List.nil_append, nI_add, pk_mul, bI0, ite_not, ev_rbb, up_n, up_s, up_u, pk_us, pk_un, Nat.reduceAdd, nI_ltT, nI_ltF, nI_leT, nI_leF, nI_eqT, nI_eqF, en_MO_readCompared, bk_MO_readCompared, gfC, gfM, ev_r0, ev_r1, eq_self, n_m1e, true_and, and_true, false_and, and_false, and_self, not_true_eq_false, not_false_eq_true, ce_MO_readSum, q1, oV, ce_MO_isSign, a1, a2, a3, e20, ce_MO_reads, g1, s1]
      | inl x =>
        obtain ⟨bs, j2⟩ := x
        obtain ⟨f1, f2, f3, f4⟩ := l2
        obtain ⟨v, hv, hv3⟩ : ∃ v, T 0 j = v + 60 ∧ v < 3 := ⟨T 0 j - 60, by omega, by omega⟩
        have e7 : lB_x (7 + v, 0) = [(6 + v, 0)] := by
          have : v = 0 ∨ v = 1 ∨ v = 2 := by omega
          rcases this with rfl | rfl | rfl <;> rfl
        refine ⟨.inl (as ++ bs ++ [(7 + v, 0)], j2), ⟨by omega, f2, ?_, ?_⟩, fun t ht => ?_, fun e c he n1 n2 hc => ?_, fun m hx hm => ?_⟩
        · rw [List.length_append, List.length_append, List.length_singleton]; omega
        · rw [fl_app, List.flatMap_append, List.length_append, e7, List.length_singleton]; omega
        · have z1 := t1 t (by omega)
          have z2 := t2 (false :: t) (by rw [List.length_cons]; omega)
          rw [List.nil_append] at z1 z2
          rw [lA_T_app, lA_T_app, List.nil_append, z1, Option.bind_some, z2, Option.bind_some]
          have : v = 0 ∨ v = 1 ∨ v = 2 := by omega
          rcases this with rfl | rfl | rfl
          all_goals
            simp only [lA_T, lA_t, List.length_cons, Nat.reduceAdd, Nat.add_zero]
            rw [if_pos (by omega)]
        · obtain ⟨d, rfl⟩ : ∃ d, e = d + 4 := ⟨e - 4, by omega⟩
          obtain ⟨c3, q1, q2, q3⟩ := c1 d c hc
          have q3 : cA N T j (acc ++ as) c3 := q3
          obtain ⟨c4, s1, s2, s3⟩ := c2 d _ (q3.sk hn)
          have s3 : cA N T j2 (acc ++ as ++ bs) c4 := s3
          have s4 := s3.pt (7 + v, 0)
          refine ⟨_, fun m1 => ?_, ((q2.tr skC_F).tr s2).tr (ptC_F _ _), by show cA N T j2 (acc ++ (as ++ bs ++ [(7 + v, 0)])) _; simp only [List.append_assoc] at s4 ⊢; exact s4⟩
          have a1 := fun d m => t_now (sc := sc) (w := w) (m := m) d hT hc.1 hc.2.1 hi
          have a2 := fun d m => t_now (sc := sc) (w := w) (m := m) d hT q3.1 q3.2.1 b2
          have a3 := fun d m => t_skip (sc := sc) (w := w) (m := m) d q3.2.1
          have a4 := fun d m => t_put (sc := sc) (w := w) (m := m) d (acc ++ as ++ bs).length (7 + v, 0) s3.2.2.2.2.2.1 (by have := hQ.1; simp only [List.length_append]; omega) (show (0 : Nat) < 10000 by decide) (show 7 + v < 16 by omega)
          dsimp only at a4
          have a5 : nI (7 + (v + 60)) - nI 60 = nI (7 + v) := by rw [pk_sub (by omega), show 7 + (v + 60) - 60 = 7 + v by omega]
          rw [hv] at a2
          simp only [List.append_assoc] at a4 ⊢
          simp (disch := first | assumption | omega | decide | (simp only [ma_wd0, ma_wdi, ma_wdr, ma_wdl, ma_wdn] <;> omega)) only [↓reduceIte, evK, evL, evS, evA, evJ, Option.bind_some, Option.toList, List.cons_append, List.nil_append, nI_add, pk_mul, bI0, ite_not, ev_rbb, up_n, up_s, up_u, pk_us, pk_un, Nat.reduceAdd, nI_ltT, nI_ltF, nI_leT, nI_leF, nI_eqT, nI_eqF, en_Reader_readOne, bk_Reader_readOne, gfC, gfM, ev_r0, ev_r1, eq_self, n_m1e, true_and, and_true, false_and, and_false, and_self, not_true_eq_false, not_false_eq_true, ce_Tokens_now, a1, ce_Reader_readSum, q1, oB, a2, ce_LH_within, t_LH_within, ce_Tokens_skip, a3, s1, a5, ce_Law_put, a4]
        · obtain ⟨m3, q1, q2, q3⟩ := m1 m hx hm
          have q3 : mA N T j (acc ++ as) m3 := q3
          obtain ⟨m4, g1, g2, g3, g4⟩ := hR (d' + 3) j _ _ (q2.xK hx) q3 hn
          obtain ⟨m5, s1, s2, s3⟩ := m2 m4 ((rd_F g2 g3).xK (q2.xK hx)) g4
          have s3 : mA N T j2 (acc ++ as ++ bs) m5 := s3
          have s4 := s3.em (7 + v, 0) (6 + v, 0) e7
          refine ⟨_, fun c0 => ?_, ((q2.tr (rd_F g2 g3)).tr s2).tr (emM_F _ _), by show mA N T j2 (acc ++ (as ++ bs ++ [(7 + v, 0)])) _; simp only [List.append_assoc] at s4 ⊢; exact s4⟩
          have a4 := fun d c => t_emits (sc := sc) (w := w) (c := c) d ((acc ++ as ++ bs).flatMap lB_x).length (6 + v, 0) s3.2.2.2.2.1 (by have := hQ.2; simp only [List.flatMap_append, List.length_append]; omega)
          dsimp only at a4
          simp only [List.append_assoc] at a4 ⊢
          have a1 := fun d c => t_isSign (sc := sc) (w := w) (c := c) d 60 q3 (by unfold tkS; omega)
          have a2 := fun d c => t_isSign (sc := sc) (w := w) (c := c) d 61 q3 (by unfold tkS; omega)
          have a3 := fun d c => t_isSign (sc := sc) (w := w) (c := c) d 62 q3 (by unfold tkS; omega)
          have e20 := q3.1.vS hx60
          have : v = 0 ∨ v = 1 ∨ v = 2 := by omega
          rcases this with rfl | rfl | rfl
          all_goals
            rw [hv] at a1 a2 a3 e20
            simp only [Nat.reduceAdd, bI_t (rfl : (60 : Nat) = 60), bI_t (rfl : (61 : Nat) = 61), bI_t (rfl : (62 : Nat) = 62), bI_f (show ¬ (60 : Nat) = 61 by decide), bI_f (show ¬ (60 : Nat) = 62 by decide), bI_f (show ¬ (61 : Nat) = 60 by decide), bI_f (show ¬ (61 : Nat) = 62 by decide), bI_f (show ¬ (62 : Nat) = 60 by decide), bI_f (show ¬ (62 : Nat) = 61 by decide)] at a1 a2 a3 a4 e20
            simp (disch := first | assumption | omega | decide | (simp only [ma_wd0, ma_wdi, ma_wdr, ma_wdl, ma_wdn] <;> omega)) only [↓reduceIte, evK, evL, evS, evA, evJ, Option.bind_some, Option.toList, List.cons_append, List.nil_append, nI_add, pk_mul, bI0, ite_not, ev_rbb, up_n, up_s, up_u, pk_us, pk_un, Nat.reduceAdd, nI_ltT, nI_ltF, nI_leT, nI_leF, nI_eqT, nI_eqF, en_MO_readCompared, bk_MO_readCompared, gfC, gfM, ev_r0, ev_r1, eq_self, n_m1e, true_and, and_true, false_and, and_false, and_self, not_true_eq_false, not_false_eq_true, ce_MO_readSum, q1, oV, ce_MO_isSign, a1, a2, a3, e20, ce_MO_reads, g1, s1, ce_MO_emits, a4]
    · refine ⟨.inr (1, T 1 j), ⟨by omega, by omega, k2⟩, trivial, fun e c he n1 n2 hc => ?_, fun m hx hm => ?_⟩
      · obtain ⟨d, rfl⟩ : ∃ d, e = d + 4 := ⟨e - 4, by omega⟩
        obtain ⟨c3, q1, q2, q3⟩ := c1 d c hc
        have q3 : cA N T j (acc ++ as) c3 := q3
        refine ⟨_, fun m1 => ?_, q2.tr (flC_F _), flC_X 1 ⟨(acc ++ as).length, by have := hQj.1; omega, q3.2.2.2.2.2.1⟩⟩
        have a1 := fun d m => t_now (sc := sc) (w := w) (m := m) d hT hc.1 hc.2.1 hi
        have a2 := fun d m => t_now (sc := sc) (w := w) (m := m) d hT q3.1 q3.2.1 b2
        have a3 := fun d m => t_fail (sc := sc) (w := w) (m := m) d 1 hT q3.1 q3.2.1 b2
        have a4 : (nI 60 ≤ nI (T 0 j) ∧ nI (T 0 j) ≤ nI 62) = False := by
          rcases Nat.lt_or_ge (T 0 j) 60 with z | z
          · rw [nI_leF z (by omega)]; simp
          · rw [nI_leF (a := T 0 j) (by omega) (by omega)]; simp
        simp (disch := first | assumption | omega | decide | (simp only [ma_wd0, ma_wdi, ma_wdr, ma_wdl, ma_wdn] <;> omega)) only [↓reduceIte, evK, evL, evS, evA, evJ, Option.bind_some, Option.toList, List.cons_append, List.nil_append, nI_add, pk_mul, bI0, ite_not, ev_rbb, up_n, up_s, up_u, pk_us, pk_un, Nat.reduceAdd, nI_ltT, nI_ltF, nI_leT, nI_leF, nI_eqT, nI_eqF, en_Reader_readOne, bk_Reader_readOne, gfC, gfM, ev_r0, ev_r1, eq_self, n_m1e, true_and, and_true, false_and, and_false, and_self, not_true_eq_false, not_false_eq_true, ce_Tokens_now, a1, ce_Reader_readSum, q1, oB, a2, ce_LH_within, t_LH_within, a4, ce_Tokens_fail, a3]
      · obtain ⟨m3, q1, q2, q3⟩ := m1 m hx hm
        have q3 : mA N T j (acc ++ as) m3 := q3
        refine ⟨_, fun c0 => ?_, q2.tr (erM_F _), erM_o _⟩
        have a1 := fun d c => t_isSign (sc := sc) (w := w) (c := c) d 60 q3 (by unfold tkS; omega)
        have a2 := fun d c => t_isSign (sc := sc) (w := w) (c := c) d 61 q3 (by unfold tkS; omega)
        have a3 := fun d c => t_isSign (sc := sc) (w := w) (c := c) d 62 q3 (by unfold tkS; omega)
        have a4 := fun d c => t_errs (sc := sc) (w := w) (c := c) d 1 q3
        rw [bI_f (by omega)] at a1 a2 a3
        simp (disch := first | assumption | omega | decide | (simp only [ma_wd0, ma_wdi, ma_wdr, ma_wdl, ma_wdn] <;> omega)) only [↓reduceIte, evK, evL, evS, evA, evJ, Option.bind_some, Option.toList, List.cons_append, List.nil_append, nI_add, pk_mul, bI0, ite_not, ev_rbb, up_n, up_s, up_u, pk_us, pk_un, Nat.reduceAdd, nI_ltT, nI_ltF, nI_leT, nI_leF, nI_eqT, nI_eqF, en_MO_readCompared, bk_MO_readCompared, gfC, gfM, ev_r0, ev_r1, eq_self, n_m1e, true_and, and_true, false_and, and_false, and_self, not_true_eq_false, not_false_eq_true, ce_MO_readSum, q1, oV, ce_MO_isSign, a1, a2, a3, ce_MO_errs, a4]
end ON
