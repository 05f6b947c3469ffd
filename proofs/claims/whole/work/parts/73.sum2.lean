/-! ===== text: products and sums ===== -/
section SV
variable {sc : Nat × (Nat → Int32)} {m0 : Nat → Nat → Int32} {w : Nat → Int64} {N : Nat} {T : Nat → Nat → Nat}
/-- the heads of the loops -/
noncomputable def hSum (sc : Nat × (Nat → Int32)) (d : Nat) (wv fine : Int32) (n : Nat) (x4 : Option Value) (h : List ma_C) : Option (Option Value × List ma_C) := ev sc d 75 (pm_blk 75 9) [some (.ref 84), some (.int wv), some (.int fine), some (.int (nI n)), x4] [] h
noncomputable def hPro (sc : Nat × (Nat → Int32)) (d : Nat) (x1 : Option Value) (h : List ma_C) : Option (Option Value × List ma_C) := ev sc d 197 (pm_blk 197 10) [some (.ref 138), x1] [] h
theorem oC_app {acc as bs : List lA} {j : Nat} {c : Nat → Nat → Int32} : oC N T (acc ++ as) (.inl (bs, j)) c = oC N T acc (.inl (as ++ bs, j)) c := by simp only [oC, List.append_assoc]
theorem oM_app {acc as bs : List lA} {j : Nat} {m : Nat → Nat → Int32} : oM N T (acc ++ as) (.inl (bs, j)) m = oM N T acc (.inl (as ++ bs, j)) m := by simp only [oM, List.append_assoc]
theorem lQ.app {acc as : List lA} {q i j : Nat} (h : lQ acc q i) (h1 : as.length + i ≤ j) (h2 : (as.flatMap lB_x).length + i ≤ j) : lQ (acc ++ as) q j := ⟨by have := h.1; rw [List.length_append]; omega, by have := h.2; rw [List.flatMap_append, List.length_append]; omega⟩
/-- an outcome behind other steps -/
def oP (as : List lA) (r : oR) : oR := match r with
  | .inl (bs, j) => .inl (as ++ bs, j)
  | .inr x => .inr x
theorem oP_C {acc as : List lA} {r : oR} {c : Nat → Nat → Int32} (h : oC N T (acc ++ as) r c) : oC N T acc (oP as r) c := by
  cases r with
  | inl x => exact oC_app.mp h
  | inr x => exact h
theorem oP_M {acc as : List lA} {r : oR} {m : Nat → Nat → Int32} (h : oM N T (acc ++ as) r m) : oM N T acc (oP as r) m := by
  cases r with
  | inl x => exact oM_app.mp h
  | inr x => exact h
theorem oP_B (as : List lA) (r : oR) : oB (oP as r) = oB r := by cases r <;> rfl
theorem oP_V (as : List lA) (r : oR) : oV (oP as r) = oV r := by cases r <;> rfl
theorem oP_L {as : List lA} {r : oR} {i j q q' : Nat} (h : oL j q' N r) (hi : i ≤ j) (h1 : as.length + i + q' ≤ j + q) (h2 : (as.flatMap lB_x).length + i + q' ≤ j + q) : oL i q N (oP as r) := by
  cases r with
  | inl x =>
    obtain ⟨a1, a2, a3, a4⟩ := h
    refine ⟨by omega, a2, ?_, ?_⟩
    · rw [List.length_append]; omega
    · rw [List.flatMap_append, List.length_append]; omega
  | inr x => exact h
theorem oP_T {as : List lA} {r : oR} {b : Bool} {st st' : List Bool} {D D' : Nat} (h : oT b st' D' r) (h1 : ∀ t : List Bool, t.length + D ≤ 32 → lA_T as (st ++ t) = some (st' ++ t)) (hD : D' ≤ D) : oT b st D (oP as r) := by
  cases r with
  | inl x =>
    intro t ht
    show lA_T (as ++ x.1) (st ++ t) = _
    rw [lA_T_app, h1 t ht]
    exact h t (by omega)
  | inr x => trivial
theorem fl_app (as : List lA) (a : lA) : ((as ++ [a]).flatMap lB_x).length = (as.flatMap lB_x).length + (lB_x a).length := by
  rw [List.flatMap_append, List.length_append, List.flatMap_cons, List.flatMap_nil, List.append_nil]
theorem fl_6 : (lB_x (6, 0)).length = 1 := rfl
theorem j_prod (d' : Nat) (hT : tOK N T) (hR : rdS sc w N T m0) : ∀ (k i : Nat) (acc : List lA), i + k = N → i < N → lQ acc 0 i → ∃ r : oR, oL i 0 N r ∧ oT false [false] 2 r ∧ (∀ as j, r = .inl (as, j) → T 0 j ≠ 42 ∧ T 0 j ≠ 47) ∧
    (∀ d wv n x4 c, cA N T i acc c → n + N ≤ i + 400 → ∃ n' x4' c', (∀ m1, hSum sc (d + 3) wv (nI 1) n x4 (hp c w m1) = hSum sc (d + 3) wv (oB r) n' x4' (hp c' w m1)) ∧ cF c c' ∧ oC N T acc r c' ∧ ∀ as j, r = .inl (as, j) → n' + N ≤ j + 400) ∧
    (∀ x1 m, xK m0 m → mA N T i acc m → ∃ m', (∀ c0, hPro sc (d' + 5) x1 (hp c0 w m) = some (some (.int (oV r)), hp c0 w m')) ∧ mF m m' ∧ oM N T acc r m') := by
  intro k
  induction k using Nat.strongRecOn with
  | ind k ih =>
  intro i acc hk hi hQ
  obtain ⟨k0, k1, k2, k3, k4⟩ := hT.2.2 i hi
  have hN := hT.2.1
  by_cases h1 : T 0 i = 42
  · have hn := hT.nx hi (by omega)
    obtain ⟨r1, l1, t1, c1, m1, e1⟩ := j_operand d' (i + 1) acc hT hR hn (hQ.le (by omega))
    cases r1 with
    | inr x =>
      obtain ⟨f, p⟩ := x
      refine ⟨.inr (f, p), l1, trivial, fun as j e => (by cases e), fun d wv n x4 c hc hb => ?_, fun x1 m hx hm => ?_⟩
      · obtain ⟨c2, q1, q2, q3⟩ := c1 d _ (hc.sk hn)
        obtain ⟨c3, s1, s2, s3⟩ := cX.put (sc := sc) (w := w) (d + 2) (nI 6) (nI 0) q3
        refine ⟨n + 1, some (.int (nI 42)), c3, fun m1 => ?_, (skC_F.tr q2).tr s2, s3, fun as j e => by cases e⟩
        have a1 := fun d m => t_now (sc := sc) (w := w) (m := m) d hT hc.1 hc.2.1 hi
        have a2 := fun d m => t_skip (sc := sc) (w := w) (m := m) d hc.2.1
        rw [h1] at a1
        unfold hSum
        conv => lhs; rw [bh_Reader_readSum_9]
        simp (disch := first | assumption | omega | decide | (simp only [ma_wd0, ma_wdi, ma_wdr, ma_wdl, ma_wdn] <;> omega)) only [↓reduceIte, evK, evL, evS, evA, evJ, Option.bind_some, Option.toList, List.cons_append, List.nil_append, nI_add, pk_mul, bI0, ite_not, ev_rbb, up_n, up_s, up_u, pk_us, pk_un, Nat.reduceAdd, nI_ltT, nI_ltF, nI_leT, nI_leF, nI_eqT, nI_eqF, bk_Reader_readSum, gfC, gfM, ev_r0, ev_r1, eq_self, n_m1e, true_and, and_true, false_and, and_false, and_self, not_true_eq_false, not_false_eq_true, ce_Tokens_now, a1, ce_Tokens_skip, a2, ce_Reader_readOperand, q1, oB, ce_Law_put, s1]
      · obtain ⟨m2, r1, r2, r3, r4⟩ := hR (d' + 1) i _ _ hx hm hn
        obtain ⟨m3, q1, q2, q3⟩ := m1 m2 ((rd_F r2 r3).xK hx) r4
        refine ⟨m3, fun c0 => ?_, (rd_F r2 r3).tr q2, q3⟩
        have a1 := fun d c => t_isSign (sc := sc) (w := w) (c := c) d 42 hm (by unfold tkS; omega)
        rw [bI_t h1] at a1
        unfold hPro
        rw [bh_MO_readProduct_10]
        simp (disch := first | assumption | omega | decide | (simp only [ma_wd0, ma_wdi, ma_wdr, ma_wdl, ma_wdn] <;> omega)) only [↓reduceIte, evK, evL, evS, evA, evJ, Option.bind_some, Option.toList, List.cons_append, List.nil_append, nI_add, pk_mul, bI0, ite_not, ev_rbb, up_n, up_s, up_u, pk_us, pk_un, Nat.reduceAdd, nI_ltT, nI_ltF, nI_leT, nI_leF, nI_eqT, nI_eqF, bk_MO_readProduct, gfC, gfM, ev_r0, ev_r1, eq_self, n_m1e, true_and, and_true, false_and, and_false, and_self, not_true_eq_false, not_false_eq_true, ce_MO_isSign, a1, ce_MO_reads, r1, ce_MO_readUnit, q1, oV]
    | inl x =>
      obtain ⟨as, j⟩ := x
      obtain rfl := e1 as j rfl
      obtain ⟨b1, b2, b3, b4⟩ := l1
      have hQ2 : lQ (acc ++ (as ++ [(6, 0)])) 0 (i + 1 + 1) := hQ.app (by rw [List.length_append, List.length_singleton]; omega) (by rw [fl_app, fl_6]; omega)
      obtain ⟨r, l2, t2, n2, c2, m2⟩ := ih (N - (i + 2)) (by omega) (i + 1 + 1) (acc ++ (as ++ [(6, 0)])) (by omega) b2 hQ2
      refine ⟨oP (as ++ [(6, 0)]) r, oP_L l2 (by omega) (by rw [List.length_append, List.length_singleton]; omega) (by rw [fl_app, fl_6]; omega), oP_T t2 (fun t ht => ?_) (by omega), fun as' j' e => ?_, fun d wv n x4 c hc hb => ?_, fun x1 m hx hm => ?_⟩
      · have := t1 (false :: t) (by simp; omega)
        rw [lA_T_app]
        simp only [List.nil_append] at this
        simp only [List.cons_append, List.nil_append]
        rw [this]
        simp only [Option.bind_some, lA_T, lA_t, List.length_cons]
        rw [if_pos (by omega)]
      · cases r with
        | inl x => cases e; exact n2 _ _ rfl
        | inr x => cases e
      · obtain ⟨c3, q1, q2, q3⟩ := c1 d _ (hc.sk hn)
        have q3 : cA N T (i + 1 + 1) (acc ++ as) c3 := q3
        have q4 := q3.pt (6, 0)
        rw [List.append_assoc] at q4
        have a3 := fun d m => t_put (sc := sc) (w := w) (m := m) d (acc ++ as).length (6, 0) q3.2.2.2.2.2.1 (by have := hQ.1; rw [List.length_append]; omega) (by decide) (by decide)
        dsimp only at a3
        obtain ⟨n', x4', c', z1, z2, z3, z4⟩ := c2 d wv (n + 1) (some (.int (nI 42))) _ q4 (by omega)
        refine ⟨n', x4', c', fun m1 => ?_, ((skC_F.tr q2).tr (ptC_F _ _)).tr z2, oP_C z3, fun as' j' e => ?_⟩
        · have a1 := fun d m => t_now (sc := sc) (w := w) (m := m) d hT hc.1 hc.2.1 hi
          have a2 := fun d m => t_skip (sc := sc) (w := w) (m := m) d hc.2.1
          rw [h1] at a1
          rw [oP_B, ← z1 m1]
          unfold hSum
          conv => lhs; rw [bh_Reader_readSum_9]
          simp (disch := first | assumption | omega | decide | (simp only [ma_wd0, ma_wdi, ma_wdr, ma_wdl, ma_wdn] <;> omega)) only [↓reduceIte, evK, evL, evS, evA, evJ, Option.bind_some, Option.toList, List.cons_append, List.nil_append, nI_add, pk_mul, bI0, ite_not, ev_rbb, up_n, up_s, up_u, pk_us, pk_un, Nat.reduceAdd, nI_ltT, nI_ltF, nI_leT, nI_leF, nI_eqT, nI_eqF, bk_Reader_readSum, gfC, gfM, ev_r0, ev_r1, eq_self, n_m1e, true_and, and_true, false_and, and_false, and_self, not_true_eq_false, not_false_eq_true, ce_Tokens_now, a1, ce_Tokens_skip, a2, ce_Reader_readOperand, q1, oB, ce_Law_put, a3]
        · cases r with
          | inl x => cases e; exact z4 _ _ rfl
          | inr x => cases e
      · obtain ⟨m3, r1, r2, r3, r4⟩ := hR (d' + 1) i _ _ hx hm hn
        obtain ⟨m4, q1, q2, q3⟩ := m1 m3 ((rd_F r2 r3).xK hx) r4
        have q3 : mA N T (i + 1 + 1) (acc ++ as) m4 := q3
        have q4 := q3.em (6, 0) (4, 0) rfl
        rw [List.append_assoc] at q4
        have a3 := fun d c => t_emits (sc := sc) (w := w) (c := c) d ((acc ++ as).flatMap lB_x).length (4, 0) q3.2.2.2.2.1 (by have := hQ.2; rw [List.flatMap_append, List.length_append]; omega)
        dsimp only at a3
        obtain ⟨m5, z1, z2, z3⟩ := m2 (some (.int (nI 1))) _ ((emM_F _ _).xK (q2.xK ((rd_F r2 r3).xK hx))) q4
        refine ⟨m5, fun c0 => ?_, (((rd_F r2 r3).tr q2).tr (emM_F _ _)).tr z2, oP_M z3⟩
        have a1 := fun d c => t_isSign (sc := sc) (w := w) (c := c) d 42 hm (by unfold tkS; omega)
        rw [bI_t h1] at a1
        rw [oP_V, ← z1 c0]
        unfold hPro
        conv => lhs; rw [bh_MO_readProduct_10]
        simp (disch := first | assumption | omega | decide | (simp only [ma_wd0, ma_wdi, ma_wdr, ma_wdl, ma_wdn] <;> omega)) only [↓reduceIte, evK, evL, evS, evA, evJ, Option.bind_some, Option.toList, List.cons_append, List.nil_append, nI_add, pk_mul, bI0, ite_not, ev_rbb, up_n, up_s, up_u, pk_us, pk_un, Nat.reduceAdd, nI_ltT, nI_ltF, nI_leT, nI_leF, nI_eqT, nI_eqF, bk_MO_readProduct, gfC, gfM, ev_r0, ev_r1, eq_self, n_m1e, true_and, and_true, false_and, and_false, and_self, not_true_eq_false, not_false_eq_true, ce_MO_isSign, a1, ce_MO_reads, r1, ce_MO_readUnit, q1, oV, ce_MO_emits, a3]
  · by_cases h2 : T 0 i = 47
    · have hn := hT.nx hi (by omega)
      obtain ⟨u0, u1, u2, u3, u4⟩ := hT.2.2 (i + 1) hn
      by_cases h3 : T 0 (i + 1) = 1
      · by_cases h4 : T 2 (i + 1) = 0
        · refine ⟨.inr (2, T 1 (i + 1)), ⟨by omega, by omega, u2⟩, trivial, fun as j e => (by cases e), fun d wv n x4 c hc hb => ?_, fun x1 m hx hm => ?_⟩
          · have hc2 := hc.sk hn
            refine ⟨n + 1, some (.int (nI 47)), _, fun m1 => ?_, skC_F.tr (flC_F _), flC_X 2 ⟨acc.length, by have := hQ.1; omega, hc2.2.2.2.2.2.1⟩, fun as j e => by cases e⟩
            have a1 := fun d m => t_now (sc := sc) (w := w) (m := m) d hT hc.1 hc.2.1 hi
            have a2 := fun d m => t_skip (sc := sc) (w := w) (m := m) d hc.2.1
            have a3 := fun d m => t_now (sc := sc) (w := w) (m := m) d hT hc2.1 hc2.2.1 hn
            have a4 := fun d m => t_amount (sc := sc) (w := w) (m := m) d hT hc2.1 hc2.2.1 hn
            have a5 := fun d m => t_fail (sc := sc) (w := w) (m := m) d 2 hT hc2.1 hc2.2.1 hn
            rw [h2] at a1
            rw [h3] at a3
            rw [h4] at a4
            unfold hSum
            conv => lhs; rw [bh_Reader_readSum_9]
            simp (disch := first | assumption | omega | decide | (simp only [ma_wd0, ma_wdi, ma_wdr, ma_wdl, ma_wdn] <;> omega)) only [↓reduceIte, evK, evL, evS, evA, evJ, Option.bind_some, Option.toList, List.cons_append, List.nil_append, nI_add, pk_mul, bI0, ite_not, ev_rbb, up_n, up_s, up_u, pk_us, pk_un, Nat.reduceAdd, nI_ltT, nI_ltF, nI_leT, nI_leF, nI_eqT, nI_eqF, bk_Reader_readSum, gfC, gfM, ev_r0, ev_r1, eq_self, n_m1e, true_and, and_true, false_and, and_false, and_self, not_true_eq_false, not_false_eq_true, ce_Tokens_now, a1, ce_Tokens_skip, a2, ce_Reader_readDivisor, en_Reader_readDivisor, bk_Reader_readDivisor, a3, ce_Tokens_amount, a4, ce_Tokens_fail, a5, oB]
          · obtain ⟨m2, r1, r2, r3, r4⟩ := hR (d' + 1) i _ _ hx hm hn
            have e19 : m2 138 19 = nI 3 := by rw [r4.1.num]; exact h3
            have e20 := r4.1.vN h3
            rw [h4] at e20
            have a3 := fun d c => t_errs (sc := sc) (w := w) (c := c) d 2 r4
            refine ⟨_, fun c0 => ?_, (rd_F r2 r3).tr (erM_F _), erM_o _⟩
            have a1 := fun d c => t_isSign (sc := sc) (w := w) (c := c) d 42 hm (by unfold tkS; omega)
            have a2 := fun d c => t_isSign (sc := sc) (w := w) (c := c) d 47 hm (by unfold tkS; omega)
            rw [bI_f h1] at a1
            rw [bI_t h2] at a2
            unfold hPro
            rw [bh_MO_readProduct_10]
            simp (disch := first | assumption | omega | decide | (simp only [ma_wd0, ma_wdi, ma_wdr, ma_wdl, ma_wdn] <;> omega)) only [↓reduceIte, evK, evL, evS, evA, evJ, Option.bind_some, Option.toList, List.cons_append, List.nil_append, nI_add, pk_mul, bI0, ite_not, ev_rbb, up_n, up_s, up_u, pk_us, pk_un, Nat.reduceAdd, nI_ltT, nI_ltF, nI_leT, nI_leF, nI_eqT, nI_eqF, bk_MO_readProduct, gfC, gfM, ev_r0, ev_r1, eq_self, n_m1e, true_and, and_true, false_and, and_false, and_self, not_true_eq_false, not_false_eq_true, ce_MO_isSign, a1, a2, ce_MO_reads, r1, e19, e20, ce_MO_errs, a3, oV]
        · have hn2 := hT.nx hn (by omega)
          have hQ2 : lQ (acc ++ [(2, T 2 (i + 1))]) 0 (i + 1 + 1) := hQ.app (by simp; omega) (by simp [lB_x]; omega)
          obtain ⟨r, l2, t2, n2, c2, m2⟩ := ih (N - (i + 2)) (by omega) (i + 1 + 1) (acc ++ [(2, T 2 (i + 1))]) (by omega) hn2 hQ2
          refine ⟨oP [(2, T 2 (i + 1))] r, oP_L l2 (by omega) (by simp; omega) (by simp [lB_x]; omega), oP_T t2 (fun t ht => ?_) (by omega), fun as' j' e => ?_, fun d wv n x4 c hc hb => ?_, fun x1 m hx hm => ?_⟩
          · simp only [List.cons_append, List.nil_append, lA_T, lA_t, List.length_cons]
            rw [if_pos ⟨by omega, u3⟩]
            simp only
            rw [if_pos (by simp; omega)]
          · cases r with
            | inl x => cases e; exact n2 _ _ rfl
            | inr x => cases e
          · have hc2 := hc.sk hn
            have hc3 := hc2.pt (2, T 2 (i + 1))
            have hc4 := hc3.sk hn2
            obtain ⟨n', x4', c', z1, z2, z3, z4⟩ := c2 d wv (n + 1) (some (.int (nI 47))) _ hc4 (by omega)
            refine ⟨n', x4', c', fun m1 => ?_, ((skC_F.tr (ptC_F _ _)).tr skC_F).tr z2, oP_C z3, fun as' j' e => ?_⟩
            · have a1 := fun d m => t_now (sc := sc) (w := w) (m := m) d hT hc.1 hc.2.1 hi
              have a2 := fun d m => t_skip (sc := sc) (w := w) (m := m) d hc.2.1
              have a3 := fun d m => t_now (sc := sc) (w := w) (m := m) d hT hc2.1 hc2.2.1 hn
              have a4 := fun d m => t_amount (sc := sc) (w := w) (m := m) d hT hc2.1 hc2.2.1 hn
              have a5 := fun d m => t_put (sc := sc) (w := w) (m := m) d acc.length (2, T 2 (i + 1)) hc2.2.2.2.2.2.1 (by have := hQ.1; omega) u3 (show (2 : Nat) < 16 by decide)
              have a6 := fun d m => t_skip (sc := sc) (w := w) (m := m) d hc3.2.1
              dsimp only at a5
              rw [h2] at a1
              rw [h3] at a3
              rw [oP_B, ← z1 m1]
              unfold hSum
              conv => lhs; rw [bh_Reader_readSum_9]
              simp (disch := first | assumption | omega | decide | (simp only [ma_wd0, ma_wdi, ma_wdr, ma_wdl, ma_wdn] <;> omega)) only [↓reduceIte, evK, evL, evS, evA, evJ, Option.bind_some, Option.toList, List.cons_append, List.nil_append, nI_add, pk_mul, bI0, ite_not, ev_rbb, up_n, up_s, up_u, pk_us, pk_un, Nat.reduceAdd, nI_ltT, nI_ltF, nI_leT, nI_leF, nI_eqT, nI_eqF, bk_Reader_readSum, gfC, gfM, ev_r0, ev_r1, eq_self, n_m1e, true_and, and_true, false_and, and_false, and_self, not_true_eq_false, not_false_eq_true, ce_Tokens_now, a1, ce_Tokens_skip, a2, ce_Reader_readDivisor, en_Reader_readDivisor, bk_Reader_readDivisor, a3, ce_Tokens_amount, a4, ce_Law_put, a5, a6]
            · cases r with
              | inl x => cases e; exact z4 _ _ rfl
              | inr x => cases e
          · obtain ⟨m3, r1, r2, r3, r4⟩ := hR (d' + 1) i _ _ hx hm hn
            have e19 : m3 138 19 = nI 3 := by rw [r4.1.num]; exact h3
            have e20 := r4.1.vN h3
            have q4 := mB.em r4 (0, T 2 (i + 1))
            obtain ⟨m5, s1, s2, s3, s4⟩ := hR d' (i + 1) _ _ ((emM_F _ _).xK ((rd_F r2 r3).xK hx)) q4 hn2
            have q5 := mB.em s4 (5, 0)
            have q6 : mA N T (i + 1 + 1) (acc ++ [(2, T 2 (i + 1))]) (emM ((acc.flatMap lB_x) ++ [(0, T 2 (i + 1))]).length (5, 0) m5) := by
              unfold mA
              rw [List.flatMap_append]
              rw [List.append_assoc] at q5
              exact q5
            obtain ⟨m6, z1, z2, z3⟩ := m2 (some (.int (nI 0))) _ ((emM_F _ _).xK ((rd_F s2 s3).xK ((emM_F _ _).xK ((rd_F r2 r3).xK hx)))) q6
            refine ⟨m6, fun c0 => ?_, ((((rd_F r2 r3).tr (emM_F _ _)).tr (rd_F s2 s3)).tr (emM_F _ _)).tr z2, oP_M z3⟩
            have a1 := fun d c => t_isSign (sc := sc) (w := w) (c := c) d 42 hm (by unfold tkS; omega)
            have a2 := fun d c => t_isSign (sc := sc) (w := w) (c := c) d 47 hm (by unfold tkS; omega)
            rw [bI_f h1] at a1
            rw [bI_t h2] at a2
            have a3 := fun d c => t_emits (sc := sc) (w := w) (c := c) d (acc.flatMap lB_x).length (0, T 2 (i + 1)) r4.2.2.2.2.1 (by have := hQ.2; omega)
            have a4 := fun d c => t_emits (sc := sc) (w := w) (c := c) d ((acc.flatMap lB_x) ++ [(0, T 2 (i + 1))]).length (5, 0) s4.2.2.2.2.1 (by have := hQ.2; rw [List.length_append, List.length_singleton]; omega)
            dsimp only at a3 a4
            rw [oP_V, ← z1 c0]
            unfold hPro
            conv => lhs; rw [bh_MO_readProduct_10]
            simp (disch := first | assumption | omega | decide | (simp only [ma_wd0, ma_wdi, ma_wdr, ma_wdl, ma_wdn] <;> omega)) only [↓reduceIte, evK, evL, evS, evA, evJ, Option.bind_some, Option.toList, List.cons_append, List.nil_append, nI_add, pk_mul, bI0, ite_not, ev_rbb, up_n, up_s, up_u, pk_us, pk_un, Nat.reduceAdd, nI_ltT, nI_ltF, nI_leT, nI_leF, nI_eqT, nI_eqF, bk_MO_readProduct, gfC, gfM, ev_r0, ev_r1, eq_self, n_m1e, true_and, and_true, false_and, and_false, and_self, not_true_eq_false, not_false_eq_true, ce_MO_isSign, a1, a2, ce_MO_reads, r1, e19, e20, ce_MO_readUnit, en_MO_readUnit, bk_MO_readUnit, ce_MO_emits, a3, s1, a4]
      · refine ⟨.inr (1, T 1 (i + 1)), ⟨by omega, by omega, u2⟩, trivial, fun as j e => (by cases e), fun d wv n x4 c hc hb => ?_, fun x1 m hx hm => ?_⟩
        · have hc2 := hc.sk hn
          refine ⟨n + 1, some (.int (nI 47)), _, fun m1 => ?_, skC_F.tr (flC_F _), flC_X 1 ⟨acc.length, by have := hQ.1; omega, hc2.2.2.2.2.2.1⟩, fun as j e => by cases e⟩
          have a1 := fun d m => t_now (sc := sc) (w := w) (m := m) d hT hc.1 hc.2.1 hi
          have a2 := fun d m => t_skip (sc := sc) (w := w) (m := m) d hc.2.1
          have a3 := fun d m => t_now (sc := sc) (w := w) (m := m) d hT hc2.1 hc2.2.1 hn
          have a5 := fun d m => t_fail (sc := sc) (w := w) (m := m) d 1 hT hc2.1 hc2.2.1 hn
          rw [h2] at a1
          unfold hSum
          conv => lhs; rw [bh_Reader_readSum_9]
          simp (disch := first | assumption | omega | decide | (simp only [ma_wd0, ma_wdi, ma_wdr, ma_wdl, ma_wdn] <;> omega)) only [↓reduceIte, evK, evL, evS, evA, evJ, Option.bind_some, Option.toList, List.cons_append, List.nil_append, nI_add, pk_mul, bI0, ite_not, ev_rbb, up_n, up_s, up_u, pk_us, pk_un, Nat.reduceAdd, nI_ltT, nI_ltF, nI_leT, nI_leF, nI_eqT, nI_eqF, bk_Reader_readSum, gfC, gfM, ev_r0, ev_r1, eq_self, n_m1e, true_and, and_true, false_and, and_false, and_self, not_true_eq_false, not_false_eq_true, ce_Tokens_now, a1, ce_Tokens_skip, a2, ce_Reader_readDivisor, en_Reader_readDivisor, bk_Reader_readDivisor, a3, ce_Tokens_fail, a5, oB]
        · obtain ⟨m2, r1, r2, r3, r4⟩ := hR (d' + 1) i _ _ hx hm hn
          have e3 : (m2 138 19 = nI 3) = False := by rw [r4.1.num]; exact eq_false h3
          have a3 := fun d c => t_errs (sc := sc) (w := w) (c := c) d 1 r4
          refine ⟨_, fun c0 => ?_, (rd_F r2 r3).tr (erM_F _), erM_o _⟩
          have a1 := fun d c => t_isSign (sc := sc) (w := w) (c := c) d 42 hm (by unfold tkS; omega)
          have a2 := fun d c => t_isSign (sc := sc) (w := w) (c := c) d 47 hm (by unfold tkS; omega)
          rw [bI_f h1] at a1
          rw [bI_t h2] at a2
          unfold hPro
          rw [bh_MO_readProduct_10]
          simp (disch := first | assumption | omega | decide | (simp only [ma_wd0, ma_wdi, ma_wdr, ma_wdl, ma_wdn] <;> omega)) only [↓reduceIte, evK, evL, evS, evA, evJ, Option.bind_some, Option.toList, List.cons_append, List.nil_append, nI_add, pk_mul, bI0, ite_not, ev_rbb, up_n, up_s, up_u, pk_us, pk_un, Nat.reduceAdd, nI_ltT, nI_ltF, nI_leT, nI_leF, nI_eqT, nI_eqF, bk_MO_readProduct, gfC, gfM, ev_r0, ev_r1, eq_self, n_m1e, true_and, and_true, false_and, and_false, and_self, not_true_eq_false, not_false_eq_true, ce_MO_isSign, a1, a2, ce_MO_reads, r1, e3, ce_MO_errs, a3, oV]
    · refine ⟨.inl ([], i), ⟨by omega, hi, by simp, by simp⟩, fun t ht => rfl, fun as j e => ?_, fun d wv n x4 c hc hb => ?_, fun x1 m hx hm => ?_⟩
      · cases e; exact ⟨h1, h2⟩
      · exact ⟨n, x4, c, fun m1 => rfl, cF.rf, by simp only [oC, List.append_nil]; exact hc, fun as j e => by cases e; exact hb⟩
      · refine ⟨m, fun c0 => ?_, mF.rf, by simp only [oM, List.append_nil]; exact hm⟩
        have a1 := fun d c => t_isSign (sc := sc) (w := w) (c := c) d 42 hm (by unfold tkS; omega)
        have a2 := fun d c => t_isSign (sc := sc) (w := w) (c := c) d 47 hm (by unfold tkS; omega)
        rw [bI_f h1] at a1
        rw [bI_f h2] at a2
        unfold hPro
        rw [bh_MO_readProduct_10]
        simp (disch := first | assumption | omega | decide | (simp only [ma_wd0, ma_wdi, ma_wdr, ma_wdl, ma_wdn] <;> omega)) only [↓reduceIte, evK, evL, evS, evA, evJ, Option.bind_some, Option.toList, List.cons_append, List.nil_append, nI_add, pk_mul, bI0, ite_not, ev_rbb, up_n, up_s, up_u, pk_us, pk_un, Nat.reduceAdd, nI_ltT, nI_ltF, nI_leT, nI_leF, nI_eqT, nI_eqF, bk_MO_readProduct, gfC, gfM, ev_r0, ev_r1, eq_self, n_m1e, true_and, and_true, false_and, and_false, and_self, not_true_eq_false, not_false_eq_true, ce_MO_isSign, a1, a2, oV]
end SV
