/-! ===== text: operands and sums, both at once: one outcome ===== -/
section SU
variable {sc : Nat × (Nat → Int32)} {m0 : Nat → Nat → Int32} {w : Nat → Int64} {N : Nat} {T : Nat → Nat → Nat}
theorem lQ.le {acc : List lA} {q i j : Nat} (h : lQ acc q i) (hj : i ≤ j) : lQ acc q j := ⟨by have := h.1; omega, by have := h.2; omega⟩
theorem t_MO_canAsk (d : Nat) (x : Int32) (c m : Nat → Nat → Int32) : cc sc (d + 1) 199 [.ref 138, .int x] (hp c w m) = some (some (.int (bI (nI 8 ≤ x ∧ x ≤ nI 14))), hp c w m) := by
  simp (disch := first | assumption | omega | decide | (simp only [ma_wd0, ma_wdi, ma_wdr, ma_wdl, ma_wdn] <;> omega)) only [↓reduceIte, evK, evL, evS, evA, evJ, Option.bind_some, Option.toList, List.cons_append, List.nil_append, nI_add, pk_mul, bI0, ite_not, ev_rbb, up_n, up_s, up_u, pk_us, pk_un, Nat.reduceAdd, nI_ltT, nI_ltF, nI_leT, nI_leF, nI_eqT, nI_eqF, en_MO_canAsk, ce_MO_isIn, t_MO_isIn]
theorem j_operand (d' i : Nat) (acc : List lA) (hT : tOK N T) (hR : rdS sc w N T m0) (hi : i < N) (hQ : lQ acc 0 i) : ∃ r : oR, oL i 0 N r ∧ oT false [] 1 r ∧
    (∀ d c, cA N T i acc c → qC sc w N T (d + 2) 76 [.ref 84] acc r c) ∧ (∀ m, xK m0 m → mA N T i acc m → qM sc w N T (d' + 4) 198 [.ref 138] acc r m) ∧ ∀ as j, r = .inl (as, j) → j = i + 1 := by
  obtain ⟨k0, k1, k2, k3, k4⟩ := hT.2.2 i hi
  have hN := hT.2.1
  by_cases h1 : T 0 i = 1
  · have hn := hT.nx hi (by omega)
    refine ⟨.inl ([(0, T 2 i)], i + 1), ⟨by omega, hn, by simp; omega, by simp [lB_x]; omega⟩, fun t ht => ?_, fun d c hc => ?_, fun m hx hm => ?_, fun as j e => by cases e; rfl⟩
    · simp only [List.nil_append, lA_T, lA_t, if_pos k3, List.length_cons]
      rw [if_pos (by omega)]
    · have hc1 := hc.pt (0, T 2 i)
      have hc2 := hc1.sk hn
      refine ⟨_, fun m0 => ?_, ((ptC_F _ _).tr skC_F), hc2⟩
      have a1 := fun d m => t_now (sc := sc) (w := w) (m := m) d hT hc.1 hc.2.1 hi
      have a2 := fun d m => t_amount (sc := sc) (w := w) (m := m) d hT hc.1 hc.2.1 hi
      have a3 := fun d m => t_put (sc := sc) (w := w) (m := m) d acc.length (0, T 2 i) hc.2.2.2.2.2.1 (by have := hQ.1; omega) k3 (show (0 : Nat) < 16 by decide)
      have a4 := fun d m => t_skip (sc := sc) (w := w) (m := m) d hc1.2.1
      dsimp only at a3
      rw [h1] at a1
      simp (disch := first | assumption | omega | decide | (simp only [ma_wd0, ma_wdi, ma_wdr, ma_wdl, ma_wdn] <;> omega)) only [↓reduceIte, evK, evL, evS, evA, evJ, Option.bind_some, Option.toList, List.cons_append, List.nil_append, nI_add, pk_mul, bI0, ite_not, ev_rbb, up_n, up_s, up_u, pk_us, pk_un, Nat.reduceAdd, nI_ltT, nI_ltF, nI_leT, nI_leF, nI_eqT, nI_eqF, en_Reader_readOperand, bk_Reader_readOperand, gfC, gfM, ev_r0, ev_r1, eq_self, n_m1e, true_and, and_true, false_and, and_false, and_self, not_true_eq_false, not_false_eq_true, ce_Tokens_now, a1, ce_Tokens_amount, a2, ce_Law_put, a3, ce_Tokens_skip, a4]
      rfl
    · have hm1 : mB N T i (acc.flatMap lB_x ++ [(0, T 2 i)]) _ := mB.em hm (0, T 2 i)
      obtain ⟨m2, r1, r2, r3, r4⟩ := hR d' i _ _ ((emM_F _ _).xK hx) hm1 hn
      have e19 : m 138 19 = nI 3 := by rw [hm.1.num]; exact h1
      have e20 := hm.1.vN h1
      have a1 := fun d c => t_emits (sc := sc) (w := w) (c := c) d (acc.flatMap lB_x).length (0, T 2 i) hm.2.2.2.2.1 (by have := hQ.2; omega)
      dsimp only at a1
      refine ⟨m2, fun c0 => ?_, (emM_F _ _).tr (rd_F r2 r3), ?_⟩
      · simp (disch := first | assumption | omega | decide | (simp only [ma_wd0, ma_wdi, ma_wdr, ma_wdl, ma_wdn] <;> omega)) only [↓reduceIte, evK, evL, evS, evA, evJ, Option.bind_some, Option.toList, List.cons_append, List.nil_append, nI_add, pk_mul, bI0, ite_not, ev_rbb, up_n, up_s, up_u, pk_us, pk_un, Nat.reduceAdd, nI_ltT, nI_ltF, nI_leT, nI_leF, nI_eqT, nI_eqF, en_MO_readUnit, bk_MO_readUnit, gfC, gfM, ev_r0, ev_r1, eq_self, n_m1e, true_and, and_true, false_and, and_false, and_self, not_true_eq_false, not_false_eq_true, e19, e20, ce_MO_emits, a1, ce_MO_reads, r1]
        rfl
      · show mB N T (i + 1) ((acc ++ [(0, T 2 i)]).flatMap lB_x) m2
        rw [List.flatMap_append]
        exact r4
  · by_cases h2 : 260 ≤ T 0 i ∧ T 0 i ≤ 266
    · have hn := hT.nx hi (by omega)
      obtain ⟨v, hv⟩ : ∃ v, T 0 i = v + 260 := ⟨T 0 i - 260, by omega⟩
      have b1 : v < 10000 := by omega
      have b2 : v < 7 := by omega
      refine ⟨.inl ([(1, v)], i + 1), ⟨by omega, hn, by simp; omega, by simp [lB_x]; omega⟩, fun t ht => ?_, fun d c hc => ?_, fun m hx hm => ?_, fun as j e => by cases e; rfl⟩
      · simp only [List.nil_append, lA_T, lA_t, if_pos b2, List.length_cons]
        rw [if_pos (by omega)]
      · have hc1 := hc.pt (1, v)
        have hc2 := hc1.sk hn
        refine ⟨_, fun m0 => ?_, ((ptC_F _ _).tr skC_F), hc2⟩
        have a1 := fun d m => t_now (sc := sc) (w := w) (m := m) d hT hc.1 hc.2.1 hi
        have a3 := fun d m => t_put (sc := sc) (w := w) (m := m) d acc.length (1, v) hc.2.2.2.2.2.1 (by have := hQ.1; omega) b1 (show (1 : Nat) < 16 by decide)
        have a4 := fun d m => t_skip (sc := sc) (w := w) (m := m) d hc1.2.1
        have a5 : nI (v + 260) - nI 260 = nI v := by rw [pk_sub (by omega), Nat.add_sub_cancel]
        rw [hv] at a1
        dsimp only at a3
        simp (disch := first | assumption | omega | decide | (simp only [ma_wd0, ma_wdi, ma_wdr, ma_wdl, ma_wdn] <;> omega)) only [↓reduceIte, evK, evL, evS, evA, evJ, Option.bind_some, Option.toList, List.cons_append, List.nil_append, nI_add, pk_mul, bI0, ite_not, ev_rbb, up_n, up_s, up_u, pk_us, pk_un, Nat.reduceAdd, nI_ltT, nI_ltF, nI_leT, nI_leF, nI_eqT, nI_eqF, en_Reader_readOperand, bk_Reader_readOperand, gfC, gfM, ev_r0, ev_r1, eq_self, n_m1e, true_and, and_true, false_and, and_false, and_self, not_true_eq_false, not_false_eq_true, ce_Tokens_now, a1, ce_LH_within, t_LH_within, ce_Law_put, a5, a3, ce_Tokens_skip, a4]
        rfl
      · have hm1 : mB N T i (acc.flatMap lB_x ++ [(1, v)]) _ := mB.em hm (1, v)
        obtain ⟨m2, r1, r2, r3, r4⟩ := hR d' i _ _ ((emM_F _ _).xK hx) hm1 hn
        have e19 : m 138 19 = nI 2 := by rw [hm.1.wrd]; omega
        have e20 := hm.1.vW (by omega)
        have e21 : tkp (T 0 i) = v + 8 := by unfold tkp; rw [if_neg (by omega), if_pos (by omega)]; omega
        rw [e21] at e20
        have a1 := fun d c => t_emits (sc := sc) (w := w) (c := c) d (acc.flatMap lB_x).length (1, v) hm.2.2.2.2.1 (by have := hQ.2; omega)
        have a5 : nI (v + 8) - nI 8 = nI v := by rw [pk_sub (by omega), Nat.add_sub_cancel]
        dsimp only at a1
        refine ⟨m2, fun c0 => ?_, (emM_F _ _).tr (rd_F r2 r3), ?_⟩
        · simp (disch := first | assumption | omega | decide | (simp only [ma_wd0, ma_wdi, ma_wdr, ma_wdl, ma_wdn] <;> omega)) only [↓reduceIte, evK, evL, evS, evA, evJ, Option.bind_some, Option.toList, List.cons_append, List.nil_append, nI_add, pk_mul, bI0, ite_not, ev_rbb, up_n, up_s, up_u, pk_us, pk_un, Nat.reduceAdd, nI_ltT, nI_ltF, nI_leT, nI_leF, nI_eqT, nI_eqF, en_MO_readUnit, bk_MO_readUnit, gfC, gfM, ev_r0, ev_r1, eq_self, n_m1e, true_and, and_true, false_and, and_false, and_self, not_true_eq_false, not_false_eq_true, e19, e20, ce_MO_canAsk, t_MO_canAsk, a5, ce_MO_emits, a1, ce_MO_reads, r1]
          rfl
        · show mB N T (i + 1) ((acc ++ [(1, v)]).flatMap lB_x) m2
          rw [List.flatMap_append]
          exact r4
    · refine ⟨.inr (1, T 1 i), ⟨by omega, by omega, k2⟩, trivial, fun d c hc => ?_, fun m hx hm => ?_, fun as j e => by cases e⟩
      · refine ⟨_, fun m0 => ?_, flC_F _, flC_X 1 ⟨acc.length, by have := hQ.1; omega, hc.2.2.2.2.2.1⟩⟩
        have a1 := fun d m => t_now (sc := sc) (w := w) (m := m) d hT hc.1 hc.2.1 hi
        have a3 := fun d m => t_fail (sc := sc) (w := w) (m := m) d 1 hT hc.1 hc.2.1 hi
        have a2 : (nI 260 ≤ nI (T 0 i) ∧ nI (T 0 i) ≤ nI 266) = False := by
          rcases Nat.lt_or_ge (T 0 i) 260 with z | z
          · rw [nI_leF z (by omega)]; simp
          · rw [nI_leF (a := T 0 i) (by omega) (by omega)]; simp
        simp (disch := first | assumption | omega | decide | (simp only [ma_wd0, ma_wdi, ma_wdr, ma_wdl, ma_wdn] <;> omega)) only [↓reduceIte, evK, evL, evS, evA, evJ, Option.bind_some, Option.toList, List.cons_append, List.nil_append, nI_add, pk_mul, bI0, ite_not, ev_rbb, up_n, up_s, up_u, pk_us, pk_un, Nat.reduceAdd, nI_ltT, nI_ltF, nI_leT, nI_leF, nI_eqT, nI_eqF, en_Reader_readOperand, bk_Reader_readOperand, gfC, gfM, ev_r0, ev_r1, eq_self, n_m1e, true_and, and_true, false_and, and_false, and_self, not_true_eq_false, not_false_eq_true, ce_Tokens_now, a1, ce_LH_within, t_LH_within, a2, ce_Tokens_fail, a3]
        rfl
      · have e3 : (m 138 19 = nI 3) = False := by rw [hm.1.num]; exact eq_false h1
        have a1 := fun d c => t_errs (sc := sc) (w := w) (c := c) d 1 hm
        refine ⟨_, fun c0 => ?_, erM_F _, erM_o _⟩
        by_cases h3 : 256 ≤ T 0 i ∧ T 0 i < 281
        · have e19 : m 138 19 = nI 2 := by rw [hm.1.wrd]; exact h3
          have e20 := hm.1.vW h3.1
          have b := tkp_lt h3.1 h3.2
          have a2 : (nI 8 ≤ nI (tkp (T 0 i)) ∧ nI (tkp (T 0 i)) ≤ nI 14) = False := by
            have : tkp (T 0 i) < 8 ∨ 14 < tkp (T 0 i) := by
              unfold tkp
              repeat' split
              all_goals omega
            rcases this with z | z
            · rw [nI_leF z (by omega)]; simp
            · rw [nI_leF (a := tkp (T 0 i)) z (by omega)]; simp
          simp (disch := first | assumption | omega | decide | (simp only [ma_wd0, ma_wdi, ma_wdr, ma_wdl, ma_wdn] <;> omega)) only [↓reduceIte, evK, evL, evS, evA, evJ, Option.bind_some, Option.toList, List.cons_append, List.nil_append, nI_add, pk_mul, bI0, ite_not, ev_rbb, up_n, up_s, up_u, pk_us, pk_un, Nat.reduceAdd, nI_ltT, nI_ltF, nI_leT, nI_leF, nI_eqT, nI_eqF, en_MO_readUnit, bk_MO_readUnit, gfC, gfM, ev_r0, ev_r1, eq_self, n_m1e, true_and, and_true, false_and, and_false, and_self, not_true_eq_false, not_false_eq_true, e19, e20, ce_MO_canAsk, t_MO_canAsk, a2, ce_MO_errs, a1]
          rfl
        · have e2 : (m 138 19 = nI 2) = False := by rw [hm.1.wrd]; exact eq_false h3
          simp (disch := first | assumption | omega | decide | (simp only [ma_wd0, ma_wdi, ma_wdr, ma_wdl, ma_wdn] <;> omega)) only [↓reduceIte, evK, evL, evS, evA, evJ, Option.bind_some, Option.toList, List.cons_append, List.nil_append, nI_add, pk_mul, bI0, ite_not, ev_rbb, up_n, up_s, up_u, pk_us, pk_un, Nat.reduceAdd, nI_ltT, nI_ltF, nI_leT, nI_leF, nI_eqT, nI_eqF, en_MO_readUnit, bk_MO_readUnit, gfC, gfM, ev_r0, ev_r1, eq_self, n_m1e, true_and, and_true, false_and, and_false, and_self, not_true_eq_false, not_false_eq_true, e2, e3, ce_MO_errs, a1]
          rfl
end SU
