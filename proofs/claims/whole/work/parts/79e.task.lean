/-! ===== text: a line of the roster ===== -/
abbrev tsR : Type := (Nat × Nat × Nat × Nat × Nat) ⊕ (Nat × Nat)
section TS
variable {sc : Nat × (Nat → Int32)} {m0 : Nat → Nat → Int32} {w : Nat → Int64} {N : Nat} {T : Nat → Nat → Nat}
def tsV (W t a v o : Nat) : Prop := t ≤ 999 ∧ ((a = 0 ∧ v < W ∧ o ≤ 40) ∨ ((a = 1 ∨ a = 2) ∧ 1 ≤ v ∧ v ≤ 20) ∨ (a = 3 ∧ v < W))
def tsC (n t a v o : Nat) (f f' : Nat → Int32) : Prop := (∀ j, j < 5 * n → f' j = f j) ∧ f' (5 * n) = nI t ∧ f' (5 * n + 1) = nI a ∧ f' (5 * n + 2) = nI v ∧ (a = 0 → f' (5 * n + 3) = nI o)
def tsM (n t a v o : Nat) (f f' : Nat → Int32) : Prop := (∀ j, j < 64 + 4 * n → f' j = f j) ∧ f' (64 + 4 * n) = nI t ∧ f' (64 + 4 * n + 1) = nI a ∧ f' (64 + 4 * n + 2) = nI v ∧ (a = 0 → f' (64 + 4 * n + 3) = nI o)
theorem no_task {k : Nat} (hk : k < 281) (h : ¬ (272 ≤ k ∧ k ≤ 275)) : (nI 0 ≤ nI k - nI 272 ∧ nI k - nI 272 ≤ nI 3) = False := by
  rcases Nat.lt_or_ge k 272 with z | z
  · have e : (nI k - nI 272).toInt = (k : Int) - 272 := by
      have := Int32_sub_toInt (a := nI k) (b := nI 272) (by rw [nI_toInt (by omega)]; omega) (by rw [nI_toInt (by omega)]; omega)
      rw [this, nI_toInt (by omega), nI_toInt (by omega)]; rfl
    refine eq_false (fun y => ?_)
    have := y.1
    rw [Int32.le_iff_toInt_le, e, nI_toInt (by omega)] at this
    omega
  · rw [pk_sub z, nI_leF (a := k - 272) (by omega) (by omega)]; simp
theorem mE'.tk {m m' : Nat → Nat → Int32} (h : mE' m m') : m' 138 6 = m 138 6 := h.2 6 (by decide)
set_option maxHeartbeats 1000000 in
theorem j_task (d' i n W : Nat) (hT : tOK N T) (hR : rdS sc w N T m0) (hi : i < N) (z : T 0 i = 271) (hn : n < 16) (hW3 : 3 ≤ W) (hW : W ≤ 14) : ∃ r : tsR,
    (match r with
      | .inl (j, t, a, v, o) => i < j ∧ j < N ∧ tsV W t a v o
      | .inr (f, p) => 1 ≤ f ∧ f ≤ 3 ∧ p ≤ 400) ∧
    (∀ d c, cB N T i c → c 91 0 = nI n → c 1 0 = nI W → match r with
      | .inl (j, t, a, v, o) => ∃ c', (∀ m1, cc sc (d + 3) 82 [.ref 84] (hp (skC i c) w m1) = some (some (.int (nI 1)), hp c' w m1)) ∧ cE c c' ∧ cB N T j c' ∧ tsC n t a v o (c 92) (c' 92)
      | .inr (f, p) => ∃ c', (∀ m1, cc sc (d + 3) 82 [.ref 84] (hp (skC i c) w m1) = some (some (.int (nI 0)), hp c' w m1)) ∧ cE c c' ∧ cY f p c') ∧
    (∀ cd m, xK m0 m → mB N T i cd m → m 138 6 + nI 10 = nI W → match r with
      | .inl (j, t, a, v, o) => ∃ M, (∀ c0 v m', cc sc (d' + 5) 190 [.ref 138, .int (nI 59)] (hp c0 w M) = some (some (.int v), hp c0 w m') → cc sc (d' + 6) 187 [.ref 138, .int (nI (64 + 4 * n))] (hp c0 w m) = some (some (.int v), hp c0 w m')) ∧ mW m M ∧ mB N T j cd M ∧ tsM n t a v o (m 156) (M 156)
      | .inr (f, p) => ∃ m', (∀ c0, cc sc (d' + 6) 187 [.ref 138, .int (nI (64 + 4 * n))] (hp c0 w m) = some (some (.int (-1)), hp c0 w m')) ∧ mW m m' ∧ m' 138 34 = nI f ∧ m' 138 35 = nI p) := by
  have hN := hT.2.1
  obtain ⟨r1, ok1, cl1, md1⟩ := j_told1 (sc := sc) (w := w) (m0 := m0) d' i 271 15 n 0 (nI 0) (nI 999) hT hR hi (by omega) (by omega) (by omega) rfl z
  cases r1 with
  | inr fp =>
    obtain ⟨f, p⟩ := fp
    refine ⟨.inr (f, p), ok1, fun d c hc h0 hw => ?_, fun cd m hx hm hw => ?_⟩
    · obtain ⟨c1, q1, qe1, qv1⟩ := cl1 d c hc h0
      refine ⟨c1, fun m1 => ?_, qe1, qv1⟩
      simp (disch := first | assumption | omega | decide | (simp only [ma_wd0, ma_wdi, ma_wdr, ma_wdl, ma_wdn] <;> omega)) only [↓reduceIte, evK, evL, evS, evA, evJ, Option.bind_some, Option.toList, List.cons_append, List.nil_append, nI_add, pk_mul, bI0, ite_not, ev_rbb, up_n, up_s, up_u, pk_us, pk_un, Nat.reduceAdd, nI_ltT, nI_ltF, nI_leT, nI_leF, nI_eqT, nI_eqF, en_Reader_readTask, bk_Reader_readTask, gfC, gfM, ev_r0, ev_r1, eq_self, n_m1e, true_and, and_true, false_and, and_false, and_self, not_true_eq_false, not_false_eq_true, ce_Reader_readCell, q1, vB]
    · obtain ⟨m1, p1, pe1, pv1⟩ := md1 cd m hx hm
      refine ⟨va_up m1 156 (upd (m1 156) (64 + 4 * n) (-1)), fun c0 => ?_, pe1.w.tr (mW.r6 (by omega)), by rw [fld6]; exact pv1⟩
      simp (disch := first | assumption | omega | decide | (simp only [ma_wd0, ma_wdi, ma_wdr, ma_wdl, ma_wdn] <;> omega)) only [↓reduceIte, evK, evL, evS, evA, evJ, Option.bind_some, Option.toList, List.cons_append, List.nil_append, nI_add, pk_mul, bI0, ite_not, ev_rbb, up_n, up_s, up_u, pk_us, pk_un, Nat.reduceAdd, nI_ltT, nI_ltF, nI_leT, nI_leF, nI_eqT, nI_eqF, en_MO_readRosterLine, bk_MO_readRosterLine, gfC, gfM, ev_r0, ev_r1, eq_self, n_m1e, true_and, and_true, false_and, and_false, and_self, not_true_eq_false, not_false_eq_true, ce_MO_readTold, p1, vV, stM, ldM]
  | inl v1 =>
  have n1 := vV_n ok1.2.2.1
  have hj := ok1.2.2.2
  obtain ⟨k0, k1, k2, k3, k4⟩ := hT.2.2 (i + 1 + 1) hj
  have ht : v1 ≤ 999 := nI_le' (by have := ok1.2.2.1; omega) (by omega) ok1.2.1
  by_cases zt : ¬ (272 ≤ T 0 (i + 1 + 1) ∧ T 0 (i + 1 + 1) ≤ 275)
  · refine ⟨.inr (1, T 1 (i + 1 + 1)), ⟨by omega, by omega, k2⟩, fun d c hc h0 hw => ?_, fun cd m hx hm hw => ?_⟩
    · obtain ⟨c1, q1, qe1, qv1⟩ := cl1 d c hc h0
      have hc1 := qv1.1
      have a1 := fun d m => t_now (sc := sc) (w := w) (m := m) d hT hc1.1 hc1.2.1 hj
      have a3 := fun d m => t_fail (sc := sc) (w := w) (m := m) d 1 hT hc1.1 hc1.2.1 hj
      have a4 := no_task k1 zt
      refine ⟨_, fun m1 => ?_, qe1.tr (flC_E (T := T) (i := i + 1 + 1) 1), flC_Y 1⟩
      simp (disch := first | assumption | omega | decide | (simp only [ma_wd0, ma_wdi, ma_wdr, ma_wdl, ma_wdn] <;> omega)) only [↓reduceIte, evK, evL, evS, evA, evJ, Option.bind_some, Option.toList, List.cons_append, List.nil_append, nI_add, pk_mul, bI0, ite_not, ev_rbb, up_n, up_s, up_u, pk_us, pk_un, Nat.reduceAdd, nI_ltT, nI_ltF, nI_leT, nI_leF, nI_eqT, nI_eqF, en_Reader_readTask, bk_Reader_readTask, gfC, gfM, ev_r0, ev_r1, eq_self, n_m1e, true_and, and_true, false_and, and_false, and_self, not_true_eq_false, not_false_eq_true, ce_Reader_readCell, q1, vB, ce_Tokens_now, a1, ce_LH_within, t_LH_within, a4, ce_Tokens_fail, a3]
    · obtain ⟨m1, p1, pe1, pv1⟩ := md1 cd m hx hm
      have f1 : mW m (va_up m1 156 (upd (m1 156) (64 + 4 * n) (nI v1))) := pe1.w.tr (mW.r6 (by omega))
      have b1 : mB N T (i + 1 + 1) cd (va_up m1 156 (upd (m1 156) (64 + 4 * n) (nI v1))) := mB.w pv1 (Or.inl rfl)
      have a2 := fun d c => t_errs (sc := sc) (w := w) (c := c) d 1 b1
      have eo := erM_o (N := N) (T := T) (acc := []) (m := va_up m1 156 (upd (m1 156) (64 + 4 * n) (nI v1))) (i := i + 1 + 1) 1
      refine ⟨erM T (i + 1 + 1) 1 (va_up m1 156 (upd (m1 156) (64 + 4 * n) (nI v1))), fun c0 => ?_, f1.tr (erM_E 1).w, eo.1, eo.2⟩
      have pv1 : mB N T (i + 1 + 1) cd m1 := pv1
      by_cases h3 : 256 ≤ T 0 (i + 1 + 1) ∧ T 0 (i + 1 + 1) < 281
      · have e19 : m1 138 19 = nI 2 := by rw [pv1.1.wrd]; exact h3
        have e20 := pv1.1.vW h3.1
        have b := tkp_lt h3.1 h3.2
        have hne : tkp (T 0 (i + 1 + 1)) ≠ 16 ∧ (tkp (T 0 (i + 1 + 1)) < 18 ∨ 20 < tkp (T 0 (i + 1 + 1))) := by
          unfold tkp
          repeat' split
          all_goals omega
        have a4 : (nI 18 ≤ nI (tkp (T 0 (i + 1 + 1))) ∧ nI (tkp (T 0 (i + 1 + 1))) ≤ nI 20) = False := by
          rcases hne.2 with y | y
          · rw [nI_leF y (by omega)]; simp
          · rw [nI_leF (a := tkp (T 0 (i + 1 + 1))) y (by omega)]; simp
        have a5 : (nI (tkp (T 0 (i + 1 + 1))) = nI 16) = False := nI_eqF hne.1 (by omega) (by omega)
        simp (disch := first | assumption | omega | decide | (simp only [ma_wd0, ma_wdi, ma_wdr, ma_wdl, ma_wdn] <;> omega)) only [↓reduceIte, evK, evL, evS, evA, evJ, Option.bind_some, Option.toList, List.cons_append, List.nil_append, nI_add, pk_mul, bI0, ite_not, ev_rbb, up_n, up_s, up_u, pk_us, pk_un, Nat.reduceAdd, nI_ltT, nI_ltF, nI_leT, nI_leF, nI_eqT, nI_eqF, en_MO_readRosterLine, bk_MO_readRosterLine, gfC, gfM, ev_r0, ev_r1, eq_self, n_m1e, true_and, and_true, false_and, and_false, and_self, not_true_eq_false, not_false_eq_true, ce_MO_readTold, p1, vV, stM, ldM, n1, e19, e20, a5, ce_MO_isIn, t_MO_isIn, a4, ce_MO_errs, a2]
      · have e2 : (m1 138 19 = nI 2) = False := by rw [pv1.1.wrd]; exact eq_false h3
        have a4 : (nI 18 ≤ (-1 : Int32)) = False := eq_false (by decide +kernel)
        have a5 : ((-1 : Int32) = nI 16) = False := eq_false (by decide +kernel)
        simp (disch := first | assumption | omega | decide | (simp only [ma_wd0, ma_wdi, ma_wdr, ma_wdl, ma_wdn] <;> omega)) only [↓reduceIte, evK, evL, evS, evA, evJ, Option.bind_some, Option.toList, List.cons_append, List.nil_append, nI_add, pk_mul, bI0, ite_not, ev_rbb, up_n, up_s, up_u, pk_us, pk_un, Nat.reduceAdd, nI_ltT, nI_ltF, nI_leT, nI_leF, nI_eqT, nI_eqF, en_MO_readRosterLine, bk_MO_readRosterLine, gfC, gfM, ev_r0, ev_r1, eq_self, n_m1e, true_and, and_true, false_and, and_false, and_self, not_true_eq_false, not_false_eq_true, ce_MO_readTold, p1, vV, stM, ldM, n1, e2, a5, ce_MO_isIn, t_MO_isIn, a4, ce_MO_errs, a2]
  have hn2 := hT.nx hj (by omega)
  have h4 : T 0 (i + 1 + 1) = 272 ∨ T 0 (i + 1 + 1) = 273 ∨ T 0 (i + 1 + 1) = 274 ∨ T 0 (i + 1 + 1) = 275 := by omega
  rcases h4 with zt | zt | zt | zt
  · obtain ⟨r2, ok2, cl2, md2⟩ := j_cell (sc := sc) (w := w) (m0 := m0) (d' + 1) (i + 1 + 1 + 1) n 2 (nI 0) (nI W - nI 1) hT hR hn2 (by omega)
    have md2 : ∀ cd m, xK m0 m → mB N T (i + 1 + 1 + 1) cd m → ∃ m', (∀ c0, cc sc (d' + 5) 189 [.ref 138, .int (nI 0), .int (nI W - nI 1)] (hp c0 w m) = some (some (.int (vV r2)), hp c0 w m')) ∧ mE' m m' ∧ vM N T (i + 1 + 1 + 1 + 1) cd r2 m' := md2
    have t0 : nI 272 - nI 272 = nI 0 := by decide +kernel
    have t1 : nI 0 = nI 0 := rfl
    have tt : nI 19 - nI 18 = nI 1 ∧ nI 20 - nI 18 = nI 2 ∧ nI 21 - nI 18 = nI 3 := by decide +kernel
    have cls : ∀ d c, cB N T i c → c 91 0 = nI n → c 1 0 = nI W → ∃ c2 c3, (∀ m1, cc sc (d + 2) 83 [.ref 84, .int (nI 2), .int (nI 0), .int (nI W - nI 1)] (hp c2 w m1) = some (some (.int (vB r2)), hp c3 w m1)) ∧ cE c c3 ∧ vC N T (i + 1 + 1 + 1 + 1) n 2 c2 r2 c3 ∧ c2 92 = upd (upd (c 92) (5 * n) (nI v1)) (5 * n + 1) (nI 0) ∧ c2 1 0 = nI W ∧ ∃ c1, (∀ m1, cc sc (d + 2) 83 [.ref 84, .int (nI 0), .int (nI 0), .int (nI 999)] (hp (skC i c) w m1) = some (some (.int (nI 1)), hp c1 w m1)) ∧ (∀ d m, cc sc d 130 [.ref 79] (hp c1 w m) = some (some (.int (nI 272)), hp c1 w m)) ∧ ∃ c1s, (∀ d m, cc sc d 132 [.ref 79] (hp c1 w m) = some (none, hp c1s w m)) ∧ ∀ d m, cc sc (d + 1) 88 [.ref 91, .int (nI 1), .int (nI 0)] (hp c1s w m) = some (none, hp c2 w m) := by
      intro d c hc h0 hw
      obtain ⟨c1, q1, qe1, qv1⟩ := cl1 d c hc h0
      have hc1 := qv1.1
      have hs : cB N T (i + 1 + 1 + 1) (skC (i + 1 + 1) c1) := hc1.sk hn2
      have g0 : skC (i + 1 + 1) c1 91 0 = nI n := by rw [skC_E.1 91 (by omega) (by omega), qe1.1 91 (by omega) (by omega)]; exact h0
      have hp2 : cB N T (i + 1 + 1 + 1) (pcC n 1 (nI 0) (skC (i + 1 + 1) c1)) := hs.pc
      obtain ⟨c3, q2, qe2, qv2⟩ := cl2 d (pcC n 1 (nI 0) (skC (i + 1 + 1) c1)) hp2 (by unfold pcC; rw [up_n _ _ _ _ (by omega)]; exact g0)
      refine ⟨_, c3, q2, ((qe1.tr skC_E).tr pcC_E).tr qe2, qv2, ?_, ?_, c1, q1, fun d m => ?_, _, fun d m => t_skip (sc := sc) (w := w) (m := m) d hc1.2.1, fun d m => t_rput (sc := sc) (w := w) d n 1 (nI 0) _ m g0 (by omega)⟩
      · unfold pcC skC; rw [up_s, up_n _ _ _ _ (by omega), qv1.2]; rfl
      · unfold pcC skC; rw [up_n _ _ _ _ (by omega), up_n _ _ _ _ (by omega), qe1.1 1 (by omega) (by omega)]; exact hw
      · rw [← zt]; exact t_now (sc := sc) (w := w) (m := m) d hT hc1.1 hc1.2.1 hj
    have mod : ∀ cd m, xK m0 m → mB N T i cd m → m 138 6 + nI 10 = nI W → ∃ m1 m2 m3, (∀ c0, cc sc (d' + 5) 188 [.ref 138, .int (nI 15), .int (nI 0), .int (nI 999)] (hp c0 w m) = some (some (.int (nI v1)), hp c0 w m1)) ∧ m1 138 19 = nI 2 ∧ m1 138 20 = nI 16 ∧ (∀ c0, cc sc (d' + 5) 178 [.ref 138] (hp c0 w (va_up m1 156 (upd (m1 156) (64 + 4 * n) (nI v1)))) = some (none, hp c0 w m2)) ∧ m2 138 6 + nI 10 = nI W ∧ (∀ c0, cc sc (d' + 5) 189 [.ref 138, .int (nI 0), .int (nI W - nI 1)] (hp c0 w (va_up m2 156 (upd (m2 156) (64 + 4 * n + 1) (nI 0)))) = some (some (.int (vV r2)), hp c0 w m3)) ∧ mW m m3 ∧ vM N T (i + 1 + 1 + 1 + 1) cd r2 m3 ∧ m3 156 = upd (upd (m 156) (64 + 4 * n) (nI v1)) (64 + 4 * n + 1) (nI 0) := by
      intro cd m hx hm hw
      obtain ⟨m1, p1, pe1, pv1⟩ := md1 cd m hx hm
      have pv1 : mB N T (i + 1 + 1) cd m1 := pv1
      have f1 : mW m (va_up m1 156 (upd (m1 156) (64 + 4 * n) (nI v1))) := pe1.w.tr (mW.r6 (by omega))
      have b1 : mB N T (i + 1 + 1) cd (va_up m1 156 (upd (m1 156) (64 + 4 * n) (nI v1))) := mB.w pv1 (Or.inl rfl)
      obtain ⟨m2, s1, s2, s3, s4⟩ := hR (d' + 2) (i + 1 + 1) _ _ (f1.xK hx) b1 hn2
      have f2 : mW m (va_up m2 156 (upd (m2 156) (64 + 4 * n + 1) (nI 0))) := (f1.tr (rd_E s2 s3).w).tr (mW.r6 (by omega))
      have b2 : mB N T (i + 1 + 1 + 1) cd (va_up m2 156 (upd (m2 156) (64 + 4 * n + 1) (nI 0))) := mB.w s4 (Or.inl rfl)
      obtain ⟨m3, p3, pe3, pv3⟩ := md2 cd _ (f2.xK hx) b2
      have e20 := pv1.1.vW (by omega)
      rw [zt] at e20
      refine ⟨m1, m2, m3, p1, by rw [pv1.1.wrd]; omega, e20, s1, ?_, p3, f2.tr pe3.w, pv3, ?_⟩
      · rw [s3 6 (by decide), fld6, pe1.2 6 (by decide)]; exact hw
      · rw [pe3.1 156 (by omega), row156, s2 156 (by omega), row156, pe1.1 156 (by omega)]
    cases r2 with
    | inr fp =>
      obtain ⟨f, p⟩ := fp
      refine ⟨.inr (f, p), ok2, fun d c hc h0 hw => ?_, fun cd m hx hm hw => ?_⟩
      · obtain ⟨c2, c3, u1, u2, u3, u4, hw2, c1, y1, y2, c1s, y3, y4⟩ := cls d c hc h0 hw
        refine ⟨c3, fun m1 => ?_, u2, u3⟩
        simp (disch := first | assumption | omega | decide | (simp only [ma_wd0, ma_wdi, ma_wdr, ma_wdl, ma_wdn] <;> omega)) only [↓reduceIte, evK, evL, evS, evA, evJ, Option.bind_some, Option.toList, List.cons_append, List.nil_append, nI_add, pk_mul, bI0, ite_not, ev_rbb, up_n, up_s, up_u, pk_us, pk_un, Nat.reduceAdd, nI_ltT, nI_ltF, nI_leT, nI_leF, nI_eqT, nI_eqF, en_Reader_readTask, bk_Reader_readTask, gfC, gfM, ev_r0, ev_r1, eq_self, n_m1e, true_and, and_true, false_and, and_false, and_self, not_true_eq_false, not_false_eq_true, ce_Reader_readCell, y1, vB, ce_Tokens_now, y2, t0, ce_LH_within, t_LH_within, ce_Tokens_skip, y3, ce_Rows_put, y4, hw2, u1]
      · obtain ⟨m1, m2, m3, y1, y2, y3, y4, y5, y6, y7, y8, y9⟩ := mod cd m hx hm hw
        refine ⟨va_up m3 156 (upd (m3 156) (64 + 4 * n + 2) (-1)), fun c0 => ?_, y7.tr (mW.r6 (by omega)), by rw [fld6]; exact y8⟩
        simp (disch := first | assumption | omega | decide | (simp only [ma_wd0, ma_wdi, ma_wdr, ma_wdl, ma_wdn] <;> omega)) only [↓reduceIte, evK, evL, evS, evA, evJ, Option.bind_some, Option.toList, List.cons_append, List.nil_append, nI_add, pk_mul, bI0, ite_not, ev_rbb, up_n, up_s, up_u, pk_us, pk_un, Nat.reduceAdd, nI_ltT, nI_ltF, nI_leT, nI_leF, nI_eqT, nI_eqF, en_MO_readRosterLine, bk_MO_readRosterLine, gfC, gfM, ev_r0, ev_r1, eq_self, n_m1e, true_and, and_true, false_and, and_false, and_self, not_true_eq_false, not_false_eq_true, ce_MO_readTold, y1, vV, stM, ldM, n1, y2, y3, ce_MO_isIn, t_MO_isIn, ce_MO_reads, y4, tt, ce_MO_wide, t_MO_wide, y5, ce_MO_readNumber, y6]
    | inl v2 =>
    have n2 := vV_n ok2.2.2.1
    have hv2 : v2 < 10000 := ok2.2.2.1
    have hv : v2 < W := by
      have := ok2.2.1
      rw [pk_sub (by omega)] at this
      have := nI_le' (by omega) (by omega) this
      omega
    obtain ⟨r3, ok3, cl3, md3⟩ := j_told (sc := sc) (w := w) (m0 := m0) d' (i + 1 + 1 + 1 + 1) 276 17 n 3 (nI 0) (nI 40) hT hR ok2.2.2.2 (by omega) (by omega) (by omega) rfl
    have cls2 : ∀ d c, cB N T i c → c 91 0 = nI n → c 1 0 = nI W → ∃ c4, (∀ m1, cc sc (d + 3) 82 [.ref 84] (hp (skC i c) w m1) = some (some (.int (vB r3)), hp c4 w m1)) ∧ cE c c4 ∧ ∃ c3, vC N T (i + 1 + 1 + 1 + 1 + 1 + 1) n 3 c3 r3 c4 ∧ c3 92 = upd (upd (upd (c 92) (5 * n) (nI v1)) (5 * n + 1) (nI 0)) (5 * n + 2) (nI v2) := by
      intro d c hc h0 hw
      obtain ⟨c2, c3, u1, u2, u3, u4, hw2, c1, y1, y2, c1s, y3, y4⟩ := cls d c hc h0 hw
      have g3 : c3 91 0 = nI n := by rw [u2.1 91 (by omega) (by omega)]; exact h0
      have e92 : c3 92 = upd (upd (upd (c 92) (5 * n) (nI v1)) (5 * n + 1) (nI 0)) (5 * n + 2) (nI v2) := by rw [u3.2, u4]
      rcases cl3 c3 u3.1 g3 with ⟨c4, ta, hz, qe, qv⟩ | ⟨ca, ta, e91, e92', hc4⟩
      · refine ⟨c4, fun m1 => ?_, u2.tr qe, c3, qv, e92⟩
        rw [hz]
        simp (disch := first | assumption | omega | decide | (simp only [ma_wd0, ma_wdi, ma_wdr, ma_wdl, ma_wdn] <;> omega)) only [↓reduceIte, evK, evL, evS, evA, evJ, Option.bind_some, Option.toList, List.cons_append, List.nil_append, nI_add, pk_mul, bI0, ite_not, ev_rbb, up_n, up_s, up_u, pk_us, pk_un, Nat.reduceAdd, nI_ltT, nI_ltF, nI_leT, nI_leF, nI_eqT, nI_eqF, en_Reader_readTask, bk_Reader_readTask, gfC, gfM, ev_r0, ev_r1, eq_self, n_m1e, true_and, and_true, false_and, and_false, and_self, not_true_eq_false, not_false_eq_true, ce_Reader_readCell, y1, vB, ce_Tokens_now, y2, t0, ce_LH_within, t_LH_within, ce_Tokens_skip, y3, ce_Rows_put, y4, hw2, u1, ce_Tokens_take, ta]
      · obtain ⟨c4, q4, qe4, qv4⟩ := hc4 d
        refine ⟨c4, fun m1 => ?_, u2.tr qe4, c3, qv4, e92⟩
        cases r3 with
        | inl v3 => simp (disch := first | assumption | omega | decide | (simp only [ma_wd0, ma_wdi, ma_wdr, ma_wdl, ma_wdn] <;> omega)) only [↓reduceIte, evK, evL, evS, evA, evJ, Option.bind_some, Option.toList, List.cons_append, List.nil_append, nI_add, pk_mul, bI0, ite_not, ev_rbb, up_n, up_s, up_u, pk_us, pk_un, Nat.reduceAdd, nI_ltT, nI_ltF, nI_leT, nI_leF, nI_eqT, nI_eqF, en_Reader_readTask, bk_Reader_readTask, gfC, gfM, ev_r0, ev_r1, eq_self, n_m1e, true_and, and_true, false_and, and_false, and_self, not_true_eq_false, not_false_eq_true, ce_Reader_readCell, y1, vB, ce_Tokens_now, y2, t0, ce_LH_within, t_LH_within, ce_Tokens_skip, y3, ce_Rows_put, y4, hw2, u1, ce_Tokens_take, ta, q4]
        | inr v3 => simp (disch := first | assumption | omega | decide | (simp only [ma_wd0, ma_wdi, ma_wdr, ma_wdl, ma_wdn] <;> omega)) only [↓reduceIte, evK, evL, evS, evA, evJ, Option.bind_some, Option.toList, List.cons_append, List.nil_append, nI_add, pk_mul, bI0, ite_not, ev_rbb, up_n, up_s, up_u, pk_us, pk_un, Nat.reduceAdd, nI_ltT, nI_ltF, nI_leT, nI_leF, nI_eqT, nI_eqF, en_Reader_readTask, bk_Reader_readTask, gfC, gfM, ev_r0, ev_r1, eq_self, n_m1e, true_and, and_true, false_and, and_false, and_self, not_true_eq_false, not_false_eq_true, ce_Reader_readCell, y1, vB, ce_Tokens_now, y2, t0, ce_LH_within, t_LH_within, ce_Tokens_skip, y3, ce_Rows_put, y4, hw2, u1, ce_Tokens_take, ta, q4]
    have mod2 : ∀ cd m, xK m0 m → mB N T i cd m → m 138 6 + nI 10 = nI W → ∃ m1 m2 m3 m4, (∀ c0, cc sc (d' + 5) 188 [.ref 138, .int (nI 15), .int (nI 0), .int (nI 999)] (hp c0 w m) = some (some (.int (nI v1)), hp c0 w m1)) ∧ m1 138 19 = nI 2 ∧ m1 138 20 = nI 16 ∧ (∀ c0, cc sc (d' + 5) 178 [.ref 138] (hp c0 w (va_up m1 156 (upd (m1 156) (64 + 4 * n) (nI v1)))) = some (none, hp c0 w m2)) ∧ m2 138 6 + nI 10 = nI W ∧ (∀ c0, cc sc (d' + 5) 189 [.ref 138, .int (nI 0), .int (nI W - nI 1)] (hp c0 w (va_up m2 156 (upd (m2 156) (64 + 4 * n + 1) (nI 0)))) = some (some (.int (nI v2)), hp c0 w m3)) ∧ (∀ c0, cc sc (d' + 5) 188 [.ref 138, .int (nI 17), .int (nI 0), .int (nI 40)] (hp c0 w (va_up m3 156 (upd (m3 156) (64 + 4 * n + 2) (nI v2)))) = some (some (.int (vV r3)), hp c0 w m4)) ∧ mW m m4 ∧ vM N T (i + 1 + 1 + 1 + 1 + 1 + 1) cd r3 m4 ∧ m4 156 = upd (upd (upd (m 156) (64 + 4 * n) (nI v1)) (64 + 4 * n + 1) (nI 0)) (64 + 4 * n + 2) (nI v2) := by
      intro cd m hx hm hw
      obtain ⟨m1, m2, m3, y1, y2, y3, y4, y5, y6, y7, y8, y9⟩ := mod cd m hx hm hw
      have y8 : mB N T (i + 1 + 1 + 1 + 1) cd m3 := y8
      have f3 : mW m (va_up m3 156 (upd (m3 156) (64 + 4 * n + 2) (nI v2))) := y7.tr (mW.r6 (by omega))
      obtain ⟨m4, p4, pe4, pv4⟩ := md3 cd _ (f3.xK hx) (mB.w y8 (Or.inl rfl))
      exact ⟨m1, m2, m3, m4, y1, y2, y3, y4, y5, y6, p4, f3.tr pe4.w, pv4, by rw [pe4.1 156 (by omega), row156, y9]⟩
    cases r3 with
    | inr fp =>
      obtain ⟨f, p⟩ := fp
      refine ⟨.inr (f, p), ok3, fun d c hc h0 hw => ?_, fun cd m hx hm hw => ?_⟩
      · obtain ⟨c4, g1, g2, c3, g3, g4⟩ := cls2 d c hc h0 hw
        exact ⟨c4, g1, g2, g3⟩
      · obtain ⟨m1, m2, m3, m4, y1, y2, y3, y4, y5, y6, y10, y11, y12, y13⟩ := mod2 cd m hx hm hw
        refine ⟨va_up m4 156 (upd (m4 156) (64 + 4 * n + 3) (-1)), fun c0 => ?_, y11.tr (mW.r6 (by omega)), by rw [fld6]; exact y12⟩
        simp (disch := first | assumption | omega | decide | (simp only [ma_wd0, ma_wdi, ma_wdr, ma_wdl, ma_wdn] <;> omega)) only [↓reduceIte, evK, evL, evS, evA, evJ, Option.bind_some, Option.toList, List.cons_append, List.nil_append, nI_add, pk_mul, bI0, ite_not, ev_rbb, up_n, up_s, up_u, pk_us, pk_un, Nat.reduceAdd, nI_ltT, nI_ltF, nI_leT, nI_leF, nI_eqT, nI_eqF, en_MO_readRosterLine, bk_MO_readRosterLine, gfC, gfM, ev_r0, ev_r1, eq_self, n_m1e, true_and, and_true, false_and, and_false, and_self, not_true_eq_false, not_false_eq_true, ce_MO_readTold, y1, vV, stM, ldM, n1, y2, y3, ce_MO_isIn, t_MO_isIn, ce_MO_reads, y4, tt, ce_MO_wide, t_MO_wide, y5, ce_MO_readNumber, y6, n2, y10]
    | inl v3 =>
    have n3 := vV_n ok3.2.2.1
    have hv3 : v3 ≤ 40 := nI_le' (by have := ok3.2.2.1; omega) (by omega) ok3.2.1
    refine ⟨.inl (i + 1 + 1 + 1 + 1 + 1 + 1, v1, 0, v2, v3), ⟨by omega, ok3.2.2.2, ht, Or.inl ⟨rfl, hv, hv3⟩⟩, fun d c hc h0 hw => ?_, fun cd m hx hm hw => ?_⟩
    · obtain ⟨c4, g1, g2, c3, g3, g4⟩ := cls2 d c hc h0 hw
      refine ⟨c4, g1, g2, g3.1, ?_⟩
      rw [g3.2, g4]
      exact ⟨fun j hj => by rw [pk_un (by omega), pk_un (by omega), pk_un (by omega), pk_un (by omega)], by rw [pk_un (by omega), pk_un (by omega), pk_un (by omega), pk_us], by rw [pk_un (by omega), pk_un (by omega), pk_us], by rw [pk_un (by omega), pk_us], fun _ => pk_us⟩
    · obtain ⟨m1, m2, m3, m4, y1, y2, y3, y4, y5, y6, y10, y11, y12, y13⟩ := mod2 cd m hx hm hw
      have y12 : mB N T (i + 1 + 1 + 1 + 1 + 1 + 1) cd m4 := y12
      refine ⟨va_up m4 156 (upd (m4 156) (64 + 4 * n + 3) (nI v3)), fun c0 v m' hv => ?_, y11.tr (mW.r6 (by omega)), mB.w y12 (Or.inl rfl), ?_⟩
      · simp (disch := first | assumption | omega | decide | (simp only [ma_wd0, ma_wdi, ma_wdr, ma_wdl, ma_wdn] <;> omega)) only [↓reduceIte, evK, evL, evS, evA, evJ, Option.bind_some, Option.toList, List.cons_append, List.nil_append, nI_add, pk_mul, bI0, ite_not, ev_rbb, up_n, up_s, up_u, pk_us, pk_un, Nat.reduceAdd, nI_ltT, nI_ltF, nI_leT, nI_leF, nI_eqT, nI_eqF, en_MO_readRosterLine, bk_MO_readRosterLine, gfC, gfM, ev_r0, ev_r1, eq_self, n_m1e, true_and, and_true, false_and, and_false, and_self, not_true_eq_false, not_false_eq_true, ce_MO_readTold, y1, vV, stM, ldM, n1, y2, y3, ce_MO_isIn, t_MO_isIn, ce_MO_reads, y4, tt, ce_MO_wide, t_MO_wide, y5, ce_MO_readNumber, y6, n2, y10, n3, ce_MO_readMark, hv]
      · rw [row156, y13]
        exact ⟨fun j hj => by rw [pk_un (by omega), pk_un (by omega), pk_un (by omega), pk_un (by omega)], by rw [pk_un (by omega), pk_un (by omega), pk_un (by omega), pk_us], by rw [pk_un (by omega), pk_un (by omega), pk_us], by rw [pk_un (by omega), pk_us], fun _ => pk_us⟩
  · obtain ⟨r2, ok2, cl2, md2⟩ := j_cell (sc := sc) (w := w) (m0 := m0) (d' + 1) (i + 1 + 1 + 1) n 2 (nI 1) (nI 20) hT hR hn2 (by omega)
    have md2 : ∀ cd m, xK m0 m → mB N T (i + 1 + 1 + 1) cd m → ∃ m', (∀ c0, cc sc (d' + 5) 189 [.ref 138, .int (nI 1), .int (nI 20)] (hp c0 w m) = some (some (.int (vV r2)), hp c0 w m')) ∧ mE' m m' ∧ vM N T (i + 1 + 1 + 1 + 1) cd r2 m' := md2
    have t0 : nI 273 - nI 272 = nI 1 := by decide +kernel
    have t1 : nI 1 + nI 18 - nI 18 = nI 1 := by decide +kernel
    have tt : nI 19 - nI 18 = nI 1 ∧ nI 20 - nI 18 = nI 2 ∧ nI 21 - nI 18 = nI 3 := by decide +kernel
    have cls : ∀ d c, cB N T i c → c 91 0 = nI n → c 1 0 = nI W → ∃ c2 c3, (∀ m1, cc sc (d + 2) 83 [.ref 84, .int (nI 2), .int (nI 1), .int (nI 20)] (hp c2 w m1) = some (some (.int (vB r2)), hp c3 w m1)) ∧ cE c c3 ∧ vC N T (i + 1 + 1 + 1 + 1) n 2 c2 r2 c3 ∧ c2 92 = upd (upd (c 92) (5 * n) (nI v1)) (5 * n + 1) (nI 1) ∧ c2 1 0 = nI W ∧ ∃ c1, (∀ m1, cc sc (d + 2) 83 [.ref 84, .int (nI 0), .int (nI 0), .int (nI 999)] (hp (skC i c) w m1) = some (some (.int (nI 1)), hp c1 w m1)) ∧ (∀ d m, cc sc d 130 [.ref 79] (hp c1 w m) = some (some (.int (nI 273)), hp c1 w m)) ∧ ∃ c1s, (∀ d m, cc sc d 132 [.ref 79] (hp c1 w m) = some (none, hp c1s w m)) ∧ ∀ d m, cc sc (d + 1) 88 [.ref 91, .int (nI 1), .int (nI 1)] (hp c1s w m) = some (none, hp c2 w m) := by
      intro d c hc h0 hw
      obtain ⟨c1, q1, qe1, qv1⟩ := cl1 d c hc h0
      have hc1 := qv1.1
      have hs : cB N T (i + 1 + 1 + 1) (skC (i + 1 + 1) c1) := hc1.sk hn2
      have g0 : skC (i + 1 + 1) c1 91 0 = nI n := by rw [skC_E.1 91 (by omega) (by omega), qe1.1 91 (by omega) (by omega)]; exact h0
      have hp2 : cB N T (i + 1 + 1 + 1) (pcC n 1 (nI 1) (skC (i + 1 + 1) c1)) := hs.pc
      obtain ⟨c3, q2, qe2, qv2⟩ := cl2 d (pcC n 1 (nI 1) (skC (i + 1 + 1) c1)) hp2 (by unfold pcC; rw [up_n _ _ _ _ (by omega)]; exact g0)
      refine ⟨_, c3, q2, ((qe1.tr skC_E).tr pcC_E).tr qe2, qv2, ?_, ?_, c1, q1, fun d m => ?_, _, fun d m => t_skip (sc := sc) (w := w) (m := m) d hc1.2.1, fun d m => t_rput (sc := sc) (w := w) d n 1 (nI 1) _ m g0 (by omega)⟩
      · unfold pcC skC; rw [up_s, up_n _ _ _ _ (by omega), qv1.2]; rfl
      · unfold pcC skC; rw [up_n _ _ _ _ (by omega), up_n _ _ _ _ (by omega), qe1.1 1 (by omega) (by omega)]; exact hw
      · rw [← zt]; exact t_now (sc := sc) (w := w) (m := m) d hT hc1.1 hc1.2.1 hj
    have mod : ∀ cd m, xK m0 m → mB N T i cd m → m 138 6 + nI 10 = nI W → ∃ m1 m2 m3, (∀ c0, cc sc (d' + 5) 188 [.ref 138, .int (nI 15), .int (nI 0), .int (nI 999)] (hp c0 w m) = some (some (.int (nI v1)), hp c0 w m1)) ∧ m1 138 19 = nI 2 ∧ m1 138 20 = nI 18 ∧ (∀ c0, cc sc (d' + 5) 178 [.ref 138] (hp c0 w (va_up m1 156 (upd (m1 156) (64 + 4 * n) (nI v1)))) = some (none, hp c0 w m2)) ∧ m2 138 6 + nI 10 = nI W ∧ (∀ c0, cc sc (d' + 5) 189 [.ref 138, .int (nI 1), .int (nI 20)] (hp c0 w (va_up m2 156 (upd (m2 156) (64 + 4 * n + 1) (nI 1)))) = some (some (.int (vV r2)), hp c0 w m3)) ∧ mW m m3 ∧ vM N T (i + 1 + 1 + 1 + 1) cd r2 m3 ∧ m3 156 = upd (upd (m 156) (64 + 4 * n) (nI v1)) (64 + 4 * n + 1) (nI 1) := by
      intro cd m hx hm hw
      obtain ⟨m1, p1, pe1, pv1⟩ := md1 cd m hx hm
      have pv1 : mB N T (i + 1 + 1) cd m1 := pv1
      have f1 : mW m (va_up m1 156 (upd (m1 156) (64 + 4 * n) (nI v1))) := pe1.w.tr (mW.r6 (by omega))
      have b1 : mB N T (i + 1 + 1) cd (va_up m1 156 (upd (m1 156) (64 + 4 * n) (nI v1))) := mB.w pv1 (Or.inl rfl)
      obtain ⟨m2, s1, s2, s3, s4⟩ := hR (d' + 2) (i + 1 + 1) _ _ (f1.xK hx) b1 hn2
      have f2 : mW m (va_up m2 156 (upd (m2 156) (64 + 4 * n + 1) (nI 1))) := (f1.tr (rd_E s2 s3).w).tr (mW.r6 (by omega))
      have b2 : mB N T (i + 1 + 1 + 1) cd (va_up m2 156 (upd (m2 156) (64 + 4 * n + 1) (nI 1))) := mB.w s4 (Or.inl rfl)
      obtain ⟨m3, p3, pe3, pv3⟩ := md2 cd _ (f2.xK hx) b2
      have e20 := pv1.1.vW (by omega)
      rw [zt] at e20
      refine ⟨m1, m2, m3, p1, by rw [pv1.1.wrd]; omega, e20, s1, ?_, p3, f2.tr pe3.w, pv3, ?_⟩
      · rw [s3 6 (by decide), fld6, pe1.2 6 (by decide)]; exact hw
      · rw [pe3.1 156 (by omega), row156, s2 156 (by omega), row156, pe1.1 156 (by omega)]
    cases r2 with
    | inr fp =>
      obtain ⟨f, p⟩ := fp
      refine ⟨.inr (f, p), ok2, fun d c hc h0 hw => ?_, fun cd m hx hm hw => ?_⟩
      · obtain ⟨c2, c3, u1, u2, u3, u4, hw2, c1, y1, y2, c1s, y3, y4⟩ := cls d c hc h0 hw
        refine ⟨c3, fun m1 => ?_, u2, u3⟩
        simp (disch := first | assumption | omega | decide | (simp only [ma_wd0, ma_wdi, ma_wdr, ma_wdl, ma_wdn] <;> omega)) only [↓reduceIte, evK, evL, evS, evA, evJ, Option.bind_some, Option.toList, List.cons_append, List.nil_append, nI_add, pk_mul, bI0, ite_not, ev_rbb, up_n, up_s, up_u, pk_us, pk_un, Nat.reduceAdd, nI_ltT, nI_ltF, nI_leT, nI_leF, nI_eqT, nI_eqF, en_Reader_readTask, bk_Reader_readTask, gfC, gfM, ev_r0, ev_r1, eq_self, n_m1e, true_and, and_true, false_and, and_false, and_self, not_true_eq_false, not_false_eq_true, ce_Reader_readCell, y1, vB, ce_Tokens_now, y2, t0, ce_LH_within, t_LH_within, ce_Tokens_skip, y3, ce_Rows_put, y4, hw2, u1]
      · obtain ⟨m1, m2, m3, y1, y2, y3, y4, y5, y6, y7, y8, y9⟩ := mod cd m hx hm hw
        refine ⟨va_up m3 156 (upd (m3 156) (64 + 4 * n + 2) (-1)), fun c0 => ?_, y7.tr (mW.r6 (by omega)), by rw [fld6]; exact y8⟩
        simp (disch := first | assumption | omega | decide | (simp only [ma_wd0, ma_wdi, ma_wdr, ma_wdl, ma_wdn] <;> omega)) only [↓reduceIte, evK, evL, evS, evA, evJ, Option.bind_some, Option.toList, List.cons_append, List.nil_append, nI_add, pk_mul, bI0, ite_not, ev_rbb, up_n, up_s, up_u, pk_us, pk_un, Nat.reduceAdd, nI_ltT, nI_ltF, nI_leT, nI_leF, nI_eqT, nI_eqF, en_MO_readRosterLine, bk_MO_readRosterLine, gfC, gfM, ev_r0, ev_r1, eq_self, n_m1e, true_and, and_true, false_and, and_false, and_self, not_true_eq_false, not_false_eq_true, ce_MO_readTold, y1, vV, stM, ldM, n1, y2, y3, ce_MO_isIn, t_MO_isIn, ce_MO_reads, y4, tt, ce_MO_wide, t_MO_wide, y5, ce_MO_readNumber, y6]
    | inl v2 =>
    have n2 := vV_n ok2.2.2.1
    have hv2 : v2 < 10000 := ok2.2.2.1
    have hv : 1 ≤ v2 ∧ v2 ≤ 20 := ⟨nI_le' (by omega) (by omega) ok2.1, nI_le' (by omega) (by omega) ok2.2.1⟩
    refine ⟨.inl (i + 1 + 1 + 1 + 1, v1, 1, v2, 0), ⟨by omega, ok2.2.2.2, ht, Or.inr (Or.inl ⟨Or.inl rfl, hv⟩)⟩, fun d c hc h0 hw => ?_, fun cd m hx hm hw => ?_⟩
    · obtain ⟨c2, c3, u1, u2, u3, u4, hw2, c1, y1, y2, c1s, y3, y4⟩ := cls d c hc h0 hw
      refine ⟨c3, fun m1 => ?_, u2, u3.1, ?_⟩
      · simp (disch := first | assumption | omega | decide | (simp only [ma_wd0, ma_wdi, ma_wdr, ma_wdl, ma_wdn] <;> omega)) only [↓reduceIte, evK, evL, evS, evA, evJ, Option.bind_some, Option.toList, List.cons_append, List.nil_append, nI_add, pk_mul, bI0, ite_not, ev_rbb, up_n, up_s, up_u, pk_us, pk_un, Nat.reduceAdd, nI_ltT, nI_ltF, nI_leT, nI_leF, nI_eqT, nI_eqF, en_Reader_readTask, bk_Reader_readTask, gfC, gfM, ev_r0, ev_r1, eq_self, n_m1e, true_and, and_true, false_and, and_false, and_self, not_true_eq_false, not_false_eq_true, ce_Reader_readCell, y1, vB, ce_Tokens_now, y2, t0, ce_LH_within, t_LH_within, ce_Tokens_skip, y3, ce_Rows_put, y4, hw2, u1]
      · rw [u3.2, u4]
        exact ⟨fun j hj => by rw [pk_un (by omega), pk_un (by omega), pk_un (by omega)], by rw [pk_un (by omega), pk_un (by omega), pk_us], by rw [pk_un (by omega), pk_us], pk_us, fun z => absurd z (by decide)⟩
    · obtain ⟨m1, m2, m3, y1, y2, y3, y4, y5, y6, y7, y8, y9⟩ := mod cd m hx hm hw
      have y8 : mB N T (i + 1 + 1 + 1 + 1) cd m3 := y8
      refine ⟨va_up m3 156 (upd (upd (m3 156) (64 + 4 * n + 2) (nI v2)) (64 + 4 * n + 3) (nI 0)), fun c0 v m' hv => ?_, ?_, mB.w y8 (Or.inl rfl), ?_⟩
      · simp (disch := first | assumption | omega | decide | (simp only [ma_wd0, ma_wdi, ma_wdr, ma_wdl, ma_wdn] <;> omega)) only [↓reduceIte, evK, evL, evS, evA, evJ, Option.bind_some, Option.toList, List.cons_append, List.nil_append, nI_add, pk_mul, bI0, ite_not, ev_rbb, up_n, up_s, up_u, pk_us, pk_un, Nat.reduceAdd, nI_ltT, nI_ltF, nI_leT, nI_leF, nI_eqT, nI_eqF, en_MO_readRosterLine, bk_MO_readRosterLine, gfC, gfM, ev_r0, ev_r1, eq_self, n_m1e, true_and, and_true, false_and, and_false, and_self, not_true_eq_false, not_false_eq_true, ce_MO_readTold, y1, vV, stM, ldM, n1, y2, y3, ce_MO_isIn, t_MO_isIn, ce_MO_reads, y4, tt, ce_MO_wide, t_MO_wide, y5, ce_MO_readNumber, y6, n2, ce_MO_readMark, hv]
      · have f5 := (y7.tr (mW.r6 (j := 64 + 4 * n + 2) (v := nI v2) (by omega))).tr (mW.r6 (j := 64 + 4 * n + 3) (v := nI 0) (by omega))
        rw [row156, up_u] at f5
        exact f5
      · rw [row156, y9]
        exact ⟨fun j hj => by rw [pk_un (by omega), pk_un (by omega), pk_un (by omega), pk_un (by omega)], by rw [pk_un (by omega), pk_un (by omega), pk_un (by omega), pk_us], by rw [pk_un (by omega), pk_un (by omega), pk_us], by rw [pk_un (by omega), pk_us], fun z => absurd z (by decide)⟩
  · obtain ⟨r2, ok2, cl2, md2⟩ := j_cell (sc := sc) (w := w) (m0 := m0) (d' + 1) (i + 1 + 1 + 1) n 2 (nI 1) (nI 20) hT hR hn2 (by omega)
    have md2 : ∀ cd m, xK m0 m → mB N T (i + 1 + 1 + 1) cd m → ∃ m', (∀ c0, cc sc (d' + 5) 189 [.ref 138, .int (nI 1), .int (nI 20)] (hp c0 w m) = some (some (.int (vV r2)), hp c0 w m')) ∧ mE' m m' ∧ vM N T (i + 1 + 1 + 1 + 1) cd r2 m' := md2
    have t0 : nI 274 - nI 272 = nI 2 := by decide +kernel
    have t1 : nI 1 + nI 19 - nI 18 = nI 2 := by decide +kernel
    have tt : nI 19 - nI 18 = nI 1 ∧ nI 20 - nI 18 = nI 2 ∧ nI 21 - nI 18 = nI 3 := by decide +kernel
    have cls : ∀ d c, cB N T i c → c 91 0 = nI n → c 1 0 = nI W → ∃ c2 c3, (∀ m1, cc sc (d + 2) 83 [.ref 84, .int (nI 2), .int (nI 1), .int (nI 20)] (hp c2 w m1) = some (some (.int (vB r2)), hp c3 w m1)) ∧ cE c c3 ∧ vC N T (i + 1 + 1 + 1 + 1) n 2 c2 r2 c3 ∧ c2 92 = upd (upd (c 92) (5 * n) (nI v1)) (5 * n + 1) (nI 2) ∧ c2 1 0 = nI W ∧ ∃ c1, (∀ m1, cc sc (d + 2) 83 [.ref 84, .int (nI 0), .int (nI 0), .int (nI 999)] (hp (skC i c) w m1) = some (some (.int (nI 1)), hp c1 w m1)) ∧ (∀ d m, cc sc d 130 [.ref 79] (hp c1 w m) = some (some (.int (nI 274)), hp c1 w m)) ∧ ∃ c1s, (∀ d m, cc sc d 132 [.ref 79] (hp c1 w m) = some (none, hp c1s w m)) ∧ ∀ d m, cc sc (d + 1) 88 [.ref 91, .int (nI 1), .int (nI 2)] (hp c1s w m) = some (none, hp c2 w m) := by
      intro d c hc h0 hw
      obtain ⟨c1, q1, qe1, qv1⟩ := cl1 d c hc h0
      have hc1 := qv1.1
      have hs : cB N T (i + 1 + 1 + 1) (skC (i + 1 + 1) c1) := hc1.sk hn2
      have g0 : skC (i + 1 + 1) c1 91 0 = nI n := by rw [skC_E.1 91 (by omega) (by omega), qe1.1 91 (by omega) (by omega)]; exact h0
      have hp2 : cB N T (i + 1 + 1 + 1) (pcC n 1 (nI 2) (skC (i + 1 + 1) c1)) := hs.pc
      obtain ⟨c3, q2, qe2, qv2⟩ := cl2 d (pcC n 1 (nI 2) (skC (i + 1 + 1) c1)) hp2 (by unfold pcC; rw [up_n _ _ _ _ (by omega)]; exact g0)
      refine ⟨_, c3, q2, ((qe1.tr skC_E).tr pcC_E).tr qe2, qv2, ?_, ?_, c1, q1, fun d m => ?_, _, fun d m => t_skip (sc := sc) (w := w) (m := m) d hc1.2.1, fun d m => t_rput (sc := sc) (w := w) d n 1 (nI 2) _ m g0 (by omega)⟩
      · unfold pcC skC; rw [up_s, up_n _ _ _ _ (by omega), qv1.2]; rfl
      · unfold pcC skC; rw [up_n _ _ _ _ (by omega), up_n _ _ _ _ (by omega), qe1.1 1 (by omega) (by omega)]; exact hw
      · rw [← zt]; exact t_now (sc := sc) (w := w) (m := m) d hT hc1.1 hc1.2.1 hj
    have mod : ∀ cd m, xK m0 m → mB N T i cd m → m 138 6 + nI 10 = nI W → ∃ m1 m2 m3, (∀ c0, cc sc (d' + 5) 188 [.ref 138, .int (nI 15), .int (nI 0), .int (nI 999)] (hp c0 w m) = some (some (.int (nI v1)), hp c0 w m1)) ∧ m1 138 19 = nI 2 ∧ m1 138 20 = nI 19 ∧ (∀ c0, cc sc (d' + 5) 178 [.ref 138] (hp c0 w (va_up m1 156 (upd (m1 156) (64 + 4 * n) (nI v1)))) = some (none, hp c0 w m2)) ∧ m2 138 6 + nI 10 = nI W ∧ (∀ c0, cc sc (d' + 5) 189 [.ref 138, .int (nI 1), .int (nI 20)] (hp c0 w (va_up m2 156 (upd (m2 156) (64 + 4 * n + 1) (nI 2)))) = some (some (.int (vV r2)), hp c0 w m3)) ∧ mW m m3 ∧ vM N T (i + 1 + 1 + 1 + 1) cd r2 m3 ∧ m3 156 = upd (upd (m 156) (64 + 4 * n) (nI v1)) (64 + 4 * n + 1) (nI 2) := by
      intro cd m hx hm hw
      obtain ⟨m1, p1, pe1, pv1⟩ := md1 cd m hx hm
      have pv1 : mB N T (i + 1 + 1) cd m1 := pv1
      have f1 : mW m (va_up m1 156 (upd (m1 156) (64 + 4 * n) (nI v1))) := pe1.w.tr (mW.r6 (by omega))
      have b1 : mB N T (i + 1 + 1) cd (va_up m1 156 (upd (m1 156) (64 + 4 * n) (nI v1))) := mB.w pv1 (Or.inl rfl)
      obtain ⟨m2, s1, s2, s3, s4⟩ := hR (d' + 2) (i + 1 + 1) _ _ (f1.xK hx) b1 hn2
      have f2 : mW m (va_up m2 156 (upd (m2 156) (64 + 4 * n + 1) (nI 2))) := (f1.tr (rd_E s2 s3).w).tr (mW.r6 (by omega))
      have b2 : mB N T (i + 1 + 1 + 1) cd (va_up m2 156 (upd (m2 156) (64 + 4 * n + 1) (nI 2))) := mB.w s4 (Or.inl rfl)
      obtain ⟨m3, p3, pe3, pv3⟩ := md2 cd _ (f2.xK hx) b2
      have e20 := pv1.1.vW (by omega)
      rw [zt] at e20
      refine ⟨m1, m2, m3, p1, by rw [pv1.1.wrd]; omega, e20, s1, ?_, p3, f2.tr pe3.w, pv3, ?_⟩
      · rw [s3 6 (by decide), fld6, pe1.2 6 (by decide)]; exact hw
      · rw [pe3.1 156 (by omega), row156, s2 156 (by omega), row156, pe1.1 156 (by omega)]
    cases r2 with
    | inr fp =>
      obtain ⟨f, p⟩ := fp
      refine ⟨.inr (f, p), ok2, fun d c hc h0 hw => ?_, fun cd m hx hm hw => ?_⟩
      · obtain ⟨c2, c3, u1, u2, u3, u4, hw2, c1, y1, y2, c1s, y3, y4⟩ := cls d c hc h0 hw
        refine ⟨c3, fun m1 => ?_, u2, u3⟩
        simp (disch := first | assumption | omega | decide | (simp only [ma_wd0, ma_wdi, ma_wdr, ma_wdl, ma_wdn] <;> omega)) only [↓reduceIte, evK, evL, evS, evA, evJ, Option.bind_some, Option.toList, List.cons_append, List.nil_append, nI_add, pk_mul, bI0, ite_not, ev_rbb, up_n, up_s, up_u, pk_us, pk_un, Nat.reduceAdd, nI_ltT, nI_ltF, nI_leT, nI_leF, nI_eqT, nI_eqF, en_Reader_readTask, bk_Reader_readTask, gfC, gfM, ev_r0, ev_r1, eq_self, n_m1e, true_and, and_true, false_and, and_false, and_self, not_true_eq_false, not_false_eq_true, ce_Reader_readCell, y1, vB, ce_Tokens_now, y2, t0, ce_LH_within, t_LH_within, ce_Tokens_skip, y3, ce_Rows_put, y4, hw2, u1]
      · obtain ⟨m1, m2, m3, y1, y2, y3, y4, y5, y6, y7, y8, y9⟩ := mod cd m hx hm hw
        refine ⟨va_up m3 156 (upd (m3 156) (64 + 4 * n + 2) (-1)), fun c0 => ?_, y7.tr (mW.r6 (by omega)), by rw [fld6]; exact y8⟩
        simp (disch := first | assumption | omega | decide | (simp only [ma_wd0, ma_wdi, ma_wdr, ma_wdl, ma_wdn] <;> omega)) only [↓reduceIte, evK, evL, evS, evA, evJ, Option.bind_some, Option.toList, List.cons_append, List.nil_append, nI_add, pk_mul, bI0, ite_not, ev_rbb, up_n, up_s, up_u, pk_us, pk_un, Nat.reduceAdd, nI_ltT, nI_ltF, nI_leT, nI_leF, nI_eqT, nI_eqF, en_MO_readRosterLine, bk_MO_readRosterLine, gfC, gfM, ev_r0, ev_r1, eq_self, n_m1e, true_and, and_true, false_and, and_false, and_self, not_true_eq_false, not_false_eq_true, ce_MO_readTold, y1, vV, stM, ldM, n1, y2, y3, ce_MO_isIn, t_MO_isIn, ce_MO_reads, y4, tt, ce_MO_wide, t_MO_wide, y5, ce_MO_readNumber, y6]
    | inl v2 =>
    have n2 := vV_n ok2.2.2.1
    have hv2 : v2 < 10000 := ok2.2.2.1
    have hv : 1 ≤ v2 ∧ v2 ≤ 20 := ⟨nI_le' (by omega) (by omega) ok2.1, nI_le' (by omega) (by omega) ok2.2.1⟩
    refine ⟨.inl (i + 1 + 1 + 1 + 1, v1, 2, v2, 0), ⟨by omega, ok2.2.2.2, ht, Or.inr (Or.inl ⟨Or.inr rfl, hv⟩)⟩, fun d c hc h0 hw => ?_, fun cd m hx hm hw => ?_⟩
    · obtain ⟨c2, c3, u1, u2, u3, u4, hw2, c1, y1, y2, c1s, y3, y4⟩ := cls d c hc h0 hw
      refine ⟨c3, fun m1 => ?_, u2, u3.1, ?_⟩
      · simp (disch := first | assumption | omega | decide | (simp only [ma_wd0, ma_wdi, ma_wdr, ma_wdl, ma_wdn] <;> omega)) only [↓reduceIte, evK, evL, evS, evA, evJ, Option.bind_some, Option.toList, List.cons_append, List.nil_append, nI_add, pk_mul, bI0, ite_not, ev_rbb, up_n, up_s, up_u, pk_us, pk_un, Nat.reduceAdd, nI_ltT, nI_ltF, nI_leT, nI_leF, nI_eqT, nI_eqF, en_Reader_readTask, bk_Reader_readTask, gfC, gfM, ev_r0, ev_r1, eq_self, n_m1e, true_and, and_true, false_and, and_false, and_self, not_true_eq_false, not_false_eq_true, ce_Reader_readCell, y1, vB, ce_Tokens_now, y2, t0, ce_LH_within, t_LH_within, ce_Tokens_skip, y3, ce_Rows_put, y4, hw2, u1]
      · rw [u3.2, u4]
        exact ⟨fun j hj => by rw [pk_un (by omega), pk_un (by omega), pk_un (by omega)], by rw [pk_un (by omega), pk_un (by omega), pk_us], by rw [pk_un (by omega), pk_us], pk_us, fun z => absurd z (by decide)⟩
    · obtain ⟨m1, m2, m3, y1, y2, y3, y4, y5, y6, y7, y8, y9⟩ := mod cd m hx hm hw
      have y8 : mB N T (i + 1 + 1 + 1 + 1) cd m3 := y8
      refine ⟨va_up m3 156 (upd (upd (m3 156) (64 + 4 * n + 2) (nI v2)) (64 + 4 * n + 3) (nI 0)), fun c0 v m' hv => ?_, ?_, mB.w y8 (Or.inl rfl), ?_⟩
      · simp (disch := first | assumption | omega | decide | (simp only [ma_wd0, ma_wdi, ma_wdr, ma_wdl, ma_wdn] <;> omega)) only [↓reduceIte, evK, evL, evS, evA, evJ, Option.bind_some, Option.toList, List.cons_append, List.nil_append, nI_add, pk_mul, bI0, ite_not, ev_rbb, up_n, up_s, up_u, pk_us, pk_un, Nat.reduceAdd, nI_ltT, nI_ltF, nI_leT, nI_leF, nI_eqT, nI_eqF, en_MO_readRosterLine, bk_MO_readRosterLine, gfC, gfM, ev_r0, ev_r1, eq_self, n_m1e, true_and, and_true, false_and, and_false, and_self, not_true_eq_false, not_false_eq_true, ce_MO_readTold, y1, vV, stM, ldM, n1, y2, y3, ce_MO_isIn, t_MO_isIn, ce_MO_reads, y4, tt, ce_MO_wide, t_MO_wide, y5, ce_MO_readNumber, y6, n2, ce_MO_readMark, hv]
      · have f5 := (y7.tr (mW.r6 (j := 64 + 4 * n + 2) (v := nI v2) (by omega))).tr (mW.r6 (j := 64 + 4 * n + 3) (v := nI 0) (by omega))
        rw [row156, up_u] at f5
        exact f5
      · rw [row156, y9]
        exact ⟨fun j hj => by rw [pk_un (by omega), pk_un (by omega), pk_un (by omega), pk_un (by omega)], by rw [pk_un (by omega), pk_un (by omega), pk_un (by omega), pk_us], by rw [pk_un (by omega), pk_un (by omega), pk_us], by rw [pk_un (by omega), pk_us], fun z => absurd z (by decide)⟩
  · obtain ⟨r2, ok2, cl2, md2⟩ := j_cell (sc := sc) (w := w) (m0 := m0) (d' + 1) (i + 1 + 1 + 1) n 2 (nI 0) (nI W - nI 1) hT hR hn2 (by omega)
    have md2 : ∀ cd m, xK m0 m → mB N T (i + 1 + 1 + 1) cd m → ∃ m', (∀ c0, cc sc (d' + 5) 189 [.ref 138, .int (nI 0), .int (nI W - nI 1)] (hp c0 w m) = some (some (.int (vV r2)), hp c0 w m')) ∧ mE' m m' ∧ vM N T (i + 1 + 1 + 1 + 1) cd r2 m' := md2
    have t0 : nI 275 - nI 272 = nI 3 := by decide +kernel
    have t1 : nI 1 + nI 20 - nI 18 = nI 3 := by decide +kernel
    have tt : nI 19 - nI 18 = nI 1 ∧ nI 20 - nI 18 = nI 2 ∧ nI 21 - nI 18 = nI 3 := by decide +kernel
    have cls : ∀ d c, cB N T i c → c 91 0 = nI n → c 1 0 = nI W → ∃ c2 c3, (∀ m1, cc sc (d + 2) 83 [.ref 84, .int (nI 2), .int (nI 0), .int (nI W - nI 1)] (hp c2 w m1) = some (some (.int (vB r2)), hp c3 w m1)) ∧ cE c c3 ∧ vC N T (i + 1 + 1 + 1 + 1) n 2 c2 r2 c3 ∧ c2 92 = upd (upd (c 92) (5 * n) (nI v1)) (5 * n + 1) (nI 3) ∧ c2 1 0 = nI W ∧ ∃ c1, (∀ m1, cc sc (d + 2) 83 [.ref 84, .int (nI 0), .int (nI 0), .int (nI 999)] (hp (skC i c) w m1) = some (some (.int (nI 1)), hp c1 w m1)) ∧ (∀ d m, cc sc d 130 [.ref 79] (hp c1 w m) = some (some (.int (nI 275)), hp c1 w m)) ∧ ∃ c1s, (∀ d m, cc sc d 132 [.ref 79] (hp c1 w m) = some (none, hp c1s w m)) ∧ ∀ d m, cc sc (d + 1) 88 [.ref 91, .int (nI 1), .int (nI 3)] (hp c1s w m) = some (none, hp c2 w m) := by
      intro d c hc h0 hw
      obtain ⟨c1, q1, qe1, qv1⟩ := cl1 d c hc h0
      have hc1 := qv1.1
      have hs : cB N T (i + 1 + 1 + 1) (skC (i + 1 + 1) c1) := hc1.sk hn2
      have g0 : skC (i + 1 + 1) c1 91 0 = nI n := by rw [skC_E.1 91 (by omega) (by omega), qe1.1 91 (by omega) (by omega)]; exact h0
      have hp2 : cB N T (i + 1 + 1 + 1) (pcC n 1 (nI 3) (skC (i + 1 + 1) c1)) := hs.pc
      obtain ⟨c3, q2, qe2, qv2⟩ := cl2 d (pcC n 1 (nI 3) (skC (i + 1 + 1) c1)) hp2 (by unfold pcC; rw [up_n _ _ _ _ (by omega)]; exact g0)
      refine ⟨_, c3, q2, ((qe1.tr skC_E).tr pcC_E).tr qe2, qv2, ?_, ?_, c1, q1, fun d m => ?_, _, fun d m => t_skip (sc := sc) (w := w) (m := m) d hc1.2.1, fun d m => t_rput (sc := sc) (w := w) d n 1 (nI 3) _ m g0 (by omega)⟩
      · unfold pcC skC; rw [up_s, up_n _ _ _ _ (by omega), qv1.2]; rfl
      · unfold pcC skC; rw [up_n _ _ _ _ (by omega), up_n _ _ _ _ (by omega), qe1.1 1 (by omega) (by omega)]; exact hw
      · rw [← zt]; exact t_now (sc := sc) (w := w) (m := m) d hT hc1.1 hc1.2.1 hj
    have mod : ∀ cd m, xK m0 m → mB N T i cd m → m 138 6 + nI 10 = nI W → ∃ m1 m2 m3, (∀ c0, cc sc (d' + 5) 188 [.ref 138, .int (nI 15), .int (nI 0), .int (nI 999)] (hp c0 w m) = some (some (.int (nI v1)), hp c0 w m1)) ∧ m1 138 19 = nI 2 ∧ m1 138 20 = nI 20 ∧ (∀ c0, cc sc (d' + 5) 178 [.ref 138] (hp c0 w (va_up m1 156 (upd (m1 156) (64 + 4 * n) (nI v1)))) = some (none, hp c0 w m2)) ∧ m2 138 6 + nI 10 = nI W ∧ (∀ c0, cc sc (d' + 5) 189 [.ref 138, .int (nI 0), .int (nI W - nI 1)] (hp c0 w (va_up m2 156 (upd (m2 156) (64 + 4 * n + 1) (nI 3)))) = some (some (.int (vV r2)), hp c0 w m3)) ∧ mW m m3 ∧ vM N T (i + 1 + 1 + 1 + 1) cd r2 m3 ∧ m3 156 = upd (upd (m 156) (64 + 4 * n) (nI v1)) (64 + 4 * n + 1) (nI 3) := by
      intro cd m hx hm hw
      obtain ⟨m1, p1, pe1, pv1⟩ := md1 cd m hx hm
      have pv1 : mB N T (i + 1 + 1) cd m1 := pv1
      have f1 : mW m (va_up m1 156 (upd (m1 156) (64 + 4 * n) (nI v1))) := pe1.w.tr (mW.r6 (by omega))
      have b1 : mB N T (i + 1 + 1) cd (va_up m1 156 (upd (m1 156) (64 + 4 * n) (nI v1))) := mB.w pv1 (Or.inl rfl)
      obtain ⟨m2, s1, s2, s3, s4⟩ := hR (d' + 2) (i + 1 + 1) _ _ (f1.xK hx) b1 hn2
      have f2 : mW m (va_up m2 156 (upd (m2 156) (64 + 4 * n + 1) (nI 3))) := (f1.tr (rd_E s2 s3).w).tr (mW.r6 (by omega))
      have b2 : mB N T (i + 1 + 1 + 1) cd (va_up m2 156 (upd (m2 156) (64 + 4 * n + 1) (nI 3))) := mB.w s4 (Or.inl rfl)
      obtain ⟨m3, p3, pe3, pv3⟩ := md2 cd _ (f2.xK hx) b2
      have e20 := pv1.1.vW (by omega)
      rw [zt] at e20
      refine ⟨m1, m2, m3, p1, by rw [pv1.1.wrd]; omega, e20, s1, ?_, p3, f2.tr pe3.w, pv3, ?_⟩
      · rw [s3 6 (by decide), fld6, pe1.2 6 (by decide)]; exact hw
      · rw [pe3.1 156 (by omega), row156, s2 156 (by omega), row156, pe1.1 156 (by omega)]
    cases r2 with
    | inr fp =>
      obtain ⟨f, p⟩ := fp
      refine ⟨.inr (f, p), ok2, fun d c hc h0 hw => ?_, fun cd m hx hm hw => ?_⟩
      · obtain ⟨c2, c3, u1, u2, u3, u4, hw2, c1, y1, y2, c1s, y3, y4⟩ := cls d c hc h0 hw
        refine ⟨c3, fun m1 => ?_, u2, u3⟩
        simp (disch := first | assumption | omega | decide | (simp only [ma_wd0, ma_wdi, ma_wdr, ma_wdl, ma_wdn] <;> omega)) only [↓reduceIte, evK, evL, evS, evA, evJ, Option.bind_some, Option.toList, List.cons_append, List.nil_append, nI_add, pk_mul, bI0, ite_not, ev_rbb, up_n, up_s, up_u, pk_us, pk_un, Nat.reduceAdd, nI_ltT, nI_ltF, nI_leT, nI_leF, nI_eqT, nI_eqF, en_Reader_readTask, bk_Reader_readTask, gfC, gfM, ev_r0, ev_r1, eq_self, n_m1e, true_and, and_true, false_and, and_false, and_self, not_true_eq_false, not_false_eq_true, ce_Reader_readCell, y1, vB, ce_Tokens_now, y2, t0, ce_LH_within, t_LH_within, ce_Tokens_skip, y3, ce_Rows_put, y4, hw2, u1]
      · obtain ⟨m1, m2, m3, y1, y2, y3, y4, y5, y6, y7, y8, y9⟩ := mod cd m hx hm hw
        refine ⟨va_up m3 156 (upd (m3 156) (64 + 4 * n + 2) (-1)), fun c0 => ?_, y7.tr (mW.r6 (by omega)), by rw [fld6]; exact y8⟩
        simp (disch := first | assumption | omega | decide | (simp only [ma_wd0, ma_wdi, ma_wdr, ma_wdl, ma_wdn] <;> omega)) only [↓reduceIte, evK, evL, evS, evA, evJ, Option.bind_some, Option.toList, List.cons_append, List.nil_append, nI_add, pk_mul, bI0, ite_not, ev_rbb, up_n, up_s, up_u, pk_us, pk_un, Nat.reduceAdd, nI_ltT, nI_ltF, nI_leT, nI_leF, nI_eqT, nI_eqF, en_MO_readRosterLine, bk_MO_readRosterLine, gfC, gfM, ev_r0, ev_r1, eq_self, n_m1e, true_and, and_true, false_and, and_false, and_self, not_true_eq_false, not_false_eq_true, ce_MO_readTold, y1, vV, stM, ldM, n1, y2, y3, ce_MO_isIn, t_MO_isIn, ce_MO_reads, y4, tt, ce_MO_wide, t_MO_wide, y5, ce_MO_readNumber, y6]
    | inl v2 =>
    have n2 := vV_n ok2.2.2.1
    have hv2 : v2 < 10000 := ok2.2.2.1
    have hv : v2 < W := by
      have := ok2.2.1
      rw [pk_sub (by omega)] at this
      have := nI_le' (by omega) (by omega) this
      omega
    refine ⟨.inl (i + 1 + 1 + 1 + 1, v1, 3, v2, 0), ⟨by omega, ok2.2.2.2, ht, Or.inr (Or.inr ⟨rfl, hv⟩)⟩, fun d c hc h0 hw => ?_, fun cd m hx hm hw => ?_⟩
    · obtain ⟨c2, c3, u1, u2, u3, u4, hw2, c1, y1, y2, c1s, y3, y4⟩ := cls d c hc h0 hw
      refine ⟨c3, fun m1 => ?_, u2, u3.1, ?_⟩
      · simp (disch := first | assumption | omega | decide | (simp only [ma_wd0, ma_wdi, ma_wdr, ma_wdl, ma_wdn] <;> omega)) only [↓reduceIte, evK, evL, evS, evA, evJ, Option.bind_some, Option.toList, List.cons_append, List.nil_append, nI_add, pk_mul, bI0, ite_not, ev_rbb, up_n, up_s, up_u, pk_us, pk_un, Nat.reduceAdd, nI_ltT, nI_ltF, nI_leT, nI_leF, nI_eqT, nI_eqF, en_Reader_readTask, bk_Reader_readTask, gfC, gfM, ev_r0, ev_r1, eq_self, n_m1e, true_and, and_true, false_and, and_false, and_self, not_true_eq_false, not_false_eq_true, ce_Reader_readCell, y1, vB, ce_Tokens_now, y2, t0, ce_LH_within, t_LH_within, ce_Tokens_skip, y3, ce_Rows_put, y4, hw2, u1]
      · rw [u3.2, u4]
        exact ⟨fun j hj => by rw [pk_un (by omega), pk_un (by omega), pk_un (by omega)], by rw [pk_un (by omega), pk_un (by omega), pk_us], by rw [pk_un (by omega), pk_us], pk_us, fun z => absurd z (by decide)⟩
    · obtain ⟨m1, m2, m3, y1, y2, y3, y4, y5, y6, y7, y8, y9⟩ := mod cd m hx hm hw
      have y8 : mB N T (i + 1 + 1 + 1 + 1) cd m3 := y8
      refine ⟨va_up m3 156 (upd (upd (m3 156) (64 + 4 * n + 2) (nI v2)) (64 + 4 * n + 3) (nI 0)), fun c0 v m' hv => ?_, ?_, mB.w y8 (Or.inl rfl), ?_⟩
      · simp (disch := first | assumption | omega | decide | (simp only [ma_wd0, ma_wdi, ma_wdr, ma_wdl, ma_wdn] <;> omega)) only [↓reduceIte, evK, evL, evS, evA, evJ, Option.bind_some, Option.toList, List.cons_append, List.nil_append, nI_add, pk_mul, bI0, ite_not, ev_rbb, up_n, up_s, up_u, pk_us, pk_un, Nat.reduceAdd, nI_ltT, nI_ltF, nI_leT, nI_leF, nI_eqT, nI_eqF, en_MO_readRosterLine, bk_MO_readRosterLine, gfC, gfM, ev_r0, ev_r1, eq_self, n_m1e, true_and, and_true, false_and, and_false, and_self, not_true_eq_false, not_false_eq_true, ce_MO_readTold, y1, vV, stM, ldM, n1, y2, y3, ce_MO_isIn, t_MO_isIn, ce_MO_reads, y4, tt, ce_MO_wide, t_MO_wide, y5, ce_MO_readNumber, y6, n2, ce_MO_readMark, hv]
      · have f5 := (y7.tr (mW.r6 (j := 64 + 4 * n + 2) (v := nI v2) (by omega))).tr (mW.r6 (j := 64 + 4 * n + 3) (v := nI 0) (by omega))
        rw [row156, up_u] at f5
        exact f5
      · rw [row156, y9]
        exact ⟨fun j hj => by rw [pk_un (by omega), pk_un (by omega), pk_un (by omega), pk_un (by omega)], by rw [pk_un (by omega), pk_un (by omega), pk_un (by omega), pk_us], by rw [pk_un (by omega), pk_un (by omega), pk_us], by rw [pk_un (by omega), pk_us], fun z => absurd z (by decide)⟩
end TS
