/-! ===== text: a line of wants ===== -/
def mW (m m' : Nat → Nat → Int32) : Prop := (∀ k, k ≠ 138 → k ≠ 156 → k ≠ 157 → m' k = m k) ∧ (∀ j, j ∉ [17, 18, 19, 20, 34, 35] → m' 138 j = m 138 j) ∧ (∀ j, j < 64 → m' 156 j = m 156 j) ∧ ∀ j, j < 60 → m' 157 j = m 157 j
theorem mW.rf {a : Nat → Nat → Int32} : mW a a := ⟨fun _ _ _ _ => rfl, fun _ _ => rfl, fun _ _ => rfl, fun _ _ => rfl⟩
theorem mW.tr {a b c : Nat → Nat → Int32} (h : mW a b) (g : mW b c) : mW a c := ⟨fun k x y z => (g.1 k x y z).trans (h.1 k x y z), fun j x => (g.2.1 j x).trans (h.2.1 j x), fun j x => (g.2.2.1 j x).trans (h.2.2.1 j x), fun j x => (g.2.2.2 j x).trans (h.2.2.2 j x)⟩
theorem mE'.w {a b : Nat → Nat → Int32} (h : mE' a b) : mW a b := ⟨fun k x _ _ => h.1 k x, h.2, fun j _ => by rw [h.1 156 (by omega)], fun j _ => by rw [h.1 157 (by omega)]⟩
theorem mW.xK {m0 m m' : Nat → Nat → Int32} (h : mW m m') (g : xK m0 m) : xK m0 m' := ⟨(h.2.1 16 (by decide)).trans g.1, (h.1 146 (by omega) (by omega) (by omega)).trans g.2.1, (h.1 147 (by omega) (by omega) (by omega)).trans g.2.2⟩
theorem mW.r7 {m : Nat → Nat → Int32} {j : Nat} {v : Int32} (hj : 60 ≤ j) : mW m (va_up m 157 (upd (m 157) j v)) := ⟨fun k _ _ a => up_n _ _ _ _ a, fun k _ => by rw [up_n _ _ _ _ (by omega)], fun k _ => by rw [up_n _ _ _ _ (by omega)], fun k hk => by rw [up_s, pk_un (by omega)]⟩
theorem mW.r6 {m : Nat → Nat → Int32} {j : Nat} {v : Int32} (hj : 64 ≤ j) : mW m (va_up m 156 (upd (m 156) j v)) := ⟨fun k _ a _ => up_n _ _ _ _ a, fun k _ => by rw [up_n _ _ _ _ (by omega)], fun k hk => by rw [up_s, pk_un (by omega)], fun k _ => by rw [up_n _ _ _ _ (by omega)]⟩
theorem mB.w {N : Nat} {T : Nat → Nat → Nat} {i k : Nat} {cd : List (Nat × Nat)} {m : Nat → Nat → Int32} {f : Nat → Int32} (h : mB N T i cd m) (hk : k = 156 ∨ k = 157) : mB N T i cd (va_up m k f) := by
  unfold mB at *
  rw [up_n _ _ _ _ (by omega), up_n _ _ _ _ (by omega), up_n _ _ _ _ (by omega)]
  exact h
theorem row157 {m : Nat → Nat → Int32} {f : Nat → Int32} : va_up m 157 f 157 = f := up_s _ _ _
theorem row156 {m : Nat → Nat → Int32} {f : Nat → Int32} : va_up m 156 f 156 = f := up_s _ _ _
theorem fld7 {m : Nat → Nat → Int32} {f : Nat → Int32} : va_up m 157 f 138 = m 138 := up_n _ _ _ _ (by omega)
theorem fld6 {m : Nat → Nat → Int32} {f : Nat → Int32} : va_up m 156 f 138 = m 138 := up_n _ _ _ _ (by omega)
section WN
variable {sc : Nat × (Nat → Int32)} {m0 : Nat → Nat → Int32} {w : Nat → Int64} {N : Nat} {T : Nat → Nat → Nat}
theorem j_told1 (d' i K x n k : Nat) (lo hi : Int32) (hT : tOK N T) (hR : rdS sc w N T m0) (h : i < N) (hk : 5 * n + k < 80) (hK : 256 ≤ K) (hK2 : K < 281) (hx : tkp K = x) (z : T 0 i = K) : ∃ r : vR, vOK N (i + 1 + 1) lo hi r ∧
    (∀ d c, cB N T i c → c 91 0 = nI n → ∃ c', (∀ m1, cc sc (d + 2) 83 [.ref 84, .int (nI k), .int lo, .int hi] (hp (skC i c) w m1) = some (some (.int (vB r)), hp c' w m1)) ∧ cE c c' ∧ vC N T (i + 1 + 1) n k c r c') ∧
    (∀ cd m, xK m0 m → mB N T i cd m → ∃ m', (∀ c0, cc sc (d' + 5) 188 [.ref 138, .int (nI x), .int lo, .int hi] (hp c0 w m) = some (some (.int (vV r)), hp c0 w m')) ∧ mE' m m' ∧ vM N T (i + 1 + 1) cd r m') := by
  obtain ⟨r, r1, r2, r3⟩ := j_told (sc := sc) (w := w) (m0 := m0) d' i K x n k lo hi hT hR h hk hK hK2 hx
  refine ⟨r, r1, fun d c hc h0 => ?_, r3⟩
  have ht := fun d m1 => (t_take' (sc := sc) (w := w) d i K c hT hc hK2).1 z m1
  rcases r2 c hc h0 with ⟨c', q1, q2⟩ | ⟨c1, q1, q2, q3, q4⟩
  · exfalso
    have e := (q1 0 c).symm.trans (ht 0 c)
    have : nI 0 = nI 1 := by injection e with e; injection e with e1 e2; injection e1 with e1; injection e1
    exact nI_01 this
  · obtain ⟨c', g1, g2, g3⟩ := q4 d
    refine ⟨c', fun m1 => ?_, g2, g3⟩
    have e := (q1 0 m1).symm.trans (ht 0 m1)
    have e2 : hp c1 w m1 = hp (skC i c) w m1 := by injection e with e; injection e
    rw [← e2]
    exact g1 m1
abbrev wnR : Type := (Nat × Nat × Nat × Nat × Nat × Nat) ⊕ (Nat × Nat)
def w5 (f : Nat → Int32) (b : Nat) (p h s t y : Nat) : Nat → Int32 := upd (upd (upd (upd (upd f b (nI p)) (b + 1) (nI h)) (b + 2) (nI s)) (b + 3) (nI t)) (b + 4) (nI y)
theorem nI_le' {a b : Nat} (ha : a < 2 ^ 31) (hb : b < 2 ^ 31) (h : nI a ≤ nI b) : a ≤ b := by
  rw [Int32.le_iff_toInt_le, nI_toInt ha, nI_toInt hb] at h
  omega
theorem nI_lq {a Q : Nat} (ha : a < 10000) (hQ : Q ≤ 6) (h : nI a ≤ nI Q - nI 1) : a < Q := by
  rcases Nat.eq_zero_or_pos Q with z | z
  · subst z
    exfalso
    rw [Int32.le_iff_toInt_le, nI_toInt (by omega)] at h
    have e : (nI 0 - nI 1).toInt = -1 := by decide +kernel
    omega
  · rw [pk_sub z] at h
    have := nI_le' (by omega) (by omega) h
    omega
set_option maxHeartbeats 1000000 in
theorem j_want (d' i n Q : Nat) (hT : tOK N T) (hR : rdS sc w N T m0) (hi : i < N) (z : T 0 i = 277) (hn : n < 12) (hQ : Q ≤ 6) : ∃ r : wnR,
    (match r with
      | .inl (j, p, h, s, t, y) => i < j ∧ j < N ∧ p < Q ∧ h ≤ 40 ∧ s ≤ t ∧ t ≤ 23 ∧ y ≤ 99
      | .inr (f, p) => 1 ≤ f ∧ f ≤ 3 ∧ p ≤ 400) ∧
    (∀ d c, cB N T i c → c 91 0 = nI n → c 1 5 = nI Q → match r with
      | .inl (j, p, h, s, t, y) => ∃ c', (∀ m1, cc sc (d + 3) 84 [.ref 84] (hp (skC i c) w m1) = some (some (.int (nI 1)), hp c' w m1)) ∧ cE c c' ∧ cB N T j c' ∧ c' 92 = w5 (c 92) (5 * n) p h s t y
      | .inr (f, p) => ∃ c', (∀ m1, cc sc (d + 3) 84 [.ref 84] (hp (skC i c) w m1) = some (some (.int (nI 0)), hp c' w m1)) ∧ cE c c' ∧ cY f p c') ∧
    (∀ cd m, xK m0 m → mB N T i cd m → m 138 10 = nI Q → match r with
      | .inl (j, p, h, s, t, y) => ∃ M, (∀ c0 v m', cc sc (d' + 5) 190 [.ref 138, .int (nI 59)] (hp c0 w M) = some (some (.int v), hp c0 w m') → cc sc (d' + 6) 193 [.ref 138, .int (nI (60 + 5 * n))] (hp c0 w m) = some (some (.int v), hp c0 w m')) ∧ mW m M ∧ mB N T j cd M ∧ M 157 = w5 (m 157) (60 + 5 * n) p h s t y
      | .inr (f, p) => ∃ m', (∀ c0, cc sc (d' + 6) 193 [.ref 138, .int (nI (60 + 5 * n))] (hp c0 w m) = some (some (.int (-1)), hp c0 w m')) ∧ mW m m' ∧ m' 138 34 = nI f ∧ m' 138 35 = nI p) := by
  have hN := hT.2.1
  obtain ⟨r1, ok1, cl1, md1⟩ := j_told1 (sc := sc) (w := w) (m0 := m0) d' i 277 21 n 0 (nI 0) (nI Q - nI 1) hT hR hi (by omega) (by omega) (by omega) rfl z
  cases r1 with
  | inr fp =>
    obtain ⟨f, p⟩ := fp
    refine ⟨.inr (f, p), ok1, fun d c hc h0 h5 => ?_, fun cd m hx hm hq => ?_⟩
    · obtain ⟨c1, q1, qe1, qv1⟩ := cl1 d c hc h0
      have g1 : c1 91 0 = nI n := by rw [qe1.1 91 (by omega) (by omega)]; exact h0
      have k5 : skC i c 1 5 = nI Q := by unfold skC; rw [up_n _ _ _ _ (by omega)]; exact h5
      exact ⟨c1, fun m1 => by
        simp (disch := first | assumption | omega | decide | (simp only [ma_wd0, ma_wdi, ma_wdr, ma_wdl, ma_wdn] <;> omega)) only [↓reduceIte, evK, evL, evS, evA, evJ, Option.bind_some, Option.toList, List.cons_append, List.nil_append, nI_add, pk_mul, bI0, ite_not, ev_rbb, up_n, up_s, up_u, pk_us, pk_un, Nat.reduceAdd, nI_ltT, nI_ltF, nI_leT, nI_leF, nI_eqT, nI_eqF, en_Reader_readWant, bk_Reader_readWant, gfC, gfM, ev_r0, ev_r1, eq_self, n_m1e, true_and, and_true, false_and, and_false, and_self, not_true_eq_false, not_false_eq_true, k5, ce_Reader_readCell, q1, vB], qe1, qv1⟩
    · obtain ⟨m1, p1, pe1, pv1⟩ := md1 cd m hx hm
      refine ⟨va_up m1 157 (upd (m1 157) (60 + 5 * n) (-1)), fun c0 => ?_, (pe1.w.tr (mW.r7 (by omega))), ?_⟩
      · simp (disch := first | assumption | omega | decide | (simp only [ma_wd0, ma_wdi, ma_wdr, ma_wdl, ma_wdn] <;> omega)) only [↓reduceIte, evK, evL, evS, evA, evJ, Option.bind_some, Option.toList, List.cons_append, List.nil_append, nI_add, pk_mul, bI0, ite_not, ev_rbb, up_n, up_s, up_u, pk_us, pk_un, Nat.reduceAdd, nI_ltT, nI_ltF, nI_leT, nI_leF, nI_eqT, nI_eqF, en_MO_readWant, bk_MO_readWant, gfC, gfM, ev_r0, ev_r1, eq_self, n_m1e, true_and, and_true, false_and, and_false, and_self, not_true_eq_false, not_false_eq_true, hq, p1, ce_MO_readTold, vV, stM, ldM]
      · rw [fld7]; exact pv1
  | inl v1 =>
  have n1 := vV_n ok1.2.2.1
  obtain ⟨r2, ok2, cl2, md2⟩ := j_told (sc := sc) (w := w) (m0 := m0) d' (i + 1 + 1) 278 22 n 1 (nI 0) (nI 40) hT hR ok1.2.2.2 (by omega) (by omega) (by omega) rfl
  cases r2 with
  | inr fp =>
    obtain ⟨f, p⟩ := fp
    refine ⟨.inr (f, p), ok2, fun d c hc h0 h5 => ?_, fun cd m hx hm hq => ?_⟩
    · obtain ⟨c1, q1, qe1, qv1⟩ := cl1 d c hc h0
      have g1 : c1 91 0 = nI n := by rw [qe1.1 91 (by omega) (by omega)]; exact h0
      have k5 : skC i c 1 5 = nI Q := by unfold skC; rw [up_n _ _ _ _ (by omega)]; exact h5
      rcases cl2 c1 qv1.1 g1 with ⟨c2, ta2, hz2, qe2, qv2⟩ | ⟨ca2, ta2, e912, e922, hc2⟩
      · refine ⟨c2, fun m1 => ?_, (qe1).tr qe2, qv2⟩
        simp (disch := first | assumption | omega | decide | (simp only [ma_wd0, ma_wdi, ma_wdr, ma_wdl, ma_wdn] <;> omega)) only [↓reduceIte, evK, evL, evS, evA, evJ, Option.bind_some, Option.toList, List.cons_append, List.nil_append, nI_add, pk_mul, bI0, ite_not, ev_rbb, up_n, up_s, up_u, pk_us, pk_un, Nat.reduceAdd, nI_ltT, nI_ltF, nI_leT, nI_leF, nI_eqT, nI_eqF, en_Reader_readWant, bk_Reader_readWant, gfC, gfM, ev_r0, ev_r1, eq_self, n_m1e, true_and, and_true, false_and, and_false, and_self, not_true_eq_false, not_false_eq_true, k5, q1, ce_Reader_readCell, vB, ce_Tokens_take, ta2]
      · obtain ⟨c2, q2, qe2, qv2⟩ := hc2 d
        have g2 : c2 91 0 = nI n := by rw [qe2.1 91 (by omega) (by omega)]; exact g1
        refine ⟨c2, fun m1 => ?_, (qe1).tr qe2, qv2⟩
        simp (disch := first | assumption | omega | decide | (simp only [ma_wd0, ma_wdi, ma_wdr, ma_wdl, ma_wdn] <;> omega)) only [↓reduceIte, evK, evL, evS, evA, evJ, Option.bind_some, Option.toList, List.cons_append, List.nil_append, nI_add, pk_mul, bI0, ite_not, ev_rbb, up_n, up_s, up_u, pk_us, pk_un, Nat.reduceAdd, nI_ltT, nI_ltF, nI_leT, nI_leF, nI_eqT, nI_eqF, en_Reader_readWant, bk_Reader_readWant, gfC, gfM, ev_r0, ev_r1, eq_self, n_m1e, true_and, and_true, false_and, and_false, and_self, not_true_eq_false, not_false_eq_true, k5, q1, ta2, q2, ce_Reader_readCell, vB, ce_Tokens_take]
    · obtain ⟨m1, p1, pe1, pv1⟩ := md1 cd m hx hm
      have f1 : mW m (va_up m1 157 (upd (m1 157) (60 + 5 * n) (nI v1))) := pe1.w.tr (mW.r7 (by omega))
      have x1 := f1.xK hx
      have b1 : mB N T (i + 1 + 1) cd (va_up m1 157 (upd (m1 157) (60 + 5 * n) (nI v1))) := mB.w pv1 (Or.inr rfl)
      obtain ⟨m2, p2, pe2, pv2⟩ := md2 cd _ x1 b1
      refine ⟨va_up m2 157 (upd (m2 157) (60 + 5 * n + 1) (-1)), fun c0 => ?_, (f1).tr (pe2.w.tr (mW.r7 (by omega))), ?_⟩
      · simp (disch := first | assumption | omega | decide | (simp only [ma_wd0, ma_wdi, ma_wdr, ma_wdl, ma_wdn] <;> omega)) only [↓reduceIte, evK, evL, evS, evA, evJ, Option.bind_some, Option.toList, List.cons_append, List.nil_append, nI_add, pk_mul, bI0, ite_not, ev_rbb, up_n, up_s, up_u, pk_us, pk_un, Nat.reduceAdd, nI_ltT, nI_ltF, nI_leT, nI_leF, nI_eqT, nI_eqF, en_MO_readWant, bk_MO_readWant, gfC, gfM, ev_r0, ev_r1, eq_self, n_m1e, true_and, and_true, false_and, and_false, and_self, not_true_eq_false, not_false_eq_true, hq, p1, n1, p2, ce_MO_readTold, vV, stM, ldM]
      · rw [fld7]; exact pv2
  | inl v2 =>
  have n2 := vV_n ok2.2.2.1
  obtain ⟨r3, ok3, cl3, md3⟩ := j_told (sc := sc) (w := w) (m0 := m0) d' (i + 1 + 1 + 1 + 1) 279 23 n 2 (nI 0) (nI 23) hT hR ok2.2.2.2 (by omega) (by omega) (by omega) rfl
  cases r3 with
  | inr fp =>
    obtain ⟨f, p⟩ := fp
    refine ⟨.inr (f, p), ok3, fun d c hc h0 h5 => ?_, fun cd m hx hm hq => ?_⟩
    · obtain ⟨c1, q1, qe1, qv1⟩ := cl1 d c hc h0
      have g1 : c1 91 0 = nI n := by rw [qe1.1 91 (by omega) (by omega)]; exact h0
      have k5 : skC i c 1 5 = nI Q := by unfold skC; rw [up_n _ _ _ _ (by omega)]; exact h5
      rcases cl2 c1 qv1.1 g1 with ⟨c2, ta2, hz2, qe2, qv2⟩ | ⟨ca2, ta2, e912, e922, hc2⟩
      · exact absurd hz2 nI_10
      obtain ⟨c2, q2, qe2, qv2⟩ := hc2 d
      have g2 : c2 91 0 = nI n := by rw [qe2.1 91 (by omega) (by omega)]; exact g1
      rcases cl3 c2 qv2.1 g2 with ⟨c3, ta3, hz3, qe3, qv3⟩ | ⟨ca3, ta3, e913, e923, hc3⟩
      · refine ⟨c3, fun m1 => ?_, ((qe1).tr qe2).tr qe3, qv3⟩
        simp (disch := first | assumption | omega | decide | (simp only [ma_wd0, ma_wdi, ma_wdr, ma_wdl, ma_wdn] <;> omega)) only [↓reduceIte, evK, evL, evS, evA, evJ, Option.bind_some, Option.toList, List.cons_append, List.nil_append, nI_add, pk_mul, bI0, ite_not, ev_rbb, up_n, up_s, up_u, pk_us, pk_un, Nat.reduceAdd, nI_ltT, nI_ltF, nI_leT, nI_leF, nI_eqT, nI_eqF, en_Reader_readWant, bk_Reader_readWant, gfC, gfM, ev_r0, ev_r1, eq_self, n_m1e, true_and, and_true, false_and, and_false, and_self, not_true_eq_false, not_false_eq_true, k5, q1, ta2, q2, ce_Reader_readCell, vB, ce_Tokens_take, ta3]
      · obtain ⟨c3, q3, qe3, qv3⟩ := hc3 d
        have g3 : c3 91 0 = nI n := by rw [qe3.1 91 (by omega) (by omega)]; exact g2
        refine ⟨c3, fun m1 => ?_, ((qe1).tr qe2).tr qe3, qv3⟩
        simp (disch := first | assumption | omega | decide | (simp only [ma_wd0, ma_wdi, ma_wdr, ma_wdl, ma_wdn] <;> omega)) only [↓reduceIte, evK, evL, evS, evA, evJ, Option.bind_some, Option.toList, List.cons_append, List.nil_append, nI_add, pk_mul, bI0, ite_not, ev_rbb, up_n, up_s, up_u, pk_us, pk_un, Nat.reduceAdd, nI_ltT, nI_ltF, nI_leT, nI_leF, nI_eqT, nI_eqF, en_Reader_readWant, bk_Reader_readWant, gfC, gfM, ev_r0, ev_r1, eq_self, n_m1e, true_and, and_true, false_and, and_false, and_self, not_true_eq_false, not_false_eq_true, k5, q1, ta2, q2, ta3, q3, ce_Reader_readCell, vB, ce_Tokens_take]
    · obtain ⟨m1, p1, pe1, pv1⟩ := md1 cd m hx hm
      have f1 : mW m (va_up m1 157 (upd (m1 157) (60 + 5 * n) (nI v1))) := pe1.w.tr (mW.r7 (by omega))
      have x1 := f1.xK hx
      have b1 : mB N T (i + 1 + 1) cd (va_up m1 157 (upd (m1 157) (60 + 5 * n) (nI v1))) := mB.w pv1 (Or.inr rfl)
      obtain ⟨m2, p2, pe2, pv2⟩ := md2 cd _ x1 b1
      have f2 : mW (va_up m1 157 (upd (m1 157) (60 + 5 * n) (nI v1))) (va_up m2 157 (upd (m2 157) (60 + 5 * n + 1) (nI v2))) := pe2.w.tr (mW.r7 (by omega))
      have x2 := f2.xK x1
      have b2 : mB N T ((i + 1 + 1) + 1 + 1) cd (va_up m2 157 (upd (m2 157) (60 + 5 * n + 1) (nI v2))) := mB.w pv2 (Or.inr rfl)
      obtain ⟨m3, p3, pe3, pv3⟩ := md3 cd _ x2 b2
      refine ⟨va_up m3 157 (upd (m3 157) (60 + 5 * n + 2) (-1)), fun c0 => ?_, ((f1).tr f2).tr (pe3.w.tr (mW.r7 (by omega))), ?_⟩
      · simp (disch := first | assumption | omega | decide | (simp only [ma_wd0, ma_wdi, ma_wdr, ma_wdl, ma_wdn] <;> omega)) only [↓reduceIte, evK, evL, evS, evA, evJ, Option.bind_some, Option.toList, List.cons_append, List.nil_append, nI_add, pk_mul, bI0, ite_not, ev_rbb, up_n, up_s, up_u, pk_us, pk_un, Nat.reduceAdd, nI_ltT, nI_ltF, nI_leT, nI_leF, nI_eqT, nI_eqF, en_MO_readWant, bk_MO_readWant, gfC, gfM, ev_r0, ev_r1, eq_self, n_m1e, true_and, and_true, false_and, and_false, and_self, not_true_eq_false, not_false_eq_true, hq, p1, n1, p2, n2, p3, ce_MO_readTold, vV, stM, ldM]
      · rw [fld7]; exact pv3
  | inl v3 =>
  have n3 := vV_n ok3.2.2.1
  obtain ⟨r4, ok4, cl4, md4⟩ := j_told (sc := sc) (w := w) (m0 := m0) d' (i + 1 + 1 + 1 + 1 + 1 + 1) 276 17 n 3 (nI v3) (nI 23) hT hR ok3.2.2.2 (by omega) (by omega) (by omega) rfl
  cases r4 with
  | inr fp =>
    obtain ⟨f, p⟩ := fp
    refine ⟨.inr (f, p), ok4, fun d c hc h0 h5 => ?_, fun cd m hx hm hq => ?_⟩
    · obtain ⟨c1, q1, qe1, qv1⟩ := cl1 d c hc h0
      have g1 : c1 91 0 = nI n := by rw [qe1.1 91 (by omega) (by omega)]; exact h0
      have k5 : skC i c 1 5 = nI Q := by unfold skC; rw [up_n _ _ _ _ (by omega)]; exact h5
      rcases cl2 c1 qv1.1 g1 with ⟨c2, ta2, hz2, qe2, qv2⟩ | ⟨ca2, ta2, e912, e922, hc2⟩
      · exact absurd hz2 nI_10
      obtain ⟨c2, q2, qe2, qv2⟩ := hc2 d
      have g2 : c2 91 0 = nI n := by rw [qe2.1 91 (by omega) (by omega)]; exact g1
      rcases cl3 c2 qv2.1 g2 with ⟨c3, ta3, hz3, qe3, qv3⟩ | ⟨ca3, ta3, e913, e923, hc3⟩
      · exact absurd hz3 nI_10
      obtain ⟨c3, q3, qe3, qv3⟩ := hc3 d
      have g3 : c3 91 0 = nI n := by rw [qe3.1 91 (by omega) (by omega)]; exact g2
      rcases cl4 c3 qv3.1 g3 with ⟨c4, ta4, hz4, qe4, qv4⟩ | ⟨ca4, ta4, e914, e924, hc4⟩
      · refine ⟨c4, fun m1 => ?_, (((qe1).tr qe2).tr qe3).tr qe4, qv4⟩
        simp (disch := first | assumption | omega | decide | (simp only [ma_wd0, ma_wdi, ma_wdr, ma_wdl, ma_wdn] <;> omega)) only [↓reduceIte, evK, evL, evS, evA, evJ, Option.bind_some, Option.toList, List.cons_append, List.nil_append, nI_add, pk_mul, bI0, ite_not, ev_rbb, up_n, up_s, up_u, pk_us, pk_un, Nat.reduceAdd, nI_ltT, nI_ltF, nI_leT, nI_leF, nI_eqT, nI_eqF, en_Reader_readWant, bk_Reader_readWant, gfC, gfM, ev_r0, ev_r1, eq_self, n_m1e, true_and, and_true, false_and, and_false, and_self, not_true_eq_false, not_false_eq_true, k5, q1, ta2, q2, ta3, q3, ce_Reader_readCell, vB, ce_Tokens_take, ta4]
      · obtain ⟨c4, q4, qe4, qv4⟩ := hc4 d
        have r4 : ca4 91 0 = nI n := by rw [e914]; exact g3
        have r5 : ca4 92 (5 * n + 2) = nI v3 := by rw [e924, qv3.2]; exact pk_us
        have r6 := fun d m => t_rcell (sc := sc) (w := w) d n 2 ca4 m (by omega)
        rw [r5] at r6
        have g4 : c4 91 0 = nI n := by rw [qe4.1 91 (by omega) (by omega)]; exact g3
        refine ⟨c4, fun m1 => ?_, (((qe1).tr qe2).tr qe3).tr qe4, qv4⟩
        simp (disch := first | assumption | omega | decide | (simp only [ma_wd0, ma_wdi, ma_wdr, ma_wdl, ma_wdn] <;> omega)) only [↓reduceIte, evK, evL, evS, evA, evJ, Option.bind_some, Option.toList, List.cons_append, List.nil_append, nI_add, pk_mul, bI0, ite_not, ev_rbb, up_n, up_s, up_u, pk_us, pk_un, Nat.reduceAdd, nI_ltT, nI_ltF, nI_leT, nI_leF, nI_eqT, nI_eqF, en_Reader_readWant, bk_Reader_readWant, gfC, gfM, ev_r0, ev_r1, eq_self, n_m1e, true_and, and_true, false_and, and_false, and_self, not_true_eq_false, not_false_eq_true, k5, q1, ta2, q2, ta3, q3, r4, ce_Rows_cell, r6, ta4, q4, ce_Reader_readCell, vB, ce_Tokens_take]
    · obtain ⟨m1, p1, pe1, pv1⟩ := md1 cd m hx hm
      have f1 : mW m (va_up m1 157 (upd (m1 157) (60 + 5 * n) (nI v1))) := pe1.w.tr (mW.r7 (by omega))
      have x1 := f1.xK hx
      have b1 : mB N T (i + 1 + 1) cd (va_up m1 157 (upd (m1 157) (60 + 5 * n) (nI v1))) := mB.w pv1 (Or.inr rfl)
      obtain ⟨m2, p2, pe2, pv2⟩ := md2 cd _ x1 b1
      have f2 : mW (va_up m1 157 (upd (m1 157) (60 + 5 * n) (nI v1))) (va_up m2 157 (upd (m2 157) (60 + 5 * n + 1) (nI v2))) := pe2.w.tr (mW.r7 (by omega))
      have x2 := f2.xK x1
      have b2 : mB N T ((i + 1 + 1) + 1 + 1) cd (va_up m2 157 (upd (m2 157) (60 + 5 * n + 1) (nI v2))) := mB.w pv2 (Or.inr rfl)
      obtain ⟨m3, p3, pe3, pv3⟩ := md3 cd _ x2 b2
      have f3 : mW (va_up m2 157 (upd (m2 157) (60 + 5 * n + 1) (nI v2))) (va_up m3 157 (upd (m3 157) (60 + 5 * n + 2) (nI v3))) := pe3.w.tr (mW.r7 (by omega))
      have x3 := f3.xK x2
      have b3 : mB N T ((i + 1 + 1 + 1 + 1) + 1 + 1) cd (va_up m3 157 (upd (m3 157) (60 + 5 * n + 2) (nI v3))) := mB.w pv3 (Or.inr rfl)
      obtain ⟨m4, p4, pe4, pv4⟩ := md4 cd _ x3 b3
      refine ⟨va_up m4 157 (upd (m4 157) (60 + 5 * n + 3) (-1)), fun c0 => ?_, (((f1).tr f2).tr f3).tr (pe4.w.tr (mW.r7 (by omega))), ?_⟩
      · simp (disch := first | assumption | omega | decide | (simp only [ma_wd0, ma_wdi, ma_wdr, ma_wdl, ma_wdn] <;> omega)) only [↓reduceIte, evK, evL, evS, evA, evJ, Option.bind_some, Option.toList, List.cons_append, List.nil_append, nI_add, pk_mul, bI0, ite_not, ev_rbb, up_n, up_s, up_u, pk_us, pk_un, Nat.reduceAdd, nI_ltT, nI_ltF, nI_leT, nI_leF, nI_eqT, nI_eqF, en_MO_readWant, bk_MO_readWant, gfC, gfM, ev_r0, ev_r1, eq_self, n_m1e, true_and, and_true, false_and, and_false, and_self, not_true_eq_false, not_false_eq_true, hq, p1, n1, p2, n2, p3, n3, p4, ce_MO_readTold, vV, stM, ldM]
      · rw [fld7]; exact pv4
  | inl v4 =>
  have n4 := vV_n ok4.2.2.1
  obtain ⟨r5, ok5, cl5, md5⟩ := j_told (sc := sc) (w := w) (m0 := m0) d' (i + 1 + 1 + 1 + 1 + 1 + 1 + 1 + 1) 280 24 n 4 (nI 0) (nI 99) hT hR ok4.2.2.2 (by omega) (by omega) (by omega) rfl
  cases r5 with
  | inr fp =>
    obtain ⟨f, p⟩ := fp
    refine ⟨.inr (f, p), ok5, fun d c hc h0 h5 => ?_, fun cd m hx hm hq => ?_⟩
    · obtain ⟨c1, q1, qe1, qv1⟩ := cl1 d c hc h0
      have g1 : c1 91 0 = nI n := by rw [qe1.1 91 (by omega) (by omega)]; exact h0
      have k5 : skC i c 1 5 = nI Q := by unfold skC; rw [up_n _ _ _ _ (by omega)]; exact h5
      rcases cl2 c1 qv1.1 g1 with ⟨c2, ta2, hz2, qe2, qv2⟩ | ⟨ca2, ta2, e912, e922, hc2⟩
      · exact absurd hz2 nI_10
      obtain ⟨c2, q2, qe2, qv2⟩ := hc2 d
      have g2 : c2 91 0 = nI n := by rw [qe2.1 91 (by omega) (by omega)]; exact g1
      rcases cl3 c2 qv2.1 g2 with ⟨c3, ta3, hz3, qe3, qv3⟩ | ⟨ca3, ta3, e913, e923, hc3⟩
      · exact absurd hz3 nI_10
      obtain ⟨c3, q3, qe3, qv3⟩ := hc3 d
      have g3 : c3 91 0 = nI n := by rw [qe3.1 91 (by omega) (by omega)]; exact g2
      rcases cl4 c3 qv3.1 g3 with ⟨c4, ta4, hz4, qe4, qv4⟩ | ⟨ca4, ta4, e914, e924, hc4⟩
      · exact absurd hz4 nI_10
      obtain ⟨c4, q4, qe4, qv4⟩ := hc4 d
      have r4 : ca4 91 0 = nI n := by rw [e914]; exact g3
      have r5 : ca4 92 (5 * n + 2) = nI v3 := by rw [e924, qv3.2]; exact pk_us
      have r6 := fun d m => t_rcell (sc := sc) (w := w) d n 2 ca4 m (by omega)
      rw [r5] at r6
      have g4 : c4 91 0 = nI n := by rw [qe4.1 91 (by omega) (by omega)]; exact g3
      rcases cl5 c4 qv4.1 g4 with ⟨c5, ta5, hz5, qe5, qv5⟩ | ⟨ca5, ta5, e915, e925, hc5⟩
      · refine ⟨c5, fun m1 => ?_, ((((qe1).tr qe2).tr qe3).tr qe4).tr qe5, qv5⟩
        simp (disch := first | assumption | omega | decide | (simp only [ma_wd0, ma_wdi, ma_wdr, ma_wdl, ma_wdn] <;> omega)) only [↓reduceIte, evK, evL, evS, evA, evJ, Option.bind_some, Option.toList, List.cons_append, List.nil_append, nI_add, pk_mul, bI0, ite_not, ev_rbb, up_n, up_s, up_u, pk_us, pk_un, Nat.reduceAdd, nI_ltT, nI_ltF, nI_leT, nI_leF, nI_eqT, nI_eqF, en_Reader_readWant, bk_Reader_readWant, gfC, gfM, ev_r0, ev_r1, eq_self, n_m1e, true_and, and_true, false_and, and_false, and_self, not_true_eq_false, not_false_eq_true, k5, q1, ta2, q2, ta3, q3, r4, ce_Rows_cell, r6, ta4, q4, ce_Reader_readCell, vB, ce_Tokens_take, ta5, ce_Rows_cell]
      · obtain ⟨c5, q5, qe5, qv5⟩ := hc5 d
        have g5 : c5 91 0 = nI n := by rw [qe5.1 91 (by omega) (by omega)]; exact g4
        refine ⟨c5, fun m1 => ?_, ((((qe1).tr qe2).tr qe3).tr qe4).tr qe5, qv5⟩
        simp (disch := first | assumption | omega | decide | (simp only [ma_wd0, ma_wdi, ma_wdr, ma_wdl, ma_wdn] <;> omega)) only [↓reduceIte, evK, evL, evS, evA, evJ, Option.bind_some, Option.toList, List.cons_append, List.nil_append, nI_add, pk_mul, bI0, ite_not, ev_rbb, up_n, up_s, up_u, pk_us, pk_un, Nat.reduceAdd, nI_ltT, nI_ltF, nI_leT, nI_leF, nI_eqT, nI_eqF, en_Reader_readWant, bk_Reader_readWant, gfC, gfM, ev_r0, ev_r1, eq_self, n_m1e, true_and, and_true, false_and, and_false, and_self, not_true_eq_false, not_false_eq_true, k5, q1, ta2, q2, ta3, q3, r4, ce_Rows_cell, r6, ta4, q4, ta5, q5, ce_Reader_readCell, vB, ce_Tokens_take]
    · obtain ⟨m1, p1, pe1, pv1⟩ := md1 cd m hx hm
      have f1 : mW m (va_up m1 157 (upd (m1 157) (60 + 5 * n) (nI v1))) := pe1.w.tr (mW.r7 (by omega))
      have x1 := f1.xK hx
      have b1 : mB N T (i + 1 + 1) cd (va_up m1 157 (upd (m1 157) (60 + 5 * n) (nI v1))) := mB.w pv1 (Or.inr rfl)
      obtain ⟨m2, p2, pe2, pv2⟩ := md2 cd _ x1 b1
      have f2 : mW (va_up m1 157 (upd (m1 157) (60 + 5 * n) (nI v1))) (va_up m2 157 (upd (m2 157) (60 + 5 * n + 1) (nI v2))) := pe2.w.tr (mW.r7 (by omega))
      have x2 := f2.xK x1
      have b2 : mB N T ((i + 1 + 1) + 1 + 1) cd (va_up m2 157 (upd (m2 157) (60 + 5 * n + 1) (nI v2))) := mB.w pv2 (Or.inr rfl)
      obtain ⟨m3, p3, pe3, pv3⟩ := md3 cd _ x2 b2
      have f3 : mW (va_up m2 157 (upd (m2 157) (60 + 5 * n + 1) (nI v2))) (va_up m3 157 (upd (m3 157) (60 + 5 * n + 2) (nI v3))) := pe3.w.tr (mW.r7 (by omega))
      have x3 := f3.xK x2
      have b3 : mB N T ((i + 1 + 1 + 1 + 1) + 1 + 1) cd (va_up m3 157 (upd (m3 157) (60 + 5 * n + 2) (nI v3))) := mB.w pv3 (Or.inr rfl)
      obtain ⟨m4, p4, pe4, pv4⟩ := md4 cd _ x3 b3
      have f4 : mW (va_up m3 157 (upd (m3 157) (60 + 5 * n + 2) (nI v3))) (va_up m4 157 (upd (m4 157) (60 + 5 * n + 3) (nI v4))) := pe4.w.tr (mW.r7 (by omega))
      have x4 := f4.xK x3
      have b4 : mB N T ((i + 1 + 1 + 1 + 1 + 1 + 1) + 1 + 1) cd (va_up m4 157 (upd (m4 157) (60 + 5 * n + 3) (nI v4))) := mB.w pv4 (Or.inr rfl)
      obtain ⟨m5, p5, pe5, pv5⟩ := md5 cd _ x4 b4
      refine ⟨va_up m5 157 (upd (m5 157) (60 + 5 * n + 4) (-1)), fun c0 => ?_, ((((f1).tr f2).tr f3).tr f4).tr (pe5.w.tr (mW.r7 (by omega))), ?_⟩
      · simp (disch := first | assumption | omega | decide | (simp only [ma_wd0, ma_wdi, ma_wdr, ma_wdl, ma_wdn] <;> omega)) only [↓reduceIte, evK, evL, evS, evA, evJ, Option.bind_some, Option.toList, List.cons_append, List.nil_append, nI_add, pk_mul, bI0, ite_not, ev_rbb, up_n, up_s, up_u, pk_us, pk_un, Nat.reduceAdd, nI_ltT, nI_ltF, nI_leT, nI_leF, nI_eqT, nI_eqF, en_MO_readWant, bk_MO_readWant, gfC, gfM, ev_r0, ev_r1, eq_self, n_m1e, true_and, and_true, false_and, and_false, and_self, not_true_eq_false, not_false_eq_true, hq, p1, n1, p2, n2, p3, n3, p4, n4, p5, ce_MO_readTold, vV, stM, ldM]
      · rw [fld7]; exact pv5
  | inl v5 =>
  have n5 := vV_n ok5.2.2.1
  refine ⟨.inl (i + 1 + 1 + 1 + 1 + 1 + 1 + 1 + 1 + 1 + 1, v1, v2, v3, v4, v5), ⟨by omega, ok5.2.2.2, nI_lq ok1.2.2.1 hQ ok1.2.1, nI_le' (by have := ok2.2.2.1; omega) (by omega) ok2.2.1, nI_le' (by have := ok3.2.2.1; omega) (by have := ok4.2.2.1; omega) ok4.1, nI_le' (by have := ok4.2.2.1; omega) (by omega) ok4.2.1, nI_le' (by have := ok5.2.2.1; omega) (by omega) ok5.2.1⟩, fun d c hc h0 h5 => ?_, fun cd m hx hm hq => ?_⟩
  · obtain ⟨c1, q1, qe1, qv1⟩ := cl1 d c hc h0
    have g1 : c1 91 0 = nI n := by rw [qe1.1 91 (by omega) (by omega)]; exact h0
    have k5 : skC i c 1 5 = nI Q := by unfold skC; rw [up_n _ _ _ _ (by omega)]; exact h5
    rcases cl2 c1 qv1.1 g1 with ⟨c2, ta2, hz2, qe2, qv2⟩ | ⟨ca2, ta2, e912, e922, hc2⟩
    · exact absurd hz2 nI_10
    obtain ⟨c2, q2, qe2, qv2⟩ := hc2 d
    have g2 : c2 91 0 = nI n := by rw [qe2.1 91 (by omega) (by omega)]; exact g1
    rcases cl3 c2 qv2.1 g2 with ⟨c3, ta3, hz3, qe3, qv3⟩ | ⟨ca3, ta3, e913, e923, hc3⟩
    · exact absurd hz3 nI_10
    obtain ⟨c3, q3, qe3, qv3⟩ := hc3 d
    have g3 : c3 91 0 = nI n := by rw [qe3.1 91 (by omega) (by omega)]; exact g2
    rcases cl4 c3 qv3.1 g3 with ⟨c4, ta4, hz4, qe4, qv4⟩ | ⟨ca4, ta4, e914, e924, hc4⟩
    · exact absurd hz4 nI_10
    obtain ⟨c4, q4, qe4, qv4⟩ := hc4 d
    have r4 : ca4 91 0 = nI n := by rw [e914]; exact g3
    have r5 : ca4 92 (5 * n + 2) = nI v3 := by rw [e924, qv3.2]; exact pk_us
    have r6 := fun d m => t_rcell (sc := sc) (w := w) d n 2 ca4 m (by omega)
    rw [r5] at r6
    have g4 : c4 91 0 = nI n := by rw [qe4.1 91 (by omega) (by omega)]; exact g3
    rcases cl5 c4 qv4.1 g4 with ⟨c5, ta5, hz5, qe5, qv5⟩ | ⟨ca5, ta5, e915, e925, hc5⟩
    · exact absurd hz5 nI_10
    obtain ⟨c5, q5, qe5, qv5⟩ := hc5 d
    have g5 : c5 91 0 = nI n := by rw [qe5.1 91 (by omega) (by omega)]; exact g4
    refine ⟨c5, fun m1 => ?_, ((((qe1).tr qe2).tr qe3).tr qe4).tr qe5, qv5.1, ?_⟩
    · simp (disch := first | assumption | omega | decide | (simp only [ma_wd0, ma_wdi, ma_wdr, ma_wdl, ma_wdn] <;> omega)) only [↓reduceIte, evK, evL, evS, evA, evJ, Option.bind_some, Option.toList, List.cons_append, List.nil_append, nI_add, pk_mul, bI0, ite_not, ev_rbb, up_n, up_s, up_u, pk_us, pk_un, Nat.reduceAdd, nI_ltT, nI_ltF, nI_leT, nI_leF, nI_eqT, nI_eqF, en_Reader_readWant, bk_Reader_readWant, gfC, gfM, ev_r0, ev_r1, eq_self, n_m1e, true_and, and_true, false_and, and_false, and_self, not_true_eq_false, not_false_eq_true, k5, q1, ta2, q2, ta3, q3, r4, ce_Rows_cell, r6, ta4, q4, ta5, q5, ce_Reader_readCell, vB, ce_Tokens_take]
    · rw [qv5.2, qv4.2, qv3.2, qv2.2, qv1.2]; rfl
  · obtain ⟨m1, p1, pe1, pv1⟩ := md1 cd m hx hm
    have f1 : mW m (va_up m1 157 (upd (m1 157) (60 + 5 * n) (nI v1))) := pe1.w.tr (mW.r7 (by omega))
    have x1 := f1.xK hx
    have b1 : mB N T (i + 1 + 1) cd (va_up m1 157 (upd (m1 157) (60 + 5 * n) (nI v1))) := mB.w pv1 (Or.inr rfl)
    obtain ⟨m2, p2, pe2, pv2⟩ := md2 cd _ x1 b1
    have f2 : mW (va_up m1 157 (upd (m1 157) (60 + 5 * n) (nI v1))) (va_up m2 157 (upd (m2 157) (60 + 5 * n + 1) (nI v2))) := pe2.w.tr (mW.r7 (by omega))
    have x2 := f2.xK x1
    have b2 : mB N T ((i + 1 + 1) + 1 + 1) cd (va_up m2 157 (upd (m2 157) (60 + 5 * n + 1) (nI v2))) := mB.w pv2 (Or.inr rfl)
    obtain ⟨m3, p3, pe3, pv3⟩ := md3 cd _ x2 b2
    have f3 : mW (va_up m2 157 (upd (m2 157) (60 + 5 * n + 1) (nI v2))) (va_up m3 157 (upd (m3 157) (60 + 5 * n + 2) (nI v3))) := pe3.w.tr (mW.r7 (by omega))
    have x3 := f3.xK x2
    have b3 : mB N T ((i + 1 + 1 + 1 + 1) + 1 + 1) cd (va_up m3 157 (upd (m3 157) (60 + 5 * n + 2) (nI v3))) := mB.w pv3 (Or.inr rfl)
    obtain ⟨m4, p4, pe4, pv4⟩ := md4 cd _ x3 b3
    have f4 : mW (va_up m3 157 (upd (m3 157) (60 + 5 * n + 2) (nI v3))) (va_up m4 157 (upd (m4 157) (60 + 5 * n + 3) (nI v4))) := pe4.w.tr (mW.r7 (by omega))
    have x4 := f4.xK x3
    have b4 : mB N T ((i + 1 + 1 + 1 + 1 + 1 + 1) + 1 + 1) cd (va_up m4 157 (upd (m4 157) (60 + 5 * n + 3) (nI v4))) := mB.w pv4 (Or.inr rfl)
    obtain ⟨m5, p5, pe5, pv5⟩ := md5 cd _ x4 b4
    have f5 : mW (va_up m4 157 (upd (m4 157) (60 + 5 * n + 3) (nI v4))) (va_up m5 157 (upd (m5 157) (60 + 5 * n + 4) (nI v5))) := pe5.w.tr (mW.r7 (by omega))
    have x5 := f5.xK x4
    have b5 : mB N T ((i + 1 + 1 + 1 + 1 + 1 + 1 + 1 + 1) + 1 + 1) cd (va_up m5 157 (upd (m5 157) (60 + 5 * n + 4) (nI v5))) := mB.w pv5 (Or.inr rfl)
    refine ⟨_, fun c0 v m' hv => ?_, ((((f1).tr f2).tr f3).tr f4).tr f5, b5, ?_⟩
    · simp (disch := first | assumption | omega | decide | (simp only [ma_wd0, ma_wdi, ma_wdr, ma_wdl, ma_wdn] <;> omega)) only [↓reduceIte, evK, evL, evS, evA, evJ, Option.bind_some, Option.toList, List.cons_append, List.nil_append, nI_add, pk_mul, bI0, ite_not, ev_rbb, up_n, up_s, up_u, pk_us, pk_un, Nat.reduceAdd, nI_ltT, nI_ltF, nI_leT, nI_leF, nI_eqT, nI_eqF, en_MO_readWant, bk_MO_readWant, gfC, gfM, ev_r0, ev_r1, eq_self, n_m1e, true_and, and_true, false_and, and_false, and_self, not_true_eq_false, not_false_eq_true, hq, p1, n1, p2, n2, p3, n3, p4, n4, p5, n5, ce_MO_readTold, vV, stM, ldM, ce_MO_readMark, hv]
    · rw [row157, pe5.1 157 (by omega), row157, pe4.1 157 (by omega), row157, pe3.1 157 (by omega), row157, pe2.1 157 (by omega), row157, pe1.1 157 (by omega)]; rfl
end WN
