/-! ===== text: rows: a word, a number ===== -/
def cB (N : Nat) (T : Nat → Nat → Nat) (i : Nat) (c : Nat → Nat → Int32) : Prop := tkC N T c ∧ c 79 6 = nI i ∧ i < N ∧ c 79 7 = nI 0 ∧ c 79 8 = -1
def cE (c c' : Nat → Nat → Int32) : Prop := (∀ k, k ≠ 79 → k ≠ 92 → c' k = c k) ∧ ∀ j, j ≠ 6 → j ≠ 7 → j ≠ 8 → c' 79 j = c 79 j
def cY (f p : Nat) (c : Nat → Nat → Int32) : Prop := c 79 7 = nI f ∧ c 79 8 = nI p
theorem cE.rf {a : Nat → Nat → Int32} : cE a a := ⟨fun _ _ _ => rfl, fun _ _ _ _ => rfl⟩
theorem cE.tr {a b c : Nat → Nat → Int32} (h : cE a b) (g : cE b c) : cE a c := ⟨fun k x y => (g.1 k x y).trans (h.1 k x y), fun j x y z => (g.2 j x y z).trans (h.2 j x y z)⟩
def mE' (m m' : Nat → Nat → Int32) : Prop := (∀ k, k ≠ 138 → m' k = m k) ∧ ∀ j, j ∉ [17, 18, 19, 20, 34, 35] → m' 138 j = m 138 j
theorem mE'.rf {a : Nat → Nat → Int32} : mE' a a := ⟨fun _ _ => rfl, fun _ _ => rfl⟩
theorem mE'.tr {a b c : Nat → Nat → Int32} (h : mE' a b) (g : mE' b c) : mE' a c := ⟨fun k x => (g.1 k x).trans (h.1 k x), fun j x => (g.2 j x).trans (h.2 j x)⟩
theorem mE'.xK {m0 m m' : Nat → Nat → Int32} (h : mE' m m') (g : xK m0 m) : xK m0 m' := ⟨(h.2 16 (by decide)).trans g.1, (h.1 146 (by omega)).trans g.2.1, (h.1 147 (by omega)).trans g.2.2⟩
theorem rd_E {m m' : Nat → Nat → Int32} (h1 : ∀ k, k ≠ 138 → m' k = m k) (h2 : ∀ j, j ∉ [17, 18, 19, 20] → m' 138 j = m 138 j) : mE' m m' := ⟨h1, fun j hj => h2 j (fun z => hj (by simp only [List.mem_cons, List.not_mem_nil, or_false] at z ⊢; omega))⟩
theorem erM_E {T : Nat → Nat → Nat} {i : Nat} {m : Nat → Nat → Int32} (f : Nat) : mE' m (erM T i f m) := ⟨fun k a => up_n _ _ _ _ a, fun j a => by
  simp only [List.mem_cons, List.not_mem_nil, or_false, not_or] at a
  unfold erM; rw [up_s, pk_un (by omega), pk_un (by omega)]⟩
theorem skC_E {i : Nat} {c : Nat → Nat → Int32} : cE c (skC i c) := ⟨fun k a _ => up_n _ _ _ _ a, fun j a _ _ => by unfold skC; rw [up_s, pk_un a]⟩
theorem flC_E {T : Nat → Nat → Nat} {i : Nat} {c : Nat → Nat → Int32} (f : Nat) : cE c (flC T i f c) := ⟨fun k a _ => up_n _ _ _ _ a, fun j _ a b => by unfold flC; rw [up_s, pk_un b, pk_un a]⟩
theorem flC_Y {T : Nat → Nat → Nat} {i : Nat} {c : Nat → Nat → Int32} (f : Nat) : cY f (T 1 i) (flC T i f c) := by
  unfold cY flC
  exact ⟨by rw [up_s, pk_un (by omega), pk_us], by rw [up_s, pk_us]⟩
theorem cE.tk {N : Nat} {T : Nat → Nat → Nat} {c c' : Nat → Nat → Int32} (h : cE c c') (t : tkC N T c) : tkC N T c' := by
  unfold tkC at *
  rw [h.2 5 (by omega) (by omega) (by omega), h.1 81 (by omega) (by omega), h.1 82 (by omega) (by omega), h.1 83 (by omega) (by omega)]
  exact t
theorem cB.sk {N : Nat} {T : Nat → Nat → Nat} {i : Nat} {c : Nat → Nat → Int32} (h : cB N T i c) (hi : i + 1 < N) : cB N T (i + 1) (skC i c) := by
  obtain ⟨h1, h2, h3, h4, h5⟩ := h
  refine ⟨skC_E.tk h1, ?_, hi, ?_, ?_⟩
  · unfold skC; rw [up_s, pk_us]
  · unfold skC; rw [up_s, pk_un (by omega)]; exact h4
  · unfold skC; rw [up_s, pk_un (by omega)]; exact h5
def pcC (n k : Nat) (v : Int32) (c : Nat → Nat → Int32) : Nat → Nat → Int32 := va_up c 92 (upd (c 92) (5 * n + k) v)
theorem pcC_E {n k : Nat} {v : Int32} {c : Nat → Nat → Int32} : cE c (pcC n k v c) := ⟨fun j _ a => up_n _ _ _ _ a, fun j _ _ _ => by unfold pcC; rw [up_n _ _ _ _ (by omega)]⟩
theorem cB.pc {N : Nat} {T : Nat → Nat → Nat} {i n k : Nat} {v : Int32} {c : Nat → Nat → Int32} (h : cB N T i c) : cB N T i (pcC n k v c) := by
  obtain ⟨h1, h2, h3, h4, h5⟩ := h
  refine ⟨pcC_E.tk h1, ?_, h3, ?_, ?_⟩ <;> (unfold pcC; rw [up_n _ _ _ _ (by omega)]; assumption)
abbrev vR : Type := Nat ⊕ (Nat × Nat)
def vB : vR → Int32
  | .inl _ => nI 1
  | .inr _ => nI 0
def vV : vR → Int32
  | .inl v => nI v
  | .inr _ => -1
section RW
variable {sc : Nat × (Nat → Int32)} {m0 : Nat → Nat → Int32} {w : Nat → Int64} {N : Nat} {T : Nat → Nat → Nat}
theorem t_rput (d n k : Nat) (v : Int32) (c m : Nat → Nat → Int32) (h : c 91 0 = nI n) (hk : 5 * n + k < 80) : cc sc (d + 1) 88 [.ref 91, .int (nI k), .int v] (hp c w m) = some (none, hp (pcC n k v c) w m) := by
  have e1 : n * 5 + k = 5 * n + k := by omega
  have e2 : nI 80 - nI 1 = nI 79 := by decide +kernel
  unfold pcC
  simp (disch := first | assumption | omega | decide | (simp only [ma_wd0, ma_wdi, ma_wdr, ma_wdl, ma_wdn] <;> omega)) only [↓reduceIte, evK, evL, evS, evA, evJ, Option.bind_some, Option.toList, List.cons_append, List.nil_append, nI_add, pk_mul, bI0, ite_not, ev_rbb, up_n, up_s, up_u, pk_us, pk_un, Nat.reduceAdd, nI_ltT, nI_ltF, nI_leT, nI_leF, nI_eqT, nI_eqF, en_Rows_put, bk_Rows_put, gfC, gfM, ev_r0, ev_r1, eq_self, n_m1e, true_and, and_true, false_and, and_false, and_self, not_true_eq_false, not_false_eq_true, h, alC, e1, e2, ce_LH_within, t_LH_within, stC]
theorem t_rcell (d n k : Nat) (c m : Nat → Nat → Int32) (hk : 5 * n + k < 80) : cc sc (d + 1) 87 [.ref 91, .int (nI n), .int (nI k)] (hp c w m) = some (some (.int (c 92 (5 * n + k))), hp c w m) := by
  have e1 : n * 5 + k = 5 * n + k := by omega
  have e2 : nI 80 - nI 1 = nI 79 := by decide +kernel
  simp (disch := first | assumption | omega | decide | (simp only [ma_wd0, ma_wdi, ma_wdr, ma_wdl, ma_wdn] <;> omega)) only [↓reduceIte, evK, evL, evS, evA, evJ, Option.bind_some, Option.toList, List.cons_append, List.nil_append, nI_add, pk_mul, bI0, ite_not, ev_rbb, up_n, up_s, up_u, pk_us, pk_un, Nat.reduceAdd, nI_ltT, nI_ltF, nI_leT, nI_leF, nI_eqT, nI_eqF, en_Rows_cell, bk_Rows_cell, gfC, gfM, ev_r0, ev_r1, eq_self, n_m1e, true_and, and_true, false_and, and_false, and_self, not_true_eq_false, not_false_eq_true, alC, e1, e2, ce_LH_within, t_LH_within, ldC]
def vC (N : Nat) (T : Nat → Nat → Nat) (i n k : Nat) (c : Nat → Nat → Int32) (r : vR) (c' : Nat → Nat → Int32) : Prop := match r with
  | .inl v => cB N T i c' ∧ c' 92 = upd (c 92) (5 * n + k) (nI v)
  | .inr (f, p) => cY f p c'
def vM (N : Nat) (T : Nat → Nat → Nat) (i : Nat) (cd : List (Nat × Nat)) (r : vR) (m' : Nat → Nat → Int32) : Prop := match r with
  | .inl _ => mB N T i cd m'
  | .inr (f, p) => m' 138 34 = nI f ∧ m' 138 35 = nI p
def vOK (N : Nat) (i : Nat) (lo hi : Int32) (r : vR) : Prop := match r with
  | .inl v => lo ≤ nI v ∧ nI v ≤ hi ∧ v < 10000 ∧ i < N
  | .inr (f, p) => 1 ≤ f ∧ f ≤ 3 ∧ p ≤ 400
theorem vV_n {v : Nat} (h : v < 10000) : (nI v = (-1 : Int32)) = False := eq_false (fun z => by
  have := congrArg Int32.toInt z
  rw [nI_toInt (by omega)] at this
  have e : (-1 : Int32).toInt = -1 := by decide +kernel
  omega)
theorem j_cell (d' i n k : Nat) (lo hi : Int32) (hT : tOK N T) (hR : rdS sc w N T m0) (h : i < N) (hk : 5 * n + k < 80) : ∃ r : vR, vOK N (i + 1) lo hi r ∧
    (∀ d c, cB N T i c → c 91 0 = nI n → ∃ c', (∀ m1, cc sc (d + 2) 83 [.ref 84, .int (nI k), .int lo, .int hi] (hp c w m1) = some (some (.int (vB r)), hp c' w m1)) ∧ cE c c' ∧ vC N T (i + 1) n k c r c') ∧
    (∀ cd m, xK m0 m → mB N T i cd m → ∃ m', (∀ c0, cc sc (d' + 4) 189 [.ref 138, .int lo, .int hi] (hp c0 w m) = some (some (.int (vV r)), hp c0 w m')) ∧ mE' m m' ∧ vM N T (i + 1) cd r m') := by
  have hN := hT.2.1
  obtain ⟨k0, k1, k2, k3, k4⟩ := hT.2.2 i h
  by_cases z : T 0 i = 1
  · have hn := hT.nx h (by omega)
    by_cases y : lo ≤ nI (T 2 i) ∧ nI (T 2 i) ≤ hi
    · refine ⟨.inl (T 2 i), ⟨y.1, y.2, k3, hn⟩, fun d c hc h0 => ?_, fun cd m hx hm => ?_⟩
      · have hc1 : cB N T i (pcC n k (nI (T 2 i)) c) := hc.pc
        have a1 := fun d m => t_now (sc := sc) (w := w) (m := m) d hT hc.1 hc.2.1 h
        have a2 := fun d m => t_amount (sc := sc) (w := w) (m := m) d hT hc.1 hc.2.1 h
        have a3 := fun d m => t_rput (sc := sc) (w := w) d n k (nI (T 2 i)) c m h0 hk
        have a4 := fun d m => t_skip (sc := sc) (w := w) (m := m) d hc1.2.1
        rw [z] at a1
        refine ⟨_, fun m1 => ?_, pcC_E.tr skC_E, hc1.sk hn, ?_⟩
        · simp (disch := first | assumption | omega | decide | (simp only [ma_wd0, ma_wdi, ma_wdr, ma_wdl, ma_wdn] <;> omega)) only [↓reduceIte, evK, evL, evS, evA, evJ, Option.bind_some, Option.toList, List.cons_append, List.nil_append, nI_add, pk_mul, bI0, ite_not, ev_rbb, up_n, up_s, up_u, pk_us, pk_un, Nat.reduceAdd, nI_ltT, nI_ltF, nI_leT, nI_leF, nI_eqT, nI_eqF, en_Reader_readCell, bk_Reader_readCell, gfC, gfM, ev_r0, ev_r1, eq_self, n_m1e, true_and, and_true, false_and, and_false, and_self, not_true_eq_false, not_false_eq_true, ce_Tokens_now, a1, ce_Tokens_amount, a2, ce_LH_within, t_LH_within, y, ce_Rows_put, a3, ce_Tokens_skip, a4, vB]
        · unfold skC pcC; rw [up_n _ _ _ _ (by omega), up_s]
      · obtain ⟨m2, r1, r2, r3, r4⟩ := hR d' i _ _ hx hm hn
        have e19 : m 138 19 = nI 3 := by rw [hm.1.num]; exact z
        have e20 := hm.1.vN z
        refine ⟨m2, fun c0 => ?_, rd_E r2 r3, r4⟩
        simp (disch := first | assumption | omega | decide | (simp only [ma_wd0, ma_wdi, ma_wdr, ma_wdl, ma_wdn] <;> omega)) only [↓reduceIte, evK, evL, evS, evA, evJ, Option.bind_some, Option.toList, List.cons_append, List.nil_append, nI_add, pk_mul, bI0, ite_not, ev_rbb, up_n, up_s, up_u, pk_us, pk_un, Nat.reduceAdd, nI_ltT, nI_ltF, nI_leT, nI_leF, nI_eqT, nI_eqF, en_MO_readNumber, bk_MO_readNumber, gfC, gfM, ev_r0, ev_r1, eq_self, n_m1e, true_and, and_true, false_and, and_false, and_self, not_true_eq_false, not_false_eq_true, e19, e20, ce_MO_isIn, t_MO_isIn, y, ce_MO_reads, r1, vV]
    · refine ⟨.inr (2, T 1 i), ⟨by omega, by omega, k2⟩, fun d c hc h0 => ?_, fun cd m hx hm => ?_⟩
      · have a1 := fun d m => t_now (sc := sc) (w := w) (m := m) d hT hc.1 hc.2.1 h
        have a2 := fun d m => t_amount (sc := sc) (w := w) (m := m) d hT hc.1 hc.2.1 h
        have a3 := fun d m => t_fail (sc := sc) (w := w) (m := m) d 2 hT hc.1 hc.2.1 h
        rw [z] at a1
        refine ⟨_, fun m1 => ?_, flC_E (T := T) (i := i) 2, flC_Y 2⟩
        simp (disch := first | assumption | omega | decide | (simp only [ma_wd0, ma_wdi, ma_wdr, ma_wdl, ma_wdn] <;> omega)) only [↓reduceIte, evK, evL, evS, evA, evJ, Option.bind_some, Option.toList, List.cons_append, List.nil_append, nI_add, pk_mul, bI0, ite_not, ev_rbb, up_n, up_s, up_u, pk_us, pk_un, Nat.reduceAdd, nI_ltT, nI_ltF, nI_leT, nI_leF, nI_eqT, nI_eqF, en_Reader_readCell, bk_Reader_readCell, gfC, gfM, ev_r0, ev_r1, eq_self, n_m1e, true_and, and_true, false_and, and_false, and_self, not_true_eq_false, not_false_eq_true, ce_Tokens_now, a1, ce_Tokens_amount, a2, ce_LH_within, t_LH_within, y, ce_Tokens_fail, a3, vB]
      · have e19 : m 138 19 = nI 3 := by rw [hm.1.num]; exact z
        have e20 := hm.1.vN z
        have a2 := fun d c => t_errs (sc := sc) (w := w) (c := c) d 2 hm
        have eo := erM_o (N := N) (T := T) (acc := []) (m := m) (i := i) 2
        refine ⟨erM T i 2 m, fun c0 => ?_, erM_E 2, eo⟩
        simp (disch := first | assumption | omega | decide | (simp only [ma_wd0, ma_wdi, ma_wdr, ma_wdl, ma_wdn] <;> omega)) only [↓reduceIte, evK, evL, evS, evA, evJ, Option.bind_some, Option.toList, List.cons_append, List.nil_append, nI_add, pk_mul, bI0, ite_not, ev_rbb, up_n, up_s, up_u, pk_us, pk_un, Nat.reduceAdd, nI_ltT, nI_ltF, nI_leT, nI_leF, nI_eqT, nI_eqF, en_MO_readNumber, bk_MO_readNumber, gfC, gfM, ev_r0, ev_r1, eq_self, n_m1e, true_and, and_true, false_and, and_false, and_self, not_true_eq_false, not_false_eq_true, e19, e20, ce_MO_isIn, t_MO_isIn, y, ce_MO_errs, a2, vV]
  · refine ⟨.inr (1, T 1 i), ⟨by omega, by omega, k2⟩, fun d c hc h0 => ?_, fun cd m hx hm => ?_⟩
    · have a1 := fun d m => t_now (sc := sc) (w := w) (m := m) d hT hc.1 hc.2.1 h
      have a3 := fun d m => t_fail (sc := sc) (w := w) (m := m) d 1 hT hc.1 hc.2.1 h
      refine ⟨_, fun m1 => ?_, flC_E (T := T) (i := i) 1, flC_Y 1⟩
      simp (disch := first | assumption | omega | decide | (simp only [ma_wd0, ma_wdi, ma_wdr, ma_wdl, ma_wdn] <;> omega)) only [↓reduceIte, evK, evL, evS, evA, evJ, Option.bind_some, Option.toList, List.cons_append, List.nil_append, nI_add, pk_mul, bI0, ite_not, ev_rbb, up_n, up_s, up_u, pk_us, pk_un, Nat.reduceAdd, nI_ltT, nI_ltF, nI_leT, nI_leF, nI_eqT, nI_eqF, en_Reader_readCell, bk_Reader_readCell, gfC, gfM, ev_r0, ev_r1, eq_self, n_m1e, true_and, and_true, false_and, and_false, and_self, not_true_eq_false, not_false_eq_true, ce_Tokens_now, a1, ce_Tokens_fail, a3, vB]
    · have e3 : (m 138 19 = nI 3) = False := by rw [hm.1.num]; exact eq_false z
      have a2 := fun d c => t_errs (sc := sc) (w := w) (c := c) d 1 hm
      have eo := erM_o (N := N) (T := T) (acc := []) (m := m) (i := i) 1
      refine ⟨erM T i 1 m, fun c0 => ?_, erM_E 1, eo⟩
      simp (disch := first | assumption | omega | decide | (simp only [ma_wd0, ma_wdi, ma_wdr, ma_wdl, ma_wdn] <;> omega)) only [↓reduceIte, evK, evL, evS, evA, evJ, Option.bind_some, Option.toList, List.cons_append, List.nil_append, nI_add, pk_mul, bI0, ite_not, ev_rbb, up_n, up_s, up_u, pk_us, pk_un, Nat.reduceAdd, nI_ltT, nI_ltF, nI_leT, nI_leF, nI_eqT, nI_eqF, en_MO_readNumber, bk_MO_readNumber, gfC, gfM, ev_r0, ev_r1, eq_self, n_m1e, true_and, and_true, false_and, and_false, and_self, not_true_eq_false, not_false_eq_true, e3, ce_MO_errs, a2, vV]
/-- a token is taken -/
theorem t_take' (d i k : Nat) (c : Nat → Nat → Int32) (hT : tOK N T) (hc : cB N T i c) (hk : k < 281) : (T 0 i = k → ∀ m, cc sc (d + 1) 134 [.ref 79, .int (nI k)] (hp c w m) = some (some (.int (nI 1)), hp (skC i c) w m)) ∧ (T 0 i ≠ k → ∀ m, cc sc (d + 1) 134 [.ref 79, .int (nI k)] (hp c w m) = some (some (.int (nI 0)), hp (flC T i 1 c) w m)) := by
  have a := fun m => t_take (sc := sc) (w := w) (m := m) d k hT hc.1 hc.2.1 hc.2.2.1 hk
  exact ⟨fun z m => by rw [a m, if_pos z], fun z m => by rw [a m, if_neg z]⟩
/-- a word and a number behind it -/
theorem j_told (d' i K x n k : Nat) (lo hi : Int32) (hT : tOK N T) (hR : rdS sc w N T m0) (h : i < N) (hk : 5 * n + k < 80) (hK : 256 ≤ K) (hK2 : K < 281) (hx : tkp K = x) : ∃ r : vR, vOK N (i + 1 + 1) lo hi r ∧
    (∀ c, cB N T i c → c 91 0 = nI n → (∃ c', (∀ d m1, cc sc (d + 1) 134 [.ref 79, .int (nI K)] (hp c w m1) = some (some (.int (nI 0)), hp c' w m1)) ∧ vB r = nI 0 ∧ cE c c' ∧ vC N T (i + 1 + 1) n k c r c') ∨
      (∃ c1, (∀ d m1, cc sc (d + 1) 134 [.ref 79, .int (nI K)] (hp c w m1) = some (some (.int (nI 1)), hp c1 w m1)) ∧ c1 91 = c 91 ∧ c1 92 = c 92 ∧ ∀ d, ∃ c', (∀ m1, cc sc (d + 2) 83 [.ref 84, .int (nI k), .int lo, .int hi] (hp c1 w m1) = some (some (.int (vB r)), hp c' w m1)) ∧ cE c c' ∧ vC N T (i + 1 + 1) n k c r c')) ∧
    (∀ cd m, xK m0 m → mB N T i cd m → ∃ m', (∀ c0, cc sc (d' + 5) 188 [.ref 138, .int (nI x), .int lo, .int hi] (hp c0 w m) = some (some (.int (vV r)), hp c0 w m')) ∧ mE' m m' ∧ vM N T (i + 1 + 1) cd r m') := by
  have hN := hT.2.1
  obtain ⟨k0, k1, k2, k3, k4⟩ := hT.2.2 i h
  by_cases z : T 0 i = K
  · have hn := hT.nx h (by omega)
    obtain ⟨r, r1, r2, r3⟩ := j_cell (sc := sc) (w := w) (m0 := m0) d' (i + 1) n k lo hi hT hR hn hk
    refine ⟨r, r1, fun c hc h0 => Or.inr ⟨skC i c, fun d m1 => (t_take' d i K c hT hc hK2).1 z m1, ?_, ?_, fun d => ?_⟩, fun cd m hx' hm => ?_⟩
    · unfold skC; rw [up_n _ _ _ _ (by omega)]
    · unfold skC; rw [up_n _ _ _ _ (by omega)]
    · obtain ⟨c', q1, q2, q3⟩ := r2 d (skC i c) (hc.sk hn) (by unfold skC; rw [up_n _ _ _ _ (by omega)]; exact h0)
      refine ⟨c', q1, skC_E.tr q2, ?_⟩
      have e92 : skC i c 92 = c 92 := by unfold skC; rw [up_n _ _ _ _ (by omega)]
      cases r with
      | inl v => exact ⟨q3.1, by rw [q3.2, e92]⟩
      | inr y => exact q3
    · obtain ⟨m2, s1, s2, s3, s4⟩ := hR (d' + 1) i _ _ hx' hm hn
      obtain ⟨m3, q1, q2, q3⟩ := r3 cd m2 ((rd_E s2 s3).xK hx') s4
      have a1 := fun d c => t_isWord (sc := sc) (w := w) (c := c) d K x hm hK hK2 hx
      rw [bI_t z] at a1
      refine ⟨m3, fun c0 => ?_, (rd_E s2 s3).tr q2, q3⟩
      simp (disch := first | assumption | omega | decide | (simp only [ma_wd0, ma_wdi, ma_wdr, ma_wdl, ma_wdn] <;> omega)) only [↓reduceIte, evK, evL, evS, evA, evJ, Option.bind_some, Option.toList, List.cons_append, List.nil_append, nI_add, pk_mul, bI0, ite_not, ev_rbb, up_n, up_s, up_u, pk_us, pk_un, Nat.reduceAdd, nI_ltT, nI_ltF, nI_leT, nI_leF, nI_eqT, nI_eqF, en_MO_readTold, bk_MO_readTold, gfC, gfM, ev_r0, ev_r1, eq_self, n_m1e, true_and, and_true, false_and, and_false, and_self, not_true_eq_false, not_false_eq_true, ce_MO_isWord, a1, ce_MO_reads, s1, ce_MO_readNumber, q1]
  · refine ⟨.inr (1, T 1 i), ⟨by omega, by omega, k2⟩, fun c hc h0 => Or.inl ⟨flC T i 1 c, fun d m1 => (t_take' d i K c hT hc hK2).2 z m1, rfl, flC_E 1, flC_Y 1⟩, fun cd m hx' hm => ?_⟩
    have a1 := fun d c => t_isWord (sc := sc) (w := w) (c := c) d K x hm hK hK2 hx
    rw [bI_f z] at a1
    have a2 := fun d c => t_errs (sc := sc) (w := w) (c := c) d 1 hm
    have eo := erM_o (N := N) (T := T) (acc := []) (m := m) (i := i) 1
    refine ⟨erM T i 1 m, fun c0 => ?_, erM_E 1, eo⟩
    simp (disch := first | assumption | omega | decide | (simp only [ma_wd0, ma_wdi, ma_wdr, ma_wdl, ma_wdn] <;> omega)) only [↓reduceIte, evK, evL, evS, evA, evJ, Option.bind_some, Option.toList, List.cons_append, List.nil_append, nI_add, pk_mul, bI0, ite_not, ev_rbb, up_n, up_s, up_u, pk_us, pk_un, Nat.reduceAdd, nI_ltT, nI_ltF, nI_leT, nI_leF, nI_eqT, nI_eqF, en_MO_readTold, bk_MO_readTold, gfC, gfM, ev_r0, ev_r1, eq_self, n_m1e, true_and, and_true, false_and, and_false, and_self, not_true_eq_false, not_false_eq_true, ce_MO_isWord, a1, ce_MO_errs, a2, vV]
/-- the sign at a line's end, in the reference -/
theorem t_mark (d' i : Nat) (cd : List (Nat × Nat)) (m : Nat → Nat → Int32) (hR : rdS sc w N T m0) (hx : xK m0 m) (hm : mB N T i cd m) (hn : T 0 i = 59 → i + 1 < N) : ∃ m', (∀ c0, cc sc (d' + 4) 190 [.ref 138, .int (nI 59)] (hp c0 w m) = some (some (.int (if T 0 i = 59 then nI 0 else -1)), hp c0 w m')) ∧ mE' m m' ∧ (T 0 i = 59 → mB N T (i + 1) cd m') ∧ (T 0 i ≠ 59 → m' 138 34 = nI 1 ∧ m' 138 35 = nI (T 1 i)) := by
  have a1 := fun d c => t_isSign (sc := sc) (w := w) (c := c) d 59 hm (by unfold tkS; omega)
  by_cases z : T 0 i = 59
  · obtain ⟨m2, s1, s2, s3, s4⟩ := hR d' i _ _ hx hm (hn z)
    rw [bI_t z] at a1
    refine ⟨m2, fun c0 => ?_, rd_E s2 s3, fun _ => s4, fun y => absurd z y⟩
    rw [if_pos z]
    simp (disch := first | assumption | omega | decide | (simp only [ma_wd0, ma_wdi, ma_wdr, ma_wdl, ma_wdn] <;> omega)) only [↓reduceIte, evK, evL, evS, evA, evJ, Option.bind_some, Option.toList, List.cons_append, List.nil_append, nI_add, pk_mul, bI0, ite_not, ev_rbb, up_n, up_s, up_u, pk_us, pk_un, Nat.reduceAdd, nI_ltT, nI_ltF, nI_leT, nI_leF, nI_eqT, nI_eqF, en_MO_readMark, bk_MO_readMark, gfC, gfM, ev_r0, ev_r1, eq_self, n_m1e, true_and, and_true, false_and, and_false, and_self, not_true_eq_false, not_false_eq_true, ce_MO_isSign, a1, ce_MO_reads, s1]
  · rw [bI_f z] at a1
    have a2 := fun d c => t_errs (sc := sc) (w := w) (c := c) d 1 hm
    have eo := erM_o (N := N) (T := T) (acc := []) (m := m) (i := i) 1
    refine ⟨erM T i 1 m, fun c0 => ?_, erM_E 1, fun y => absurd y z, fun _ => eo⟩
    rw [if_neg z]
    simp (disch := first | assumption | omega | decide | (simp only [ma_wd0, ma_wdi, ma_wdr, ma_wdl, ma_wdn] <;> omega)) only [↓reduceIte, evK, evL, evS, evA, evJ, Option.bind_some, Option.toList, List.cons_append, List.nil_append, nI_add, pk_mul, bI0, ite_not, ev_rbb, up_n, up_s, up_u, pk_us, pk_un, Nat.reduceAdd, nI_ltT, nI_ltF, nI_leT, nI_leF, nI_eqT, nI_eqF, en_MO_readMark, bk_MO_readMark, gfC, gfM, ev_r0, ev_r1, eq_self, n_m1e, true_and, and_true, false_and, and_false, and_self, not_true_eq_false, not_false_eq_true, ce_MO_isSign, a1, ce_MO_errs, a2]
end RW
