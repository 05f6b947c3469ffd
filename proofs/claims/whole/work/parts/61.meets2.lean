/-! ===== meets: class and reference ===== -/
theorem dN_c (a b : Nat) : dN a b = dN b a := by unfold dN; omega
def okN (st : Nat) (h k : Nat → Nat) (a b : Nat) : Bool := decide (dN (h a) (h b) ≤ dN (k a) (k b) * st)
theorem okN_c (st : Nat) (h k : Nat → Nat) (a b : Nat) : okN st h k a b = okN st h k b a := by unfold okN; rw [dN_c (h a), dN_c (k a)]
theorem okN_r (st : Nat) (h k : Nat → Nat) (a : Nat) : okN st h k a a = true := by unfold okN dN; simp
def clN (st : Nat) (h k : Nat → Nat) (n a : Nat) : Nat := if a < n then setN (fun b => !okN st h k a b) n else 0
theorem clN_bit (st : Nat) (h k : Nat → Nat) (n a b : Nat) : (clN st h k n a).testBit b = (decide (a < n) && (decide (b < n) && !okN st h k a b)) := by
  unfold clN
  split
  next z => rw [setN_bit]; simp [z]
  next z => simp [z]
theorem clN_lt (st : Nat) (h k : Nat → Nat) (n a : Nat) (hn : n ≤ 12) : clN st h k n a < 2 ^ 12 := by
  unfold clN
  split
  · exact setN_31 hn (by omega)
  · decide
theorem clN_ir (st : Nat) (h k : Nat → Nat) (n a : Nat) : (clN st h k n a).testBit a = false := by rw [clN_bit, okN_r]; simp
theorem clN_sy (st : Nat) (h k : Nat → Nat) (n a b : Nat) : (clN st h k n a).testBit b = (clN st h k n b).testBit a := by
  rw [clN_bit, clN_bit, okN_c]
  cases decide (a < n) <;> cases decide (b < n) <;> rfl
def wF (n Q W : Nat) (c m : Nat → Nat → Int32) (p h s t y k : Nat → Nat) : Prop := ∀ i, i < n → p i < Q ∧ h i ≤ 40 ∧ s i ≤ t i ∧ t i ≤ 23 ∧ k i < W ∧ c 16 (5 * i) = nI (p i) ∧ m 157 (5 * i) = nI (p i) ∧ c 16 (5 * i + 1) = nI (h i) ∧ m 157 (5 * i + 1) = nI (h i) ∧ c 16 (5 * i + 2) = nI (s i) ∧ m 157 (5 * i + 2) = nI (s i) ∧ c 16 (5 * i + 3) = nI (t i) ∧ m 157 (5 * i + 3) = nI (t i) ∧ c 16 (5 * i + 4) = nI (y i) ∧ m 157 (5 * i + 4) = nI (y i) ∧ c 3 (p i) = nI (k i) ∧ m 143 (p i) = nI (k i)
theorem wF_ex {n Q W : Nat} {c m : Nat → Nat → Int32} (hW : W ≤ 14) (hQ : Q ≤ 6) (hw : ∀ i, i < n → wL Q (c 16) (m 157) i) (hq : ∀ j, j < Q → ∃ k e, k < W ∧ e ≤ 20 ∧ c 3 j = nI k ∧ m 143 j = nI k ∧ c 4 j = nI e ∧ m 144 j = nI e) : ∃ p h s t y k : Nat → Nat, wF n Q W c m p h s t y k ∧ ∀ i, y i ≤ 99 := by
  refine ⟨fun i => nK (c 16 (5 * i)), fun i => nK (c 16 (5 * i + 1)), fun i => nK (c 16 (5 * i + 2)), fun i => nK (c 16 (5 * i + 3)), fun i => if i < n then nK (c 16 (5 * i + 4)) else 0, fun i => nK (c 3 (nK (c 16 (5 * i)))), fun i hi => ?_, fun i => ?_⟩
  · obtain ⟨p, h, s, t, y, a1, a2, a3, a4, a5, b1, b2, b3, b4, b5, b6, b7, b8, b9, b10⟩ := hw i hi
    obtain ⟨k, e, hk, -, k1, k2, -, -⟩ := hq p a1
    simp only
    rw [if_pos hi, b1, b3, b5, b7, b9, nK_nI (by omega), nK_nI (by omega), nK_nI (by omega), nK_nI (by omega), nK_nI (by omega), k1, nK_nI (by omega)]
    exact ⟨a1, a2, a3, a4, hk, rfl, b2, rfl, b4, rfl, b6, rfl, b8, rfl, b10, rfl, k2⟩
  · simp only
    split
    next z =>
      obtain ⟨p, h, s, t, y, a1, a2, a3, a4, a5, b1, b2, b3, b4, b5, b6, b7, b8, b9, b10⟩ := hw i z
      rw [b9, nK_nI (by omega)]
      exact a5
    next => omega
section PR
variable {sc : Nat × (Nat → Int32)} {W S Q n st : Nat} {ls : List lL} {c m Z : Nat → Nat → Int32} {w : Nat → Int64} {p h s t y k : Nat → Nat}
theorem ok_b (hF : wF n Q W c m p h s t y k) (hW : W ≤ 14) (hst : st ≤ 9) {a b : Nat} (ha : a < n) (hb : b < n) : dN (h a) (h b) ≤ 40 ∧ dN (k a) (k b) * st < 2 ^ 31 ∧ st * dN (k a) (k b) = dN (k a) (k b) * st := by
  obtain ⟨-, a2, -, -, a5, -⟩ := hF a ha
  obtain ⟨-, b2, -, -, b5, -⟩ := hF b hb
  have h1 : dN (k a) (k b) ≤ 14 := by unfold dN; omega
  refine ⟨by unfold dN; omega, ?_, Nat.mul_comm _ _⟩
  calc dN (k a) (k b) * st ≤ 14 * 9 := Nat.mul_le_mul h1 hst
    _ < 2 ^ 31 := by decide
theorem t_clashesOf (d a : Nat) (ha : a < n) (hn : n ≤ 12) (hF : wF n Q W c m p h s t y k) (hW : W ≤ 14) (hQ : Q ≤ 6) (hst : st ≤ 9) (h15 : c 15 0 = nI n) (h5 : c 1 5 = nI Q) (h1 : c 1 1 = nI st) (h10 : c 1 0 = nI W) : ∀ m0, cc sc (d + 3) 95 [.ref 103, .int (nI a)] (hp c w m0) = some (some (.int (nI (clN st h k n a))), hp c w m0) := by
  intro m0
  obtain ⟨p1, p2, -, -, p5, p6, -, p8, -, -, -, -, -, -, -, p16, -⟩ := hF a ha
  obtain ⟨x, -, c', -, e1, -, hx, rfl⟩ := sim_loop (w := w) n (fun i (s : Nat × Option Value × Option Value) h => ev sc (d + 3) 95 (pm_blk 95 4) [some (.ref 103), some (.int (nI a)), some (.int (nI s.1)), some (.int (nI i)), s.2.1, s.2.2] [] h)
    (fun i (s : Unit) h => (none : Option (Option Value × List ma_C)))
    (fun i s t c' m' => setN (fun b => !okN st h k a b) i = s.1 ∧ c = c') (by
      rintro i ⟨s1, s2, s3⟩ t' c' m' hi ⟨e, rfl⟩
      simp only at e
      subst e
      obtain ⟨q1, q2, -, -, q5, q6, -, q8, -, -, -, -, -, -, -, q16, -⟩ := hF i hi
      obtain ⟨o1, o2, -⟩ := ok_b hF hW hst ha hi
      have r1 := fun m => t_Rows_cell15 (sc := sc) (c := c) (m := m) (w := w) (d + 1) a 1 (by omega)
      have r2 := fun m => t_Rows_cell15 (sc := sc) (c := c) (m := m) (w := w) (d + 1) i 1 (by omega)
      rw [p8] at r1
      rw [q8] at r2
      have w1 := fun m => t_Told_wantedColumn (sc := sc) (c := c) (m := m) (w := w) d a (p a) (k a) (by omega) p6 h5 p1 hQ p16 p5 hW h10
      have w2 := fun m => t_Told_wantedColumn (sc := sc) (c := c) (m := m) (w := w) d i (p i) (k i) (by omega) q6 h5 q1 hQ q16 q5 hW h10
      have ab1 := ab_n (a := h a) (b := h i) (by omega) (by omega)
      have ab2 := ab_n (a := k a) (b := k i) (by omega) (by omega)
      by_cases z : dN (h a) (h i) ≤ dN (k a) (k i) * st
      · have ho : okN st h k a i = true := decide_eq_true z
        refine ⟨(setN (fun b => !okN st h k a b) (i + 1), some (.int (nI (dN (h a) (h i)))), some (.int (nI (dN (k a) (k i))))), (), c, m', fun m0 => ?_, fun _ => rfl, rfl, rfl⟩
        conv => lhs; rw [bh_Thought_clashesOf_4]
        rw [setN_f (p := fun b => !okN st h k a b) (by simp [ho])]
        simp (disch := first | assumption | omega | decide | (simp only [ma_wd0, ma_wdi, ma_wdr, ma_wdl, ma_wdn] <;> omega)) only [↓reduceIte, evK, evL, evS, evA, evJ, Option.bind_some, Option.toList, List.cons_append, List.nil_append, nI_add, pk_mul, bI0, ite_not, ev_rbb, up_n, up_s, up_u, pk_us, pk_un, Nat.reduceAdd, nI_ltT, nI_ltF, nI_leT, nI_leF, nI_eqT, nI_eqF, bk_Thought_clashesOf, gfC, h15, ce_Rows_cell, r1, r2, ce_Math_abs, t_Math_abs, ab1, ab2, ce_Told_wantedColumn, w1, w2, h1, n_or0]
      · have ho : okN st h k a i = false := decide_eq_false z
        refine ⟨(setN (fun b => !okN st h k a b) (i + 1), some (.int (nI (dN (h a) (h i)))), some (.int (nI (dN (k a) (k i))))), (), c, m', fun m0 => ?_, fun _ => rfl, rfl, rfl⟩
        conv => lhs; rw [bh_Thought_clashesOf_4]
        rw [setN_t (p := fun b => !okN st h k a b) (by simp [ho])]
        simp (disch := first | assumption | omega | decide | (simp only [ma_wd0, ma_wdi, ma_wdr, ma_wdl, ma_wdn] <;> omega)) only [↓reduceIte, evK, evL, evS, evA, evJ, Option.bind_some, Option.toList, List.cons_append, List.nil_append, nI_add, pk_mul, bI0, ite_not, ev_rbb, up_n, up_s, up_u, pk_us, pk_un, Nat.reduceAdd, nI_ltT, nI_ltF, nI_leT, nI_leF, nI_eqT, nI_eqF, bk_Thought_clashesOf, gfC, h15, ce_Rows_cell, r1, r2, ce_Math_abs, t_Math_abs, ab1, ab2, ce_Told_wantedColumn, w1, w2, h1, n_sh, n_or]) n 0 (0, none, none) () c c (by omega) ⟨rfl, rfl⟩
  obtain ⟨x1, x2, x3⟩ := x
  simp only at e1 hx
  subst hx
  rw [show clN st h k n a = setN (fun b => !okN st h k a b) n from if_pos ha]
  simp (disch := first | assumption | omega | decide | (simp only [ma_wd0, ma_wdi, ma_wdr, ma_wdl, ma_wdn] <;> omega)) only [↓reduceIte, evK, evL, evS, evA, evJ, Option.bind_some, Option.toList, List.cons_append, List.nil_append, nI_add, pk_mul, bI0, ite_not, ev_rbb, up_n, up_s, up_u, pk_us, pk_un, Nat.reduceAdd, nI_ltT, nI_ltF, nI_leT, nI_leF, nI_eqT, nI_eqF, en_Thought_clashesOf, e1]
  rw [bh_Thought_clashesOf_4]
  simp (disch := first | assumption | omega | decide | (simp only [ma_wd0, ma_wdi, ma_wdr, ma_wdl, ma_wdn] <;> omega)) only [↓reduceIte, evK, evL, evS, evA, evJ, Option.bind_some, Option.toList, List.cons_append, List.nil_append, nI_add, pk_mul, bI0, ite_not, ev_rbb, up_n, up_s, up_u, pk_us, pk_un, Nat.reduceAdd, nI_ltT, nI_ltF, nI_leT, nI_leF, nI_eqT, nI_eqF, bk_Thought_clashesOf, gfC, h15]
theorem t_MO_canMeet (d a b : Nat) (ha : a < n) (hb : b < n) (hn : n ≤ 12) (hF : wF n Q W c m p h s t y k) (hW : W ≤ 14) (hQ : Q ≤ 6) (hst : st ≤ 9) (h7 : m 138 7 + nI 3 = nI st) : ∀ c0, cc sc (d + 1) 257 [.ref 138, .int (nI a), .int (nI b)] (hp c0 w m) = some (some (.int (bI (okN st h k a b = true))), hp c0 w m) := by
  intro c0
  obtain ⟨p1, p2, -, -, p5, -, p7, -, p9, -, -, -, -, -, -, -, p17⟩ := hF a ha
  obtain ⟨q1, q2, -, -, q5, -, q7, -, q9, -, -, -, -, -, -, -, q17⟩ := hF b hb
  obtain ⟨o1, o2, o3⟩ := ok_b hF hW hst ha hb
  by_cases z : dN (h a) (h b) ≤ dN (k a) (k b) * st
  · have ho : okN st h k a b = true := decide_eq_true z
    simp (disch := first | assumption | omega | decide | (simp only [ma_wd0, ma_wdi, ma_wdr, ma_wdl, ma_wdn] <;> omega)) only [↓reduceIte, evK, evL, evS, evA, evJ, Option.bind_some, Option.toList, List.cons_append, List.nil_append, nI_add, pk_mul, bI0, ite_not, ev_rbb, up_n, up_s, up_u, pk_us, pk_un, Nat.reduceAdd, nI_ltT, nI_ltF, nI_leT, nI_leF, nI_eqT, nI_eqF, en_MO_canMeet, bk_MO_canMeet, gfM, ldM, p7, p9, p17, q7, q9, q17, ce_MO_far, t_MO_far, iFr_n, ce_MO_steep, t_MO_steep, h7, o3, ho, bI_t]
  · have ho : okN st h k a b = false := decide_eq_false z
    simp (disch := first | assumption | omega | decide | (simp only [ma_wd0, ma_wdi, ma_wdr, ma_wdl, ma_wdn] <;> omega)) only [↓reduceIte, evK, evL, evS, evA, evJ, Option.bind_some, Option.toList, List.cons_append, List.nil_append, nI_add, pk_mul, bI0, ite_not, ev_rbb, up_n, up_s, up_u, pk_us, pk_un, Nat.reduceAdd, nI_ltT, nI_ltF, nI_leT, nI_leF, nI_eqT, nI_eqF, en_MO_canMeet, bk_MO_canMeet, gfM, ldM, p7, p9, p17, q7, q9, q17, ce_MO_far, t_MO_far, iFr_n, ce_MO_steep, t_MO_steep, h7, o3, ho, bI_f, Bool.false_eq_true, not_false_eq_true]
theorem t_MO_paidBy (d T : Nat) (hT : T < 2 ^ 12) (hn : n ≤ 12) (hF : wF n Q W c m p h s t y k) (hy : ∀ i, y i ≤ 99) (h40 : m 138 40 = nI n) : ∀ c0, cc sc (d + 1) 259 [.ref 138, .int (nI T)] (hp c0 w m) = some (some (.int (nI (pdN y n T))), hp c0 w m) := by
  intro c0
  have hl := run_loop (fun i h => ev sc (d + 1) 259 (pm_blk 259 4) [some (.ref 138), some (.int (nI T)), some (.int (nI (pdN y i T))), some (.int (nI i))] [] h) (fun i => hp c0 w m) n (by
    intro i hi
    obtain ⟨-, -, -, -, -, -, -, -, -, -, -, -, -, -, q15, -, -⟩ := hF i hi
    conv => lhs; rw [bh_MO_paidBy_4]
    by_cases z : T.testBit i = true
    · rw [show pdN y (i + 1) T = pdN y i T + y i by simp only [pdN]; rw [if_pos z]]
      simp (disch := first | assumption | omega | decide | (simp only [ma_wd0, ma_wdi, ma_wdr, ma_wdl, ma_wdn] <;> omega)) only [↓reduceIte, evK, evL, evS, evA, evJ, Option.bind_some, Option.toList, List.cons_append, List.nil_append, nI_add, pk_mul, bI0, ite_not, ev_rbb, up_n, up_s, up_u, pk_us, pk_un, Nat.reduceAdd, nI_ltT, nI_ltF, nI_leT, nI_leF, nI_eqT, nI_eqF, bk_MO_paidBy, gfM, ldM, h40, ce_MO_has, t_MO_has, n_bit, z, not_true_eq_false, q15]
    · rw [show pdN y (i + 1) T = pdN y i T by simp only [pdN]; rw [if_neg z, Nat.add_zero]]
      simp (disch := first | assumption | omega | decide | (simp only [ma_wd0, ma_wdi, ma_wdr, ma_wdl, ma_wdn] <;> omega)) only [↓reduceIte, evK, evL, evS, evA, evJ, Option.bind_some, Option.toList, List.cons_append, List.nil_append, nI_add, pk_mul, bI0, ite_not, ev_rbb, up_n, up_s, up_u, pk_us, pk_un, Nat.reduceAdd, nI_ltT, nI_ltF, nI_leT, nI_leF, nI_eqT, nI_eqF, bk_MO_paidBy, gfM, ldM, h40, ce_MO_has, t_MO_has, n_bit, z, not_false_eq_true, Bool.false_eq_true])
  rw [show pdN y 0 T = 0 from rfl] at hl
  simp (disch := first | assumption | omega | decide | (simp only [ma_wd0, ma_wdi, ma_wdr, ma_wdl, ma_wdn] <;> omega)) only [↓reduceIte, evK, evL, evS, evA, evJ, Option.bind_some, Option.toList, List.cons_append, List.nil_append, nI_add, pk_mul, bI0, ite_not, ev_rbb, up_n, up_s, up_u, pk_us, pk_un, Nat.reduceAdd, nI_ltT, nI_ltF, nI_leT, nI_leF, nI_eqT, nI_eqF, en_MO_paidBy, hl]
  rw [bh_MO_paidBy_4]
  simp (disch := first | assumption | omega | decide | (simp only [ma_wd0, ma_wdi, ma_wdr, ma_wdl, ma_wdn] <;> omega)) only [↓reduceIte, evK, evL, evS, evA, evJ, Option.bind_some, Option.toList, List.cons_append, List.nil_append, nI_add, pk_mul, bI0, ite_not, ev_rbb, up_n, up_s, up_u, pk_us, pk_un, Nat.reduceAdd, nI_ltT, nI_ltF, nI_leT, nI_leF, nI_eqT, nI_eqF, bk_MO_paidBy, gfM, h40]
def caI (st : Nat) (h k : Nat → Nat) (T a b : Nat) : Bool := !(T.testBit a && T.testBit b && !okN st h k a b)
def caB (st : Nat) (h k : Nat → Nat) (n T : Nat) : Bool := allB (fun a => allB (caI st h k T a) a 0) n 0
theorem caB_iff {T : Nat} (hT : T < 2 ^ n) : caB st h k n T = true ↔ cfN (clN st h k n) T := by
  unfold caB
  simp only [allB_iff]
  have hlt : ∀ a, T.testBit a = true → a < n := fun a ha => by
    rcases Nat.lt_or_ge a n with z | z
    · exact z
    · rw [Nat.testBit_lt_two_pow (Nat.lt_of_lt_of_le hT (Nat.pow_le_pow_right (by decide) z))] at ha
      cases ha
  constructor
  · intro g a b ha hb
    have key : ∀ a b, T.testBit a = true → T.testBit b = true → b < a → okN st h k a b = true := fun a b ha hb hba => by
      have := g a (by have := hlt a ha; omega) (by omega) b (by omega) (by omega)
      unfold caI at this
      rw [ha, hb] at this
      simpa using this
    rw [clN_bit]
    rcases Nat.lt_trichotomy a b with z | z | z
    · rw [okN_c, key b a hb ha z]; simp
    · subst z; rw [okN_r]; simp
    · rw [key a b ha hb z]; simp
  · intro g a h1 h2 b h3 h4
    unfold caI
    cases ea : T.testBit a
    · rfl
    · cases eb : T.testBit b
      · rfl
      · have := g a b ea eb
        rw [clN_bit] at this
        have e1 : decide (a < n) = true := by have := hlt a ea; simp; omega
        have e2 : decide (b < n) = true := by have := hlt b eb; simp; omega
        rw [e1, e2] at this
        simpa using this
theorem t_canAll_in (d T a : Nat) (hT : T < 2 ^ 12) (ha : a < n) (hn : n ≤ 12) (hF : wF n Q W c m p h s t y k) (hW : W ≤ 14) (hQ : Q ≤ 6) (hst : st ≤ 9) (h7 : m 138 7 + nI 3 = nI st) (h40 : m 138 40 = nI n) : ∀ q b, b + q = a → ∀ c0, ev sc (d + 2) 260 (pm_blk 260 12) [some (.ref 138), some (.int (nI T)), some (.int (nI a)), some (.int (nI b))] [] (hp c0 w m) = if allB (caI st h k T a) q b = true then ev sc (d + 2) 260 (pm_blk 260 2) [some (.ref 138), some (.int (nI T)), some (.int (nI (a + 1))), some (.int (nI a))] [] (hp c0 w m) else some (some (.int (nI 0)), hp c0 w m)
  | 0, b, hb => fun c0 => by
    have : b = a := by omega
    subst this
    rw [if_pos (show allB (caI st h k T b) 0 b = true from rfl)]
    conv => lhs; rw [bh_MO_canAllMeet_12]
    simp (disch := first | assumption | omega | decide | (simp only [ma_wd0, ma_wdi, ma_wdr, ma_wdl, ma_wdn] <;> omega)) only [↓reduceIte, evK, evL, evS, evA, evJ, Option.bind_some, Option.toList, List.cons_append, List.nil_append, nI_add, pk_mul, bI0, ite_not, ev_rbb, up_n, up_s, up_u, pk_us, pk_un, Nat.reduceAdd, nI_ltT, nI_ltF, nI_leT, nI_leF, nI_eqT, nI_eqF, bk_MO_canAllMeet]
  | q + 1, b, hb => fun c0 => by
    have ih := t_canAll_in d T a hT ha hn hF hW hQ hst h7 h40 q (b + 1) (by omega) c0
    have cm := t_MO_canMeet (sc := sc) (w := w) d a b ha (by omega) hn hF hW hQ hst h7
    have eA : allB (caI st h k T a) (q + 1) b = (caI st h k T a b && allB (caI st h k T a) q (b + 1)) := rfl
    rw [eA]
    conv => lhs; rw [bh_MO_canAllMeet_12]
    by_cases z1 : T.testBit a = true
    · by_cases z2 : T.testBit b = true
      · by_cases z3 : okN st h k a b = true
        · rw [show caI st h k T a b = true by unfold caI; rw [z1, z2, z3]; rfl, Bool.true_and, ← ih]
          simp (disch := first | assumption | omega | decide | (simp only [ma_wd0, ma_wdi, ma_wdr, ma_wdl, ma_wdn] <;> omega)) only [↓reduceIte, evK, evL, evS, evA, evJ, Option.bind_some, Option.toList, List.cons_append, List.nil_append, nI_add, pk_mul, bI0, ite_not, ev_rbb, up_n, up_s, up_u, pk_us, pk_un, Nat.reduceAdd, nI_ltT, nI_ltF, nI_leT, nI_leF, nI_eqT, nI_eqF, bk_MO_canAllMeet, ce_MO_has, t_MO_has, n_bit, z1, z2, z3, not_true_eq_false, ce_MO_canMeet, cm]
        · have z3' : okN st h k a b = false := by simpa using z3
          rw [show caI st h k T a b = false by unfold caI; rw [z1, z2, z3']; rfl, Bool.false_and]
          simp (disch := first | assumption | omega | decide | (simp only [ma_wd0, ma_wdi, ma_wdr, ma_wdl, ma_wdn] <;> omega)) only [↓reduceIte, evK, evL, evS, evA, evJ, Option.bind_some, Option.toList, List.cons_append, List.nil_append, nI_add, pk_mul, bI0, ite_not, ev_rbb, up_n, up_s, up_u, pk_us, pk_un, Nat.reduceAdd, nI_ltT, nI_ltF, nI_leT, nI_leF, nI_eqT, nI_eqF, bk_MO_canAllMeet, ce_MO_has, t_MO_has, n_bit, z1, z2, z3', not_true_eq_false, not_false_eq_true, Bool.false_eq_true, ce_MO_canMeet, cm]
      · have z2' : T.testBit b = false := by simpa using z2
        rw [show caI st h k T a b = true by unfold caI; rw [z1, z2']; rfl, Bool.true_and, ← ih]
        simp (disch := first | assumption | omega | decide | (simp only [ma_wd0, ma_wdi, ma_wdr, ma_wdl, ma_wdn] <;> omega)) only [↓reduceIte, evK, evL, evS, evA, evJ, Option.bind_some, Option.toList, List.cons_append, List.nil_append, nI_add, pk_mul, bI0, ite_not, ev_rbb, up_n, up_s, up_u, pk_us, pk_un, Nat.reduceAdd, nI_ltT, nI_ltF, nI_leT, nI_leF, nI_eqT, nI_eqF, bk_MO_canAllMeet, ce_MO_has, t_MO_has, n_bit, z1, z2', not_true_eq_false, not_false_eq_true, Bool.false_eq_true]
    · have z1' : T.testBit a = false := by simpa using z1
      rw [show caI st h k T a b = true by unfold caI; rw [z1']; rfl, Bool.true_and, ← ih]
      simp (disch := first | assumption | omega | decide | (simp only [ma_wd0, ma_wdi, ma_wdr, ma_wdl, ma_wdn] <;> omega)) only [↓reduceIte, evK, evL, evS, evA, evJ, Option.bind_some, Option.toList, List.cons_append, List.nil_append, nI_add, pk_mul, bI0, ite_not, ev_rbb, up_n, up_s, up_u, pk_us, pk_un, Nat.reduceAdd, nI_ltT, nI_ltF, nI_leT, nI_leF, nI_eqT, nI_eqF, bk_MO_canAllMeet, ce_MO_has, t_MO_has, n_bit, z1', not_false_eq_true, Bool.false_eq_true]
theorem t_MO_canAllMeet (d T : Nat) (hT : T < 2 ^ 12) (hn : n ≤ 12) (hF : wF n Q W c m p h s t y k) (hW : W ≤ 14) (hQ : Q ≤ 6) (hst : st ≤ 9) (h7 : m 138 7 + nI 3 = nI st) (h40 : m 138 40 = nI n) : ∀ c0, cc sc (d + 2) 260 [.ref 138, .int (nI T)] (hp c0 w m) = some (some (.int (bI (caB st h k n T = true))), hp c0 w m) := by
  have lp : ∀ q a (u : Option Value), a + q = n → ∀ c0, ev sc (d + 2) 260 (pm_blk 260 2) [some (.ref 138), some (.int (nI T)), some (.int (nI a)), u] [] (hp c0 w m) = some (some (.int (bI (allB (fun a => allB (caI st h k T a) a 0) q a = true))), hp c0 w m) := by
    intro q
    induction q with
    | zero =>
      intro a u ha c0
      rw [bI_t (show allB (fun a => allB (caI st h k T a) a 0) 0 a = true from rfl), bh_MO_canAllMeet_2]
      simp (disch := first | assumption | omega | decide | (simp only [ma_wd0, ma_wdi, ma_wdr, ma_wdl, ma_wdn] <;> omega)) only [↓reduceIte, evK, evL, evS, evA, evJ, Option.bind_some, Option.toList, List.cons_append, List.nil_append, nI_add, pk_mul, bI0, ite_not, ev_rbb, up_n, up_s, up_u, pk_us, pk_un, Nat.reduceAdd, nI_ltT, nI_ltF, nI_leT, nI_leF, nI_eqT, nI_eqF, bk_MO_canAllMeet, gfM, h40]
    | succ q ih =>
      intro a u ha c0
      have I := t_canAll_in (sc := sc) (w := w) d T a hT (by omega) hn hF hW hQ hst h7 h40 a 0 (by omega) c0
      have eA : allB (fun a => allB (caI st h k T a) a 0) (q + 1) a = (allB (caI st h k T a) a 0 && allB (fun a => allB (caI st h k T a) a 0) q (a + 1)) := rfl
      rw [eA, bh_MO_canAllMeet_2]
      cases z : allB (caI st h k T a) a 0
      · rw [z, if_neg (by simp)] at I
        rw [Bool.false_and, bI_f (by simp)]
        simp (disch := first | assumption | omega | decide | (simp only [ma_wd0, ma_wdi, ma_wdr, ma_wdl, ma_wdn] <;> omega)) only [↓reduceIte, evK, evL, evS, evA, evJ, Option.bind_some, Option.toList, List.cons_append, List.nil_append, nI_add, pk_mul, bI0, ite_not, ev_rbb, up_n, up_s, up_u, pk_us, pk_un, Nat.reduceAdd, nI_ltT, nI_ltF, nI_leT, nI_leF, nI_eqT, nI_eqF, gfM, h40, I]
      · rw [z, if_pos rfl, ih (a + 1) _ (by omega) c0] at I
        rw [Bool.true_and]
        simp (disch := first | assumption | omega | decide | (simp only [ma_wd0, ma_wdi, ma_wdr, ma_wdl, ma_wdn] <;> omega)) only [↓reduceIte, evK, evL, evS, evA, evJ, Option.bind_some, Option.toList, List.cons_append, List.nil_append, nI_add, pk_mul, bI0, ite_not, ev_rbb, up_n, up_s, up_u, pk_us, pk_un, Nat.reduceAdd, nI_ltT, nI_ltF, nI_leT, nI_leF, nI_eqT, nI_eqF, gfM, h40, I]
  intro c0
  have l0 := lp n 0 none (by omega) c0
  simp (disch := first | assumption | omega | decide | (simp only [ma_wd0, ma_wdi, ma_wdr, ma_wdl, ma_wdn] <;> omega)) only [↓reduceIte, evK, evL, evS, evA, evJ, Option.bind_some, Option.toList, List.cons_append, List.nil_append, nI_add, pk_mul, bI0, ite_not, ev_rbb, up_n, up_s, up_u, pk_us, pk_un, Nat.reduceAdd, nI_ltT, nI_ltF, nI_leT, nI_leF, nI_eqT, nI_eqF, en_MO_canAllMeet, l0]
  rfl
theorem t_bestMet (d : Nat) (cl : Nat → Nat) (hn : n ≤ 12) (hy : ∀ i, y i ≤ 99) (hcl : ∀ i, cl i < 2 ^ 12) (h104 : ∀ j, j < n → c 104 j = nI (cl j)) (h105 : ∀ j, j < n → c 105 j = nI (y j)) : ∀ q f, q ≤ n → f < 2 ^ 12 → ∀ m0, cc sc (d + q + 1) 98 [.ref 104, .ref 105, .int (nI q - nI 1), .int (nI f)] (hp c w m0) = some (some (.int (nI (bm y cl q f))), hp c w m0)
  | 0, f, hq, hf => fun m0 => by
    rw [en_Thought_bestMet]
    simp (disch := first | assumption | omega | decide | (simp only [ma_wd0, ma_wdi, ma_wdr, ma_wdl, ma_wdn] <;> omega)) only [↓reduceIte, evK, evL, evS, evA, evJ, Option.bind_some, Option.toList, List.cons_append, List.nil_append, nI_add, pk_mul, bI0, ite_not, ev_rbb, up_n, up_s, up_u, pk_us, pk_un, Nat.reduceAdd, nI_ltT, nI_ltF, nI_leT, nI_leF, nI_eqT, nI_eqF, bk_Thought_bestMet, n_01, n_m1lt, bm]
  | q + 1, f, hq, hf => fun m0 => by
    have c4 := h104 q (by omega)
    have c5 := h105 q (by omega)
    have hclq := hcl q
    have hyq := hy q
    have o1 : clr f (2 ^ q) < 2 ^ 12 := clr_lt hf
    have o2 : clr (clr f (2 ^ q)) (cl q) < 2 ^ 12 := clr_lt o1
    have ih1 := t_bestMet d cl hn hy hcl h104 h105 q (clr f (2 ^ q)) (by omega) o1
    have ih2 := t_bestMet d cl hn hy hcl h104 h105 q (clr (clr f (2 ^ q)) (cl q)) (by omega) o2
    simp only [Nat.add_assoc] at ih1 ih2
    have lo := bm_lo (y := y) (cl := cl) q (clr (clr f (2 ^ q)) (cl q)) (by omega)
    have hi1 := bm_hi (cl := cl) hy q (clr (clr f (2 ^ q)) (cl q))
    have hi2 := bm_hi (cl := cl) hy q (clr f (2 ^ q))
    have hq2 : 2 ^ q ≤ 2048 := Nat.le_trans (Nat.pow_le_pow_right (by decide) (show q ≤ 11 by omega)) (by decide)
    have hq405 : q * 405504 ≤ 11 * 405504 := Nat.mul_le_mul_right _ (by omega)
    have hsub : 2 ^ q ≤ bm y cl q (clr (clr f (2 ^ q)) (cl q)) + y q * 4096 := by omega
    have hb1 : bm y cl q (clr (clr f (2 ^ q)) (cl q)) + y q * 4096 - 2 ^ q < 2 ^ 31 := by
      have := Nat.sub_le (bm y cl q (clr (clr f (2 ^ q)) (cl q)) + y q * 4096) (2 ^ q)
      omega
    have hb2 : bm y cl q (clr f (2 ^ q)) < 2 ^ 31 := by omega
    have hand : clr f (2 ^ q) &&& cl q < 2 ^ 31 := Nat.lt_of_le_of_lt Nat.and_le_left (by omega)
    by_cases hf2 : f.testBit q = true
    · have hne : clr f (2 ^ q) ≠ f := fun z => by
        have := clr_bit f (2 ^ q) q
        rw [z, hf2, Nat.testBit_two_pow_self] at this
        cases this
      by_cases g1 : 0 < y q
      · by_cases g2 : clr f (2 ^ q) &&& cl q = 0
        · rw [show bm y cl (q + 1) f = bm y cl q (clr (clr f (2 ^ q)) (cl q)) + y q * 4096 - 2 ^ q by rw [bm, if_pos hf2, if_pos ⟨g1, g2⟩]]
          rw [en_Thought_bestMet]
          simp (disch := first | assumption | omega | decide | (simp only [ma_wd0, ma_wdi, ma_wdr, ma_wdl, ma_wdn] <;> omega)) only [↓reduceIte, evK, evL, evS, evA, evJ, Option.bind_some, Option.toList, List.cons_append, List.nil_append, nI_add, pk_mul, bI0, ite_not, ev_rbb, up_n, up_s, up_u, pk_us, pk_un, Nat.reduceAdd, nI_ltT, nI_ltF, nI_leT, nI_leF, nI_eqT, nI_eqF, bk_Thought_bestMet, nI_m1, alC, n_sh, n_clr, ldC, c4, c5, ce_Thought_bestMet, ih2, pk_sub, Nat.add_sub_cancel, n_and, g2]
        · rw [show bm y cl (q + 1) f = max (bm y cl q (clr (clr f (2 ^ q)) (cl q)) + y q * 4096 - 2 ^ q) (bm y cl q (clr f (2 ^ q))) by rw [bm, if_pos hf2, if_neg (fun z => g2 z.2)]]
          rw [en_Thought_bestMet]
          simp (disch := first | assumption | omega | decide | (simp only [ma_wd0, ma_wdi, ma_wdr, ma_wdl, ma_wdn] <;> omega)) only [↓reduceIte, evK, evL, evS, evA, evJ, Option.bind_some, Option.toList, List.cons_append, List.nil_append, nI_add, pk_mul, bI0, ite_not, ev_rbb, up_n, up_s, up_u, pk_us, pk_un, Nat.reduceAdd, nI_ltT, nI_ltF, nI_leT, nI_leF, nI_eqT, nI_eqF, bk_Thought_bestMet, nI_m1, alC, n_sh, n_clr, ldC, c4, c5, ce_Thought_bestMet, ih1, ih2, pk_sub, Nat.add_sub_cancel, n_and, ce_Math_max, t_Math_max, mx_eq, iMx_n]
      · have g1' : y q = 0 := by omega
        rw [show bm y cl (q + 1) f = max (bm y cl q (clr (clr f (2 ^ q)) (cl q)) + y q * 4096 - 2 ^ q) (bm y cl q (clr f (2 ^ q))) by rw [bm, if_pos hf2, if_neg (fun z => g1 z.1)]]
        rw [en_Thought_bestMet]
        simp (disch := first | assumption | omega | decide | (simp only [ma_wd0, ma_wdi, ma_wdr, ma_wdl, ma_wdn] <;> omega)) only [↓reduceIte, evK, evL, evS, evA, evJ, Option.bind_some, Option.toList, List.cons_append, List.nil_append, nI_add, pk_mul, bI0, ite_not, ev_rbb, up_n, up_s, up_u, pk_us, pk_un, Nat.reduceAdd, nI_ltT, nI_ltF, nI_leT, nI_leF, nI_eqT, nI_eqF, bk_Thought_bestMet, nI_m1, alC, n_sh, n_clr, ldC, c4, c5, ce_Thought_bestMet, ih1, ih2, pk_sub, Nat.add_sub_cancel, ce_Math_max, t_Math_max, mx_eq, iMx_n]
    · have heq : clr f (2 ^ q) = f := by
        apply Nat.eq_of_testBit_eq
        intro i
        rw [clr_bit, Nat.testBit_two_pow]
        by_cases z : q = i
        · subst z; simp [hf2]
        · simp [z]
      rw [heq] at ih1
      rw [show bm y cl (q + 1) f = bm y cl q f by rw [bm, if_neg hf2, heq]]
      rw [en_Thought_bestMet]
      simp (disch := first | assumption | omega | decide | (simp only [ma_wd0, ma_wdi, ma_wdr, ma_wdl, ma_wdn] <;> omega)) only [↓reduceIte, evK, evL, evS, evA, evJ, Option.bind_some, Option.toList, List.cons_append, List.nil_append, nI_add, pk_mul, bI0, ite_not, ev_rbb, up_n, up_s, up_u, pk_us, pk_un, Nat.reduceAdd, nI_ltT, nI_ltF, nI_leT, nI_leF, nI_eqT, nI_eqF, bk_Thought_bestMet, nI_m1, alC, n_sh, n_clr, heq, ce_Thought_bestMet, ih1]
end PR
