/-! ===== pierOf, over, watch, folds ===== -/
theorem n_or0 (x : Int32) : x ||| nI 0 = x := by
  apply Int32.toBitVec_inj.1
  show x.toBitVec ||| BitVec.ofNat 32 0 = x.toBitVec
  simp
theorem n_of (x : Int32) : ∃ n, n < 2 ^ 32 ∧ x = nI n := ⟨x.toBitVec.toNat, x.toBitVec.isLt, Int32.toBitVec_inj.mp (by show _ = BitVec.ofNat 32 _; simp)⟩
theorem n_xor (a b : Nat) : nI a ^^^ nI b = nI (a ^^^ b) := by
  apply Int32.toBitVec_inj.1
  show BitVec.ofNat 32 a ^^^ BitVec.ofNat 32 b = BitVec.ofNat 32 (a ^^^ b)
  apply BitVec.eq_of_getLsbD_eq
  intro i hi
  simp [hi]
theorem n_neg1 : (-1 : Int32) = nI (2 ^ 32 - 1) := by decide +kernel
theorem n_inj {a b : Nat} (ha : a < 2 ^ 32) (hb : b < 2 ^ 32) (h : nI a = nI b) : a = b := by
  have := congrArg (fun x : Int32 => x.toBitVec.toNat) h
  simp only [pk_tn ha, pk_tn hb] at this
  exact this
theorem over_math {W : Nat} (hW : W ≤ 14) (x : Int32) : (x &&& (nI (2 ^ W - 1) ^^^ (-1)) = nI 0) = (nI 0 ≤ x ∧ x ≤ nI (2 ^ W - 1)) := by
  have h14 : 2 ^ W ≤ 2 ^ 14 := Nat.pow_le_pow_right (by decide) hW
  have hpos : 0 < 2 ^ W := Nat.two_pow_pos W
  obtain ⟨n, hn, rfl⟩ := n_of x
  rw [n_neg1, n_xor, n_and]
  have hand : n &&& ((2 ^ W - 1) ^^^ (2 ^ 32 - 1)) < 2 ^ 32 := Nat.lt_of_le_of_lt Nat.and_le_left hn
  apply propext
  constructor
  · intro h
    have h0 := n_inj hand (by decide) h
    have hlt : n < 2 ^ W := by
      apply Nat.lt_pow_two_of_testBit
      intro i hi
      rcases Nat.lt_or_ge i 32 with z | z
      · have := congrArg (fun v => Nat.testBit v i) h0
        simp only [Nat.testBit_and, Nat.testBit_xor, Nat.testBit_two_pow_sub_one, Nat.zero_testBit] at this
        have e1 : decide (i < W) = false := by simp; omega
        have e2 : decide (i < 32) = true := by simp; omega
        rw [e1, e2] at this
        simpa using this
      · exact Nat.testBit_lt_two_pow (Nat.lt_of_lt_of_le hn (Nat.pow_le_pow_right (by decide) z))
    exact ⟨nI_le (by omega) (by omega), nI_le (by omega) (by omega)⟩
  · rintro ⟨h1, h2⟩
    obtain ⟨k, -, hk, e⟩ := rng (a := 0) (b := 2 ^ W - 1) (by omega) h1 h2 (by omega)
    have := n_inj hn (by omega) e
    subst this
    congr 1
    apply Nat.eq_of_testBit_eq
    intro i
    simp only [Nat.testBit_and, Nat.testBit_xor, Nat.testBit_two_pow_sub_one, Nat.zero_testBit]
    rcases Nat.lt_or_ge i W with z | z
    · have e1 : decide (i < W) = true := by simp; omega
      have e2 : decide (i < 32) = true := by simp; omega
      rw [e1, e2]
      simp
    · rw [Nat.testBit_lt_two_pow (Nat.lt_of_lt_of_le (show n < 2 ^ W by omega) (Nat.pow_le_pow_right (by decide) z))]
      simp
def uS (x : Int32) (k : Nat) : Int32 := (x.toUInt32 >>> ((nI k).toUInt32 &&& Int32.toUInt32 31)).toInt32
def pc1 (x : Int32) : Int32 := x - (uS x 1 &&& nI 1431655765)
def pc2 (x : Int32) : Int32 := (x &&& nI 858993459) + (uS x 2 &&& nI 858993459)
def pc3 (x : Int32) : Int32 := (x + uS x 4) &&& nI 252645135
def pcS (x : Int32) : Int32 := (pc3 (pc2 (pc1 x)) + uS (pc3 (pc2 (pc1 x))) 8 + uS (pc3 (pc2 (pc1 x)) + uS (pc3 (pc2 (pc1 x))) 8) 16) &&& nI 63
def onS : Nat → Int32 → Int32 → Int32
  | 0, _, n => n
  | k + 1, v, n => if v = nI 0 then n else onS k (v &&& (v - nI 1)) (n + nI 1)
def onE : Nat → Int32 → Bool
  | 0, v => decide (v = nI 0)
  | k + 1, v => decide (v = nI 0) || onE k (v &&& (v - nI 1))
theorem ones_math : ∀ n, n < 64 → onE 7 (nI n) = true ∧ onS 7 (nI n) (nI 0) = pcS (nI n) := by decide +kernel
theorem gQ.jk {W S Q : Nat} {ls : List lL} {c m Z : Nat → Nat → Int32} (h : gQ W S Q ls c m Z) (g f g' f' : Nat → Int32) : gQ W S Q ls (va_up (va_up c 94 g) 95 f) (va_up (va_up m 158 g') 159 f') Z := h.fr (h.2.1.junk g f g' f') (FR.junk g f g' f')
section P6
variable {sc : Nat × (Nat → Int32)} {W S Q : Nat} {ls : List lL} {c m Z : Nat → Nat → Int32} {w : Nat → Int64} {h : List ma_C}
theorem t_Integer_bitCount (d : Nat) (x : Int32) : cc sc d 294 [.int x] h = some (some (.int (pcS x)), h) := by
  simp (disch := first | assumption | omega | decide | (simp only [ma_wd0, ma_wdi, ma_wdr, ma_wdl, ma_wdn] <;> omega)) only [↓reduceIte, evK, evL, evS, evA, evJ, Option.bind_some, Option.toList, List.cons_append, List.nil_append, nI_add, pk_mul, bI0, ite_not, ev_rbb, en_Integer_bitCount]
  rfl
theorem t_ones_loop (d : Nat) (x : Int32) : ∀ k v n, onE k v = true → ev sc d 275 (pm_blk 275 4) [some (.ref 138), some (.int x), some (.int n), some (.int v)] [] h = some (some (.int (onS k v n)), h)
  | 0, v, n, hv => by
    have e : v = nI 0 := of_decide_eq_true hv
    subst e
    rw [bh_MO_onesOf_4]
    simp (disch := first | assumption | omega | decide | (simp only [ma_wd0, ma_wdi, ma_wdr, ma_wdl, ma_wdn] <;> omega)) only [↓reduceIte, evK, evL, evS, evA, evJ, Option.bind_some, Option.toList, List.cons_append, List.nil_append, nI_add, pk_mul, bI0, ite_not, ev_rbb, bk_MO_onesOf, onS]
  | k + 1, v, n, hv => by
    rw [bh_MO_onesOf_4]
    by_cases e : v = nI 0
    · simp (disch := first | assumption | omega | decide | (simp only [ma_wd0, ma_wdi, ma_wdr, ma_wdl, ma_wdn] <;> omega)) only [↓reduceIte, evK, evL, evS, evA, evJ, Option.bind_some, Option.toList, List.cons_append, List.nil_append, nI_add, pk_mul, bI0, ite_not, ev_rbb, bk_MO_onesOf, onS, e]
    · have hv2 : onE k (v &&& (v - nI 1)) = true := by
        simp only [onE, e, decide_false, Bool.false_or] at hv
        exact hv
      have ih := t_ones_loop d x k (v &&& (v - nI 1)) (n + nI 1) hv2
      simp (disch := first | assumption | omega | decide | (simp only [ma_wd0, ma_wdi, ma_wdr, ma_wdl, ma_wdn] <;> omega)) only [↓reduceIte, evK, evL, evS, evA, evJ, Option.bind_some, Option.toList, List.cons_append, List.nil_append, nI_add, pk_mul, bI0, ite_not, ev_rbb, bk_MO_onesOf, onS, e, ih]
theorem t_MO_onesOf6 (d n : Nat) (hn : n < 64) : cc sc d 275 [.ref 138, .int (nI n)] h = some (some (.int (pcS (nI n))), h) := by
  have hl := t_ones_loop (sc := sc) (h := h) d (nI n) 7 (nI n) (nI 0) (ones_math n hn).1
  rw [(ones_math n hn).2] at hl
  simp (disch := first | assumption | omega | decide | (simp only [ma_wd0, ma_wdi, ma_wdr, ma_wdl, ma_wdn] <;> omega)) only [↓reduceIte, evK, evL, evS, evA, evJ, Option.bind_some, Option.toList, List.cons_append, List.nil_append, nI_add, pk_mul, bI0, ite_not, ev_rbb, en_MO_onesOf, hl]
theorem p_pierOf (d : Nat) (a b : Int32) (h : gR c m) : pub sc w (d + 20) 23 248 [.int a, .int b] c m := by
  obtain ⟨W, S, Q, ls, Z, g⟩ := h.e
  obtain ⟨t, j, -, -, -⟩ := id g
  obtain ⟨t0, j0, -, -, -⟩ := g.q0
  obtain ⟨q1, q2, hQ, hq⟩ := t.2.2.2.1
  by_cases h1 : nI 0 ≤ a ∧ a < nI Q
  · obtain ⟨ka, hka, rfl⟩ := rngl (by omega) h1.1 h1.2
    obtain ⟨x, e, hx, he, r1, r2, r3, r4⟩ := hq ka hka
    by_cases b0 : b = nI 0
    · subst b0
      refine ⟨c, _, nI x, fun m0 => ?_, fun c0 => ?_, h.q0⟩
      · simp (disch := first | assumption | omega | decide | (simp only [ma_wd0, ma_wdi, ma_wdr, ma_wdl, ma_wdn] <;> omega)) only [↓reduceIte, evK, evL, evS, evA, evJ, Option.bind_some, Option.toList, List.cons_append, List.nil_append, nI_add, pk_mul, bI0, ite_not, ev_rbb, up_n, up_s, up_u, pk_us, pk_un, Nat.reduceAdd, nI_ltT, nI_ltF, nI_leT, nI_leF, nI_eqT, nI_eqF, en_LH_pierOf, bk_LH_pierOf, gfC, ldC, ce_Told_isPier, t_Told_isPier, q1, h1, and_self, not_true_eq_false, ev_sw, swc_s, swc_0, r1]
      · simp (disch := first | assumption | omega | decide | (simp only [ma_wd0, ma_wdi, ma_wdr, ma_wdl, ma_wdn] <;> omega)) only [↓reduceIte, evK, evL, evS, evA, evJ, Option.bind_some, Option.toList, List.cons_append, List.nil_append, nI_add, pk_mul, bI0, ite_not, ev_rbb, up_n, up_s, up_u, pk_us, pk_un, Nat.reduceAdd, nI_ltT, nI_ltF, nI_leT, nI_leF, nI_eqT, nI_eqF, en_MO_pierOf, bk_MO_pierOf, gfM, pfM, ldM, ce_MO_isPier, t_MO_isPier, q2, h1, and_self, not_true_eq_false, r2]
    by_cases b1 : b = nI 1
    · subst b1
      refine ⟨c, _, nI e, fun m0 => ?_, fun c0 => ?_, h.q0⟩
      · simp (disch := first | assumption | omega | decide | (simp only [ma_wd0, ma_wdi, ma_wdr, ma_wdl, ma_wdn] <;> omega)) only [↓reduceIte, evK, evL, evS, evA, evJ, Option.bind_some, Option.toList, List.cons_append, List.nil_append, nI_add, pk_mul, bI0, ite_not, ev_rbb, up_n, up_s, up_u, pk_us, pk_un, Nat.reduceAdd, nI_ltT, nI_ltF, nI_leT, nI_leF, nI_eqT, nI_eqF, en_LH_pierOf, bk_LH_pierOf, gfC, ldC, ce_Told_isPier, t_Told_isPier, q1, h1, and_self, not_true_eq_false, ev_sw, swc_s, swc_0, r3]
      · simp (disch := first | assumption | omega | decide | (simp only [ma_wd0, ma_wdi, ma_wdr, ma_wdl, ma_wdn] <;> omega)) only [↓reduceIte, evK, evL, evS, evA, evJ, Option.bind_some, Option.toList, List.cons_append, List.nil_append, nI_add, pk_mul, bI0, ite_not, ev_rbb, up_n, up_s, up_u, pk_us, pk_un, Nat.reduceAdd, nI_ltT, nI_ltF, nI_leT, nI_leF, nI_eqT, nI_eqF, en_MO_pierOf, bk_MO_pierOf, gfM, pfM, ldM, ce_MO_isPier, t_MO_isPier, q2, h1, and_self, not_true_eq_false, r4]
    by_cases b2 : b = nI 2
    · subst b2
      obtain ⟨k, -, s1, s2⟩ := j_sees (sc := sc) (w := w) (d + 17) (d + 17) t0 j0 hka
      refine ⟨c, _, nI k, fun m0 => ?_, fun c0 => ?_, h.q0⟩
      · simp (disch := first | assumption | omega | decide | (simp only [ma_wd0, ma_wdi, ma_wdr, ma_wdl, ma_wdn] <;> omega)) only [↓reduceIte, evK, evL, evS, evA, evJ, Option.bind_some, Option.toList, List.cons_append, List.nil_append, nI_add, pk_mul, bI0, ite_not, ev_rbb, up_n, up_s, up_u, pk_us, pk_un, Nat.reduceAdd, nI_ltT, nI_ltF, nI_leT, nI_leF, nI_eqT, nI_eqF, en_LH_pierOf, bk_LH_pierOf, gfC, ldC, ce_Told_isPier, t_Told_isPier, q1, h1, and_self, not_true_eq_false, ev_sw, swc_s, swc_0, ce_Thought_sees, s1]
      · simp (disch := first | assumption | omega | decide | (simp only [ma_wd0, ma_wdi, ma_wdr, ma_wdl, ma_wdn] <;> omega)) only [↓reduceIte, evK, evL, evS, evA, evJ, Option.bind_some, Option.toList, List.cons_append, List.nil_append, nI_add, pk_mul, bI0, ite_not, ev_rbb, up_n, up_s, up_u, pk_us, pk_un, Nat.reduceAdd, nI_ltT, nI_ltF, nI_leT, nI_leF, nI_eqT, nI_eqF, en_MO_pierOf, bk_MO_pierOf, gfM, pfM, ldM, ce_MO_isPier, t_MO_isPier, q2, h1, and_self, not_true_eq_false, ce_MO_seenFrom, s2]
    refine ⟨c, _, -1, fun m0 => ?_, fun c0 => ?_, h.q0⟩
    · simp (disch := first | assumption | omega | decide | (simp only [ma_wd0, ma_wdi, ma_wdr, ma_wdl, ma_wdn] <;> omega)) only [↓reduceIte, evK, evL, evS, evA, evJ, Option.bind_some, Option.toList, List.cons_append, List.nil_append, nI_add, pk_mul, bI0, ite_not, ev_rbb, up_n, up_s, up_u, pk_us, pk_un, Nat.reduceAdd, nI_ltT, nI_ltF, nI_leT, nI_leF, nI_eqT, nI_eqF, en_LH_pierOf, bk_LH_pierOf, gfC, ldC, ce_Told_isPier, t_Told_isPier, q1, h1, and_self, not_true_eq_false, ev_sw, swc_s, swc_0, b0, b1, b2]
    · simp (disch := first | assumption | omega | decide | (simp only [ma_wd0, ma_wdi, ma_wdr, ma_wdl, ma_wdn] <;> omega)) only [↓reduceIte, evK, evL, evS, evA, evJ, Option.bind_some, Option.toList, List.cons_append, List.nil_append, nI_add, pk_mul, bI0, ite_not, ev_rbb, up_n, up_s, up_u, pk_us, pk_un, Nat.reduceAdd, nI_ltT, nI_ltF, nI_leT, nI_leF, nI_eqT, nI_eqF, en_MO_pierOf, bk_MO_pierOf, gfM, pfM, ldM, ce_MO_isPier, t_MO_isPier, q2, h1, and_self, not_true_eq_false, b0, b1, b2]
  · refine ⟨c, _, -1, fun m0 => ?_, fun c0 => ?_, h.q0⟩
    · simp (disch := first | assumption | omega | decide | (simp only [ma_wd0, ma_wdi, ma_wdr, ma_wdl, ma_wdn] <;> omega)) only [↓reduceIte, evK, evL, evS, evA, evJ, Option.bind_some, Option.toList, List.cons_append, List.nil_append, nI_add, pk_mul, bI0, ite_not, ev_rbb, up_n, up_s, up_u, pk_us, pk_un, Nat.reduceAdd, nI_ltT, nI_ltF, nI_leT, nI_leF, nI_eqT, nI_eqF, en_LH_pierOf, bk_LH_pierOf, gfC, ce_Told_isPier, t_Told_isPier, q1, h1, not_false_eq_true]
    · simp (disch := first | assumption | omega | decide | (simp only [ma_wd0, ma_wdi, ma_wdr, ma_wdl, ma_wdn] <;> omega)) only [↓reduceIte, evK, evL, evS, evA, evJ, Option.bind_some, Option.toList, List.cons_append, List.nil_append, nI_add, pk_mul, bI0, ite_not, ev_rbb, up_n, up_s, up_u, pk_us, pk_un, Nat.reduceAdd, nI_ltT, nI_ltF, nI_leT, nI_leF, nI_eqT, nI_eqF, en_MO_pierOf, bk_MO_pierOf, gfM, pfM, ce_MO_isPier, t_MO_isPier, q2, h1, not_false_eq_true]
theorem p_over (d : Nat) (a : Int32) (h : gR c m) : pub sc w (d + 20) 32 273 [.int a] c m := by
  obtain ⟨W, S, Q, ls, Z, g⟩ := h.e
  obtain ⟨t, j, -, -, -⟩ := id g
  have hw1 := t.1.2.1
  have hW := t.1.2.2.2
  have hq0 := h.q0
  obtain ⟨t0, j0, -, -, -⟩ := g.q0
  have hpos : 1 ≤ 2 ^ W := Nat.one_le_two_pow
  generalize hm1 : va_up m 138 (upd (m 138) 0 (nI 0)) = m1 at t0 j0 hq0
  have hw2 := t0.2.1.2.1
  obtain ⟨q1, q2, hQ, hq⟩ := t0.2.2.2.1
  have om := over_math hW a
  by_cases h1 : nI 0 ≤ a ∧ a ≤ nI (2 ^ W - 1)
  · obtain ⟨x, y, c3, m3, f1, f2, rfl, rfl, rfl⟩ := sim_loop (w := w) Q (fun i (s : Int32) h => ev sc (d + 19) 111 (pm_blk 111 4) [some (.ref 103), some (.int a), some (.int s), some (.int (nI i))] [] h)
        (fun i (s : Int32) h => ev sc (d + 20) 273 (pm_blk 273 28) [some (.ref 138), some (.int a), some (.int s), some (.int (nI i))] [] h)
        (fun i s t c' m' => s = t ∧ c = c' ∧ m1 = m') (by
          rintro i s t c3 m3 hi ⟨rfl, rfl, rfl⟩
          obtain ⟨k, -, s1, s2⟩ := j_sees (sc := sc) (w := w) (d + 17) (d + 16) t0 j0 hi
          by_cases z : a &&& (nI k ^^^ -1) = nI 0
          · refine ⟨s ||| nI (2 ^ i), s ||| nI (2 ^ i), c, m1, fun m0 => ?_, fun c0 => ?_, rfl, rfl, rfl⟩
            · conv => lhs; rw [bh_Thought_seers_4]
              simp (disch := first | assumption | omega | decide | (simp only [ma_wd0, ma_wdi, ma_wdr, ma_wdl, ma_wdn] <;> omega)) only [↓reduceIte, evK, evL, evS, evA, evJ, Option.bind_some, Option.toList, List.cons_append, List.nil_append, nI_add, pk_mul, bI0, ite_not, ev_rbb, up_n, up_s, up_u, pk_us, pk_un, Nat.reduceAdd, nI_ltT, nI_ltF, nI_leT, nI_leF, nI_eqT, nI_eqF, bk_Thought_seers, gfC, q1, ce_Thought_sees, s1, z, n_sh]
            · conv => lhs; rw [bh_MO_over_28]
              simp (disch := first | assumption | omega | decide | (simp only [ma_wd0, ma_wdi, ma_wdr, ma_wdl, ma_wdn] <;> omega)) only [↓reduceIte, evK, evL, evS, evA, evJ, Option.bind_some, Option.toList, List.cons_append, List.nil_append, nI_add, pk_mul, bI0, ite_not, ev_rbb, up_n, up_s, up_u, pk_us, pk_un, Nat.reduceAdd, nI_ltT, nI_ltF, nI_leT, nI_leF, nI_eqT, nI_eqF, bk_MO_over, gfM, q2, ce_MO_seenFrom, s2, z, n_sh]
          · refine ⟨s, s, c, m1, fun m0 => ?_, fun c0 => ?_, rfl, rfl, rfl⟩
            · conv => lhs; rw [bh_Thought_seers_4]
              simp (disch := first | assumption | omega | decide | (simp only [ma_wd0, ma_wdi, ma_wdr, ma_wdl, ma_wdn] <;> omega)) only [↓reduceIte, evK, evL, evS, evA, evJ, Option.bind_some, Option.toList, List.cons_append, List.nil_append, nI_add, pk_mul, bI0, ite_not, ev_rbb, up_n, up_s, up_u, pk_us, pk_un, Nat.reduceAdd, nI_ltT, nI_ltF, nI_leT, nI_leF, nI_eqT, nI_eqF, bk_Thought_seers, gfC, q1, ce_Thought_sees, s1, z, n_or0]
            · conv => lhs; rw [bh_MO_over_28]
              simp (disch := first | assumption | omega | decide | (simp only [ma_wd0, ma_wdi, ma_wdr, ma_wdl, ma_wdn] <;> omega)) only [↓reduceIte, evK, evL, evS, evA, evJ, Option.bind_some, Option.toList, List.cons_append, List.nil_append, nI_add, pk_mul, bI0, ite_not, ev_rbb, up_n, up_s, up_u, pk_us, pk_un, Nat.reduceAdd, nI_ltT, nI_ltF, nI_leT, nI_leF, nI_eqT, nI_eqF, bk_MO_over, gfM, q2, ce_MO_seenFrom, s2, z]) Q 0 (nI 0) (nI 0) c m1 (by omega) ⟨rfl, rfl, rfl⟩
    refine ⟨c, m1, x, fun m0 => ?_, fun c0 => ?_, hq0⟩
    · simp (disch := first | assumption | omega | decide | (simp only [ma_wd0, ma_wdi, ma_wdr, ma_wdl, ma_wdn] <;> omega)) only [↓reduceIte, evK, evL, evS, evA, evJ, Option.bind_some, Option.toList, List.cons_append, List.nil_append, nI_add, pk_mul, bI0, ite_not, ev_rbb, up_n, up_s, up_u, pk_us, pk_un, Nat.reduceAdd, nI_ltT, nI_ltF, nI_leT, nI_leF, nI_eqT, nI_eqF, en_LH_over, bk_LH_over, gfC, ce_Told_allColumns, t_Told_allColumns, hw1, n_sh, pk_sub, om, h1, and_self, ce_Thought_seers, en_Thought_seers, f1]
      rw [bh_Thought_seers_4]
      simp (disch := first | assumption | omega | decide | (simp only [ma_wd0, ma_wdi, ma_wdr, ma_wdl, ma_wdn] <;> omega)) only [↓reduceIte, evK, evL, evS, evA, evJ, Option.bind_some, Option.toList, List.cons_append, List.nil_append, nI_add, pk_mul, bI0, ite_not, ev_rbb, up_n, up_s, up_u, pk_us, pk_un, Nat.reduceAdd, nI_ltT, nI_ltF, nI_leT, nI_leF, nI_eqT, nI_eqF, bk_Thought_seers, gfC, q1]
    · simp (disch := first | assumption | omega | decide | (simp only [ma_wd0, ma_wdi, ma_wdr, ma_wdl, ma_wdn] <;> omega)) only [↓reduceIte, evK, evL, evS, evA, evJ, Option.bind_some, Option.toList, List.cons_append, List.nil_append, nI_add, pk_mul, bI0, ite_not, ev_rbb, up_n, up_s, up_u, pk_us, pk_un, Nat.reduceAdd, nI_ltT, nI_ltF, nI_leT, nI_leF, nI_eqT, nI_eqF, en_MO_over, bk_MO_over, gfM, pfM, hm1, ce_MO_wide, t_MO_wide, hw2, n_sh, pk_sub, ce_MO_isIn, t_MO_isIn, h1, and_self, not_true_eq_false, f2]
      rw [bh_MO_over_28]
      simp (disch := first | assumption | omega | decide | (simp only [ma_wd0, ma_wdi, ma_wdr, ma_wdl, ma_wdn] <;> omega)) only [↓reduceIte, evK, evL, evS, evA, evJ, Option.bind_some, Option.toList, List.cons_append, List.nil_append, nI_add, pk_mul, bI0, ite_not, ev_rbb, up_n, up_s, up_u, pk_us, pk_un, Nat.reduceAdd, nI_ltT, nI_ltF, nI_leT, nI_leF, nI_eqT, nI_eqF, bk_MO_over, gfM, q2]
  · refine ⟨c, m1, -1, fun m0 => ?_, fun c0 => ?_, hq0⟩
    · simp (disch := first | assumption | omega | decide | (simp only [ma_wd0, ma_wdi, ma_wdr, ma_wdl, ma_wdn] <;> omega)) only [↓reduceIte, evK, evL, evS, evA, evJ, Option.bind_some, Option.toList, List.cons_append, List.nil_append, nI_add, pk_mul, bI0, ite_not, ev_rbb, up_n, up_s, up_u, pk_us, pk_un, Nat.reduceAdd, nI_ltT, nI_ltF, nI_leT, nI_leF, nI_eqT, nI_eqF, en_LH_over, bk_LH_over, gfC, ce_Told_allColumns, t_Told_allColumns, hw1, n_sh, pk_sub, om, h1]
    · simp (disch := first | assumption | omega | decide | (simp only [ma_wd0, ma_wdi, ma_wdr, ma_wdl, ma_wdn] <;> omega)) only [↓reduceIte, evK, evL, evS, evA, evJ, Option.bind_some, Option.toList, List.cons_append, List.nil_append, nI_add, pk_mul, bI0, ite_not, ev_rbb, up_n, up_s, up_u, pk_us, pk_un, Nat.reduceAdd, nI_ltT, nI_ltF, nI_leT, nI_leF, nI_eqT, nI_eqF, en_MO_over, bk_MO_over, gfM, pfM, hm1, ce_MO_wide, t_MO_wide, hw2, n_sh, pk_sub, ce_MO_isIn, t_MO_isIn, h1, not_false_eq_true]
theorem j_seenBy (d d' n : Nat) (x0 x1 : Option Value) (t : tR W S Q ls c m) (j : jR 17 W S c m Z) (hn : n < 64) : ∃ v, (∀ m0, cc sc (d' + 3) 113 [.ref 103, .int (nI n)] (hp c w m0) = some (some (.int v), hp c w m0)) ∧ ∃ y, ∀ c0, ev sc (d + 3) 274 (pm_blk 274 37) [some (.ref 138), x0, x1, some (.int (nI n)), some (.int (nI 0)), some (.int (nI 0))] [] (hp c0 w m) = ev sc (d + 3) 274 (pm_blk 274 73) [some (.ref 138), x0, x1, some (.int (nI n)), some (.int v), some (.int y)] [] (hp c0 w m) := by
  obtain ⟨q1, q2, hQ, hq⟩ := t.2.2.2.1
  obtain ⟨x, y, c3, m3, f1, f2, rfl, rfl, rfl⟩ := sim_loop (w := w) Q (fun i (s : Int32) h => ev sc (d' + 3) 113 (pm_blk 113 4) [some (.ref 103), some (.int (nI n)), some (.int s), some (.int (nI i))] [] h)
        (fun i (s : Int32) h => ev sc (d + 3) 274 (pm_blk 274 37) [some (.ref 138), x0, x1, some (.int (nI n)), some (.int s), some (.int (nI i))] [] h)
        (fun i s t c' m' => s = t ∧ c = c' ∧ m = m') (by
          rintro i s t' c3 m3 hi ⟨rfl, rfl, rfl⟩
          obtain ⟨k, -, s1, s2⟩ := j_sees (sc := sc) (w := w) d d' t j hi
          by_cases z : n.testBit i = true
          · refine ⟨s ||| nI k, s ||| nI k, c, m, fun m0 => ?_, fun c0 => ?_, rfl, rfl, rfl⟩
            · conv => lhs; rw [bh_Thought_seenBy_4]
              simp (disch := first | assumption | omega | decide | (simp only [ma_wd0, ma_wdi, ma_wdr, ma_wdl, ma_wdn] <;> omega)) only [↓reduceIte, evK, evL, evS, evA, evJ, Option.bind_some, Option.toList, List.cons_append, List.nil_append, nI_add, pk_mul, bI0, ite_not, ev_rbb, up_n, up_s, up_u, pk_us, pk_un, Nat.reduceAdd, nI_ltT, nI_ltF, nI_leT, nI_leF, nI_eqT, nI_eqF, bk_Thought_seenBy, gfC, q1, n_bit, ce_Thought_sees, s1, z]
            · conv => lhs; rw [bh_MO_watch_37]
              simp (disch := first | assumption | omega | decide | (simp only [ma_wd0, ma_wdi, ma_wdr, ma_wdl, ma_wdn] <;> omega)) only [↓reduceIte, evK, evL, evS, evA, evJ, Option.bind_some, Option.toList, List.cons_append, List.nil_append, nI_add, pk_mul, bI0, ite_not, ev_rbb, up_n, up_s, up_u, pk_us, pk_un, Nat.reduceAdd, nI_ltT, nI_ltF, nI_leT, nI_leF, nI_eqT, nI_eqF, bk_MO_watch, gfM, q2, ce_MO_has, t_MO_has, n_bit, not_true_eq_false, ce_MO_seenFrom, s2, z]
          · refine ⟨s, s, c, m, fun m0 => ?_, fun c0 => ?_, rfl, rfl, rfl⟩
            · conv => lhs; rw [bh_Thought_seenBy_4]
              simp (disch := first | assumption | omega | decide | (simp only [ma_wd0, ma_wdi, ma_wdr, ma_wdl, ma_wdn] <;> omega)) only [↓reduceIte, evK, evL, evS, evA, evJ, Option.bind_some, Option.toList, List.cons_append, List.nil_append, nI_add, pk_mul, bI0, ite_not, ev_rbb, up_n, up_s, up_u, pk_us, pk_un, Nat.reduceAdd, nI_ltT, nI_ltF, nI_leT, nI_leF, nI_eqT, nI_eqF, bk_Thought_seenBy, gfC, q1, n_bit, z, n_or0, Bool.false_eq_true]
            · conv => lhs; rw [bh_MO_watch_37]
              simp (disch := first | assumption | omega | decide | (simp only [ma_wd0, ma_wdi, ma_wdr, ma_wdl, ma_wdn] <;> omega)) only [↓reduceIte, evK, evL, evS, evA, evJ, Option.bind_some, Option.toList, List.cons_append, List.nil_append, nI_add, pk_mul, bI0, ite_not, ev_rbb, up_n, up_s, up_u, pk_us, pk_un, Nat.reduceAdd, nI_ltT, nI_ltF, nI_leT, nI_leF, nI_eqT, nI_eqF, bk_MO_watch, gfM, q2, ce_MO_has, t_MO_has, n_bit, not_false_eq_true, z, Bool.false_eq_true]) Q 0 (nI 0) (nI 0) c m (by omega) ⟨rfl, rfl, rfl⟩
  refine ⟨x, fun m0 => ?_, nI Q, fun c0 => (f2 c0).trans ?_⟩
  · simp (disch := first | assumption | omega | decide | (simp only [ma_wd0, ma_wdi, ma_wdr, ma_wdl, ma_wdn] <;> omega)) only [↓reduceIte, evK, evL, evS, evA, evJ, Option.bind_some, Option.toList, List.cons_append, List.nil_append, nI_add, pk_mul, bI0, ite_not, ev_rbb, up_n, up_s, up_u, pk_us, pk_un, Nat.reduceAdd, nI_ltT, nI_ltF, nI_leT, nI_leF, nI_eqT, nI_eqF, en_Thought_seenBy, f1]
    rw [bh_Thought_seenBy_4]
    simp (disch := first | assumption | omega | decide | (simp only [ma_wd0, ma_wdi, ma_wdr, ma_wdl, ma_wdn] <;> omega)) only [↓reduceIte, evK, evL, evS, evA, evJ, Option.bind_some, Option.toList, List.cons_append, List.nil_append, nI_add, pk_mul, bI0, ite_not, ev_rbb, up_n, up_s, up_u, pk_us, pk_un, Nat.reduceAdd, nI_ltT, nI_ltF, nI_leT, nI_leF, nI_eqT, nI_eqF, bk_Thought_seenBy, gfC, q1]
  · conv => lhs; rw [bh_MO_watch_37]
    simp (disch := first | assumption | omega | decide | (simp only [ma_wd0, ma_wdi, ma_wdr, ma_wdl, ma_wdn] <;> omega)) only [↓reduceIte, evK, evL, evS, evA, evJ, Option.bind_some, Option.toList, List.cons_append, List.nil_append, nI_add, pk_mul, bI0, ite_not, ev_rbb, up_n, up_s, up_u, pk_us, pk_un, Nat.reduceAdd, nI_ltT, nI_ltF, nI_leT, nI_leF, nI_eqT, nI_eqF, gfM, q2]
theorem p_watch (d : Nat) (a : Int32) (h : gR c m) : pub sc w (d + 20) 33 274 [.int a] c m := by
  obtain ⟨W, S, Q, ls, Z, g⟩ := h.e
  obtain ⟨t, j, -, -, -⟩ := id g
  have hw1 := t.1.2.1
  have hW := t.1.2.2.2
  have hq0 := h.q0
  obtain ⟨t0, j0, -, -, -⟩ := g.q0
  generalize hm1 : va_up m 138 (upd (m 138) 0 (nI 0)) = m1 at t0 j0 hq0
  have hw2 := t0.2.1.2.1
  obtain ⟨q1, q2, hQ, hq⟩ := t0.2.2.2.1
  have h64 : 2 ^ Q ≤ 64 := Nat.le_trans (Nat.pow_le_pow_right (by decide) hQ) (by decide)
  have hpos : 1 ≤ 2 ^ Q := Nat.one_le_two_pow
  by_cases h1 : nI 0 ≤ a ∧ a ≤ nI 1
  · obtain ⟨ka, -, hka, rfl⟩ := rng (by omega) h1.1 h1.2 (by omega)
    obtain ⟨x, y, c3, m3, f1, f2, hxy, hx, rfl, rfl⟩ := sim_loop (w := w) (2 ^ Q) (fun i (s : Int32 × Option Value) h => ev sc (d + 19) 112 (pm_blk 112 4) [some (.ref 103), some (.int s.1), some (.int (nI i)), s.2] [] h)
        (fun i (s : Int32 × Option Value × Option Value) h => ev sc (d + 20) 274 (pm_blk 274 21) [some (.ref 138), some (.int (nI ka)), some (.int s.1), some (.int (nI i)), s.2.1, s.2.2] [] h)
        (fun i s t c' m' => s.1 = t.1 ∧ (s.1 = -1 ∨ ∃ b, b < 64 ∧ s.1 = nI b) ∧ c = c' ∧ m1 = m') (by
          rintro i ⟨s, s3⟩ ⟨t', t4, t5⟩ c3 m3 hi ⟨rfl, hs, rfl, rfl⟩
          simp only at hs
          obtain ⟨v, s1, y, s2⟩ := j_seenBy (sc := sc) (w := w) (d + 17) (d + 15) i (some (.int (nI ka))) (some (.int s)) t0 j0 (by omega)
          rcases hs with rfl | ⟨b, hb, rfl⟩
          · by_cases z : v = nI (2 ^ W) - nI 1
            · refine ⟨(nI i, some (.int (nI 1))), (nI i, some (.int v), some (.int y)), c, m1, fun m0 => ?_, fun c0 => ?_, rfl, Or.inr ⟨i, by omega, rfl⟩, rfl, rfl⟩
              · conv => lhs; rw [bh_Thought_fewestSeers_4]
                simp (disch := first | assumption | omega | decide | (simp only [ma_wd0, ma_wdi, ma_wdr, ma_wdl, ma_wdn] <;> omega)) only [↓reduceIte, evK, evL, evS, evA, evJ, Option.bind_some, Option.toList, List.cons_append, List.nil_append, nI_add, pk_mul, bI0, ite_not, ev_rbb, up_n, up_s, up_u, pk_us, pk_un, Nat.reduceAdd, nI_ltT, nI_ltF, nI_leT, nI_leF, nI_eqT, nI_eqF, bk_Thought_fewestSeers, gfC, q1, n_sh, ce_Thought_seenBy, s1, z, ce_Told_allColumns, t_Told_allColumns, hw1]
              · conv => lhs; rw [bh_MO_watch_21]
                simp (disch := first | assumption | omega | decide | (simp only [ma_wd0, ma_wdi, ma_wdr, ma_wdl, ma_wdn] <;> omega)) only [↓reduceIte, evK, evL, evS, evA, evJ, Option.bind_some, Option.toList, List.cons_append, List.nil_append, nI_add, pk_mul, bI0, ite_not, ev_rbb, up_n, up_s, up_u, pk_us, pk_un, Nat.reduceAdd, nI_ltT, nI_ltF, nI_leT, nI_leF, nI_eqT, nI_eqF, bk_MO_watch, gfM, q2, n_sh, s2, z, ce_MO_wide, t_MO_wide, hw2]
            · refine ⟨(-1, some (.int (nI 1))), (-1, some (.int v), some (.int y)), c, m1, fun m0 => ?_, fun c0 => ?_, rfl, Or.inl rfl, rfl, rfl⟩
              · conv => lhs; rw [bh_Thought_fewestSeers_4]
                simp (disch := first | assumption | omega | decide | (simp only [ma_wd0, ma_wdi, ma_wdr, ma_wdl, ma_wdn] <;> omega)) only [↓reduceIte, evK, evL, evS, evA, evJ, Option.bind_some, Option.toList, List.cons_append, List.nil_append, nI_add, pk_mul, bI0, ite_not, ev_rbb, up_n, up_s, up_u, pk_us, pk_un, Nat.reduceAdd, nI_ltT, nI_ltF, nI_leT, nI_leF, nI_eqT, nI_eqF, bk_Thought_fewestSeers, gfC, q1, n_sh, ce_Thought_seenBy, s1, z, ce_Told_allColumns, t_Told_allColumns, hw1]
              · conv => lhs; rw [bh_MO_watch_21]
                simp (disch := first | assumption | omega | decide | (simp only [ma_wd0, ma_wdi, ma_wdr, ma_wdl, ma_wdn] <;> omega)) only [↓reduceIte, evK, evL, evS, evA, evJ, Option.bind_some, Option.toList, List.cons_append, List.nil_append, nI_add, pk_mul, bI0, ite_not, ev_rbb, up_n, up_s, up_u, pk_us, pk_un, Nat.reduceAdd, nI_ltT, nI_ltF, nI_leT, nI_leF, nI_eqT, nI_eqF, bk_MO_watch, gfM, q2, n_sh, s2, z, ce_MO_wide, t_MO_wide, hw2]
          · by_cases zz : ¬ pcS (nI i) < pcS (nI b)
            · refine ⟨(nI b, some (.int (nI 0))), (nI b, some (.int v), some (.int y)), c, m1, fun m0 => ?_, fun c0 => ?_, rfl, Or.inr ⟨b, hb, rfl⟩, rfl, rfl⟩
              · conv => lhs; rw [bh_Thought_fewestSeers_4]
                simp (disch := first | assumption | omega | decide | (simp only [ma_wd0, ma_wdi, ma_wdr, ma_wdl, ma_wdn] <;> omega)) only [↓reduceIte, evK, evL, evS, evA, evJ, Option.bind_some, Option.toList, List.cons_append, List.nil_append, nI_add, pk_mul, bI0, ite_not, ev_rbb, up_n, up_s, up_u, pk_us, pk_un, Nat.reduceAdd, nI_ltT, nI_ltF, nI_leT, nI_leF, nI_eqT, nI_eqF, bk_Thought_fewestSeers, gfC, q1, n_sh, nI_m1ne, ce_Integer_bitCount, t_Integer_bitCount, zz]
              · conv => lhs; rw [bh_MO_watch_21]
                by_cases z : v = nI (2 ^ W) - nI 1
                · simp (disch := first | assumption | omega | decide | (simp only [ma_wd0, ma_wdi, ma_wdr, ma_wdl, ma_wdn] <;> omega)) only [↓reduceIte, evK, evL, evS, evA, evJ, Option.bind_some, Option.toList, List.cons_append, List.nil_append, nI_add, pk_mul, bI0, ite_not, ev_rbb, up_n, up_s, up_u, pk_us, pk_un, Nat.reduceAdd, nI_ltT, nI_ltF, nI_leT, nI_leF, nI_eqT, nI_eqF, bk_MO_watch, gfM, q2, n_sh, s2, z, ce_MO_wide, t_MO_wide, hw2, nI_m1ne, ce_MO_onesOf, t_MO_onesOf6, zz]
                · simp (disch := first | assumption | omega | decide | (simp only [ma_wd0, ma_wdi, ma_wdr, ma_wdl, ma_wdn] <;> omega)) only [↓reduceIte, evK, evL, evS, evA, evJ, Option.bind_some, Option.toList, List.cons_append, List.nil_append, nI_add, pk_mul, bI0, ite_not, ev_rbb, up_n, up_s, up_u, pk_us, pk_un, Nat.reduceAdd, nI_ltT, nI_ltF, nI_leT, nI_leF, nI_eqT, nI_eqF, bk_MO_watch, gfM, q2, n_sh, s2, z, ce_MO_wide, t_MO_wide, hw2, nI_m1ne]
            · have zz := Classical.not_not.mp zz
              by_cases z : v = nI (2 ^ W) - nI 1
              · refine ⟨(nI i, some (.int (nI 1))), (nI i, some (.int v), some (.int y)), c, m1, fun m0 => ?_, fun c0 => ?_, rfl, Or.inr ⟨i, by omega, rfl⟩, rfl, rfl⟩
                · conv => lhs; rw [bh_Thought_fewestSeers_4]
                  simp (disch := first | assumption | omega | decide | (simp only [ma_wd0, ma_wdi, ma_wdr, ma_wdl, ma_wdn] <;> omega)) only [↓reduceIte, evK, evL, evS, evA, evJ, Option.bind_some, Option.toList, List.cons_append, List.nil_append, nI_add, pk_mul, bI0, ite_not, ev_rbb, up_n, up_s, up_u, pk_us, pk_un, Nat.reduceAdd, nI_ltT, nI_ltF, nI_leT, nI_leF, nI_eqT, nI_eqF, bk_Thought_fewestSeers, gfC, q1, n_sh, nI_m1ne, ce_Integer_bitCount, t_Integer_bitCount, zz, ce_Thought_seenBy, s1, z, ce_Told_allColumns, t_Told_allColumns, hw1]
                · conv => lhs; rw [bh_MO_watch_21]
                  simp (disch := first | assumption | omega | decide | (simp only [ma_wd0, ma_wdi, ma_wdr, ma_wdl, ma_wdn] <;> omega)) only [↓reduceIte, evK, evL, evS, evA, evJ, Option.bind_some, Option.toList, List.cons_append, List.nil_append, nI_add, pk_mul, bI0, ite_not, ev_rbb, up_n, up_s, up_u, pk_us, pk_un, Nat.reduceAdd, nI_ltT, nI_ltF, nI_leT, nI_leF, nI_eqT, nI_eqF, bk_MO_watch, gfM, q2, n_sh, s2, z, ce_MO_wide, t_MO_wide, hw2, nI_m1ne, ce_MO_onesOf, t_MO_onesOf6, zz]
              · refine ⟨(nI b, some (.int (nI 1))), (nI b, some (.int v), some (.int y)), c, m1, fun m0 => ?_, fun c0 => ?_, rfl, Or.inr ⟨b, hb, rfl⟩, rfl, rfl⟩
                · conv => lhs; rw [bh_Thought_fewestSeers_4]
                  simp (disch := first | assumption | omega | decide | (simp only [ma_wd0, ma_wdi, ma_wdr, ma_wdl, ma_wdn] <;> omega)) only [↓reduceIte, evK, evL, evS, evA, evJ, Option.bind_some, Option.toList, List.cons_append, List.nil_append, nI_add, pk_mul, bI0, ite_not, ev_rbb, up_n, up_s, up_u, pk_us, pk_un, Nat.reduceAdd, nI_ltT, nI_ltF, nI_leT, nI_leF, nI_eqT, nI_eqF, bk_Thought_fewestSeers, gfC, q1, n_sh, nI_m1ne, ce_Integer_bitCount, t_Integer_bitCount, zz, ce_Thought_seenBy, s1, z, ce_Told_allColumns, t_Told_allColumns, hw1]
                · conv => lhs; rw [bh_MO_watch_21]
                  simp (disch := first | assumption | omega | decide | (simp only [ma_wd0, ma_wdi, ma_wdr, ma_wdl, ma_wdn] <;> omega)) only [↓reduceIte, evK, evL, evS, evA, evJ, Option.bind_some, Option.toList, List.cons_append, List.nil_append, nI_add, pk_mul, bI0, ite_not, ev_rbb, up_n, up_s, up_u, pk_us, pk_un, Nat.reduceAdd, nI_ltT, nI_ltF, nI_leT, nI_leF, nI_eqT, nI_eqF, bk_MO_watch, gfM, q2, n_sh, s2, z, ce_MO_wide, t_MO_wide, hw2, nI_m1ne]) (2 ^ Q - 1) 1 (-1, none) (-1, none, none) c m1 (by omega) ⟨rfl, Or.inl rfl, rfl, rfl⟩
    obtain ⟨x1, x2⟩ := x
    obtain ⟨y1, y2, y3⟩ := y
    simp only at f1 f2 hxy hx
    subst hxy
    have e1 : ∀ m0, cc sc (d + 19) 112 [.ref 103] (hp c w m0) = some (some (.int x1), hp c w m0) := by
      intro m0
      simp (disch := first | assumption | omega | decide | (simp only [ma_wd0, ma_wdi, ma_wdr, ma_wdl, ma_wdn] <;> omega)) only [↓reduceIte, evK, evL, evS, evA, evJ, Option.bind_some, Option.toList, List.cons_append, List.nil_append, nI_add, pk_mul, bI0, ite_not, ev_rbb, up_n, up_s, up_u, pk_us, pk_un, Nat.reduceAdd, nI_ltT, nI_ltF, nI_leT, nI_leF, nI_eqT, nI_eqF, en_Thought_fewestSeers, f1]
      rw [bh_Thought_fewestSeers_4]
      simp (disch := first | assumption | omega | decide | (simp only [ma_wd0, ma_wdi, ma_wdr, ma_wdl, ma_wdn] <;> omega)) only [↓reduceIte, evK, evL, evS, evA, evJ, Option.bind_some, Option.toList, List.cons_append, List.nil_append, nI_add, pk_mul, bI0, ite_not, ev_rbb, up_n, up_s, up_u, pk_us, pk_un, Nat.reduceAdd, nI_ltT, nI_ltF, nI_leT, nI_leF, nI_eqT, nI_eqF, bk_Thought_fewestSeers, gfC, q1, n_sh]
    rcases hx with rfl | ⟨b, hb, rfl⟩
    · refine ⟨c, m1, -1, fun m0 => ?_, fun c0 => ?_, hq0⟩
      · rcases (show ka = 0 ∨ ka = 1 by omega) with rfl | rfl
        · simp (disch := first | assumption | omega | decide | (simp only [ma_wd0, ma_wdi, ma_wdr, ma_wdl, ma_wdn] <;> omega)) only [↓reduceIte, evK, evL, evS, evA, evJ, Option.bind_some, Option.toList, List.cons_append, List.nil_append, nI_add, pk_mul, bI0, ite_not, ev_rbb, up_n, up_s, up_u, pk_us, pk_un, Nat.reduceAdd, nI_ltT, nI_ltF, nI_leT, nI_leF, nI_eqT, nI_eqF, en_LH_watch, bk_LH_watch, gfC, ce_LH_within, t_LH_within, h1, and_self, not_true_eq_false, ce_Thought_fewestSeers, e1]
        · simp (disch := first | assumption | omega | decide | (simp only [ma_wd0, ma_wdi, ma_wdr, ma_wdl, ma_wdn] <;> omega)) only [↓reduceIte, evK, evL, evS, evA, evJ, Option.bind_some, Option.toList, List.cons_append, List.nil_append, nI_add, pk_mul, bI0, ite_not, ev_rbb, up_n, up_s, up_u, pk_us, pk_un, Nat.reduceAdd, nI_ltT, nI_ltF, nI_leT, nI_leF, nI_eqT, nI_eqF, en_LH_watch, bk_LH_watch, gfC, ce_LH_within, t_LH_within, h1, and_self, not_true_eq_false, ce_Thought_fewestSeers, e1]
      · simp (disch := first | assumption | omega | decide | (simp only [ma_wd0, ma_wdi, ma_wdr, ma_wdl, ma_wdn] <;> omega)) only [↓reduceIte, evK, evL, evS, evA, evJ, Option.bind_some, Option.toList, List.cons_append, List.nil_append, nI_add, pk_mul, bI0, ite_not, ev_rbb, up_n, up_s, up_u, pk_us, pk_un, Nat.reduceAdd, nI_ltT, nI_ltF, nI_leT, nI_leF, nI_eqT, nI_eqF, en_MO_watch, bk_MO_watch, gfM, pfM, hm1, ce_MO_isIn, t_MO_isIn, h1, and_self, not_true_eq_false, f2]
        rw [bh_MO_watch_21]
        simp (disch := first | assumption | omega | decide | (simp only [ma_wd0, ma_wdi, ma_wdr, ma_wdl, ma_wdn] <;> omega)) only [↓reduceIte, evK, evL, evS, evA, evJ, Option.bind_some, Option.toList, List.cons_append, List.nil_append, nI_add, pk_mul, bI0, ite_not, ev_rbb, up_n, up_s, up_u, pk_us, pk_un, Nat.reduceAdd, nI_ltT, nI_ltF, nI_leT, nI_leF, nI_eqT, nI_eqF, bk_MO_watch, gfM, q2, n_sh]
    · rcases (show ka = 0 ∨ ka = 1 by omega) with rfl | rfl
      · refine ⟨c, m1, pcS (nI b), fun m0 => ?_, fun c0 => ?_, hq0⟩
        · simp (disch := first | assumption | omega | decide | (simp only [ma_wd0, ma_wdi, ma_wdr, ma_wdl, ma_wdn] <;> omega)) only [↓reduceIte, evK, evL, evS, evA, evJ, Option.bind_some, Option.toList, List.cons_append, List.nil_append, nI_add, pk_mul, bI0, ite_not, ev_rbb, up_n, up_s, up_u, pk_us, pk_un, Nat.reduceAdd, nI_ltT, nI_ltF, nI_leT, nI_leF, nI_eqT, nI_eqF, en_LH_watch, bk_LH_watch, gfC, ce_LH_within, t_LH_within, h1, and_self, not_true_eq_false, ce_Thought_fewestSeers, e1, nI_m1ne, ce_Integer_bitCount, t_Integer_bitCount]
        · simp (disch := first | assumption | omega | decide | (simp only [ma_wd0, ma_wdi, ma_wdr, ma_wdl, ma_wdn] <;> omega)) only [↓reduceIte, evK, evL, evS, evA, evJ, Option.bind_some, Option.toList, List.cons_append, List.nil_append, nI_add, pk_mul, bI0, ite_not, ev_rbb, up_n, up_s, up_u, pk_us, pk_un, Nat.reduceAdd, nI_ltT, nI_ltF, nI_leT, nI_leF, nI_eqT, nI_eqF, en_MO_watch, bk_MO_watch, gfM, pfM, hm1, ce_MO_isIn, t_MO_isIn, h1, and_self, not_true_eq_false, f2]
          rw [bh_MO_watch_21]
          simp (disch := first | assumption | omega | decide | (simp only [ma_wd0, ma_wdi, ma_wdr, ma_wdl, ma_wdn] <;> omega)) only [↓reduceIte, evK, evL, evS, evA, evJ, Option.bind_some, Option.toList, List.cons_append, List.nil_append, nI_add, pk_mul, bI0, ite_not, ev_rbb, up_n, up_s, up_u, pk_us, pk_un, Nat.reduceAdd, nI_ltT, nI_ltF, nI_leT, nI_leF, nI_eqT, nI_eqF, bk_MO_watch, gfM, q2, n_sh, nI_m1ne, ce_MO_onesOf, t_MO_onesOf6]
      · refine ⟨c, m1, nI b, fun m0 => ?_, fun c0 => ?_, hq0⟩
        · simp (disch := first | assumption | omega | decide | (simp only [ma_wd0, ma_wdi, ma_wdr, ma_wdl, ma_wdn] <;> omega)) only [↓reduceIte, evK, evL, evS, evA, evJ, Option.bind_some, Option.toList, List.cons_append, List.nil_append, nI_add, pk_mul, bI0, ite_not, ev_rbb, up_n, up_s, up_u, pk_us, pk_un, Nat.reduceAdd, nI_ltT, nI_ltF, nI_leT, nI_leF, nI_eqT, nI_eqF, en_LH_watch, bk_LH_watch, gfC, ce_LH_within, t_LH_within, h1, and_self, not_true_eq_false, ce_Thought_fewestSeers, e1, nI_m1ne]
        · simp (disch := first | assumption | omega | decide | (simp only [ma_wd0, ma_wdi, ma_wdr, ma_wdl, ma_wdn] <;> omega)) only [↓reduceIte, evK, evL, evS, evA, evJ, Option.bind_some, Option.toList, List.cons_append, List.nil_append, nI_add, pk_mul, bI0, ite_not, ev_rbb, up_n, up_s, up_u, pk_us, pk_un, Nat.reduceAdd, nI_ltT, nI_ltF, nI_leT, nI_leF, nI_eqT, nI_eqF, en_MO_watch, bk_MO_watch, gfM, pfM, hm1, ce_MO_isIn, t_MO_isIn, h1, and_self, not_true_eq_false, f2]
          rw [bh_MO_watch_21]
          simp (disch := first | assumption | omega | decide | (simp only [ma_wd0, ma_wdi, ma_wdr, ma_wdl, ma_wdn] <;> omega)) only [↓reduceIte, evK, evL, evS, evA, evJ, Option.bind_some, Option.toList, List.cons_append, List.nil_append, nI_add, pk_mul, bI0, ite_not, ev_rbb, up_n, up_s, up_u, pk_us, pk_un, Nat.reduceAdd, nI_ltT, nI_ltF, nI_leT, nI_leF, nI_eqT, nI_eqF, bk_MO_watch, gfM, q2, n_sh, nI_m1ne]
  · refine ⟨c, m1, -1, fun m0 => ?_, fun c0 => ?_, hq0⟩
    · simp (disch := first | assumption | omega | decide | (simp only [ma_wd0, ma_wdi, ma_wdr, ma_wdl, ma_wdn] <;> omega)) only [↓reduceIte, evK, evL, evS, evA, evJ, Option.bind_some, Option.toList, List.cons_append, List.nil_append, nI_add, pk_mul, bI0, ite_not, ev_rbb, up_n, up_s, up_u, pk_us, pk_un, Nat.reduceAdd, nI_ltT, nI_ltF, nI_leT, nI_leF, nI_eqT, nI_eqF, en_LH_watch, bk_LH_watch, gfC, ce_LH_within, t_LH_within, h1, not_false_eq_true]
    · simp (disch := first | assumption | omega | decide | (simp only [ma_wd0, ma_wdi, ma_wdr, ma_wdl, ma_wdn] <;> omega)) only [↓reduceIte, evK, evL, evS, evA, evJ, Option.bind_some, Option.toList, List.cons_append, List.nil_append, nI_add, pk_mul, bI0, ite_not, ev_rbb, up_n, up_s, up_u, pk_us, pk_un, Nat.reduceAdd, nI_ltT, nI_ltF, nI_leT, nI_leF, nI_eqT, nI_eqF, en_MO_watch, bk_MO_watch, gfM, pfM, hm1, ce_MO_isIn, t_MO_isIn, h1, not_false_eq_true]
end P6
