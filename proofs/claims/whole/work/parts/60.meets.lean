/-! ===== meets: which wants can be met together, on numbers ===== -/
def clr (a b : Nat) : Nat := a ^^^ (a &&& b)
theorem clr_bit (a b i : Nat) : (clr a b).testBit i = (a.testBit i && !b.testBit i) := by
  unfold clr
  rw [Nat.testBit_xor, Nat.testBit_and]
  cases a.testBit i <;> cases b.testBit i <;> rfl
theorem clr_lt {a b n : Nat} (h : a < 2 ^ n) : clr a b < 2 ^ n := by
  apply Nat.lt_pow_two_of_testBit
  intro i hi
  rw [clr_bit, Nat.testBit_lt_two_pow (Nat.lt_of_lt_of_le h (Nat.pow_le_pow_right (by decide) hi))]
  rfl
theorem n_clr {a b : Nat} (ha : a < 2 ^ 31) : nI a &&& (nI b ^^^ (-1)) = nI (clr a b) := by
  rw [n_neg1, n_xor, n_and]
  congr 1
  apply Nat.eq_of_testBit_eq
  intro i
  rw [clr_bit, Nat.testBit_and, Nat.testBit_xor, Nat.testBit_two_pow_sub_one]
  rcases Nat.lt_or_ge i 32 with z | z
  · have : decide (i < 32) = true := by simp; omega
    rw [this]
    cases a.testBit i <;> cases b.testBit i <;> rfl
  · rw [Nat.testBit_lt_two_pow (Nat.lt_of_lt_of_le ha (Nat.pow_le_pow_right (by decide) (by omega)))]
    rfl
def pdN (y : Nat → Nat) : Nat → Nat → Nat
  | 0, _ => 0
  | n + 1, T => pdN y n T + if T.testBit n = true then y n else 0
theorem pdN_congr {y : Nat → Nat} : ∀ n {T T' : Nat}, (∀ i, i < n → T.testBit i = T'.testBit i) → pdN y n T = pdN y n T'
  | 0, _, _, _ => rfl
  | n + 1, T, T', h => by
    simp only [pdN]
    rw [pdN_congr n (fun i hi => h i (by omega)), h n (by omega)]
theorem pdN_le {y : Nat → Nat} (hy : ∀ i, y i ≤ 99) : ∀ n T, pdN y n T ≤ 99 * n
  | 0, _ => Nat.le_refl _
  | n + 1, T => by
    have := pdN_le hy n T
    have := hy n
    simp only [pdN]
    split <;> omega
theorem pdN_hi {y : Nat → Nat} {k : Nat} : ∀ {n T : Nat}, k ≤ n → (∀ i, k ≤ i → T.testBit i = false) → pdN y n T = pdN y k T
  | 0, T, hk, _ => by rw [show k = 0 by omega]
  | n + 1, T, hk, h => by
    by_cases e : k = n + 1
    · rw [e]
    · simp only [pdN]
      rw [h n (by omega), pdN_hi (n := n) (by omega) h]
      simp
def bm (y cl : Nat → Nat) : Nat → Nat → Nat
  | 0, _ => 4095
  | k + 1, f => if f.testBit k = true then
      (if 0 < y k ∧ clr f (2 ^ k) &&& cl k = 0 then bm y cl k (clr (clr f (2 ^ k)) (cl k)) + y k * 4096 - 2 ^ k
        else max (bm y cl k (clr (clr f (2 ^ k)) (cl k)) + y k * 4096 - 2 ^ k) (bm y cl k (clr f (2 ^ k))))
      else bm y cl k (clr f (2 ^ k))
def cfN (cl : Nat → Nat) (T : Nat) : Prop := ∀ a b, T.testBit a = true → T.testBit b = true → (cl a).testBit b = false
def inN (k f T : Nat) : Prop := ∀ i, T.testBit i = true → i < k ∧ f.testBit i = true
def enN (y : Nat → Nat) (k T : Nat) : Nat := pdN y k T * 4096 + (4095 - T)
theorem inN_lt {k f T : Nat} (h : inN k f T) : T < 2 ^ k := by
  apply Nat.lt_pow_two_of_testBit
  intro i hi
  cases e : T.testBit i
  · rfl
  · have := (h i e).1; omega
theorem p2_12 {k : Nat} (h : k ≤ 12) : 2 ^ k ≤ 4096 := Nat.le_trans (Nat.pow_le_pow_right (by decide) h) (by decide)
theorem p2_d (k : Nat) : 2 ^ (k + 1) = 2 * 2 ^ k := by rw [Nat.pow_succ]; omega
/-- with its greatest taken away -/
theorem top_off {k f T : Nat} (h : inN (k + 1) f T) (hb : T.testBit k = true) : T = 2 ^ k + clr T (2 ^ k) ∧ clr T (2 ^ k) < 2 ^ k := by
  have hl : clr T (2 ^ k) < 2 ^ k := by
    apply Nat.lt_pow_two_of_testBit
    intro i hi
    rw [clr_bit, Nat.testBit_two_pow]
    by_cases e : k = i
    · subst e; simp
    · cases q : T.testBit i
      · rfl
      · have := (h i q).1; omega
  refine ⟨?_, hl⟩
  have := Nat.two_pow_add_eq_or_of_lt hl 1
  rw [Nat.mul_one] at this
  rw [this]
  apply Nat.eq_of_testBit_eq
  intro i
  rw [Nat.testBit_or, clr_bit, Nat.testBit_two_pow]
  by_cases e : k = i
  · subst e; simp [hb]
  · simp [e]
theorem bm_lo {y cl : Nat → Nat} : ∀ k f, k ≤ 12 → 4096 - 2 ^ k ≤ bm y cl k f
  | 0, _, _ => by simp [bm]
  | k + 1, f, hk => by
    have h1 := bm_lo (y := y) (cl := cl) k (clr (clr f (2 ^ k)) (cl k)) (by omega)
    have h2 := bm_lo (y := y) (cl := cl) k (clr f (2 ^ k)) (by omega)
    have h3 := p2_d k
    unfold bm
    repeat' split
    all_goals omega
theorem bm_hi {y cl : Nat → Nat} (hy : ∀ i, y i ≤ 99) : ∀ k f, bm y cl k f ≤ 4095 + k * 405504
  | 0, _ => by simp [bm]
  | k + 1, f => by
    have h1 := bm_hi (cl := cl) hy k (clr (clr f (2 ^ k)) (cl k))
    have h2 := bm_hi (cl := cl) hy k (clr f (2 ^ k))
    have h3 := hy k
    rw [Nat.succ_mul]
    unfold bm
    generalize bm y cl k (clr (clr f (2 ^ k)) (cl k)) = A at h1 ⊢
    generalize bm y cl k (clr f (2 ^ k)) = B at h2 ⊢
    have h4 : A + y k * 4096 - 2 ^ k ≤ 4095 + (k * 405504 + 405504) := Nat.le_trans (Nat.sub_le _ _) (by omega)
    repeat' split
    · exact h4
    · exact Nat.max_le.mpr ⟨h4, Nat.le_trans h2 (Nat.add_le_add_left (Nat.le_add_right _ _) _)⟩
    · exact Nat.le_trans h2 (Nat.add_le_add_left (Nat.le_add_right _ _) _)
theorem bm_ub {y cl : Nat → Nat} : ∀ k f T, k ≤ 12 → inN k f T → cfN cl T → enN y k T ≤ bm y cl k f
  | 0, f, T, _, hi, _ => by
    have := inN_lt hi
    show pdN y 0 T * 4096 + (4095 - T) ≤ 4095
    simp only [pdN]
    omega
  | k + 1, f, T, hk, hi, hc => by
    have hT := inN_lt hi
    have hk2 := p2_12 (show k ≤ 12 by omega)
    have hkd := p2_d k
    have hkp := p2_12 hk
    by_cases hb : T.testBit k = true
    · obtain ⟨e, hl⟩ := top_off hi hb
      have hf := (hi k hb).2
      have hi2 : inN k (clr (clr f (2 ^ k)) (cl k)) (clr T (2 ^ k)) := by
        intro i h
        rw [clr_bit, Bool.and_eq_true] at h
        have h1 := hi i h.1
        have hne : k ≠ i := by
          intro z
          subst z
          simp at h
        have h2 := hc k i hb h.1
        refine ⟨by omega, ?_⟩
        rw [clr_bit, clr_bit, h1.2, Nat.testBit_two_pow, h2]
        simp [hne]
      have hc2 : cfN cl (clr T (2 ^ k)) := by
        intro a b h1 h2
        rw [clr_bit, Bool.and_eq_true] at h1 h2
        exact hc a b h1.1 h2.1
      have ih := bm_ub (y := y) k _ _ (by omega) hi2 hc2
      have ep : pdN y k (clr T (2 ^ k)) = pdN y k T := pdN_congr k (fun i h => by
        rw [clr_bit, Nat.testBit_two_pow]
        simp [show k ≠ i by omega])
      have eE : enN y (k + 1) T = enN y k (clr T (2 ^ k)) + y k * 4096 - 2 ^ k := by
        unfold enN
        rw [ep]
        simp only [pdN]
        rw [if_pos hb, Nat.add_mul]
        omega
      rw [eE]
      unfold bm
      rw [if_pos hf]
      split
      · omega
      · omega
    · have hb' : T.testBit k = false := by simpa using hb
      have hi2 : inN k (clr f (2 ^ k)) T := by
        intro i h
        have h1 := hi i h
        have hne : k ≠ i := by
          intro z
          subst z
          exact hb h
        refine ⟨by omega, ?_⟩
        rw [clr_bit, h1.2, Nat.testBit_two_pow]
        simp [hne]
      have ih := bm_ub (y := y) k _ _ (by omega) hi2 hc
      have eE : enN y (k + 1) T = enN y k T := by
        unfold enN
        simp only [pdN]
        rw [hb']
        simp
      rw [eE]
      unfold bm
      by_cases hf : f.testBit k = true
      · rw [if_pos hf]
        split
        next q =>
          have ec : clr (clr f (2 ^ k)) (cl k) = clr f (2 ^ k) := by
            apply Nat.eq_of_testBit_eq
            intro i
            rw [clr_bit]
            have := congrArg (fun v => Nat.testBit v i) q.2
            simp only [Nat.testBit_and, Nat.zero_testBit] at this
            cases h1 : (clr f (2 ^ k)).testBit i <;> cases h2 : (cl k).testBit i <;> simp_all
          rw [ec]
          have := q.1
          omega
        next q => omega
      · rw [if_neg hf]
        exact ih
theorem bm_at {y cl : Nat → Nat} (hir : ∀ a, (cl a).testBit a = false) (hsy : ∀ a b, (cl a).testBit b = (cl b).testBit a) : ∀ k f, k ≤ 12 → ∃ T, inN k f T ∧ cfN cl T ∧ bm y cl k f = enN y k T
  | 0, f, _ => ⟨0, fun i h => by simp at h, fun a b h => by simp at h, by simp [bm, enN, pdN]⟩
  | k + 1, f, hk => by
    have hk2 := p2_12 (show k ≤ 12 by omega)
    have hkd := p2_d k
    have hkp := p2_12 hk
    have sub : ∀ T, inN k (clr f (2 ^ k)) T → cfN cl T → bm y cl k (clr f (2 ^ k)) = enN y k T → inN (k + 1) f T ∧ cfN cl T ∧ bm y cl k (clr f (2 ^ k)) = enN y (k + 1) T := by
      intro T h1 h2 h3
      refine ⟨fun i h => ?_, h2, ?_⟩
      · have := h1 i h
        rw [clr_bit, Bool.and_eq_true] at this
        exact ⟨by omega, this.2.1⟩
      · rw [h3]
        unfold enN
        simp only [pdN]
        have : T.testBit k = false := Nat.testBit_lt_two_pow (inN_lt h1)
        rw [this]
        simp
    obtain ⟨T2, a2, b2, e2⟩ := bm_at (y := y) hir hsy k (clr f (2 ^ k)) (by omega)
    by_cases hf : f.testBit k = true
    · obtain ⟨T1, a1, b1, e1⟩ := bm_at (y := y) hir hsy k (clr (clr f (2 ^ k)) (cl k)) (by omega)
      have hT1 := inN_lt a1
      have hor := Nat.two_pow_add_eq_or_of_lt hT1 1
      rw [Nat.mul_one] at hor
      have hbit : ∀ i, (2 ^ k + T1).testBit i = (decide (k = i) || T1.testBit i) := fun i => by rw [hor, Nat.testBit_or, Nat.testBit_two_pow]
      have c1 : inN (k + 1) f (2 ^ k + T1) := by
        intro i h
        rw [hbit, Bool.or_eq_true, decide_eq_true_eq] at h
        rcases h with h | h
        · subst h; exact ⟨by omega, hf⟩
        · have := a1 i h
          rw [clr_bit, clr_bit, Bool.and_eq_true, Bool.and_eq_true] at this
          exact ⟨by omega, this.2.1.1⟩
      have key : ∀ i, T1.testBit i = true → (cl k).testBit i = false := fun i h => by
        have := (a1 i h).2
        rw [clr_bit, Bool.and_eq_true] at this
        simpa using this.2
      have c2 : cfN cl (2 ^ k + T1) := by
        intro a b h1 h2
        rw [hbit, Bool.or_eq_true, decide_eq_true_eq] at h1 h2
        rcases h1 with h1 | h1 <;> rcases h2 with h2 | h2
        · subst h1; subst h2; exact hir k
        · subst h1; exact key b h2
        · subst h2; rw [hsy]; exact key a h1
        · exact b1 a b h1 h2
      have c3 : bm y cl k (clr (clr f (2 ^ k)) (cl k)) + y k * 4096 - 2 ^ k = enN y (k + 1) (2 ^ k + T1) := by
        rw [e1]
        unfold enN
        simp only [pdN]
        have hbk : (2 ^ k + T1).testBit k = true := by rw [hbit]; simp
        have ep : pdN y k (2 ^ k + T1) = pdN y k T1 := pdN_congr k (fun i h => by
          have q : decide (k = i) = false := by simp; omega
          rw [hbit, q]
          rfl)
        rw [if_pos hbk, ep, Nat.add_mul]
        omega
      unfold bm
      rw [if_pos hf]
      split
      · exact ⟨_, c1, c2, c3⟩
      · rcases Nat.le_total (bm y cl k (clr (clr f (2 ^ k)) (cl k)) + y k * 4096 - 2 ^ k) (bm y cl k (clr f (2 ^ k))) with z | z
        · rw [Nat.max_eq_right z]
          exact ⟨T2, sub T2 a2 b2 e2⟩
        · rw [Nat.max_eq_left z]
          exact ⟨_, c1, c2, c3⟩
    · unfold bm
      rw [if_neg hf]
      exact ⟨T2, sub T2 a2 b2 e2⟩
/-- the best by trying: least among the best paid -/
theorem bm_best {y cl : Nat → Nat} (hir : ∀ a, (cl a).testBit a = false) (hsy : ∀ a b, (cl a).testBit b = (cl b).testBit a) {n f B : Nat} (hn : n ≤ 12) (h1 : inN n f B) (h2 : cfN cl B) (h3 : ∀ T, inN n f T → cfN cl T → pdN y n T ≤ pdN y n B ∧ (pdN y n T = pdN y n B → B ≤ T)) : bm y cl n f = enN y n B := by
  obtain ⟨T, a, b, e⟩ := bm_at (y := y) hir hsy n f hn
  have h4 := bm_ub (y := y) n f B hn h1 h2
  obtain ⟨h5, h6⟩ := h3 T a b
  have hB := inN_lt h1
  have hT := inN_lt a
  have hp := p2_12 hn
  rw [e] at h4 ⊢
  unfold enN at h4 ⊢
  rcases Nat.lt_or_ge (pdN y n T) (pdN y n B) with z | z
  · have : (pdN y n T + 1) * 4096 ≤ pdN y n B * 4096 := Nat.mul_le_mul_right _ z
    omega
  · have e2 : pdN y n T = pdN y n B := by omega
    have := h6 e2
    rw [e2] at h4 ⊢
    omega
