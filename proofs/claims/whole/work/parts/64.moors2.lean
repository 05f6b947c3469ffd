/-! ===== moors: the least sum, then the first way ===== -/
def mmN (D : Nat → Nat → Nat) (ok : Nat → Nat → Bool) (M' : Nat → Nat) (s U : Nat) : Nat → Nat
  | 0 => 1000000
  | n + 1 => if ok s n = true ∧ U.testBit n = false then min (mmN D ok M' s U n) (D s n + M' (U ||| 2 ^ n)) else mmN D ok M' s U n
def MnN (S W : Nat) (D : Nat → Nat → Nat) (ok : Nat → Nat → Bool) : Nat → Nat → Nat
  | 0, _ => 0
  | k + 1, U => mmN D ok (MnN S W D ok k) (S - (k + 1)) U W
def fsN (p : Nat → Bool) : Nat → Nat → Nat
  | 0, i => i
  | k + 1, i => if p i = true then i else fsN p k (i + 1)
theorem fsN_spec {p : Nat → Bool} : ∀ k i x, i ≤ x → x < i + k → p x = true → p (fsN p k i) = true ∧ i ≤ fsN p k i ∧ fsN p k i ≤ x ∧ ∀ j, i ≤ j → j < fsN p k i → p j = false
  | 0, i, x, h1, h2, _ => by omega
  | k + 1, i, x, h1, h2, h3 => by
    unfold fsN
    by_cases z : p i = true
    · rw [if_pos z]
      exact ⟨z, Nat.le_refl _, h1, fun j a b => by omega⟩
    · rw [if_neg z]
      have hne : i ≠ x := fun e => z (by rw [e]; exact h3)
      obtain ⟨a, b, c, d⟩ := fsN_spec k (i + 1) x (by omega) (by omega) h3
      refine ⟨a, by omega, c, fun j h4 h5 => ?_⟩
      by_cases e : j = i
      · rw [e]; simpa using z
      · exact d j (by omega) h5
def xpN (S W : Nat) (D : Nat → Nat → Nat) (ok : Nat → Nat → Bool) (k U x : Nat) : Bool := decide (ok (S - (k + 1)) x = true ∧ U.testBit x = false ∧ D (S - (k + 1)) x + MnN S W D ok k (U ||| 2 ^ x) = MnN S W D ok (k + 1) U)
def xsN (S W : Nat) (D : Nat → Nat → Nat) (ok : Nat → Nat → Bool) (k U : Nat) : Nat := fsN (xpN S W D ok k U) W 0
def KnN (S W : Nat) (D : Nat → Nat → Nat) (ok : Nat → Nat → Bool) : Nat → Nat → Nat
  | 0, _ => 0
  | k + 1, U => xsN S W D ok k U * 16 ^ (7 - (S - (k + 1))) + KnN S W D ok k (U ||| 2 ^ xsN S W D ok k U)
section MO4
variable {S W : Nat} {D : Nat → Nat → Nat} {ok : Nat → Nat → Bool}
theorem mmN_far {M' : Nat → Nat} {s U : Nat} : ∀ n, mmN D ok M' s U n ≤ 1000000
  | 0 => Nat.le_refl _
  | n + 1 => by
    have := mmN_far (M' := M') (s := s) (U := U) n
    unfold mmN
    split
    · exact Nat.le_trans (Nat.min_le_left _ _) this
    · exact this
theorem mmN_le {M' : Nat → Nat} {s U x : Nat} (h : ok s x = true ∧ U.testBit x = false) : ∀ n, x < n → mmN D ok M' s U n ≤ D s x + M' (U ||| 2 ^ x)
  | 0, hs => by omega
  | n + 1, hs => by
    unfold mmN
    by_cases e : x = n
    · subst e
      rw [if_pos h]
      exact Nat.min_le_right _ _
    · have := mmN_le (M' := M') h n (by omega)
      split
      · exact Nat.le_trans (Nat.min_le_left _ _) this
      · exact this
theorem mmN_at {M' : Nat → Nat} {s U : Nat} : ∀ n, mmN D ok M' s U n = 1000000 ∨ ∃ x, x < n ∧ (ok s x = true ∧ U.testBit x = false) ∧ mmN D ok M' s U n = D s x + M' (U ||| 2 ^ x)
  | 0 => Or.inl rfl
  | n + 1 => by
    have ih := mmN_at (M' := M') (s := s) (U := U) n
    unfold mmN
    split
    next z =>
      rcases Nat.le_total (mmN D ok M' s U n) (D s n + M' (U ||| 2 ^ n)) with q | q
      · rw [Nat.min_eq_left q]
        rcases ih with ih | ⟨x, h1, h2, h3⟩
        · exact Or.inl ih
        · exact Or.inr ⟨x, by omega, h2, h3⟩
      · rw [Nat.min_eq_right q]
        exact Or.inr ⟨n, by omega, z, rfl⟩
    next z =>
      rcases ih with ih | ⟨x, h1, h2, h3⟩
      · exact Or.inl ih
      · exact Or.inr ⟨x, by omega, h2, h3⟩
theorem MnN_far (k U : Nat) : MnN S W D ok k U ≤ 1000000 := by
  rcases k with _ | k
  · exact Nat.zero_le _
  · exact mmN_far W
theorem MnN_dich (hW : W ≤ 14) (hD : ∀ s x, x < 14 → D s x ≤ 13) : ∀ k U, MnN S W D ok k U = 1000000 ∨ MnN S W D ok k U ≤ 13 * k
  | 0, _ => Or.inr (Nat.le_refl _)
  | k + 1, U => by
    have hf := MnN_far (S := S) (W := W) (D := D) (ok := ok) (k + 1) U
    rcases mmN_at (D := D) (ok := ok) (M' := MnN S W D ok k) (s := S - (k + 1)) (U := U) W with z | ⟨x, h1, h2, h3⟩
    · exact Or.inl z
    · have e : MnN S W D ok (k + 1) U = D (S - (k + 1)) x + MnN S W D ok k (U ||| 2 ^ x) := h3
      have hd := hD (S - (k + 1)) x (by omega)
      rcases MnN_dich hW hD k (U ||| 2 ^ x) with q | q
      · exact Or.inl (by omega)
      · exact Or.inr (by omega)
/-- the first column by which the least sum is reached -/
theorem xsN_spec {k U : Nat} (h : MnN S W D ok (k + 1) U ≠ 1000000) : xsN S W D ok k U < W ∧ ok (S - (k + 1)) (xsN S W D ok k U) = true ∧ U.testBit (xsN S W D ok k U) = false ∧ D (S - (k + 1)) (xsN S W D ok k U) + MnN S W D ok k (U ||| 2 ^ xsN S W D ok k U) = MnN S W D ok (k + 1) U ∧ ∀ j, j < xsN S W D ok k U → xpN S W D ok k U j = false := by
  rcases mmN_at (D := D) (ok := ok) (M' := MnN S W D ok k) (s := S - (k + 1)) (U := U) W with z | ⟨x, h1, h2, h3⟩
  · exact absurd z h
  · obtain ⟨a, b, c, d⟩ := fsN_spec (p := xpN S W D ok k U) W 0 x (by omega) (by omega) (decide_eq_true ⟨h2.1, h2.2, h3.symm⟩)
    have a' := of_decide_eq_true a
    exact ⟨by unfold xsN; omega, a'.1, a'.2.1, a'.2.2, fun j hj => d j (by omega) hj⟩
theorem V_M (hS : S ≤ 8) (hW : W ≤ 14) (hD : ∀ s x, x < 14 → D s x ≤ 13) : ∀ k U, k ≤ S → (MnN S W D ok k U = 1000000 → VnN S W D ok k U = noW) ∧ (MnN S W D ok k U ≠ 1000000 → VnN S W D ok k U = MnN S W D ok k U * 4294967296 + KnN S W D ok k U ∧ KnN S W D ok k U < 16 ^ (8 - (S - k)))
  | 0, U, hk => ⟨fun h => by simp [MnN] at h, fun _ => ⟨by simp [VnN, MnN, KnN], by simp only [KnN]; exact Nat.pow_pos (by decide)⟩⟩
  | k + 1, U, hk => by
    have ih := fun U' => V_M hS hW hD k U' (by omega)
    have dich := MnN_dich (S := S) (ok := ok) hW hD
    have he : 8 - (S - k) = 7 - (S - (k + 1)) := by omega
    generalize hs : S - (k + 1) = s at *
    have hnow : ∀ U', MnN S W D ok k U' ≠ 1000000 → VnN S W D ok k U' ≠ noW := fun U' h => by
      obtain ⟨a, b⟩ := (ih U').2 h
      have h1 : MnN S W D ok k U' ≤ 13 * k := (dich k U').resolve_left h
      have h2 : 16 ^ (8 - (S - k)) ≤ 16 ^ 8 := Nat.pow_le_pow_right (by decide) (by omega)
      have h3 : (16 : Nat) ^ 8 = 4294967296 := by decide
      rw [a]
      unfold noW
      omega
    have ec : VnN S W D ok (k + 1) U = vmN D ok (VnN S W D ok k) s U W := by rw [← hs]; rfl
    have em : MnN S W D ok (k + 1) U = mmN D ok (MnN S W D ok k) s U W := by rw [← hs]; rfl
    constructor
    · intro h
      rw [ec]
      rcases vmN_at (D := D) (ok := ok) (V' := VnN S W D ok k) (s := s) (U := U) W with z | ⟨x, hx, ⟨z1, z2, z3⟩, z4⟩
      · exact z
      · exfalso
        have hne : MnN S W D ok k (U ||| 2 ^ x) ≠ 1000000 := fun q => z3 ((ih _).1 q)
        have h1 := (dich k (U ||| 2 ^ x)).resolve_left hne
        have h2 := mmN_le (D := D) (M' := MnN S W D ok k) (n := W) ⟨z1, z2⟩ hx
        rw [← em, h] at h2
        have := hD s x (by omega)
        omega
    · intro h
      obtain ⟨x1, x2, x3, x4, x5⟩ := xsN_spec h
      have eK : KnN S W D ok (k + 1) U = xsN S W D ok k U * 16 ^ (7 - s) + KnN S W D ok k (U ||| 2 ^ xsN S W D ok k U) := by rw [← hs]; rfl
      have hxp : ∀ j, xpN S W D ok k U j = decide (ok s j = true ∧ U.testBit j = false ∧ D s j + MnN S W D ok k (U ||| 2 ^ j) = MnN S W D ok (k + 1) U) := fun j => by rw [← hs]; rfl
      rw [hs] at x2 x4
      generalize xsN S W D ok k U = xs at *
      have hM := (dich (k + 1) U).resolve_left h
      have hne : MnN S W D ok k (U ||| 2 ^ xs) ≠ 1000000 := by omega
      obtain ⟨v1, v2⟩ := (ih (U ||| 2 ^ xs)).2 hne
      rw [he] at v2
      have hp : 16 ^ (8 - s) = 16 * 16 ^ (7 - s) := by
        rw [show 8 - s = (7 - s) + 1 by omega, Nat.pow_succ, Nat.mul_comm]
      have hp16 : 16 * 16 ^ (7 - s) ≤ 4294967296 := by
        have : 16 ^ (7 - s) ≤ 16 ^ 7 := Nat.pow_le_pow_right (by decide) (by omega)
        have h3 : (16 : Nat) ^ 7 = 268435456 := by decide
        omega
      generalize hE : 16 ^ (7 - s) = E at *
      have hx16 : xs * E ≤ 13 * E := Nat.mul_le_mul_right _ (by omega)
      have cand : ∀ x, tmN D s x = D s x * 4294967296 + x * E := fun x => by unfold tmN; rw [hE]
      refine ⟨?_, ?_⟩
      · rw [ec, eK]
        have hle := vmN_le (D := D) (V' := VnN S W D ok k) (n := W) ⟨x2, x3, hnow _ hne⟩ x1
        rw [cand, v1] at hle
        have e1 : D s xs * 4294967296 + MnN S W D ok k (U ||| 2 ^ xs) * 4294967296 = MnN S W D ok (k + 1) U * 4294967296 := by rw [← Nat.add_mul, x4]
        rcases vmN_at (D := D) (ok := ok) (V' := VnN S W D ok k) (s := s) (U := U) W with z | ⟨x, hx, ⟨z1, z2, z3⟩, z4⟩
        · exfalso
          rw [z] at hle
          unfold noW at hle
          omega
        · have hne2 : MnN S W D ok k (U ||| 2 ^ x) ≠ 1000000 := fun q => z3 ((ih _).1 q)
          obtain ⟨w1, w2⟩ := (ih (U ||| 2 ^ x)).2 hne2
          rw [he, hE] at w2
          rw [cand, w1] at z4
          have h2 := mmN_le (D := D) (M' := MnN S W D ok k) (n := W) ⟨z1, z2⟩ hx
          rw [← em] at h2
          have e2 : D s x * 4294967296 + MnN S W D ok k (U ||| 2 ^ x) * 4294967296 = (D s x + MnN S W D ok k (U ||| 2 ^ x)) * 4294967296 := by rw [← Nat.add_mul]
          rcases Nat.lt_or_ge (MnN S W D ok (k + 1) U) (D s x + MnN S W D ok k (U ||| 2 ^ x)) with q | q
          · exfalso
            have := Nat.mul_le_mul_right 4294967296 q
            rw [Nat.succ_mul] at this
            omega
          · have q2 : D s x + MnN S W D ok k (U ||| 2 ^ x) = MnN S W D ok (k + 1) U := by omega
            have hge : xs ≤ x := by
              rcases Nat.lt_or_ge x xs with y | y
              · have := x5 x y
                rw [hxp, decide_eq_false_iff_not] at this
                exact absurd ⟨z1, z2, q2⟩ this
              · exact y
            rw [q2] at e2
            by_cases y : xs = x
            · subst y
              rw [z4, ← e1]
              exact Nat.add_add_add_comm _ _ _ _
            · exfalso
              have := Nat.mul_le_mul_right E (show xs + 1 ≤ x by omega)
              rw [Nat.succ_mul] at this
              omega
      · rw [eK, hp]
        omega
/-- the way, ship by ship -/
def uFN (S W : Nat) (D : Nat → Nat → Nat) (ok : Nat → Nat → Bool) : Nat → Nat
  | 0 => 0
  | j + 1 => uFN S W D ok j ||| 2 ^ xsN S W D ok (S - (j + 1)) (uFN S W D ok j)
def cFN (S W : Nat) (D : Nat → Nat → Nat) (ok : Nat → Nat → Bool) (j : Nat) : Nat := xsN S W D ok (S - (j + 1)) (uFN S W D ok j)
theorem path_ne (hW : W ≤ 14) (hS : S ≤ 8) (hD : ∀ s x, x < 14 → D s x ≤ 13) (h : MnN S W D ok S 0 ≠ 1000000) : ∀ j, j ≤ S → MnN S W D ok (S - j) (uFN S W D ok j) ≠ 1000000
  | 0, _ => h
  | j + 1, hj => by
    have ih := path_ne hW hS hD h j (by omega)
    obtain ⟨k, hk⟩ : ∃ k, S - j = k + 1 := ⟨S - j - 1, by omega⟩
    rw [hk] at ih
    have hk2 : S - (j + 1) = k := by omega
    obtain ⟨x1, x2, x3, x4, -⟩ := xsN_spec ih
    have := (MnN_dich (S := S) (ok := ok) hW hD (k + 1) (uFN S W D ok j)).resolve_left ih
    show MnN S W D ok (S - (j + 1)) (uFN S W D ok j ||| 2 ^ xsN S W D ok (S - (j + 1)) (uFN S W D ok j)) ≠ 1000000
    rw [hk2]
    omega
theorem K_split : ∀ j, j ≤ S → S ≤ 8 → ∃ q, KnN S W D ok S 0 = q * 16 ^ (8 - j) + KnN S W D ok (S - j) (uFN S W D ok j)
  | 0, _, _ => ⟨0, by simp [uFN]⟩
  | j + 1, hj, hS => by
    obtain ⟨q, ih⟩ := K_split j (by omega) hS
    obtain ⟨k, hk⟩ : ∃ k, S - j = k + 1 := ⟨S - j - 1, by omega⟩
    have hk2 : S - (j + 1) = k := by omega
    refine ⟨16 * q + cFN S W D ok j, ?_⟩
    rw [ih, hk]
    show q * 16 ^ (8 - j) + (xsN S W D ok k (uFN S W D ok j) * 16 ^ (7 - (S - (k + 1))) + KnN S W D ok k (uFN S W D ok j ||| 2 ^ xsN S W D ok k (uFN S W D ok j))) = _
    have e1 : uFN S W D ok (j + 1) = uFN S W D ok j ||| 2 ^ xsN S W D ok k (uFN S W D ok j) := by
      show uFN S W D ok j ||| 2 ^ xsN S W D ok (S - (j + 1)) (uFN S W D ok j) = _
      rw [hk2]
    have e2 : cFN S W D ok j = xsN S W D ok k (uFN S W D ok j) := by unfold cFN; rw [hk2]
    rw [e1, e2, hk2, show S - (k + 1) = j by omega, show 8 - j = (7 - j) + 1 by omega, Nat.pow_succ, show 8 - (j + 1) = 7 - j by omega, Nat.add_mul]
    have : q * (16 ^ (7 - j) * 16) = 16 * q * 16 ^ (7 - j) := by rw [← Nat.mul_assoc, Nat.mul_comm (q * 16 ^ (7 - j)) 16, Nat.mul_assoc]
    omega
/-- what the one number tells -/
theorem V_nib (hS : S ≤ 8) (hW : W ≤ 14) (hD : ∀ s x, x < 14 → D s x ≤ 13) (h : MnN S W D ok S 0 ≠ 1000000) {j : Nat} (hj : j < S) : VnN S W D ok S 0 / 16 ^ (7 - j) % 16 = cFN S W D ok j ∧ cFN S W D ok j < W := by
  obtain ⟨v1, -⟩ := (V_M (ok := ok) hS hW hD S 0 (Nat.le_refl _)).2 h
  obtain ⟨q, hq⟩ := K_split (D := D) (ok := ok) (W := W) j (by omega) hS
  have hne := path_ne hW hS hD h j (by omega)
  obtain ⟨k, hk⟩ : ∃ k, S - j = k + 1 := ⟨S - j - 1, by omega⟩
  have hk2 : S - (j + 1) = k := by omega
  rw [hk] at hne hq
  obtain ⟨x1, -⟩ := xsN_spec hne
  have hne2 := path_ne hW hS hD h (j + 1) (by omega)
  obtain ⟨-, v2⟩ := (V_M (ok := ok) hS hW hD (S - (j + 1)) (uFN S W D ok (j + 1)) (by omega)).2 hne2
  have e2 : cFN S W D ok j = xsN S W D ok k (uFN S W D ok j) := by unfold cFN; rw [hk2]
  have eK : KnN S W D ok (k + 1) (uFN S W D ok j) = cFN S W D ok j * 16 ^ (7 - j) + KnN S W D ok (S - (j + 1)) (uFN S W D ok (j + 1)) := by
    rw [e2]
    show xsN S W D ok k (uFN S W D ok j) * 16 ^ (7 - (S - (k + 1))) + KnN S W D ok k (uFN S W D ok j ||| 2 ^ xsN S W D ok k (uFN S W D ok j)) = _
    have e1 : uFN S W D ok (j + 1) = uFN S W D ok j ||| 2 ^ xsN S W D ok k (uFN S W D ok j) := by
      show uFN S W D ok j ||| 2 ^ xsN S W D ok (S - (j + 1)) (uFN S W D ok j) = _
      rw [hk2]
    rw [e1, hk2, show S - (k + 1) = j by omega]
  rw [← e2] at x1
  rw [show 8 - (S - (S - (j + 1))) = 7 - j by omega] at v2
  refine ⟨?_, x1⟩
  rw [v1, hq, eK]
  have e8 : (4294967296 : Nat) = 16 ^ j * 16 * 16 ^ (7 - j) := by
    rw [← Nat.pow_succ, ← Nat.pow_add, show j + 1 + (7 - j) = 8 by omega]
  have e9 : 16 ^ (8 - j) = 16 * 16 ^ (7 - j) := by rw [show 8 - j = (7 - j) + 1 by omega, Nat.pow_succ, Nat.mul_comm]
  generalize KnN S W D ok (S - (j + 1)) (uFN S W D ok (j + 1)) = K at *
  generalize cFN S W D ok j = x at *
  generalize MnN S W D ok S 0 = M at *
  rw [e8, e9]
  have hE : 0 < 16 ^ (7 - j) := Nat.pow_pos (by decide)
  generalize 16 ^ (7 - j) = E at *
  generalize 16 ^ j = J at *
  have e : M * (J * 16 * E) + (q * (16 * E) + (x * E + K)) = K + E * (16 * (M * J + q) + x) := by
    rw [Nat.mul_add E, Nat.mul_comm E x, ← Nat.mul_assoc E 16, Nat.mul_add (E * 16), Nat.mul_comm E 16, Nat.mul_comm (16 * E) q, Nat.mul_comm (16 * E) (M * J), Nat.mul_assoc M J (16 * E), Nat.mul_assoc J 16 E]
    omega
  rw [e, Nat.add_mul_div_left _ _ hE, Nat.div_eq_of_lt v2]
  omega
end MO4
