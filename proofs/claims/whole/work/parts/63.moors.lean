/-! ===== moors, on numbers: by columns and sets of ships; ship by ship over sets of columns ===== -/
def noW : Nat := 4611686018427387904
def tC : Nat := 59324235776
theorem tC_8 {n : Nat} (h : n ≤ 8) : n * tC < noW := Nat.lt_of_le_of_lt (Nat.mul_le_mul_right _ h) (by decide)
def isM (P : Nat → Prop) (v : Nat) : Prop := (∀ x, P x → v ≤ x) ∧ (v = noW ∨ P v)
theorem isM_u {P : Nat → Prop} {v v' : Nat} (hP : ∀ x, P x → x < noW) (h : isM P v) (h' : isM P v') : v = v' := by
  rcases h.2 with a | a <;> rcases h'.2 with b | b
  · rw [a, b]
  · have := h.1 v' b; have := hP v' b; omega
  · have := h'.1 v a; have := hP v a; omega
  · have := h.1 v' b; have := h'.1 v a; omega
section MO1
variable (S W : Nat) (D : Nat → Nat → Nat) (ok : Nat → Nat → Bool)
def tmN (D : Nat → Nat → Nat) (s x : Nat) : Nat := D s x * 4294967296 + x * 16 ^ (7 - s)
def wwN (D : Nat → Nat → Nat) (ok : Nat → Nat → Bool) (W' : Nat → Nat) (c set : Nat) : Nat → Nat
  | 0 => noW
  | n + 1 => if set.testBit n = true ∧ ok n c = true ∧ W' (clr set (2 ^ n)) ≠ noW then min (wwN D ok W' c set n) (W' (clr set (2 ^ n)) + tmN D n c) else wwN D ok W' c set n
def WnN (S : Nat) (D : Nat → Nat → Nat) (ok : Nat → Nat → Bool) : Nat → Nat → Nat
  | 0, set => if set = 0 then 0 else noW
  | c + 1, set => min (WnN S D ok c set) (wwN D ok (WnN S D ok c) c set S)
def pA (ok : Nat → Nat → Bool) (c set : Nat) (f : Nat → Nat) : Prop := (∀ s, set.testBit s = true → f s < c ∧ ok s (f s) = true) ∧ ∀ s t, set.testBit s = true → set.testBit t = true → f s = f t → s = t
def vlN (D : Nat → Nat → Nat) (f : Nat → Nat) (set : Nat) : Nat → Nat
  | 0 => 0
  | n + 1 => vlN D f set n + if set.testBit n = true then tmN D n (f n) else 0
end MO1
section MO2
variable {S W : Nat} {D : Nat → Nat → Nat} {ok : Nat → Nat → Bool}
theorem vlN_congr {f g : Nat → Nat} {set set' : Nat} : ∀ n, (∀ s, s < n → set.testBit s = set'.testBit s) → (∀ s, s < n → set.testBit s = true → f s = g s) → vlN D f set n = vlN D g set' n
  | 0, _, _ => rfl
  | n + 1, h1, h2 => by
    simp only [vlN]
    rw [vlN_congr n (fun s hs => h1 s (by omega)) (fun s hs => h2 s (by omega)), ← h1 n (by omega)]
    split
    next z => rw [h2 n (by omega) z]
    next => rfl
theorem vlN_off {f : Nat → Nat} {set s0 : Nat} (hb : set.testBit s0 = true) : ∀ n, s0 < n → vlN D f set n = vlN D f (clr set (2 ^ s0)) n + tmN D s0 (f s0)
  | 0, h => by omega
  | n + 1, h => by
    simp only [vlN]
    by_cases e : s0 = n
    · subst e
      have h1 : vlN D f set s0 = vlN D f (clr set (2 ^ s0)) s0 := vlN_congr s0 (fun s hs => by
        rw [clr_bit, Nat.testBit_two_pow]
        simp [show s0 ≠ s by omega]) (fun _ _ _ => rfl)
      have h2 : (clr set (2 ^ s0)).testBit s0 = false := by rw [clr_bit, Nat.testBit_two_pow]; simp
      rw [if_pos hb, h2, h1]
      simp
    · have h2 : (clr set (2 ^ s0)).testBit n = set.testBit n := by rw [clr_bit, Nat.testBit_two_pow]; simp [e]
      rw [vlN_off hb n (by omega), h2]
      omega
theorem tmN_le {s x : Nat} (hD : D s x ≤ 13) (hx : x < 14) : tmN D s x ≤ tC := by
  unfold tmN tC
  have h1 : 16 ^ (7 - s) ≤ 16 ^ 7 := Nat.pow_le_pow_right (by decide) (by omega)
  have h2 : x * 16 ^ (7 - s) ≤ 13 * 16 ^ 7 := Nat.mul_le_mul (by omega) h1
  have h3 : (16 : Nat) ^ 7 = 268435456 := by decide
  omega
theorem vlN_le {f : Nat → Nat} {set : Nat} (h : ∀ s, set.testBit s = true → D s (f s) ≤ 13 ∧ f s < 14) : ∀ n, vlN D f set n ≤ n * tC
  | 0 => Nat.zero_le _
  | n + 1 => by
    have := vlN_le h n
    simp only [vlN]
    rw [Nat.succ_mul]
    split
    next z => exact Nat.add_le_add this (tmN_le (h n z).1 (h n z).2)
    next => exact Nat.le_trans this (Nat.le_add_right _ _)
theorem wwN_le {W' : Nat → Nat} {c set s : Nat} (h : set.testBit s = true ∧ ok s c = true ∧ W' (clr set (2 ^ s)) ≠ noW) : ∀ n, s < n → wwN D ok W' c set n ≤ W' (clr set (2 ^ s)) + tmN D s c
  | 0, hs => by omega
  | n + 1, hs => by
    unfold wwN
    by_cases e : s = n
    · subst e
      rw [if_pos h]
      exact Nat.min_le_right _ _
    · have := wwN_le h n (by omega)
      split
      · exact Nat.le_trans (Nat.min_le_left _ _) this
      · exact this
theorem wwN_at {W' : Nat → Nat} {c set : Nat} : ∀ n, wwN D ok W' c set n = noW ∨ ∃ s, s < n ∧ (set.testBit s = true ∧ ok s c = true ∧ W' (clr set (2 ^ s)) ≠ noW) ∧ wwN D ok W' c set n = W' (clr set (2 ^ s)) + tmN D s c
  | 0 => Or.inl rfl
  | n + 1 => by
    have ih := wwN_at (W' := W') (c := c) (set := set) n
    unfold wwN
    split
    next z =>
      rcases Nat.le_total (wwN D ok W' c set n) (W' (clr set (2 ^ n)) + tmN D n c) with q | q
      · rw [Nat.min_eq_left q]
        rcases ih with ih | ⟨s, h1, h2, h3⟩
        · exact Or.inl ih
        · exact Or.inr ⟨s, by omega, h2, h3⟩
      · rw [Nat.min_eq_right q]
        exact Or.inr ⟨n, by omega, z, rfl⟩
    next z =>
      rcases ih with ih | ⟨s, h1, h2, h3⟩
      · exact Or.inl ih
      · exact Or.inr ⟨s, by omega, h2, h3⟩
theorem bit_lt {set n s : Nat} (h : set < 2 ^ n) (hs : set.testBit s = true) : s < n := by
  rcases Nat.lt_or_ge s n with z | z
  · exact z
  · rw [Nat.testBit_lt_two_pow (Nat.lt_of_lt_of_le h (Nat.pow_le_pow_right (by decide) z))] at hs
    cases hs
theorem WnN_min (hS : S ≤ 8) (hD : ∀ s x, x < 14 → D s x ≤ 13) : ∀ c set, c ≤ 14 → set < 2 ^ S → isM (fun x => ∃ f, pA ok c set f ∧ x = vlN D f set S) (WnN S D ok c set)
  | 0, set, hc, hset => by
    unfold WnN
    by_cases z : set = 0
    · subst z
      rw [if_pos rfl]
      have h0 : ∀ n, vlN D (fun _ => 0) 0 n = 0 := fun n => by
        induction n with
        | zero => rfl
        | succ n ih => simp [vlN, ih]
      exact ⟨fun _ _ => Nat.zero_le _, Or.inr ⟨fun _ => 0, ⟨fun s h => by simp at h, fun s t h => by simp at h⟩, (h0 S).symm⟩⟩
    · rw [if_neg z]
      refine ⟨fun x ⟨f, hf, _⟩ => ?_, Or.inl rfl⟩
      exfalso
      apply z
      apply Nat.eq_of_testBit_eq
      intro i
      rw [Nat.zero_testBit]
      cases e : set.testBit i
      · rfl
      · have := (hf.1 i e).1; omega
  | c + 1, set, hc, hset => by
    have ih := fun set' h => WnN_min hS hD c set' (by omega) h
    have hlt : ∀ set' x, (∃ f, pA ok c set' f ∧ x = vlN D f set' S) → x < noW := fun set' x ⟨f, hf, e⟩ => by
      have := vlN_le (D := D) (f := f) (set := set') (fun s hs => ⟨hD s _ (by have := (hf.1 s hs).1; omega), by have := (hf.1 s hs).1; omega⟩) S
      rw [e]
      exact Nat.lt_of_le_of_lt this (tC_8 hS)
    have ec : WnN S D ok (c + 1) set = min (WnN S D ok c set) (wwN D ok (WnN S D ok c) c set S) := rfl
    refine ⟨fun x ⟨f, hf, e⟩ => ?_, ?_⟩
    · rw [ec]
      by_cases q : ∃ s0, set.testBit s0 = true ∧ f s0 = c
      · obtain ⟨s0, q1, q2⟩ := q
        have hs0 := bit_lt hset q1
        have hp : pA ok c (clr set (2 ^ s0)) f := by
          refine ⟨fun s hs => ?_, fun s t hs ht h => ?_⟩
          · rw [clr_bit, Bool.and_eq_true, Nat.testBit_two_pow] at hs
            have h1 := hf.1 s hs.1
            have hne : s0 ≠ s := fun z => by
              subst z
              simp at hs
            have : f s ≠ c := fun z => hne (hf.2 s0 s q1 hs.1 (q2.trans z.symm))
            exact ⟨by omega, h1.2⟩
          · rw [clr_bit, Bool.and_eq_true] at hs ht
            exact hf.2 s t hs.1 ht.1 h
        have i1 := ih (clr set (2 ^ s0)) (clr_lt hset)
        have i2 := i1.1 _ ⟨f, hp, rfl⟩
        have i3 := hlt _ _ ⟨f, hp, rfl⟩
        have hw := wwN_le (D := D) (W' := WnN S D ok c) (n := S) ⟨q1, by have := (hf.1 s0 q1).2; rw [q2] at this; exact this, by omega⟩ hs0
        have ho := vlN_off (D := D) (f := f) q1 S hs0
        rw [q2] at ho
        have := Nat.min_le_right (WnN S D ok c set) (wwN D ok (WnN S D ok c) c set S)
        omega
      · have hp : pA ok c set f := ⟨fun s hs => by
          have h1 := hf.1 s hs
          have : f s ≠ c := fun z => q ⟨s, hs, z⟩
          exact ⟨by omega, h1.2⟩, hf.2⟩
        have i2 := (ih set hset).1 _ ⟨f, hp, rfl⟩
        have := Nat.min_le_left (WnN S D ok c set) (wwN D ok (WnN S D ok c) c set S)
        omega
    · rw [ec]
      rcases Nat.le_total (WnN S D ok c set) (wwN D ok (WnN S D ok c) c set S) with q | q
      · rw [Nat.min_eq_left q]
        rcases (ih set hset).2 with z | ⟨f, hf, e⟩
        · exact Or.inl z
        · exact Or.inr ⟨f, ⟨fun s hs => ⟨by have := (hf.1 s hs).1; omega, (hf.1 s hs).2⟩, hf.2⟩, e⟩
      · rw [Nat.min_eq_right q]
        rcases wwN_at (D := D) (ok := ok) (W' := WnN S D ok c) (c := c) (set := set) S with z | ⟨s, hs, ⟨z1, z2, z3⟩, z4⟩
        · exact Or.inl z
        · rcases (ih (clr set (2 ^ s)) (clr_lt hset)).2 with y | ⟨f, hf, e⟩
          · exact absurd y z3
          · refine Or.inr ⟨fun t => if t = s then c else f t, ⟨fun t ht => ?_, fun t u ht hu h => ?_⟩, ?_⟩
            · by_cases q : t = s
              · simp only [if_pos q]; subst q; exact ⟨by omega, z2⟩
              · simp only [if_neg q]
                have := hf.1 t (by rw [clr_bit, ht, Nat.testBit_two_pow]; simp; omega)
                exact ⟨by omega, this.2⟩
            · by_cases q : t = s <;> by_cases q' : u = s
              · omega
              · simp only [if_pos q, if_neg q'] at h
                have := (hf.1 u (by rw [clr_bit, hu, Nat.testBit_two_pow]; simp; omega)).1
                omega
              · simp only [if_neg q, if_pos q'] at h
                have := (hf.1 t (by rw [clr_bit, ht, Nat.testBit_two_pow]; simp; omega)).1
                omega
              · simp only [if_neg q, if_neg q'] at h
                exact hf.2 t u (by rw [clr_bit, ht, Nat.testBit_two_pow]; simp; omega) (by rw [clr_bit, hu, Nat.testBit_two_pow]; simp; omega) h
            · rw [z4, e, vlN_off z1 S hs]
              simp only [if_true]
              congr 1
              exact vlN_congr S (fun _ _ => rfl) (fun t _ ht => by
                rw [clr_bit, Bool.and_eq_true, Nat.testBit_two_pow] at ht
                have : t ≠ s := fun z => by
                  subst z
                  simp at ht
                rw [if_neg this])
end MO2
section MO3
def vmN (D : Nat → Nat → Nat) (ok : Nat → Nat → Bool) (V' : Nat → Nat) (s U : Nat) : Nat → Nat
  | 0 => noW
  | n + 1 => if ok s n = true ∧ U.testBit n = false ∧ V' (U ||| 2 ^ n) ≠ noW then min (vmN D ok V' s U n) (tmN D s n + V' (U ||| 2 ^ n)) else vmN D ok V' s U n
def VnN (S W : Nat) (D : Nat → Nat → Nat) (ok : Nat → Nat → Bool) : Nat → Nat → Nat
  | 0, _ => 0
  | k + 1, U => vmN D ok (VnN S W D ok k) (S - (k + 1)) U W
def qA (S W : Nat) (ok : Nat → Nat → Bool) (s U : Nat) (f : Nat → Nat) : Prop := (∀ t, s ≤ t → t < S → f t < W ∧ ok t (f t) = true ∧ U.testBit (f t) = false) ∧ ∀ t u, s ≤ t → t < S → s ≤ u → u < S → f t = f u → t = u
def vsN (D : Nat → Nat → Nat) (f : Nat → Nat) : Nat → Nat → Nat
  | _, 0 => 0
  | s, k + 1 => tmN D s (f s) + vsN D f (s + 1) k
variable {S W : Nat} {D : Nat → Nat → Nat} {ok : Nat → Nat → Bool}
theorem vsN_congr {f g : Nat → Nat} : ∀ k s, (∀ t, s ≤ t → t < s + k → f t = g t) → vsN D f s k = vsN D g s k
  | 0, _, _ => rfl
  | k + 1, s, h => by
    simp only [vsN]
    rw [h s (by omega) (by omega), vsN_congr k (s + 1) (fun t a b => h t (by omega) (by omega))]
theorem vsN_le {f : Nat → Nat} : ∀ k s, (∀ t, s ≤ t → t < s + k → D t (f t) ≤ 13 ∧ f t < 14) → vsN D f s k ≤ k * tC
  | 0, _, _ => Nat.zero_le _
  | k + 1, s, h => by
    have h1 := tmN_le (h s (by omega) (by omega)).1 (h s (by omega) (by omega)).2
    have h2 := vsN_le k (s + 1) (fun t a b => h t (by omega) (by omega))
    simp only [vsN]
    rw [Nat.succ_mul, Nat.add_comm]
    exact Nat.add_le_add h2 h1
theorem vmN_le {V' : Nat → Nat} {s U x : Nat} (h : ok s x = true ∧ U.testBit x = false ∧ V' (U ||| 2 ^ x) ≠ noW) : ∀ n, x < n → vmN D ok V' s U n ≤ tmN D s x + V' (U ||| 2 ^ x)
  | 0, hs => by omega
  | n + 1, hs => by
    unfold vmN
    by_cases e : x = n
    · subst e
      rw [if_pos h]
      exact Nat.min_le_right _ _
    · have := vmN_le h n (by omega)
      split
      · exact Nat.le_trans (Nat.min_le_left _ _) this
      · exact this
theorem vmN_at {V' : Nat → Nat} {s U : Nat} : ∀ n, vmN D ok V' s U n = noW ∨ ∃ x, x < n ∧ (ok s x = true ∧ U.testBit x = false ∧ V' (U ||| 2 ^ x) ≠ noW) ∧ vmN D ok V' s U n = tmN D s x + V' (U ||| 2 ^ x)
  | 0 => Or.inl rfl
  | n + 1 => by
    have ih := vmN_at (V' := V') (s := s) (U := U) n
    unfold vmN
    split
    next z =>
      rcases Nat.le_total (vmN D ok V' s U n) (tmN D s n + V' (U ||| 2 ^ n)) with q | q
      · rw [Nat.min_eq_left q]
        rcases ih with ih | ⟨x, h1, h2, h3⟩
        · exact Or.inl ih
        · exact Or.inr ⟨x, by omega, h2, h3⟩
      · rw [Nat.min_eq_right q]
        exact Or.inr ⟨n, by omega, z, rfl⟩
    next z =>
      rcases ih with ih | ⟨x, h1, h2, h3⟩
      · exact Or.inl ih
      · exact Or.inr ⟨x, by omega, h2, h3⟩
theorem VnN_min (hS : S ≤ 8) (hW : W ≤ 14) (hD : ∀ s x, x < 14 → D s x ≤ 13) : ∀ k U, k ≤ S → isM (fun x => ∃ f, qA S W ok (S - k) U f ∧ x = vsN D f (S - k) k) (VnN S W D ok k U)
  | 0, U, hk => ⟨fun _ _ => Nat.zero_le _, Or.inr ⟨fun _ => 0, ⟨fun t a b => by omega, fun t u a b => by omega⟩, rfl⟩⟩
  | k + 1, U, hk => by
    have ih := fun U' => VnN_min hS hW hD k U' (by omega)
    have hs1 : S - (k + 1) + 1 = S - k := by omega
    have hlt : ∀ U' x, (∃ f, qA S W ok (S - k) U' f ∧ x = vsN D f (S - k) k) → x < noW := fun U' x ⟨f, hf, e⟩ => by
      have := vsN_le (D := D) (f := f) k (S - k) (fun t a b => ⟨hD t _ (by have := (hf.1 t a (by omega)).1; omega), by have := (hf.1 t a (by omega)).1; omega⟩)
      rw [e]
      exact Nat.lt_of_le_of_lt this (tC_8 (by omega))
    have ec : VnN S W D ok (k + 1) U = vmN D ok (VnN S W D ok k) (S - (k + 1)) U W := rfl
    have ev2 : ∀ f, vsN D f (S - (k + 1)) (k + 1) = tmN D (S - (k + 1)) (f (S - (k + 1))) + vsN D f (S - k) k := fun f => by
      simp only [vsN]
      rw [hs1]
    refine ⟨fun x ⟨f, hf, e⟩ => ?_, ?_⟩
    · rw [ec, e, ev2]
      obtain ⟨h1, h2, h3⟩ := hf.1 (S - (k + 1)) (Nat.le_refl _) (by omega)
      have hq : qA S W ok (S - k) (U ||| 2 ^ f (S - (k + 1))) f := by
        refine ⟨fun t a b => ?_, fun t u a b a' b' h => hf.2 t u (by omega) b (by omega) b' h⟩
        obtain ⟨g1, g2, g3⟩ := hf.1 t (by omega) b
        refine ⟨g1, g2, ?_⟩
        rw [Nat.testBit_or, g3, Nat.testBit_two_pow]
        have : f (S - (k + 1)) ≠ f t := fun z => by have := hf.2 _ _ (Nat.le_refl _) (by omega) (by omega) b z; omega
        simp [this]
      have i2 := (ih _).1 _ ⟨f, hq, rfl⟩
      have i3 := hlt _ _ ⟨f, hq, rfl⟩
      have hw := vmN_le (D := D) (V' := VnN S W D ok k) (n := W) ⟨h2, h3, by omega⟩ h1
      omega
    · rw [ec]
      rcases vmN_at (D := D) (ok := ok) (V' := VnN S W D ok k) (s := S - (k + 1)) (U := U) W with z | ⟨x, hx, ⟨z1, z2, z3⟩, z4⟩
      · exact Or.inl z
      · rcases (ih (U ||| 2 ^ x)).2 with y | ⟨f, hf, e⟩
        · exact absurd y z3
        · have key : ∀ t, S - k ≤ t → t < S → f t ≠ x := fun t a b z => by
            have := (hf.1 t a b).2.2
            rw [z, Nat.testBit_or, Nat.testBit_two_pow] at this
            simp at this
          refine Or.inr ⟨fun t => if t = S - (k + 1) then x else f t, ⟨fun t a b => ?_, fun t u a b a' b' h => ?_⟩, ?_⟩
          · by_cases q : t = S - (k + 1)
            · simp only [if_pos q]; subst q; exact ⟨hx, z1, z2⟩
            · simp only [if_neg q]
              obtain ⟨g1, g2, g3⟩ := hf.1 t (by omega) b
              refine ⟨g1, g2, ?_⟩
              rw [Nat.testBit_or] at g3
              cases e : U.testBit (f t)
              · rfl
              · rw [e] at g3; simp at g3
          · by_cases q : t = S - (k + 1) <;> by_cases q' : u = S - (k + 1)
            · omega
            · simp only [if_pos q, if_neg q'] at h
              exact absurd h.symm (key u (by omega) b')
            · simp only [if_neg q, if_pos q'] at h
              exact absurd h (key t (by omega) b)
            · simp only [if_neg q, if_neg q'] at h
              exact hf.2 t u (by omega) b (by omega) b' h
          · rw [z4, e, ev2]
            simp only [if_true]
            congr 1
            exact vsN_congr k (S - k) (fun t a b => by rw [if_neg (by omega)])
theorem vl_vs {f : Nat → Nat} {set : Nat} (h : ∀ s, s < S → set.testBit s = true) : ∀ k, k ≤ S → vlN D f set S = vlN D f set (S - k) + vsN D f (S - k) k
  | 0, _ => by simp [vsN]
  | k + 1, hk => by
    rw [vl_vs h k (by omega)]
    simp only [vsN]
    rw [show S - (k + 1) + 1 = S - k by omega, show S - k = S - (k + 1) + 1 by omega]
    simp only [vlN]
    rw [if_pos (h _ (by omega))]
    omega
/-- both ways give the same number -/
theorem W_V (hS : S ≤ 8) (hW : W ≤ 14) (hD : ∀ s x, x < 14 → D s x ≤ 13) : WnN S D ok W (2 ^ S - 1) = VnN S W D ok S 0 := by
  have hpos : 0 < 2 ^ S := Nat.two_pow_pos S
  have hbit : ∀ s, (2 ^ S - 1).testBit s = decide (s < S) := fun s => Nat.testBit_two_pow_sub_one S s
  have a := WnN_min (ok := ok) hS hD W (2 ^ S - 1) hW (by omega)
  have b := VnN_min (ok := ok) hS hW hD S 0 (Nat.le_refl _)
  rw [Nat.sub_self] at b
  have e : (fun x => ∃ f, pA ok W (2 ^ S - 1) f ∧ x = vlN D f (2 ^ S - 1) S) = (fun x => ∃ f, qA S W ok 0 0 f ∧ x = vsN D f 0 S) := by
    funext x
    apply propext
    have ev3 : ∀ f, vlN D f (2 ^ S - 1) S = vsN D f 0 S := fun f => by
      have := vl_vs (D := D) (f := f) (S := S) (set := 2 ^ S - 1) (fun s hs => by rw [hbit]; simp [hs]) S (Nat.le_refl _)
      rw [Nat.sub_self] at this
      simpa [vlN] using this
    constructor
    · rintro ⟨f, hf, h⟩
      refine ⟨f, ⟨fun t _ ht => ?_, fun t u _ ht _ hu h => hf.2 t u (by rw [hbit]; simp [ht]) (by rw [hbit]; simp [hu]) h⟩, by rw [h, ev3]⟩
      have := hf.1 t (by rw [hbit]; simp [ht])
      exact ⟨this.1, this.2, Nat.zero_testBit _⟩
    · rintro ⟨f, hf, h⟩
      refine ⟨f, ⟨fun t ht => ?_, fun t u ht hu h => ?_⟩, by rw [h, ev3]⟩
      · rw [hbit, decide_eq_true_eq] at ht
        have := hf.1 t (by omega) ht
        exact ⟨this.1, this.2.1⟩
      · rw [hbit, decide_eq_true_eq] at ht hu
        exact hf.2 t u (by omega) ht (by omega) hu h
  rw [e] at a
  refine isM_u (fun x ⟨f, hf, e⟩ => ?_) a b
  have := vsN_le (D := D) (f := f) S 0 (fun t a b => ⟨hD t _ (by have := (hf.1 t a (by omega)).1; omega), by have := (hf.1 t a (by omega)).1; omega⟩)
  rw [e]
  exact Nat.lt_of_le_of_lt this (tC_8 hS)
end MO3
