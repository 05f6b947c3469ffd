/-! ===== texts: what the list machine asks of them ===== -/
theorem mx3 {tx : Nat → Int32 → Option Int32} {x k : Nat} {S S' : List Value} {h q : List ma_C} (hx : ma_x tx (.invokevirtual x) [3, k] S h = some (S', q)) : ∃ S0 v, S = .ref (4097 + k) :: S0 ∧ tx (3 * k) 0 = some v ∧ S' = .int v :: S0 ∧ (S0.map fun v => v.category).sum ≤ 8 := by
  simp only [ma_x] at hx
  split at hx
  next a S0 =>
    split at hx
    next hz =>
      split at hx
      next v hv =>
        cases hx
        obtain ⟨rfl, h8⟩ := hz
        exact ⟨S0, v, rfl, hv, rfl, Nat.le_of_not_lt h8⟩
      next => cases hx
    next => cases hx
  next => cases hx
theorem mx4 {tx : Nat → Int32 → Option Int32} {x k : Nat} {S S' : List Value} {h q : List ma_C} (hx : ma_x tx (.invokevirtual x) [4, k] S h = some (S', q)) : ∃ j S0 v, S = .int j :: .ref (4097 + k) :: S0 ∧ tx (3 * k + 1) j = some v ∧ S' = .int v :: S0 ∧ (S0.map fun v => v.category).sum ≤ 8 := by
  simp only [ma_x] at hx
  split at hx
  next j a S0 =>
    split at hx
    next hz =>
      split at hx
      next v hv =>
        cases hx
        obtain ⟨rfl, h8⟩ := hz
        exact ⟨j, S0, v, rfl, hv, rfl, Nat.le_of_not_lt h8⟩
      next => cases hx
    next => cases hx
  next => cases hx
theorem mx5 {tx : Nat → Int32 → Option Int32} {x k : Nat} {S S' : List Value} {h q : List ma_C} (hx : ma_x tx (.invokevirtual x) [5, k] S h = some (S', q)) : ∃ j S0 v, S = .int j :: .ref (4097 + k) :: S0 ∧ tx (3 * k + 2) j = some v ∧ S' = .int v :: S0 ∧ (S0.map fun v => v.category).sum ≤ 8 := by
  simp only [ma_x] at hx
  split at hx
  next j a S0 =>
    split at hx
    next hz =>
      split at hx
      next v hv =>
        cases hx
        obtain ⟨rfl, h8⟩ := hz
        exact ⟨j, S0, v, rfl, hv, rfl, Nat.le_of_not_lt h8⟩
      next => cases hx
    next => cases hx
  next => cases hx
