/-! ===== class and reference: one relation over all that stays ===== -/
/-- the reference's image, as the rows it was taken of -/
def mI (m : Nat → Nat → Int32) : Nat → Nat → Int32 := fun k j =>
  if k = 138 then m 166 (if j = 6 then 49 else if j = 7 then 50 else if j = 8 then 51 else if j = 9 then 52 else if j = 10 then 53 else if j = 38 then 54 else if j = 40 then 55 else 56)
  else if k = 139 then m 166 j
  else if k = 142 then m 166 (57 + j)
  else if k = 143 then m 166 (65 + 2 * j)
  else if k = 144 then m 166 (66 + 2 * j)
  else if k = 161 then m 166 (77 + j)
  else if k = 156 then m 166 (93 + j)
  else if k = 157 then m 166 (157 + j)
  else if k = 145 then m 166 (217 + j)
  else if k = 148 then m 166 817
  else if k = 149 then m 166 (818 + 4 * j)
  else if k = 150 then m 166 (819 + 4 * j)
  else if k = 151 then m 166 (820 + 4 * j)
  else if k = 152 then m 166 (821 + 4 * j)
  else if k = 153 then m 166 (882 + 2 * j)
  else m 166 (883 + 2 * j)
def iR (c m : Nat → Nat → Int32) : Prop := (c 0 6 = nI 0 ∧ m 138 55 = nI 0) ∨ (c 0 6 = nI 1 ∧ m 138 55 = nI 1 ∧ ∃ W S Q ls Z, tR W S Q ls (fun k => c (k + 23)) (mI m) ∧ zC 17 (fun k => c (k + 23)) Z S ∧ zM (mI m) Z S ∧ zI W S Z ∧ ∀ j, j < 600 → c 46 j = mI m 145 j)
def wdN : List Nat := [32, 119, 101, 97, 114, 32, 115, 108, 105, 100, 101, 32, 99, 111, 115, 116, 32, 115, 117, 110, 32, 119, 104, 101, 110, 32, 111, 114, 32, 97, 110, 100, 32, 110, 111, 116, 32, 99, 111, 108, 117, 109, 110, 32, 104, 101, 105, 103, 104, 116, 32, 119, 111, 114, 110, 32, 104, 111, 117, 114, 32, 100, 97, 121, 32, 108, 101, 97, 110, 115, 32, 98, 121, 32, 97, 116, 32, 115, 101, 116, 32, 116, 111, 32, 108, 105, 102, 116, 32, 100, 114, 111, 112, 32, 109, 101, 110, 100, 32, 112, 105, 101, 114, 32, 119, 97, 110, 116, 115, 32, 102, 114, 111, 109, 32, 112, 97, 121, 115, 32]
def xT (c m : Nat → Nat → Int32) : Prop := ∃ n, n ≤ 400 ∧ c 79 1 = nI n ∧ m 138 16 = nI n ∧ ∀ j, j < n → ∃ b, b < 256 ∧ m 146 j = nI b ∧ c 80 j = vp_nar .byte (nI b)
def xR (c m : Nat → Nat → Int32) : Prop := xT c m ∧ c 79 7 = m 138 36 ∧ c 79 8 = m 138 37 ∧ ∀ j, j < 120 → m 147 j = nI (wdN.getD j 0)
def gR (c m : Nat → Nat → Int32) : Prop := ∃ W S Q ls, tR W S Q ls c m ∧ (∃ Z, jR 17 W S c m Z) ∧ pR W S c m ∧ iR c m ∧ xR c m
theorem pR.eq {W S : Nat} {c m c' m' : Nat → Nat → Int32} (h : pR W S c m) (h1 : ∀ k, 47 ≤ k → k ≤ 78 → c' k = c k) (h2 : m' 140 = m 140) (h3 : m' 138 3 = m 138 3) : pR W S c' m' := by
  obtain ⟨n, hn, e1, e3, p, hpp, hi, hz⟩ := h
  refine ⟨n, hn, by rw [h1 47 (by omega) (by omega)]; exact e1, by rw [h3]; exact e3, p, fun i h => ⟨(hpp i h).1, by rw [h1 48 (by omega) (by omega)]; exact (hpp i h).2⟩, hi, fun i h => ?_⟩
  obtain ⟨Z, z1, z2, z3⟩ := hz i h
  have := (hpp i (by omega)).1
  refine ⟨Z, z1.eq (fun k a b => h1 k (by omega) (by omega)), ?_, z3⟩
  rw [h2]
  exact z2
theorem pR.zero {W S W' S' : Nat} {c m c' m' : Nat → Nat → Int32} (h : pR W S c m) (h1 : c' 48 = c 48) (h2 : c' 47 1 = nI 0) (h3 : m' 138 3 = nI 0) : pR W' S' c' m' := by
  obtain ⟨n, hn, e1, e3, p, hpp, hi, hz⟩ := h
  exact ⟨0, by omega, h2, h3, p, fun i h => by rw [h1]; exact hpp i h, hi, fun i h => by omega⟩
theorem mI_c {m m' : Nat → Nat → Int32} (h : m' 166 = m 166) : mI m' = mI m := by
  funext k j
  simp only [mI, h]
theorem iR.eq {c m c' m' : Nat → Nat → Int32} (h : iR c m) (h0 : c' 0 6 = c 0 6) (h1 : ∀ k, 24 ≤ k → k ≤ 46 → c' k = c k) (h2 : m' 166 = m 166) (h3 : m' 138 55 = m 138 55) : iR c' m' := by
  unfold iR at *
  rw [h0, h3, mI_c h2]
  rcases h with h | ⟨a, b, W, S, Q, ls, Z, t, z, r⟩
  · exact Or.inl h
  · refine Or.inr ⟨a, b, W, S, Q, ls, Z, t.eq (fun k hk => ?_) (fun _ _ => rfl) (fun _ _ => rfl), z.eq (fun k h3 h4 => h1 _ (by omega) (by omega)), ?_⟩
    · simp only [tRc, List.mem_cons, List.not_mem_nil, or_false] at hk
      exact h1 _ (by omega) (by omega)
    · rw [h1 46 (by omega) (by omega)]
      exact r
theorem xR.eq {c m c' m' : Nat → Nat → Int32} (h : xR c m) (h1 : c' 79 1 = c 79 1) (h2 : c' 79 7 = c 79 7) (h3 : c' 79 8 = c 79 8) (h4 : c' 80 = c 80) (h5 : m' 138 16 = m 138 16) (h6 : m' 138 36 = m 138 36) (h7 : m' 138 37 = m 138 37) (h8 : m' 146 = m 146) (h9 : m' 147 = m 147) : xR c' m' := by
  unfold xR xT at *
  rw [h1, h2, h3, h4, h5, h6, h7, h8, h9]
  exact h
theorem jR.eq {a W S : Nat} {c m c' m' Z : Nat → Nat → Int32} (h : jR a W S c m Z) (h1 : ∀ k, a ≤ k → k ≤ a + 4 → c' k = c k) (h2 : c' 23 = c 23) (h3 : m' 139 = m 139) (h4 : m' 145 = m 145) (h5 : m' 138 5 = m 138 5) : jR a W S c' m' Z := by
  obtain ⟨a1, a2, a3, a4, a5⟩ := h
  refine ⟨a1.eq h1, ?_, a3, ?_, ?_⟩
  · unfold zM at *
    rw [h3]; exact a2
  · rw [h2, h4]; exact a4
  · rw [h5]; exact a5
/-- a call that changes nothing that stays -/
def mE : List Nat := [139, 140, 142, 143, 144, 145, 146, 147, 148, 149, 150, 151, 152, 153, 154, 156, 157, 161, 166]
def fE : List Nat := [3, 5, 6, 7, 8, 9, 10, 16, 36, 37, 38, 40, 47, 55]
theorem gR.q {c m c' m' : Nat → Nat → Int32} (h : gR c m) (h1 : ∀ k, k ≤ 80 → c' k = c k) (h2 : ∀ k ∈ mE, m' k = m k) (h3 : ∀ k ∈ fE, m' 138 k = m 138 k) : gR c' m' := by
  obtain ⟨W, S, Q, ls, t, ⟨Z, j⟩, p, i, x⟩ := h
  simp only [mE, fE, List.forall_mem_cons, List.not_mem_nil, false_implies, implies_true, and_true] at h2 h3
  obtain ⟨e139, e140, e142, e143, e144, e145, e146, e147, e148, e149, e150, e151, e152, e153, e154, e156, e157, e161, e166⟩ := h2
  obtain ⟨f3, f5, f6, f7, f8, f9, f10, f16, f36, f37, f38, f40, f47, f55⟩ := h3
  refine ⟨W, S, Q, ls, t.eq (fun k hk => h1 k ?_) ?_ ?_, ⟨Z, j.eq (fun k a b => h1 k (by omega)) (h1 23 (by omega)) e139 e145 f5⟩, p.eq (fun k a b => h1 k (by omega)) e140 f3, i.eq (by rw [h1 0 (by omega)]) (fun k a b => h1 k (by omega)) e166 f55, x.eq (by rw [h1 79 (by omega)]) (by rw [h1 79 (by omega)]) (by rw [h1 79 (by omega)]) (h1 80 (by omega)) f16 f36 f37 e146 e147⟩
  · simp only [tRc, List.mem_cons, List.not_mem_nil, or_false] at hk; omega
  · simp only [tRm, List.forall_mem_cons, List.not_mem_nil, false_implies, implies_true, and_true]
    exact ⟨e142, e143, e144, e148, e149, e150, e151, e152, e153, e154, e156, e157, e161⟩
  · simp only [tRf, List.forall_mem_cons, List.not_mem_nil, false_implies, implies_true, and_true]
    exact ⟨f6, f7, f8, f9, f10, f38, f40, f47⟩
/-- an hour's doing: lines, book, what is kept -/
theorem gR.h {W S Q : Nat} {ls : List lL} {c m c' m' Z : Nat → Nat → Int32} (t : tR W S Q ls c m) (i : iR c m) (x : xR c m) (j : jR 17 W S c' m' Z) (p : pR W S c' m') (h1 : ∀ k, k ≤ 16 ∨ (24 ≤ k ∧ k ≤ 46) ∨ (79 ≤ k ∧ k ≤ 80) → c' k = c k) (h2 : ∀ k, 141 ≤ k → k ≠ 145 → k ≠ 158 → k ≠ 159 → k ≠ 141 → m' k = m k) (h3 : ∀ k, k ≠ 0 → k ≠ 3 → k ≠ 44 → k ≠ 45 → m' 138 k = m 138 k) : gR c' m' := by
  refine ⟨W, S, Q, ls, t.eq (fun k hk => h1 k ?_) (fun k hk => ?_) (fun k hk => ?_), ⟨Z, j⟩, p, i.eq (by rw [h1 0 (by omega)]) (fun k a b => h1 k (by omega)) (h2 166 (by omega) (by omega) (by omega) (by omega) (by omega)) (h3 55 (by omega) (by omega) (by omega) (by omega)), x.eq (by rw [h1 79 (by omega)]) (by rw [h1 79 (by omega)]) (by rw [h1 79 (by omega)]) (h1 80 (by omega)) (h3 _ (by omega) (by omega) (by omega) (by omega)) (h3 _ (by omega) (by omega) (by omega) (by omega)) (h3 _ (by omega) (by omega) (by omega) (by omega)) (h2 _ (by omega) (by omega) (by omega) (by omega) (by omega)) (h2 _ (by omega) (by omega) (by omega) (by omega) (by omega))⟩
  · simp only [tRc, List.mem_cons, List.not_mem_nil, or_false] at hk; omega
  · simp only [tRm, List.mem_cons, List.not_mem_nil, or_false] at hk
    exact h2 k (by omega) (by omega) (by omega) (by omega) (by omega)
  · simp only [tRf, List.mem_cons, List.not_mem_nil, or_false] at hk
    exact h3 k (by omega) (by omega) (by omega) (by omega)
/-- a public call of both -/
def pub (sc : Nat × (Nat → Int32)) (w : Nat → Int64) (d mC mM : Nat) (as : List Value) (c m : Nat → Nat → Int32) : Prop := ∃ c' m' v, (∀ m0, cc sc d mC (.ref 0 :: as) (hp c w m0) = some (some (.int v), hp c' w m0)) ∧ (∀ c0, cc sc d mM (.ref 138 :: as) (hp c0 w m) = some (some (.int v), hp c0 w m')) ∧ gR c' m'
theorem m0_q {m : Nat → Nat → Int32} {k : Nat} (h : k ≠ 0) : (va_up m 138 (upd (m 138) 0 (nI 0))) 138 k = m 138 k := by rw [up_s, pk_un h]
theorem gR.q0 {c m : Nat → Nat → Int32} (h : gR c m) : gR c (va_up m 138 (upd (m 138) 0 (nI 0))) := h.q (fun _ _ => rfl) (fun k hk => up_n _ _ _ _ (by simp only [mE, List.mem_cons, List.not_mem_nil, or_false] at hk; omega)) (fun k hk => m0_q (by simp only [fE, List.mem_cons, List.not_mem_nil, or_false] at hk; omega))
