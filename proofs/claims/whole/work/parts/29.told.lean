/-! ===== what is told, and the hour's state, class and reference together ===== -/
def rL (W : Nat) (f g : Nat → Int32) (i : Nat) : Prop := ∃ t k v o : Nat, t ≤ 999 ∧ k ≤ 3 ∧ f (5 * i) = nI t ∧ g (4 * i) = nI t ∧ f (5 * i + 1) = nI k ∧ g (4 * i + 1) = nI k ∧ f (5 * i + 2) = nI v ∧ g (4 * i + 2) = nI v ∧ ((k = 0 ∧ v < W ∧ o ≤ 40 ∧ f (5 * i + 3) = nI o ∧ g (4 * i + 3) = nI o) ∨ ((k = 1 ∨ k = 2) ∧ 1 ≤ v ∧ v ≤ 20) ∨ (k = 3 ∧ v < W))
def wL (Q : Nat) (f g : Nat → Int32) (i : Nat) : Prop := ∃ p h s t y : Nat, p < Q ∧ h ≤ 40 ∧ s ≤ t ∧ t ≤ 23 ∧ y ≤ 99 ∧ f (5 * i) = nI p ∧ g (5 * i) = nI p ∧ f (5 * i + 1) = nI h ∧ g (5 * i + 1) = nI h ∧ f (5 * i + 2) = nI s ∧ g (5 * i + 2) = nI s ∧ f (5 * i + 3) = nI t ∧ g (5 * i + 3) = nI t ∧ f (5 * i + 4) = nI y ∧ g (5 * i + 4) = nI y
def tS (S : Nat) (c m : Nat → Nat → Int32) : Prop := c 1 3 = nI S ∧ m 138 9 = nI S ∧ S ≤ 8 ∧ ∀ j, j < S → ∃ k, k ≤ 40 ∧ c 2 j = nI k ∧ m 142 j = nI k
def tQ (W Q : Nat) (c m : Nat → Nat → Int32) : Prop := c 1 5 = nI Q ∧ m 138 10 = nI Q ∧ Q ≤ 6 ∧ ∀ j, j < Q → ∃ k e, k < W ∧ e ≤ 20 ∧ c 3 j = nI k ∧ m 143 j = nI k ∧ c 4 j = nI e ∧ m 144 j = nI e
def tG (c m : Nat → Nat → Int32) : Prop := ∃ s g, 1 ≤ s ∧ s ≤ 9 ∧ g ≤ 1000 ∧ c 1 1 = nI s ∧ m 138 7 + nI 3 = nI s ∧ c 1 2 = nI g ∧ m 138 8 = nI g
def tU (W : Nat) (c m : Nat → Nat → Int32) : Prop := ∃ n, n ≤ 8 ∧ c 1 8 = nI n ∧ m 138 47 = nI n ∧ ∀ j, j < n → ∃ k t, k < W ∧ t < 24 ∧ c 5 j = nI k ∧ m 161 (2 * j) = nI k ∧ c 6 j = nI t ∧ m 161 (2 * j + 1) = nI t
def tO (W : Nat) (c m : Nat → Nat → Int32) : Prop := ∃ n, n ≤ 16 ∧ c 13 0 = nI n ∧ m 138 38 = nI n ∧ ∀ i, i < n → rL W (c 14) (m 156) i
def tW (Q : Nat) (c m : Nat → Nat → Int32) : Prop := ∃ n, n ≤ 12 ∧ c 15 0 = nI n ∧ m 138 40 = nI n ∧ ∀ i, i < n → wL Q (c 16) (m 157) i
def tR (W S Q : Nat) (ls : List lL) (c m : Nat → Nat → Int32) : Prop := aC c ls W ∧ aM m ls W ∧ tS S c m ∧ tQ W Q c m ∧ tG c m ∧ tU W c m ∧ tO W c m ∧ tW Q c m
def tRc : List Nat := [1, 2, 3, 4, 5, 6, 7, 8, 9, 10, 11, 12, 13, 14, 15, 16]
def tRm : List Nat := [142, 143, 144, 148, 149, 150, 151, 152, 153, 154, 156, 157, 161]
def tRf : List Nat := [6, 7, 8, 9, 10, 38, 40, 47]
theorem tR.eq {W S Q : Nat} {ls : List lL} {c m c' m' : Nat → Nat → Int32} (h : tR W S Q ls c m) (h1 : ∀ k ∈ tRc, c' k = c k) (h2 : ∀ k ∈ tRm, m' k = m k) (h3 : ∀ k ∈ tRf, m' 138 k = m 138 k) : tR W S Q ls c' m' := by
  unfold tR aC aM lC lM tS tQ tG tU tO tW at *
  simp only [tRc, tRm, tRf, List.forall_mem_cons, List.not_mem_nil, false_implies, implies_true, and_true] at h1 h2 h3
  simp only [h1, h2, h3]
  exact h
def jR (a W S : Nat) (c m Z : Nat → Nat → Int32) : Prop := zC a c Z S ∧ zM m Z S ∧ zI W S Z ∧ (∀ j, j < 600 → c 23 j = m 145 j) ∧ ((a = 17 ∧ m 138 5 = nI 0) ∨ (a = 97 ∧ m 138 5 = nI 1))
def kR (a : Nat) (c m : Nat → Nat → Int32) : Prop := a = 97 → c 102 4 = m 138 44 ∧ c 102 5 = m 138 45
def FX (a : Nat) : List Nat := [a, a + 1, a + 2, a + 3, a + 4, 23, 94, 95, 96, 102]
def FY : List Nat := [138, 139, 145, 158, 159]
def FR (a : Nat) (c m c' m' : Nat → Nat → Int32) : Prop := fr (FX a) c c' ∧ (a = 97 → c' 23 = c 23) ∧ fr FY m m' ∧ ∀ k, k ≠ 44 → k ≠ 45 → m' 138 k = m 138 k
theorem FR.rf {a : Nat} {c m : Nat → Nat → Int32} : FR a c m c m := ⟨fr.rf, fun _ => rfl, fr.rf, fun _ _ _ => rfl⟩
theorem FR.tr {a : Nat} {c m c1 m1 c2 m2 : Nat → Nat → Int32} (h : FR a c m c1 m1) (h' : FR a c1 m1 c2 m2) : FR a c m c2 m2 :=
  ⟨h.1.tr h'.1, fun e => (h'.2.1 e).trans (h.2.1 e), h.2.2.1.tr h'.2.2.1, fun k a b => (h'.2.2.2 k a b).trans (h.2.2.2 k a b)⟩
theorem tR.FR {a W S Q : Nat} {ls : List lL} {c m c' m' : Nat → Nat → Int32} (h : tR W S Q ls c m) (ha : a = 17 ∨ a = 97) (hf : FR a c m c' m') : tR W S Q ls c' m' :=
  h.eq (fun k hk => hf.1 k (by
    rcases ha with rfl | rfl <;> simp only [tRc, FX, List.mem_cons, List.not_mem_nil, or_false] at hk ⊢ <;> omega)) (fun k hk => hf.2.2.1 k (by
    simp only [tRm, FY, List.mem_cons, List.not_mem_nil, or_false] at hk ⊢ <;> omega)) (fun k hk => hf.2.2.2 k (by
    simp only [tRf, List.mem_cons, List.not_mem_nil, or_false] at hk; omega) (by simp only [tRf, List.mem_cons, List.not_mem_nil, or_false] at hk; omega))
section J1
variable {a W S Q : Nat} {ls : List lL} {c m Z : Nat → Nat → Int32}
theorem jR.aa (h : jR a W S c m Z) : a = 17 ∨ a = 97 := h.2.2.2.2.elim (fun z => Or.inl z.1) (fun z => Or.inr z.1)
theorem jR.t (h : jR a W S c m Z) : m 138 5 = nI 0 ∨ m 138 5 = nI 1 := h.2.2.2.2.elim (fun z => Or.inl z.2) (fun z => Or.inr z.2)
theorem jR.hB (h : jR a W S c m Z) : hB (c (a + 1)) := fun j hj => by rw [h.1.2.1 j hj]; exact h.2.2.1.1 j hj
theorem jR.nt (h : jR a W S c m Z) (hS : S ≤ 8) (u b e : Int32) : ∃ Z', jR a W S (nCf a c u b e) (nMf m u b e) Z' ∧ (∀ i, i ≠ 2 → Z' 0 i = Z 0 i) := by
  have ha := h.aa
  obtain ⟨hz, hm, hi, hb, ht⟩ := h
  have e1 : c a 8 = Z 0 2 := hz.1.2.2.1
  have e2 : m 139 2 = Z 0 2 := hm.1.2.2.1
  have e3 : c a 6 = Z 0 0 := hz.1.1
  have e4 : m 139 0 = Z 0 0 := hm.1.1
  by_cases hq : a = 97 ∨ Z 0 2 = nI 150
  · have h1 : nCf a c u b e = c := if_pos (by rw [e1]; exact hq)
    have h2 : nMf m u b e = m := if_pos (by
      rw [e2]
      rcases hq with z | z
      · rcases ht with t | t
        · omega
        · exact Or.inl t.2
      · exact Or.inr z)
    rw [h1, h2]
    exact ⟨Z, ⟨hz, hm, hi, hb, ht⟩, fun _ _ => rfl⟩
  · have h1 : nCf a c u b e = _ := if_neg (by rw [e1]; exact hq)
    have h2 : nMf m u b e = _ := if_neg (by
      rw [e2]
      rintro (z | z)
      · rcases ht with t | t
        · rw [t.2] at z; exact nI_01 z
        · exact hq (Or.inl t.1)
      · exact hq (Or.inr z))
    obtain ⟨k, hk, ek⟩ := hi.2.2.2
    have hk2 : k < 150 := by
      rcases Nat.lt_or_ge k 150 with z | z
      · exact z
      · exact absurd (Or.inr (by rw [ek, show k = 150 by omega])) hq
    rw [h1, h2, e1, e2, e3, e4, ek, nK_nI (by omega), nI_add]
    refine ⟨zs Z 2 (nI (k + 1)), ⟨?_, ?_, hi.bk hS (by omega), fun j hj => ?_, ?_⟩, fun i hi => zs_n _ hi⟩
    · rw [up_c _ _ _ _ _ (show 23 ≠ a by omega)]
      exact (hz.sc hS (f := 8) (i := 2) (nI (k + 1)) (by omega)).row _ (by omega)
    · rw [up_c _ _ _ _ _ (show 145 ≠ 139 by omega)]
      have := (hm.up hS (i := 2) (by omega) (nI (k + 1))).row (r := 145) (bW (m 145) (4 * k) (Z 0 0) u b e) (by omega)
      rw [if_neg (by omega)] at this
      exact this
    · rw [up_n _ _ _ _ (show 23 ≠ a by omega), up_s, up_n _ _ _ _ (show 145 ≠ 139 by omega), up_s]
      unfold bW upd
      repeat' split
      all_goals first | rfl | omega | exact hb j hj
    · exact ht
theorem nC_fr (ha : a = 17 ∨ a = 97) (u b e : Int32) : fr [a, 23] c (nCf a c u b e) ∧ (a = 97 → nCf a c u b e = c) := by
  unfold nCf
  constructor
  · split
    · exact fr.rf
    · exact (fr.rf.up (by simp) _).up (by simp) _
  · intro z
    rw [if_pos (Or.inl z)]
theorem nM_fr (u b e : Int32) : fr [139, 145] m (nMf m u b e) := by
  unfold nMf
  split
  · exact fr.rf
  · exact (fr.rf.up (by simp) _).up (by simp) _
theorem FR.nt (ha : a = 17 ∨ a = 97) (u b e : Int32) : FR a c m (nCf a c u b e) (nMf m u b e) := by
  refine ⟨(nC_fr ha u b e).1.mono (fun k hk => ?_), fun z => ?_, (nM_fr u b e).mono (fun k hk => ?_), fun k _ _ => ?_⟩
  · simp only [FX, List.mem_cons, List.not_mem_nil, or_false] at hk ⊢; omega
  · rw [(nC_fr ha u b e).2 z]
  · simp only [FY, List.mem_cons, List.not_mem_nil, or_false] at hk ⊢; omega
  · rw [nM_fr u b e 138 (by simp)]
/-- a place of the state, in both -/
theorem jR.k (h : jR a W S c m Z) : ∃ k, k ≤ 150 ∧ c a 8 = nI k ∧ m 139 2 = nI k := by
  obtain ⟨k, hk, e⟩ := h.2.2.1.2.2.2
  exact ⟨k, hk, h.1.1.2.2.1.trans e, h.2.1.1.2.2.1.trans e⟩
theorem jR.junk (h : jR a W S c m Z) (g f g' f' : Nat → Int32) : jR a W S (va_up (va_up c 94 g) 95 f) (va_up (va_up m 158 g') 159 f') Z := by
  have ha := h.aa
  obtain ⟨hz, hm, hi, hb, ht⟩ := h
  exact ⟨(hz.row _ (by omega)).row _ (by omega), (hm.row _ (by omega)).row _ (by omega), hi, hb, ht⟩
theorem FR.junk (g f g' f' : Nat → Int32) : FR a c m (va_up (va_up c 94 g) 95 f) (va_up (va_up m 158 g') 159 f') :=
  ⟨(fr.rf.up (by simp [FX]) _).up (by simp [FX]) _, fun _ => rfl, (fr.rf.up (by simp [FY]) _).up (by simp [FY]) _, fun _ _ _ => rfl⟩
theorem jR.wear {x : Nat} (h : jR a W S c m Z) (hx : x < W) (hW : W ≤ 14) : wearS ls W (c (a + 1)) (c (a + 2)) (c a 6) x = wearS ls W (zH Z) (zN Z) (Z 0 0) x ∧ wearS ls W (fun j => m 139 (5 + j) + nI 10) (fun j => m 139 (19 + j)) (m 139 0) x = wearS ls W (zH Z) (zN Z) (Z 0 0) x := by
  rw [h.1.1.1, h.2.1.1.1]
  exact ⟨wearS_congr hx hW h.1.2.1 h.1.2.2.1, wearS_congr hx hW h.2.1.2.1 h.2.1.2.2.1⟩
theorem jR.slide {x : Nat} (h : jR a W S c m Z) (hx : x < W) (hW : W ≤ 14) : slideS ls W (c (a + 1)) (c (a + 2)) (c a 6) x = slideS ls W (zH Z) (zN Z) (Z 0 0) x ∧ slideS ls W (fun j => m 139 (5 + j) + nI 10) (fun j => m 139 (19 + j)) (m 139 0) x = slideS ls W (zH Z) (zN Z) (Z 0 0) x := by
  rw [h.1.1.1, h.2.1.1.1]
  exact ⟨slideS_congr hx hW h.1.2.1 h.1.2.2.1, slideS_congr hx hW h.2.1.2.1 h.2.1.2.2.1⟩
theorem jR.cost {x : Nat} (h : jR a W S c m Z) (g : Int32) (hx : x < W) (hW : W ≤ 14) : costS ls W (c (a + 1)) (c (a + 2)) (c a 6) x g = costS ls W (zH Z) (zN Z) (Z 0 0) x g ∧ costS ls W (fun j => m 139 (5 + j) + nI 10) (fun j => m 139 (19 + j)) (m 139 0) x g = costS ls W (zH Z) (zN Z) (Z 0 0) x g := by
  rw [h.1.1.1, h.2.1.1.1]
  exact ⟨costS_congr g hx hW h.1.2.1 h.1.2.2.1, costS_congr g hx hW h.2.1.2.1 h.2.1.2.2.1⟩
end J1
