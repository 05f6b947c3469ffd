/-! ===== text ===== -/
theorem gR.tx {W S Q : Nat} {ls' : List lL} {c m c' m' : Nat → Nat → Int32} (j : ∃ Z, jR 17 W S c m Z) (p : pR W S c' m') (i : iR c m) (t : tR W S Q ls' c' m') (h1 : ∀ k, 17 ≤ k → k ≤ 46 → c' k = c k) (h0 : c' 0 6 = c 0 6) (e139 : m' 139 = m 139) (e145 : m' 145 = m 145) (e166 : m' 166 = m 166) (f5 : m' 138 5 = m 138 5) (f55 : m' 138 55 = m 138 55) (x1 : c' 79 1 = nI 0) (x2 : c' 79 7 = m' 138 36) (x3 : c' 79 8 = m' 138 37) (x4 : m' 138 16 = nI 0) (x5 : ∀ j, j < 120 → m' 147 j = nI (wdN.getD j 0)) : gR c' m' := by
  obtain ⟨Z, j⟩ := j
  exact ⟨W, S, Q, ls', t, ⟨Z, j.eq (fun k a b => h1 k (by omega) (by omega)) (h1 23 (by omega) (by omega)) e139 e145 f5⟩, p, i.eq h0 (fun k a b => h1 k (by omega) (by omega)) e166 f55, ⟨⟨0, by omega, x1, x4, fun j hj => by omega⟩, x2, x3, x5⟩⟩
theorem nI_3 {k : Int32} (h0 : ¬ k = nI 0) (h1 : ¬ k = nI 1) (h2 : ¬ k = nI 2) : (nI 0 ≤ k ∧ k ≤ nI 2) = False := by
  apply eq_false
  rintro ⟨a, b⟩
  rw [Int32.le_iff_toInt_le, nI_toInt (by omega)] at a b
  have : k.toInt = 0 ∨ k.toInt = 1 ∨ k.toInt = 2 := by omega
  rcases this with z | z | z
  · exact h0 (Int32.toInt_inj.mp (by rw [z, nI_toInt (by omega)]; rfl))
  · exact h1 (Int32.toInt_inj.mp (by rw [z, nI_toInt (by omega)]; rfl))
  · exact h2 (Int32.toInt_inj.mp (by rw [z, nI_toInt (by omega)]; rfl))
/-- what a text leaves as it was, in the reference -/
def mZ (m m' : Nat → Nat → Int32) : Prop := (∀ k, k ≠ 138 → (k < 149 ∨ 157 < k) → m' k = m k) ∧ (∀ j, j ∉ [0, 16, 17, 18, 19, 20, 29, 30, 31, 33, 34, 35, 36, 37] → m' 138 j = m 138 j) ∧ (∀ j, j < 800 → m' 153 j = m 153 j ∧ m' 154 j = m 154 j) ∧ (∀ j, j < 32 → m' 149 j = m 149 j ∧ m' 150 j = m 150 j ∧ m' 151 j = m 151 j ∧ m' 152 j = m 152 j) ∧ (∀ j, j < 64 → m' 156 j = m 156 j) ∧ ∀ j, j < 60 → m' 157 j = m 157 j
theorem mZ.tr {a b c : Nat → Nat → Int32} (h : mZ a b) (g : mZ b c) : mZ a c := ⟨fun k x y => (g.1 k x y).trans (h.1 k x y), fun j x => (g.2.1 j x).trans (h.2.1 j x), fun j x => ⟨(g.2.2.1 j x).1.trans (h.2.2.1 j x).1, (g.2.2.1 j x).2.trans (h.2.2.1 j x).2⟩, fun j x => ⟨(g.2.2.2.1 j x).1.trans (h.2.2.2.1 j x).1, (g.2.2.2.1 j x).2.1.trans (h.2.2.2.1 j x).2.1, (g.2.2.2.1 j x).2.2.1.trans (h.2.2.2.1 j x).2.2.1, (g.2.2.2.1 j x).2.2.2.trans (h.2.2.2.1 j x).2.2.2⟩, fun j x => (g.2.2.2.2.1 j x).trans (h.2.2.2.2.1 j x), fun j x => (g.2.2.2.2.2 j x).trans (h.2.2.2.2.2 j x)⟩
theorem mZ.f {m m' : Nat → Nat → Int32} (h1 : ∀ k, k ≠ 138 → m' k = m k) (h2 : ∀ j, j ∉ [0, 16, 17, 18, 19, 20, 29, 30, 31, 33, 34, 35, 36, 37] → m' 138 j = m 138 j) : mZ m m' := ⟨fun k a _ => h1 k a, h2, fun j _ => by rw [h1 153 (by omega), h1 154 (by omega)]; exact ⟨rfl, rfl⟩, fun j _ => by rw [h1 149 (by omega), h1 150 (by omega), h1 151 (by omega), h1 152 (by omega)]; exact ⟨rfl, rfl, rfl, rfl⟩, fun j _ => by rw [h1 156 (by omega)], fun j _ => by rw [h1 157 (by omega)]⟩
theorem mem14 {j : Nat} (h : j ∉ [0, 16, 17, 18, 19, 20, 29, 30, 31, 33, 34, 35, 36, 37]) : j ∉ [17, 18, 19, 20, 30, 31, 33, 34, 35] ∧ j ∉ [17, 18, 19, 20] ∧ j ∉ [0, 36, 37, 17, 30, 31, 29] ∧ j ∉ [17, 18, 19, 20, 34, 35] ∧ j ≠ 16 ∧ j ≠ 36 ∧ j ≠ 37 := by
  simp only [List.mem_cons, List.not_mem_nil, or_false, not_or] at h ⊢
  omega
theorem mLF.z {a b : Nat → Nat → Int32} (h : mLF a b) : mZ a b := ⟨fun k x y => h.1 k x (by omega), fun j x => h.2.1 j (mem14 x).1, h.2.2.1, h.2.2.2, fun j _ => by rw [h.1 156 (by omega) (by omega)], fun j _ => by rw [h.1 157 (by omega) (by omega)]⟩
theorem mW.z {a b : Nat → Nat → Int32} (h : mW a b) : mZ a b := ⟨fun k x y => h.1 k x (by omega) (by omega), fun j x => h.2.1 j (mem14 x).2.2.2.1, fun j _ => by rw [h.1 153 (by omega) (by omega) (by omega), h.1 154 (by omega) (by omega) (by omega)]; exact ⟨rfl, rfl⟩, fun j _ => by rw [h.1 149 (by omega) (by omega) (by omega), h.1 150 (by omega) (by omega) (by omega), h.1 151 (by omega) (by omega) (by omega), h.1 152 (by omega) (by omega) (by omega)]; exact ⟨rfl, rfl, rfl, rfl⟩, h.2.2.1, h.2.2.2⟩
theorem tR.z {W S Q : Nat} {ls : List lL} {c m c' m' : Nat → Nat → Int32} (t : tR W S Q ls c m) (h1 : ∀ k, k ≠ 79 → k < 81 → c' k = c k) (h2 : mZ m m') : tR W S Q ls c' m' := by
  refine t.pt (fun k j hk => by rw [h1 k (by unfold inC at hk; omega) (by unfold inC at hk; omega)]) (fun k j hk => ?_)
  unfold inM at hk
  rcases hk with ⟨rfl, hk⟩ | hk
  · exact h2.2.1 j (by simp only [List.mem_cons, List.not_mem_nil, or_false, not_or]; omega)
  · by_cases y : k < 149 ∨ 157 < k
    · rw [h2.1 k (by omega) y]
    · have : k = 149 ∨ k = 150 ∨ k = 151 ∨ k = 152 ∨ k = 153 ∨ k = 154 ∨ k = 156 ∨ k = 157 := by omega
      rcases this with rfl | rfl | rfl | rfl | rfl | rfl | rfl | rfl
      · exact (h2.2.2.2.1 j (by omega)).1
      · exact (h2.2.2.2.1 j (by omega)).2.1
      · exact (h2.2.2.2.1 j (by omega)).2.2.1
      · exact (h2.2.2.2.1 j (by omega)).2.2.2
      · exact (h2.2.2.1 j (by omega)).1
      · exact (h2.2.2.1 j (by omega)).2
      · exact h2.2.2.2.2.1 j (by omega)
      · exact h2.2.2.2.2.2 j (by omega)
theorem tR.law {W S Q : Nat} {ls ls' : List lL} {c m c' m' : Nat → Nat → Int32} (t : tR W S Q ls c m) (hC : lC c' ls') (hM : lM m' ls') (h1 : ∀ k, k < 7 ∨ (12 < k ∧ k < 17) → c' k = c k) (h2 : ∀ k, k < 148 ∨ 155 < k → m' k = m k) : tR W S Q ls' c' m' := by
  obtain ⟨⟨-, w1, w3, w14⟩, ⟨-, w2, -, -⟩, t1, t2, t3, t4, t5, t6⟩ := t
  refine ⟨⟨hC, by rw [h1 1 (by omega)]; exact w1, w3, w14⟩, ⟨hM, by rw [h2 138 (by omega)]; exact w2, w3, w14⟩, ?_, ?_, ?_, ?_, ?_, ?_⟩
  · unfold tS at *; rw [h1 1 (by omega), h1 2 (by omega), h2 138 (by omega), h2 142 (by omega)]; exact t1
  · unfold tQ at *; rw [h1 1 (by omega), h1 3 (by omega), h1 4 (by omega), h2 138 (by omega), h2 143 (by omega), h2 144 (by omega)]; exact t2
  · unfold tG at *; rw [h1 1 (by omega), h2 138 (by omega)]; exact t3
  · unfold tU at *; rw [h1 1 (by omega), h1 5 (by omega), h1 6 (by omega), h2 138 (by omega), h2 161 (by omega)]; exact t4
  · unfold tO at *; rw [h1 13 (by omega), h1 14 (by omega), h2 138 (by omega), h2 156 (by omega)]; exact t5
  · unfold tW at *; rw [h1 15 (by omega), h1 16 (by omega), h2 138 (by omega), h2 157 (by omega)]; exact t6
theorem tR.ros {W S Q : Nat} {ls : List lL} {c m c' m' : Nat → Nat → Int32} (t : tR W S Q ls c m) (hO : tO W c' m') (h1 : ∀ k, k < 13 ∨ (14 < k ∧ k < 17) → c' k = c k) (h2 : ∀ k, k ≠ 138 → k ≠ 156 → m' k = m k) (h3 : ∀ j, j ≠ 3 → j ≠ 38 → m' 138 j = m 138 j) : tR W S Q ls c' m' := by
  obtain ⟨⟨l1, w1, w3, w14⟩, ⟨l2, w2, -, -⟩, t1, t2, t3, t4, t5, t6⟩ := t
  refine ⟨⟨?_, by rw [h1 1 (by omega)]; exact w1, w3, w14⟩, ⟨?_, by rw [h3 6 (by omega) (by omega)]; exact w2, w3, w14⟩, ?_, ?_, ?_, ?_, hO, ?_⟩
  · unfold lC at *; rw [h1 7 (by omega), h1 8 (by omega), h1 9 (by omega), h1 10 (by omega), h1 11 (by omega), h1 12 (by omega)]; exact l1
  · unfold lM at *; rw [h2 148 (by omega) (by omega), h2 149 (by omega) (by omega), h2 150 (by omega) (by omega), h2 151 (by omega) (by omega), h2 152 (by omega) (by omega), h2 153 (by omega) (by omega), h2 154 (by omega) (by omega)]; exact l2
  · unfold tS at *; rw [h1 1 (by omega), h1 2 (by omega), h3 9 (by omega) (by omega), h2 142 (by omega) (by omega)]; exact t1
  · unfold tQ at *; rw [h1 1 (by omega), h1 3 (by omega), h1 4 (by omega), h3 10 (by omega) (by omega), h2 143 (by omega) (by omega), h2 144 (by omega) (by omega)]; exact t2
  · unfold tG at *; rw [h1 1 (by omega), h3 7 (by omega) (by omega), h3 8 (by omega) (by omega)]; exact t3
  · unfold tU at *; rw [h1 1 (by omega), h1 5 (by omega), h1 6 (by omega), h3 47 (by omega) (by omega), h2 161 (by omega) (by omega)]; exact t4
  · unfold tW at *; rw [h1 15 (by omega), h1 16 (by omega), h3 40 (by omega) (by omega), h2 157 (by omega) (by omega)]; exact t6
theorem tR.wan {W S Q : Nat} {ls : List lL} {c m c' m' : Nat → Nat → Int32} (t : tR W S Q ls c m) (hO : tW Q c' m') (h1 : ∀ k, k < 15 → c' k = c k) (h2 : ∀ k, k ≠ 138 → k ≠ 157 → m' k = m k) (h3 : ∀ j, j ≠ 40 → m' 138 j = m 138 j) : tR W S Q ls c' m' := by
  obtain ⟨⟨l1, w1, w3, w14⟩, ⟨l2, w2, -, -⟩, t1, t2, t3, t4, t5, t6⟩ := t
  refine ⟨⟨?_, by rw [h1 1 (by omega)]; exact w1, w3, w14⟩, ⟨?_, by rw [h3 6 (by omega)]; exact w2, w3, w14⟩, ?_, ?_, ?_, ?_, ?_, hO⟩
  · unfold lC at *; rw [h1 7 (by omega), h1 8 (by omega), h1 9 (by omega), h1 10 (by omega), h1 11 (by omega), h1 12 (by omega)]; exact l1
  · unfold lM at *; rw [h2 148 (by omega) (by omega), h2 149 (by omega) (by omega), h2 150 (by omega) (by omega), h2 151 (by omega) (by omega), h2 152 (by omega) (by omega), h2 153 (by omega) (by omega), h2 154 (by omega) (by omega)]; exact l2
  · unfold tS at *; rw [h1 1 (by omega), h1 2 (by omega), h3 9 (by omega), h2 142 (by omega) (by omega)]; exact t1
  · unfold tQ at *; rw [h1 1 (by omega), h1 3 (by omega), h1 4 (by omega), h3 10 (by omega), h2 143 (by omega) (by omega), h2 144 (by omega) (by omega)]; exact t2
  · unfold tG at *; rw [h1 1 (by omega), h3 7 (by omega), h3 8 (by omega)]; exact t3
  · unfold tU at *; rw [h1 1 (by omega), h1 5 (by omega), h1 6 (by omega), h3 47 (by omega), h2 161 (by omega) (by omega)]; exact t4
  · unfold tO at *; rw [h1 13 (by omega), h1 14 (by omega), h3 38 (by omega), h2 156 (by omega) (by omega)]; exact t5
/-- nothing was taken -/
theorem gR.no {W S Q : Nat} {ls : List lL} {c m c' m' : Nat → Nat → Int32} (t : tR W S Q ls c m) (hj : ∃ Z, jR 17 W S c m Z) (hp0 : pR W S c m) (hi0 : iR c m) (x9 : ∀ j, j < 120 → m 147 j = nI (wdN.getD j 0)) (h1 : ∀ k, k ≠ 79 → k < 81 → c' k = c k) (h2 : mZ m m') (x1 : c' 79 1 = nI 0) (x2 : c' 79 7 = m' 138 36) (x3 : c' 79 8 = m' 138 37) (x4 : m' 138 16 = nI 0) : gR c' m' :=
  gR.tx (Q := Q) (ls' := ls) hj (hp0.eq (fun k a b => h1 k (by omega) (by omega)) (h2.1 140 (by omega) (by omega)) (h2.2.1 3 (by decide))) hi0 (t.z h1 h2) (fun k a b => h1 k (by omega) (by omega)) (by rw [h1 0 (by omega) (by omega)]) (h2.1 139 (by omega) (by omega)) (h2.1 145 (by omega) (by omega)) (h2.1 166 (by omega) (by omega)) (h2.2.1 5 (by decide)) (h2.2.1 55 (by decide)) x1 x2 x3 x4 (by rw [h2.1 147 (by omega) (by omega)]; exact x9)
/-- the end: the tape is empty; a fault is told -/
def mE0 (m : Nat → Nat → Int32) : Nat → Nat → Int32 := va_up m 138 (upd (m 138) 16 (nI 0))
def mE1 (f p : Nat) (m : Nat → Nat → Int32) : Nat → Nat → Int32 := va_up m 138 (upd (upd (upd (m 138) 36 (nI f)) 37 (nI p)) 16 (nI 0))
theorem mE0_z {m : Nat → Nat → Int32} : mZ m (mE0 m) := mZ.f (fun k a => up_n _ _ _ _ a) (fun j a => by unfold mE0; rw [up_s, pk_un (mem14 a).2.2.2.2.1])
theorem mE1_z {f p : Nat} {m : Nat → Nat → Int32} : mZ m (mE1 f p m) := mZ.f (fun k a => up_n _ _ _ _ a) (fun j a => by unfold mE1; rw [up_s, pk_un (mem14 a).2.2.2.2.1, pk_un (mem14 a).2.2.2.2.2.2, pk_un (mem14 a).2.2.2.2.2.1])
theorem mE1_v {f p : Nat} {m : Nat → Nat → Int32} : mE1 f p m 138 36 = nI f ∧ mE1 f p m 138 37 = nI p ∧ mE1 f p m 138 16 = nI 0 := by
  unfold mE1
  rw [up_s]
  refine ⟨?_, ?_, ?_⟩ <;> simp [upd]
theorem mE0_v {m : Nat → Nat → Int32} : mE0 m 138 36 = m 138 36 ∧ mE0 m 138 37 = m 138 37 ∧ mE0 m 138 16 = nI 0 := by
  unfold mE0
  rw [up_s]
  refine ⟨?_, ?_, ?_⟩ <;> simp [upd]
section TX
variable {sc : Nat × (Nat → Int32)} {c m : Nat → Nat → Int32} {w : Nat → Int64}
theorem mB_of {n : Nat} {b : Nat → Nat} (L : List tk4) (d i s : Nat) (t : tk4) (cd : List (Nat × Nat)) (m : Nat → Nat → Int32) (ht : tpM n b m) (h17 : m 138 17 = nI s) (hi : L[i]? = some t) (h : tokAt b n s t) (hg : tkG n t) (h30 : m 138 30 = nI cd.length) (hcd : ∀ j a, cd[j]? = some a → m 153 (800 + j) = nI a.1 ∧ m 154 (800 + j) = nI a.2) : ∃ m', (∀ c, cc sc (d + 3) 178 [.ref 138] (hp c w m) = some (none, hp c w m')) ∧ (∀ k, k ≠ 138 → m' k = m k) ∧ (∀ j, j ∉ [17, 18, 19, 20] → m' 138 j = m 138 j) ∧ mB L.length (tkT L) i cd m' := by
  obtain ⟨m', r1, r2, r3, r4, r5⟩ := t_reads (sc := sc) (w := w) d s t m ht h17 h hg
  obtain ⟨e0, e1, e2, e3⟩ := tkT_get hi
  refine ⟨m', r1, r2.1, r2.2, ?_, ?_, ?_, (List.getElem?_eq_some_iff.mp hi).1, ?_, ?_⟩
  · rw [e0, e2]; exact r5
  · rw [e1]; exact r4
  · rw [e3]; exact r3
  · rw [r2.2 30 (by decide)]; exact h30
  · rw [r2.1 153 (by omega), r2.1 154 (by omega)]; exact hcd
theorem rdS_of {n : Nat} {b : Nat → Nat} {L : List tk4} (ht : tpM n b m) (hc : chn b n 0 L) (hg : ∀ t ∈ L, tkG n t) : rdS sc w L.length (tkT L) m := by
  intro d i cd m' hx hm hi
  have h1 : L[i]? = some L[i] := List.getElem?_eq_getElem (by omega)
  have h2 : L[i + 1]? = some L[i + 1] := List.getElem?_eq_getElem hi
  have ht' : tpM n b m' := by
    unfold tpM at *
    rw [hx.1, hx.2.1, hx.2.2]
    exact ht
  obtain ⟨e0, e1, e2, e3⟩ := tkT_get h1
  exact mB_of L d (i + 1) (L[i]).2.2.2 L[i + 1] cd m' ht' (by rw [← e3]; exact hm.2.2.1) h2 (chn_at L 0 hc i _ _ h1 h2) (hg _ (List.getElem_mem hi)) hm.2.2.2.2.1 hm.2.2.2.2.2
/-- the reference's beginning -/
def mS1 (m : Nat → Nat → Int32) : Nat → Nat → Int32 := va_up m 138 (upd (upd (upd (upd (upd (upd (upd (m 138) 0 (nI 0)) 36 (nI 0)) 37 (-1)) 17 (nI 0)) 30 (nI 0)) 31 (nI 0)) 29 (nI 0))
theorem mS1_k {k : Nat} (h : k ≠ 138) : mS1 m k = m k := up_n _ _ _ _ h
theorem mS1_f {j : Nat} (h : j ∉ [0, 36, 37, 17, 30, 31, 29]) : mS1 m 138 j = m 138 j := by
  simp only [List.mem_cons, List.not_mem_nil, or_false, not_or] at h
  unfold mS1
  rw [up_s, pk_un (by omega), pk_un (by omega), pk_un (by omega), pk_un (by omega), pk_un (by omega), pk_un (by omega), pk_un (by omega)]
theorem mS1_v : mS1 m 138 36 = nI 0 ∧ mS1 m 138 37 = -1 ∧ mS1 m 138 17 = nI 0 ∧ mS1 m 138 30 = nI 0 ∧ mS1 m 138 31 = nI 0 ∧ mS1 m 138 29 = nI 0 := by
  unfold mS1
  rw [up_s]
  refine ⟨?_, ?_, ?_, ?_, ?_, ?_⟩ <;> simp [upd]
/-- the class behind its cut -/
def cS2 (c : Nat → Nat → Int32) : Nat → Nat → Int32 := va_up c 79 (upd (c 79) 1 (nI 0))
theorem p_text (d : Nat) (k : Int32) (h : gR c m) : pub sc w (d + 30) 16 176 [.int k] c m := by
  obtain ⟨W, S, Q, ls, t, hj, hp0, hi0, hx0⟩ := h
  obtain ⟨⟨n, hn, x1, x2, x3⟩, x7, x8, x9⟩ := hx0
  have hW3 : 3 ≤ W := t.1.2.2.1
  have hW14 : W ≤ 14 := t.1.2.2.2
  have hw1 : c 1 0 = nI W := t.1.2.1
  have hw2 : m 138 6 + nI 10 = nI W := t.2.1.2.1
  have hq1 : c 1 5 = nI Q := t.2.2.2.1.1
  have hq2 : m 138 10 = nI Q := t.2.2.2.1.2.1
  have hQ6 : Q ≤ 6 := t.2.2.2.1.2.2.1
  -- the bytes
  obtain ⟨b, hb⟩ : ∃ b : Nat → Nat, ∀ j, j < n → b j < 256 ∧ m 146 j = nI (b j) ∧ c 80 j = sB (b j) := by
    refine ⟨fun j => (m 146 j).toInt.toNat, fun j hjn => ?_⟩
    obtain ⟨b0, y1, y2, y3⟩ := x3 j hjn
    have e : (m 146 j).toInt.toNat = b0 := by rw [y2, nI_toInt (by omega)]; rfl
    show (m 146 j).toInt.toNat < 256 ∧ m 146 j = nI (m 146 j).toInt.toNat ∧ c 80 j = sB (m 146 j).toInt.toNat
    rw [e]
    exact ⟨y1, y2, y3⟩
  have tC : tpC n b c := ⟨x1, hn, fun j hjn => ⟨(hb j hjn).1, (hb j hjn).2.2⟩⟩
  have tM : tpM n b m := ⟨x2, hn, fun j hjn => ⟨(hb j hjn).1, (hb j hjn).2.1⟩, x9⟩
  obtain ⟨L, c1, g1, g2, g3, g4, g5, g6, g7, g8, g9⟩ := t_cut (sc := sc) (w := w) (d + 18) c tC
  have g4 : ∀ m, cc sc (d + 29) 122 [.ref 79] (hp c w m) = some (none, hp c1 w m) := g4
  have hT := tkT_OK hn g1 g2 g3
  have hR := rdS_of (sc := sc) (w := w) tM g1 g2
  -- the class behind its cut
  have hc2 : cB L.length (tkT L) 0 (cS2 c1) := by
    refine ⟨?_, ?_, hT.1, ?_, ?_⟩
    · have := tkT_C g6
      unfold tkC cS2 at *
      rw [up_s, pk_un (by omega), up_n _ _ _ _ (by omega), up_n _ _ _ _ (by omega), up_n _ _ _ _ (by omega)]
      exact this
    · unfold cS2; rw [up_s, pk_un (by omega)]; exact g7
    · unfold cS2; rw [up_s, pk_un (by omega)]; exact g8
    · unfold cS2; rw [up_s, pk_un (by omega)]; exact g9
  have kC : ∀ k, k ≠ 79 → (k < 81 ∨ 83 < k) → cS2 c1 k = c k := fun k a b => by
    unfold cS2; rw [up_n _ _ _ _ a]; exact g5.1 k a (by omega) (by omega) (by omega)
  have k79 : cS2 c1 79 1 = nI 0 := by unfold cS2; rw [up_s, pk_us]
  -- the reference behind its first token
  have tM1 : tpM n b (mS1 m) := by
    unfold tpM at *
    rw [mS1_f (by decide), mS1_k (by omega), mS1_k (by omega)]
    exact tM
  have hL0 : L[0]? = some (L[0]'hT.1) := List.getElem?_eq_getElem hT.1
  have hk0 : tokAt b n 0 (L[0]'hT.1) := by
    cases L with
    | nil => exact g1.elim
    | cons y r => exact g1.1
  obtain ⟨M2, r1, r2, r3, r4⟩ := mB_of (sc := sc) (w := w) L (d + 25) 0 0 _ [] (mS1 m) tM1 mS1_v.2.2.1 hL0 hk0 (g2 _ (List.getElem_mem hT.1)) mS1_v.2.2.2.1 (fun j a hja => by simp at hja)
  have r1 : ∀ c, cc sc (d + 28) 178 [.ref 138] (hp c w (mS1 m)) = some (none, hp c w M2) := r1
  have hx2 : xK m M2 := ⟨by rw [r3 16 (by decide), mS1_f (by decide)], by rw [r2 146 (by omega), mS1_k (by omega)], by rw [r2 147 (by omega), mS1_k (by omega)]⟩
  have kM : ∀ k, k ≠ 138 → M2 k = m k := fun k a => (r2 k a).trans (mS1_k a)
  have fM : ∀ j, j ∉ [17, 18, 19, 20] → j ∉ [0, 36, 37, 17, 30, 31, 29] → M2 138 j = m 138 j := fun j a b => (r3 j a).trans (mS1_f b)
  have v36 : M2 138 36 = nI 0 := (r3 36 (by decide)).trans mS1_v.1
  have v37 : M2 138 37 = -1 := (r3 37 (by decide)).trans mS1_v.2.1
  have v31 : M2 138 31 = nI 0 := (r3 31 (by decide)).trans mS1_v.2.2.2.2.1
  have v29 : M2 138 29 = nI 0 := (r3 29 (by decide)).trans mS1_v.2.2.2.2.2
  have zM : mZ m M2 := mZ.f kM (fun j a => fM j (mem14 a).2.1 (mem14 a).2.2.1)
  by_cases z0 : k = nI 0
  · subst z0
    have hc3 : cA L.length (tkT L) 0 (lAcc []) (va_up (cS2 c1) 85 (upd (upd (cS2 c1 85) 0 (nI 0)) 1 (nI 0))) := by
      obtain ⟨y1, y2, y3, y4, y5⟩ := hc2
      unfold cA tkC at *
      rw [up_n _ _ _ _ (by omega), up_n _ _ _ _ (by omega), up_n _ _ _ _ (by omega), up_n _ _ _ _ (by omega), up_s, pk_us]
      exact ⟨y1, y2, y3, y4, y5, rfl, fun j a hja => by simp [lAcc] at hja⟩
    have hn3 : lnC [] (va_up (cS2 c1) 85 (upd (upd (cS2 c1 85) 0 (nI 0)) 1 (nI 0))) := ⟨by rw [up_s, pk_un (by omega), pk_us]; rfl, fun i l hil => by simp at hil⟩
    obtain ⟨R, ok, fc, fm⟩ := j_lawL (sc := sc) (w := w) (m0 := m) (d + 19) hT hR L.length 0 [] (by omega) hT.1 ⟨by simp [lAcc], by simp [lAcc]⟩ (fun l hl => by simp at hl) (by simp)
    have fc := fc (d + 29) _ (by omega) hc3 hn3
    have fm := fm none M2 hx2 r4 (fun i l hil => by simp at hil) v31
    cases R with
    | inr fp =>
      obtain ⟨f, p⟩ := fp
      obtain ⟨c4, u1, u2, u3, u4⟩ := fc
      obtain ⟨m3, s1, s2, s3, s4⟩ := fm
      have s1 : ∀ c0, ev sc (d + 28) 194 (pm_blk 194 2) [some (.ref 138), some (.int (nI 0)), none] [] (hp c0 w M2) = some (some (.int (-1)), hp c0 w m3) := s1
      have u1 : ∀ m1, ev sc (d + 29) 73 (pm_blk 73 9) [some (.ref 84), some (.int (nI 0))] [] (hp (va_up (cS2 c1) 85 (upd (upd (cS2 c1 85) 0 (nI 0)) 1 (nI 0))) w m1) = some (some (.int (-1)), hp c4 w m1) := u1
      have kC4 : ∀ k, k ≠ 79 → k < 81 → c4 k = c k := fun k a b => by rw [u2.1 k a (by omega), up_n _ _ _ _ (by omega), kC k a (by omega)]
      have e79 : c4 79 1 = nI 0 := by rw [u2.2 1 (by omega) (by omega) (by omega), up_n _ _ _ _ (by omega)]; exact k79
      refine ⟨c4, mE1 f p m3, -1, fun m0 => ?_, fun c0 => ?_, gR.no t hj hp0 hi0 x9 kC4 ((zM.tr s2.z).tr mE1_z) e79 (u3.trans mE1_v.1.symm) (u4.trans mE1_v.2.1.symm) mE1_v.2.2⟩
      · unfold cS2 at u1
        simp (disch := first | assumption | omega | decide | (simp only [ma_wd0, ma_wdi, ma_wdr, ma_wdl, ma_wdn] <;> omega)) only [↓reduceIte, evK, evL, evS, evA, evJ, Option.bind_some, Option.toList, List.cons_append, List.nil_append, nI_add, pk_mul, bI0, ite_not, ev_rbb, up_n, up_s, up_u, pk_us, pk_un, Nat.reduceAdd, nI_ltT, nI_ltF, nI_leT, nI_leF, nI_eqT, nI_eqF, en_LH_text, bk_LH_text, gfC, gfM, ev_r0, ev_r1, eq_self, n_m1e, true_and, and_true, false_and, and_false, and_self, not_true_eq_false, not_false_eq_true, ce_Tokens_cut, g4, pfC, ev_sw, swc_s, ce_Reader_readLaw, en_Reader_readLaw, ce_Law_empty, en_Law_empty]
        simp only [up_s, up_u, up_n _ 79 _ 85 (by omega)] at u1 ⊢
        rw [u1 m0]
        simp (disch := first | assumption | omega | decide | (simp only [ma_wd0, ma_wdi, ma_wdr, ma_wdl, ma_wdn] <;> omega)) only [↓reduceIte, evK, evL, evS, evA, evJ, Option.bind_some, Option.toList, List.cons_append, List.nil_append, nI_add, pk_mul, bI0, ite_not, ev_rbb, up_n, up_s, up_u, pk_us, pk_un, Nat.reduceAdd, nI_ltT, nI_ltF, nI_leT, nI_leF, nI_eqT, nI_eqF, gfC, gfM, ev_r0, ev_r1, eq_self, n_m1e, true_and, and_true, false_and, and_false, and_self, not_true_eq_false, not_false_eq_true]
      · unfold mS1 at r1
        unfold mE1
        simp (disch := first | assumption | omega | decide | (simp only [ma_wd0, ma_wdi, ma_wdr, ma_wdl, ma_wdn] <;> omega)) only [↓reduceIte, evK, evL, evS, evA, evJ, Option.bind_some, Option.toList, List.cons_append, List.nil_append, nI_add, pk_mul, bI0, ite_not, ev_rbb, up_n, up_s, up_u, pk_us, pk_un, Nat.reduceAdd, nI_ltT, nI_ltF, nI_leT, nI_leF, nI_eqT, nI_eqF, en_MO_text, bk_MO_text, gfC, gfM, ev_r0, ev_r1, eq_self, n_m1e, true_and, and_true, false_and, and_false, and_self, not_true_eq_false, not_false_eq_true, pfM, ce_MO_isIn, t_MO_isIn, ce_MO_readsText, en_MO_readsText, bk_MO_readsText, ce_MO_reads, r1, ce_MO_readLaw, en_MO_readLaw, s1, s3, s4]
    | inl ls' =>
      obtain ⟨n', i', c4, u1, u2, u3, u4⟩ := fc
      obtain ⟨i2, m3, s1, s2, s3, s4⟩ := fm
      have s1 : ∀ c0, ev sc (d + 28) 194 (pm_blk 194 2) [some (.ref 138), some (.int (nI 0)), none] [] (hp c0 w M2) = some (some (.int (nI ls'.length)), hp c0 w m3) := s1
      have u1 : ∀ m1, ev sc (d + 29) 73 (pm_blk 73 9) [some (.ref 84), some (.int (nI 0))] [] (hp (va_up (cS2 c1) 85 (upd (upd (cS2 c1 85) 0 (nI 0)) 1 (nI 0))) w m1) = ev sc (d + 29) 73 (pm_blk 73 40) [some (.ref 84), some (.int (nI n'))] [] (hp c4 w m1) := u1
      have kC4 : ∀ k, k ≠ 79 → k < 81 → c4 k = c k := fun k a b => by rw [u2.1 k a (by omega), up_n _ _ _ _ (by omega), kC k a (by omega)]
      have e79 : c4 79 1 = nI 0 := by rw [u2.2 1 (by omega) (by omega) (by omega), up_n _ _ _ _ (by omega)]; exact k79
      have a1 := fun d m => t_Law_copy (sc := sc) (c := c4) (m := m) (w := w) d 7 85 (by simp)
      have e85 : cL c4 7 85 85 0 = nI ls'.length := by
        unfold cL
        rw [up_n _ _ _ _ (by omega), up_n _ _ _ _ (by omega), up_n _ _ _ _ (by omega), up_n _ _ _ _ (by omega), up_n _ _ _ _ (by omega), up_n _ _ _ _ (by omega)]
        exact u3.1
      have rL : ∀ k, k < 7 ∨ 12 < k → cL c4 7 85 k = c4 k := fun k a => by
        unfold cL
        rw [up_n _ _ _ _ (by omega), up_n _ _ _ _ (by omega), up_n _ _ _ _ (by omega), up_n _ _ _ _ (by omega), up_n _ _ _ _ (by omega), up_n _ _ _ _ (by omega)]
      have hz : mZ m (mE0 m3) := (zM.tr s2.z).tr mE0_z
      have e29 : mE0 m3 138 29 = nI 0 := by
        unfold mE0
        rw [up_s, pk_un (by omega), s2.2.1 29 (by decide)]
        exact v29
      have e30 : mE0 m3 138 30 = nI ((lAcc ls').flatMap lB_x).length := by
        unfold mE0
        rw [up_s, pk_un (by omega)]
        exact s3.2.2.2.2.1
      have nv := vV_n (v := ls'.length) (by have := ok.2.1; omega)
      have a2 := fun d c => t_takesLaw (sc := sc) (c := c) (w := w) (m := mE0 m3) d ls'.length ((lAcc ls').flatMap lB_x).length e29 e30 ok.2.1 ok.2.2.2
      have hbase := t.z kC4 hz
      have rw1 : ∀ k, k < 148 ∨ 155 < k → tkLw (mE0 m3) ls'.length ((lAcc ls').flatMap lB_x).length k = mE0 m3 k := fun k a => by
        unfold tkLw tkL2 tkL1
        rw [up_n _ _ _ _ (by omega), up_n _ _ _ _ (by omega), up_n _ _ _ _ (by omega), up_n _ _ _ _ (by omega), up_n _ _ _ _ (by omega), up_n _ _ _ _ (by omega), up_n _ _ _ _ (by omega)]
      have mk : ∀ k, k ≠ 138 → mE0 m3 k = m3 k := fun k a => up_n _ _ _ _ a
      have hlM : lM (tkLw (mE0 m3) ls'.length ((lAcc ls').flatMap lB_x).length) ls' := by
        refine lm_of s4 s3 ok ?_ (fun j hjl => ?_) (fun j hjl => ?_)
        · unfold tkLw; rw [up_s, pk_us]
        · unfold tkLw tkL2 tkL1
          rw [up_n _ _ _ _ (by omega), up_n _ _ _ _ (by omega), up_n _ _ _ _ (by omega), up_n _ _ _ _ (by omega), up_n _ _ _ _ (by omega), up_n _ _ _ _ (by omega), up_s, up_n _ _ _ _ (by omega), up_n _ _ _ _ (by omega), up_n _ _ _ _ (by omega), up_n _ _ _ _ (by omega), up_n _ _ _ _ (by omega), up_s, up_n _ _ _ _ (by omega), up_n _ _ _ _ (by omega), up_n _ _ _ _ (by omega), up_n _ _ _ _ (by omega), up_s, up_n _ _ _ _ (by omega), up_n _ _ _ _ (by omega), up_n _ _ _ _ (by omega), up_s, cpM_in hjl, cpM_in hjl, cpM_in hjl, cpM_in hjl, mk 149 (by omega), mk 150 (by omega), mk 151 (by omega), mk 152 (by omega)]
          exact ⟨rfl, rfl, rfl, rfl⟩
        · unfold tkLw tkL2
          rw [up_n _ _ _ _ (by omega), up_n _ _ _ _ (by omega), up_s, up_n _ _ _ _ (by omega), up_s, cpM_in hjl, cpM_in hjl]
          unfold tkL1
          rw [up_n _ _ _ _ (by omega), up_n _ _ _ _ (by omega), up_n _ _ _ _ (by omega), up_n _ _ _ _ (by omega), up_n _ _ _ _ (by omega), up_n _ _ _ _ (by omega), up_n _ _ _ _ (by omega), up_n _ _ _ _ (by omega), mk 153 (by omega), mk 154 (by omega)]
          exact ⟨rfl, rfl⟩
      have hlC : lC (cL c4 7 85) ls' := by
        refine lc_of u3 u4.2.2.2.2.2.2 ok ?_ (fun j hj16 => ?_) (fun j hj4 => ?_)
        · unfold cL
          rw [up_n _ _ _ _ (by omega), up_n _ _ _ _ (by omega), up_n _ _ _ _ (by omega), up_n _ _ _ _ (by omega), up_n _ _ _ _ (by omega), up_s, pk_un (by omega), pk_us]
        · unfold cL
          refine ⟨?_, ?_, ?_, ?_⟩
          · rw [up_n _ _ _ _ (by omega), up_n _ _ _ _ (by omega), up_n _ _ _ _ (by omega), up_n _ _ _ _ (by omega), up_s, cp0 hj16]
          · rw [up_n _ _ _ _ (by omega), up_n _ _ _ _ (by omega), up_n _ _ _ _ (by omega), up_s, cp0 hj16]
          · rw [up_n _ _ _ _ (by omega), up_n _ _ _ _ (by omega), up_s, cp0 hj16]
          · rw [up_n _ _ _ _ (by omega), up_s, cp0 hj16]
        · unfold cL
          rw [up_s, cp0 hj4]
      refine ⟨cL c4 7 85, tkLw (mE0 m3) ls'.length ((lAcc ls').flatMap lB_x).length, nI ls'.length, fun m0 => ?_, fun c0 => ?_, ?_⟩
      · unfold cS2 at u1
        simp (disch := first | assumption | omega | decide | (simp only [ma_wd0, ma_wdi, ma_wdr, ma_wdl, ma_wdn] <;> omega)) only [↓reduceIte, evK, evL, evS, evA, evJ, Option.bind_some, Option.toList, List.cons_append, List.nil_append, nI_add, pk_mul, bI0, ite_not, ev_rbb, up_n, up_s, up_u, pk_us, pk_un, Nat.reduceAdd, nI_ltT, nI_ltF, nI_leT, nI_leF, nI_eqT, nI_eqF, en_LH_text, bk_LH_text, gfC, gfM, ev_r0, ev_r1, eq_self, n_m1e, true_and, and_true, false_and, and_false, and_self, not_true_eq_false, not_false_eq_true, ce_Tokens_cut, g4, pfC, ev_sw, swc_s, ce_Reader_readLaw, en_Reader_readLaw, ce_Law_empty, en_Law_empty]
        simp only [up_s, up_u, up_n _ 79 _ 85 (by omega)] at u1 ⊢
        rw [u1 m0]
        simp (disch := first | assumption | omega | decide | (simp only [ma_wd0, ma_wdi, ma_wdr, ma_wdl, ma_wdn] <;> omega)) only [↓reduceIte, evK, evL, evS, evA, evJ, Option.bind_some, Option.toList, List.cons_append, List.nil_append, nI_add, pk_mul, bI0, ite_not, ev_rbb, up_n, up_s, up_u, pk_us, pk_un, Nat.reduceAdd, nI_ltT, nI_ltF, nI_leT, nI_leF, nI_eqT, nI_eqF, bk_Reader_readLaw, gfC, gfM, ev_r0, ev_r1, eq_self, n_m1e, true_and, and_true, false_and, and_false, and_self, not_true_eq_false, not_false_eq_true, ce_Law_copy, a1, e85]
      · unfold mS1 at r1
        unfold mE0 at a2 ⊢
        simp (disch := first | assumption | omega | decide | (simp only [ma_wd0, ma_wdi, ma_wdr, ma_wdl, ma_wdn] <;> omega)) only [↓reduceIte, evK, evL, evS, evA, evJ, Option.bind_some, Option.toList, List.cons_append, List.nil_append, nI_add, pk_mul, bI0, ite_not, ev_rbb, up_n, up_s, up_u, pk_us, pk_un, Nat.reduceAdd, nI_ltT, nI_ltF, nI_leT, nI_leF, nI_eqT, nI_eqF, en_MO_text, bk_MO_text, gfC, gfM, ev_r0, ev_r1, eq_self, n_m1e, true_and, and_true, false_and, and_false, and_self, not_true_eq_false, not_false_eq_true, pfM, ce_MO_isIn, t_MO_isIn, ce_MO_readsText, en_MO_readsText, bk_MO_readsText, ce_MO_reads, r1, ce_MO_readLaw, en_MO_readLaw, s1, nv, ce_MO_takesLaw, a2]
      · refine gR.tx (Q := Q) (ls' := ls') hj (hp0.eq (fun k a b => (rL k (by omega)).trans (kC4 k (by omega) (by omega))) (by rw [rw1 140 (by omega)]; exact hz.1 140 (by omega) (by omega)) (by rw [rw1 138 (by omega)]; exact hz.2.1 3 (by decide))) hi0 (hbase.law hlC hlM (fun k a => rL k (by omega)) rw1) (fun k a b => (rL k (by omega)).trans (kC4 k (by omega) (by omega))) (by rw [rL 0 (by omega), kC4 0 (by omega) (by omega)]) (by rw [rw1 139 (by omega)]; exact hz.1 139 (by omega) (by omega)) (by rw [rw1 145 (by omega)]; exact hz.1 145 (by omega) (by omega)) (by rw [rw1 166 (by omega)]; exact hz.1 166 (by omega) (by omega)) (by rw [rw1 138 (by omega)]; exact hz.2.1 5 (by decide)) (by rw [rw1 138 (by omega)]; exact hz.2.1 55 (by decide)) (by rw [rL 79 (by omega)]; exact e79) ?_ ?_ ?_ (by rw [rw1 147 (by omega), hz.1 147 (by omega) (by omega)]; exact x9)
        · rw [rL 79 (by omega), rw1 138 (by omega), mE0_v.1, s2.2.1 36 (by decide), v36]; exact u4.2.2.2.1
        · rw [rL 79 (by omega), rw1 138 (by omega), mE0_v.2.1, s2.2.1 37 (by decide), v37]; exact u4.2.2.2.2.1
        · rw [rw1 138 (by omega)]; exact mE0_v.2.2
  by_cases z1 : k = nI 1
  · subst z1
    have hc3 : cB L.length (tkT L) 0 (lnU 0 (cS2 c1)) := hc2.ln
    obtain ⟨R, ok, fc, fm⟩ := j_ros (sc := sc) (w := w) (m0 := m) (d + 21) W hW3 hW14 hT hR L.length 0 [] (by omega) hT.1 (by simp) (fun l hl => by simp at hl)
    have fc := fc (d + 27) _ (by omega) hc3 (by unfold lnU; rw [up_s, pk_us]; rfl) (by unfold lnU; rw [up_n _ _ _ _ (by omega), kC 1 (by omega) (by omega)]; exact hw1) (fun i _ _ _ _ hil => by simp at hil)
    have fm := fm [] M2 hx2 r4 (by rw [fM 6 (by decide) (by decide)]; exact hw2) (fun i _ _ _ _ hil => by simp at hil)
    cases R with
    | inr fp =>
      obtain ⟨f, p⟩ := fp
      obtain ⟨c4, u1, u2, u3, u4⟩ := fc
      obtain ⟨m3, s1, s2, s3, s4⟩ := fm
      have s1 : ∀ c0, ev sc (d + 28) 184 (pm_blk 184 2) [some (.ref 138), some (.int (nI 0))] [] (hp c0 w M2) = some (some (.int (-1)), hp c0 w m3) := s1
      have u1 : ∀ m1, ev sc (d + 27) 81 (pm_blk 81 10) [some (.ref 84), some (.int (nI 271)), some (.int (nI 16)), some (.int (nI 0))] [] (hp (lnU 0 (cS2 c1)) w m1) = some (some (.int (nI 0)), hp c4 w m1) := u1
      have kC4 : ∀ k, k ≠ 79 → k < 81 → c4 k = c k := fun k a b => by rw [u2.1 k a (by omega) (by omega), lnU_R.1 k a (by omega) (by omega), kC k a (by omega)]
      have e79 : c4 79 1 = nI 0 := by rw [u2.2 1 (by omega) (by omega) (by omega), lnU_R.2 1 (by omega) (by omega) (by omega)]; exact k79
      refine ⟨c4, mE1 f p m3, -1, fun m0 => ?_, fun c0 => ?_, gR.no t hj hp0 hi0 x9 kC4 ((zM.tr s2.z).tr mE1_z) e79 (u3.trans mE1_v.1.symm) (u4.trans mE1_v.2.1.symm) mE1_v.2.2⟩
      · unfold lnU cS2 at u1
        simp (disch := first | assumption | omega | decide | (simp only [ma_wd0, ma_wdi, ma_wdr, ma_wdl, ma_wdn] <;> omega)) only [↓reduceIte, evK, evL, evS, evA, evJ, Option.bind_some, Option.toList, List.cons_append, List.nil_append, nI_add, pk_mul, bI0, ite_not, ev_rbb, up_n, up_s, up_u, pk_us, pk_un, Nat.reduceAdd, nI_ltT, nI_ltF, nI_leT, nI_leF, nI_eqT, nI_eqF, en_LH_text, bk_LH_text, gfC, gfM, ev_r0, ev_r1, eq_self, n_m1e, true_and, and_true, false_and, and_false, and_self, not_true_eq_false, not_false_eq_true, ce_Tokens_cut, g4, pfC, ev_sw, swc_s, ce_LH_newRoster, en_LH_newRoster, bk_LH_newRoster, ce_Reader_readRoster, en_Reader_readRoster, bk_Reader_readRoster, ce_Reader_readRows, en_Reader_readRows]
        simp only [up_s, up_u, up_n _ 79 _ 91 (by omega)] at u1 ⊢
        rw [u1 m0]
        simp (disch := first | assumption | omega | decide | (simp only [ma_wd0, ma_wdi, ma_wdr, ma_wdl, ma_wdn] <;> omega)) only [↓reduceIte, evK, evL, evS, evA, evJ, Option.bind_some, Option.toList, List.cons_append, List.nil_append, nI_add, pk_mul, bI0, ite_not, ev_rbb, up_n, up_s, up_u, pk_us, pk_un, Nat.reduceAdd, nI_ltT, nI_ltF, nI_leT, nI_leF, nI_eqT, nI_eqF, bk_LH_newRoster, bk_Reader_readRoster, gfC, gfM, ev_r0, ev_r1, eq_self, n_m1e, true_and, and_true, false_and, and_false, and_self, not_true_eq_false, not_false_eq_true]
      · unfold mS1 at r1
        unfold mE1
        simp (disch := first | assumption | omega | decide | (simp only [ma_wd0, ma_wdi, ma_wdr, ma_wdl, ma_wdn] <;> omega)) only [↓reduceIte, evK, evL, evS, evA, evJ, Option.bind_some, Option.toList, List.cons_append, List.nil_append, nI_add, pk_mul, bI0, ite_not, ev_rbb, up_n, up_s, up_u, pk_us, pk_un, Nat.reduceAdd, nI_ltT, nI_ltF, nI_leT, nI_leF, nI_eqT, nI_eqF, en_MO_text, bk_MO_text, gfC, gfM, ev_r0, ev_r1, eq_self, n_m1e, true_and, and_true, false_and, and_false, and_self, not_true_eq_false, not_false_eq_true, pfM, ce_MO_isIn, t_MO_isIn, ce_MO_readsText, en_MO_readsText, bk_MO_readsText, ce_MO_reads, r1, ce_MO_readRoster, en_MO_readRoster, s1, s3, s4]
    | inl ls' =>
      obtain ⟨c4, u1, u2, u3, u4, u5, u6⟩ := fc
      obtain ⟨m3, s1, s2, s3⟩ := fm
      have s1 : ∀ c0, ev sc (d + 28) 184 (pm_blk 184 2) [some (.ref 138), some (.int (nI 0))] [] (hp c0 w M2) = some (some (.int (nI ls'.length)), hp c0 w m3) := s1
      have u1 : ∀ m1, ev sc (d + 27) 81 (pm_blk 81 10) [some (.ref 84), some (.int (nI 271)), some (.int (nI 16)), some (.int (nI 0))] [] (hp (lnU 0 (cS2 c1)) w m1) = some (some (.int (nI 1)), hp c4 w m1) := u1
      have kC4 : ∀ k, k ≠ 79 → k < 81 → c4 k = c k := fun k a b => by rw [u2.1 k a (by omega) (by omega), lnU_R.1 k a (by omega) (by omega), kC k a (by omega)]
      have e79 : c4 79 1 = nI 0 := by rw [u2.2 1 (by omega) (by omega) (by omega), lnU_R.2 1 (by omega) (by omega) (by omega)]; exact k79
      have a1 := fun d m => t_Rows_copy (sc := sc) (c := c4) (m := m) (w := w) d 13 91 (by simp)
      have e91 : cR c4 13 91 91 0 = nI ls'.length := by
        unfold cR
        rw [up_n _ _ _ _ (by omega), up_n _ _ _ _ (by omega)]
        exact u3
      have nv := vV_n (v := ls'.length) (by have := ok.1; omega)
      have hz : mZ m (mE0 m3) := (zM.tr s2.z).tr mE0_z
      have a2 := fun d c => t_takesO1 (sc := sc) (c := c) (w := w) (m := mE0 m3) d ls'.length ok.1
      have hbase := t.z kC4 hz
      have rC : ∀ k, k ≠ 13 → k ≠ 14 → k ≠ 47 → va_up (cR c4 13 91) 47 (upd (cR c4 13 91 47) 1 (nI 0)) k = c4 k := fun k a b e => by
        rw [up_n _ _ _ _ e]
        unfold cR
        rw [up_n _ _ _ _ b, up_n _ _ _ _ a]
      have r13 : va_up (cR c4 13 91) 47 (upd (cR c4 13 91 47) 1 (nI 0)) 13 0 = nI ls'.length := by
        rw [up_n _ _ _ _ (by omega)]
        unfold cR
        rw [up_n _ _ _ _ (by omega), up_s, pk_us]
        exact u3
      have r14 : ∀ j, j < 80 → va_up (cR c4 13 91) 47 (upd (cR c4 13 91 47) 1 (nI 0)) 14 j = c4 92 j := fun j hj80 => by
        rw [up_n _ _ _ _ (by omega)]
        unfold cR
        rw [up_s, cp0 hj80]
      generalize hM5 : va_up (va_up (mE0 m3) 156 (cpM (mE0 m3 156) 64 (4 * ls'.length))) 138 (upd (upd (mE0 m3 138) 38 (nI ls'.length)) 3 (nI 0)) = M5 at a2
      have q1 : ∀ k, k ≠ 138 → k ≠ 156 → M5 k = mE0 m3 k := fun k a b => by rw [← hM5, up_n _ _ _ _ a, up_n _ _ _ _ b]
      have q2 : ∀ j, j ≠ 3 → j ≠ 38 → M5 138 j = mE0 m3 138 j := fun j a b => by rw [← hM5, up_s, pk_un a, pk_un b]
      have q3 : M5 138 3 = nI 0 ∧ M5 138 38 = nI ls'.length := by rw [← hM5, up_s, pk_us, pk_un (by omega), pk_us]; exact ⟨rfl, rfl⟩
      have q4 : ∀ j, j < 4 * ls'.length → M5 156 j = m3 156 (64 + j) := fun j hjl => by
        rw [← hM5, up_n _ _ _ _ (by omega), up_s, cpM_in hjl]
        unfold mE0
        rw [up_n _ _ _ _ (by omega)]
      have hO : tO W (va_up (cR c4 13 91) 47 (upd (cR c4 13 91 47) 1 (nI 0))) M5 := by
        refine ⟨ls'.length, ok.1, r13, q3.2, fun i hil => ?_⟩
        have ll := ok.1
        have hg : ls'[i]? = some ls'[i] := List.getElem?_eq_getElem hil
        generalize ls'[i] = qq at hg
        obtain ⟨tt, aa, vv, oo⟩ := qq
        have hv := ok.2 _ (List.mem_of_getElem? hg)
        obtain ⟨w1, w2, w3, w4⟩ := u4 i tt aa vv oo hg
        obtain ⟨y1, y2, y3, y4⟩ := s3 i tt aa vv oo hg
        obtain ⟨p1, p2⟩ := hv
        dsimp only at p1 p2
        refine ⟨tt, aa, vv, oo, p1, by omega, ?_, ?_, ?_, ?_, ?_, ?_, ?_⟩
        · rw [r14 _ (by omega)]; exact w1
        · rw [q4 _ (by omega), show 64 + 4 * i = 64 + 4 * i from rfl]; exact y1
        · rw [r14 _ (by omega)]; exact w2
        · rw [q4 _ (by omega), ← Nat.add_assoc]; exact y2
        · rw [r14 _ (by omega)]; exact w3
        · rw [q4 _ (by omega), ← Nat.add_assoc]; exact y3
        · rcases p2 with ⟨b1, b2, b3⟩ | b | b
          · exact Or.inl ⟨b1, b2, b3, by rw [r14 _ (by omega)]; exact w4 b1, by rw [q4 _ (by omega), ← Nat.add_assoc]; exact y4 b1⟩
          · exact Or.inr (Or.inl b)
          · exact Or.inr (Or.inr b)
      refine ⟨va_up (cR c4 13 91) 47 (upd (cR c4 13 91 47) 1 (nI 0)), M5, nI ls'.length, fun m0 => ?_, fun c0 => ?_, ?_⟩
      · unfold lnU cS2 at u1
        simp (disch := first | assumption | omega | decide | (simp only [ma_wd0, ma_wdi, ma_wdr, ma_wdl, ma_wdn] <;> omega)) only [↓reduceIte, evK, evL, evS, evA, evJ, Option.bind_some, Option.toList, List.cons_append, List.nil_append, nI_add, pk_mul, bI0, ite_not, ev_rbb, up_n, up_s, up_u, pk_us, pk_un, Nat.reduceAdd, nI_ltT, nI_ltF, nI_leT, nI_leF, nI_eqT, nI_eqF, en_LH_text, bk_LH_text, gfC, gfM, ev_r0, ev_r1, eq_self, n_m1e, true_and, and_true, false_and, and_false, and_self, not_true_eq_false, not_false_eq_true, ce_Tokens_cut, g4, pfC, ev_sw, swc_s, ce_LH_newRoster, en_LH_newRoster, ce_Reader_readRoster, en_Reader_readRoster, ce_Reader_readRows, en_Reader_readRows]
        simp only [up_s, up_u, up_n _ 79 _ 91 (by omega)] at u1 ⊢
        rw [u1 m0]
        simp (disch := first | assumption | omega | decide | (simp only [ma_wd0, ma_wdi, ma_wdr, ma_wdl, ma_wdn] <;> omega)) only [↓reduceIte, evK, evL, evS, evA, evJ, Option.bind_some, Option.toList, List.cons_append, List.nil_append, nI_add, pk_mul, bI0, ite_not, ev_rbb, up_n, up_s, up_u, pk_us, pk_un, Nat.reduceAdd, nI_ltT, nI_ltF, nI_leT, nI_leF, nI_eqT, nI_eqF, bk_LH_newRoster, bk_Reader_readRoster, gfC, gfM, ev_r0, ev_r1, eq_self, n_m1e, true_and, and_true, false_and, and_false, and_self, not_true_eq_false, not_false_eq_true, ce_Rows_copy, a1, e91, nv, ce_Past_forget, en_Past_forget, pfC]
      · unfold mS1 at r1
        unfold mE0 at a2
        simp (disch := first | assumption | omega | decide | (simp only [ma_wd0, ma_wdi, ma_wdr, ma_wdl, ma_wdn] <;> omega)) only [↓reduceIte, evK, evL, evS, evA, evJ, Option.bind_some, Option.toList, List.cons_append, List.nil_append, nI_add, pk_mul, bI0, ite_not, ev_rbb, up_n, up_s, up_u, pk_us, pk_un, Nat.reduceAdd, nI_ltT, nI_ltF, nI_leT, nI_leF, nI_eqT, nI_eqF, en_MO_text, bk_MO_text, gfC, gfM, ev_r0, ev_r1, eq_self, n_m1e, true_and, and_true, false_and, and_false, and_self, not_true_eq_false, not_false_eq_true, pfM, ce_MO_isIn, t_MO_isIn, ce_MO_readsText, en_MO_readsText, bk_MO_readsText, ce_MO_reads, r1, ce_MO_readRoster, en_MO_readRoster, s1, nv, ce_MO_takesOther, a2]
      · refine gR.tx (Q := Q) (ls' := ls) hj (hp0.zero ?_ ?_ q3.1) hi0 (hbase.ros hO (fun k a => rC k (by omega) (by omega) (by omega)) q1 q2) (fun k a b => ?_) ?_ (by rw [q1 139 (by omega) (by omega)]; exact hz.1 139 (by omega) (by omega)) (by rw [q1 145 (by omega) (by omega)]; exact hz.1 145 (by omega) (by omega)) (by rw [q1 166 (by omega) (by omega)]; exact hz.1 166 (by omega) (by omega)) (by rw [q2 5 (by omega) (by omega)]; exact hz.2.1 5 (by decide)) (by rw [q2 55 (by omega) (by omega)]; exact hz.2.1 55 (by decide)) (by rw [rC 79 (by omega) (by omega) (by omega)]; exact e79) ?_ ?_ ?_ (by rw [q1 147 (by omega) (by omega), hz.1 147 (by omega) (by omega)]; exact x9)
        · rw [rC 48 (by omega) (by omega) (by omega), kC4 48 (by omega) (by omega)]
        · rw [up_s, pk_us]
        · rw [rC k (by omega) (by omega) (by omega), kC4 k (by omega) (by omega)]
        · rw [rC 0 (by omega) (by omega) (by omega), kC4 0 (by omega) (by omega)]
        · rw [rC 79 (by omega) (by omega) (by omega), q2 36 (by omega) (by omega), mE0_v.1, s2.2.1 36 (by decide), v36]; exact u5
        · rw [rC 79 (by omega) (by omega) (by omega), q2 37 (by omega) (by omega), mE0_v.2.1, s2.2.1 37 (by decide), v37]; exact u6
        · rw [q2 16 (by omega) (by omega)]; exact mE0_v.2.2
  by_cases z2 : k = nI 2
  · subst z2
    have hc3 : cB L.length (tkT L) 0 (lnU 0 (cS2 c1)) := hc2.ln
    obtain ⟨R, ok, fc, fm⟩ := j_wan (sc := sc) (w := w) (m0 := m) (d + 21) Q hQ6 hT hR L.length 0 [] (by omega) hT.1 (by simp) (fun l hl => by simp at hl)
    have fc := fc (d + 28) _ (by omega) hc3 (by unfold lnU; rw [up_s, pk_us]; rfl) (by unfold lnU; rw [up_n _ _ _ _ (by omega), kC 1 (by omega) (by omega)]; exact hq1) (fun i _ _ _ _ _ hil => by simp at hil)
    have fm := fm [] M2 hx2 r4 (by rw [fM 10 (by decide) (by decide)]; exact hq2) (fun i _ _ _ _ _ hil => by simp at hil)
    cases R with
    | inr fp =>
      obtain ⟨f, p⟩ := fp
      obtain ⟨c4, u1, u2, u3, u4⟩ := fc
      obtain ⟨m3, s1, s2, s3, s4⟩ := fm
      have s1 : ∀ c0, ev sc (d + 28) 192 (pm_blk 192 2) [some (.ref 138), some (.int (nI 0))] [] (hp c0 w M2) = some (some (.int (-1)), hp c0 w m3) := s1
      have u1 : ∀ m1, ev sc (d + 28) 81 (pm_blk 81 10) [some (.ref 84), some (.int (nI 277)), some (.int (nI 12)), some (.int (nI 0))] [] (hp (lnU 0 (cS2 c1)) w m1) = some (some (.int (nI 0)), hp c4 w m1) := u1
      have kC4 : ∀ k, k ≠ 79 → k < 81 → c4 k = c k := fun k a b => by rw [u2.1 k a (by omega) (by omega), lnU_R.1 k a (by omega) (by omega), kC k a (by omega)]
      have e79 : c4 79 1 = nI 0 := by rw [u2.2 1 (by omega) (by omega) (by omega), lnU_R.2 1 (by omega) (by omega) (by omega)]; exact k79
      refine ⟨c4, mE1 f p m3, -1, fun m0 => ?_, fun c0 => ?_, gR.no t hj hp0 hi0 x9 kC4 ((zM.tr s2.z).tr mE1_z) e79 (u3.trans mE1_v.1.symm) (u4.trans mE1_v.2.1.symm) mE1_v.2.2⟩
      · unfold lnU cS2 at u1
        simp (disch := first | assumption | omega | decide | (simp only [ma_wd0, ma_wdi, ma_wdr, ma_wdl, ma_wdn] <;> omega)) only [↓reduceIte, evK, evL, evS, evA, evJ, Option.bind_some, Option.toList, List.cons_append, List.nil_append, nI_add, pk_mul, bI0, ite_not, ev_rbb, up_n, up_s, up_u, pk_us, pk_un, Nat.reduceAdd, nI_ltT, nI_ltF, nI_leT, nI_leF, nI_eqT, nI_eqF, en_LH_text, bk_LH_text, gfC, gfM, ev_r0, ev_r1, eq_self, n_m1e, true_and, and_true, false_and, and_false, and_self, not_true_eq_false, not_false_eq_true, ce_Tokens_cut, g4, pfC, ev_sw, swc_s, ce_Reader_readWants, en_Reader_readWants, bk_Reader_readWants, ce_Reader_readRows, en_Reader_readRows]
        simp only [up_s, up_u, up_n _ 79 _ 91 (by omega)] at u1 ⊢
        rw [u1 m0]
        simp (disch := first | assumption | omega | decide | (simp only [ma_wd0, ma_wdi, ma_wdr, ma_wdl, ma_wdn] <;> omega)) only [↓reduceIte, evK, evL, evS, evA, evJ, Option.bind_some, Option.toList, List.cons_append, List.nil_append, nI_add, pk_mul, bI0, ite_not, ev_rbb, up_n, up_s, up_u, pk_us, pk_un, Nat.reduceAdd, nI_ltT, nI_ltF, nI_leT, nI_leF, nI_eqT, nI_eqF, bk_Reader_readWants, gfC, gfM, ev_r0, ev_r1, eq_self, n_m1e, true_and, and_true, false_and, and_false, and_self, not_true_eq_false, not_false_eq_true]
      · unfold mS1 at r1
        unfold mE1
        simp (disch := first | assumption | omega | decide | (simp only [ma_wd0, ma_wdi, ma_wdr, ma_wdl, ma_wdn] <;> omega)) only [↓reduceIte, evK, evL, evS, evA, evJ, Option.bind_some, Option.toList, List.cons_append, List.nil_append, nI_add, pk_mul, bI0, ite_not, ev_rbb, up_n, up_s, up_u, pk_us, pk_un, Nat.reduceAdd, nI_ltT, nI_ltF, nI_leT, nI_leF, nI_eqT, nI_eqF, en_MO_text, bk_MO_text, gfC, gfM, ev_r0, ev_r1, eq_self, n_m1e, true_and, and_true, false_and, and_false, and_self, not_true_eq_false, not_false_eq_true, pfM, ce_MO_isIn, t_MO_isIn, ce_MO_readsText, en_MO_readsText, bk_MO_readsText, ce_MO_reads, r1, ce_MO_readWants, en_MO_readWants, s1, s3, s4]
    | inl ls' =>
      obtain ⟨c4, u1, u2, u3, u4, u5, u6⟩ := fc
      obtain ⟨m3, s1, s2, s3⟩ := fm
      have s1 : ∀ c0, ev sc (d + 28) 192 (pm_blk 192 2) [some (.ref 138), some (.int (nI 0))] [] (hp c0 w M2) = some (some (.int (nI ls'.length)), hp c0 w m3) := s1
      have u1 : ∀ m1, ev sc (d + 28) 81 (pm_blk 81 10) [some (.ref 84), some (.int (nI 277)), some (.int (nI 12)), some (.int (nI 0))] [] (hp (lnU 0 (cS2 c1)) w m1) = some (some (.int (nI 1)), hp c4 w m1) := u1
      have kC4 : ∀ k, k ≠ 79 → k < 81 → c4 k = c k := fun k a b => by rw [u2.1 k a (by omega) (by omega), lnU_R.1 k a (by omega) (by omega), kC k a (by omega)]
      have e79 : c4 79 1 = nI 0 := by rw [u2.2 1 (by omega) (by omega) (by omega), lnU_R.2 1 (by omega) (by omega) (by omega)]; exact k79
      have a1 := fun d m => t_Rows_copy (sc := sc) (c := c4) (m := m) (w := w) d 15 91 (by simp)
      have e91 : cR c4 15 91 91 0 = nI ls'.length := by
        unfold cR
        rw [up_n _ _ _ _ (by omega), up_n _ _ _ _ (by omega)]
        exact u3
      have nv := vV_n (v := ls'.length) (by have := ok.1; omega)
      have hz : mZ m (mE0 m3) := (zM.tr s2.z).tr mE0_z
      have a2 := fun d c => t_takesO2 (sc := sc) (c := c) (w := w) (m := mE0 m3) d ls'.length ok.1
      have hbase := t.z kC4 hz
      have rC : ∀ k, k ≠ 15 → k ≠ 16 → cR c4 15 91 k = c4 k := fun k a b => by
        unfold cR
        rw [up_n _ _ _ _ b, up_n _ _ _ _ a]
      have r13 : cR c4 15 91 15 0 = nI ls'.length := by
        unfold cR
        rw [up_n _ _ _ _ (by omega), up_s, pk_us]
        exact u3
      have r14 : ∀ j, j < 80 → cR c4 15 91 16 j = c4 92 j := fun j hj80 => by
        unfold cR
        rw [up_s, cp0 hj80]
      generalize hM5 : va_up (va_up (mE0 m3) 157 (cpM (mE0 m3 157) 60 (5 * ls'.length))) 138 (upd (mE0 m3 138) 40 (nI ls'.length)) = M5 at a2
      have q1 : ∀ k, k ≠ 138 → k ≠ 157 → M5 k = mE0 m3 k := fun k a b => by rw [← hM5, up_n _ _ _ _ a, up_n _ _ _ _ b]
      have q2 : ∀ j, j ≠ 40 → M5 138 j = mE0 m3 138 j := fun j a => by rw [← hM5, up_s, pk_un a]
      have q3 : M5 138 40 = nI ls'.length := by rw [← hM5, up_s, pk_us]
      have q4 : ∀ j, j < 5 * ls'.length → M5 157 j = m3 157 (60 + j) := fun j hjl => by
        rw [← hM5, up_n _ _ _ _ (by omega), up_s, cpM_in hjl]
        unfold mE0
        rw [up_n _ _ _ _ (by omega)]
      have hO : tW Q (cR c4 15 91) M5 := by
        refine ⟨ls'.length, ok.1, r13, q3, fun i hil => ?_⟩
        have ll := ok.1
        have hg : ls'[i]? = some ls'[i] := List.getElem?_eq_getElem hil
        generalize ls'[i] = qq at hg
        obtain ⟨pp, hh, ss, tt, yy⟩ := qq
        have hv := ok.2 _ (List.mem_of_getElem? hg)
        obtain ⟨w1, w2, w3, w4, w5⟩ := u4 i pp hh ss tt yy hg
        obtain ⟨y1, y2, y3, y4, y5⟩ := s3 i pp hh ss tt yy hg
        obtain ⟨p1, p2, p3, p4, p5⟩ := hv
        refine ⟨pp, hh, ss, tt, yy, p1, p2, p3, p4, p5, ?_, ?_, ?_, ?_, ?_, ?_, ?_, ?_, ?_, ?_⟩
        · rw [r14 _ (by omega)]; exact w1
        · rw [q4 _ (by omega)]; exact y1
        · rw [r14 _ (by omega)]; exact w2
        · rw [q4 _ (by omega), ← Nat.add_assoc]; exact y2
        · rw [r14 _ (by omega)]; exact w3
        · rw [q4 _ (by omega), ← Nat.add_assoc]; exact y3
        · rw [r14 _ (by omega)]; exact w4
        · rw [q4 _ (by omega), ← Nat.add_assoc]; exact y4
        · rw [r14 _ (by omega)]; exact w5
        · rw [q4 _ (by omega), ← Nat.add_assoc]; exact y5
      refine ⟨cR c4 15 91, M5, nI ls'.length, fun m0 => ?_, fun c0 => ?_, ?_⟩
      · unfold lnU cS2 at u1
        simp (disch := first | assumption | omega | decide | (simp only [ma_wd0, ma_wdi, ma_wdr, ma_wdl, ma_wdn] <;> omega)) only [↓reduceIte, evK, evL, evS, evA, evJ, Option.bind_some, Option.toList, List.cons_append, List.nil_append, nI_add, pk_mul, bI0, ite_not, ev_rbb, up_n, up_s, up_u, pk_us, pk_un, Nat.reduceAdd, nI_ltT, nI_ltF, nI_leT, nI_leF, nI_eqT, nI_eqF, en_LH_text, bk_LH_text, gfC, gfM, ev_r0, ev_r1, eq_self, n_m1e, true_and, and_true, false_and, and_false, and_self, not_true_eq_false, not_false_eq_true, ce_Tokens_cut, g4, pfC, ev_sw, swc_s, ce_Reader_readWants, en_Reader_readWants, ce_Reader_readRows, en_Reader_readRows]
        simp only [up_s, up_u, up_n _ 79 _ 91 (by omega)] at u1 ⊢
        rw [u1 m0]
        simp (disch := first | assumption | omega | decide | (simp only [ma_wd0, ma_wdi, ma_wdr, ma_wdl, ma_wdn] <;> omega)) only [↓reduceIte, evK, evL, evS, evA, evJ, Option.bind_some, Option.toList, List.cons_append, List.nil_append, nI_add, pk_mul, bI0, ite_not, ev_rbb, up_n, up_s, up_u, pk_us, pk_un, Nat.reduceAdd, nI_ltT, nI_ltF, nI_leT, nI_leF, nI_eqT, nI_eqF, bk_Reader_readWants, gfC, gfM, ev_r0, ev_r1, eq_self, n_m1e, true_and, and_true, false_and, and_false, and_self, not_true_eq_false, not_false_eq_true, ce_Rows_copy, a1, e91]
      · unfold mS1 at r1
        unfold mE0 at a2
        simp (disch := first | assumption | omega | decide | (simp only [ma_wd0, ma_wdi, ma_wdr, ma_wdl, ma_wdn] <;> omega)) only [↓reduceIte, evK, evL, evS, evA, evJ, Option.bind_some, Option.toList, List.cons_append, List.nil_append, nI_add, pk_mul, bI0, ite_not, ev_rbb, up_n, up_s, up_u, pk_us, pk_un, Nat.reduceAdd, nI_ltT, nI_ltF, nI_leT, nI_leF, nI_eqT, nI_eqF, en_MO_text, bk_MO_text, gfC, gfM, ev_r0, ev_r1, eq_self, n_m1e, true_and, and_true, false_and, and_false, and_self, not_true_eq_false, not_false_eq_true, pfM, ce_MO_isIn, t_MO_isIn, ce_MO_readsText, en_MO_readsText, bk_MO_readsText, ce_MO_reads, r1, ce_MO_readWants, en_MO_readWants, s1, nv, ce_MO_takesOther, a2]
      · refine gR.tx (Q := Q) (ls' := ls) hj (hp0.eq (fun k a b => ?_) (by rw [q1 140 (by omega) (by omega)]; exact hz.1 140 (by omega) (by omega)) (by rw [q2 3 (by omega)]; exact hz.2.1 3 (by decide))) hi0 (hbase.wan hO (fun k a => rC k (by omega) (by omega)) q1 q2) (fun k a b => ?_) ?_ (by rw [q1 139 (by omega) (by omega)]; exact hz.1 139 (by omega) (by omega)) (by rw [q1 145 (by omega) (by omega)]; exact hz.1 145 (by omega) (by omega)) (by rw [q1 166 (by omega) (by omega)]; exact hz.1 166 (by omega) (by omega)) (by rw [q2 5 (by omega)]; exact hz.2.1 5 (by decide)) (by rw [q2 55 (by omega)]; exact hz.2.1 55 (by decide)) (by rw [rC 79 (by omega) (by omega)]; exact e79) ?_ ?_ ?_ (by rw [q1 147 (by omega) (by omega), hz.1 147 (by omega) (by omega)]; exact x9)
        · rw [rC k (by omega) (by omega), kC4 k (by omega) (by omega)]
        · rw [rC k (by omega) (by omega), kC4 k (by omega) (by omega)]
        · rw [rC 0 (by omega) (by omega), kC4 0 (by omega) (by omega)]
        · rw [rC 79 (by omega) (by omega), q2 36 (by omega), mE0_v.1, s2.2.1 36 (by decide), v36]; exact u5
        · rw [rC 79 (by omega) (by omega), q2 37 (by omega), mE0_v.2.1, s2.2.1 37 (by decide), v37]; exact u6
        · rw [q2 16 (by omega)]; exact mE0_v.2.2
  · have ek0 : (k = nI 0) = False := eq_false z0
    have ek1 : (k = nI 1) = False := eq_false z1
    have ek2 : (k = nI 2) = False := eq_false z2
    have ek := nI_3 z0 z1 z2
    have kC4 : ∀ k, k ≠ 79 → k < 81 → cS2 c1 k = c k := fun k a b => by
      by_cases y : k = 80 ∨ k < 80
      · exact kC k a (by omega)
      · omega
    refine ⟨cS2 c1, va_up m 138 (upd (upd (upd (upd (upd (upd (upd (m 138) 0 (nI 0)) 36 (nI 0)) 37 (-1)) 17 (nI 0)) 30 (nI 0)) 31 (nI 0)) 16 (nI 0)), -1, fun m0 => ?_, fun c0 => ?_, gR.no t hj hp0 hi0 x9 kC4 (mZ.f (fun k a => up_n _ _ _ _ a) (fun j a => ?_)) k79 ?_ ?_ ?_⟩
    · unfold cS2
      simp (disch := first | assumption | omega | decide | (simp only [ma_wd0, ma_wdi, ma_wdr, ma_wdl, ma_wdn] <;> omega)) only [↓reduceIte, evK, evL, evS, evA, evJ, Option.bind_some, Option.toList, List.cons_append, List.nil_append, nI_add, pk_mul, bI0, ite_not, ev_rbb, up_n, up_s, up_u, pk_us, pk_un, Nat.reduceAdd, nI_ltT, nI_ltF, nI_leT, nI_leF, nI_eqT, nI_eqF, en_LH_text, bk_LH_text, gfC, gfM, ev_r0, ev_r1, eq_self, n_m1e, true_and, and_true, false_and, and_false, and_self, not_true_eq_false, not_false_eq_true, ce_Tokens_cut, g4, pfC, ev_sw, swc_s, swc_0, Nat.reduceAdd, ek0, ek1, ek2]
    · simp (disch := first | assumption | omega | decide | (simp only [ma_wd0, ma_wdi, ma_wdr, ma_wdl, ma_wdn] <;> omega)) only [↓reduceIte, evK, evL, evS, evA, evJ, Option.bind_some, Option.toList, List.cons_append, List.nil_append, nI_add, pk_mul, bI0, ite_not, ev_rbb, up_n, up_s, up_u, pk_us, pk_un, Nat.reduceAdd, nI_ltT, nI_ltF, nI_leT, nI_leF, nI_eqT, nI_eqF, en_MO_text, bk_MO_text, gfC, gfM, ev_r0, ev_r1, eq_self, n_m1e, true_and, and_true, false_and, and_false, and_self, not_true_eq_false, not_false_eq_true, pfM, ce_MO_isIn, t_MO_isIn, ek]
    · simp only [List.mem_cons, List.not_mem_nil, or_false, not_or] at a
      rw [up_s, pk_un (by omega), pk_un (by omega), pk_un (by omega), pk_un (by omega), pk_un (by omega), pk_un (by omega), pk_un (by omega)]
    · rw [up_s, pk_un (by omega), pk_un (by omega), pk_un (by omega), pk_un (by omega), pk_un (by omega), pk_us]; exact hc2.2.2.2.1
    · rw [up_s, pk_un (by omega), pk_un (by omega), pk_un (by omega), pk_un (by omega), pk_us]; exact hc2.2.2.2.2
    · rw [up_s, pk_us]
end TX
