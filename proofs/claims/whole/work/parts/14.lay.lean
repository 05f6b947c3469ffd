/-! ===== the two objects laid out: cell k by its row of numbers ===== -/
abbrev hp_S : Type := (Nat × Nat) ⊕ (Nat × List (Option (Option Nat)))
def hp_s : List hp_S := [.inr (0, [some (some 1), some (some 17), some (some 22), some (some 24), some (some 40), some (some 45), none, some (some 47), some (some 79), some (some 84), some (some 93), some (some 96), some (some 97), some (some 102), some (some 103)]),
  .inr (10, [none, none, none, none, some (some 2), none, some (some 3), some (some 4), none, some (some 5), some (some 6), some (some 7), some (some 13), some (some 15)]),
  .inl (0, 8),
  .inl (0, 6),
  .inl (0, 6),
  .inl (0, 8),
  .inl (0, 8),
  .inr (3, [none, none, some (some 8), some (some 9), some (some 10), some (some 11), some (some 12)]),
  .inl (0, 16),
  .inl (0, 16),
  .inl (0, 16),
  .inl (0, 16),
  .inl (0, 400),
  .inr (7, [none, some (some 14)]),
  .inl (0, 80),
  .inr (7, [none, some (some 16)]),
  .inl (0, 80),
  .inr (4, [some (some 18), some (some 19), some (some 20), some (some 21), none, none, none, none, none]),
  .inl (0, 14),
  .inl (0, 14),
  .inl (0, 8),
  .inl (0, 8),
  .inr (2, [some (some 23)]),
  .inl (0, 600),
  .inr (10, [none, none, none, none, some (some 25), none, some (some 26), some (some 27), none, some (some 28), some (some 29), some (some 30), some (some 36), some (some 38)]),
  .inl (0, 8),
  .inl (0, 6),
  .inl (0, 6),
  .inl (0, 8),
  .inl (0, 8),
  .inr (3, [none, none, some (some 31), some (some 32), some (some 33), some (some 34), some (some 35)]),
  .inl (0, 16),
  .inl (0, 16),
  .inl (0, 16),
  .inl (0, 16),
  .inl (0, 400),
  .inr (7, [none, some (some 37)]),
  .inl (0, 80),
  .inr (7, [none, some (some 39)]),
  .inl (0, 80),
  .inr (4, [some (some 41), some (some 42), some (some 43), some (some 44), none, none, none, none, none]),
  .inl (0, 14),
  .inl (0, 14),
  .inl (0, 8),
  .inl (0, 8),
  .inr (2, [some (some 46)]),
  .inl (0, 600),
  .inr (5, [some (some 48), none]),
  .inl (3, 6),
  .inr (4, [some (some 50), some (some 51), some (some 52), some (some 53), none, none, none, none, none]),
  .inl (0, 14),
  .inl (0, 14),
  .inl (0, 8),
  .inl (0, 8),
  .inr (4, [some (some 55), some (some 56), some (some 57), some (some 58), none, none, none, none, none]),
  .inl (0, 14),
  .inl (0, 14),
  .inl (0, 8),
  .inl (0, 8),
  .inr (4, [some (some 60), some (some 61), some (some 62), some (some 63), none, none, none, none, none]),
  .inl (0, 14),
  .inl (0, 14),
  .inl (0, 8),
  .inl (0, 8),
  .inr (4, [some (some 65), some (some 66), some (some 67), some (some 68), none, none, none, none, none]),
  .inl (0, 14),
  .inl (0, 14),
  .inl (0, 8),
  .inl (0, 8),
  .inr (4, [some (some 70), some (some 71), some (some 72), some (some 73), none, none, none, none, none]),
  .inl (0, 14),
  .inl (0, 14),
  .inl (0, 8),
  .inl (0, 8),
  .inr (4, [some (some 75), some (some 76), some (some 77), some (some 78), none, none, none, none, none]),
  .inl (0, 14),
  .inl (0, 14),
  .inl (0, 8),
  .inl (0, 8),
  .inr (9, [some (some 80), none, some (some 81), some (some 82), some (some 83), none, none, none, none]),
  .inl (1, 400),
  .inl (0, 401),
  .inl (0, 401),
  .inl (0, 401),
  .inr (6, [some (some 79), some (some 1), some (some 85), some (some 91)]),
  .inr (3, [none, none, some (some 86), some (some 87), some (some 88), some (some 89), some (some 90)]),
  .inl (0, 16),
  .inl (0, 16),
  .inl (0, 16),
  .inl (0, 16),
  .inl (0, 400),
  .inr (7, [none, some (some 92)]),
  .inl (0, 80),
  .inr (1, [some (some 1), some (some 94), some (some 95)]),
  .inl (0, 7),
  .inl (0, 32),
  .inr (11, [some (some 1), some (some 93), some (some 22), none, none, none]),
  .inr (4, [some (some 98), some (some 99), some (some 100), some (some 101), none, none, none, none, none]),
  .inl (0, 14),
  .inl (0, 14),
  .inl (0, 8),
  .inl (0, 8),
  .inr (11, [some (some 1), some (some 93), some none, none, none, none]),
  .inr (8, [some (some 1), some (some 17), some (some 93), some (some 97), some (some 104), some (some 105), some (some 106), some (some 121), some (some 136), some (some 137)]),
  .inl (0, 12),
  .inl (0, 12),
  .inl (4, 14),
  .inl (0, 41),
  .inl (0, 41),
  .inl (0, 41),
  .inl (0, 41),
  .inl (0, 41),
  .inl (0, 41),
  .inl (0, 41),
  .inl (0, 41),
  .inl (0, 41),
  .inl (0, 41),
  .inl (0, 41),
  .inl (0, 41),
  .inl (0, 41),
  .inl (0, 41),
  .inl (4, 14),
  .inl (0, 25),
  .inl (0, 25),
  .inl (0, 25),
  .inl (0, 25),
  .inl (0, 25),
  .inl (0, 25),
  .inl (0, 25),
  .inl (0, 25),
  .inl (0, 25),
  .inl (0, 25),
  .inl (0, 25),
  .inl (0, 25),
  .inl (0, 25),
  .inl (0, 25),
  .inl (2, 256),
  .inl (0, 6),
  .inr (12, [none, some (some 139), some (some 140), none, some (some 141), none, none, none, none, none, none, some (some 142), some (some 143), some (some 144), some (some 145), some (some 146), none, none, none, none, none, some (some 147), some (some 148), some (some 149), some (some 150), some (some 151), some (some 152), some (some 153), some (some 154), none, none, none, some (some 155), none, none, none, none, none, none, some (some 156), none, some (some 157), some (some 158), some (some 159), none, none, some (some 160), none, some (some 161), some (some 162), none, some (some 163), some (some 164), some (some 165), none, none, none, some (some 166)]),
  .inl (0, 49),
  .inl (0, 294),
  .inl (0, 49),
  .inl (0, 8),
  .inl (0, 6),
  .inl (0, 6),
  .inl (0, 600),
  .inl (0, 400),
  .inl (0, 120),
  .inl (0, 2),
  .inl (0, 48),
  .inl (0, 48),
  .inl (0, 48),
  .inl (0, 48),
  .inl (0, 1200),
  .inl (0, 1200),
  .inl (0, 40),
  .inl (0, 128),
  .inl (0, 120),
  .inl (0, 7),
  .inl (0, 420),
  .inl (0, 574),
  .inl (0, 16),
  .inl (0, 41),
  .inl (0, 25),
  .inl (0, 14),
  .inl (0, 16384),
  .inl (0, 1700)]
def hp_f (f : Nat → Int32) : Nat → List (Option (Option Nat)) → List Value
  | _, [] => []
  | j, none :: l => .int (f j) :: hp_f f (j + 1) l
  | j, some none :: l => .null :: hp_f f (j + 1) l
  | j, some (some r) :: l => .ref r :: hp_f f (j + 1) l
def hp_a (k : Nat) (f : Nat → Int32) (w : Nat → Int64) (t n : Nat) : (Nat → Int32) ⊕ (Nat → Int64) ⊕ (Nat → UInt32) ⊕ (Nat → UInt64) ⊕ (Nat → Option Nat) := match t with
  | 2 => .inr (.inl w)
  | 3 => .inr (.inr (.inr (.inr (fun j => if j < n then some (49 + 5 * (f j).toNatClampNeg) else none))))
  | 4 => .inr (.inr (.inr (.inr (fun j => if j < n then some (k + 1 + j) else none))))
  | _ => .inl f
def hp_q (k : Nat) (f : Nat → Int32) (w : Nat → Int64) : ma_C := match hp_s[k]? with
  | some (.inl (t, n)) => .inl (t, n, hp_a k f w t n)
  | some (.inr (ci, l)) => .inr (ci, hp_f f 0 l)
  | none => .inl (0, 0, .inl f)
def hp_r (c m : Nat → Nat → Int32) (k : Nat) : Nat → Int32 := if k < 138 then c k else m k
def hp (c : Nat → Nat → Int32) (w : Nat → Int64) (m : Nat → Nat → Int32) : List ma_C := (List.range 167).map (fun k => hp_q k (hp_r c m k) w)
theorem hp_get (c : Nat → Nat → Int32) (w : Nat → Int64) (m : Nat → Nat → Int32) {k : Nat} (hk : k < 167) : (hp c w m)[k]? = some (hp_q k (hp_r c m k) w) := by
  unfold hp
  rw [List.getElem?_map, List.getElem?_range hk]
  rfl
theorem hp_len (c : Nat → Nat → Int32) (w : Nat → Int64) (m : Nat → Nat → Int32) : (hp c w m).length = 167 := by simp [hp]
theorem hp_setC (c : Nat → Nat → Int32) (w : Nat → Int64) (m : Nat → Nat → Int32) {k : Nat} (hk : k < 138) (f : Nat → Int32) : (hp c w m).set k (hp_q k f w) = hp (va_up c k f) w m := by
  apply List.ext_getElem?
  intro j
  rw [List.getElem?_set]
  by_cases hj : j < 167
  · rw [hp_get _ _ _ hj, hp_get _ _ _ hj, hp_len]
    by_cases e : k = j
    · subst e
      simp [hp_r, hk, va_up, show k < 167 by omega]
    · rw [if_neg e]
      congr 2
      unfold hp_r
      by_cases h1 : j < 138
      · simp [h1, va_up, Ne.symm e]
      · simp [h1]
  · have e : k ≠ j := by omega
    rw [if_neg e, List.getElem?_eq_none (by rw [hp_len]; omega), List.getElem?_eq_none (by rw [hp_len]; omega)]
theorem hp_setM (c : Nat → Nat → Int32) (w : Nat → Int64) (m : Nat → Nat → Int32) {k : Nat} (hk : 138 ≤ k) (hk2 : k < 167) (f : Nat → Int32) : (hp c w m).set k (hp_q k f w) = hp c w (va_up m k f) := by
  apply List.ext_getElem?
  intro j
  rw [List.getElem?_set]
  by_cases hj : j < 167
  · rw [hp_get _ _ _ hj, hp_get _ _ _ hj, hp_len]
    by_cases e : k = j
    · subst e
      simp [hp_r, show ¬ k < 138 by omega, va_up, hk2]
    · rw [if_neg e]
      congr 2
      unfold hp_r
      by_cases h1 : j < 138
      · simp [h1]
      · simp [h1, va_up, Ne.symm e]
  · have e : k ≠ j := by omega
    rw [if_neg e, List.getElem?_eq_none (by rw [hp_len]; omega), List.getElem?_eq_none (by rw [hp_len]; omega)]
theorem hp_w1 : ∀ k, k < 167 → k ≠ 136 → ∀ n, hp_s[k]? ≠ some (.inl (2, n)) := by
  intro k hk h1 n h2
  have h3 : (hp_s[k]?.map fun q => match q with
    | .inl (t, _) => t == 2
    | _ => false) = some true := by rw [h2]; rfl
  have h4 : ∀ k, k < 167 → k ≠ 136 → (hp_s[k]?.map fun q => match q with
    | .inl (t, _) => t == 2
    | _ => false) ≠ some true := by decide +kernel
  exact h4 k hk h1 h3
theorem hp_setW (c : Nat → Nat → Int32) (w w' : Nat → Int64) (m : Nat → Nat → Int32) : (hp c w m).set 136 (.inl (2, 256, .inr (.inl w'))) = hp c w' m := by
  apply List.ext_getElem?
  intro j
  rw [List.getElem?_set]
  by_cases hj : j < 167
  · rw [hp_get _ _ _ hj, hp_get _ _ _ hj, hp_len]
    by_cases e : 136 = j
    · subst e
      simp
      rfl
    · rw [if_neg e]
      congr 1
      unfold hp_q
      cases hq : hp_s[j]? with
      | none => rfl
      | some q =>
        cases q with
        | inl q =>
          obtain ⟨t, n⟩ := q
          have : t ≠ 2 := fun z => hp_w1 j hj (Ne.symm e) n (by rw [hq, z])
          have h9 : hp_a j (hp_r c m j) w t n = hp_a j (hp_r c m j) w' t n := by
            unfold hp_a
            split <;> first | rfl | exact absurd rfl this
          simp only [h9]
        | inr q => rfl
  · have e : 136 ≠ j := by omega
    rw [if_neg e, List.getElem?_eq_none (by rw [hp_len]; omega), List.getElem?_eq_none (by rw [hp_len]; omega)]
section HP
variable {sc : Nat × (Nat → Int32)} {d mm : Nat} {is : List ma_I} {L : ma_L} {S : List Value} {o : List Nat} {c m : Nat → Nat → Int32} {w : Nat → Int64}
theorem ev_gf {x k ci j : Nat} {fs : List Value} {v : Value} (hk : k < 167) (e : hp_q k (hp_r c m k) w = .inr (ci, fs)) (hj : fs[j]? = some v) : ev sc d mm ((.getfield x, [ci, j]) :: is) L (.ref k :: S) (hp c w m) = ev sc d mm is L (v :: S) (hp c w m) :=
  rv_s rfl (by simp only [ma_s, hp_get c w m hk, e, if_true, hj])
theorem ev_pfC {x k ci j t : Nat} {fs : List Value} {v : Value} (f : Nat → Int32) (hk : k < 138) (e : hp_q k (c k) w = .inr (ci, fs)) (hj : Nat.ble (j + 1) fs.length = true) (ht : ma_fit t v = true) (e2 : hp_q k f w = .inr (ci, fs.set j v)) : ev sc d mm ((.putfield x, [ci, j, t]) :: is) L (v :: .ref k :: S) (hp c w m) = ev sc d mm is L S (hp (va_up c k f) w m) := by
  refine rv_s rfl ?_
  have e' : hp_q k (hp_r c m k) w = .inr (ci, fs) := by unfold hp_r; rw [if_pos hk]; exact e
  simp only [ma_s, hp_get c w m (show k < 167 by omega), e', true_and]
  rw [if_pos ⟨Nat.le_of_ble_eq_true hj, ht⟩, ← e2, hp_setC c w m hk f]
theorem ev_pfM {x k ci j t : Nat} {fs : List Value} {v : Value} (f : Nat → Int32) (hk : 138 ≤ k) (hk2 : k < 167) (e : hp_q k (m k) w = .inr (ci, fs)) (hj : Nat.ble (j + 1) fs.length = true) (ht : ma_fit t v = true) (e2 : hp_q k f w = .inr (ci, fs.set j v)) : ev sc d mm ((.putfield x, [ci, j, t]) :: is) L (v :: .ref k :: S) (hp c w m) = ev sc d mm is L S (hp c w (va_up m k f)) := by
  refine rv_s rfl ?_
  have e' : hp_q k (hp_r c m k) w = .inr (ci, fs) := by unfold hp_r; rw [if_neg (by omega)]; exact e
  simp only [ma_s, hp_get c w m hk2, e', true_and]
  rw [if_pos ⟨Nat.le_of_ble_eq_true hj, ht⟩, ← e2, hp_setM c w m hk hk2 f]
theorem nI_ix {i n : Nat} (h : i < n) (hn : n < 2 ^ 31) : ¬ (nI i < 0 ∨ n ≤ (nI i).toNatClampNeg) := vp_in_nI h hn
theorem ev_il {k n i : Nat} {f : Nat → Int32} (hk : k < 167) (e : hp_q k (hp_r c m k) w = .inl (0, n, .inl f)) (hn : n < 2 ^ 31) (hi : i < n) : ev sc d mm ((.iaload, o) :: is) L (.int (nI i) :: .ref k :: S) (hp c w m) = ev sc d mm is L (.int (f i) :: S) (hp c w m) :=
  rv_s rfl (by simp only [ma_s, ma_g, if_neg (show ¬ k = 4096 by omega), hp_get c w m hk, e]; rw [if_neg (nI_ix hi hn), nI_clamp (by omega)])
theorem ev_bl {k n i : Nat} {f : Nat → Int32} (hk : k < 167) (e : hp_q k (hp_r c m k) w = .inl (1, n, .inl f)) (hn : n < 2 ^ 31) (hi : i < n) : ev sc d mm ((.baload, o) :: is) L (.int (nI i) :: .ref k :: S) (hp c w m) = ev sc d mm is L (.int (f i) :: S) (hp c w m) :=
  rv_s rfl (by simp only [ma_s, hp_get c w m hk, e]; rw [if_neg (nI_ix hi hn), nI_clamp (by omega)])
theorem ev_al {k n : Nat} {t : Nat} {f : (Nat → Int32) ⊕ (Nat → Int64) ⊕ (Nat → UInt32) ⊕ (Nat → UInt64) ⊕ (Nat → Option Nat)} (hk : k < 167) (e : hp_q k (hp_r c m k) w = .inl (t, n, f)) : ev sc d mm ((.arraylength, o) :: is) L (.ref k :: S) (hp c w m) = ev sc d mm is L (.int (nI n) :: S) (hp c w m) :=
  rv_s rfl (by simp only [ma_s, ma_g, if_neg (show ¬ k = 4096 by omega), hp_get c w m hk, e]; rfl)
theorem ev_isC {k n i : Nat} {v : Int32} (hk : k < 138) (e : ∀ f, hp_q k f w = .inl (0, n, .inl f)) (hn : n < 2 ^ 31) (hi : i < n) : ev sc d mm ((.iastore, o) :: is) L (.int v :: .int (nI i) :: .ref k :: S) (hp c w m) = ev sc d mm is L S (hp (va_up c k (upd (c k) i v)) w m) := by
  refine rv_s rfl ?_
  have e' : hp_q k (hp_r c m k) w = .inl (0, n, .inl (c k)) := by unfold hp_r; rw [if_pos hk]; exact e _
  simp only [ma_s, hp_get c w m (show k < 167 by omega), e']
  rw [if_neg (nI_ix hi hn), nI_clamp (by omega), ← e, hp_setC c w m hk]
theorem ev_isM {k n i : Nat} {v : Int32} (hk : 138 ≤ k) (hk2 : k < 167) (e : ∀ f, hp_q k f w = .inl (0, n, .inl f)) (hn : n < 2 ^ 31) (hi : i < n) : ev sc d mm ((.iastore, o) :: is) L (.int v :: .int (nI i) :: .ref k :: S) (hp c w m) = ev sc d mm is L S (hp c w (va_up m k (upd (m k) i v))) := by
  refine rv_s rfl ?_
  have e' : hp_q k (hp_r c m k) w = .inl (0, n, .inl (m k)) := by unfold hp_r; rw [if_neg (by omega)]; exact e _
  simp only [ma_s, hp_get c w m hk2, e']
  rw [if_neg (nI_ix hi hn), nI_clamp (by omega), ← e, hp_setM c w m hk hk2]
theorem ev_bsC {k n i : Nat} {v : Int32} (hk : k < 138) (e : ∀ f, hp_q k f w = .inl (1, n, .inl f)) (hn : n < 2 ^ 31) (hi : i < n) : ev sc d mm ((.bastore, o) :: is) L (.int v :: .int (nI i) :: .ref k :: S) (hp c w m) = ev sc d mm is L S (hp (va_up c k (upd (c k) i (vp_nar .byte v))) w m) := by
  refine rv_s rfl ?_
  have e' : hp_q k (hp_r c m k) w = .inl (1, n, .inl (c k)) := by unfold hp_r; rw [if_pos hk]; exact e _
  simp only [ma_s, hp_get c w m (show k < 167 by omega), e']
  rw [if_neg (nI_ix hi hn), nI_clamp (by omega), ← e, hp_setC c w m hk]
theorem ev_ll {i : Nat} (hi : i < 256) : ev sc d mm ((.laload, o) :: is) L (.int (nI i) :: .ref 136 :: S) (hp c w m) = ev sc d mm is L (.long (w i) :: S) (hp c w m) := by
  have e : hp_q 136 (hp_r c m 136) w = .inl (2, 256, .inr (.inl w)) := rfl
  exact rv_s rfl (by simp only [ma_s, hp_get c w m (show 136 < 167 by decide), e]; rw [if_neg (nI_ix hi (by decide)), nI_clamp (by omega)])
theorem ev_ls {i : Nat} {v : Int64} (hi : i < 256) : ev sc d mm ((.lastore, o) :: is) L (.long v :: .int (nI i) :: .ref 136 :: S) (hp c w m) = ev sc d mm is L S (hp c (vp_updL w i v) m) := by
  have e : hp_q 136 (hp_r c m 136) w = .inl (2, 256, .inr (.inl w)) := rfl
  refine rv_s rfl ?_
  simp only [ma_s, hp_get c w m (show 136 < 167 by decide), e]
  rw [if_neg (nI_ix hi (by decide)), nI_clamp (by omega), hp_setW]
theorem ev_aa {k n i : Nat} (hk : k = 106 ∨ k = 121) (hi : i < 14) : ev sc d mm ((.aaload, o) :: is) L (.int (nI i) :: .ref k :: S) (hp c w m) = ev sc d mm is L (.ref (k + 1 + i) :: S) (hp c w m) := by
  refine rv_s rfl ?_
  rcases hk with rfl | rfl
  · have e : hp_q 106 (hp_r c m 106) w = .inl (4, 14, .inr (.inr (.inr (.inr (fun j => if j < 14 then some (106 + 1 + j) else none))))) := rfl
    simp only [ma_s, hp_get c w m (show 106 < 167 by decide), e]
    rw [if_neg (by rintro (z | z | z); exact nI_ix hi (by decide) (Or.inl z); exact nI_ix hi (by decide) (Or.inr z); omega), nI_clamp (by omega), if_pos hi]
    rfl
  · have e : hp_q 121 (hp_r c m 121) w = .inl (4, 14, .inr (.inr (.inr (.inr (fun j => if j < 14 then some (121 + 1 + j) else none))))) := rfl
    simp only [ma_s, hp_get c w m (show 121 < 167 by decide), e]
    rw [if_neg (by rintro (z | z | z); exact nI_ix hi (by decide) (Or.inl z); exact nI_ix hi (by decide) (Or.inr z); omega), nI_clamp (by omega), if_pos hi]
    rfl
theorem ev_ak {i : Nat} (hi : i < 6) : ev sc d mm ((.aaload, o) :: is) L (.int (nI i) :: .ref 48 :: S) (hp c w m) = ev sc d mm is L (.ref (49 + 5 * (c 48 i).toNatClampNeg) :: S) (hp c w m) := by
  refine rv_s rfl ?_
  have e : hp_q 48 (hp_r c m 48) w = .inl (3, 6, .inr (.inr (.inr (.inr (fun j => if j < 6 then some (49 + 5 * (c 48 j).toNatClampNeg) else none))))) := rfl
  simp only [ma_s, hp_get c w m (show 48 < 167 by decide), e]
  rw [if_neg (by rintro (z | z | z); exact nI_ix hi (by decide) (Or.inl z); exact nI_ix hi (by decide) (Or.inr z); omega), nI_clamp (by omega), if_pos hi]
  rfl
theorem gfC : (∀ (sc : Nat × (Nat → Int32)) (d mm : Nat) (is : List ma_I) (L : ma_L) (S : List Value) (c m : Nat → Nat → Int32) (w : Nat → Int64) (x : Nat), ev sc d mm ((.getfield x, [0, 0]) :: is) L (.ref 0 :: S) (hp c w m) = ev sc d mm is L (.ref 1 :: S) (hp c w m)) ∧
  (∀ (sc : Nat × (Nat → Int32)) (d mm : Nat) (is : List ma_I) (L : ma_L) (S : List Value) (c m : Nat → Nat → Int32) (w : Nat → Int64) (x : Nat), ev sc d mm ((.getfield x, [0, 1]) :: is) L (.ref 0 :: S) (hp c w m) = ev sc d mm is L (.ref 17 :: S) (hp c w m)) ∧
  (∀ (sc : Nat × (Nat → Int32)) (d mm : Nat) (is : List ma_I) (L : ma_L) (S : List Value) (c m : Nat → Nat → Int32) (w : Nat → Int64) (x : Nat), ev sc d mm ((.getfield x, [0, 2]) :: is) L (.ref 0 :: S) (hp c w m) = ev sc d mm is L (.ref 22 :: S) (hp c w m)) ∧
  (∀ (sc : Nat × (Nat → Int32)) (d mm : Nat) (is : List ma_I) (L : ma_L) (S : List Value) (c m : Nat → Nat → Int32) (w : Nat → Int64) (x : Nat), ev sc d mm ((.getfield x, [0, 3]) :: is) L (.ref 0 :: S) (hp c w m) = ev sc d mm is L (.ref 24 :: S) (hp c w m)) ∧
  (∀ (sc : Nat × (Nat → Int32)) (d mm : Nat) (is : List ma_I) (L : ma_L) (S : List Value) (c m : Nat → Nat → Int32) (w : Nat → Int64) (x : Nat), ev sc d mm ((.getfield x, [0, 4]) :: is) L (.ref 0 :: S) (hp c w m) = ev sc d mm is L (.ref 40 :: S) (hp c w m)) ∧
  (∀ (sc : Nat × (Nat → Int32)) (d mm : Nat) (is : List ma_I) (L : ma_L) (S : List Value) (c m : Nat → Nat → Int32) (w : Nat → Int64) (x : Nat), ev sc d mm ((.getfield x, [0, 5]) :: is) L (.ref 0 :: S) (hp c w m) = ev sc d mm is L (.ref 45 :: S) (hp c w m)) ∧
  (∀ (sc : Nat × (Nat → Int32)) (d mm : Nat) (is : List ma_I) (L : ma_L) (S : List Value) (c m : Nat → Nat → Int32) (w : Nat → Int64) (x : Nat), ev sc d mm ((.getfield x, [0, 6]) :: is) L (.ref 0 :: S) (hp c w m) = ev sc d mm is L (.int (c 0 6) :: S) (hp c w m)) ∧
  (∀ (sc : Nat × (Nat → Int32)) (d mm : Nat) (is : List ma_I) (L : ma_L) (S : List Value) (c m : Nat → Nat → Int32) (w : Nat → Int64) (x : Nat), ev sc d mm ((.getfield x, [0, 7]) :: is) L (.ref 0 :: S) (hp c w m) = ev sc d mm is L (.ref 47 :: S) (hp c w m)) ∧
  (∀ (sc : Nat × (Nat → Int32)) (d mm : Nat) (is : List ma_I) (L : ma_L) (S : List Value) (c m : Nat → Nat → Int32) (w : Nat → Int64) (x : Nat), ev sc d mm ((.getfield x, [0, 8]) :: is) L (.ref 0 :: S) (hp c w m) = ev sc d mm is L (.ref 79 :: S) (hp c w m)) ∧
  (∀ (sc : Nat × (Nat → Int32)) (d mm : Nat) (is : List ma_I) (L : ma_L) (S : List Value) (c m : Nat → Nat → Int32) (w : Nat → Int64) (x : Nat), ev sc d mm ((.getfield x, [0, 9]) :: is) L (.ref 0 :: S) (hp c w m) = ev sc d mm is L (.ref 84 :: S) (hp c w m)) ∧
  (∀ (sc : Nat × (Nat → Int32)) (d mm : Nat) (is : List ma_I) (L : ma_L) (S : List Value) (c m : Nat → Nat → Int32) (w : Nat → Int64) (x : Nat), ev sc d mm ((.getfield x, [0, 10]) :: is) L (.ref 0 :: S) (hp c w m) = ev sc d mm is L (.ref 93 :: S) (hp c w m)) ∧
  (∀ (sc : Nat × (Nat → Int32)) (d mm : Nat) (is : List ma_I) (L : ma_L) (S : List Value) (c m : Nat → Nat → Int32) (w : Nat → Int64) (x : Nat), ev sc d mm ((.getfield x, [0, 11]) :: is) L (.ref 0 :: S) (hp c w m) = ev sc d mm is L (.ref 96 :: S) (hp c w m)) ∧
  (∀ (sc : Nat × (Nat → Int32)) (d mm : Nat) (is : List ma_I) (L : ma_L) (S : List Value) (c m : Nat → Nat → Int32) (w : Nat → Int64) (x : Nat), ev sc d mm ((.getfield x, [0, 12]) :: is) L (.ref 0 :: S) (hp c w m) = ev sc d mm is L (.ref 97 :: S) (hp c w m)) ∧
  (∀ (sc : Nat × (Nat → Int32)) (d mm : Nat) (is : List ma_I) (L : ma_L) (S : List Value) (c m : Nat → Nat → Int32) (w : Nat → Int64) (x : Nat), ev sc d mm ((.getfield x, [0, 13]) :: is) L (.ref 0 :: S) (hp c w m) = ev sc d mm is L (.ref 102 :: S) (hp c w m)) ∧
  (∀ (sc : Nat × (Nat → Int32)) (d mm : Nat) (is : List ma_I) (L : ma_L) (S : List Value) (c m : Nat → Nat → Int32) (w : Nat → Int64) (x : Nat), ev sc d mm ((.getfield x, [0, 14]) :: is) L (.ref 0 :: S) (hp c w m) = ev sc d mm is L (.ref 103 :: S) (hp c w m)) ∧
  (∀ (sc : Nat × (Nat → Int32)) (d mm : Nat) (is : List ma_I) (L : ma_L) (S : List Value) (c m : Nat → Nat → Int32) (w : Nat → Int64) (x : Nat), ev sc d mm ((.getfield x, [10, 0]) :: is) L (.ref 1 :: S) (hp c w m) = ev sc d mm is L (.int (c 1 0) :: S) (hp c w m)) ∧
  (∀ (sc : Nat × (Nat → Int32)) (d mm : Nat) (is : List ma_I) (L : ma_L) (S : List Value) (c m : Nat → Nat → Int32) (w : Nat → Int64) (x : Nat), ev sc d mm ((.getfield x, [10, 1]) :: is) L (.ref 1 :: S) (hp c w m) = ev sc d mm is L (.int (c 1 1) :: S) (hp c w m)) ∧
  (∀ (sc : Nat × (Nat → Int32)) (d mm : Nat) (is : List ma_I) (L : ma_L) (S : List Value) (c m : Nat → Nat → Int32) (w : Nat → Int64) (x : Nat), ev sc d mm ((.getfield x, [10, 2]) :: is) L (.ref 1 :: S) (hp c w m) = ev sc d mm is L (.int (c 1 2) :: S) (hp c w m)) ∧
  (∀ (sc : Nat × (Nat → Int32)) (d mm : Nat) (is : List ma_I) (L : ma_L) (S : List Value) (c m : Nat → Nat → Int32) (w : Nat → Int64) (x : Nat), ev sc d mm ((.getfield x, [10, 3]) :: is) L (.ref 1 :: S) (hp c w m) = ev sc d mm is L (.int (c 1 3) :: S) (hp c w m)) ∧
  (∀ (sc : Nat × (Nat → Int32)) (d mm : Nat) (is : List ma_I) (L : ma_L) (S : List Value) (c m : Nat → Nat → Int32) (w : Nat → Int64) (x : Nat), ev sc d mm ((.getfield x, [10, 4]) :: is) L (.ref 1 :: S) (hp c w m) = ev sc d mm is L (.ref 2 :: S) (hp c w m)) ∧
  (∀ (sc : Nat × (Nat → Int32)) (d mm : Nat) (is : List ma_I) (L : ma_L) (S : List Value) (c m : Nat → Nat → Int32) (w : Nat → Int64) (x : Nat), ev sc d mm ((.getfield x, [10, 5]) :: is) L (.ref 1 :: S) (hp c w m) = ev sc d mm is L (.int (c 1 5) :: S) (hp c w m)) ∧
  (∀ (sc : Nat × (Nat → Int32)) (d mm : Nat) (is : List ma_I) (L : ma_L) (S : List Value) (c m : Nat → Nat → Int32) (w : Nat → Int64) (x : Nat), ev sc d mm ((.getfield x, [10, 6]) :: is) L (.ref 1 :: S) (hp c w m) = ev sc d mm is L (.ref 3 :: S) (hp c w m)) ∧
  (∀ (sc : Nat × (Nat → Int32)) (d mm : Nat) (is : List ma_I) (L : ma_L) (S : List Value) (c m : Nat → Nat → Int32) (w : Nat → Int64) (x : Nat), ev sc d mm ((.getfield x, [10, 7]) :: is) L (.ref 1 :: S) (hp c w m) = ev sc d mm is L (.ref 4 :: S) (hp c w m)) ∧
  (∀ (sc : Nat × (Nat → Int32)) (d mm : Nat) (is : List ma_I) (L : ma_L) (S : List Value) (c m : Nat → Nat → Int32) (w : Nat → Int64) (x : Nat), ev sc d mm ((.getfield x, [10, 8]) :: is) L (.ref 1 :: S) (hp c w m) = ev sc d mm is L (.int (c 1 8) :: S) (hp c w m)) ∧
  (∀ (sc : Nat × (Nat → Int32)) (d mm : Nat) (is : List ma_I) (L : ma_L) (S : List Value) (c m : Nat → Nat → Int32) (w : Nat → Int64) (x : Nat), ev sc d mm ((.getfield x, [10, 9]) :: is) L (.ref 1 :: S) (hp c w m) = ev sc d mm is L (.ref 5 :: S) (hp c w m)) ∧
  (∀ (sc : Nat × (Nat → Int32)) (d mm : Nat) (is : List ma_I) (L : ma_L) (S : List Value) (c m : Nat → Nat → Int32) (w : Nat → Int64) (x : Nat), ev sc d mm ((.getfield x, [10, 10]) :: is) L (.ref 1 :: S) (hp c w m) = ev sc d mm is L (.ref 6 :: S) (hp c w m)) ∧
  (∀ (sc : Nat × (Nat → Int32)) (d mm : Nat) (is : List ma_I) (L : ma_L) (S : List Value) (c m : Nat → Nat → Int32) (w : Nat → Int64) (x : Nat), ev sc d mm ((.getfield x, [10, 11]) :: is) L (.ref 1 :: S) (hp c w m) = ev sc d mm is L (.ref 7 :: S) (hp c w m)) ∧
  (∀ (sc : Nat × (Nat → Int32)) (d mm : Nat) (is : List ma_I) (L : ma_L) (S : List Value) (c m : Nat → Nat → Int32) (w : Nat → Int64) (x : Nat), ev sc d mm ((.getfield x, [10, 12]) :: is) L (.ref 1 :: S) (hp c w m) = ev sc d mm is L (.ref 13 :: S) (hp c w m)) ∧
  (∀ (sc : Nat × (Nat → Int32)) (d mm : Nat) (is : List ma_I) (L : ma_L) (S : List Value) (c m : Nat → Nat → Int32) (w : Nat → Int64) (x : Nat), ev sc d mm ((.getfield x, [10, 13]) :: is) L (.ref 1 :: S) (hp c w m) = ev sc d mm is L (.ref 15 :: S) (hp c w m)) ∧
  (∀ (sc : Nat × (Nat → Int32)) (d mm : Nat) (is : List ma_I) (L : ma_L) (S : List Value) (c m : Nat → Nat → Int32) (w : Nat → Int64) (x : Nat), ev sc d mm ((.getfield x, [3, 0]) :: is) L (.ref 7 :: S) (hp c w m) = ev sc d mm is L (.int (c 7 0) :: S) (hp c w m)) ∧
  (∀ (sc : Nat × (Nat → Int32)) (d mm : Nat) (is : List ma_I) (L : ma_L) (S : List Value) (c m : Nat → Nat → Int32) (w : Nat → Int64) (x : Nat), ev sc d mm ((.getfield x, [3, 1]) :: is) L (.ref 7 :: S) (hp c w m) = ev sc d mm is L (.int (c 7 1) :: S) (hp c w m)) ∧
  (∀ (sc : Nat × (Nat → Int32)) (d mm : Nat) (is : List ma_I) (L : ma_L) (S : List Value) (c m : Nat → Nat → Int32) (w : Nat → Int64) (x : Nat), ev sc d mm ((.getfield x, [3, 2]) :: is) L (.ref 7 :: S) (hp c w m) = ev sc d mm is L (.ref 8 :: S) (hp c w m)) ∧
  (∀ (sc : Nat × (Nat → Int32)) (d mm : Nat) (is : List ma_I) (L : ma_L) (S : List Value) (c m : Nat → Nat → Int32) (w : Nat → Int64) (x : Nat), ev sc d mm ((.getfield x, [3, 3]) :: is) L (.ref 7 :: S) (hp c w m) = ev sc d mm is L (.ref 9 :: S) (hp c w m)) ∧
  (∀ (sc : Nat × (Nat → Int32)) (d mm : Nat) (is : List ma_I) (L : ma_L) (S : List Value) (c m : Nat → Nat → Int32) (w : Nat → Int64) (x : Nat), ev sc d mm ((.getfield x, [3, 4]) :: is) L (.ref 7 :: S) (hp c w m) = ev sc d mm is L (.ref 10 :: S) (hp c w m)) ∧
  (∀ (sc : Nat × (Nat → Int32)) (d mm : Nat) (is : List ma_I) (L : ma_L) (S : List Value) (c m : Nat → Nat → Int32) (w : Nat → Int64) (x : Nat), ev sc d mm ((.getfield x, [3, 5]) :: is) L (.ref 7 :: S) (hp c w m) = ev sc d mm is L (.ref 11 :: S) (hp c w m)) ∧
  (∀ (sc : Nat × (Nat → Int32)) (d mm : Nat) (is : List ma_I) (L : ma_L) (S : List Value) (c m : Nat → Nat → Int32) (w : Nat → Int64) (x : Nat), ev sc d mm ((.getfield x, [3, 6]) :: is) L (.ref 7 :: S) (hp c w m) = ev sc d mm is L (.ref 12 :: S) (hp c w m)) ∧
  (∀ (sc : Nat × (Nat → Int32)) (d mm : Nat) (is : List ma_I) (L : ma_L) (S : List Value) (c m : Nat → Nat → Int32) (w : Nat → Int64) (x : Nat), ev sc d mm ((.getfield x, [7, 0]) :: is) L (.ref 13 :: S) (hp c w m) = ev sc d mm is L (.int (c 13 0) :: S) (hp c w m)) ∧
  (∀ (sc : Nat × (Nat → Int32)) (d mm : Nat) (is : List ma_I) (L : ma_L) (S : List Value) (c m : Nat → Nat → Int32) (w : Nat → Int64) (x : Nat), ev sc d mm ((.getfield x, [7, 1]) :: is) L (.ref 13 :: S) (hp c w m) = ev sc d mm is L (.ref 14 :: S) (hp c w m)) ∧
  (∀ (sc : Nat × (Nat → Int32)) (d mm : Nat) (is : List ma_I) (L : ma_L) (S : List Value) (c m : Nat → Nat → Int32) (w : Nat → Int64) (x : Nat), ev sc d mm ((.getfield x, [7, 0]) :: is) L (.ref 15 :: S) (hp c w m) = ev sc d mm is L (.int (c 15 0) :: S) (hp c w m)) ∧
  (∀ (sc : Nat × (Nat → Int32)) (d mm : Nat) (is : List ma_I) (L : ma_L) (S : List Value) (c m : Nat → Nat → Int32) (w : Nat → Int64) (x : Nat), ev sc d mm ((.getfield x, [7, 1]) :: is) L (.ref 15 :: S) (hp c w m) = ev sc d mm is L (.ref 16 :: S) (hp c w m)) ∧
  (∀ (sc : Nat × (Nat → Int32)) (d mm : Nat) (is : List ma_I) (L : ma_L) (S : List Value) (c m : Nat → Nat → Int32) (w : Nat → Int64) (x : Nat), ev sc d mm ((.getfield x, [4, 0]) :: is) L (.ref 17 :: S) (hp c w m) = ev sc d mm is L (.ref 18 :: S) (hp c w m)) ∧
  (∀ (sc : Nat × (Nat → Int32)) (d mm : Nat) (is : List ma_I) (L : ma_L) (S : List Value) (c m : Nat → Nat → Int32) (w : Nat → Int64) (x : Nat), ev sc d mm ((.getfield x, [4, 1]) :: is) L (.ref 17 :: S) (hp c w m) = ev sc d mm is L (.ref 19 :: S) (hp c w m)) ∧
  (∀ (sc : Nat × (Nat → Int32)) (d mm : Nat) (is : List ma_I) (L : ma_L) (S : List Value) (c m : Nat → Nat → Int32) (w : Nat → Int64) (x : Nat), ev sc d mm ((.getfield x, [4, 2]) :: is) L (.ref 17 :: S) (hp c w m) = ev sc d mm is L (.ref 20 :: S) (hp c w m)) ∧
  (∀ (sc : Nat × (Nat → Int32)) (d mm : Nat) (is : List ma_I) (L : ma_L) (S : List Value) (c m : Nat → Nat → Int32) (w : Nat → Int64) (x : Nat), ev sc d mm ((.getfield x, [4, 3]) :: is) L (.ref 17 :: S) (hp c w m) = ev sc d mm is L (.ref 21 :: S) (hp c w m)) ∧
  (∀ (sc : Nat × (Nat → Int32)) (d mm : Nat) (is : List ma_I) (L : ma_L) (S : List Value) (c m : Nat → Nat → Int32) (w : Nat → Int64) (x : Nat), ev sc d mm ((.getfield x, [4, 4]) :: is) L (.ref 17 :: S) (hp c w m) = ev sc d mm is L (.int (c 17 4) :: S) (hp c w m)) ∧
  (∀ (sc : Nat × (Nat → Int32)) (d mm : Nat) (is : List ma_I) (L : ma_L) (S : List Value) (c m : Nat → Nat → Int32) (w : Nat → Int64) (x : Nat), ev sc d mm ((.getfield x, [4, 5]) :: is) L (.ref 17 :: S) (hp c w m) = ev sc d mm is L (.int (c 17 5) :: S) (hp c w m)) ∧
  (∀ (sc : Nat × (Nat → Int32)) (d mm : Nat) (is : List ma_I) (L : ma_L) (S : List Value) (c m : Nat → Nat → Int32) (w : Nat → Int64) (x : Nat), ev sc d mm ((.getfield x, [4, 6]) :: is) L (.ref 17 :: S) (hp c w m) = ev sc d mm is L (.int (c 17 6) :: S) (hp c w m)) ∧
  (∀ (sc : Nat × (Nat → Int32)) (d mm : Nat) (is : List ma_I) (L : ma_L) (S : List Value) (c m : Nat → Nat → Int32) (w : Nat → Int64) (x : Nat), ev sc d mm ((.getfield x, [4, 7]) :: is) L (.ref 17 :: S) (hp c w m) = ev sc d mm is L (.int (c 17 7) :: S) (hp c w m)) ∧
  (∀ (sc : Nat × (Nat → Int32)) (d mm : Nat) (is : List ma_I) (L : ma_L) (S : List Value) (c m : Nat → Nat → Int32) (w : Nat → Int64) (x : Nat), ev sc d mm ((.getfield x, [4, 8]) :: is) L (.ref 17 :: S) (hp c w m) = ev sc d mm is L (.int (c 17 8) :: S) (hp c w m)) ∧
  (∀ (sc : Nat × (Nat → Int32)) (d mm : Nat) (is : List ma_I) (L : ma_L) (S : List Value) (c m : Nat → Nat → Int32) (w : Nat → Int64) (x : Nat), ev sc d mm ((.getfield x, [2, 0]) :: is) L (.ref 22 :: S) (hp c w m) = ev sc d mm is L (.ref 23 :: S) (hp c w m)) ∧
  (∀ (sc : Nat × (Nat → Int32)) (d mm : Nat) (is : List ma_I) (L : ma_L) (S : List Value) (c m : Nat → Nat → Int32) (w : Nat → Int64) (x : Nat), ev sc d mm ((.getfield x, [5, 0]) :: is) L (.ref 47 :: S) (hp c w m) = ev sc d mm is L (.ref 48 :: S) (hp c w m)) ∧
  (∀ (sc : Nat × (Nat → Int32)) (d mm : Nat) (is : List ma_I) (L : ma_L) (S : List Value) (c m : Nat → Nat → Int32) (w : Nat → Int64) (x : Nat), ev sc d mm ((.getfield x, [5, 1]) :: is) L (.ref 47 :: S) (hp c w m) = ev sc d mm is L (.int (c 47 1) :: S) (hp c w m)) ∧
  (∀ (sc : Nat × (Nat → Int32)) (d mm : Nat) (is : List ma_I) (L : ma_L) (S : List Value) (c m : Nat → Nat → Int32) (w : Nat → Int64) (x : Nat), ev sc d mm ((.getfield x, [9, 0]) :: is) L (.ref 79 :: S) (hp c w m) = ev sc d mm is L (.ref 80 :: S) (hp c w m)) ∧
  (∀ (sc : Nat × (Nat → Int32)) (d mm : Nat) (is : List ma_I) (L : ma_L) (S : List Value) (c m : Nat → Nat → Int32) (w : Nat → Int64) (x : Nat), ev sc d mm ((.getfield x, [9, 1]) :: is) L (.ref 79 :: S) (hp c w m) = ev sc d mm is L (.int (c 79 1) :: S) (hp c w m)) ∧
  (∀ (sc : Nat × (Nat → Int32)) (d mm : Nat) (is : List ma_I) (L : ma_L) (S : List Value) (c m : Nat → Nat → Int32) (w : Nat → Int64) (x : Nat), ev sc d mm ((.getfield x, [9, 2]) :: is) L (.ref 79 :: S) (hp c w m) = ev sc d mm is L (.ref 81 :: S) (hp c w m)) ∧
  (∀ (sc : Nat × (Nat → Int32)) (d mm : Nat) (is : List ma_I) (L : ma_L) (S : List Value) (c m : Nat → Nat → Int32) (w : Nat → Int64) (x : Nat), ev sc d mm ((.getfield x, [9, 3]) :: is) L (.ref 79 :: S) (hp c w m) = ev sc d mm is L (.ref 82 :: S) (hp c w m)) ∧
  (∀ (sc : Nat × (Nat → Int32)) (d mm : Nat) (is : List ma_I) (L : ma_L) (S : List Value) (c m : Nat → Nat → Int32) (w : Nat → Int64) (x : Nat), ev sc d mm ((.getfield x, [9, 4]) :: is) L (.ref 79 :: S) (hp c w m) = ev sc d mm is L (.ref 83 :: S) (hp c w m)) ∧
  (∀ (sc : Nat × (Nat → Int32)) (d mm : Nat) (is : List ma_I) (L : ma_L) (S : List Value) (c m : Nat → Nat → Int32) (w : Nat → Int64) (x : Nat), ev sc d mm ((.getfield x, [9, 5]) :: is) L (.ref 79 :: S) (hp c w m) = ev sc d mm is L (.int (c 79 5) :: S) (hp c w m)) ∧
  (∀ (sc : Nat × (Nat → Int32)) (d mm : Nat) (is : List ma_I) (L : ma_L) (S : List Value) (c m : Nat → Nat → Int32) (w : Nat → Int64) (x : Nat), ev sc d mm ((.getfield x, [9, 6]) :: is) L (.ref 79 :: S) (hp c w m) = ev sc d mm is L (.int (c 79 6) :: S) (hp c w m)) ∧
  (∀ (sc : Nat × (Nat → Int32)) (d mm : Nat) (is : List ma_I) (L : ma_L) (S : List Value) (c m : Nat → Nat → Int32) (w : Nat → Int64) (x : Nat), ev sc d mm ((.getfield x, [9, 7]) :: is) L (.ref 79 :: S) (hp c w m) = ev sc d mm is L (.int (c 79 7) :: S) (hp c w m)) ∧
  (∀ (sc : Nat × (Nat → Int32)) (d mm : Nat) (is : List ma_I) (L : ma_L) (S : List Value) (c m : Nat → Nat → Int32) (w : Nat → Int64) (x : Nat), ev sc d mm ((.getfield x, [9, 8]) :: is) L (.ref 79 :: S) (hp c w m) = ev sc d mm is L (.int (c 79 8) :: S) (hp c w m)) ∧
  (∀ (sc : Nat × (Nat → Int32)) (d mm : Nat) (is : List ma_I) (L : ma_L) (S : List Value) (c m : Nat → Nat → Int32) (w : Nat → Int64) (x : Nat), ev sc d mm ((.getfield x, [6, 0]) :: is) L (.ref 84 :: S) (hp c w m) = ev sc d mm is L (.ref 79 :: S) (hp c w m)) ∧
  (∀ (sc : Nat × (Nat → Int32)) (d mm : Nat) (is : List ma_I) (L : ma_L) (S : List Value) (c m : Nat → Nat → Int32) (w : Nat → Int64) (x : Nat), ev sc d mm ((.getfield x, [6, 1]) :: is) L (.ref 84 :: S) (hp c w m) = ev sc d mm is L (.ref 1 :: S) (hp c w m)) ∧
  (∀ (sc : Nat × (Nat → Int32)) (d mm : Nat) (is : List ma_I) (L : ma_L) (S : List Value) (c m : Nat → Nat → Int32) (w : Nat → Int64) (x : Nat), ev sc d mm ((.getfield x, [6, 2]) :: is) L (.ref 84 :: S) (hp c w m) = ev sc d mm is L (.ref 85 :: S) (hp c w m)) ∧
  (∀ (sc : Nat × (Nat → Int32)) (d mm : Nat) (is : List ma_I) (L : ma_L) (S : List Value) (c m : Nat → Nat → Int32) (w : Nat → Int64) (x : Nat), ev sc d mm ((.getfield x, [6, 3]) :: is) L (.ref 84 :: S) (hp c w m) = ev sc d mm is L (.ref 91 :: S) (hp c w m)) ∧
  (∀ (sc : Nat × (Nat → Int32)) (d mm : Nat) (is : List ma_I) (L : ma_L) (S : List Value) (c m : Nat → Nat → Int32) (w : Nat → Int64) (x : Nat), ev sc d mm ((.getfield x, [3, 0]) :: is) L (.ref 85 :: S) (hp c w m) = ev sc d mm is L (.int (c 85 0) :: S) (hp c w m)) ∧
  (∀ (sc : Nat × (Nat → Int32)) (d mm : Nat) (is : List ma_I) (L : ma_L) (S : List Value) (c m : Nat → Nat → Int32) (w : Nat → Int64) (x : Nat), ev sc d mm ((.getfield x, [3, 1]) :: is) L (.ref 85 :: S) (hp c w m) = ev sc d mm is L (.int (c 85 1) :: S) (hp c w m)) ∧
  (∀ (sc : Nat × (Nat → Int32)) (d mm : Nat) (is : List ma_I) (L : ma_L) (S : List Value) (c m : Nat → Nat → Int32) (w : Nat → Int64) (x : Nat), ev sc d mm ((.getfield x, [3, 2]) :: is) L (.ref 85 :: S) (hp c w m) = ev sc d mm is L (.ref 86 :: S) (hp c w m)) ∧
  (∀ (sc : Nat × (Nat → Int32)) (d mm : Nat) (is : List ma_I) (L : ma_L) (S : List Value) (c m : Nat → Nat → Int32) (w : Nat → Int64) (x : Nat), ev sc d mm ((.getfield x, [3, 3]) :: is) L (.ref 85 :: S) (hp c w m) = ev sc d mm is L (.ref 87 :: S) (hp c w m)) ∧
  (∀ (sc : Nat × (Nat → Int32)) (d mm : Nat) (is : List ma_I) (L : ma_L) (S : List Value) (c m : Nat → Nat → Int32) (w : Nat → Int64) (x : Nat), ev sc d mm ((.getfield x, [3, 4]) :: is) L (.ref 85 :: S) (hp c w m) = ev sc d mm is L (.ref 88 :: S) (hp c w m)) ∧
  (∀ (sc : Nat × (Nat → Int32)) (d mm : Nat) (is : List ma_I) (L : ma_L) (S : List Value) (c m : Nat → Nat → Int32) (w : Nat → Int64) (x : Nat), ev sc d mm ((.getfield x, [3, 5]) :: is) L (.ref 85 :: S) (hp c w m) = ev sc d mm is L (.ref 89 :: S) (hp c w m)) ∧
  (∀ (sc : Nat × (Nat → Int32)) (d mm : Nat) (is : List ma_I) (L : ma_L) (S : List Value) (c m : Nat → Nat → Int32) (w : Nat → Int64) (x : Nat), ev sc d mm ((.getfield x, [3, 6]) :: is) L (.ref 85 :: S) (hp c w m) = ev sc d mm is L (.ref 90 :: S) (hp c w m)) ∧
  (∀ (sc : Nat × (Nat → Int32)) (d mm : Nat) (is : List ma_I) (L : ma_L) (S : List Value) (c m : Nat → Nat → Int32) (w : Nat → Int64) (x : Nat), ev sc d mm ((.getfield x, [7, 0]) :: is) L (.ref 91 :: S) (hp c w m) = ev sc d mm is L (.int (c 91 0) :: S) (hp c w m)) ∧
  (∀ (sc : Nat × (Nat → Int32)) (d mm : Nat) (is : List ma_I) (L : ma_L) (S : List Value) (c m : Nat → Nat → Int32) (w : Nat → Int64) (x : Nat), ev sc d mm ((.getfield x, [7, 1]) :: is) L (.ref 91 :: S) (hp c w m) = ev sc d mm is L (.ref 92 :: S) (hp c w m)) ∧
  (∀ (sc : Nat × (Nat → Int32)) (d mm : Nat) (is : List ma_I) (L : ma_L) (S : List Value) (c m : Nat → Nat → Int32) (w : Nat → Int64) (x : Nat), ev sc d mm ((.getfield x, [1, 0]) :: is) L (.ref 93 :: S) (hp c w m) = ev sc d mm is L (.ref 1 :: S) (hp c w m)) ∧
  (∀ (sc : Nat × (Nat → Int32)) (d mm : Nat) (is : List ma_I) (L : ma_L) (S : List Value) (c m : Nat → Nat → Int32) (w : Nat → Int64) (x : Nat), ev sc d mm ((.getfield x, [1, 1]) :: is) L (.ref 93 :: S) (hp c w m) = ev sc d mm is L (.ref 94 :: S) (hp c w m)) ∧
  (∀ (sc : Nat × (Nat → Int32)) (d mm : Nat) (is : List ma_I) (L : ma_L) (S : List Value) (c m : Nat → Nat → Int32) (w : Nat → Int64) (x : Nat), ev sc d mm ((.getfield x, [1, 2]) :: is) L (.ref 93 :: S) (hp c w m) = ev sc d mm is L (.ref 95 :: S) (hp c w m)) ∧
  (∀ (sc : Nat × (Nat → Int32)) (d mm : Nat) (is : List ma_I) (L : ma_L) (S : List Value) (c m : Nat → Nat → Int32) (w : Nat → Int64) (x : Nat), ev sc d mm ((.getfield x, [11, 0]) :: is) L (.ref 96 :: S) (hp c w m) = ev sc d mm is L (.ref 1 :: S) (hp c w m)) ∧
  (∀ (sc : Nat × (Nat → Int32)) (d mm : Nat) (is : List ma_I) (L : ma_L) (S : List Value) (c m : Nat → Nat → Int32) (w : Nat → Int64) (x : Nat), ev sc d mm ((.getfield x, [11, 1]) :: is) L (.ref 96 :: S) (hp c w m) = ev sc d mm is L (.ref 93 :: S) (hp c w m)) ∧
  (∀ (sc : Nat × (Nat → Int32)) (d mm : Nat) (is : List ma_I) (L : ma_L) (S : List Value) (c m : Nat → Nat → Int32) (w : Nat → Int64) (x : Nat), ev sc d mm ((.getfield x, [11, 2]) :: is) L (.ref 96 :: S) (hp c w m) = ev sc d mm is L (.ref 22 :: S) (hp c w m)) ∧
  (∀ (sc : Nat × (Nat → Int32)) (d mm : Nat) (is : List ma_I) (L : ma_L) (S : List Value) (c m : Nat → Nat → Int32) (w : Nat → Int64) (x : Nat), ev sc d mm ((.getfield x, [11, 3]) :: is) L (.ref 96 :: S) (hp c w m) = ev sc d mm is L (.int (c 96 3) :: S) (hp c w m)) ∧
  (∀ (sc : Nat × (Nat → Int32)) (d mm : Nat) (is : List ma_I) (L : ma_L) (S : List Value) (c m : Nat → Nat → Int32) (w : Nat → Int64) (x : Nat), ev sc d mm ((.getfield x, [11, 4]) :: is) L (.ref 96 :: S) (hp c w m) = ev sc d mm is L (.int (c 96 4) :: S) (hp c w m)) ∧
  (∀ (sc : Nat × (Nat → Int32)) (d mm : Nat) (is : List ma_I) (L : ma_L) (S : List Value) (c m : Nat → Nat → Int32) (w : Nat → Int64) (x : Nat), ev sc d mm ((.getfield x, [11, 5]) :: is) L (.ref 96 :: S) (hp c w m) = ev sc d mm is L (.int (c 96 5) :: S) (hp c w m)) ∧
  (∀ (sc : Nat × (Nat → Int32)) (d mm : Nat) (is : List ma_I) (L : ma_L) (S : List Value) (c m : Nat → Nat → Int32) (w : Nat → Int64) (x : Nat), ev sc d mm ((.getfield x, [4, 0]) :: is) L (.ref 97 :: S) (hp c w m) = ev sc d mm is L (.ref 98 :: S) (hp c w m)) ∧
  (∀ (sc : Nat × (Nat → Int32)) (d mm : Nat) (is : List ma_I) (L : ma_L) (S : List Value) (c m : Nat → Nat → Int32) (w : Nat → Int64) (x : Nat), ev sc d mm ((.getfield x, [4, 1]) :: is) L (.ref 97 :: S) (hp c w m) = ev sc d mm is L (.ref 99 :: S) (hp c w m)) ∧
  (∀ (sc : Nat × (Nat → Int32)) (d mm : Nat) (is : List ma_I) (L : ma_L) (S : List Value) (c m : Nat → Nat → Int32) (w : Nat → Int64) (x : Nat), ev sc d mm ((.getfield x, [4, 2]) :: is) L (.ref 97 :: S) (hp c w m) = ev sc d mm is L (.ref 100 :: S) (hp c w m)) ∧
  (∀ (sc : Nat × (Nat → Int32)) (d mm : Nat) (is : List ma_I) (L : ma_L) (S : List Value) (c m : Nat → Nat → Int32) (w : Nat → Int64) (x : Nat), ev sc d mm ((.getfield x, [4, 3]) :: is) L (.ref 97 :: S) (hp c w m) = ev sc d mm is L (.ref 101 :: S) (hp c w m)) ∧
  (∀ (sc : Nat × (Nat → Int32)) (d mm : Nat) (is : List ma_I) (L : ma_L) (S : List Value) (c m : Nat → Nat → Int32) (w : Nat → Int64) (x : Nat), ev sc d mm ((.getfield x, [4, 4]) :: is) L (.ref 97 :: S) (hp c w m) = ev sc d mm is L (.int (c 97 4) :: S) (hp c w m)) ∧
  (∀ (sc : Nat × (Nat → Int32)) (d mm : Nat) (is : List ma_I) (L : ma_L) (S : List Value) (c m : Nat → Nat → Int32) (w : Nat → Int64) (x : Nat), ev sc d mm ((.getfield x, [4, 5]) :: is) L (.ref 97 :: S) (hp c w m) = ev sc d mm is L (.int (c 97 5) :: S) (hp c w m)) ∧
  (∀ (sc : Nat × (Nat → Int32)) (d mm : Nat) (is : List ma_I) (L : ma_L) (S : List Value) (c m : Nat → Nat → Int32) (w : Nat → Int64) (x : Nat), ev sc d mm ((.getfield x, [4, 6]) :: is) L (.ref 97 :: S) (hp c w m) = ev sc d mm is L (.int (c 97 6) :: S) (hp c w m)) ∧
  (∀ (sc : Nat × (Nat → Int32)) (d mm : Nat) (is : List ma_I) (L : ma_L) (S : List Value) (c m : Nat → Nat → Int32) (w : Nat → Int64) (x : Nat), ev sc d mm ((.getfield x, [4, 7]) :: is) L (.ref 97 :: S) (hp c w m) = ev sc d mm is L (.int (c 97 7) :: S) (hp c w m)) ∧
  (∀ (sc : Nat × (Nat → Int32)) (d mm : Nat) (is : List ma_I) (L : ma_L) (S : List Value) (c m : Nat → Nat → Int32) (w : Nat → Int64) (x : Nat), ev sc d mm ((.getfield x, [4, 8]) :: is) L (.ref 97 :: S) (hp c w m) = ev sc d mm is L (.int (c 97 8) :: S) (hp c w m)) ∧
  (∀ (sc : Nat × (Nat → Int32)) (d mm : Nat) (is : List ma_I) (L : ma_L) (S : List Value) (c m : Nat → Nat → Int32) (w : Nat → Int64) (x : Nat), ev sc d mm ((.getfield x, [11, 0]) :: is) L (.ref 102 :: S) (hp c w m) = ev sc d mm is L (.ref 1 :: S) (hp c w m)) ∧
  (∀ (sc : Nat × (Nat → Int32)) (d mm : Nat) (is : List ma_I) (L : ma_L) (S : List Value) (c m : Nat → Nat → Int32) (w : Nat → Int64) (x : Nat), ev sc d mm ((.getfield x, [11, 1]) :: is) L (.ref 102 :: S) (hp c w m) = ev sc d mm is L (.ref 93 :: S) (hp c w m)) ∧
  (∀ (sc : Nat × (Nat → Int32)) (d mm : Nat) (is : List ma_I) (L : ma_L) (S : List Value) (c m : Nat → Nat → Int32) (w : Nat → Int64) (x : Nat), ev sc d mm ((.getfield x, [11, 2]) :: is) L (.ref 102 :: S) (hp c w m) = ev sc d mm is L (.null :: S) (hp c w m)) ∧
  (∀ (sc : Nat × (Nat → Int32)) (d mm : Nat) (is : List ma_I) (L : ma_L) (S : List Value) (c m : Nat → Nat → Int32) (w : Nat → Int64) (x : Nat), ev sc d mm ((.getfield x, [11, 3]) :: is) L (.ref 102 :: S) (hp c w m) = ev sc d mm is L (.int (c 102 3) :: S) (hp c w m)) ∧
  (∀ (sc : Nat × (Nat → Int32)) (d mm : Nat) (is : List ma_I) (L : ma_L) (S : List Value) (c m : Nat → Nat → Int32) (w : Nat → Int64) (x : Nat), ev sc d mm ((.getfield x, [11, 4]) :: is) L (.ref 102 :: S) (hp c w m) = ev sc d mm is L (.int (c 102 4) :: S) (hp c w m)) ∧
  (∀ (sc : Nat × (Nat → Int32)) (d mm : Nat) (is : List ma_I) (L : ma_L) (S : List Value) (c m : Nat → Nat → Int32) (w : Nat → Int64) (x : Nat), ev sc d mm ((.getfield x, [11, 5]) :: is) L (.ref 102 :: S) (hp c w m) = ev sc d mm is L (.int (c 102 5) :: S) (hp c w m)) ∧
  (∀ (sc : Nat × (Nat → Int32)) (d mm : Nat) (is : List ma_I) (L : ma_L) (S : List Value) (c m : Nat → Nat → Int32) (w : Nat → Int64) (x : Nat), ev sc d mm ((.getfield x, [8, 0]) :: is) L (.ref 103 :: S) (hp c w m) = ev sc d mm is L (.ref 1 :: S) (hp c w m)) ∧
  (∀ (sc : Nat × (Nat → Int32)) (d mm : Nat) (is : List ma_I) (L : ma_L) (S : List Value) (c m : Nat → Nat → Int32) (w : Nat → Int64) (x : Nat), ev sc d mm ((.getfield x, [8, 1]) :: is) L (.ref 103 :: S) (hp c w m) = ev sc d mm is L (.ref 17 :: S) (hp c w m)) ∧
  (∀ (sc : Nat × (Nat → Int32)) (d mm : Nat) (is : List ma_I) (L : ma_L) (S : List Value) (c m : Nat → Nat → Int32) (w : Nat → Int64) (x : Nat), ev sc d mm ((.getfield x, [8, 2]) :: is) L (.ref 103 :: S) (hp c w m) = ev sc d mm is L (.ref 93 :: S) (hp c w m)) ∧
  (∀ (sc : Nat × (Nat → Int32)) (d mm : Nat) (is : List ma_I) (L : ma_L) (S : List Value) (c m : Nat → Nat → Int32) (w : Nat → Int64) (x : Nat), ev sc d mm ((.getfield x, [8, 3]) :: is) L (.ref 103 :: S) (hp c w m) = ev sc d mm is L (.ref 97 :: S) (hp c w m)) ∧
  (∀ (sc : Nat × (Nat → Int32)) (d mm : Nat) (is : List ma_I) (L : ma_L) (S : List Value) (c m : Nat → Nat → Int32) (w : Nat → Int64) (x : Nat), ev sc d mm ((.getfield x, [8, 4]) :: is) L (.ref 103 :: S) (hp c w m) = ev sc d mm is L (.ref 104 :: S) (hp c w m)) ∧
  (∀ (sc : Nat × (Nat → Int32)) (d mm : Nat) (is : List ma_I) (L : ma_L) (S : List Value) (c m : Nat → Nat → Int32) (w : Nat → Int64) (x : Nat), ev sc d mm ((.getfield x, [8, 5]) :: is) L (.ref 103 :: S) (hp c w m) = ev sc d mm is L (.ref 105 :: S) (hp c w m)) ∧
  (∀ (sc : Nat × (Nat → Int32)) (d mm : Nat) (is : List ma_I) (L : ma_L) (S : List Value) (c m : Nat → Nat → Int32) (w : Nat → Int64) (x : Nat), ev sc d mm ((.getfield x, [8, 6]) :: is) L (.ref 103 :: S) (hp c w m) = ev sc d mm is L (.ref 106 :: S) (hp c w m)) ∧
  (∀ (sc : Nat × (Nat → Int32)) (d mm : Nat) (is : List ma_I) (L : ma_L) (S : List Value) (c m : Nat → Nat → Int32) (w : Nat → Int64) (x : Nat), ev sc d mm ((.getfield x, [8, 7]) :: is) L (.ref 103 :: S) (hp c w m) = ev sc d mm is L (.ref 121 :: S) (hp c w m)) ∧
  (∀ (sc : Nat × (Nat → Int32)) (d mm : Nat) (is : List ma_I) (L : ma_L) (S : List Value) (c m : Nat → Nat → Int32) (w : Nat → Int64) (x : Nat), ev sc d mm ((.getfield x, [8, 8]) :: is) L (.ref 103 :: S) (hp c w m) = ev sc d mm is L (.ref 136 :: S) (hp c w m)) ∧
  (∀ (sc : Nat × (Nat → Int32)) (d mm : Nat) (is : List ma_I) (L : ma_L) (S : List Value) (c m : Nat → Nat → Int32) (w : Nat → Int64) (x : Nat), ev sc d mm ((.getfield x, [8, 9]) :: is) L (.ref 103 :: S) (hp c w m) = ev sc d mm is L (.ref 137 :: S) (hp c w m)) := ⟨fun _ _ _ _ _ _ _ _ _ _ => ev_gf (by decide) rfl rfl,
  fun _ _ _ _ _ _ _ _ _ _ => ev_gf (by decide) rfl rfl,
  fun _ _ _ _ _ _ _ _ _ _ => ev_gf (by decide) rfl rfl,
  fun _ _ _ _ _ _ _ _ _ _ => ev_gf (by decide) rfl rfl,
  fun _ _ _ _ _ _ _ _ _ _ => ev_gf (by decide) rfl rfl,
  fun _ _ _ _ _ _ _ _ _ _ => ev_gf (by decide) rfl rfl,
  fun _ _ _ _ _ _ _ _ _ _ => ev_gf (by decide) rfl rfl,
  fun _ _ _ _ _ _ _ _ _ _ => ev_gf (by decide) rfl rfl,
  fun _ _ _ _ _ _ _ _ _ _ => ev_gf (by decide) rfl rfl,
  fun _ _ _ _ _ _ _ _ _ _ => ev_gf (by decide) rfl rfl,
  fun _ _ _ _ _ _ _ _ _ _ => ev_gf (by decide) rfl rfl,
  fun _ _ _ _ _ _ _ _ _ _ => ev_gf (by decide) rfl rfl,
  fun _ _ _ _ _ _ _ _ _ _ => ev_gf (by decide) rfl rfl,
  fun _ _ _ _ _ _ _ _ _ _ => ev_gf (by decide) rfl rfl,
  fun _ _ _ _ _ _ _ _ _ _ => ev_gf (by decide) rfl rfl,
  fun _ _ _ _ _ _ _ _ _ _ => ev_gf (by decide) rfl rfl,
  fun _ _ _ _ _ _ _ _ _ _ => ev_gf (by decide) rfl rfl,
  fun _ _ _ _ _ _ _ _ _ _ => ev_gf (by decide) rfl rfl,
  fun _ _ _ _ _ _ _ _ _ _ => ev_gf (by decide) rfl rfl,
  fun _ _ _ _ _ _ _ _ _ _ => ev_gf (by decide) rfl rfl,
  fun _ _ _ _ _ _ _ _ _ _ => ev_gf (by decide) rfl rfl,
  fun _ _ _ _ _ _ _ _ _ _ => ev_gf (by decide) rfl rfl,
  fun _ _ _ _ _ _ _ _ _ _ => ev_gf (by decide) rfl rfl,
  fun _ _ _ _ _ _ _ _ _ _ => ev_gf (by decide) rfl rfl,
  fun _ _ _ _ _ _ _ _ _ _ => ev_gf (by decide) rfl rfl,
  fun _ _ _ _ _ _ _ _ _ _ => ev_gf (by decide) rfl rfl,
  fun _ _ _ _ _ _ _ _ _ _ => ev_gf (by decide) rfl rfl,
  fun _ _ _ _ _ _ _ _ _ _ => ev_gf (by decide) rfl rfl,
  fun _ _ _ _ _ _ _ _ _ _ => ev_gf (by decide) rfl rfl,
  fun _ _ _ _ _ _ _ _ _ _ => ev_gf (by decide) rfl rfl,
  fun _ _ _ _ _ _ _ _ _ _ => ev_gf (by decide) rfl rfl,
  fun _ _ _ _ _ _ _ _ _ _ => ev_gf (by decide) rfl rfl,
  fun _ _ _ _ _ _ _ _ _ _ => ev_gf (by decide) rfl rfl,
  fun _ _ _ _ _ _ _ _ _ _ => ev_gf (by decide) rfl rfl,
  fun _ _ _ _ _ _ _ _ _ _ => ev_gf (by decide) rfl rfl,
  fun _ _ _ _ _ _ _ _ _ _ => ev_gf (by decide) rfl rfl,
  fun _ _ _ _ _ _ _ _ _ _ => ev_gf (by decide) rfl rfl,
  fun _ _ _ _ _ _ _ _ _ _ => ev_gf (by decide) rfl rfl,
  fun _ _ _ _ _ _ _ _ _ _ => ev_gf (by decide) rfl rfl,
  fun _ _ _ _ _ _ _ _ _ _ => ev_gf (by decide) rfl rfl,
  fun _ _ _ _ _ _ _ _ _ _ => ev_gf (by decide) rfl rfl,
  fun _ _ _ _ _ _ _ _ _ _ => ev_gf (by decide) rfl rfl,
  fun _ _ _ _ _ _ _ _ _ _ => ev_gf (by decide) rfl rfl,
  fun _ _ _ _ _ _ _ _ _ _ => ev_gf (by decide) rfl rfl,
  fun _ _ _ _ _ _ _ _ _ _ => ev_gf (by decide) rfl rfl,
  fun _ _ _ _ _ _ _ _ _ _ => ev_gf (by decide) rfl rfl,
  fun _ _ _ _ _ _ _ _ _ _ => ev_gf (by decide) rfl rfl,
  fun _ _ _ _ _ _ _ _ _ _ => ev_gf (by decide) rfl rfl,
  fun _ _ _ _ _ _ _ _ _ _ => ev_gf (by decide) rfl rfl,
  fun _ _ _ _ _ _ _ _ _ _ => ev_gf (by decide) rfl rfl,
  fun _ _ _ _ _ _ _ _ _ _ => ev_gf (by decide) rfl rfl,
  fun _ _ _ _ _ _ _ _ _ _ => ev_gf (by decide) rfl rfl,
  fun _ _ _ _ _ _ _ _ _ _ => ev_gf (by decide) rfl rfl,
  fun _ _ _ _ _ _ _ _ _ _ => ev_gf (by decide) rfl rfl,
  fun _ _ _ _ _ _ _ _ _ _ => ev_gf (by decide) rfl rfl,
  fun _ _ _ _ _ _ _ _ _ _ => ev_gf (by decide) rfl rfl,
  fun _ _ _ _ _ _ _ _ _ _ => ev_gf (by decide) rfl rfl,
  fun _ _ _ _ _ _ _ _ _ _ => ev_gf (by decide) rfl rfl,
  fun _ _ _ _ _ _ _ _ _ _ => ev_gf (by decide) rfl rfl,
  fun _ _ _ _ _ _ _ _ _ _ => ev_gf (by decide) rfl rfl,
  fun _ _ _ _ _ _ _ _ _ _ => ev_gf (by decide) rfl rfl,
  fun _ _ _ _ _ _ _ _ _ _ => ev_gf (by decide) rfl rfl,
  fun _ _ _ _ _ _ _ _ _ _ => ev_gf (by decide) rfl rfl,
  fun _ _ _ _ _ _ _ _ _ _ => ev_gf (by decide) rfl rfl,
  fun _ _ _ _ _ _ _ _ _ _ => ev_gf (by decide) rfl rfl,
  fun _ _ _ _ _ _ _ _ _ _ => ev_gf (by decide) rfl rfl,
  fun _ _ _ _ _ _ _ _ _ _ => ev_gf (by decide) rfl rfl,
  fun _ _ _ _ _ _ _ _ _ _ => ev_gf (by decide) rfl rfl,
  fun _ _ _ _ _ _ _ _ _ _ => ev_gf (by decide) rfl rfl,
  fun _ _ _ _ _ _ _ _ _ _ => ev_gf (by decide) rfl rfl,
  fun _ _ _ _ _ _ _ _ _ _ => ev_gf (by decide) rfl rfl,
  fun _ _ _ _ _ _ _ _ _ _ => ev_gf (by decide) rfl rfl,
  fun _ _ _ _ _ _ _ _ _ _ => ev_gf (by decide) rfl rfl,
  fun _ _ _ _ _ _ _ _ _ _ => ev_gf (by decide) rfl rfl,
  fun _ _ _ _ _ _ _ _ _ _ => ev_gf (by decide) rfl rfl,
  fun _ _ _ _ _ _ _ _ _ _ => ev_gf (by decide) rfl rfl,
  fun _ _ _ _ _ _ _ _ _ _ => ev_gf (by decide) rfl rfl,
  fun _ _ _ _ _ _ _ _ _ _ => ev_gf (by decide) rfl rfl,
  fun _ _ _ _ _ _ _ _ _ _ => ev_gf (by decide) rfl rfl,
  fun _ _ _ _ _ _ _ _ _ _ => ev_gf (by decide) rfl rfl,
  fun _ _ _ _ _ _ _ _ _ _ => ev_gf (by decide) rfl rfl,
  fun _ _ _ _ _ _ _ _ _ _ => ev_gf (by decide) rfl rfl,
  fun _ _ _ _ _ _ _ _ _ _ => ev_gf (by decide) rfl rfl,
  fun _ _ _ _ _ _ _ _ _ _ => ev_gf (by decide) rfl rfl,
  fun _ _ _ _ _ _ _ _ _ _ => ev_gf (by decide) rfl rfl,
  fun _ _ _ _ _ _ _ _ _ _ => ev_gf (by decide) rfl rfl,
  fun _ _ _ _ _ _ _ _ _ _ => ev_gf (by decide) rfl rfl,
  fun _ _ _ _ _ _ _ _ _ _ => ev_gf (by decide) rfl rfl,
  fun _ _ _ _ _ _ _ _ _ _ => ev_gf (by decide) rfl rfl,
  fun _ _ _ _ _ _ _ _ _ _ => ev_gf (by decide) rfl rfl,
  fun _ _ _ _ _ _ _ _ _ _ => ev_gf (by decide) rfl rfl,
  fun _ _ _ _ _ _ _ _ _ _ => ev_gf (by decide) rfl rfl,
  fun _ _ _ _ _ _ _ _ _ _ => ev_gf (by decide) rfl rfl,
  fun _ _ _ _ _ _ _ _ _ _ => ev_gf (by decide) rfl rfl,
  fun _ _ _ _ _ _ _ _ _ _ => ev_gf (by decide) rfl rfl,
  fun _ _ _ _ _ _ _ _ _ _ => ev_gf (by decide) rfl rfl,
  fun _ _ _ _ _ _ _ _ _ _ => ev_gf (by decide) rfl rfl,
  fun _ _ _ _ _ _ _ _ _ _ => ev_gf (by decide) rfl rfl,
  fun _ _ _ _ _ _ _ _ _ _ => ev_gf (by decide) rfl rfl,
  fun _ _ _ _ _ _ _ _ _ _ => ev_gf (by decide) rfl rfl,
  fun _ _ _ _ _ _ _ _ _ _ => ev_gf (by decide) rfl rfl,
  fun _ _ _ _ _ _ _ _ _ _ => ev_gf (by decide) rfl rfl,
  fun _ _ _ _ _ _ _ _ _ _ => ev_gf (by decide) rfl rfl,
  fun _ _ _ _ _ _ _ _ _ _ => ev_gf (by decide) rfl rfl,
  fun _ _ _ _ _ _ _ _ _ _ => ev_gf (by decide) rfl rfl,
  fun _ _ _ _ _ _ _ _ _ _ => ev_gf (by decide) rfl rfl,
  fun _ _ _ _ _ _ _ _ _ _ => ev_gf (by decide) rfl rfl,
  fun _ _ _ _ _ _ _ _ _ _ => ev_gf (by decide) rfl rfl⟩
theorem pfC : (∀ (sc : Nat × (Nat → Int32)) (d mm : Nat) (is : List ma_I) (L : ma_L) (S : List Value) (c m : Nat → Nat → Int32) (w : Nat → Int64) (x : Nat), ev sc d mm ((.putfield x, [0, 6, 1]) :: is) L (.int (nI 0) :: .ref 0 :: S) (hp c w m) = ev sc d mm is L S (hp (va_up c 0 (upd (c 0) 6 (nI 0))) w m)) ∧
  (∀ (sc : Nat × (Nat → Int32)) (d mm : Nat) (is : List ma_I) (L : ma_L) (S : List Value) (c m : Nat → Nat → Int32) (w : Nat → Int64) (x : Nat), ev sc d mm ((.putfield x, [0, 6, 1]) :: is) L (.int (nI 1) :: .ref 0 :: S) (hp c w m) = ev sc d mm is L S (hp (va_up c 0 (upd (c 0) 6 (nI 1))) w m)) ∧
  (∀ (sc : Nat × (Nat → Int32)) (d mm : Nat) (is : List ma_I) (L : ma_L) (S : List Value) (c m : Nat → Nat → Int32) (w : Nat → Int64) (x : Nat) (v : Int32), ev sc d mm ((.putfield x, [10, 0, 0]) :: is) L (.int v :: .ref 1 :: S) (hp c w m) = ev sc d mm is L S (hp (va_up c 1 (upd (c 1) 0 v)) w m)) ∧
  (∀ (sc : Nat × (Nat → Int32)) (d mm : Nat) (is : List ma_I) (L : ma_L) (S : List Value) (c m : Nat → Nat → Int32) (w : Nat → Int64) (x : Nat) (v : Int32), ev sc d mm ((.putfield x, [10, 1, 0]) :: is) L (.int v :: .ref 1 :: S) (hp c w m) = ev sc d mm is L S (hp (va_up c 1 (upd (c 1) 1 v)) w m)) ∧
  (∀ (sc : Nat × (Nat → Int32)) (d mm : Nat) (is : List ma_I) (L : ma_L) (S : List Value) (c m : Nat → Nat → Int32) (w : Nat → Int64) (x : Nat) (v : Int32), ev sc d mm ((.putfield x, [10, 2, 0]) :: is) L (.int v :: .ref 1 :: S) (hp c w m) = ev sc d mm is L S (hp (va_up c 1 (upd (c 1) 2 v)) w m)) ∧
  (∀ (sc : Nat × (Nat → Int32)) (d mm : Nat) (is : List ma_I) (L : ma_L) (S : List Value) (c m : Nat → Nat → Int32) (w : Nat → Int64) (x : Nat) (v : Int32), ev sc d mm ((.putfield x, [10, 3, 0]) :: is) L (.int v :: .ref 1 :: S) (hp c w m) = ev sc d mm is L S (hp (va_up c 1 (upd (c 1) 3 v)) w m)) ∧
  (∀ (sc : Nat × (Nat → Int32)) (d mm : Nat) (is : List ma_I) (L : ma_L) (S : List Value) (c m : Nat → Nat → Int32) (w : Nat → Int64) (x : Nat) (v : Int32), ev sc d mm ((.putfield x, [10, 5, 0]) :: is) L (.int v :: .ref 1 :: S) (hp c w m) = ev sc d mm is L S (hp (va_up c 1 (upd (c 1) 5 v)) w m)) ∧
  (∀ (sc : Nat × (Nat → Int32)) (d mm : Nat) (is : List ma_I) (L : ma_L) (S : List Value) (c m : Nat → Nat → Int32) (w : Nat → Int64) (x : Nat) (v : Int32), ev sc d mm ((.putfield x, [10, 8, 0]) :: is) L (.int v :: .ref 1 :: S) (hp c w m) = ev sc d mm is L S (hp (va_up c 1 (upd (c 1) 8 v)) w m)) ∧
  (∀ (sc : Nat × (Nat → Int32)) (d mm : Nat) (is : List ma_I) (L : ma_L) (S : List Value) (c m : Nat → Nat → Int32) (w : Nat → Int64) (x : Nat) (v : Int32), ev sc d mm ((.putfield x, [3, 0, 0]) :: is) L (.int v :: .ref 7 :: S) (hp c w m) = ev sc d mm is L S (hp (va_up c 7 (upd (c 7) 0 v)) w m)) ∧
  (∀ (sc : Nat × (Nat → Int32)) (d mm : Nat) (is : List ma_I) (L : ma_L) (S : List Value) (c m : Nat → Nat → Int32) (w : Nat → Int64) (x : Nat) (v : Int32), ev sc d mm ((.putfield x, [3, 1, 0]) :: is) L (.int v :: .ref 7 :: S) (hp c w m) = ev sc d mm is L S (hp (va_up c 7 (upd (c 7) 1 v)) w m)) ∧
  (∀ (sc : Nat × (Nat → Int32)) (d mm : Nat) (is : List ma_I) (L : ma_L) (S : List Value) (c m : Nat → Nat → Int32) (w : Nat → Int64) (x : Nat) (v : Int32), ev sc d mm ((.putfield x, [7, 0, 0]) :: is) L (.int v :: .ref 13 :: S) (hp c w m) = ev sc d mm is L S (hp (va_up c 13 (upd (c 13) 0 v)) w m)) ∧
  (∀ (sc : Nat × (Nat → Int32)) (d mm : Nat) (is : List ma_I) (L : ma_L) (S : List Value) (c m : Nat → Nat → Int32) (w : Nat → Int64) (x : Nat) (v : Int32), ev sc d mm ((.putfield x, [7, 0, 0]) :: is) L (.int v :: .ref 15 :: S) (hp c w m) = ev sc d mm is L S (hp (va_up c 15 (upd (c 15) 0 v)) w m)) ∧
  (∀ (sc : Nat × (Nat → Int32)) (d mm : Nat) (is : List ma_I) (L : ma_L) (S : List Value) (c m : Nat → Nat → Int32) (w : Nat → Int64) (x : Nat) (v : Int32), ev sc d mm ((.putfield x, [4, 4, 0]) :: is) L (.int v :: .ref 17 :: S) (hp c w m) = ev sc d mm is L S (hp (va_up c 17 (upd (c 17) 4 v)) w m)) ∧
  (∀ (sc : Nat × (Nat → Int32)) (d mm : Nat) (is : List ma_I) (L : ma_L) (S : List Value) (c m : Nat → Nat → Int32) (w : Nat → Int64) (x : Nat) (v : Int32), ev sc d mm ((.putfield x, [4, 5, 0]) :: is) L (.int v :: .ref 17 :: S) (hp c w m) = ev sc d mm is L S (hp (va_up c 17 (upd (c 17) 5 v)) w m)) ∧
  (∀ (sc : Nat × (Nat → Int32)) (d mm : Nat) (is : List ma_I) (L : ma_L) (S : List Value) (c m : Nat → Nat → Int32) (w : Nat → Int64) (x : Nat) (v : Int32), ev sc d mm ((.putfield x, [4, 6, 0]) :: is) L (.int v :: .ref 17 :: S) (hp c w m) = ev sc d mm is L S (hp (va_up c 17 (upd (c 17) 6 v)) w m)) ∧
  (∀ (sc : Nat × (Nat → Int32)) (d mm : Nat) (is : List ma_I) (L : ma_L) (S : List Value) (c m : Nat → Nat → Int32) (w : Nat → Int64) (x : Nat) (v : Int32), ev sc d mm ((.putfield x, [4, 7, 0]) :: is) L (.int v :: .ref 17 :: S) (hp c w m) = ev sc d mm is L S (hp (va_up c 17 (upd (c 17) 7 v)) w m)) ∧
  (∀ (sc : Nat × (Nat → Int32)) (d mm : Nat) (is : List ma_I) (L : ma_L) (S : List Value) (c m : Nat → Nat → Int32) (w : Nat → Int64) (x : Nat) (v : Int32), ev sc d mm ((.putfield x, [4, 8, 0]) :: is) L (.int v :: .ref 17 :: S) (hp c w m) = ev sc d mm is L S (hp (va_up c 17 (upd (c 17) 8 v)) w m)) ∧
  (∀ (sc : Nat × (Nat → Int32)) (d mm : Nat) (is : List ma_I) (L : ma_L) (S : List Value) (c m : Nat → Nat → Int32) (w : Nat → Int64) (x : Nat) (v : Int32), ev sc d mm ((.putfield x, [5, 1, 0]) :: is) L (.int v :: .ref 47 :: S) (hp c w m) = ev sc d mm is L S (hp (va_up c 47 (upd (c 47) 1 v)) w m)) ∧
  (∀ (sc : Nat × (Nat → Int32)) (d mm : Nat) (is : List ma_I) (L : ma_L) (S : List Value) (c m : Nat → Nat → Int32) (w : Nat → Int64) (x : Nat) (v : Int32), ev sc d mm ((.putfield x, [9, 1, 0]) :: is) L (.int v :: .ref 79 :: S) (hp c w m) = ev sc d mm is L S (hp (va_up c 79 (upd (c 79) 1 v)) w m)) ∧
  (∀ (sc : Nat × (Nat → Int32)) (d mm : Nat) (is : List ma_I) (L : ma_L) (S : List Value) (c m : Nat → Nat → Int32) (w : Nat → Int64) (x : Nat) (v : Int32), ev sc d mm ((.putfield x, [9, 5, 0]) :: is) L (.int v :: .ref 79 :: S) (hp c w m) = ev sc d mm is L S (hp (va_up c 79 (upd (c 79) 5 v)) w m)) ∧
  (∀ (sc : Nat × (Nat → Int32)) (d mm : Nat) (is : List ma_I) (L : ma_L) (S : List Value) (c m : Nat → Nat → Int32) (w : Nat → Int64) (x : Nat) (v : Int32), ev sc d mm ((.putfield x, [9, 6, 0]) :: is) L (.int v :: .ref 79 :: S) (hp c w m) = ev sc d mm is L S (hp (va_up c 79 (upd (c 79) 6 v)) w m)) ∧
  (∀ (sc : Nat × (Nat → Int32)) (d mm : Nat) (is : List ma_I) (L : ma_L) (S : List Value) (c m : Nat → Nat → Int32) (w : Nat → Int64) (x : Nat) (v : Int32), ev sc d mm ((.putfield x, [9, 7, 0]) :: is) L (.int v :: .ref 79 :: S) (hp c w m) = ev sc d mm is L S (hp (va_up c 79 (upd (c 79) 7 v)) w m)) ∧
  (∀ (sc : Nat × (Nat → Int32)) (d mm : Nat) (is : List ma_I) (L : ma_L) (S : List Value) (c m : Nat → Nat → Int32) (w : Nat → Int64) (x : Nat) (v : Int32), ev sc d mm ((.putfield x, [9, 8, 0]) :: is) L (.int v :: .ref 79 :: S) (hp c w m) = ev sc d mm is L S (hp (va_up c 79 (upd (c 79) 8 v)) w m)) ∧
  (∀ (sc : Nat × (Nat → Int32)) (d mm : Nat) (is : List ma_I) (L : ma_L) (S : List Value) (c m : Nat → Nat → Int32) (w : Nat → Int64) (x : Nat) (v : Int32), ev sc d mm ((.putfield x, [3, 0, 0]) :: is) L (.int v :: .ref 85 :: S) (hp c w m) = ev sc d mm is L S (hp (va_up c 85 (upd (c 85) 0 v)) w m)) ∧
  (∀ (sc : Nat × (Nat → Int32)) (d mm : Nat) (is : List ma_I) (L : ma_L) (S : List Value) (c m : Nat → Nat → Int32) (w : Nat → Int64) (x : Nat) (v : Int32), ev sc d mm ((.putfield x, [3, 1, 0]) :: is) L (.int v :: .ref 85 :: S) (hp c w m) = ev sc d mm is L S (hp (va_up c 85 (upd (c 85) 1 v)) w m)) ∧
  (∀ (sc : Nat × (Nat → Int32)) (d mm : Nat) (is : List ma_I) (L : ma_L) (S : List Value) (c m : Nat → Nat → Int32) (w : Nat → Int64) (x : Nat) (v : Int32), ev sc d mm ((.putfield x, [7, 0, 0]) :: is) L (.int v :: .ref 91 :: S) (hp c w m) = ev sc d mm is L S (hp (va_up c 91 (upd (c 91) 0 v)) w m)) ∧
  (∀ (sc : Nat × (Nat → Int32)) (d mm : Nat) (is : List ma_I) (L : ma_L) (S : List Value) (c m : Nat → Nat → Int32) (w : Nat → Int64) (x : Nat) (v : Int32), ev sc d mm ((.putfield x, [11, 3, 0]) :: is) L (.int v :: .ref 96 :: S) (hp c w m) = ev sc d mm is L S (hp (va_up c 96 (upd (c 96) 3 v)) w m)) ∧
  (∀ (sc : Nat × (Nat → Int32)) (d mm : Nat) (is : List ma_I) (L : ma_L) (S : List Value) (c m : Nat → Nat → Int32) (w : Nat → Int64) (x : Nat) (v : Int32), ev sc d mm ((.putfield x, [11, 4, 0]) :: is) L (.int v :: .ref 96 :: S) (hp c w m) = ev sc d mm is L S (hp (va_up c 96 (upd (c 96) 4 v)) w m)) ∧
  (∀ (sc : Nat × (Nat → Int32)) (d mm : Nat) (is : List ma_I) (L : ma_L) (S : List Value) (c m : Nat → Nat → Int32) (w : Nat → Int64) (x : Nat) (v : Int32), ev sc d mm ((.putfield x, [11, 5, 0]) :: is) L (.int v :: .ref 96 :: S) (hp c w m) = ev sc d mm is L S (hp (va_up c 96 (upd (c 96) 5 v)) w m)) ∧
  (∀ (sc : Nat × (Nat → Int32)) (d mm : Nat) (is : List ma_I) (L : ma_L) (S : List Value) (c m : Nat → Nat → Int32) (w : Nat → Int64) (x : Nat) (v : Int32), ev sc d mm ((.putfield x, [4, 4, 0]) :: is) L (.int v :: .ref 97 :: S) (hp c w m) = ev sc d mm is L S (hp (va_up c 97 (upd (c 97) 4 v)) w m)) ∧
  (∀ (sc : Nat × (Nat → Int32)) (d mm : Nat) (is : List ma_I) (L : ma_L) (S : List Value) (c m : Nat → Nat → Int32) (w : Nat → Int64) (x : Nat) (v : Int32), ev sc d mm ((.putfield x, [4, 5, 0]) :: is) L (.int v :: .ref 97 :: S) (hp c w m) = ev sc d mm is L S (hp (va_up c 97 (upd (c 97) 5 v)) w m)) ∧
  (∀ (sc : Nat × (Nat → Int32)) (d mm : Nat) (is : List ma_I) (L : ma_L) (S : List Value) (c m : Nat → Nat → Int32) (w : Nat → Int64) (x : Nat) (v : Int32), ev sc d mm ((.putfield x, [4, 6, 0]) :: is) L (.int v :: .ref 97 :: S) (hp c w m) = ev sc d mm is L S (hp (va_up c 97 (upd (c 97) 6 v)) w m)) ∧
  (∀ (sc : Nat × (Nat → Int32)) (d mm : Nat) (is : List ma_I) (L : ma_L) (S : List Value) (c m : Nat → Nat → Int32) (w : Nat → Int64) (x : Nat) (v : Int32), ev sc d mm ((.putfield x, [4, 7, 0]) :: is) L (.int v :: .ref 97 :: S) (hp c w m) = ev sc d mm is L S (hp (va_up c 97 (upd (c 97) 7 v)) w m)) ∧
  (∀ (sc : Nat × (Nat → Int32)) (d mm : Nat) (is : List ma_I) (L : ma_L) (S : List Value) (c m : Nat → Nat → Int32) (w : Nat → Int64) (x : Nat) (v : Int32), ev sc d mm ((.putfield x, [4, 8, 0]) :: is) L (.int v :: .ref 97 :: S) (hp c w m) = ev sc d mm is L S (hp (va_up c 97 (upd (c 97) 8 v)) w m)) ∧
  (∀ (sc : Nat × (Nat → Int32)) (d mm : Nat) (is : List ma_I) (L : ma_L) (S : List Value) (c m : Nat → Nat → Int32) (w : Nat → Int64) (x : Nat) (v : Int32), ev sc d mm ((.putfield x, [11, 3, 0]) :: is) L (.int v :: .ref 102 :: S) (hp c w m) = ev sc d mm is L S (hp (va_up c 102 (upd (c 102) 3 v)) w m)) ∧
  (∀ (sc : Nat × (Nat → Int32)) (d mm : Nat) (is : List ma_I) (L : ma_L) (S : List Value) (c m : Nat → Nat → Int32) (w : Nat → Int64) (x : Nat) (v : Int32), ev sc d mm ((.putfield x, [11, 4, 0]) :: is) L (.int v :: .ref 102 :: S) (hp c w m) = ev sc d mm is L S (hp (va_up c 102 (upd (c 102) 4 v)) w m)) ∧
  (∀ (sc : Nat × (Nat → Int32)) (d mm : Nat) (is : List ma_I) (L : ma_L) (S : List Value) (c m : Nat → Nat → Int32) (w : Nat → Int64) (x : Nat) (v : Int32), ev sc d mm ((.putfield x, [11, 5, 0]) :: is) L (.int v :: .ref 102 :: S) (hp c w m) = ev sc d mm is L S (hp (va_up c 102 (upd (c 102) 5 v)) w m)) := ⟨fun _ _ _ _ _ _ _ _ _ _ => ev_pfC _ (by decide) rfl rfl (by decide +kernel) rfl,
  fun _ _ _ _ _ _ _ _ _ _ => ev_pfC _ (by decide) rfl rfl (by decide +kernel) rfl,
  fun _ _ _ _ _ _ _ _ _ _ _ => ev_pfC _ (by decide) rfl rfl rfl rfl,
  fun _ _ _ _ _ _ _ _ _ _ _ => ev_pfC _ (by decide) rfl rfl rfl rfl,
  fun _ _ _ _ _ _ _ _ _ _ _ => ev_pfC _ (by decide) rfl rfl rfl rfl,
  fun _ _ _ _ _ _ _ _ _ _ _ => ev_pfC _ (by decide) rfl rfl rfl rfl,
  fun _ _ _ _ _ _ _ _ _ _ _ => ev_pfC _ (by decide) rfl rfl rfl rfl,
  fun _ _ _ _ _ _ _ _ _ _ _ => ev_pfC _ (by decide) rfl rfl rfl rfl,
  fun _ _ _ _ _ _ _ _ _ _ _ => ev_pfC _ (by decide) rfl rfl rfl rfl,
  fun _ _ _ _ _ _ _ _ _ _ _ => ev_pfC _ (by decide) rfl rfl rfl rfl,
  fun _ _ _ _ _ _ _ _ _ _ _ => ev_pfC _ (by decide) rfl rfl rfl rfl,
  fun _ _ _ _ _ _ _ _ _ _ _ => ev_pfC _ (by decide) rfl rfl rfl rfl,
  fun _ _ _ _ _ _ _ _ _ _ _ => ev_pfC _ (by decide) rfl rfl rfl rfl,
  fun _ _ _ _ _ _ _ _ _ _ _ => ev_pfC _ (by decide) rfl rfl rfl rfl,
  fun _ _ _ _ _ _ _ _ _ _ _ => ev_pfC _ (by decide) rfl rfl rfl rfl,
  fun _ _ _ _ _ _ _ _ _ _ _ => ev_pfC _ (by decide) rfl rfl rfl rfl,
  fun _ _ _ _ _ _ _ _ _ _ _ => ev_pfC _ (by decide) rfl rfl rfl rfl,
  fun _ _ _ _ _ _ _ _ _ _ _ => ev_pfC _ (by decide) rfl rfl rfl rfl,
  fun _ _ _ _ _ _ _ _ _ _ _ => ev_pfC _ (by decide) rfl rfl rfl rfl,
  fun _ _ _ _ _ _ _ _ _ _ _ => ev_pfC _ (by decide) rfl rfl rfl rfl,
  fun _ _ _ _ _ _ _ _ _ _ _ => ev_pfC _ (by decide) rfl rfl rfl rfl,
  fun _ _ _ _ _ _ _ _ _ _ _ => ev_pfC _ (by decide) rfl rfl rfl rfl,
  fun _ _ _ _ _ _ _ _ _ _ _ => ev_pfC _ (by decide) rfl rfl rfl rfl,
  fun _ _ _ _ _ _ _ _ _ _ _ => ev_pfC _ (by decide) rfl rfl rfl rfl,
  fun _ _ _ _ _ _ _ _ _ _ _ => ev_pfC _ (by decide) rfl rfl rfl rfl,
  fun _ _ _ _ _ _ _ _ _ _ _ => ev_pfC _ (by decide) rfl rfl rfl rfl,
  fun _ _ _ _ _ _ _ _ _ _ _ => ev_pfC _ (by decide) rfl rfl rfl rfl,
  fun _ _ _ _ _ _ _ _ _ _ _ => ev_pfC _ (by decide) rfl rfl rfl rfl,
  fun _ _ _ _ _ _ _ _ _ _ _ => ev_pfC _ (by decide) rfl rfl rfl rfl,
  fun _ _ _ _ _ _ _ _ _ _ _ => ev_pfC _ (by decide) rfl rfl rfl rfl,
  fun _ _ _ _ _ _ _ _ _ _ _ => ev_pfC _ (by decide) rfl rfl rfl rfl,
  fun _ _ _ _ _ _ _ _ _ _ _ => ev_pfC _ (by decide) rfl rfl rfl rfl,
  fun _ _ _ _ _ _ _ _ _ _ _ => ev_pfC _ (by decide) rfl rfl rfl rfl,
  fun _ _ _ _ _ _ _ _ _ _ _ => ev_pfC _ (by decide) rfl rfl rfl rfl,
  fun _ _ _ _ _ _ _ _ _ _ _ => ev_pfC _ (by decide) rfl rfl rfl rfl,
  fun _ _ _ _ _ _ _ _ _ _ _ => ev_pfC _ (by decide) rfl rfl rfl rfl,
  fun _ _ _ _ _ _ _ _ _ _ _ => ev_pfC _ (by decide) rfl rfl rfl rfl⟩
theorem gfI : (∀ (sc : Nat × (Nat → Int32)) (d mm : Nat) (is : List ma_I) (L : ma_L) (S : List Value) (c m : Nat → Nat → Int32) (w : Nat → Int64) (x : Nat), ev sc d mm ((.getfield x, [10, 0]) :: is) L (.ref 24 :: S) (hp c w m) = ev sc d mm is L (.int (c 24 0) :: S) (hp c w m)) ∧
  (∀ (sc : Nat × (Nat → Int32)) (d mm : Nat) (is : List ma_I) (L : ma_L) (S : List Value) (c m : Nat → Nat → Int32) (w : Nat → Int64) (x : Nat), ev sc d mm ((.getfield x, [10, 1]) :: is) L (.ref 24 :: S) (hp c w m) = ev sc d mm is L (.int (c 24 1) :: S) (hp c w m)) ∧
  (∀ (sc : Nat × (Nat → Int32)) (d mm : Nat) (is : List ma_I) (L : ma_L) (S : List Value) (c m : Nat → Nat → Int32) (w : Nat → Int64) (x : Nat), ev sc d mm ((.getfield x, [10, 2]) :: is) L (.ref 24 :: S) (hp c w m) = ev sc d mm is L (.int (c 24 2) :: S) (hp c w m)) ∧
  (∀ (sc : Nat × (Nat → Int32)) (d mm : Nat) (is : List ma_I) (L : ma_L) (S : List Value) (c m : Nat → Nat → Int32) (w : Nat → Int64) (x : Nat), ev sc d mm ((.getfield x, [10, 3]) :: is) L (.ref 24 :: S) (hp c w m) = ev sc d mm is L (.int (c 24 3) :: S) (hp c w m)) ∧
  (∀ (sc : Nat × (Nat → Int32)) (d mm : Nat) (is : List ma_I) (L : ma_L) (S : List Value) (c m : Nat → Nat → Int32) (w : Nat → Int64) (x : Nat), ev sc d mm ((.getfield x, [10, 4]) :: is) L (.ref 24 :: S) (hp c w m) = ev sc d mm is L (.ref 25 :: S) (hp c w m)) ∧
  (∀ (sc : Nat × (Nat → Int32)) (d mm : Nat) (is : List ma_I) (L : ma_L) (S : List Value) (c m : Nat → Nat → Int32) (w : Nat → Int64) (x : Nat), ev sc d mm ((.getfield x, [10, 5]) :: is) L (.ref 24 :: S) (hp c w m) = ev sc d mm is L (.int (c 24 5) :: S) (hp c w m)) ∧
  (∀ (sc : Nat × (Nat → Int32)) (d mm : Nat) (is : List ma_I) (L : ma_L) (S : List Value) (c m : Nat → Nat → Int32) (w : Nat → Int64) (x : Nat), ev sc d mm ((.getfield x, [10, 6]) :: is) L (.ref 24 :: S) (hp c w m) = ev sc d mm is L (.ref 26 :: S) (hp c w m)) ∧
  (∀ (sc : Nat × (Nat → Int32)) (d mm : Nat) (is : List ma_I) (L : ma_L) (S : List Value) (c m : Nat → Nat → Int32) (w : Nat → Int64) (x : Nat), ev sc d mm ((.getfield x, [10, 7]) :: is) L (.ref 24 :: S) (hp c w m) = ev sc d mm is L (.ref 27 :: S) (hp c w m)) ∧
  (∀ (sc : Nat × (Nat → Int32)) (d mm : Nat) (is : List ma_I) (L : ma_L) (S : List Value) (c m : Nat → Nat → Int32) (w : Nat → Int64) (x : Nat), ev sc d mm ((.getfield x, [10, 8]) :: is) L (.ref 24 :: S) (hp c w m) = ev sc d mm is L (.int (c 24 8) :: S) (hp c w m)) ∧
  (∀ (sc : Nat × (Nat → Int32)) (d mm : Nat) (is : List ma_I) (L : ma_L) (S : List Value) (c m : Nat → Nat → Int32) (w : Nat → Int64) (x : Nat), ev sc d mm ((.getfield x, [10, 9]) :: is) L (.ref 24 :: S) (hp c w m) = ev sc d mm is L (.ref 28 :: S) (hp c w m)) ∧
  (∀ (sc : Nat × (Nat → Int32)) (d mm : Nat) (is : List ma_I) (L : ma_L) (S : List Value) (c m : Nat → Nat → Int32) (w : Nat → Int64) (x : Nat), ev sc d mm ((.getfield x, [10, 10]) :: is) L (.ref 24 :: S) (hp c w m) = ev sc d mm is L (.ref 29 :: S) (hp c w m)) ∧
  (∀ (sc : Nat × (Nat → Int32)) (d mm : Nat) (is : List ma_I) (L : ma_L) (S : List Value) (c m : Nat → Nat → Int32) (w : Nat → Int64) (x : Nat), ev sc d mm ((.getfield x, [10, 11]) :: is) L (.ref 24 :: S) (hp c w m) = ev sc d mm is L (.ref 30 :: S) (hp c w m)) ∧
  (∀ (sc : Nat × (Nat → Int32)) (d mm : Nat) (is : List ma_I) (L : ma_L) (S : List Value) (c m : Nat → Nat → Int32) (w : Nat → Int64) (x : Nat), ev sc d mm ((.getfield x, [10, 12]) :: is) L (.ref 24 :: S) (hp c w m) = ev sc d mm is L (.ref 36 :: S) (hp c w m)) ∧
  (∀ (sc : Nat × (Nat → Int32)) (d mm : Nat) (is : List ma_I) (L : ma_L) (S : List Value) (c m : Nat → Nat → Int32) (w : Nat → Int64) (x : Nat), ev sc d mm ((.getfield x, [10, 13]) :: is) L (.ref 24 :: S) (hp c w m) = ev sc d mm is L (.ref 38 :: S) (hp c w m)) ∧
  (∀ (sc : Nat × (Nat → Int32)) (d mm : Nat) (is : List ma_I) (L : ma_L) (S : List Value) (c m : Nat → Nat → Int32) (w : Nat → Int64) (x : Nat), ev sc d mm ((.getfield x, [3, 0]) :: is) L (.ref 30 :: S) (hp c w m) = ev sc d mm is L (.int (c 30 0) :: S) (hp c w m)) ∧
  (∀ (sc : Nat × (Nat → Int32)) (d mm : Nat) (is : List ma_I) (L : ma_L) (S : List Value) (c m : Nat → Nat → Int32) (w : Nat → Int64) (x : Nat), ev sc d mm ((.getfield x, [3, 1]) :: is) L (.ref 30 :: S) (hp c w m) = ev sc d mm is L (.int (c 30 1) :: S) (hp c w m)) ∧
  (∀ (sc : Nat × (Nat → Int32)) (d mm : Nat) (is : List ma_I) (L : ma_L) (S : List Value) (c m : Nat → Nat → Int32) (w : Nat → Int64) (x : Nat), ev sc d mm ((.getfield x, [3, 2]) :: is) L (.ref 30 :: S) (hp c w m) = ev sc d mm is L (.ref 31 :: S) (hp c w m)) ∧
  (∀ (sc : Nat × (Nat → Int32)) (d mm : Nat) (is : List ma_I) (L : ma_L) (S : List Value) (c m : Nat → Nat → Int32) (w : Nat → Int64) (x : Nat), ev sc d mm ((.getfield x, [3, 3]) :: is) L (.ref 30 :: S) (hp c w m) = ev sc d mm is L (.ref 32 :: S) (hp c w m)) ∧
  (∀ (sc : Nat × (Nat → Int32)) (d mm : Nat) (is : List ma_I) (L : ma_L) (S : List Value) (c m : Nat → Nat → Int32) (w : Nat → Int64) (x : Nat), ev sc d mm ((.getfield x, [3, 4]) :: is) L (.ref 30 :: S) (hp c w m) = ev sc d mm is L (.ref 33 :: S) (hp c w m)) ∧
  (∀ (sc : Nat × (Nat → Int32)) (d mm : Nat) (is : List ma_I) (L : ma_L) (S : List Value) (c m : Nat → Nat → Int32) (w : Nat → Int64) (x : Nat), ev sc d mm ((.getfield x, [3, 5]) :: is) L (.ref 30 :: S) (hp c w m) = ev sc d mm is L (.ref 34 :: S) (hp c w m)) ∧
  (∀ (sc : Nat × (Nat → Int32)) (d mm : Nat) (is : List ma_I) (L : ma_L) (S : List Value) (c m : Nat → Nat → Int32) (w : Nat → Int64) (x : Nat), ev sc d mm ((.getfield x, [3, 6]) :: is) L (.ref 30 :: S) (hp c w m) = ev sc d mm is L (.ref 35 :: S) (hp c w m)) ∧
  (∀ (sc : Nat × (Nat → Int32)) (d mm : Nat) (is : List ma_I) (L : ma_L) (S : List Value) (c m : Nat → Nat → Int32) (w : Nat → Int64) (x : Nat), ev sc d mm ((.getfield x, [7, 0]) :: is) L (.ref 36 :: S) (hp c w m) = ev sc d mm is L (.int (c 36 0) :: S) (hp c w m)) ∧
  (∀ (sc : Nat × (Nat → Int32)) (d mm : Nat) (is : List ma_I) (L : ma_L) (S : List Value) (c m : Nat → Nat → Int32) (w : Nat → Int64) (x : Nat), ev sc d mm ((.getfield x, [7, 1]) :: is) L (.ref 36 :: S) (hp c w m) = ev sc d mm is L (.ref 37 :: S) (hp c w m)) ∧
  (∀ (sc : Nat × (Nat → Int32)) (d mm : Nat) (is : List ma_I) (L : ma_L) (S : List Value) (c m : Nat → Nat → Int32) (w : Nat → Int64) (x : Nat), ev sc d mm ((.getfield x, [7, 0]) :: is) L (.ref 38 :: S) (hp c w m) = ev sc d mm is L (.int (c 38 0) :: S) (hp c w m)) ∧
  (∀ (sc : Nat × (Nat → Int32)) (d mm : Nat) (is : List ma_I) (L : ma_L) (S : List Value) (c m : Nat → Nat → Int32) (w : Nat → Int64) (x : Nat), ev sc d mm ((.getfield x, [7, 1]) :: is) L (.ref 38 :: S) (hp c w m) = ev sc d mm is L (.ref 39 :: S) (hp c w m)) ∧
  (∀ (sc : Nat × (Nat → Int32)) (d mm : Nat) (is : List ma_I) (L : ma_L) (S : List Value) (c m : Nat → Nat → Int32) (w : Nat → Int64) (x : Nat), ev sc d mm ((.getfield x, [4, 0]) :: is) L (.ref 40 :: S) (hp c w m) = ev sc d mm is L (.ref 41 :: S) (hp c w m)) ∧
  (∀ (sc : Nat × (Nat → Int32)) (d mm : Nat) (is : List ma_I) (L : ma_L) (S : List Value) (c m : Nat → Nat → Int32) (w : Nat → Int64) (x : Nat), ev sc d mm ((.getfield x, [4, 1]) :: is) L (.ref 40 :: S) (hp c w m) = ev sc d mm is L (.ref 42 :: S) (hp c w m)) ∧
  (∀ (sc : Nat × (Nat → Int32)) (d mm : Nat) (is : List ma_I) (L : ma_L) (S : List Value) (c m : Nat → Nat → Int32) (w : Nat → Int64) (x : Nat), ev sc d mm ((.getfield x, [4, 2]) :: is) L (.ref 40 :: S) (hp c w m) = ev sc d mm is L (.ref 43 :: S) (hp c w m)) ∧
  (∀ (sc : Nat × (Nat → Int32)) (d mm : Nat) (is : List ma_I) (L : ma_L) (S : List Value) (c m : Nat → Nat → Int32) (w : Nat → Int64) (x : Nat), ev sc d mm ((.getfield x, [4, 3]) :: is) L (.ref 40 :: S) (hp c w m) = ev sc d mm is L (.ref 44 :: S) (hp c w m)) ∧
  (∀ (sc : Nat × (Nat → Int32)) (d mm : Nat) (is : List ma_I) (L : ma_L) (S : List Value) (c m : Nat → Nat → Int32) (w : Nat → Int64) (x : Nat), ev sc d mm ((.getfield x, [4, 4]) :: is) L (.ref 40 :: S) (hp c w m) = ev sc d mm is L (.int (c 40 4) :: S) (hp c w m)) ∧
  (∀ (sc : Nat × (Nat → Int32)) (d mm : Nat) (is : List ma_I) (L : ma_L) (S : List Value) (c m : Nat → Nat → Int32) (w : Nat → Int64) (x : Nat), ev sc d mm ((.getfield x, [4, 5]) :: is) L (.ref 40 :: S) (hp c w m) = ev sc d mm is L (.int (c 40 5) :: S) (hp c w m)) ∧
  (∀ (sc : Nat × (Nat → Int32)) (d mm : Nat) (is : List ma_I) (L : ma_L) (S : List Value) (c m : Nat → Nat → Int32) (w : Nat → Int64) (x : Nat), ev sc d mm ((.getfield x, [4, 6]) :: is) L (.ref 40 :: S) (hp c w m) = ev sc d mm is L (.int (c 40 6) :: S) (hp c w m)) ∧
  (∀ (sc : Nat × (Nat → Int32)) (d mm : Nat) (is : List ma_I) (L : ma_L) (S : List Value) (c m : Nat → Nat → Int32) (w : Nat → Int64) (x : Nat), ev sc d mm ((.getfield x, [4, 7]) :: is) L (.ref 40 :: S) (hp c w m) = ev sc d mm is L (.int (c 40 7) :: S) (hp c w m)) ∧
  (∀ (sc : Nat × (Nat → Int32)) (d mm : Nat) (is : List ma_I) (L : ma_L) (S : List Value) (c m : Nat → Nat → Int32) (w : Nat → Int64) (x : Nat), ev sc d mm ((.getfield x, [4, 8]) :: is) L (.ref 40 :: S) (hp c w m) = ev sc d mm is L (.int (c 40 8) :: S) (hp c w m)) ∧
  (∀ (sc : Nat × (Nat → Int32)) (d mm : Nat) (is : List ma_I) (L : ma_L) (S : List Value) (c m : Nat → Nat → Int32) (w : Nat → Int64) (x : Nat), ev sc d mm ((.getfield x, [2, 0]) :: is) L (.ref 45 :: S) (hp c w m) = ev sc d mm is L (.ref 46 :: S) (hp c w m)) := ⟨fun _ _ _ _ _ _ _ _ _ _ => ev_gf (by decide) rfl rfl,
  fun _ _ _ _ _ _ _ _ _ _ => ev_gf (by decide) rfl rfl,
  fun _ _ _ _ _ _ _ _ _ _ => ev_gf (by decide) rfl rfl,
  fun _ _ _ _ _ _ _ _ _ _ => ev_gf (by decide) rfl rfl,
  fun _ _ _ _ _ _ _ _ _ _ => ev_gf (by decide) rfl rfl,
  fun _ _ _ _ _ _ _ _ _ _ => ev_gf (by decide) rfl rfl,
  fun _ _ _ _ _ _ _ _ _ _ => ev_gf (by decide) rfl rfl,
  fun _ _ _ _ _ _ _ _ _ _ => ev_gf (by decide) rfl rfl,
  fun _ _ _ _ _ _ _ _ _ _ => ev_gf (by decide) rfl rfl,
  fun _ _ _ _ _ _ _ _ _ _ => ev_gf (by decide) rfl rfl,
  fun _ _ _ _ _ _ _ _ _ _ => ev_gf (by decide) rfl rfl,
  fun _ _ _ _ _ _ _ _ _ _ => ev_gf (by decide) rfl rfl,
  fun _ _ _ _ _ _ _ _ _ _ => ev_gf (by decide) rfl rfl,
  fun _ _ _ _ _ _ _ _ _ _ => ev_gf (by decide) rfl rfl,
  fun _ _ _ _ _ _ _ _ _ _ => ev_gf (by decide) rfl rfl,
  fun _ _ _ _ _ _ _ _ _ _ => ev_gf (by decide) rfl rfl,
  fun _ _ _ _ _ _ _ _ _ _ => ev_gf (by decide) rfl rfl,
  fun _ _ _ _ _ _ _ _ _ _ => ev_gf (by decide) rfl rfl,
  fun _ _ _ _ _ _ _ _ _ _ => ev_gf (by decide) rfl rfl,
  fun _ _ _ _ _ _ _ _ _ _ => ev_gf (by decide) rfl rfl,
  fun _ _ _ _ _ _ _ _ _ _ => ev_gf (by decide) rfl rfl,
  fun _ _ _ _ _ _ _ _ _ _ => ev_gf (by decide) rfl rfl,
  fun _ _ _ _ _ _ _ _ _ _ => ev_gf (by decide) rfl rfl,
  fun _ _ _ _ _ _ _ _ _ _ => ev_gf (by decide) rfl rfl,
  fun _ _ _ _ _ _ _ _ _ _ => ev_gf (by decide) rfl rfl,
  fun _ _ _ _ _ _ _ _ _ _ => ev_gf (by decide) rfl rfl,
  fun _ _ _ _ _ _ _ _ _ _ => ev_gf (by decide) rfl rfl,
  fun _ _ _ _ _ _ _ _ _ _ => ev_gf (by decide) rfl rfl,
  fun _ _ _ _ _ _ _ _ _ _ => ev_gf (by decide) rfl rfl,
  fun _ _ _ _ _ _ _ _ _ _ => ev_gf (by decide) rfl rfl,
  fun _ _ _ _ _ _ _ _ _ _ => ev_gf (by decide) rfl rfl,
  fun _ _ _ _ _ _ _ _ _ _ => ev_gf (by decide) rfl rfl,
  fun _ _ _ _ _ _ _ _ _ _ => ev_gf (by decide) rfl rfl,
  fun _ _ _ _ _ _ _ _ _ _ => ev_gf (by decide) rfl rfl,
  fun _ _ _ _ _ _ _ _ _ _ => ev_gf (by decide) rfl rfl⟩
theorem pfI : (∀ (sc : Nat × (Nat → Int32)) (d mm : Nat) (is : List ma_I) (L : ma_L) (S : List Value) (c m : Nat → Nat → Int32) (w : Nat → Int64) (x : Nat) (v : Int32), ev sc d mm ((.putfield x, [10, 0, 0]) :: is) L (.int v :: .ref 24 :: S) (hp c w m) = ev sc d mm is L S (hp (va_up c 24 (upd (c 24) 0 v)) w m)) ∧
  (∀ (sc : Nat × (Nat → Int32)) (d mm : Nat) (is : List ma_I) (L : ma_L) (S : List Value) (c m : Nat → Nat → Int32) (w : Nat → Int64) (x : Nat) (v : Int32), ev sc d mm ((.putfield x, [10, 1, 0]) :: is) L (.int v :: .ref 24 :: S) (hp c w m) = ev sc d mm is L S (hp (va_up c 24 (upd (c 24) 1 v)) w m)) ∧
  (∀ (sc : Nat × (Nat → Int32)) (d mm : Nat) (is : List ma_I) (L : ma_L) (S : List Value) (c m : Nat → Nat → Int32) (w : Nat → Int64) (x : Nat) (v : Int32), ev sc d mm ((.putfield x, [10, 2, 0]) :: is) L (.int v :: .ref 24 :: S) (hp c w m) = ev sc d mm is L S (hp (va_up c 24 (upd (c 24) 2 v)) w m)) ∧
  (∀ (sc : Nat × (Nat → Int32)) (d mm : Nat) (is : List ma_I) (L : ma_L) (S : List Value) (c m : Nat → Nat → Int32) (w : Nat → Int64) (x : Nat) (v : Int32), ev sc d mm ((.putfield x, [10, 3, 0]) :: is) L (.int v :: .ref 24 :: S) (hp c w m) = ev sc d mm is L S (hp (va_up c 24 (upd (c 24) 3 v)) w m)) ∧
  (∀ (sc : Nat × (Nat → Int32)) (d mm : Nat) (is : List ma_I) (L : ma_L) (S : List Value) (c m : Nat → Nat → Int32) (w : Nat → Int64) (x : Nat) (v : Int32), ev sc d mm ((.putfield x, [10, 5, 0]) :: is) L (.int v :: .ref 24 :: S) (hp c w m) = ev sc d mm is L S (hp (va_up c 24 (upd (c 24) 5 v)) w m)) ∧
  (∀ (sc : Nat × (Nat → Int32)) (d mm : Nat) (is : List ma_I) (L : ma_L) (S : List Value) (c m : Nat → Nat → Int32) (w : Nat → Int64) (x : Nat) (v : Int32), ev sc d mm ((.putfield x, [10, 8, 0]) :: is) L (.int v :: .ref 24 :: S) (hp c w m) = ev sc d mm is L S (hp (va_up c 24 (upd (c 24) 8 v)) w m)) ∧
  (∀ (sc : Nat × (Nat → Int32)) (d mm : Nat) (is : List ma_I) (L : ma_L) (S : List Value) (c m : Nat → Nat → Int32) (w : Nat → Int64) (x : Nat) (v : Int32), ev sc d mm ((.putfield x, [3, 0, 0]) :: is) L (.int v :: .ref 30 :: S) (hp c w m) = ev sc d mm is L S (hp (va_up c 30 (upd (c 30) 0 v)) w m)) ∧
  (∀ (sc : Nat × (Nat → Int32)) (d mm : Nat) (is : List ma_I) (L : ma_L) (S : List Value) (c m : Nat → Nat → Int32) (w : Nat → Int64) (x : Nat) (v : Int32), ev sc d mm ((.putfield x, [3, 1, 0]) :: is) L (.int v :: .ref 30 :: S) (hp c w m) = ev sc d mm is L S (hp (va_up c 30 (upd (c 30) 1 v)) w m)) ∧
  (∀ (sc : Nat × (Nat → Int32)) (d mm : Nat) (is : List ma_I) (L : ma_L) (S : List Value) (c m : Nat → Nat → Int32) (w : Nat → Int64) (x : Nat) (v : Int32), ev sc d mm ((.putfield x, [7, 0, 0]) :: is) L (.int v :: .ref 36 :: S) (hp c w m) = ev sc d mm is L S (hp (va_up c 36 (upd (c 36) 0 v)) w m)) ∧
  (∀ (sc : Nat × (Nat → Int32)) (d mm : Nat) (is : List ma_I) (L : ma_L) (S : List Value) (c m : Nat → Nat → Int32) (w : Nat → Int64) (x : Nat) (v : Int32), ev sc d mm ((.putfield x, [7, 0, 0]) :: is) L (.int v :: .ref 38 :: S) (hp c w m) = ev sc d mm is L S (hp (va_up c 38 (upd (c 38) 0 v)) w m)) ∧
  (∀ (sc : Nat × (Nat → Int32)) (d mm : Nat) (is : List ma_I) (L : ma_L) (S : List Value) (c m : Nat → Nat → Int32) (w : Nat → Int64) (x : Nat) (v : Int32), ev sc d mm ((.putfield x, [4, 4, 0]) :: is) L (.int v :: .ref 40 :: S) (hp c w m) = ev sc d mm is L S (hp (va_up c 40 (upd (c 40) 4 v)) w m)) ∧
  (∀ (sc : Nat × (Nat → Int32)) (d mm : Nat) (is : List ma_I) (L : ma_L) (S : List Value) (c m : Nat → Nat → Int32) (w : Nat → Int64) (x : Nat) (v : Int32), ev sc d mm ((.putfield x, [4, 5, 0]) :: is) L (.int v :: .ref 40 :: S) (hp c w m) = ev sc d mm is L S (hp (va_up c 40 (upd (c 40) 5 v)) w m)) ∧
  (∀ (sc : Nat × (Nat → Int32)) (d mm : Nat) (is : List ma_I) (L : ma_L) (S : List Value) (c m : Nat → Nat → Int32) (w : Nat → Int64) (x : Nat) (v : Int32), ev sc d mm ((.putfield x, [4, 6, 0]) :: is) L (.int v :: .ref 40 :: S) (hp c w m) = ev sc d mm is L S (hp (va_up c 40 (upd (c 40) 6 v)) w m)) ∧
  (∀ (sc : Nat × (Nat → Int32)) (d mm : Nat) (is : List ma_I) (L : ma_L) (S : List Value) (c m : Nat → Nat → Int32) (w : Nat → Int64) (x : Nat) (v : Int32), ev sc d mm ((.putfield x, [4, 7, 0]) :: is) L (.int v :: .ref 40 :: S) (hp c w m) = ev sc d mm is L S (hp (va_up c 40 (upd (c 40) 7 v)) w m)) ∧
  (∀ (sc : Nat × (Nat → Int32)) (d mm : Nat) (is : List ma_I) (L : ma_L) (S : List Value) (c m : Nat → Nat → Int32) (w : Nat → Int64) (x : Nat) (v : Int32), ev sc d mm ((.putfield x, [4, 8, 0]) :: is) L (.int v :: .ref 40 :: S) (hp c w m) = ev sc d mm is L S (hp (va_up c 40 (upd (c 40) 8 v)) w m)) := ⟨fun _ _ _ _ _ _ _ _ _ _ _ => ev_pfC _ (by decide) rfl rfl rfl rfl,
  fun _ _ _ _ _ _ _ _ _ _ _ => ev_pfC _ (by decide) rfl rfl rfl rfl,
  fun _ _ _ _ _ _ _ _ _ _ _ => ev_pfC _ (by decide) rfl rfl rfl rfl,
  fun _ _ _ _ _ _ _ _ _ _ _ => ev_pfC _ (by decide) rfl rfl rfl rfl,
  fun _ _ _ _ _ _ _ _ _ _ _ => ev_pfC _ (by decide) rfl rfl rfl rfl,
  fun _ _ _ _ _ _ _ _ _ _ _ => ev_pfC _ (by decide) rfl rfl rfl rfl,
  fun _ _ _ _ _ _ _ _ _ _ _ => ev_pfC _ (by decide) rfl rfl rfl rfl,
  fun _ _ _ _ _ _ _ _ _ _ _ => ev_pfC _ (by decide) rfl rfl rfl rfl,
  fun _ _ _ _ _ _ _ _ _ _ _ => ev_pfC _ (by decide) rfl rfl rfl rfl,
  fun _ _ _ _ _ _ _ _ _ _ _ => ev_pfC _ (by decide) rfl rfl rfl rfl,
  fun _ _ _ _ _ _ _ _ _ _ _ => ev_pfC _ (by decide) rfl rfl rfl rfl,
  fun _ _ _ _ _ _ _ _ _ _ _ => ev_pfC _ (by decide) rfl rfl rfl rfl,
  fun _ _ _ _ _ _ _ _ _ _ _ => ev_pfC _ (by decide) rfl rfl rfl rfl,
  fun _ _ _ _ _ _ _ _ _ _ _ => ev_pfC _ (by decide) rfl rfl rfl rfl,
  fun _ _ _ _ _ _ _ _ _ _ _ => ev_pfC _ (by decide) rfl rfl rfl rfl⟩
theorem gfK : (∀ (sc : Nat × (Nat → Int32)) (d mm : Nat) (is : List ma_I) (L : ma_L) (S : List Value) (c m : Nat → Nat → Int32) (w : Nat → Int64) (x : Nat), ev sc d mm ((.getfield x, [4, 0]) :: is) L (.ref 49 :: S) (hp c w m) = ev sc d mm is L (.ref 50 :: S) (hp c w m)) ∧
  (∀ (sc : Nat × (Nat → Int32)) (d mm : Nat) (is : List ma_I) (L : ma_L) (S : List Value) (c m : Nat → Nat → Int32) (w : Nat → Int64) (x : Nat), ev sc d mm ((.getfield x, [4, 1]) :: is) L (.ref 49 :: S) (hp c w m) = ev sc d mm is L (.ref 51 :: S) (hp c w m)) ∧
  (∀ (sc : Nat × (Nat → Int32)) (d mm : Nat) (is : List ma_I) (L : ma_L) (S : List Value) (c m : Nat → Nat → Int32) (w : Nat → Int64) (x : Nat), ev sc d mm ((.getfield x, [4, 2]) :: is) L (.ref 49 :: S) (hp c w m) = ev sc d mm is L (.ref 52 :: S) (hp c w m)) ∧
  (∀ (sc : Nat × (Nat → Int32)) (d mm : Nat) (is : List ma_I) (L : ma_L) (S : List Value) (c m : Nat → Nat → Int32) (w : Nat → Int64) (x : Nat), ev sc d mm ((.getfield x, [4, 3]) :: is) L (.ref 49 :: S) (hp c w m) = ev sc d mm is L (.ref 53 :: S) (hp c w m)) ∧
  (∀ (sc : Nat × (Nat → Int32)) (d mm : Nat) (is : List ma_I) (L : ma_L) (S : List Value) (c m : Nat → Nat → Int32) (w : Nat → Int64) (x : Nat), ev sc d mm ((.getfield x, [4, 4]) :: is) L (.ref 49 :: S) (hp c w m) = ev sc d mm is L (.int (c 49 4) :: S) (hp c w m)) ∧
  (∀ (sc : Nat × (Nat → Int32)) (d mm : Nat) (is : List ma_I) (L : ma_L) (S : List Value) (c m : Nat → Nat → Int32) (w : Nat → Int64) (x : Nat), ev sc d mm ((.getfield x, [4, 5]) :: is) L (.ref 49 :: S) (hp c w m) = ev sc d mm is L (.int (c 49 5) :: S) (hp c w m)) ∧
  (∀ (sc : Nat × (Nat → Int32)) (d mm : Nat) (is : List ma_I) (L : ma_L) (S : List Value) (c m : Nat → Nat → Int32) (w : Nat → Int64) (x : Nat), ev sc d mm ((.getfield x, [4, 6]) :: is) L (.ref 49 :: S) (hp c w m) = ev sc d mm is L (.int (c 49 6) :: S) (hp c w m)) ∧
  (∀ (sc : Nat × (Nat → Int32)) (d mm : Nat) (is : List ma_I) (L : ma_L) (S : List Value) (c m : Nat → Nat → Int32) (w : Nat → Int64) (x : Nat), ev sc d mm ((.getfield x, [4, 7]) :: is) L (.ref 49 :: S) (hp c w m) = ev sc d mm is L (.int (c 49 7) :: S) (hp c w m)) ∧
  (∀ (sc : Nat × (Nat → Int32)) (d mm : Nat) (is : List ma_I) (L : ma_L) (S : List Value) (c m : Nat → Nat → Int32) (w : Nat → Int64) (x : Nat), ev sc d mm ((.getfield x, [4, 8]) :: is) L (.ref 49 :: S) (hp c w m) = ev sc d mm is L (.int (c 49 8) :: S) (hp c w m)) ∧
  (∀ (sc : Nat × (Nat → Int32)) (d mm : Nat) (is : List ma_I) (L : ma_L) (S : List Value) (c m : Nat → Nat → Int32) (w : Nat → Int64) (x : Nat), ev sc d mm ((.getfield x, [4, 0]) :: is) L (.ref 54 :: S) (hp c w m) = ev sc d mm is L (.ref 55 :: S) (hp c w m)) ∧
  (∀ (sc : Nat × (Nat → Int32)) (d mm : Nat) (is : List ma_I) (L : ma_L) (S : List Value) (c m : Nat → Nat → Int32) (w : Nat → Int64) (x : Nat), ev sc d mm ((.getfield x, [4, 1]) :: is) L (.ref 54 :: S) (hp c w m) = ev sc d mm is L (.ref 56 :: S) (hp c w m)) ∧
  (∀ (sc : Nat × (Nat → Int32)) (d mm : Nat) (is : List ma_I) (L : ma_L) (S : List Value) (c m : Nat → Nat → Int32) (w : Nat → Int64) (x : Nat), ev sc d mm ((.getfield x, [4, 2]) :: is) L (.ref 54 :: S) (hp c w m) = ev sc d mm is L (.ref 57 :: S) (hp c w m)) ∧
  (∀ (sc : Nat × (Nat → Int32)) (d mm : Nat) (is : List ma_I) (L : ma_L) (S : List Value) (c m : Nat → Nat → Int32) (w : Nat → Int64) (x : Nat), ev sc d mm ((.getfield x, [4, 3]) :: is) L (.ref 54 :: S) (hp c w m) = ev sc d mm is L (.ref 58 :: S) (hp c w m)) ∧
  (∀ (sc : Nat × (Nat → Int32)) (d mm : Nat) (is : List ma_I) (L : ma_L) (S : List Value) (c m : Nat → Nat → Int32) (w : Nat → Int64) (x : Nat), ev sc d mm ((.getfield x, [4, 4]) :: is) L (.ref 54 :: S) (hp c w m) = ev sc d mm is L (.int (c 54 4) :: S) (hp c w m)) ∧
  (∀ (sc : Nat × (Nat → Int32)) (d mm : Nat) (is : List ma_I) (L : ma_L) (S : List Value) (c m : Nat → Nat → Int32) (w : Nat → Int64) (x : Nat), ev sc d mm ((.getfield x, [4, 5]) :: is) L (.ref 54 :: S) (hp c w m) = ev sc d mm is L (.int (c 54 5) :: S) (hp c w m)) ∧
  (∀ (sc : Nat × (Nat → Int32)) (d mm : Nat) (is : List ma_I) (L : ma_L) (S : List Value) (c m : Nat → Nat → Int32) (w : Nat → Int64) (x : Nat), ev sc d mm ((.getfield x, [4, 6]) :: is) L (.ref 54 :: S) (hp c w m) = ev sc d mm is L (.int (c 54 6) :: S) (hp c w m)) ∧
  (∀ (sc : Nat × (Nat → Int32)) (d mm : Nat) (is : List ma_I) (L : ma_L) (S : List Value) (c m : Nat → Nat → Int32) (w : Nat → Int64) (x : Nat), ev sc d mm ((.getfield x, [4, 7]) :: is) L (.ref 54 :: S) (hp c w m) = ev sc d mm is L (.int (c 54 7) :: S) (hp c w m)) ∧
  (∀ (sc : Nat × (Nat → Int32)) (d mm : Nat) (is : List ma_I) (L : ma_L) (S : List Value) (c m : Nat → Nat → Int32) (w : Nat → Int64) (x : Nat), ev sc d mm ((.getfield x, [4, 8]) :: is) L (.ref 54 :: S) (hp c w m) = ev sc d mm is L (.int (c 54 8) :: S) (hp c w m)) ∧
  (∀ (sc : Nat × (Nat → Int32)) (d mm : Nat) (is : List ma_I) (L : ma_L) (S : List Value) (c m : Nat → Nat → Int32) (w : Nat → Int64) (x : Nat), ev sc d mm ((.getfield x, [4, 0]) :: is) L (.ref 59 :: S) (hp c w m) = ev sc d mm is L (.ref 60 :: S) (hp c w m)) ∧
  (∀ (sc : Nat × (Nat → Int32)) (d mm : Nat) (is : List ma_I) (L : ma_L) (S : List Value) (c m : Nat → Nat → Int32) (w : Nat → Int64) (x : Nat), ev sc d mm ((.getfield x, [4, 1]) :: is) L (.ref 59 :: S) (hp c w m) = ev sc d mm is L (.ref 61 :: S) (hp c w m)) ∧
  (∀ (sc : Nat × (Nat → Int32)) (d mm : Nat) (is : List ma_I) (L : ma_L) (S : List Value) (c m : Nat → Nat → Int32) (w : Nat → Int64) (x : Nat), ev sc d mm ((.getfield x, [4, 2]) :: is) L (.ref 59 :: S) (hp c w m) = ev sc d mm is L (.ref 62 :: S) (hp c w m)) ∧
  (∀ (sc : Nat × (Nat → Int32)) (d mm : Nat) (is : List ma_I) (L : ma_L) (S : List Value) (c m : Nat → Nat → Int32) (w : Nat → Int64) (x : Nat), ev sc d mm ((.getfield x, [4, 3]) :: is) L (.ref 59 :: S) (hp c w m) = ev sc d mm is L (.ref 63 :: S) (hp c w m)) ∧
  (∀ (sc : Nat × (Nat → Int32)) (d mm : Nat) (is : List ma_I) (L : ma_L) (S : List Value) (c m : Nat → Nat → Int32) (w : Nat → Int64) (x : Nat), ev sc d mm ((.getfield x, [4, 4]) :: is) L (.ref 59 :: S) (hp c w m) = ev sc d mm is L (.int (c 59 4) :: S) (hp c w m)) ∧
  (∀ (sc : Nat × (Nat → Int32)) (d mm : Nat) (is : List ma_I) (L : ma_L) (S : List Value) (c m : Nat → Nat → Int32) (w : Nat → Int64) (x : Nat), ev sc d mm ((.getfield x, [4, 5]) :: is) L (.ref 59 :: S) (hp c w m) = ev sc d mm is L (.int (c 59 5) :: S) (hp c w m)) ∧
  (∀ (sc : Nat × (Nat → Int32)) (d mm : Nat) (is : List ma_I) (L : ma_L) (S : List Value) (c m : Nat → Nat → Int32) (w : Nat → Int64) (x : Nat), ev sc d mm ((.getfield x, [4, 6]) :: is) L (.ref 59 :: S) (hp c w m) = ev sc d mm is L (.int (c 59 6) :: S) (hp c w m)) ∧
  (∀ (sc : Nat × (Nat → Int32)) (d mm : Nat) (is : List ma_I) (L : ma_L) (S : List Value) (c m : Nat → Nat → Int32) (w : Nat → Int64) (x : Nat), ev sc d mm ((.getfield x, [4, 7]) :: is) L (.ref 59 :: S) (hp c w m) = ev sc d mm is L (.int (c 59 7) :: S) (hp c w m)) ∧
  (∀ (sc : Nat × (Nat → Int32)) (d mm : Nat) (is : List ma_I) (L : ma_L) (S : List Value) (c m : Nat → Nat → Int32) (w : Nat → Int64) (x : Nat), ev sc d mm ((.getfield x, [4, 8]) :: is) L (.ref 59 :: S) (hp c w m) = ev sc d mm is L (.int (c 59 8) :: S) (hp c w m)) ∧
  (∀ (sc : Nat × (Nat → Int32)) (d mm : Nat) (is : List ma_I) (L : ma_L) (S : List Value) (c m : Nat → Nat → Int32) (w : Nat → Int64) (x : Nat), ev sc d mm ((.getfield x, [4, 0]) :: is) L (.ref 64 :: S) (hp c w m) = ev sc d mm is L (.ref 65 :: S) (hp c w m)) ∧
  (∀ (sc : Nat × (Nat → Int32)) (d mm : Nat) (is : List ma_I) (L : ma_L) (S : List Value) (c m : Nat → Nat → Int32) (w : Nat → Int64) (x : Nat), ev sc d mm ((.getfield x, [4, 1]) :: is) L (.ref 64 :: S) (hp c w m) = ev sc d mm is L (.ref 66 :: S) (hp c w m)) ∧
  (∀ (sc : Nat × (Nat → Int32)) (d mm : Nat) (is : List ma_I) (L : ma_L) (S : List Value) (c m : Nat → Nat → Int32) (w : Nat → Int64) (x : Nat), ev sc d mm ((.getfield x, [4, 2]) :: is) L (.ref 64 :: S) (hp c w m) = ev sc d mm is L (.ref 67 :: S) (hp c w m)) ∧
  (∀ (sc : Nat × (Nat → Int32)) (d mm : Nat) (is : List ma_I) (L : ma_L) (S : List Value) (c m : Nat → Nat → Int32) (w : Nat → Int64) (x : Nat), ev sc d mm ((.getfield x, [4, 3]) :: is) L (.ref 64 :: S) (hp c w m) = ev sc d mm is L (.ref 68 :: S) (hp c w m)) ∧
  (∀ (sc : Nat × (Nat → Int32)) (d mm : Nat) (is : List ma_I) (L : ma_L) (S : List Value) (c m : Nat → Nat → Int32) (w : Nat → Int64) (x : Nat), ev sc d mm ((.getfield x, [4, 4]) :: is) L (.ref 64 :: S) (hp c w m) = ev sc d mm is L (.int (c 64 4) :: S) (hp c w m)) ∧
  (∀ (sc : Nat × (Nat → Int32)) (d mm : Nat) (is : List ma_I) (L : ma_L) (S : List Value) (c m : Nat → Nat → Int32) (w : Nat → Int64) (x : Nat), ev sc d mm ((.getfield x, [4, 5]) :: is) L (.ref 64 :: S) (hp c w m) = ev sc d mm is L (.int (c 64 5) :: S) (hp c w m)) ∧
  (∀ (sc : Nat × (Nat → Int32)) (d mm : Nat) (is : List ma_I) (L : ma_L) (S : List Value) (c m : Nat → Nat → Int32) (w : Nat → Int64) (x : Nat), ev sc d mm ((.getfield x, [4, 6]) :: is) L (.ref 64 :: S) (hp c w m) = ev sc d mm is L (.int (c 64 6) :: S) (hp c w m)) ∧
  (∀ (sc : Nat × (Nat → Int32)) (d mm : Nat) (is : List ma_I) (L : ma_L) (S : List Value) (c m : Nat → Nat → Int32) (w : Nat → Int64) (x : Nat), ev sc d mm ((.getfield x, [4, 7]) :: is) L (.ref 64 :: S) (hp c w m) = ev sc d mm is L (.int (c 64 7) :: S) (hp c w m)) ∧
  (∀ (sc : Nat × (Nat → Int32)) (d mm : Nat) (is : List ma_I) (L : ma_L) (S : List Value) (c m : Nat → Nat → Int32) (w : Nat → Int64) (x : Nat), ev sc d mm ((.getfield x, [4, 8]) :: is) L (.ref 64 :: S) (hp c w m) = ev sc d mm is L (.int (c 64 8) :: S) (hp c w m)) ∧
  (∀ (sc : Nat × (Nat → Int32)) (d mm : Nat) (is : List ma_I) (L : ma_L) (S : List Value) (c m : Nat → Nat → Int32) (w : Nat → Int64) (x : Nat), ev sc d mm ((.getfield x, [4, 0]) :: is) L (.ref 69 :: S) (hp c w m) = ev sc d mm is L (.ref 70 :: S) (hp c w m)) ∧
  (∀ (sc : Nat × (Nat → Int32)) (d mm : Nat) (is : List ma_I) (L : ma_L) (S : List Value) (c m : Nat → Nat → Int32) (w : Nat → Int64) (x : Nat), ev sc d mm ((.getfield x, [4, 1]) :: is) L (.ref 69 :: S) (hp c w m) = ev sc d mm is L (.ref 71 :: S) (hp c w m)) ∧
  (∀ (sc : Nat × (Nat → Int32)) (d mm : Nat) (is : List ma_I) (L : ma_L) (S : List Value) (c m : Nat → Nat → Int32) (w : Nat → Int64) (x : Nat), ev sc d mm ((.getfield x, [4, 2]) :: is) L (.ref 69 :: S) (hp c w m) = ev sc d mm is L (.ref 72 :: S) (hp c w m)) ∧
  (∀ (sc : Nat × (Nat → Int32)) (d mm : Nat) (is : List ma_I) (L : ma_L) (S : List Value) (c m : Nat → Nat → Int32) (w : Nat → Int64) (x : Nat), ev sc d mm ((.getfield x, [4, 3]) :: is) L (.ref 69 :: S) (hp c w m) = ev sc d mm is L (.ref 73 :: S) (hp c w m)) ∧
  (∀ (sc : Nat × (Nat → Int32)) (d mm : Nat) (is : List ma_I) (L : ma_L) (S : List Value) (c m : Nat → Nat → Int32) (w : Nat → Int64) (x : Nat), ev sc d mm ((.getfield x, [4, 4]) :: is) L (.ref 69 :: S) (hp c w m) = ev sc d mm is L (.int (c 69 4) :: S) (hp c w m)) ∧
  (∀ (sc : Nat × (Nat → Int32)) (d mm : Nat) (is : List ma_I) (L : ma_L) (S : List Value) (c m : Nat → Nat → Int32) (w : Nat → Int64) (x : Nat), ev sc d mm ((.getfield x, [4, 5]) :: is) L (.ref 69 :: S) (hp c w m) = ev sc d mm is L (.int (c 69 5) :: S) (hp c w m)) ∧
  (∀ (sc : Nat × (Nat → Int32)) (d mm : Nat) (is : List ma_I) (L : ma_L) (S : List Value) (c m : Nat → Nat → Int32) (w : Nat → Int64) (x : Nat), ev sc d mm ((.getfield x, [4, 6]) :: is) L (.ref 69 :: S) (hp c w m) = ev sc d mm is L (.int (c 69 6) :: S) (hp c w m)) ∧
  (∀ (sc : Nat × (Nat → Int32)) (d mm : Nat) (is : List ma_I) (L : ma_L) (S : List Value) (c m : Nat → Nat → Int32) (w : Nat → Int64) (x : Nat), ev sc d mm ((.getfield x, [4, 7]) :: is) L (.ref 69 :: S) (hp c w m) = ev sc d mm is L (.int (c 69 7) :: S) (hp c w m)) ∧
  (∀ (sc : Nat × (Nat → Int32)) (d mm : Nat) (is : List ma_I) (L : ma_L) (S : List Value) (c m : Nat → Nat → Int32) (w : Nat → Int64) (x : Nat), ev sc d mm ((.getfield x, [4, 8]) :: is) L (.ref 69 :: S) (hp c w m) = ev sc d mm is L (.int (c 69 8) :: S) (hp c w m)) ∧
  (∀ (sc : Nat × (Nat → Int32)) (d mm : Nat) (is : List ma_I) (L : ma_L) (S : List Value) (c m : Nat → Nat → Int32) (w : Nat → Int64) (x : Nat), ev sc d mm ((.getfield x, [4, 0]) :: is) L (.ref 74 :: S) (hp c w m) = ev sc d mm is L (.ref 75 :: S) (hp c w m)) ∧
  (∀ (sc : Nat × (Nat → Int32)) (d mm : Nat) (is : List ma_I) (L : ma_L) (S : List Value) (c m : Nat → Nat → Int32) (w : Nat → Int64) (x : Nat), ev sc d mm ((.getfield x, [4, 1]) :: is) L (.ref 74 :: S) (hp c w m) = ev sc d mm is L (.ref 76 :: S) (hp c w m)) ∧
  (∀ (sc : Nat × (Nat → Int32)) (d mm : Nat) (is : List ma_I) (L : ma_L) (S : List Value) (c m : Nat → Nat → Int32) (w : Nat → Int64) (x : Nat), ev sc d mm ((.getfield x, [4, 2]) :: is) L (.ref 74 :: S) (hp c w m) = ev sc d mm is L (.ref 77 :: S) (hp c w m)) ∧
  (∀ (sc : Nat × (Nat → Int32)) (d mm : Nat) (is : List ma_I) (L : ma_L) (S : List Value) (c m : Nat → Nat → Int32) (w : Nat → Int64) (x : Nat), ev sc d mm ((.getfield x, [4, 3]) :: is) L (.ref 74 :: S) (hp c w m) = ev sc d mm is L (.ref 78 :: S) (hp c w m)) ∧
  (∀ (sc : Nat × (Nat → Int32)) (d mm : Nat) (is : List ma_I) (L : ma_L) (S : List Value) (c m : Nat → Nat → Int32) (w : Nat → Int64) (x : Nat), ev sc d mm ((.getfield x, [4, 4]) :: is) L (.ref 74 :: S) (hp c w m) = ev sc d mm is L (.int (c 74 4) :: S) (hp c w m)) ∧
  (∀ (sc : Nat × (Nat → Int32)) (d mm : Nat) (is : List ma_I) (L : ma_L) (S : List Value) (c m : Nat → Nat → Int32) (w : Nat → Int64) (x : Nat), ev sc d mm ((.getfield x, [4, 5]) :: is) L (.ref 74 :: S) (hp c w m) = ev sc d mm is L (.int (c 74 5) :: S) (hp c w m)) ∧
  (∀ (sc : Nat × (Nat → Int32)) (d mm : Nat) (is : List ma_I) (L : ma_L) (S : List Value) (c m : Nat → Nat → Int32) (w : Nat → Int64) (x : Nat), ev sc d mm ((.getfield x, [4, 6]) :: is) L (.ref 74 :: S) (hp c w m) = ev sc d mm is L (.int (c 74 6) :: S) (hp c w m)) ∧
  (∀ (sc : Nat × (Nat → Int32)) (d mm : Nat) (is : List ma_I) (L : ma_L) (S : List Value) (c m : Nat → Nat → Int32) (w : Nat → Int64) (x : Nat), ev sc d mm ((.getfield x, [4, 7]) :: is) L (.ref 74 :: S) (hp c w m) = ev sc d mm is L (.int (c 74 7) :: S) (hp c w m)) ∧
  (∀ (sc : Nat × (Nat → Int32)) (d mm : Nat) (is : List ma_I) (L : ma_L) (S : List Value) (c m : Nat → Nat → Int32) (w : Nat → Int64) (x : Nat), ev sc d mm ((.getfield x, [4, 8]) :: is) L (.ref 74 :: S) (hp c w m) = ev sc d mm is L (.int (c 74 8) :: S) (hp c w m)) := ⟨fun _ _ _ _ _ _ _ _ _ _ => ev_gf (by decide) rfl rfl,
  fun _ _ _ _ _ _ _ _ _ _ => ev_gf (by decide) rfl rfl,
  fun _ _ _ _ _ _ _ _ _ _ => ev_gf (by decide) rfl rfl,
  fun _ _ _ _ _ _ _ _ _ _ => ev_gf (by decide) rfl rfl,
  fun _ _ _ _ _ _ _ _ _ _ => ev_gf (by decide) rfl rfl,
  fun _ _ _ _ _ _ _ _ _ _ => ev_gf (by decide) rfl rfl,
  fun _ _ _ _ _ _ _ _ _ _ => ev_gf (by decide) rfl rfl,
  fun _ _ _ _ _ _ _ _ _ _ => ev_gf (by decide) rfl rfl,
  fun _ _ _ _ _ _ _ _ _ _ => ev_gf (by decide) rfl rfl,
  fun _ _ _ _ _ _ _ _ _ _ => ev_gf (by decide) rfl rfl,
  fun _ _ _ _ _ _ _ _ _ _ => ev_gf (by decide) rfl rfl,
  fun _ _ _ _ _ _ _ _ _ _ => ev_gf (by decide) rfl rfl,
  fun _ _ _ _ _ _ _ _ _ _ => ev_gf (by decide) rfl rfl,
  fun _ _ _ _ _ _ _ _ _ _ => ev_gf (by decide) rfl rfl,
  fun _ _ _ _ _ _ _ _ _ _ => ev_gf (by decide) rfl rfl,
  fun _ _ _ _ _ _ _ _ _ _ => ev_gf (by decide) rfl rfl,
  fun _ _ _ _ _ _ _ _ _ _ => ev_gf (by decide) rfl rfl,
  fun _ _ _ _ _ _ _ _ _ _ => ev_gf (by decide) rfl rfl,
  fun _ _ _ _ _ _ _ _ _ _ => ev_gf (by decide) rfl rfl,
  fun _ _ _ _ _ _ _ _ _ _ => ev_gf (by decide) rfl rfl,
  fun _ _ _ _ _ _ _ _ _ _ => ev_gf (by decide) rfl rfl,
  fun _ _ _ _ _ _ _ _ _ _ => ev_gf (by decide) rfl rfl,
  fun _ _ _ _ _ _ _ _ _ _ => ev_gf (by decide) rfl rfl,
  fun _ _ _ _ _ _ _ _ _ _ => ev_gf (by decide) rfl rfl,
  fun _ _ _ _ _ _ _ _ _ _ => ev_gf (by decide) rfl rfl,
  fun _ _ _ _ _ _ _ _ _ _ => ev_gf (by decide) rfl rfl,
  fun _ _ _ _ _ _ _ _ _ _ => ev_gf (by decide) rfl rfl,
  fun _ _ _ _ _ _ _ _ _ _ => ev_gf (by decide) rfl rfl,
  fun _ _ _ _ _ _ _ _ _ _ => ev_gf (by decide) rfl rfl,
  fun _ _ _ _ _ _ _ _ _ _ => ev_gf (by decide) rfl rfl,
  fun _ _ _ _ _ _ _ _ _ _ => ev_gf (by decide) rfl rfl,
  fun _ _ _ _ _ _ _ _ _ _ => ev_gf (by decide) rfl rfl,
  fun _ _ _ _ _ _ _ _ _ _ => ev_gf (by decide) rfl rfl,
  fun _ _ _ _ _ _ _ _ _ _ => ev_gf (by decide) rfl rfl,
  fun _ _ _ _ _ _ _ _ _ _ => ev_gf (by decide) rfl rfl,
  fun _ _ _ _ _ _ _ _ _ _ => ev_gf (by decide) rfl rfl,
  fun _ _ _ _ _ _ _ _ _ _ => ev_gf (by decide) rfl rfl,
  fun _ _ _ _ _ _ _ _ _ _ => ev_gf (by decide) rfl rfl,
  fun _ _ _ _ _ _ _ _ _ _ => ev_gf (by decide) rfl rfl,
  fun _ _ _ _ _ _ _ _ _ _ => ev_gf (by decide) rfl rfl,
  fun _ _ _ _ _ _ _ _ _ _ => ev_gf (by decide) rfl rfl,
  fun _ _ _ _ _ _ _ _ _ _ => ev_gf (by decide) rfl rfl,
  fun _ _ _ _ _ _ _ _ _ _ => ev_gf (by decide) rfl rfl,
  fun _ _ _ _ _ _ _ _ _ _ => ev_gf (by decide) rfl rfl,
  fun _ _ _ _ _ _ _ _ _ _ => ev_gf (by decide) rfl rfl,
  fun _ _ _ _ _ _ _ _ _ _ => ev_gf (by decide) rfl rfl,
  fun _ _ _ _ _ _ _ _ _ _ => ev_gf (by decide) rfl rfl,
  fun _ _ _ _ _ _ _ _ _ _ => ev_gf (by decide) rfl rfl,
  fun _ _ _ _ _ _ _ _ _ _ => ev_gf (by decide) rfl rfl,
  fun _ _ _ _ _ _ _ _ _ _ => ev_gf (by decide) rfl rfl,
  fun _ _ _ _ _ _ _ _ _ _ => ev_gf (by decide) rfl rfl,
  fun _ _ _ _ _ _ _ _ _ _ => ev_gf (by decide) rfl rfl,
  fun _ _ _ _ _ _ _ _ _ _ => ev_gf (by decide) rfl rfl,
  fun _ _ _ _ _ _ _ _ _ _ => ev_gf (by decide) rfl rfl⟩
theorem pfK : (∀ (sc : Nat × (Nat → Int32)) (d mm : Nat) (is : List ma_I) (L : ma_L) (S : List Value) (c m : Nat → Nat → Int32) (w : Nat → Int64) (x : Nat) (v : Int32), ev sc d mm ((.putfield x, [4, 4, 0]) :: is) L (.int v :: .ref 49 :: S) (hp c w m) = ev sc d mm is L S (hp (va_up c 49 (upd (c 49) 4 v)) w m)) ∧
  (∀ (sc : Nat × (Nat → Int32)) (d mm : Nat) (is : List ma_I) (L : ma_L) (S : List Value) (c m : Nat → Nat → Int32) (w : Nat → Int64) (x : Nat) (v : Int32), ev sc d mm ((.putfield x, [4, 5, 0]) :: is) L (.int v :: .ref 49 :: S) (hp c w m) = ev sc d mm is L S (hp (va_up c 49 (upd (c 49) 5 v)) w m)) ∧
  (∀ (sc : Nat × (Nat → Int32)) (d mm : Nat) (is : List ma_I) (L : ma_L) (S : List Value) (c m : Nat → Nat → Int32) (w : Nat → Int64) (x : Nat) (v : Int32), ev sc d mm ((.putfield x, [4, 6, 0]) :: is) L (.int v :: .ref 49 :: S) (hp c w m) = ev sc d mm is L S (hp (va_up c 49 (upd (c 49) 6 v)) w m)) ∧
  (∀ (sc : Nat × (Nat → Int32)) (d mm : Nat) (is : List ma_I) (L : ma_L) (S : List Value) (c m : Nat → Nat → Int32) (w : Nat → Int64) (x : Nat) (v : Int32), ev sc d mm ((.putfield x, [4, 7, 0]) :: is) L (.int v :: .ref 49 :: S) (hp c w m) = ev sc d mm is L S (hp (va_up c 49 (upd (c 49) 7 v)) w m)) ∧
  (∀ (sc : Nat × (Nat → Int32)) (d mm : Nat) (is : List ma_I) (L : ma_L) (S : List Value) (c m : Nat → Nat → Int32) (w : Nat → Int64) (x : Nat) (v : Int32), ev sc d mm ((.putfield x, [4, 8, 0]) :: is) L (.int v :: .ref 49 :: S) (hp c w m) = ev sc d mm is L S (hp (va_up c 49 (upd (c 49) 8 v)) w m)) ∧
  (∀ (sc : Nat × (Nat → Int32)) (d mm : Nat) (is : List ma_I) (L : ma_L) (S : List Value) (c m : Nat → Nat → Int32) (w : Nat → Int64) (x : Nat) (v : Int32), ev sc d mm ((.putfield x, [4, 4, 0]) :: is) L (.int v :: .ref 54 :: S) (hp c w m) = ev sc d mm is L S (hp (va_up c 54 (upd (c 54) 4 v)) w m)) ∧
  (∀ (sc : Nat × (Nat → Int32)) (d mm : Nat) (is : List ma_I) (L : ma_L) (S : List Value) (c m : Nat → Nat → Int32) (w : Nat → Int64) (x : Nat) (v : Int32), ev sc d mm ((.putfield x, [4, 5, 0]) :: is) L (.int v :: .ref 54 :: S) (hp c w m) = ev sc d mm is L S (hp (va_up c 54 (upd (c 54) 5 v)) w m)) ∧
  (∀ (sc : Nat × (Nat → Int32)) (d mm : Nat) (is : List ma_I) (L : ma_L) (S : List Value) (c m : Nat → Nat → Int32) (w : Nat → Int64) (x : Nat) (v : Int32), ev sc d mm ((.putfield x, [4, 6, 0]) :: is) L (.int v :: .ref 54 :: S) (hp c w m) = ev sc d mm is L S (hp (va_up c 54 (upd (c 54) 6 v)) w m)) ∧
  (∀ (sc : Nat × (Nat → Int32)) (d mm : Nat) (is : List ma_I) (L : ma_L) (S : List Value) (c m : Nat → Nat → Int32) (w : Nat → Int64) (x : Nat) (v : Int32), ev sc d mm ((.putfield x, [4, 7, 0]) :: is) L (.int v :: .ref 54 :: S) (hp c w m) = ev sc d mm is L S (hp (va_up c 54 (upd (c 54) 7 v)) w m)) ∧
  (∀ (sc : Nat × (Nat → Int32)) (d mm : Nat) (is : List ma_I) (L : ma_L) (S : List Value) (c m : Nat → Nat → Int32) (w : Nat → Int64) (x : Nat) (v : Int32), ev sc d mm ((.putfield x, [4, 8, 0]) :: is) L (.int v :: .ref 54 :: S) (hp c w m) = ev sc d mm is L S (hp (va_up c 54 (upd (c 54) 8 v)) w m)) ∧
  (∀ (sc : Nat × (Nat → Int32)) (d mm : Nat) (is : List ma_I) (L : ma_L) (S : List Value) (c m : Nat → Nat → Int32) (w : Nat → Int64) (x : Nat) (v : Int32), ev sc d mm ((.putfield x, [4, 4, 0]) :: is) L (.int v :: .ref 59 :: S) (hp c w m) = ev sc d mm is L S (hp (va_up c 59 (upd (c 59) 4 v)) w m)) ∧
  (∀ (sc : Nat × (Nat → Int32)) (d mm : Nat) (is : List ma_I) (L : ma_L) (S : List Value) (c m : Nat → Nat → Int32) (w : Nat → Int64) (x : Nat) (v : Int32), ev sc d mm ((.putfield x, [4, 5, 0]) :: is) L (.int v :: .ref 59 :: S) (hp c w m) = ev sc d mm is L S (hp (va_up c 59 (upd (c 59) 5 v)) w m)) ∧
  (∀ (sc : Nat × (Nat → Int32)) (d mm : Nat) (is : List ma_I) (L : ma_L) (S : List Value) (c m : Nat → Nat → Int32) (w : Nat → Int64) (x : Nat) (v : Int32), ev sc d mm ((.putfield x, [4, 6, 0]) :: is) L (.int v :: .ref 59 :: S) (hp c w m) = ev sc d mm is L S (hp (va_up c 59 (upd (c 59) 6 v)) w m)) ∧
  (∀ (sc : Nat × (Nat → Int32)) (d mm : Nat) (is : List ma_I) (L : ma_L) (S : List Value) (c m : Nat → Nat → Int32) (w : Nat → Int64) (x : Nat) (v : Int32), ev sc d mm ((.putfield x, [4, 7, 0]) :: is) L (.int v :: .ref 59 :: S) (hp c w m) = ev sc d mm is L S (hp (va_up c 59 (upd (c 59) 7 v)) w m)) ∧
  (∀ (sc : Nat × (Nat → Int32)) (d mm : Nat) (is : List ma_I) (L : ma_L) (S : List Value) (c m : Nat → Nat → Int32) (w : Nat → Int64) (x : Nat) (v : Int32), ev sc d mm ((.putfield x, [4, 8, 0]) :: is) L (.int v :: .ref 59 :: S) (hp c w m) = ev sc d mm is L S (hp (va_up c 59 (upd (c 59) 8 v)) w m)) ∧
  (∀ (sc : Nat × (Nat → Int32)) (d mm : Nat) (is : List ma_I) (L : ma_L) (S : List Value) (c m : Nat → Nat → Int32) (w : Nat → Int64) (x : Nat) (v : Int32), ev sc d mm ((.putfield x, [4, 4, 0]) :: is) L (.int v :: .ref 64 :: S) (hp c w m) = ev sc d mm is L S (hp (va_up c 64 (upd (c 64) 4 v)) w m)) ∧
  (∀ (sc : Nat × (Nat → Int32)) (d mm : Nat) (is : List ma_I) (L : ma_L) (S : List Value) (c m : Nat → Nat → Int32) (w : Nat → Int64) (x : Nat) (v : Int32), ev sc d mm ((.putfield x, [4, 5, 0]) :: is) L (.int v :: .ref 64 :: S) (hp c w m) = ev sc d mm is L S (hp (va_up c 64 (upd (c 64) 5 v)) w m)) ∧
  (∀ (sc : Nat × (Nat → Int32)) (d mm : Nat) (is : List ma_I) (L : ma_L) (S : List Value) (c m : Nat → Nat → Int32) (w : Nat → Int64) (x : Nat) (v : Int32), ev sc d mm ((.putfield x, [4, 6, 0]) :: is) L (.int v :: .ref 64 :: S) (hp c w m) = ev sc d mm is L S (hp (va_up c 64 (upd (c 64) 6 v)) w m)) ∧
  (∀ (sc : Nat × (Nat → Int32)) (d mm : Nat) (is : List ma_I) (L : ma_L) (S : List Value) (c m : Nat → Nat → Int32) (w : Nat → Int64) (x : Nat) (v : Int32), ev sc d mm ((.putfield x, [4, 7, 0]) :: is) L (.int v :: .ref 64 :: S) (hp c w m) = ev sc d mm is L S (hp (va_up c 64 (upd (c 64) 7 v)) w m)) ∧
  (∀ (sc : Nat × (Nat → Int32)) (d mm : Nat) (is : List ma_I) (L : ma_L) (S : List Value) (c m : Nat → Nat → Int32) (w : Nat → Int64) (x : Nat) (v : Int32), ev sc d mm ((.putfield x, [4, 8, 0]) :: is) L (.int v :: .ref 64 :: S) (hp c w m) = ev sc d mm is L S (hp (va_up c 64 (upd (c 64) 8 v)) w m)) ∧
  (∀ (sc : Nat × (Nat → Int32)) (d mm : Nat) (is : List ma_I) (L : ma_L) (S : List Value) (c m : Nat → Nat → Int32) (w : Nat → Int64) (x : Nat) (v : Int32), ev sc d mm ((.putfield x, [4, 4, 0]) :: is) L (.int v :: .ref 69 :: S) (hp c w m) = ev sc d mm is L S (hp (va_up c 69 (upd (c 69) 4 v)) w m)) ∧
  (∀ (sc : Nat × (Nat → Int32)) (d mm : Nat) (is : List ma_I) (L : ma_L) (S : List Value) (c m : Nat → Nat → Int32) (w : Nat → Int64) (x : Nat) (v : Int32), ev sc d mm ((.putfield x, [4, 5, 0]) :: is) L (.int v :: .ref 69 :: S) (hp c w m) = ev sc d mm is L S (hp (va_up c 69 (upd (c 69) 5 v)) w m)) ∧
  (∀ (sc : Nat × (Nat → Int32)) (d mm : Nat) (is : List ma_I) (L : ma_L) (S : List Value) (c m : Nat → Nat → Int32) (w : Nat → Int64) (x : Nat) (v : Int32), ev sc d mm ((.putfield x, [4, 6, 0]) :: is) L (.int v :: .ref 69 :: S) (hp c w m) = ev sc d mm is L S (hp (va_up c 69 (upd (c 69) 6 v)) w m)) ∧
  (∀ (sc : Nat × (Nat → Int32)) (d mm : Nat) (is : List ma_I) (L : ma_L) (S : List Value) (c m : Nat → Nat → Int32) (w : Nat → Int64) (x : Nat) (v : Int32), ev sc d mm ((.putfield x, [4, 7, 0]) :: is) L (.int v :: .ref 69 :: S) (hp c w m) = ev sc d mm is L S (hp (va_up c 69 (upd (c 69) 7 v)) w m)) ∧
  (∀ (sc : Nat × (Nat → Int32)) (d mm : Nat) (is : List ma_I) (L : ma_L) (S : List Value) (c m : Nat → Nat → Int32) (w : Nat → Int64) (x : Nat) (v : Int32), ev sc d mm ((.putfield x, [4, 8, 0]) :: is) L (.int v :: .ref 69 :: S) (hp c w m) = ev sc d mm is L S (hp (va_up c 69 (upd (c 69) 8 v)) w m)) ∧
  (∀ (sc : Nat × (Nat → Int32)) (d mm : Nat) (is : List ma_I) (L : ma_L) (S : List Value) (c m : Nat → Nat → Int32) (w : Nat → Int64) (x : Nat) (v : Int32), ev sc d mm ((.putfield x, [4, 4, 0]) :: is) L (.int v :: .ref 74 :: S) (hp c w m) = ev sc d mm is L S (hp (va_up c 74 (upd (c 74) 4 v)) w m)) ∧
  (∀ (sc : Nat × (Nat → Int32)) (d mm : Nat) (is : List ma_I) (L : ma_L) (S : List Value) (c m : Nat → Nat → Int32) (w : Nat → Int64) (x : Nat) (v : Int32), ev sc d mm ((.putfield x, [4, 5, 0]) :: is) L (.int v :: .ref 74 :: S) (hp c w m) = ev sc d mm is L S (hp (va_up c 74 (upd (c 74) 5 v)) w m)) ∧
  (∀ (sc : Nat × (Nat → Int32)) (d mm : Nat) (is : List ma_I) (L : ma_L) (S : List Value) (c m : Nat → Nat → Int32) (w : Nat → Int64) (x : Nat) (v : Int32), ev sc d mm ((.putfield x, [4, 6, 0]) :: is) L (.int v :: .ref 74 :: S) (hp c w m) = ev sc d mm is L S (hp (va_up c 74 (upd (c 74) 6 v)) w m)) ∧
  (∀ (sc : Nat × (Nat → Int32)) (d mm : Nat) (is : List ma_I) (L : ma_L) (S : List Value) (c m : Nat → Nat → Int32) (w : Nat → Int64) (x : Nat) (v : Int32), ev sc d mm ((.putfield x, [4, 7, 0]) :: is) L (.int v :: .ref 74 :: S) (hp c w m) = ev sc d mm is L S (hp (va_up c 74 (upd (c 74) 7 v)) w m)) ∧
  (∀ (sc : Nat × (Nat → Int32)) (d mm : Nat) (is : List ma_I) (L : ma_L) (S : List Value) (c m : Nat → Nat → Int32) (w : Nat → Int64) (x : Nat) (v : Int32), ev sc d mm ((.putfield x, [4, 8, 0]) :: is) L (.int v :: .ref 74 :: S) (hp c w m) = ev sc d mm is L S (hp (va_up c 74 (upd (c 74) 8 v)) w m)) := ⟨fun _ _ _ _ _ _ _ _ _ _ _ => ev_pfC _ (by decide) rfl rfl rfl rfl,
  fun _ _ _ _ _ _ _ _ _ _ _ => ev_pfC _ (by decide) rfl rfl rfl rfl,
  fun _ _ _ _ _ _ _ _ _ _ _ => ev_pfC _ (by decide) rfl rfl rfl rfl,
  fun _ _ _ _ _ _ _ _ _ _ _ => ev_pfC _ (by decide) rfl rfl rfl rfl,
  fun _ _ _ _ _ _ _ _ _ _ _ => ev_pfC _ (by decide) rfl rfl rfl rfl,
  fun _ _ _ _ _ _ _ _ _ _ _ => ev_pfC _ (by decide) rfl rfl rfl rfl,
  fun _ _ _ _ _ _ _ _ _ _ _ => ev_pfC _ (by decide) rfl rfl rfl rfl,
  fun _ _ _ _ _ _ _ _ _ _ _ => ev_pfC _ (by decide) rfl rfl rfl rfl,
  fun _ _ _ _ _ _ _ _ _ _ _ => ev_pfC _ (by decide) rfl rfl rfl rfl,
  fun _ _ _ _ _ _ _ _ _ _ _ => ev_pfC _ (by decide) rfl rfl rfl rfl,
  fun _ _ _ _ _ _ _ _ _ _ _ => ev_pfC _ (by decide) rfl rfl rfl rfl,
  fun _ _ _ _ _ _ _ _ _ _ _ => ev_pfC _ (by decide) rfl rfl rfl rfl,
  fun _ _ _ _ _ _ _ _ _ _ _ => ev_pfC _ (by decide) rfl rfl rfl rfl,
  fun _ _ _ _ _ _ _ _ _ _ _ => ev_pfC _ (by decide) rfl rfl rfl rfl,
  fun _ _ _ _ _ _ _ _ _ _ _ => ev_pfC _ (by decide) rfl rfl rfl rfl,
  fun _ _ _ _ _ _ _ _ _ _ _ => ev_pfC _ (by decide) rfl rfl rfl rfl,
  fun _ _ _ _ _ _ _ _ _ _ _ => ev_pfC _ (by decide) rfl rfl rfl rfl,
  fun _ _ _ _ _ _ _ _ _ _ _ => ev_pfC _ (by decide) rfl rfl rfl rfl,
  fun _ _ _ _ _ _ _ _ _ _ _ => ev_pfC _ (by decide) rfl rfl rfl rfl,
  fun _ _ _ _ _ _ _ _ _ _ _ => ev_pfC _ (by decide) rfl rfl rfl rfl,
  fun _ _ _ _ _ _ _ _ _ _ _ => ev_pfC _ (by decide) rfl rfl rfl rfl,
  fun _ _ _ _ _ _ _ _ _ _ _ => ev_pfC _ (by decide) rfl rfl rfl rfl,
  fun _ _ _ _ _ _ _ _ _ _ _ => ev_pfC _ (by decide) rfl rfl rfl rfl,
  fun _ _ _ _ _ _ _ _ _ _ _ => ev_pfC _ (by decide) rfl rfl rfl rfl,
  fun _ _ _ _ _ _ _ _ _ _ _ => ev_pfC _ (by decide) rfl rfl rfl rfl,
  fun _ _ _ _ _ _ _ _ _ _ _ => ev_pfC _ (by decide) rfl rfl rfl rfl,
  fun _ _ _ _ _ _ _ _ _ _ _ => ev_pfC _ (by decide) rfl rfl rfl rfl,
  fun _ _ _ _ _ _ _ _ _ _ _ => ev_pfC _ (by decide) rfl rfl rfl rfl,
  fun _ _ _ _ _ _ _ _ _ _ _ => ev_pfC _ (by decide) rfl rfl rfl rfl,
  fun _ _ _ _ _ _ _ _ _ _ _ => ev_pfC _ (by decide) rfl rfl rfl rfl⟩
theorem gfM : (∀ (sc : Nat × (Nat → Int32)) (d mm : Nat) (is : List ma_I) (L : ma_L) (S : List Value) (c m : Nat → Nat → Int32) (w : Nat → Int64) (x : Nat), ev sc d mm ((.getfield x, [12, 0]) :: is) L (.ref 138 :: S) (hp c w m) = ev sc d mm is L (.int (m 138 0) :: S) (hp c w m)) ∧
  (∀ (sc : Nat × (Nat → Int32)) (d mm : Nat) (is : List ma_I) (L : ma_L) (S : List Value) (c m : Nat → Nat → Int32) (w : Nat → Int64) (x : Nat), ev sc d mm ((.getfield x, [12, 1]) :: is) L (.ref 138 :: S) (hp c w m) = ev sc d mm is L (.ref 139 :: S) (hp c w m)) ∧
  (∀ (sc : Nat × (Nat → Int32)) (d mm : Nat) (is : List ma_I) (L : ma_L) (S : List Value) (c m : Nat → Nat → Int32) (w : Nat → Int64) (x : Nat), ev sc d mm ((.getfield x, [12, 2]) :: is) L (.ref 138 :: S) (hp c w m) = ev sc d mm is L (.ref 140 :: S) (hp c w m)) ∧
  (∀ (sc : Nat × (Nat → Int32)) (d mm : Nat) (is : List ma_I) (L : ma_L) (S : List Value) (c m : Nat → Nat → Int32) (w : Nat → Int64) (x : Nat), ev sc d mm ((.getfield x, [12, 3]) :: is) L (.ref 138 :: S) (hp c w m) = ev sc d mm is L (.int (m 138 3) :: S) (hp c w m)) ∧
  (∀ (sc : Nat × (Nat → Int32)) (d mm : Nat) (is : List ma_I) (L : ma_L) (S : List Value) (c m : Nat → Nat → Int32) (w : Nat → Int64) (x : Nat), ev sc d mm ((.getfield x, [12, 4]) :: is) L (.ref 138 :: S) (hp c w m) = ev sc d mm is L (.ref 141 :: S) (hp c w m)) ∧
  (∀ (sc : Nat × (Nat → Int32)) (d mm : Nat) (is : List ma_I) (L : ma_L) (S : List Value) (c m : Nat → Nat → Int32) (w : Nat → Int64) (x : Nat), ev sc d mm ((.getfield x, [12, 5]) :: is) L (.ref 138 :: S) (hp c w m) = ev sc d mm is L (.int (m 138 5) :: S) (hp c w m)) ∧
  (∀ (sc : Nat × (Nat → Int32)) (d mm : Nat) (is : List ma_I) (L : ma_L) (S : List Value) (c m : Nat → Nat → Int32) (w : Nat → Int64) (x : Nat), ev sc d mm ((.getfield x, [12, 6]) :: is) L (.ref 138 :: S) (hp c w m) = ev sc d mm is L (.int (m 138 6) :: S) (hp c w m)) ∧
  (∀ (sc : Nat × (Nat → Int32)) (d mm : Nat) (is : List ma_I) (L : ma_L) (S : List Value) (c m : Nat → Nat → Int32) (w : Nat → Int64) (x : Nat), ev sc d mm ((.getfield x, [12, 7]) :: is) L (.ref 138 :: S) (hp c w m) = ev sc d mm is L (.int (m 138 7) :: S) (hp c w m)) ∧
  (∀ (sc : Nat × (Nat → Int32)) (d mm : Nat) (is : List ma_I) (L : ma_L) (S : List Value) (c m : Nat → Nat → Int32) (w : Nat → Int64) (x : Nat), ev sc d mm ((.getfield x, [12, 8]) :: is) L (.ref 138 :: S) (hp c w m) = ev sc d mm is L (.int (m 138 8) :: S) (hp c w m)) ∧
  (∀ (sc : Nat × (Nat → Int32)) (d mm : Nat) (is : List ma_I) (L : ma_L) (S : List Value) (c m : Nat → Nat → Int32) (w : Nat → Int64) (x : Nat), ev sc d mm ((.getfield x, [12, 9]) :: is) L (.ref 138 :: S) (hp c w m) = ev sc d mm is L (.int (m 138 9) :: S) (hp c w m)) ∧
  (∀ (sc : Nat × (Nat → Int32)) (d mm : Nat) (is : List ma_I) (L : ma_L) (S : List Value) (c m : Nat → Nat → Int32) (w : Nat → Int64) (x : Nat), ev sc d mm ((.getfield x, [12, 10]) :: is) L (.ref 138 :: S) (hp c w m) = ev sc d mm is L (.int (m 138 10) :: S) (hp c w m)) ∧
  (∀ (sc : Nat × (Nat → Int32)) (d mm : Nat) (is : List ma_I) (L : ma_L) (S : List Value) (c m : Nat → Nat → Int32) (w : Nat → Int64) (x : Nat), ev sc d mm ((.getfield x, [12, 11]) :: is) L (.ref 138 :: S) (hp c w m) = ev sc d mm is L (.ref 142 :: S) (hp c w m)) ∧
  (∀ (sc : Nat × (Nat → Int32)) (d mm : Nat) (is : List ma_I) (L : ma_L) (S : List Value) (c m : Nat → Nat → Int32) (w : Nat → Int64) (x : Nat), ev sc d mm ((.getfield x, [12, 12]) :: is) L (.ref 138 :: S) (hp c w m) = ev sc d mm is L (.ref 143 :: S) (hp c w m)) ∧
  (∀ (sc : Nat × (Nat → Int32)) (d mm : Nat) (is : List ma_I) (L : ma_L) (S : List Value) (c m : Nat → Nat → Int32) (w : Nat → Int64) (x : Nat), ev sc d mm ((.getfield x, [12, 13]) :: is) L (.ref 138 :: S) (hp c w m) = ev sc d mm is L (.ref 144 :: S) (hp c w m)) ∧
  (∀ (sc : Nat × (Nat → Int32)) (d mm : Nat) (is : List ma_I) (L : ma_L) (S : List Value) (c m : Nat → Nat → Int32) (w : Nat → Int64) (x : Nat), ev sc d mm ((.getfield x, [12, 14]) :: is) L (.ref 138 :: S) (hp c w m) = ev sc d mm is L (.ref 145 :: S) (hp c w m)) ∧
  (∀ (sc : Nat × (Nat → Int32)) (d mm : Nat) (is : List ma_I) (L : ma_L) (S : List Value) (c m : Nat → Nat → Int32) (w : Nat → Int64) (x : Nat), ev sc d mm ((.getfield x, [12, 15]) :: is) L (.ref 138 :: S) (hp c w m) = ev sc d mm is L (.ref 146 :: S) (hp c w m)) ∧
  (∀ (sc : Nat × (Nat → Int32)) (d mm : Nat) (is : List ma_I) (L : ma_L) (S : List Value) (c m : Nat → Nat → Int32) (w : Nat → Int64) (x : Nat), ev sc d mm ((.getfield x, [12, 16]) :: is) L (.ref 138 :: S) (hp c w m) = ev sc d mm is L (.int (m 138 16) :: S) (hp c w m)) ∧
  (∀ (sc : Nat × (Nat → Int32)) (d mm : Nat) (is : List ma_I) (L : ma_L) (S : List Value) (c m : Nat → Nat → Int32) (w : Nat → Int64) (x : Nat), ev sc d mm ((.getfield x, [12, 17]) :: is) L (.ref 138 :: S) (hp c w m) = ev sc d mm is L (.int (m 138 17) :: S) (hp c w m)) ∧
  (∀ (sc : Nat × (Nat → Int32)) (d mm : Nat) (is : List ma_I) (L : ma_L) (S : List Value) (c m : Nat → Nat → Int32) (w : Nat → Int64) (x : Nat), ev sc d mm ((.getfield x, [12, 18]) :: is) L (.ref 138 :: S) (hp c w m) = ev sc d mm is L (.int (m 138 18) :: S) (hp c w m)) ∧
  (∀ (sc : Nat × (Nat → Int32)) (d mm : Nat) (is : List ma_I) (L : ma_L) (S : List Value) (c m : Nat → Nat → Int32) (w : Nat → Int64) (x : Nat), ev sc d mm ((.getfield x, [12, 19]) :: is) L (.ref 138 :: S) (hp c w m) = ev sc d mm is L (.int (m 138 19) :: S) (hp c w m)) ∧
  (∀ (sc : Nat × (Nat → Int32)) (d mm : Nat) (is : List ma_I) (L : ma_L) (S : List Value) (c m : Nat → Nat → Int32) (w : Nat → Int64) (x : Nat), ev sc d mm ((.getfield x, [12, 20]) :: is) L (.ref 138 :: S) (hp c w m) = ev sc d mm is L (.int (m 138 20) :: S) (hp c w m)) ∧
  (∀ (sc : Nat × (Nat → Int32)) (d mm : Nat) (is : List ma_I) (L : ma_L) (S : List Value) (c m : Nat → Nat → Int32) (w : Nat → Int64) (x : Nat), ev sc d mm ((.getfield x, [12, 21]) :: is) L (.ref 138 :: S) (hp c w m) = ev sc d mm is L (.ref 147 :: S) (hp c w m)) ∧
  (∀ (sc : Nat × (Nat → Int32)) (d mm : Nat) (is : List ma_I) (L : ma_L) (S : List Value) (c m : Nat → Nat → Int32) (w : Nat → Int64) (x : Nat), ev sc d mm ((.getfield x, [12, 22]) :: is) L (.ref 138 :: S) (hp c w m) = ev sc d mm is L (.ref 148 :: S) (hp c w m)) ∧
  (∀ (sc : Nat × (Nat → Int32)) (d mm : Nat) (is : List ma_I) (L : ma_L) (S : List Value) (c m : Nat → Nat → Int32) (w : Nat → Int64) (x : Nat), ev sc d mm ((.getfield x, [12, 23]) :: is) L (.ref 138 :: S) (hp c w m) = ev sc d mm is L (.ref 149 :: S) (hp c w m)) ∧
  (∀ (sc : Nat × (Nat → Int32)) (d mm : Nat) (is : List ma_I) (L : ma_L) (S : List Value) (c m : Nat → Nat → Int32) (w : Nat → Int64) (x : Nat), ev sc d mm ((.getfield x, [12, 24]) :: is) L (.ref 138 :: S) (hp c w m) = ev sc d mm is L (.ref 150 :: S) (hp c w m)) ∧
  (∀ (sc : Nat × (Nat → Int32)) (d mm : Nat) (is : List ma_I) (L : ma_L) (S : List Value) (c m : Nat → Nat → Int32) (w : Nat → Int64) (x : Nat), ev sc d mm ((.getfield x, [12, 25]) :: is) L (.ref 138 :: S) (hp c w m) = ev sc d mm is L (.ref 151 :: S) (hp c w m)) ∧
  (∀ (sc : Nat × (Nat → Int32)) (d mm : Nat) (is : List ma_I) (L : ma_L) (S : List Value) (c m : Nat → Nat → Int32) (w : Nat → Int64) (x : Nat), ev sc d mm ((.getfield x, [12, 26]) :: is) L (.ref 138 :: S) (hp c w m) = ev sc d mm is L (.ref 152 :: S) (hp c w m)) ∧
  (∀ (sc : Nat × (Nat → Int32)) (d mm : Nat) (is : List ma_I) (L : ma_L) (S : List Value) (c m : Nat → Nat → Int32) (w : Nat → Int64) (x : Nat), ev sc d mm ((.getfield x, [12, 27]) :: is) L (.ref 138 :: S) (hp c w m) = ev sc d mm is L (.ref 153 :: S) (hp c w m)) ∧
  (∀ (sc : Nat × (Nat → Int32)) (d mm : Nat) (is : List ma_I) (L : ma_L) (S : List Value) (c m : Nat → Nat → Int32) (w : Nat → Int64) (x : Nat), ev sc d mm ((.getfield x, [12, 28]) :: is) L (.ref 138 :: S) (hp c w m) = ev sc d mm is L (.ref 154 :: S) (hp c w m)) ∧
  (∀ (sc : Nat × (Nat → Int32)) (d mm : Nat) (is : List ma_I) (L : ma_L) (S : List Value) (c m : Nat → Nat → Int32) (w : Nat → Int64) (x : Nat), ev sc d mm ((.getfield x, [12, 29]) :: is) L (.ref 138 :: S) (hp c w m) = ev sc d mm is L (.int (m 138 29) :: S) (hp c w m)) ∧
  (∀ (sc : Nat × (Nat → Int32)) (d mm : Nat) (is : List ma_I) (L : ma_L) (S : List Value) (c m : Nat → Nat → Int32) (w : Nat → Int64) (x : Nat), ev sc d mm ((.getfield x, [12, 30]) :: is) L (.ref 138 :: S) (hp c w m) = ev sc d mm is L (.int (m 138 30) :: S) (hp c w m)) ∧
  (∀ (sc : Nat × (Nat → Int32)) (d mm : Nat) (is : List ma_I) (L : ma_L) (S : List Value) (c m : Nat → Nat → Int32) (w : Nat → Int64) (x : Nat), ev sc d mm ((.getfield x, [12, 31]) :: is) L (.ref 138 :: S) (hp c w m) = ev sc d mm is L (.int (m 138 31) :: S) (hp c w m)) ∧
  (∀ (sc : Nat × (Nat → Int32)) (d mm : Nat) (is : List ma_I) (L : ma_L) (S : List Value) (c m : Nat → Nat → Int32) (w : Nat → Int64) (x : Nat), ev sc d mm ((.getfield x, [12, 32]) :: is) L (.ref 138 :: S) (hp c w m) = ev sc d mm is L (.ref 155 :: S) (hp c w m)) ∧
  (∀ (sc : Nat × (Nat → Int32)) (d mm : Nat) (is : List ma_I) (L : ma_L) (S : List Value) (c m : Nat → Nat → Int32) (w : Nat → Int64) (x : Nat), ev sc d mm ((.getfield x, [12, 33]) :: is) L (.ref 138 :: S) (hp c w m) = ev sc d mm is L (.int (m 138 33) :: S) (hp c w m)) ∧
  (∀ (sc : Nat × (Nat → Int32)) (d mm : Nat) (is : List ma_I) (L : ma_L) (S : List Value) (c m : Nat → Nat → Int32) (w : Nat → Int64) (x : Nat), ev sc d mm ((.getfield x, [12, 34]) :: is) L (.ref 138 :: S) (hp c w m) = ev sc d mm is L (.int (m 138 34) :: S) (hp c w m)) ∧
  (∀ (sc : Nat × (Nat → Int32)) (d mm : Nat) (is : List ma_I) (L : ma_L) (S : List Value) (c m : Nat → Nat → Int32) (w : Nat → Int64) (x : Nat), ev sc d mm ((.getfield x, [12, 35]) :: is) L (.ref 138 :: S) (hp c w m) = ev sc d mm is L (.int (m 138 35) :: S) (hp c w m)) ∧
  (∀ (sc : Nat × (Nat → Int32)) (d mm : Nat) (is : List ma_I) (L : ma_L) (S : List Value) (c m : Nat → Nat → Int32) (w : Nat → Int64) (x : Nat), ev sc d mm ((.getfield x, [12, 36]) :: is) L (.ref 138 :: S) (hp c w m) = ev sc d mm is L (.int (m 138 36) :: S) (hp c w m)) ∧
  (∀ (sc : Nat × (Nat → Int32)) (d mm : Nat) (is : List ma_I) (L : ma_L) (S : List Value) (c m : Nat → Nat → Int32) (w : Nat → Int64) (x : Nat), ev sc d mm ((.getfield x, [12, 37]) :: is) L (.ref 138 :: S) (hp c w m) = ev sc d mm is L (.int (m 138 37) :: S) (hp c w m)) ∧
  (∀ (sc : Nat × (Nat → Int32)) (d mm : Nat) (is : List ma_I) (L : ma_L) (S : List Value) (c m : Nat → Nat → Int32) (w : Nat → Int64) (x : Nat), ev sc d mm ((.getfield x, [12, 38]) :: is) L (.ref 138 :: S) (hp c w m) = ev sc d mm is L (.int (m 138 38) :: S) (hp c w m)) ∧
  (∀ (sc : Nat × (Nat → Int32)) (d mm : Nat) (is : List ma_I) (L : ma_L) (S : List Value) (c m : Nat → Nat → Int32) (w : Nat → Int64) (x : Nat), ev sc d mm ((.getfield x, [12, 39]) :: is) L (.ref 138 :: S) (hp c w m) = ev sc d mm is L (.ref 156 :: S) (hp c w m)) ∧
  (∀ (sc : Nat × (Nat → Int32)) (d mm : Nat) (is : List ma_I) (L : ma_L) (S : List Value) (c m : Nat → Nat → Int32) (w : Nat → Int64) (x : Nat), ev sc d mm ((.getfield x, [12, 40]) :: is) L (.ref 138 :: S) (hp c w m) = ev sc d mm is L (.int (m 138 40) :: S) (hp c w m)) ∧
  (∀ (sc : Nat × (Nat → Int32)) (d mm : Nat) (is : List ma_I) (L : ma_L) (S : List Value) (c m : Nat → Nat → Int32) (w : Nat → Int64) (x : Nat), ev sc d mm ((.getfield x, [12, 41]) :: is) L (.ref 138 :: S) (hp c w m) = ev sc d mm is L (.ref 157 :: S) (hp c w m)) ∧
  (∀ (sc : Nat × (Nat → Int32)) (d mm : Nat) (is : List ma_I) (L : ma_L) (S : List Value) (c m : Nat → Nat → Int32) (w : Nat → Int64) (x : Nat), ev sc d mm ((.getfield x, [12, 42]) :: is) L (.ref 138 :: S) (hp c w m) = ev sc d mm is L (.ref 158 :: S) (hp c w m)) ∧
  (∀ (sc : Nat × (Nat → Int32)) (d mm : Nat) (is : List ma_I) (L : ma_L) (S : List Value) (c m : Nat → Nat → Int32) (w : Nat → Int64) (x : Nat), ev sc d mm ((.getfield x, [12, 43]) :: is) L (.ref 138 :: S) (hp c w m) = ev sc d mm is L (.ref 159 :: S) (hp c w m)) ∧
  (∀ (sc : Nat × (Nat → Int32)) (d mm : Nat) (is : List ma_I) (L : ma_L) (S : List Value) (c m : Nat → Nat → Int32) (w : Nat → Int64) (x : Nat), ev sc d mm ((.getfield x, [12, 44]) :: is) L (.ref 138 :: S) (hp c w m) = ev sc d mm is L (.int (m 138 44) :: S) (hp c w m)) ∧
  (∀ (sc : Nat × (Nat → Int32)) (d mm : Nat) (is : List ma_I) (L : ma_L) (S : List Value) (c m : Nat → Nat → Int32) (w : Nat → Int64) (x : Nat), ev sc d mm ((.getfield x, [12, 45]) :: is) L (.ref 138 :: S) (hp c w m) = ev sc d mm is L (.int (m 138 45) :: S) (hp c w m)) ∧
  (∀ (sc : Nat × (Nat → Int32)) (d mm : Nat) (is : List ma_I) (L : ma_L) (S : List Value) (c m : Nat → Nat → Int32) (w : Nat → Int64) (x : Nat), ev sc d mm ((.getfield x, [12, 46]) :: is) L (.ref 138 :: S) (hp c w m) = ev sc d mm is L (.ref 160 :: S) (hp c w m)) ∧
  (∀ (sc : Nat × (Nat → Int32)) (d mm : Nat) (is : List ma_I) (L : ma_L) (S : List Value) (c m : Nat → Nat → Int32) (w : Nat → Int64) (x : Nat), ev sc d mm ((.getfield x, [12, 47]) :: is) L (.ref 138 :: S) (hp c w m) = ev sc d mm is L (.int (m 138 47) :: S) (hp c w m)) ∧
  (∀ (sc : Nat × (Nat → Int32)) (d mm : Nat) (is : List ma_I) (L : ma_L) (S : List Value) (c m : Nat → Nat → Int32) (w : Nat → Int64) (x : Nat), ev sc d mm ((.getfield x, [12, 48]) :: is) L (.ref 138 :: S) (hp c w m) = ev sc d mm is L (.ref 161 :: S) (hp c w m)) ∧
  (∀ (sc : Nat × (Nat → Int32)) (d mm : Nat) (is : List ma_I) (L : ma_L) (S : List Value) (c m : Nat → Nat → Int32) (w : Nat → Int64) (x : Nat), ev sc d mm ((.getfield x, [12, 49]) :: is) L (.ref 138 :: S) (hp c w m) = ev sc d mm is L (.ref 162 :: S) (hp c w m)) ∧
  (∀ (sc : Nat × (Nat → Int32)) (d mm : Nat) (is : List ma_I) (L : ma_L) (S : List Value) (c m : Nat → Nat → Int32) (w : Nat → Int64) (x : Nat), ev sc d mm ((.getfield x, [12, 50]) :: is) L (.ref 138 :: S) (hp c w m) = ev sc d mm is L (.int (m 138 50) :: S) (hp c w m)) ∧
  (∀ (sc : Nat × (Nat → Int32)) (d mm : Nat) (is : List ma_I) (L : ma_L) (S : List Value) (c m : Nat → Nat → Int32) (w : Nat → Int64) (x : Nat), ev sc d mm ((.getfield x, [12, 51]) :: is) L (.ref 138 :: S) (hp c w m) = ev sc d mm is L (.ref 163 :: S) (hp c w m)) ∧
  (∀ (sc : Nat × (Nat → Int32)) (d mm : Nat) (is : List ma_I) (L : ma_L) (S : List Value) (c m : Nat → Nat → Int32) (w : Nat → Int64) (x : Nat), ev sc d mm ((.getfield x, [12, 52]) :: is) L (.ref 138 :: S) (hp c w m) = ev sc d mm is L (.ref 164 :: S) (hp c w m)) ∧
  (∀ (sc : Nat × (Nat → Int32)) (d mm : Nat) (is : List ma_I) (L : ma_L) (S : List Value) (c m : Nat → Nat → Int32) (w : Nat → Int64) (x : Nat), ev sc d mm ((.getfield x, [12, 53]) :: is) L (.ref 138 :: S) (hp c w m) = ev sc d mm is L (.ref 165 :: S) (hp c w m)) ∧
  (∀ (sc : Nat × (Nat → Int32)) (d mm : Nat) (is : List ma_I) (L : ma_L) (S : List Value) (c m : Nat → Nat → Int32) (w : Nat → Int64) (x : Nat), ev sc d mm ((.getfield x, [12, 54]) :: is) L (.ref 138 :: S) (hp c w m) = ev sc d mm is L (.int (m 138 54) :: S) (hp c w m)) ∧
  (∀ (sc : Nat × (Nat → Int32)) (d mm : Nat) (is : List ma_I) (L : ma_L) (S : List Value) (c m : Nat → Nat → Int32) (w : Nat → Int64) (x : Nat), ev sc d mm ((.getfield x, [12, 55]) :: is) L (.ref 138 :: S) (hp c w m) = ev sc d mm is L (.int (m 138 55) :: S) (hp c w m)) ∧
  (∀ (sc : Nat × (Nat → Int32)) (d mm : Nat) (is : List ma_I) (L : ma_L) (S : List Value) (c m : Nat → Nat → Int32) (w : Nat → Int64) (x : Nat), ev sc d mm ((.getfield x, [12, 56]) :: is) L (.ref 138 :: S) (hp c w m) = ev sc d mm is L (.int (m 138 56) :: S) (hp c w m)) ∧
  (∀ (sc : Nat × (Nat → Int32)) (d mm : Nat) (is : List ma_I) (L : ma_L) (S : List Value) (c m : Nat → Nat → Int32) (w : Nat → Int64) (x : Nat), ev sc d mm ((.getfield x, [12, 57]) :: is) L (.ref 138 :: S) (hp c w m) = ev sc d mm is L (.ref 166 :: S) (hp c w m)) := ⟨fun _ _ _ _ _ _ _ _ _ _ => ev_gf (by decide) rfl rfl,
  fun _ _ _ _ _ _ _ _ _ _ => ev_gf (by decide) rfl rfl,
  fun _ _ _ _ _ _ _ _ _ _ => ev_gf (by decide) rfl rfl,
  fun _ _ _ _ _ _ _ _ _ _ => ev_gf (by decide) rfl rfl,
  fun _ _ _ _ _ _ _ _ _ _ => ev_gf (by decide) rfl rfl,
  fun _ _ _ _ _ _ _ _ _ _ => ev_gf (by decide) rfl rfl,
  fun _ _ _ _ _ _ _ _ _ _ => ev_gf (by decide) rfl rfl,
  fun _ _ _ _ _ _ _ _ _ _ => ev_gf (by decide) rfl rfl,
  fun _ _ _ _ _ _ _ _ _ _ => ev_gf (by decide) rfl rfl,
  fun _ _ _ _ _ _ _ _ _ _ => ev_gf (by decide) rfl rfl,
  fun _ _ _ _ _ _ _ _ _ _ => ev_gf (by decide) rfl rfl,
  fun _ _ _ _ _ _ _ _ _ _ => ev_gf (by decide) rfl rfl,
  fun _ _ _ _ _ _ _ _ _ _ => ev_gf (by decide) rfl rfl,
  fun _ _ _ _ _ _ _ _ _ _ => ev_gf (by decide) rfl rfl,
  fun _ _ _ _ _ _ _ _ _ _ => ev_gf (by decide) rfl rfl,
  fun _ _ _ _ _ _ _ _ _ _ => ev_gf (by decide) rfl rfl,
  fun _ _ _ _ _ _ _ _ _ _ => ev_gf (by decide) rfl rfl,
  fun _ _ _ _ _ _ _ _ _ _ => ev_gf (by decide) rfl rfl,
  fun _ _ _ _ _ _ _ _ _ _ => ev_gf (by decide) rfl rfl,
  fun _ _ _ _ _ _ _ _ _ _ => ev_gf (by decide) rfl rfl,
  fun _ _ _ _ _ _ _ _ _ _ => ev_gf (by decide) rfl rfl,
  fun _ _ _ _ _ _ _ _ _ _ => ev_gf (by decide) rfl rfl,
  fun _ _ _ _ _ _ _ _ _ _ => ev_gf (by decide) rfl rfl,
  fun _ _ _ _ _ _ _ _ _ _ => ev_gf (by decide) rfl rfl,
  fun _ _ _ _ _ _ _ _ _ _ => ev_gf (by decide) rfl rfl,
  fun _ _ _ _ _ _ _ _ _ _ => ev_gf (by decide) rfl rfl,
  fun _ _ _ _ _ _ _ _ _ _ => ev_gf (by decide) rfl rfl,
  fun _ _ _ _ _ _ _ _ _ _ => ev_gf (by decide) rfl rfl,
  fun _ _ _ _ _ _ _ _ _ _ => ev_gf (by decide) rfl rfl,
  fun _ _ _ _ _ _ _ _ _ _ => ev_gf (by decide) rfl rfl,
  fun _ _ _ _ _ _ _ _ _ _ => ev_gf (by decide) rfl rfl,
  fun _ _ _ _ _ _ _ _ _ _ => ev_gf (by decide) rfl rfl,
  fun _ _ _ _ _ _ _ _ _ _ => ev_gf (by decide) rfl rfl,
  fun _ _ _ _ _ _ _ _ _ _ => ev_gf (by decide) rfl rfl,
  fun _ _ _ _ _ _ _ _ _ _ => ev_gf (by decide) rfl rfl,
  fun _ _ _ _ _ _ _ _ _ _ => ev_gf (by decide) rfl rfl,
  fun _ _ _ _ _ _ _ _ _ _ => ev_gf (by decide) rfl rfl,
  fun _ _ _ _ _ _ _ _ _ _ => ev_gf (by decide) rfl rfl,
  fun _ _ _ _ _ _ _ _ _ _ => ev_gf (by decide) rfl rfl,
  fun _ _ _ _ _ _ _ _ _ _ => ev_gf (by decide) rfl rfl,
  fun _ _ _ _ _ _ _ _ _ _ => ev_gf (by decide) rfl rfl,
  fun _ _ _ _ _ _ _ _ _ _ => ev_gf (by decide) rfl rfl,
  fun _ _ _ _ _ _ _ _ _ _ => ev_gf (by decide) rfl rfl,
  fun _ _ _ _ _ _ _ _ _ _ => ev_gf (by decide) rfl rfl,
  fun _ _ _ _ _ _ _ _ _ _ => ev_gf (by decide) rfl rfl,
  fun _ _ _ _ _ _ _ _ _ _ => ev_gf (by decide) rfl rfl,
  fun _ _ _ _ _ _ _ _ _ _ => ev_gf (by decide) rfl rfl,
  fun _ _ _ _ _ _ _ _ _ _ => ev_gf (by decide) rfl rfl,
  fun _ _ _ _ _ _ _ _ _ _ => ev_gf (by decide) rfl rfl,
  fun _ _ _ _ _ _ _ _ _ _ => ev_gf (by decide) rfl rfl,
  fun _ _ _ _ _ _ _ _ _ _ => ev_gf (by decide) rfl rfl,
  fun _ _ _ _ _ _ _ _ _ _ => ev_gf (by decide) rfl rfl,
  fun _ _ _ _ _ _ _ _ _ _ => ev_gf (by decide) rfl rfl,
  fun _ _ _ _ _ _ _ _ _ _ => ev_gf (by decide) rfl rfl,
  fun _ _ _ _ _ _ _ _ _ _ => ev_gf (by decide) rfl rfl,
  fun _ _ _ _ _ _ _ _ _ _ => ev_gf (by decide) rfl rfl,
  fun _ _ _ _ _ _ _ _ _ _ => ev_gf (by decide) rfl rfl,
  fun _ _ _ _ _ _ _ _ _ _ => ev_gf (by decide) rfl rfl⟩
theorem pfM : (∀ (sc : Nat × (Nat → Int32)) (d mm : Nat) (is : List ma_I) (L : ma_L) (S : List Value) (c m : Nat → Nat → Int32) (w : Nat → Int64) (x : Nat) (v : Int32), ev sc d mm ((.putfield x, [12, 0, 0]) :: is) L (.int v :: .ref 138 :: S) (hp c w m) = ev sc d mm is L S (hp c w (va_up m 138 (upd (m 138) 0 v)))) ∧
  (∀ (sc : Nat × (Nat → Int32)) (d mm : Nat) (is : List ma_I) (L : ma_L) (S : List Value) (c m : Nat → Nat → Int32) (w : Nat → Int64) (x : Nat) (v : Int32), ev sc d mm ((.putfield x, [12, 3, 0]) :: is) L (.int v :: .ref 138 :: S) (hp c w m) = ev sc d mm is L S (hp c w (va_up m 138 (upd (m 138) 3 v)))) ∧
  (∀ (sc : Nat × (Nat → Int32)) (d mm : Nat) (is : List ma_I) (L : ma_L) (S : List Value) (c m : Nat → Nat → Int32) (w : Nat → Int64) (x : Nat), ev sc d mm ((.putfield x, [12, 5, 1]) :: is) L (.int (nI 0) :: .ref 138 :: S) (hp c w m) = ev sc d mm is L S (hp c w (va_up m 138 (upd (m 138) 5 (nI 0))))) ∧
  (∀ (sc : Nat × (Nat → Int32)) (d mm : Nat) (is : List ma_I) (L : ma_L) (S : List Value) (c m : Nat → Nat → Int32) (w : Nat → Int64) (x : Nat), ev sc d mm ((.putfield x, [12, 5, 1]) :: is) L (.int (nI 1) :: .ref 138 :: S) (hp c w m) = ev sc d mm is L S (hp c w (va_up m 138 (upd (m 138) 5 (nI 1))))) ∧
  (∀ (sc : Nat × (Nat → Int32)) (d mm : Nat) (is : List ma_I) (L : ma_L) (S : List Value) (c m : Nat → Nat → Int32) (w : Nat → Int64) (x : Nat) (v : Int32), ev sc d mm ((.putfield x, [12, 6, 0]) :: is) L (.int v :: .ref 138 :: S) (hp c w m) = ev sc d mm is L S (hp c w (va_up m 138 (upd (m 138) 6 v)))) ∧
  (∀ (sc : Nat × (Nat → Int32)) (d mm : Nat) (is : List ma_I) (L : ma_L) (S : List Value) (c m : Nat → Nat → Int32) (w : Nat → Int64) (x : Nat) (v : Int32), ev sc d mm ((.putfield x, [12, 7, 0]) :: is) L (.int v :: .ref 138 :: S) (hp c w m) = ev sc d mm is L S (hp c w (va_up m 138 (upd (m 138) 7 v)))) ∧
  (∀ (sc : Nat × (Nat → Int32)) (d mm : Nat) (is : List ma_I) (L : ma_L) (S : List Value) (c m : Nat → Nat → Int32) (w : Nat → Int64) (x : Nat) (v : Int32), ev sc d mm ((.putfield x, [12, 8, 0]) :: is) L (.int v :: .ref 138 :: S) (hp c w m) = ev sc d mm is L S (hp c w (va_up m 138 (upd (m 138) 8 v)))) ∧
  (∀ (sc : Nat × (Nat → Int32)) (d mm : Nat) (is : List ma_I) (L : ma_L) (S : List Value) (c m : Nat → Nat → Int32) (w : Nat → Int64) (x : Nat) (v : Int32), ev sc d mm ((.putfield x, [12, 9, 0]) :: is) L (.int v :: .ref 138 :: S) (hp c w m) = ev sc d mm is L S (hp c w (va_up m 138 (upd (m 138) 9 v)))) ∧
  (∀ (sc : Nat × (Nat → Int32)) (d mm : Nat) (is : List ma_I) (L : ma_L) (S : List Value) (c m : Nat → Nat → Int32) (w : Nat → Int64) (x : Nat) (v : Int32), ev sc d mm ((.putfield x, [12, 10, 0]) :: is) L (.int v :: .ref 138 :: S) (hp c w m) = ev sc d mm is L S (hp c w (va_up m 138 (upd (m 138) 10 v)))) ∧
  (∀ (sc : Nat × (Nat → Int32)) (d mm : Nat) (is : List ma_I) (L : ma_L) (S : List Value) (c m : Nat → Nat → Int32) (w : Nat → Int64) (x : Nat) (v : Int32), ev sc d mm ((.putfield x, [12, 16, 0]) :: is) L (.int v :: .ref 138 :: S) (hp c w m) = ev sc d mm is L S (hp c w (va_up m 138 (upd (m 138) 16 v)))) ∧
  (∀ (sc : Nat × (Nat → Int32)) (d mm : Nat) (is : List ma_I) (L : ma_L) (S : List Value) (c m : Nat → Nat → Int32) (w : Nat → Int64) (x : Nat) (v : Int32), ev sc d mm ((.putfield x, [12, 17, 0]) :: is) L (.int v :: .ref 138 :: S) (hp c w m) = ev sc d mm is L S (hp c w (va_up m 138 (upd (m 138) 17 v)))) ∧
  (∀ (sc : Nat × (Nat → Int32)) (d mm : Nat) (is : List ma_I) (L : ma_L) (S : List Value) (c m : Nat → Nat → Int32) (w : Nat → Int64) (x : Nat) (v : Int32), ev sc d mm ((.putfield x, [12, 18, 0]) :: is) L (.int v :: .ref 138 :: S) (hp c w m) = ev sc d mm is L S (hp c w (va_up m 138 (upd (m 138) 18 v)))) ∧
  (∀ (sc : Nat × (Nat → Int32)) (d mm : Nat) (is : List ma_I) (L : ma_L) (S : List Value) (c m : Nat → Nat → Int32) (w : Nat → Int64) (x : Nat) (v : Int32), ev sc d mm ((.putfield x, [12, 19, 0]) :: is) L (.int v :: .ref 138 :: S) (hp c w m) = ev sc d mm is L S (hp c w (va_up m 138 (upd (m 138) 19 v)))) ∧
  (∀ (sc : Nat × (Nat → Int32)) (d mm : Nat) (is : List ma_I) (L : ma_L) (S : List Value) (c m : Nat → Nat → Int32) (w : Nat → Int64) (x : Nat) (v : Int32), ev sc d mm ((.putfield x, [12, 20, 0]) :: is) L (.int v :: .ref 138 :: S) (hp c w m) = ev sc d mm is L S (hp c w (va_up m 138 (upd (m 138) 20 v)))) ∧
  (∀ (sc : Nat × (Nat → Int32)) (d mm : Nat) (is : List ma_I) (L : ma_L) (S : List Value) (c m : Nat → Nat → Int32) (w : Nat → Int64) (x : Nat) (v : Int32), ev sc d mm ((.putfield x, [12, 29, 0]) :: is) L (.int v :: .ref 138 :: S) (hp c w m) = ev sc d mm is L S (hp c w (va_up m 138 (upd (m 138) 29 v)))) ∧
  (∀ (sc : Nat × (Nat → Int32)) (d mm : Nat) (is : List ma_I) (L : ma_L) (S : List Value) (c m : Nat → Nat → Int32) (w : Nat → Int64) (x : Nat) (v : Int32), ev sc d mm ((.putfield x, [12, 30, 0]) :: is) L (.int v :: .ref 138 :: S) (hp c w m) = ev sc d mm is L S (hp c w (va_up m 138 (upd (m 138) 30 v)))) ∧
  (∀ (sc : Nat × (Nat → Int32)) (d mm : Nat) (is : List ma_I) (L : ma_L) (S : List Value) (c m : Nat → Nat → Int32) (w : Nat → Int64) (x : Nat) (v : Int32), ev sc d mm ((.putfield x, [12, 31, 0]) :: is) L (.int v :: .ref 138 :: S) (hp c w m) = ev sc d mm is L S (hp c w (va_up m 138 (upd (m 138) 31 v)))) ∧
  (∀ (sc : Nat × (Nat → Int32)) (d mm : Nat) (is : List ma_I) (L : ma_L) (S : List Value) (c m : Nat → Nat → Int32) (w : Nat → Int64) (x : Nat) (v : Int32), ev sc d mm ((.putfield x, [12, 33, 0]) :: is) L (.int v :: .ref 138 :: S) (hp c w m) = ev sc d mm is L S (hp c w (va_up m 138 (upd (m 138) 33 v)))) ∧
  (∀ (sc : Nat × (Nat → Int32)) (d mm : Nat) (is : List ma_I) (L : ma_L) (S : List Value) (c m : Nat → Nat → Int32) (w : Nat → Int64) (x : Nat) (v : Int32), ev sc d mm ((.putfield x, [12, 34, 0]) :: is) L (.int v :: .ref 138 :: S) (hp c w m) = ev sc d mm is L S (hp c w (va_up m 138 (upd (m 138) 34 v)))) ∧
  (∀ (sc : Nat × (Nat → Int32)) (d mm : Nat) (is : List ma_I) (L : ma_L) (S : List Value) (c m : Nat → Nat → Int32) (w : Nat → Int64) (x : Nat) (v : Int32), ev sc d mm ((.putfield x, [12, 35, 0]) :: is) L (.int v :: .ref 138 :: S) (hp c w m) = ev sc d mm is L S (hp c w (va_up m 138 (upd (m 138) 35 v)))) ∧
  (∀ (sc : Nat × (Nat → Int32)) (d mm : Nat) (is : List ma_I) (L : ma_L) (S : List Value) (c m : Nat → Nat → Int32) (w : Nat → Int64) (x : Nat) (v : Int32), ev sc d mm ((.putfield x, [12, 36, 0]) :: is) L (.int v :: .ref 138 :: S) (hp c w m) = ev sc d mm is L S (hp c w (va_up m 138 (upd (m 138) 36 v)))) ∧
  (∀ (sc : Nat × (Nat → Int32)) (d mm : Nat) (is : List ma_I) (L : ma_L) (S : List Value) (c m : Nat → Nat → Int32) (w : Nat → Int64) (x : Nat) (v : Int32), ev sc d mm ((.putfield x, [12, 37, 0]) :: is) L (.int v :: .ref 138 :: S) (hp c w m) = ev sc d mm is L S (hp c w (va_up m 138 (upd (m 138) 37 v)))) ∧
  (∀ (sc : Nat × (Nat → Int32)) (d mm : Nat) (is : List ma_I) (L : ma_L) (S : List Value) (c m : Nat → Nat → Int32) (w : Nat → Int64) (x : Nat) (v : Int32), ev sc d mm ((.putfield x, [12, 38, 0]) :: is) L (.int v :: .ref 138 :: S) (hp c w m) = ev sc d mm is L S (hp c w (va_up m 138 (upd (m 138) 38 v)))) ∧
  (∀ (sc : Nat × (Nat → Int32)) (d mm : Nat) (is : List ma_I) (L : ma_L) (S : List Value) (c m : Nat → Nat → Int32) (w : Nat → Int64) (x : Nat) (v : Int32), ev sc d mm ((.putfield x, [12, 40, 0]) :: is) L (.int v :: .ref 138 :: S) (hp c w m) = ev sc d mm is L S (hp c w (va_up m 138 (upd (m 138) 40 v)))) ∧
  (∀ (sc : Nat × (Nat → Int32)) (d mm : Nat) (is : List ma_I) (L : ma_L) (S : List Value) (c m : Nat → Nat → Int32) (w : Nat → Int64) (x : Nat) (v : Int32), ev sc d mm ((.putfield x, [12, 44, 0]) :: is) L (.int v :: .ref 138 :: S) (hp c w m) = ev sc d mm is L S (hp c w (va_up m 138 (upd (m 138) 44 v)))) ∧
  (∀ (sc : Nat × (Nat → Int32)) (d mm : Nat) (is : List ma_I) (L : ma_L) (S : List Value) (c m : Nat → Nat → Int32) (w : Nat → Int64) (x : Nat) (v : Int32), ev sc d mm ((.putfield x, [12, 45, 0]) :: is) L (.int v :: .ref 138 :: S) (hp c w m) = ev sc d mm is L S (hp c w (va_up m 138 (upd (m 138) 45 v)))) ∧
  (∀ (sc : Nat × (Nat → Int32)) (d mm : Nat) (is : List ma_I) (L : ma_L) (S : List Value) (c m : Nat → Nat → Int32) (w : Nat → Int64) (x : Nat) (v : Int32), ev sc d mm ((.putfield x, [12, 47, 0]) :: is) L (.int v :: .ref 138 :: S) (hp c w m) = ev sc d mm is L S (hp c w (va_up m 138 (upd (m 138) 47 v)))) ∧
  (∀ (sc : Nat × (Nat → Int32)) (d mm : Nat) (is : List ma_I) (L : ma_L) (S : List Value) (c m : Nat → Nat → Int32) (w : Nat → Int64) (x : Nat) (v : Int32), ev sc d mm ((.putfield x, [12, 50, 0]) :: is) L (.int v :: .ref 138 :: S) (hp c w m) = ev sc d mm is L S (hp c w (va_up m 138 (upd (m 138) 50 v)))) ∧
  (∀ (sc : Nat × (Nat → Int32)) (d mm : Nat) (is : List ma_I) (L : ma_L) (S : List Value) (c m : Nat → Nat → Int32) (w : Nat → Int64) (x : Nat), ev sc d mm ((.putfield x, [12, 54, 1]) :: is) L (.int (nI 0) :: .ref 138 :: S) (hp c w m) = ev sc d mm is L S (hp c w (va_up m 138 (upd (m 138) 54 (nI 0))))) ∧
  (∀ (sc : Nat × (Nat → Int32)) (d mm : Nat) (is : List ma_I) (L : ma_L) (S : List Value) (c m : Nat → Nat → Int32) (w : Nat → Int64) (x : Nat), ev sc d mm ((.putfield x, [12, 54, 1]) :: is) L (.int (nI 1) :: .ref 138 :: S) (hp c w m) = ev sc d mm is L S (hp c w (va_up m 138 (upd (m 138) 54 (nI 1))))) ∧
  (∀ (sc : Nat × (Nat → Int32)) (d mm : Nat) (is : List ma_I) (L : ma_L) (S : List Value) (c m : Nat → Nat → Int32) (w : Nat → Int64) (x : Nat), ev sc d mm ((.putfield x, [12, 55, 1]) :: is) L (.int (nI 0) :: .ref 138 :: S) (hp c w m) = ev sc d mm is L S (hp c w (va_up m 138 (upd (m 138) 55 (nI 0))))) ∧
  (∀ (sc : Nat × (Nat → Int32)) (d mm : Nat) (is : List ma_I) (L : ma_L) (S : List Value) (c m : Nat → Nat → Int32) (w : Nat → Int64) (x : Nat), ev sc d mm ((.putfield x, [12, 55, 1]) :: is) L (.int (nI 1) :: .ref 138 :: S) (hp c w m) = ev sc d mm is L S (hp c w (va_up m 138 (upd (m 138) 55 (nI 1))))) ∧
  (∀ (sc : Nat × (Nat → Int32)) (d mm : Nat) (is : List ma_I) (L : ma_L) (S : List Value) (c m : Nat → Nat → Int32) (w : Nat → Int64) (x : Nat) (v : Int32), ev sc d mm ((.putfield x, [12, 56, 0]) :: is) L (.int v :: .ref 138 :: S) (hp c w m) = ev sc d mm is L S (hp c w (va_up m 138 (upd (m 138) 56 v)))) := ⟨fun _ _ _ _ _ _ _ _ _ _ _ => ev_pfM _ (by decide) (by decide) rfl rfl rfl rfl,
  fun _ _ _ _ _ _ _ _ _ _ _ => ev_pfM _ (by decide) (by decide) rfl rfl rfl rfl,
  fun _ _ _ _ _ _ _ _ _ _ => ev_pfM _ (by decide) (by decide) rfl rfl (by decide +kernel) rfl,
  fun _ _ _ _ _ _ _ _ _ _ => ev_pfM _ (by decide) (by decide) rfl rfl (by decide +kernel) rfl,
  fun _ _ _ _ _ _ _ _ _ _ _ => ev_pfM _ (by decide) (by decide) rfl rfl rfl rfl,
  fun _ _ _ _ _ _ _ _ _ _ _ => ev_pfM _ (by decide) (by decide) rfl rfl rfl rfl,
  fun _ _ _ _ _ _ _ _ _ _ _ => ev_pfM _ (by decide) (by decide) rfl rfl rfl rfl,
  fun _ _ _ _ _ _ _ _ _ _ _ => ev_pfM _ (by decide) (by decide) rfl rfl rfl rfl,
  fun _ _ _ _ _ _ _ _ _ _ _ => ev_pfM _ (by decide) (by decide) rfl rfl rfl rfl,
  fun _ _ _ _ _ _ _ _ _ _ _ => ev_pfM _ (by decide) (by decide) rfl rfl rfl rfl,
  fun _ _ _ _ _ _ _ _ _ _ _ => ev_pfM _ (by decide) (by decide) rfl rfl rfl rfl,
  fun _ _ _ _ _ _ _ _ _ _ _ => ev_pfM _ (by decide) (by decide) rfl rfl rfl rfl,
  fun _ _ _ _ _ _ _ _ _ _ _ => ev_pfM _ (by decide) (by decide) rfl rfl rfl rfl,
  fun _ _ _ _ _ _ _ _ _ _ _ => ev_pfM _ (by decide) (by decide) rfl rfl rfl rfl,
  fun _ _ _ _ _ _ _ _ _ _ _ => ev_pfM _ (by decide) (by decide) rfl rfl rfl rfl,
  fun _ _ _ _ _ _ _ _ _ _ _ => ev_pfM _ (by decide) (by decide) rfl rfl rfl rfl,
  fun _ _ _ _ _ _ _ _ _ _ _ => ev_pfM _ (by decide) (by decide) rfl rfl rfl rfl,
  fun _ _ _ _ _ _ _ _ _ _ _ => ev_pfM _ (by decide) (by decide) rfl rfl rfl rfl,
  fun _ _ _ _ _ _ _ _ _ _ _ => ev_pfM _ (by decide) (by decide) rfl rfl rfl rfl,
  fun _ _ _ _ _ _ _ _ _ _ _ => ev_pfM _ (by decide) (by decide) rfl rfl rfl rfl,
  fun _ _ _ _ _ _ _ _ _ _ _ => ev_pfM _ (by decide) (by decide) rfl rfl rfl rfl,
  fun _ _ _ _ _ _ _ _ _ _ _ => ev_pfM _ (by decide) (by decide) rfl rfl rfl rfl,
  fun _ _ _ _ _ _ _ _ _ _ _ => ev_pfM _ (by decide) (by decide) rfl rfl rfl rfl,
  fun _ _ _ _ _ _ _ _ _ _ _ => ev_pfM _ (by decide) (by decide) rfl rfl rfl rfl,
  fun _ _ _ _ _ _ _ _ _ _ _ => ev_pfM _ (by decide) (by decide) rfl rfl rfl rfl,
  fun _ _ _ _ _ _ _ _ _ _ _ => ev_pfM _ (by decide) (by decide) rfl rfl rfl rfl,
  fun _ _ _ _ _ _ _ _ _ _ _ => ev_pfM _ (by decide) (by decide) rfl rfl rfl rfl,
  fun _ _ _ _ _ _ _ _ _ _ _ => ev_pfM _ (by decide) (by decide) rfl rfl rfl rfl,
  fun _ _ _ _ _ _ _ _ _ _ => ev_pfM _ (by decide) (by decide) rfl rfl (by decide +kernel) rfl,
  fun _ _ _ _ _ _ _ _ _ _ => ev_pfM _ (by decide) (by decide) rfl rfl (by decide +kernel) rfl,
  fun _ _ _ _ _ _ _ _ _ _ => ev_pfM _ (by decide) (by decide) rfl rfl (by decide +kernel) rfl,
  fun _ _ _ _ _ _ _ _ _ _ => ev_pfM _ (by decide) (by decide) rfl rfl (by decide +kernel) rfl,
  fun _ _ _ _ _ _ _ _ _ _ _ => ev_pfM _ (by decide) (by decide) rfl rfl rfl rfl⟩
theorem ldC : (∀ (sc : Nat × (Nat → Int32)) (d mm : Nat) (is : List ma_I) (L : ma_L) (S : List Value) (c m : Nat → Nat → Int32) (w : Nat → Int64) (o : List Nat) (i : Nat), i < 8 → ev sc d mm ((.iaload, o) :: is) L (.int (nI i) :: .ref 2 :: S) (hp c w m) = ev sc d mm is L (.int (c 2 i) :: S) (hp c w m)) ∧
  (∀ (sc : Nat × (Nat → Int32)) (d mm : Nat) (is : List ma_I) (L : ma_L) (S : List Value) (c m : Nat → Nat → Int32) (w : Nat → Int64) (o : List Nat) (i : Nat), i < 6 → ev sc d mm ((.iaload, o) :: is) L (.int (nI i) :: .ref 3 :: S) (hp c w m) = ev sc d mm is L (.int (c 3 i) :: S) (hp c w m)) ∧
  (∀ (sc : Nat × (Nat → Int32)) (d mm : Nat) (is : List ma_I) (L : ma_L) (S : List Value) (c m : Nat → Nat → Int32) (w : Nat → Int64) (o : List Nat) (i : Nat), i < 6 → ev sc d mm ((.iaload, o) :: is) L (.int (nI i) :: .ref 4 :: S) (hp c w m) = ev sc d mm is L (.int (c 4 i) :: S) (hp c w m)) ∧
  (∀ (sc : Nat × (Nat → Int32)) (d mm : Nat) (is : List ma_I) (L : ma_L) (S : List Value) (c m : Nat → Nat → Int32) (w : Nat → Int64) (o : List Nat) (i : Nat), i < 8 → ev sc d mm ((.iaload, o) :: is) L (.int (nI i) :: .ref 5 :: S) (hp c w m) = ev sc d mm is L (.int (c 5 i) :: S) (hp c w m)) ∧
  (∀ (sc : Nat × (Nat → Int32)) (d mm : Nat) (is : List ma_I) (L : ma_L) (S : List Value) (c m : Nat → Nat → Int32) (w : Nat → Int64) (o : List Nat) (i : Nat), i < 8 → ev sc d mm ((.iaload, o) :: is) L (.int (nI i) :: .ref 6 :: S) (hp c w m) = ev sc d mm is L (.int (c 6 i) :: S) (hp c w m)) ∧
  (∀ (sc : Nat × (Nat → Int32)) (d mm : Nat) (is : List ma_I) (L : ma_L) (S : List Value) (c m : Nat → Nat → Int32) (w : Nat → Int64) (o : List Nat) (i : Nat), i < 16 → ev sc d mm ((.iaload, o) :: is) L (.int (nI i) :: .ref 8 :: S) (hp c w m) = ev sc d mm is L (.int (c 8 i) :: S) (hp c w m)) ∧
  (∀ (sc : Nat × (Nat → Int32)) (d mm : Nat) (is : List ma_I) (L : ma_L) (S : List Value) (c m : Nat → Nat → Int32) (w : Nat → Int64) (o : List Nat) (i : Nat), i < 16 → ev sc d mm ((.iaload, o) :: is) L (.int (nI i) :: .ref 9 :: S) (hp c w m) = ev sc d mm is L (.int (c 9 i) :: S) (hp c w m)) ∧
  (∀ (sc : Nat × (Nat → Int32)) (d mm : Nat) (is : List ma_I) (L : ma_L) (S : List Value) (c m : Nat → Nat → Int32) (w : Nat → Int64) (o : List Nat) (i : Nat), i < 16 → ev sc d mm ((.iaload, o) :: is) L (.int (nI i) :: .ref 10 :: S) (hp c w m) = ev sc d mm is L (.int (c 10 i) :: S) (hp c w m)) ∧
  (∀ (sc : Nat × (Nat → Int32)) (d mm : Nat) (is : List ma_I) (L : ma_L) (S : List Value) (c m : Nat → Nat → Int32) (w : Nat → Int64) (o : List Nat) (i : Nat), i < 16 → ev sc d mm ((.iaload, o) :: is) L (.int (nI i) :: .ref 11 :: S) (hp c w m) = ev sc d mm is L (.int (c 11 i) :: S) (hp c w m)) ∧
  (∀ (sc : Nat × (Nat → Int32)) (d mm : Nat) (is : List ma_I) (L : ma_L) (S : List Value) (c m : Nat → Nat → Int32) (w : Nat → Int64) (o : List Nat) (i : Nat), i < 400 → ev sc d mm ((.iaload, o) :: is) L (.int (nI i) :: .ref 12 :: S) (hp c w m) = ev sc d mm is L (.int (c 12 i) :: S) (hp c w m)) ∧
  (∀ (sc : Nat × (Nat → Int32)) (d mm : Nat) (is : List ma_I) (L : ma_L) (S : List Value) (c m : Nat → Nat → Int32) (w : Nat → Int64) (o : List Nat) (i : Nat), i < 80 → ev sc d mm ((.iaload, o) :: is) L (.int (nI i) :: .ref 14 :: S) (hp c w m) = ev sc d mm is L (.int (c 14 i) :: S) (hp c w m)) ∧
  (∀ (sc : Nat × (Nat → Int32)) (d mm : Nat) (is : List ma_I) (L : ma_L) (S : List Value) (c m : Nat → Nat → Int32) (w : Nat → Int64) (o : List Nat) (i : Nat), i < 80 → ev sc d mm ((.iaload, o) :: is) L (.int (nI i) :: .ref 16 :: S) (hp c w m) = ev sc d mm is L (.int (c 16 i) :: S) (hp c w m)) ∧
  (∀ (sc : Nat × (Nat → Int32)) (d mm : Nat) (is : List ma_I) (L : ma_L) (S : List Value) (c m : Nat → Nat → Int32) (w : Nat → Int64) (o : List Nat) (i : Nat), i < 14 → ev sc d mm ((.iaload, o) :: is) L (.int (nI i) :: .ref 18 :: S) (hp c w m) = ev sc d mm is L (.int (c 18 i) :: S) (hp c w m)) ∧
  (∀ (sc : Nat × (Nat → Int32)) (d mm : Nat) (is : List ma_I) (L : ma_L) (S : List Value) (c m : Nat → Nat → Int32) (w : Nat → Int64) (o : List Nat) (i : Nat), i < 14 → ev sc d mm ((.iaload, o) :: is) L (.int (nI i) :: .ref 19 :: S) (hp c w m) = ev sc d mm is L (.int (c 19 i) :: S) (hp c w m)) ∧
  (∀ (sc : Nat × (Nat → Int32)) (d mm : Nat) (is : List ma_I) (L : ma_L) (S : List Value) (c m : Nat → Nat → Int32) (w : Nat → Int64) (o : List Nat) (i : Nat), i < 8 → ev sc d mm ((.iaload, o) :: is) L (.int (nI i) :: .ref 20 :: S) (hp c w m) = ev sc d mm is L (.int (c 20 i) :: S) (hp c w m)) ∧
  (∀ (sc : Nat × (Nat → Int32)) (d mm : Nat) (is : List ma_I) (L : ma_L) (S : List Value) (c m : Nat → Nat → Int32) (w : Nat → Int64) (o : List Nat) (i : Nat), i < 8 → ev sc d mm ((.iaload, o) :: is) L (.int (nI i) :: .ref 21 :: S) (hp c w m) = ev sc d mm is L (.int (c 21 i) :: S) (hp c w m)) ∧
  (∀ (sc : Nat × (Nat → Int32)) (d mm : Nat) (is : List ma_I) (L : ma_L) (S : List Value) (c m : Nat → Nat → Int32) (w : Nat → Int64) (o : List Nat) (i : Nat), i < 600 → ev sc d mm ((.iaload, o) :: is) L (.int (nI i) :: .ref 23 :: S) (hp c w m) = ev sc d mm is L (.int (c 23 i) :: S) (hp c w m)) ∧
  (∀ (sc : Nat × (Nat → Int32)) (d mm : Nat) (is : List ma_I) (L : ma_L) (S : List Value) (c m : Nat → Nat → Int32) (w : Nat → Int64) (o : List Nat) (i : Nat), i < 401 → ev sc d mm ((.iaload, o) :: is) L (.int (nI i) :: .ref 81 :: S) (hp c w m) = ev sc d mm is L (.int (c 81 i) :: S) (hp c w m)) ∧
  (∀ (sc : Nat × (Nat → Int32)) (d mm : Nat) (is : List ma_I) (L : ma_L) (S : List Value) (c m : Nat → Nat → Int32) (w : Nat → Int64) (o : List Nat) (i : Nat), i < 401 → ev sc d mm ((.iaload, o) :: is) L (.int (nI i) :: .ref 82 :: S) (hp c w m) = ev sc d mm is L (.int (c 82 i) :: S) (hp c w m)) ∧
  (∀ (sc : Nat × (Nat → Int32)) (d mm : Nat) (is : List ma_I) (L : ma_L) (S : List Value) (c m : Nat → Nat → Int32) (w : Nat → Int64) (o : List Nat) (i : Nat), i < 401 → ev sc d mm ((.iaload, o) :: is) L (.int (nI i) :: .ref 83 :: S) (hp c w m) = ev sc d mm is L (.int (c 83 i) :: S) (hp c w m)) ∧
  (∀ (sc : Nat × (Nat → Int32)) (d mm : Nat) (is : List ma_I) (L : ma_L) (S : List Value) (c m : Nat → Nat → Int32) (w : Nat → Int64) (o : List Nat) (i : Nat), i < 16 → ev sc d mm ((.iaload, o) :: is) L (.int (nI i) :: .ref 86 :: S) (hp c w m) = ev sc d mm is L (.int (c 86 i) :: S) (hp c w m)) ∧
  (∀ (sc : Nat × (Nat → Int32)) (d mm : Nat) (is : List ma_I) (L : ma_L) (S : List Value) (c m : Nat → Nat → Int32) (w : Nat → Int64) (o : List Nat) (i : Nat), i < 16 → ev sc d mm ((.iaload, o) :: is) L (.int (nI i) :: .ref 87 :: S) (hp c w m) = ev sc d mm is L (.int (c 87 i) :: S) (hp c w m)) ∧
  (∀ (sc : Nat × (Nat → Int32)) (d mm : Nat) (is : List ma_I) (L : ma_L) (S : List Value) (c m : Nat → Nat → Int32) (w : Nat → Int64) (o : List Nat) (i : Nat), i < 16 → ev sc d mm ((.iaload, o) :: is) L (.int (nI i) :: .ref 88 :: S) (hp c w m) = ev sc d mm is L (.int (c 88 i) :: S) (hp c w m)) ∧
  (∀ (sc : Nat × (Nat → Int32)) (d mm : Nat) (is : List ma_I) (L : ma_L) (S : List Value) (c m : Nat → Nat → Int32) (w : Nat → Int64) (o : List Nat) (i : Nat), i < 16 → ev sc d mm ((.iaload, o) :: is) L (.int (nI i) :: .ref 89 :: S) (hp c w m) = ev sc d mm is L (.int (c 89 i) :: S) (hp c w m)) ∧
  (∀ (sc : Nat × (Nat → Int32)) (d mm : Nat) (is : List ma_I) (L : ma_L) (S : List Value) (c m : Nat → Nat → Int32) (w : Nat → Int64) (o : List Nat) (i : Nat), i < 400 → ev sc d mm ((.iaload, o) :: is) L (.int (nI i) :: .ref 90 :: S) (hp c w m) = ev sc d mm is L (.int (c 90 i) :: S) (hp c w m)) ∧
  (∀ (sc : Nat × (Nat → Int32)) (d mm : Nat) (is : List ma_I) (L : ma_L) (S : List Value) (c m : Nat → Nat → Int32) (w : Nat → Int64) (o : List Nat) (i : Nat), i < 80 → ev sc d mm ((.iaload, o) :: is) L (.int (nI i) :: .ref 92 :: S) (hp c w m) = ev sc d mm is L (.int (c 92 i) :: S) (hp c w m)) ∧
  (∀ (sc : Nat × (Nat → Int32)) (d mm : Nat) (is : List ma_I) (L : ma_L) (S : List Value) (c m : Nat → Nat → Int32) (w : Nat → Int64) (o : List Nat) (i : Nat), i < 7 → ev sc d mm ((.iaload, o) :: is) L (.int (nI i) :: .ref 94 :: S) (hp c w m) = ev sc d mm is L (.int (c 94 i) :: S) (hp c w m)) ∧
  (∀ (sc : Nat × (Nat → Int32)) (d mm : Nat) (is : List ma_I) (L : ma_L) (S : List Value) (c m : Nat → Nat → Int32) (w : Nat → Int64) (o : List Nat) (i : Nat), i < 32 → ev sc d mm ((.iaload, o) :: is) L (.int (nI i) :: .ref 95 :: S) (hp c w m) = ev sc d mm is L (.int (c 95 i) :: S) (hp c w m)) ∧
  (∀ (sc : Nat × (Nat → Int32)) (d mm : Nat) (is : List ma_I) (L : ma_L) (S : List Value) (c m : Nat → Nat → Int32) (w : Nat → Int64) (o : List Nat) (i : Nat), i < 14 → ev sc d mm ((.iaload, o) :: is) L (.int (nI i) :: .ref 98 :: S) (hp c w m) = ev sc d mm is L (.int (c 98 i) :: S) (hp c w m)) ∧
  (∀ (sc : Nat × (Nat → Int32)) (d mm : Nat) (is : List ma_I) (L : ma_L) (S : List Value) (c m : Nat → Nat → Int32) (w : Nat → Int64) (o : List Nat) (i : Nat), i < 14 → ev sc d mm ((.iaload, o) :: is) L (.int (nI i) :: .ref 99 :: S) (hp c w m) = ev sc d mm is L (.int (c 99 i) :: S) (hp c w m)) ∧
  (∀ (sc : Nat × (Nat → Int32)) (d mm : Nat) (is : List ma_I) (L : ma_L) (S : List Value) (c m : Nat → Nat → Int32) (w : Nat → Int64) (o : List Nat) (i : Nat), i < 8 → ev sc d mm ((.iaload, o) :: is) L (.int (nI i) :: .ref 100 :: S) (hp c w m) = ev sc d mm is L (.int (c 100 i) :: S) (hp c w m)) ∧
  (∀ (sc : Nat × (Nat → Int32)) (d mm : Nat) (is : List ma_I) (L : ma_L) (S : List Value) (c m : Nat → Nat → Int32) (w : Nat → Int64) (o : List Nat) (i : Nat), i < 8 → ev sc d mm ((.iaload, o) :: is) L (.int (nI i) :: .ref 101 :: S) (hp c w m) = ev sc d mm is L (.int (c 101 i) :: S) (hp c w m)) ∧
  (∀ (sc : Nat × (Nat → Int32)) (d mm : Nat) (is : List ma_I) (L : ma_L) (S : List Value) (c m : Nat → Nat → Int32) (w : Nat → Int64) (o : List Nat) (i : Nat), i < 12 → ev sc d mm ((.iaload, o) :: is) L (.int (nI i) :: .ref 104 :: S) (hp c w m) = ev sc d mm is L (.int (c 104 i) :: S) (hp c w m)) ∧
  (∀ (sc : Nat × (Nat → Int32)) (d mm : Nat) (is : List ma_I) (L : ma_L) (S : List Value) (c m : Nat → Nat → Int32) (w : Nat → Int64) (o : List Nat) (i : Nat), i < 12 → ev sc d mm ((.iaload, o) :: is) L (.int (nI i) :: .ref 105 :: S) (hp c w m) = ev sc d mm is L (.int (c 105 i) :: S) (hp c w m)) ∧
  (∀ (sc : Nat × (Nat → Int32)) (d mm : Nat) (is : List ma_I) (L : ma_L) (S : List Value) (c m : Nat → Nat → Int32) (w : Nat → Int64) (o : List Nat) (i : Nat), i < 6 → ev sc d mm ((.iaload, o) :: is) L (.int (nI i) :: .ref 137 :: S) (hp c w m) = ev sc d mm is L (.int (c 137 i) :: S) (hp c w m)) := ⟨fun _ _ _ _ _ _ _ _ _ _ _ hi => ev_il (by decide) rfl (by decide) hi,
  fun _ _ _ _ _ _ _ _ _ _ _ hi => ev_il (by decide) rfl (by decide) hi,
  fun _ _ _ _ _ _ _ _ _ _ _ hi => ev_il (by decide) rfl (by decide) hi,
  fun _ _ _ _ _ _ _ _ _ _ _ hi => ev_il (by decide) rfl (by decide) hi,
  fun _ _ _ _ _ _ _ _ _ _ _ hi => ev_il (by decide) rfl (by decide) hi,
  fun _ _ _ _ _ _ _ _ _ _ _ hi => ev_il (by decide) rfl (by decide) hi,
  fun _ _ _ _ _ _ _ _ _ _ _ hi => ev_il (by decide) rfl (by decide) hi,
  fun _ _ _ _ _ _ _ _ _ _ _ hi => ev_il (by decide) rfl (by decide) hi,
  fun _ _ _ _ _ _ _ _ _ _ _ hi => ev_il (by decide) rfl (by decide) hi,
  fun _ _ _ _ _ _ _ _ _ _ _ hi => ev_il (by decide) rfl (by decide) hi,
  fun _ _ _ _ _ _ _ _ _ _ _ hi => ev_il (by decide) rfl (by decide) hi,
  fun _ _ _ _ _ _ _ _ _ _ _ hi => ev_il (by decide) rfl (by decide) hi,
  fun _ _ _ _ _ _ _ _ _ _ _ hi => ev_il (by decide) rfl (by decide) hi,
  fun _ _ _ _ _ _ _ _ _ _ _ hi => ev_il (by decide) rfl (by decide) hi,
  fun _ _ _ _ _ _ _ _ _ _ _ hi => ev_il (by decide) rfl (by decide) hi,
  fun _ _ _ _ _ _ _ _ _ _ _ hi => ev_il (by decide) rfl (by decide) hi,
  fun _ _ _ _ _ _ _ _ _ _ _ hi => ev_il (by decide) rfl (by decide) hi,
  fun _ _ _ _ _ _ _ _ _ _ _ hi => ev_il (by decide) rfl (by decide) hi,
  fun _ _ _ _ _ _ _ _ _ _ _ hi => ev_il (by decide) rfl (by decide) hi,
  fun _ _ _ _ _ _ _ _ _ _ _ hi => ev_il (by decide) rfl (by decide) hi,
  fun _ _ _ _ _ _ _ _ _ _ _ hi => ev_il (by decide) rfl (by decide) hi,
  fun _ _ _ _ _ _ _ _ _ _ _ hi => ev_il (by decide) rfl (by decide) hi,
  fun _ _ _ _ _ _ _ _ _ _ _ hi => ev_il (by decide) rfl (by decide) hi,
  fun _ _ _ _ _ _ _ _ _ _ _ hi => ev_il (by decide) rfl (by decide) hi,
  fun _ _ _ _ _ _ _ _ _ _ _ hi => ev_il (by decide) rfl (by decide) hi,
  fun _ _ _ _ _ _ _ _ _ _ _ hi => ev_il (by decide) rfl (by decide) hi,
  fun _ _ _ _ _ _ _ _ _ _ _ hi => ev_il (by decide) rfl (by decide) hi,
  fun _ _ _ _ _ _ _ _ _ _ _ hi => ev_il (by decide) rfl (by decide) hi,
  fun _ _ _ _ _ _ _ _ _ _ _ hi => ev_il (by decide) rfl (by decide) hi,
  fun _ _ _ _ _ _ _ _ _ _ _ hi => ev_il (by decide) rfl (by decide) hi,
  fun _ _ _ _ _ _ _ _ _ _ _ hi => ev_il (by decide) rfl (by decide) hi,
  fun _ _ _ _ _ _ _ _ _ _ _ hi => ev_il (by decide) rfl (by decide) hi,
  fun _ _ _ _ _ _ _ _ _ _ _ hi => ev_il (by decide) rfl (by decide) hi,
  fun _ _ _ _ _ _ _ _ _ _ _ hi => ev_il (by decide) rfl (by decide) hi,
  fun _ _ _ _ _ _ _ _ _ _ _ hi => ev_il (by decide) rfl (by decide) hi⟩
theorem stC : (∀ (sc : Nat × (Nat → Int32)) (d mm : Nat) (is : List ma_I) (L : ma_L) (S : List Value) (c m : Nat → Nat → Int32) (w : Nat → Int64) (o : List Nat) (i : Nat) (v : Int32), i < 8 → ev sc d mm ((.iastore, o) :: is) L (.int v :: .int (nI i) :: .ref 2 :: S) (hp c w m) = ev sc d mm is L S (hp (va_up c 2 (upd (c 2) i v)) w m)) ∧
  (∀ (sc : Nat × (Nat → Int32)) (d mm : Nat) (is : List ma_I) (L : ma_L) (S : List Value) (c m : Nat → Nat → Int32) (w : Nat → Int64) (o : List Nat) (i : Nat) (v : Int32), i < 6 → ev sc d mm ((.iastore, o) :: is) L (.int v :: .int (nI i) :: .ref 3 :: S) (hp c w m) = ev sc d mm is L S (hp (va_up c 3 (upd (c 3) i v)) w m)) ∧
  (∀ (sc : Nat × (Nat → Int32)) (d mm : Nat) (is : List ma_I) (L : ma_L) (S : List Value) (c m : Nat → Nat → Int32) (w : Nat → Int64) (o : List Nat) (i : Nat) (v : Int32), i < 6 → ev sc d mm ((.iastore, o) :: is) L (.int v :: .int (nI i) :: .ref 4 :: S) (hp c w m) = ev sc d mm is L S (hp (va_up c 4 (upd (c 4) i v)) w m)) ∧
  (∀ (sc : Nat × (Nat → Int32)) (d mm : Nat) (is : List ma_I) (L : ma_L) (S : List Value) (c m : Nat → Nat → Int32) (w : Nat → Int64) (o : List Nat) (i : Nat) (v : Int32), i < 8 → ev sc d mm ((.iastore, o) :: is) L (.int v :: .int (nI i) :: .ref 5 :: S) (hp c w m) = ev sc d mm is L S (hp (va_up c 5 (upd (c 5) i v)) w m)) ∧
  (∀ (sc : Nat × (Nat → Int32)) (d mm : Nat) (is : List ma_I) (L : ma_L) (S : List Value) (c m : Nat → Nat → Int32) (w : Nat → Int64) (o : List Nat) (i : Nat) (v : Int32), i < 8 → ev sc d mm ((.iastore, o) :: is) L (.int v :: .int (nI i) :: .ref 6 :: S) (hp c w m) = ev sc d mm is L S (hp (va_up c 6 (upd (c 6) i v)) w m)) ∧
  (∀ (sc : Nat × (Nat → Int32)) (d mm : Nat) (is : List ma_I) (L : ma_L) (S : List Value) (c m : Nat → Nat → Int32) (w : Nat → Int64) (o : List Nat) (i : Nat) (v : Int32), i < 16 → ev sc d mm ((.iastore, o) :: is) L (.int v :: .int (nI i) :: .ref 8 :: S) (hp c w m) = ev sc d mm is L S (hp (va_up c 8 (upd (c 8) i v)) w m)) ∧
  (∀ (sc : Nat × (Nat → Int32)) (d mm : Nat) (is : List ma_I) (L : ma_L) (S : List Value) (c m : Nat → Nat → Int32) (w : Nat → Int64) (o : List Nat) (i : Nat) (v : Int32), i < 16 → ev sc d mm ((.iastore, o) :: is) L (.int v :: .int (nI i) :: .ref 9 :: S) (hp c w m) = ev sc d mm is L S (hp (va_up c 9 (upd (c 9) i v)) w m)) ∧
  (∀ (sc : Nat × (Nat → Int32)) (d mm : Nat) (is : List ma_I) (L : ma_L) (S : List Value) (c m : Nat → Nat → Int32) (w : Nat → Int64) (o : List Nat) (i : Nat) (v : Int32), i < 16 → ev sc d mm ((.iastore, o) :: is) L (.int v :: .int (nI i) :: .ref 10 :: S) (hp c w m) = ev sc d mm is L S (hp (va_up c 10 (upd (c 10) i v)) w m)) ∧
  (∀ (sc : Nat × (Nat → Int32)) (d mm : Nat) (is : List ma_I) (L : ma_L) (S : List Value) (c m : Nat → Nat → Int32) (w : Nat → Int64) (o : List Nat) (i : Nat) (v : Int32), i < 16 → ev sc d mm ((.iastore, o) :: is) L (.int v :: .int (nI i) :: .ref 11 :: S) (hp c w m) = ev sc d mm is L S (hp (va_up c 11 (upd (c 11) i v)) w m)) ∧
  (∀ (sc : Nat × (Nat → Int32)) (d mm : Nat) (is : List ma_I) (L : ma_L) (S : List Value) (c m : Nat → Nat → Int32) (w : Nat → Int64) (o : List Nat) (i : Nat) (v : Int32), i < 400 → ev sc d mm ((.iastore, o) :: is) L (.int v :: .int (nI i) :: .ref 12 :: S) (hp c w m) = ev sc d mm is L S (hp (va_up c 12 (upd (c 12) i v)) w m)) ∧
  (∀ (sc : Nat × (Nat → Int32)) (d mm : Nat) (is : List ma_I) (L : ma_L) (S : List Value) (c m : Nat → Nat → Int32) (w : Nat → Int64) (o : List Nat) (i : Nat) (v : Int32), i < 80 → ev sc d mm ((.iastore, o) :: is) L (.int v :: .int (nI i) :: .ref 14 :: S) (hp c w m) = ev sc d mm is L S (hp (va_up c 14 (upd (c 14) i v)) w m)) ∧
  (∀ (sc : Nat × (Nat → Int32)) (d mm : Nat) (is : List ma_I) (L : ma_L) (S : List Value) (c m : Nat → Nat → Int32) (w : Nat → Int64) (o : List Nat) (i : Nat) (v : Int32), i < 80 → ev sc d mm ((.iastore, o) :: is) L (.int v :: .int (nI i) :: .ref 16 :: S) (hp c w m) = ev sc d mm is L S (hp (va_up c 16 (upd (c 16) i v)) w m)) ∧
  (∀ (sc : Nat × (Nat → Int32)) (d mm : Nat) (is : List ma_I) (L : ma_L) (S : List Value) (c m : Nat → Nat → Int32) (w : Nat → Int64) (o : List Nat) (i : Nat) (v : Int32), i < 14 → ev sc d mm ((.iastore, o) :: is) L (.int v :: .int (nI i) :: .ref 18 :: S) (hp c w m) = ev sc d mm is L S (hp (va_up c 18 (upd (c 18) i v)) w m)) ∧
  (∀ (sc : Nat × (Nat → Int32)) (d mm : Nat) (is : List ma_I) (L : ma_L) (S : List Value) (c m : Nat → Nat → Int32) (w : Nat → Int64) (o : List Nat) (i : Nat) (v : Int32), i < 14 → ev sc d mm ((.iastore, o) :: is) L (.int v :: .int (nI i) :: .ref 19 :: S) (hp c w m) = ev sc d mm is L S (hp (va_up c 19 (upd (c 19) i v)) w m)) ∧
  (∀ (sc : Nat × (Nat → Int32)) (d mm : Nat) (is : List ma_I) (L : ma_L) (S : List Value) (c m : Nat → Nat → Int32) (w : Nat → Int64) (o : List Nat) (i : Nat) (v : Int32), i < 8 → ev sc d mm ((.iastore, o) :: is) L (.int v :: .int (nI i) :: .ref 20 :: S) (hp c w m) = ev sc d mm is L S (hp (va_up c 20 (upd (c 20) i v)) w m)) ∧
  (∀ (sc : Nat × (Nat → Int32)) (d mm : Nat) (is : List ma_I) (L : ma_L) (S : List Value) (c m : Nat → Nat → Int32) (w : Nat → Int64) (o : List Nat) (i : Nat) (v : Int32), i < 8 → ev sc d mm ((.iastore, o) :: is) L (.int v :: .int (nI i) :: .ref 21 :: S) (hp c w m) = ev sc d mm is L S (hp (va_up c 21 (upd (c 21) i v)) w m)) ∧
  (∀ (sc : Nat × (Nat → Int32)) (d mm : Nat) (is : List ma_I) (L : ma_L) (S : List Value) (c m : Nat → Nat → Int32) (w : Nat → Int64) (o : List Nat) (i : Nat) (v : Int32), i < 600 → ev sc d mm ((.iastore, o) :: is) L (.int v :: .int (nI i) :: .ref 23 :: S) (hp c w m) = ev sc d mm is L S (hp (va_up c 23 (upd (c 23) i v)) w m)) ∧
  (∀ (sc : Nat × (Nat → Int32)) (d mm : Nat) (is : List ma_I) (L : ma_L) (S : List Value) (c m : Nat → Nat → Int32) (w : Nat → Int64) (o : List Nat) (i : Nat) (v : Int32), i < 401 → ev sc d mm ((.iastore, o) :: is) L (.int v :: .int (nI i) :: .ref 81 :: S) (hp c w m) = ev sc d mm is L S (hp (va_up c 81 (upd (c 81) i v)) w m)) ∧
  (∀ (sc : Nat × (Nat → Int32)) (d mm : Nat) (is : List ma_I) (L : ma_L) (S : List Value) (c m : Nat → Nat → Int32) (w : Nat → Int64) (o : List Nat) (i : Nat) (v : Int32), i < 401 → ev sc d mm ((.iastore, o) :: is) L (.int v :: .int (nI i) :: .ref 82 :: S) (hp c w m) = ev sc d mm is L S (hp (va_up c 82 (upd (c 82) i v)) w m)) ∧
  (∀ (sc : Nat × (Nat → Int32)) (d mm : Nat) (is : List ma_I) (L : ma_L) (S : List Value) (c m : Nat → Nat → Int32) (w : Nat → Int64) (o : List Nat) (i : Nat) (v : Int32), i < 401 → ev sc d mm ((.iastore, o) :: is) L (.int v :: .int (nI i) :: .ref 83 :: S) (hp c w m) = ev sc d mm is L S (hp (va_up c 83 (upd (c 83) i v)) w m)) ∧
  (∀ (sc : Nat × (Nat → Int32)) (d mm : Nat) (is : List ma_I) (L : ma_L) (S : List Value) (c m : Nat → Nat → Int32) (w : Nat → Int64) (o : List Nat) (i : Nat) (v : Int32), i < 16 → ev sc d mm ((.iastore, o) :: is) L (.int v :: .int (nI i) :: .ref 86 :: S) (hp c w m) = ev sc d mm is L S (hp (va_up c 86 (upd (c 86) i v)) w m)) ∧
  (∀ (sc : Nat × (Nat → Int32)) (d mm : Nat) (is : List ma_I) (L : ma_L) (S : List Value) (c m : Nat → Nat → Int32) (w : Nat → Int64) (o : List Nat) (i : Nat) (v : Int32), i < 16 → ev sc d mm ((.iastore, o) :: is) L (.int v :: .int (nI i) :: .ref 87 :: S) (hp c w m) = ev sc d mm is L S (hp (va_up c 87 (upd (c 87) i v)) w m)) ∧
  (∀ (sc : Nat × (Nat → Int32)) (d mm : Nat) (is : List ma_I) (L : ma_L) (S : List Value) (c m : Nat → Nat → Int32) (w : Nat → Int64) (o : List Nat) (i : Nat) (v : Int32), i < 16 → ev sc d mm ((.iastore, o) :: is) L (.int v :: .int (nI i) :: .ref 88 :: S) (hp c w m) = ev sc d mm is L S (hp (va_up c 88 (upd (c 88) i v)) w m)) ∧
  (∀ (sc : Nat × (Nat → Int32)) (d mm : Nat) (is : List ma_I) (L : ma_L) (S : List Value) (c m : Nat → Nat → Int32) (w : Nat → Int64) (o : List Nat) (i : Nat) (v : Int32), i < 16 → ev sc d mm ((.iastore, o) :: is) L (.int v :: .int (nI i) :: .ref 89 :: S) (hp c w m) = ev sc d mm is L S (hp (va_up c 89 (upd (c 89) i v)) w m)) ∧
  (∀ (sc : Nat × (Nat → Int32)) (d mm : Nat) (is : List ma_I) (L : ma_L) (S : List Value) (c m : Nat → Nat → Int32) (w : Nat → Int64) (o : List Nat) (i : Nat) (v : Int32), i < 400 → ev sc d mm ((.iastore, o) :: is) L (.int v :: .int (nI i) :: .ref 90 :: S) (hp c w m) = ev sc d mm is L S (hp (va_up c 90 (upd (c 90) i v)) w m)) ∧
  (∀ (sc : Nat × (Nat → Int32)) (d mm : Nat) (is : List ma_I) (L : ma_L) (S : List Value) (c m : Nat → Nat → Int32) (w : Nat → Int64) (o : List Nat) (i : Nat) (v : Int32), i < 80 → ev sc d mm ((.iastore, o) :: is) L (.int v :: .int (nI i) :: .ref 92 :: S) (hp c w m) = ev sc d mm is L S (hp (va_up c 92 (upd (c 92) i v)) w m)) ∧
  (∀ (sc : Nat × (Nat → Int32)) (d mm : Nat) (is : List ma_I) (L : ma_L) (S : List Value) (c m : Nat → Nat → Int32) (w : Nat → Int64) (o : List Nat) (i : Nat) (v : Int32), i < 7 → ev sc d mm ((.iastore, o) :: is) L (.int v :: .int (nI i) :: .ref 94 :: S) (hp c w m) = ev sc d mm is L S (hp (va_up c 94 (upd (c 94) i v)) w m)) ∧
  (∀ (sc : Nat × (Nat → Int32)) (d mm : Nat) (is : List ma_I) (L : ma_L) (S : List Value) (c m : Nat → Nat → Int32) (w : Nat → Int64) (o : List Nat) (i : Nat) (v : Int32), i < 32 → ev sc d mm ((.iastore, o) :: is) L (.int v :: .int (nI i) :: .ref 95 :: S) (hp c w m) = ev sc d mm is L S (hp (va_up c 95 (upd (c 95) i v)) w m)) ∧
  (∀ (sc : Nat × (Nat → Int32)) (d mm : Nat) (is : List ma_I) (L : ma_L) (S : List Value) (c m : Nat → Nat → Int32) (w : Nat → Int64) (o : List Nat) (i : Nat) (v : Int32), i < 14 → ev sc d mm ((.iastore, o) :: is) L (.int v :: .int (nI i) :: .ref 98 :: S) (hp c w m) = ev sc d mm is L S (hp (va_up c 98 (upd (c 98) i v)) w m)) ∧
  (∀ (sc : Nat × (Nat → Int32)) (d mm : Nat) (is : List ma_I) (L : ma_L) (S : List Value) (c m : Nat → Nat → Int32) (w : Nat → Int64) (o : List Nat) (i : Nat) (v : Int32), i < 14 → ev sc d mm ((.iastore, o) :: is) L (.int v :: .int (nI i) :: .ref 99 :: S) (hp c w m) = ev sc d mm is L S (hp (va_up c 99 (upd (c 99) i v)) w m)) ∧
  (∀ (sc : Nat × (Nat → Int32)) (d mm : Nat) (is : List ma_I) (L : ma_L) (S : List Value) (c m : Nat → Nat → Int32) (w : Nat → Int64) (o : List Nat) (i : Nat) (v : Int32), i < 8 → ev sc d mm ((.iastore, o) :: is) L (.int v :: .int (nI i) :: .ref 100 :: S) (hp c w m) = ev sc d mm is L S (hp (va_up c 100 (upd (c 100) i v)) w m)) ∧
  (∀ (sc : Nat × (Nat → Int32)) (d mm : Nat) (is : List ma_I) (L : ma_L) (S : List Value) (c m : Nat → Nat → Int32) (w : Nat → Int64) (o : List Nat) (i : Nat) (v : Int32), i < 8 → ev sc d mm ((.iastore, o) :: is) L (.int v :: .int (nI i) :: .ref 101 :: S) (hp c w m) = ev sc d mm is L S (hp (va_up c 101 (upd (c 101) i v)) w m)) ∧
  (∀ (sc : Nat × (Nat → Int32)) (d mm : Nat) (is : List ma_I) (L : ma_L) (S : List Value) (c m : Nat → Nat → Int32) (w : Nat → Int64) (o : List Nat) (i : Nat) (v : Int32), i < 12 → ev sc d mm ((.iastore, o) :: is) L (.int v :: .int (nI i) :: .ref 104 :: S) (hp c w m) = ev sc d mm is L S (hp (va_up c 104 (upd (c 104) i v)) w m)) ∧
  (∀ (sc : Nat × (Nat → Int32)) (d mm : Nat) (is : List ma_I) (L : ma_L) (S : List Value) (c m : Nat → Nat → Int32) (w : Nat → Int64) (o : List Nat) (i : Nat) (v : Int32), i < 12 → ev sc d mm ((.iastore, o) :: is) L (.int v :: .int (nI i) :: .ref 105 :: S) (hp c w m) = ev sc d mm is L S (hp (va_up c 105 (upd (c 105) i v)) w m)) ∧
  (∀ (sc : Nat × (Nat → Int32)) (d mm : Nat) (is : List ma_I) (L : ma_L) (S : List Value) (c m : Nat → Nat → Int32) (w : Nat → Int64) (o : List Nat) (i : Nat) (v : Int32), i < 6 → ev sc d mm ((.iastore, o) :: is) L (.int v :: .int (nI i) :: .ref 137 :: S) (hp c w m) = ev sc d mm is L S (hp (va_up c 137 (upd (c 137) i v)) w m)) := ⟨fun _ _ _ _ _ _ _ _ _ _ _ _ hi => ev_isC (by decide) (fun _ => rfl) (by decide) hi,
  fun _ _ _ _ _ _ _ _ _ _ _ _ hi => ev_isC (by decide) (fun _ => rfl) (by decide) hi,
  fun _ _ _ _ _ _ _ _ _ _ _ _ hi => ev_isC (by decide) (fun _ => rfl) (by decide) hi,
  fun _ _ _ _ _ _ _ _ _ _ _ _ hi => ev_isC (by decide) (fun _ => rfl) (by decide) hi,
  fun _ _ _ _ _ _ _ _ _ _ _ _ hi => ev_isC (by decide) (fun _ => rfl) (by decide) hi,
  fun _ _ _ _ _ _ _ _ _ _ _ _ hi => ev_isC (by decide) (fun _ => rfl) (by decide) hi,
  fun _ _ _ _ _ _ _ _ _ _ _ _ hi => ev_isC (by decide) (fun _ => rfl) (by decide) hi,
  fun _ _ _ _ _ _ _ _ _ _ _ _ hi => ev_isC (by decide) (fun _ => rfl) (by decide) hi,
  fun _ _ _ _ _ _ _ _ _ _ _ _ hi => ev_isC (by decide) (fun _ => rfl) (by decide) hi,
  fun _ _ _ _ _ _ _ _ _ _ _ _ hi => ev_isC (by decide) (fun _ => rfl) (by decide) hi,
  fun _ _ _ _ _ _ _ _ _ _ _ _ hi => ev_isC (by decide) (fun _ => rfl) (by decide) hi,
  fun _ _ _ _ _ _ _ _ _ _ _ _ hi => ev_isC (by decide) (fun _ => rfl) (by decide) hi,
  fun _ _ _ _ _ _ _ _ _ _ _ _ hi => ev_isC (by decide) (fun _ => rfl) (by decide) hi,
  fun _ _ _ _ _ _ _ _ _ _ _ _ hi => ev_isC (by decide) (fun _ => rfl) (by decide) hi,
  fun _ _ _ _ _ _ _ _ _ _ _ _ hi => ev_isC (by decide) (fun _ => rfl) (by decide) hi,
  fun _ _ _ _ _ _ _ _ _ _ _ _ hi => ev_isC (by decide) (fun _ => rfl) (by decide) hi,
  fun _ _ _ _ _ _ _ _ _ _ _ _ hi => ev_isC (by decide) (fun _ => rfl) (by decide) hi,
  fun _ _ _ _ _ _ _ _ _ _ _ _ hi => ev_isC (by decide) (fun _ => rfl) (by decide) hi,
  fun _ _ _ _ _ _ _ _ _ _ _ _ hi => ev_isC (by decide) (fun _ => rfl) (by decide) hi,
  fun _ _ _ _ _ _ _ _ _ _ _ _ hi => ev_isC (by decide) (fun _ => rfl) (by decide) hi,
  fun _ _ _ _ _ _ _ _ _ _ _ _ hi => ev_isC (by decide) (fun _ => rfl) (by decide) hi,
  fun _ _ _ _ _ _ _ _ _ _ _ _ hi => ev_isC (by decide) (fun _ => rfl) (by decide) hi,
  fun _ _ _ _ _ _ _ _ _ _ _ _ hi => ev_isC (by decide) (fun _ => rfl) (by decide) hi,
  fun _ _ _ _ _ _ _ _ _ _ _ _ hi => ev_isC (by decide) (fun _ => rfl) (by decide) hi,
  fun _ _ _ _ _ _ _ _ _ _ _ _ hi => ev_isC (by decide) (fun _ => rfl) (by decide) hi,
  fun _ _ _ _ _ _ _ _ _ _ _ _ hi => ev_isC (by decide) (fun _ => rfl) (by decide) hi,
  fun _ _ _ _ _ _ _ _ _ _ _ _ hi => ev_isC (by decide) (fun _ => rfl) (by decide) hi,
  fun _ _ _ _ _ _ _ _ _ _ _ _ hi => ev_isC (by decide) (fun _ => rfl) (by decide) hi,
  fun _ _ _ _ _ _ _ _ _ _ _ _ hi => ev_isC (by decide) (fun _ => rfl) (by decide) hi,
  fun _ _ _ _ _ _ _ _ _ _ _ _ hi => ev_isC (by decide) (fun _ => rfl) (by decide) hi,
  fun _ _ _ _ _ _ _ _ _ _ _ _ hi => ev_isC (by decide) (fun _ => rfl) (by decide) hi,
  fun _ _ _ _ _ _ _ _ _ _ _ _ hi => ev_isC (by decide) (fun _ => rfl) (by decide) hi,
  fun _ _ _ _ _ _ _ _ _ _ _ _ hi => ev_isC (by decide) (fun _ => rfl) (by decide) hi,
  fun _ _ _ _ _ _ _ _ _ _ _ _ hi => ev_isC (by decide) (fun _ => rfl) (by decide) hi,
  fun _ _ _ _ _ _ _ _ _ _ _ _ hi => ev_isC (by decide) (fun _ => rfl) (by decide) hi⟩
theorem ldI : (∀ (sc : Nat × (Nat → Int32)) (d mm : Nat) (is : List ma_I) (L : ma_L) (S : List Value) (c m : Nat → Nat → Int32) (w : Nat → Int64) (o : List Nat) (i : Nat), i < 8 → ev sc d mm ((.iaload, o) :: is) L (.int (nI i) :: .ref 25 :: S) (hp c w m) = ev sc d mm is L (.int (c 25 i) :: S) (hp c w m)) ∧
  (∀ (sc : Nat × (Nat → Int32)) (d mm : Nat) (is : List ma_I) (L : ma_L) (S : List Value) (c m : Nat → Nat → Int32) (w : Nat → Int64) (o : List Nat) (i : Nat), i < 6 → ev sc d mm ((.iaload, o) :: is) L (.int (nI i) :: .ref 26 :: S) (hp c w m) = ev sc d mm is L (.int (c 26 i) :: S) (hp c w m)) ∧
  (∀ (sc : Nat × (Nat → Int32)) (d mm : Nat) (is : List ma_I) (L : ma_L) (S : List Value) (c m : Nat → Nat → Int32) (w : Nat → Int64) (o : List Nat) (i : Nat), i < 6 → ev sc d mm ((.iaload, o) :: is) L (.int (nI i) :: .ref 27 :: S) (hp c w m) = ev sc d mm is L (.int (c 27 i) :: S) (hp c w m)) ∧
  (∀ (sc : Nat × (Nat → Int32)) (d mm : Nat) (is : List ma_I) (L : ma_L) (S : List Value) (c m : Nat → Nat → Int32) (w : Nat → Int64) (o : List Nat) (i : Nat), i < 8 → ev sc d mm ((.iaload, o) :: is) L (.int (nI i) :: .ref 28 :: S) (hp c w m) = ev sc d mm is L (.int (c 28 i) :: S) (hp c w m)) ∧
  (∀ (sc : Nat × (Nat → Int32)) (d mm : Nat) (is : List ma_I) (L : ma_L) (S : List Value) (c m : Nat → Nat → Int32) (w : Nat → Int64) (o : List Nat) (i : Nat), i < 8 → ev sc d mm ((.iaload, o) :: is) L (.int (nI i) :: .ref 29 :: S) (hp c w m) = ev sc d mm is L (.int (c 29 i) :: S) (hp c w m)) ∧
  (∀ (sc : Nat × (Nat → Int32)) (d mm : Nat) (is : List ma_I) (L : ma_L) (S : List Value) (c m : Nat → Nat → Int32) (w : Nat → Int64) (o : List Nat) (i : Nat), i < 16 → ev sc d mm ((.iaload, o) :: is) L (.int (nI i) :: .ref 31 :: S) (hp c w m) = ev sc d mm is L (.int (c 31 i) :: S) (hp c w m)) ∧
  (∀ (sc : Nat × (Nat → Int32)) (d mm : Nat) (is : List ma_I) (L : ma_L) (S : List Value) (c m : Nat → Nat → Int32) (w : Nat → Int64) (o : List Nat) (i : Nat), i < 16 → ev sc d mm ((.iaload, o) :: is) L (.int (nI i) :: .ref 32 :: S) (hp c w m) = ev sc d mm is L (.int (c 32 i) :: S) (hp c w m)) ∧
  (∀ (sc : Nat × (Nat → Int32)) (d mm : Nat) (is : List ma_I) (L : ma_L) (S : List Value) (c m : Nat → Nat → Int32) (w : Nat → Int64) (o : List Nat) (i : Nat), i < 16 → ev sc d mm ((.iaload, o) :: is) L (.int (nI i) :: .ref 33 :: S) (hp c w m) = ev sc d mm is L (.int (c 33 i) :: S) (hp c w m)) ∧
  (∀ (sc : Nat × (Nat → Int32)) (d mm : Nat) (is : List ma_I) (L : ma_L) (S : List Value) (c m : Nat → Nat → Int32) (w : Nat → Int64) (o : List Nat) (i : Nat), i < 16 → ev sc d mm ((.iaload, o) :: is) L (.int (nI i) :: .ref 34 :: S) (hp c w m) = ev sc d mm is L (.int (c 34 i) :: S) (hp c w m)) ∧
  (∀ (sc : Nat × (Nat → Int32)) (d mm : Nat) (is : List ma_I) (L : ma_L) (S : List Value) (c m : Nat → Nat → Int32) (w : Nat → Int64) (o : List Nat) (i : Nat), i < 400 → ev sc d mm ((.iaload, o) :: is) L (.int (nI i) :: .ref 35 :: S) (hp c w m) = ev sc d mm is L (.int (c 35 i) :: S) (hp c w m)) ∧
  (∀ (sc : Nat × (Nat → Int32)) (d mm : Nat) (is : List ma_I) (L : ma_L) (S : List Value) (c m : Nat → Nat → Int32) (w : Nat → Int64) (o : List Nat) (i : Nat), i < 80 → ev sc d mm ((.iaload, o) :: is) L (.int (nI i) :: .ref 37 :: S) (hp c w m) = ev sc d mm is L (.int (c 37 i) :: S) (hp c w m)) ∧
  (∀ (sc : Nat × (Nat → Int32)) (d mm : Nat) (is : List ma_I) (L : ma_L) (S : List Value) (c m : Nat → Nat → Int32) (w : Nat → Int64) (o : List Nat) (i : Nat), i < 80 → ev sc d mm ((.iaload, o) :: is) L (.int (nI i) :: .ref 39 :: S) (hp c w m) = ev sc d mm is L (.int (c 39 i) :: S) (hp c w m)) ∧
  (∀ (sc : Nat × (Nat → Int32)) (d mm : Nat) (is : List ma_I) (L : ma_L) (S : List Value) (c m : Nat → Nat → Int32) (w : Nat → Int64) (o : List Nat) (i : Nat), i < 14 → ev sc d mm ((.iaload, o) :: is) L (.int (nI i) :: .ref 41 :: S) (hp c w m) = ev sc d mm is L (.int (c 41 i) :: S) (hp c w m)) ∧
  (∀ (sc : Nat × (Nat → Int32)) (d mm : Nat) (is : List ma_I) (L : ma_L) (S : List Value) (c m : Nat → Nat → Int32) (w : Nat → Int64) (o : List Nat) (i : Nat), i < 14 → ev sc d mm ((.iaload, o) :: is) L (.int (nI i) :: .ref 42 :: S) (hp c w m) = ev sc d mm is L (.int (c 42 i) :: S) (hp c w m)) ∧
  (∀ (sc : Nat × (Nat → Int32)) (d mm : Nat) (is : List ma_I) (L : ma_L) (S : List Value) (c m : Nat → Nat → Int32) (w : Nat → Int64) (o : List Nat) (i : Nat), i < 8 → ev sc d mm ((.iaload, o) :: is) L (.int (nI i) :: .ref 43 :: S) (hp c w m) = ev sc d mm is L (.int (c 43 i) :: S) (hp c w m)) ∧
  (∀ (sc : Nat × (Nat → Int32)) (d mm : Nat) (is : List ma_I) (L : ma_L) (S : List Value) (c m : Nat → Nat → Int32) (w : Nat → Int64) (o : List Nat) (i : Nat), i < 8 → ev sc d mm ((.iaload, o) :: is) L (.int (nI i) :: .ref 44 :: S) (hp c w m) = ev sc d mm is L (.int (c 44 i) :: S) (hp c w m)) ∧
  (∀ (sc : Nat × (Nat → Int32)) (d mm : Nat) (is : List ma_I) (L : ma_L) (S : List Value) (c m : Nat → Nat → Int32) (w : Nat → Int64) (o : List Nat) (i : Nat), i < 600 → ev sc d mm ((.iaload, o) :: is) L (.int (nI i) :: .ref 46 :: S) (hp c w m) = ev sc d mm is L (.int (c 46 i) :: S) (hp c w m)) := ⟨fun _ _ _ _ _ _ _ _ _ _ _ hi => ev_il (by decide) rfl (by decide) hi,
  fun _ _ _ _ _ _ _ _ _ _ _ hi => ev_il (by decide) rfl (by decide) hi,
  fun _ _ _ _ _ _ _ _ _ _ _ hi => ev_il (by decide) rfl (by decide) hi,
  fun _ _ _ _ _ _ _ _ _ _ _ hi => ev_il (by decide) rfl (by decide) hi,
  fun _ _ _ _ _ _ _ _ _ _ _ hi => ev_il (by decide) rfl (by decide) hi,
  fun _ _ _ _ _ _ _ _ _ _ _ hi => ev_il (by decide) rfl (by decide) hi,
  fun _ _ _ _ _ _ _ _ _ _ _ hi => ev_il (by decide) rfl (by decide) hi,
  fun _ _ _ _ _ _ _ _ _ _ _ hi => ev_il (by decide) rfl (by decide) hi,
  fun _ _ _ _ _ _ _ _ _ _ _ hi => ev_il (by decide) rfl (by decide) hi,
  fun _ _ _ _ _ _ _ _ _ _ _ hi => ev_il (by decide) rfl (by decide) hi,
  fun _ _ _ _ _ _ _ _ _ _ _ hi => ev_il (by decide) rfl (by decide) hi,
  fun _ _ _ _ _ _ _ _ _ _ _ hi => ev_il (by decide) rfl (by decide) hi,
  fun _ _ _ _ _ _ _ _ _ _ _ hi => ev_il (by decide) rfl (by decide) hi,
  fun _ _ _ _ _ _ _ _ _ _ _ hi => ev_il (by decide) rfl (by decide) hi,
  fun _ _ _ _ _ _ _ _ _ _ _ hi => ev_il (by decide) rfl (by decide) hi,
  fun _ _ _ _ _ _ _ _ _ _ _ hi => ev_il (by decide) rfl (by decide) hi,
  fun _ _ _ _ _ _ _ _ _ _ _ hi => ev_il (by decide) rfl (by decide) hi⟩
theorem stI : (∀ (sc : Nat × (Nat → Int32)) (d mm : Nat) (is : List ma_I) (L : ma_L) (S : List Value) (c m : Nat → Nat → Int32) (w : Nat → Int64) (o : List Nat) (i : Nat) (v : Int32), i < 8 → ev sc d mm ((.iastore, o) :: is) L (.int v :: .int (nI i) :: .ref 25 :: S) (hp c w m) = ev sc d mm is L S (hp (va_up c 25 (upd (c 25) i v)) w m)) ∧
  (∀ (sc : Nat × (Nat → Int32)) (d mm : Nat) (is : List ma_I) (L : ma_L) (S : List Value) (c m : Nat → Nat → Int32) (w : Nat → Int64) (o : List Nat) (i : Nat) (v : Int32), i < 6 → ev sc d mm ((.iastore, o) :: is) L (.int v :: .int (nI i) :: .ref 26 :: S) (hp c w m) = ev sc d mm is L S (hp (va_up c 26 (upd (c 26) i v)) w m)) ∧
  (∀ (sc : Nat × (Nat → Int32)) (d mm : Nat) (is : List ma_I) (L : ma_L) (S : List Value) (c m : Nat → Nat → Int32) (w : Nat → Int64) (o : List Nat) (i : Nat) (v : Int32), i < 6 → ev sc d mm ((.iastore, o) :: is) L (.int v :: .int (nI i) :: .ref 27 :: S) (hp c w m) = ev sc d mm is L S (hp (va_up c 27 (upd (c 27) i v)) w m)) ∧
  (∀ (sc : Nat × (Nat → Int32)) (d mm : Nat) (is : List ma_I) (L : ma_L) (S : List Value) (c m : Nat → Nat → Int32) (w : Nat → Int64) (o : List Nat) (i : Nat) (v : Int32), i < 8 → ev sc d mm ((.iastore, o) :: is) L (.int v :: .int (nI i) :: .ref 28 :: S) (hp c w m) = ev sc d mm is L S (hp (va_up c 28 (upd (c 28) i v)) w m)) ∧
  (∀ (sc : Nat × (Nat → Int32)) (d mm : Nat) (is : List ma_I) (L : ma_L) (S : List Value) (c m : Nat → Nat → Int32) (w : Nat → Int64) (o : List Nat) (i : Nat) (v : Int32), i < 8 → ev sc d mm ((.iastore, o) :: is) L (.int v :: .int (nI i) :: .ref 29 :: S) (hp c w m) = ev sc d mm is L S (hp (va_up c 29 (upd (c 29) i v)) w m)) ∧
  (∀ (sc : Nat × (Nat → Int32)) (d mm : Nat) (is : List ma_I) (L : ma_L) (S : List Value) (c m : Nat → Nat → Int32) (w : Nat → Int64) (o : List Nat) (i : Nat) (v : Int32), i < 16 → ev sc d mm ((.iastore, o) :: is) L (.int v :: .int (nI i) :: .ref 31 :: S) (hp c w m) = ev sc d mm is L S (hp (va_up c 31 (upd (c 31) i v)) w m)) ∧
  (∀ (sc : Nat × (Nat → Int32)) (d mm : Nat) (is : List ma_I) (L : ma_L) (S : List Value) (c m : Nat → Nat → Int32) (w : Nat → Int64) (o : List Nat) (i : Nat) (v : Int32), i < 16 → ev sc d mm ((.iastore, o) :: is) L (.int v :: .int (nI i) :: .ref 32 :: S) (hp c w m) = ev sc d mm is L S (hp (va_up c 32 (upd (c 32) i v)) w m)) ∧
  (∀ (sc : Nat × (Nat → Int32)) (d mm : Nat) (is : List ma_I) (L : ma_L) (S : List Value) (c m : Nat → Nat → Int32) (w : Nat → Int64) (o : List Nat) (i : Nat) (v : Int32), i < 16 → ev sc d mm ((.iastore, o) :: is) L (.int v :: .int (nI i) :: .ref 33 :: S) (hp c w m) = ev sc d mm is L S (hp (va_up c 33 (upd (c 33) i v)) w m)) ∧
  (∀ (sc : Nat × (Nat → Int32)) (d mm : Nat) (is : List ma_I) (L : ma_L) (S : List Value) (c m : Nat → Nat → Int32) (w : Nat → Int64) (o : List Nat) (i : Nat) (v : Int32), i < 16 → ev sc d mm ((.iastore, o) :: is) L (.int v :: .int (nI i) :: .ref 34 :: S) (hp c w m) = ev sc d mm is L S (hp (va_up c 34 (upd (c 34) i v)) w m)) ∧
  (∀ (sc : Nat × (Nat → Int32)) (d mm : Nat) (is : List ma_I) (L : ma_L) (S : List Value) (c m : Nat → Nat → Int32) (w : Nat → Int64) (o : List Nat) (i : Nat) (v : Int32), i < 400 → ev sc d mm ((.iastore, o) :: is) L (.int v :: .int (nI i) :: .ref 35 :: S) (hp c w m) = ev sc d mm is L S (hp (va_up c 35 (upd (c 35) i v)) w m)) ∧
  (∀ (sc : Nat × (Nat → Int32)) (d mm : Nat) (is : List ma_I) (L : ma_L) (S : List Value) (c m : Nat → Nat → Int32) (w : Nat → Int64) (o : List Nat) (i : Nat) (v : Int32), i < 80 → ev sc d mm ((.iastore, o) :: is) L (.int v :: .int (nI i) :: .ref 37 :: S) (hp c w m) = ev sc d mm is L S (hp (va_up c 37 (upd (c 37) i v)) w m)) ∧
  (∀ (sc : Nat × (Nat → Int32)) (d mm : Nat) (is : List ma_I) (L : ma_L) (S : List Value) (c m : Nat → Nat → Int32) (w : Nat → Int64) (o : List Nat) (i : Nat) (v : Int32), i < 80 → ev sc d mm ((.iastore, o) :: is) L (.int v :: .int (nI i) :: .ref 39 :: S) (hp c w m) = ev sc d mm is L S (hp (va_up c 39 (upd (c 39) i v)) w m)) ∧
  (∀ (sc : Nat × (Nat → Int32)) (d mm : Nat) (is : List ma_I) (L : ma_L) (S : List Value) (c m : Nat → Nat → Int32) (w : Nat → Int64) (o : List Nat) (i : Nat) (v : Int32), i < 14 → ev sc d mm ((.iastore, o) :: is) L (.int v :: .int (nI i) :: .ref 41 :: S) (hp c w m) = ev sc d mm is L S (hp (va_up c 41 (upd (c 41) i v)) w m)) ∧
  (∀ (sc : Nat × (Nat → Int32)) (d mm : Nat) (is : List ma_I) (L : ma_L) (S : List Value) (c m : Nat → Nat → Int32) (w : Nat → Int64) (o : List Nat) (i : Nat) (v : Int32), i < 14 → ev sc d mm ((.iastore, o) :: is) L (.int v :: .int (nI i) :: .ref 42 :: S) (hp c w m) = ev sc d mm is L S (hp (va_up c 42 (upd (c 42) i v)) w m)) ∧
  (∀ (sc : Nat × (Nat → Int32)) (d mm : Nat) (is : List ma_I) (L : ma_L) (S : List Value) (c m : Nat → Nat → Int32) (w : Nat → Int64) (o : List Nat) (i : Nat) (v : Int32), i < 8 → ev sc d mm ((.iastore, o) :: is) L (.int v :: .int (nI i) :: .ref 43 :: S) (hp c w m) = ev sc d mm is L S (hp (va_up c 43 (upd (c 43) i v)) w m)) ∧
  (∀ (sc : Nat × (Nat → Int32)) (d mm : Nat) (is : List ma_I) (L : ma_L) (S : List Value) (c m : Nat → Nat → Int32) (w : Nat → Int64) (o : List Nat) (i : Nat) (v : Int32), i < 8 → ev sc d mm ((.iastore, o) :: is) L (.int v :: .int (nI i) :: .ref 44 :: S) (hp c w m) = ev sc d mm is L S (hp (va_up c 44 (upd (c 44) i v)) w m)) ∧
  (∀ (sc : Nat × (Nat → Int32)) (d mm : Nat) (is : List ma_I) (L : ma_L) (S : List Value) (c m : Nat → Nat → Int32) (w : Nat → Int64) (o : List Nat) (i : Nat) (v : Int32), i < 600 → ev sc d mm ((.iastore, o) :: is) L (.int v :: .int (nI i) :: .ref 46 :: S) (hp c w m) = ev sc d mm is L S (hp (va_up c 46 (upd (c 46) i v)) w m)) := ⟨fun _ _ _ _ _ _ _ _ _ _ _ _ hi => ev_isC (by decide) (fun _ => rfl) (by decide) hi,
  fun _ _ _ _ _ _ _ _ _ _ _ _ hi => ev_isC (by decide) (fun _ => rfl) (by decide) hi,
  fun _ _ _ _ _ _ _ _ _ _ _ _ hi => ev_isC (by decide) (fun _ => rfl) (by decide) hi,
  fun _ _ _ _ _ _ _ _ _ _ _ _ hi => ev_isC (by decide) (fun _ => rfl) (by decide) hi,
  fun _ _ _ _ _ _ _ _ _ _ _ _ hi => ev_isC (by decide) (fun _ => rfl) (by decide) hi,
  fun _ _ _ _ _ _ _ _ _ _ _ _ hi => ev_isC (by decide) (fun _ => rfl) (by decide) hi,
  fun _ _ _ _ _ _ _ _ _ _ _ _ hi => ev_isC (by decide) (fun _ => rfl) (by decide) hi,
  fun _ _ _ _ _ _ _ _ _ _ _ _ hi => ev_isC (by decide) (fun _ => rfl) (by decide) hi,
  fun _ _ _ _ _ _ _ _ _ _ _ _ hi => ev_isC (by decide) (fun _ => rfl) (by decide) hi,
  fun _ _ _ _ _ _ _ _ _ _ _ _ hi => ev_isC (by decide) (fun _ => rfl) (by decide) hi,
  fun _ _ _ _ _ _ _ _ _ _ _ _ hi => ev_isC (by decide) (fun _ => rfl) (by decide) hi,
  fun _ _ _ _ _ _ _ _ _ _ _ _ hi => ev_isC (by decide) (fun _ => rfl) (by decide) hi,
  fun _ _ _ _ _ _ _ _ _ _ _ _ hi => ev_isC (by decide) (fun _ => rfl) (by decide) hi,
  fun _ _ _ _ _ _ _ _ _ _ _ _ hi => ev_isC (by decide) (fun _ => rfl) (by decide) hi,
  fun _ _ _ _ _ _ _ _ _ _ _ _ hi => ev_isC (by decide) (fun _ => rfl) (by decide) hi,
  fun _ _ _ _ _ _ _ _ _ _ _ _ hi => ev_isC (by decide) (fun _ => rfl) (by decide) hi,
  fun _ _ _ _ _ _ _ _ _ _ _ _ hi => ev_isC (by decide) (fun _ => rfl) (by decide) hi⟩
theorem ldK : (∀ (sc : Nat × (Nat → Int32)) (d mm : Nat) (is : List ma_I) (L : ma_L) (S : List Value) (c m : Nat → Nat → Int32) (w : Nat → Int64) (o : List Nat) (i : Nat), i < 14 → ev sc d mm ((.iaload, o) :: is) L (.int (nI i) :: .ref 50 :: S) (hp c w m) = ev sc d mm is L (.int (c 50 i) :: S) (hp c w m)) ∧
  (∀ (sc : Nat × (Nat → Int32)) (d mm : Nat) (is : List ma_I) (L : ma_L) (S : List Value) (c m : Nat → Nat → Int32) (w : Nat → Int64) (o : List Nat) (i : Nat), i < 14 → ev sc d mm ((.iaload, o) :: is) L (.int (nI i) :: .ref 51 :: S) (hp c w m) = ev sc d mm is L (.int (c 51 i) :: S) (hp c w m)) ∧
  (∀ (sc : Nat × (Nat → Int32)) (d mm : Nat) (is : List ma_I) (L : ma_L) (S : List Value) (c m : Nat → Nat → Int32) (w : Nat → Int64) (o : List Nat) (i : Nat), i < 8 → ev sc d mm ((.iaload, o) :: is) L (.int (nI i) :: .ref 52 :: S) (hp c w m) = ev sc d mm is L (.int (c 52 i) :: S) (hp c w m)) ∧
  (∀ (sc : Nat × (Nat → Int32)) (d mm : Nat) (is : List ma_I) (L : ma_L) (S : List Value) (c m : Nat → Nat → Int32) (w : Nat → Int64) (o : List Nat) (i : Nat), i < 8 → ev sc d mm ((.iaload, o) :: is) L (.int (nI i) :: .ref 53 :: S) (hp c w m) = ev sc d mm is L (.int (c 53 i) :: S) (hp c w m)) ∧
  (∀ (sc : Nat × (Nat → Int32)) (d mm : Nat) (is : List ma_I) (L : ma_L) (S : List Value) (c m : Nat → Nat → Int32) (w : Nat → Int64) (o : List Nat) (i : Nat), i < 14 → ev sc d mm ((.iaload, o) :: is) L (.int (nI i) :: .ref 55 :: S) (hp c w m) = ev sc d mm is L (.int (c 55 i) :: S) (hp c w m)) ∧
  (∀ (sc : Nat × (Nat → Int32)) (d mm : Nat) (is : List ma_I) (L : ma_L) (S : List Value) (c m : Nat → Nat → Int32) (w : Nat → Int64) (o : List Nat) (i : Nat), i < 14 → ev sc d mm ((.iaload, o) :: is) L (.int (nI i) :: .ref 56 :: S) (hp c w m) = ev sc d mm is L (.int (c 56 i) :: S) (hp c w m)) ∧
  (∀ (sc : Nat × (Nat → Int32)) (d mm : Nat) (is : List ma_I) (L : ma_L) (S : List Value) (c m : Nat → Nat → Int32) (w : Nat → Int64) (o : List Nat) (i : Nat), i < 8 → ev sc d mm ((.iaload, o) :: is) L (.int (nI i) :: .ref 57 :: S) (hp c w m) = ev sc d mm is L (.int (c 57 i) :: S) (hp c w m)) ∧
  (∀ (sc : Nat × (Nat → Int32)) (d mm : Nat) (is : List ma_I) (L : ma_L) (S : List Value) (c m : Nat → Nat → Int32) (w : Nat → Int64) (o : List Nat) (i : Nat), i < 8 → ev sc d mm ((.iaload, o) :: is) L (.int (nI i) :: .ref 58 :: S) (hp c w m) = ev sc d mm is L (.int (c 58 i) :: S) (hp c w m)) ∧
  (∀ (sc : Nat × (Nat → Int32)) (d mm : Nat) (is : List ma_I) (L : ma_L) (S : List Value) (c m : Nat → Nat → Int32) (w : Nat → Int64) (o : List Nat) (i : Nat), i < 14 → ev sc d mm ((.iaload, o) :: is) L (.int (nI i) :: .ref 60 :: S) (hp c w m) = ev sc d mm is L (.int (c 60 i) :: S) (hp c w m)) ∧
  (∀ (sc : Nat × (Nat → Int32)) (d mm : Nat) (is : List ma_I) (L : ma_L) (S : List Value) (c m : Nat → Nat → Int32) (w : Nat → Int64) (o : List Nat) (i : Nat), i < 14 → ev sc d mm ((.iaload, o) :: is) L (.int (nI i) :: .ref 61 :: S) (hp c w m) = ev sc d mm is L (.int (c 61 i) :: S) (hp c w m)) ∧
  (∀ (sc : Nat × (Nat → Int32)) (d mm : Nat) (is : List ma_I) (L : ma_L) (S : List Value) (c m : Nat → Nat → Int32) (w : Nat → Int64) (o : List Nat) (i : Nat), i < 8 → ev sc d mm ((.iaload, o) :: is) L (.int (nI i) :: .ref 62 :: S) (hp c w m) = ev sc d mm is L (.int (c 62 i) :: S) (hp c w m)) ∧
  (∀ (sc : Nat × (Nat → Int32)) (d mm : Nat) (is : List ma_I) (L : ma_L) (S : List Value) (c m : Nat → Nat → Int32) (w : Nat → Int64) (o : List Nat) (i : Nat), i < 8 → ev sc d mm ((.iaload, o) :: is) L (.int (nI i) :: .ref 63 :: S) (hp c w m) = ev sc d mm is L (.int (c 63 i) :: S) (hp c w m)) ∧
  (∀ (sc : Nat × (Nat → Int32)) (d mm : Nat) (is : List ma_I) (L : ma_L) (S : List Value) (c m : Nat → Nat → Int32) (w : Nat → Int64) (o : List Nat) (i : Nat), i < 14 → ev sc d mm ((.iaload, o) :: is) L (.int (nI i) :: .ref 65 :: S) (hp c w m) = ev sc d mm is L (.int (c 65 i) :: S) (hp c w m)) ∧
  (∀ (sc : Nat × (Nat → Int32)) (d mm : Nat) (is : List ma_I) (L : ma_L) (S : List Value) (c m : Nat → Nat → Int32) (w : Nat → Int64) (o : List Nat) (i : Nat), i < 14 → ev sc d mm ((.iaload, o) :: is) L (.int (nI i) :: .ref 66 :: S) (hp c w m) = ev sc d mm is L (.int (c 66 i) :: S) (hp c w m)) ∧
  (∀ (sc : Nat × (Nat → Int32)) (d mm : Nat) (is : List ma_I) (L : ma_L) (S : List Value) (c m : Nat → Nat → Int32) (w : Nat → Int64) (o : List Nat) (i : Nat), i < 8 → ev sc d mm ((.iaload, o) :: is) L (.int (nI i) :: .ref 67 :: S) (hp c w m) = ev sc d mm is L (.int (c 67 i) :: S) (hp c w m)) ∧
  (∀ (sc : Nat × (Nat → Int32)) (d mm : Nat) (is : List ma_I) (L : ma_L) (S : List Value) (c m : Nat → Nat → Int32) (w : Nat → Int64) (o : List Nat) (i : Nat), i < 8 → ev sc d mm ((.iaload, o) :: is) L (.int (nI i) :: .ref 68 :: S) (hp c w m) = ev sc d mm is L (.int (c 68 i) :: S) (hp c w m)) ∧
  (∀ (sc : Nat × (Nat → Int32)) (d mm : Nat) (is : List ma_I) (L : ma_L) (S : List Value) (c m : Nat → Nat → Int32) (w : Nat → Int64) (o : List Nat) (i : Nat), i < 14 → ev sc d mm ((.iaload, o) :: is) L (.int (nI i) :: .ref 70 :: S) (hp c w m) = ev sc d mm is L (.int (c 70 i) :: S) (hp c w m)) ∧
  (∀ (sc : Nat × (Nat → Int32)) (d mm : Nat) (is : List ma_I) (L : ma_L) (S : List Value) (c m : Nat → Nat → Int32) (w : Nat → Int64) (o : List Nat) (i : Nat), i < 14 → ev sc d mm ((.iaload, o) :: is) L (.int (nI i) :: .ref 71 :: S) (hp c w m) = ev sc d mm is L (.int (c 71 i) :: S) (hp c w m)) ∧
  (∀ (sc : Nat × (Nat → Int32)) (d mm : Nat) (is : List ma_I) (L : ma_L) (S : List Value) (c m : Nat → Nat → Int32) (w : Nat → Int64) (o : List Nat) (i : Nat), i < 8 → ev sc d mm ((.iaload, o) :: is) L (.int (nI i) :: .ref 72 :: S) (hp c w m) = ev sc d mm is L (.int (c 72 i) :: S) (hp c w m)) ∧
  (∀ (sc : Nat × (Nat → Int32)) (d mm : Nat) (is : List ma_I) (L : ma_L) (S : List Value) (c m : Nat → Nat → Int32) (w : Nat → Int64) (o : List Nat) (i : Nat), i < 8 → ev sc d mm ((.iaload, o) :: is) L (.int (nI i) :: .ref 73 :: S) (hp c w m) = ev sc d mm is L (.int (c 73 i) :: S) (hp c w m)) ∧
  (∀ (sc : Nat × (Nat → Int32)) (d mm : Nat) (is : List ma_I) (L : ma_L) (S : List Value) (c m : Nat → Nat → Int32) (w : Nat → Int64) (o : List Nat) (i : Nat), i < 14 → ev sc d mm ((.iaload, o) :: is) L (.int (nI i) :: .ref 75 :: S) (hp c w m) = ev sc d mm is L (.int (c 75 i) :: S) (hp c w m)) ∧
  (∀ (sc : Nat × (Nat → Int32)) (d mm : Nat) (is : List ma_I) (L : ma_L) (S : List Value) (c m : Nat → Nat → Int32) (w : Nat → Int64) (o : List Nat) (i : Nat), i < 14 → ev sc d mm ((.iaload, o) :: is) L (.int (nI i) :: .ref 76 :: S) (hp c w m) = ev sc d mm is L (.int (c 76 i) :: S) (hp c w m)) ∧
  (∀ (sc : Nat × (Nat → Int32)) (d mm : Nat) (is : List ma_I) (L : ma_L) (S : List Value) (c m : Nat → Nat → Int32) (w : Nat → Int64) (o : List Nat) (i : Nat), i < 8 → ev sc d mm ((.iaload, o) :: is) L (.int (nI i) :: .ref 77 :: S) (hp c w m) = ev sc d mm is L (.int (c 77 i) :: S) (hp c w m)) ∧
  (∀ (sc : Nat × (Nat → Int32)) (d mm : Nat) (is : List ma_I) (L : ma_L) (S : List Value) (c m : Nat → Nat → Int32) (w : Nat → Int64) (o : List Nat) (i : Nat), i < 8 → ev sc d mm ((.iaload, o) :: is) L (.int (nI i) :: .ref 78 :: S) (hp c w m) = ev sc d mm is L (.int (c 78 i) :: S) (hp c w m)) := ⟨fun _ _ _ _ _ _ _ _ _ _ _ hi => ev_il (by decide) rfl (by decide) hi,
  fun _ _ _ _ _ _ _ _ _ _ _ hi => ev_il (by decide) rfl (by decide) hi,
  fun _ _ _ _ _ _ _ _ _ _ _ hi => ev_il (by decide) rfl (by decide) hi,
  fun _ _ _ _ _ _ _ _ _ _ _ hi => ev_il (by decide) rfl (by decide) hi,
  fun _ _ _ _ _ _ _ _ _ _ _ hi => ev_il (by decide) rfl (by decide) hi,
  fun _ _ _ _ _ _ _ _ _ _ _ hi => ev_il (by decide) rfl (by decide) hi,
  fun _ _ _ _ _ _ _ _ _ _ _ hi => ev_il (by decide) rfl (by decide) hi,
  fun _ _ _ _ _ _ _ _ _ _ _ hi => ev_il (by decide) rfl (by decide) hi,
  fun _ _ _ _ _ _ _ _ _ _ _ hi => ev_il (by decide) rfl (by decide) hi,
  fun _ _ _ _ _ _ _ _ _ _ _ hi => ev_il (by decide) rfl (by decide) hi,
  fun _ _ _ _ _ _ _ _ _ _ _ hi => ev_il (by decide) rfl (by decide) hi,
  fun _ _ _ _ _ _ _ _ _ _ _ hi => ev_il (by decide) rfl (by decide) hi,
  fun _ _ _ _ _ _ _ _ _ _ _ hi => ev_il (by decide) rfl (by decide) hi,
  fun _ _ _ _ _ _ _ _ _ _ _ hi => ev_il (by decide) rfl (by decide) hi,
  fun _ _ _ _ _ _ _ _ _ _ _ hi => ev_il (by decide) rfl (by decide) hi,
  fun _ _ _ _ _ _ _ _ _ _ _ hi => ev_il (by decide) rfl (by decide) hi,
  fun _ _ _ _ _ _ _ _ _ _ _ hi => ev_il (by decide) rfl (by decide) hi,
  fun _ _ _ _ _ _ _ _ _ _ _ hi => ev_il (by decide) rfl (by decide) hi,
  fun _ _ _ _ _ _ _ _ _ _ _ hi => ev_il (by decide) rfl (by decide) hi,
  fun _ _ _ _ _ _ _ _ _ _ _ hi => ev_il (by decide) rfl (by decide) hi,
  fun _ _ _ _ _ _ _ _ _ _ _ hi => ev_il (by decide) rfl (by decide) hi,
  fun _ _ _ _ _ _ _ _ _ _ _ hi => ev_il (by decide) rfl (by decide) hi,
  fun _ _ _ _ _ _ _ _ _ _ _ hi => ev_il (by decide) rfl (by decide) hi,
  fun _ _ _ _ _ _ _ _ _ _ _ hi => ev_il (by decide) rfl (by decide) hi⟩
theorem stK : (∀ (sc : Nat × (Nat → Int32)) (d mm : Nat) (is : List ma_I) (L : ma_L) (S : List Value) (c m : Nat → Nat → Int32) (w : Nat → Int64) (o : List Nat) (i : Nat) (v : Int32), i < 14 → ev sc d mm ((.iastore, o) :: is) L (.int v :: .int (nI i) :: .ref 50 :: S) (hp c w m) = ev sc d mm is L S (hp (va_up c 50 (upd (c 50) i v)) w m)) ∧
  (∀ (sc : Nat × (Nat → Int32)) (d mm : Nat) (is : List ma_I) (L : ma_L) (S : List Value) (c m : Nat → Nat → Int32) (w : Nat → Int64) (o : List Nat) (i : Nat) (v : Int32), i < 14 → ev sc d mm ((.iastore, o) :: is) L (.int v :: .int (nI i) :: .ref 51 :: S) (hp c w m) = ev sc d mm is L S (hp (va_up c 51 (upd (c 51) i v)) w m)) ∧
  (∀ (sc : Nat × (Nat → Int32)) (d mm : Nat) (is : List ma_I) (L : ma_L) (S : List Value) (c m : Nat → Nat → Int32) (w : Nat → Int64) (o : List Nat) (i : Nat) (v : Int32), i < 8 → ev sc d mm ((.iastore, o) :: is) L (.int v :: .int (nI i) :: .ref 52 :: S) (hp c w m) = ev sc d mm is L S (hp (va_up c 52 (upd (c 52) i v)) w m)) ∧
  (∀ (sc : Nat × (Nat → Int32)) (d mm : Nat) (is : List ma_I) (L : ma_L) (S : List Value) (c m : Nat → Nat → Int32) (w : Nat → Int64) (o : List Nat) (i : Nat) (v : Int32), i < 8 → ev sc d mm ((.iastore, o) :: is) L (.int v :: .int (nI i) :: .ref 53 :: S) (hp c w m) = ev sc d mm is L S (hp (va_up c 53 (upd (c 53) i v)) w m)) ∧
  (∀ (sc : Nat × (Nat → Int32)) (d mm : Nat) (is : List ma_I) (L : ma_L) (S : List Value) (c m : Nat → Nat → Int32) (w : Nat → Int64) (o : List Nat) (i : Nat) (v : Int32), i < 14 → ev sc d mm ((.iastore, o) :: is) L (.int v :: .int (nI i) :: .ref 55 :: S) (hp c w m) = ev sc d mm is L S (hp (va_up c 55 (upd (c 55) i v)) w m)) ∧
  (∀ (sc : Nat × (Nat → Int32)) (d mm : Nat) (is : List ma_I) (L : ma_L) (S : List Value) (c m : Nat → Nat → Int32) (w : Nat → Int64) (o : List Nat) (i : Nat) (v : Int32), i < 14 → ev sc d mm ((.iastore, o) :: is) L (.int v :: .int (nI i) :: .ref 56 :: S) (hp c w m) = ev sc d mm is L S (hp (va_up c 56 (upd (c 56) i v)) w m)) ∧
  (∀ (sc : Nat × (Nat → Int32)) (d mm : Nat) (is : List ma_I) (L : ma_L) (S : List Value) (c m : Nat → Nat → Int32) (w : Nat → Int64) (o : List Nat) (i : Nat) (v : Int32), i < 8 → ev sc d mm ((.iastore, o) :: is) L (.int v :: .int (nI i) :: .ref 57 :: S) (hp c w m) = ev sc d mm is L S (hp (va_up c 57 (upd (c 57) i v)) w m)) ∧
  (∀ (sc : Nat × (Nat → Int32)) (d mm : Nat) (is : List ma_I) (L : ma_L) (S : List Value) (c m : Nat → Nat → Int32) (w : Nat → Int64) (o : List Nat) (i : Nat) (v : Int32), i < 8 → ev sc d mm ((.iastore, o) :: is) L (.int v :: .int (nI i) :: .ref 58 :: S) (hp c w m) = ev sc d mm is L S (hp (va_up c 58 (upd (c 58) i v)) w m)) ∧
  (∀ (sc : Nat × (Nat → Int32)) (d mm : Nat) (is : List ma_I) (L : ma_L) (S : List Value) (c m : Nat → Nat → Int32) (w : Nat → Int64) (o : List Nat) (i : Nat) (v : Int32), i < 14 → ev sc d mm ((.iastore, o) :: is) L (.int v :: .int (nI i) :: .ref 60 :: S) (hp c w m) = ev sc d mm is L S (hp (va_up c 60 (upd (c 60) i v)) w m)) ∧
  (∀ (sc : Nat × (Nat → Int32)) (d mm : Nat) (is : List ma_I) (L : ma_L) (S : List Value) (c m : Nat → Nat → Int32) (w : Nat → Int64) (o : List Nat) (i : Nat) (v : Int32), i < 14 → ev sc d mm ((.iastore, o) :: is) L (.int v :: .int (nI i) :: .ref 61 :: S) (hp c w m) = ev sc d mm is L S (hp (va_up c 61 (upd (c 61) i v)) w m)) ∧
  (∀ (sc : Nat × (Nat → Int32)) (d mm : Nat) (is : List ma_I) (L : ma_L) (S : List Value) (c m : Nat → Nat → Int32) (w : Nat → Int64) (o : List Nat) (i : Nat) (v : Int32), i < 8 → ev sc d mm ((.iastore, o) :: is) L (.int v :: .int (nI i) :: .ref 62 :: S) (hp c w m) = ev sc d mm is L S (hp (va_up c 62 (upd (c 62) i v)) w m)) ∧
  (∀ (sc : Nat × (Nat → Int32)) (d mm : Nat) (is : List ma_I) (L : ma_L) (S : List Value) (c m : Nat → Nat → Int32) (w : Nat → Int64) (o : List Nat) (i : Nat) (v : Int32), i < 8 → ev sc d mm ((.iastore, o) :: is) L (.int v :: .int (nI i) :: .ref 63 :: S) (hp c w m) = ev sc d mm is L S (hp (va_up c 63 (upd (c 63) i v)) w m)) ∧
  (∀ (sc : Nat × (Nat → Int32)) (d mm : Nat) (is : List ma_I) (L : ma_L) (S : List Value) (c m : Nat → Nat → Int32) (w : Nat → Int64) (o : List Nat) (i : Nat) (v : Int32), i < 14 → ev sc d mm ((.iastore, o) :: is) L (.int v :: .int (nI i) :: .ref 65 :: S) (hp c w m) = ev sc d mm is L S (hp (va_up c 65 (upd (c 65) i v)) w m)) ∧
  (∀ (sc : Nat × (Nat → Int32)) (d mm : Nat) (is : List ma_I) (L : ma_L) (S : List Value) (c m : Nat → Nat → Int32) (w : Nat → Int64) (o : List Nat) (i : Nat) (v : Int32), i < 14 → ev sc d mm ((.iastore, o) :: is) L (.int v :: .int (nI i) :: .ref 66 :: S) (hp c w m) = ev sc d mm is L S (hp (va_up c 66 (upd (c 66) i v)) w m)) ∧
  (∀ (sc : Nat × (Nat → Int32)) (d mm : Nat) (is : List ma_I) (L : ma_L) (S : List Value) (c m : Nat → Nat → Int32) (w : Nat → Int64) (o : List Nat) (i : Nat) (v : Int32), i < 8 → ev sc d mm ((.iastore, o) :: is) L (.int v :: .int (nI i) :: .ref 67 :: S) (hp c w m) = ev sc d mm is L S (hp (va_up c 67 (upd (c 67) i v)) w m)) ∧
  (∀ (sc : Nat × (Nat → Int32)) (d mm : Nat) (is : List ma_I) (L : ma_L) (S : List Value) (c m : Nat → Nat → Int32) (w : Nat → Int64) (o : List Nat) (i : Nat) (v : Int32), i < 8 → ev sc d mm ((.iastore, o) :: is) L (.int v :: .int (nI i) :: .ref 68 :: S) (hp c w m) = ev sc d mm is L S (hp (va_up c 68 (upd (c 68) i v)) w m)) ∧
  (∀ (sc : Nat × (Nat → Int32)) (d mm : Nat) (is : List ma_I) (L : ma_L) (S : List Value) (c m : Nat → Nat → Int32) (w : Nat → Int64) (o : List Nat) (i : Nat) (v : Int32), i < 14 → ev sc d mm ((.iastore, o) :: is) L (.int v :: .int (nI i) :: .ref 70 :: S) (hp c w m) = ev sc d mm is L S (hp (va_up c 70 (upd (c 70) i v)) w m)) ∧
  (∀ (sc : Nat × (Nat → Int32)) (d mm : Nat) (is : List ma_I) (L : ma_L) (S : List Value) (c m : Nat → Nat → Int32) (w : Nat → Int64) (o : List Nat) (i : Nat) (v : Int32), i < 14 → ev sc d mm ((.iastore, o) :: is) L (.int v :: .int (nI i) :: .ref 71 :: S) (hp c w m) = ev sc d mm is L S (hp (va_up c 71 (upd (c 71) i v)) w m)) ∧
  (∀ (sc : Nat × (Nat → Int32)) (d mm : Nat) (is : List ma_I) (L : ma_L) (S : List Value) (c m : Nat → Nat → Int32) (w : Nat → Int64) (o : List Nat) (i : Nat) (v : Int32), i < 8 → ev sc d mm ((.iastore, o) :: is) L (.int v :: .int (nI i) :: .ref 72 :: S) (hp c w m) = ev sc d mm is L S (hp (va_up c 72 (upd (c 72) i v)) w m)) ∧
  (∀ (sc : Nat × (Nat → Int32)) (d mm : Nat) (is : List ma_I) (L : ma_L) (S : List Value) (c m : Nat → Nat → Int32) (w : Nat → Int64) (o : List Nat) (i : Nat) (v : Int32), i < 8 → ev sc d mm ((.iastore, o) :: is) L (.int v :: .int (nI i) :: .ref 73 :: S) (hp c w m) = ev sc d mm is L S (hp (va_up c 73 (upd (c 73) i v)) w m)) ∧
  (∀ (sc : Nat × (Nat → Int32)) (d mm : Nat) (is : List ma_I) (L : ma_L) (S : List Value) (c m : Nat → Nat → Int32) (w : Nat → Int64) (o : List Nat) (i : Nat) (v : Int32), i < 14 → ev sc d mm ((.iastore, o) :: is) L (.int v :: .int (nI i) :: .ref 75 :: S) (hp c w m) = ev sc d mm is L S (hp (va_up c 75 (upd (c 75) i v)) w m)) ∧
  (∀ (sc : Nat × (Nat → Int32)) (d mm : Nat) (is : List ma_I) (L : ma_L) (S : List Value) (c m : Nat → Nat → Int32) (w : Nat → Int64) (o : List Nat) (i : Nat) (v : Int32), i < 14 → ev sc d mm ((.iastore, o) :: is) L (.int v :: .int (nI i) :: .ref 76 :: S) (hp c w m) = ev sc d mm is L S (hp (va_up c 76 (upd (c 76) i v)) w m)) ∧
  (∀ (sc : Nat × (Nat → Int32)) (d mm : Nat) (is : List ma_I) (L : ma_L) (S : List Value) (c m : Nat → Nat → Int32) (w : Nat → Int64) (o : List Nat) (i : Nat) (v : Int32), i < 8 → ev sc d mm ((.iastore, o) :: is) L (.int v :: .int (nI i) :: .ref 77 :: S) (hp c w m) = ev sc d mm is L S (hp (va_up c 77 (upd (c 77) i v)) w m)) ∧
  (∀ (sc : Nat × (Nat → Int32)) (d mm : Nat) (is : List ma_I) (L : ma_L) (S : List Value) (c m : Nat → Nat → Int32) (w : Nat → Int64) (o : List Nat) (i : Nat) (v : Int32), i < 8 → ev sc d mm ((.iastore, o) :: is) L (.int v :: .int (nI i) :: .ref 78 :: S) (hp c w m) = ev sc d mm is L S (hp (va_up c 78 (upd (c 78) i v)) w m)) := ⟨fun _ _ _ _ _ _ _ _ _ _ _ _ hi => ev_isC (by decide) (fun _ => rfl) (by decide) hi,
  fun _ _ _ _ _ _ _ _ _ _ _ _ hi => ev_isC (by decide) (fun _ => rfl) (by decide) hi,
  fun _ _ _ _ _ _ _ _ _ _ _ _ hi => ev_isC (by decide) (fun _ => rfl) (by decide) hi,
  fun _ _ _ _ _ _ _ _ _ _ _ _ hi => ev_isC (by decide) (fun _ => rfl) (by decide) hi,
  fun _ _ _ _ _ _ _ _ _ _ _ _ hi => ev_isC (by decide) (fun _ => rfl) (by decide) hi,
  fun _ _ _ _ _ _ _ _ _ _ _ _ hi => ev_isC (by decide) (fun _ => rfl) (by decide) hi,
  fun _ _ _ _ _ _ _ _ _ _ _ _ hi => ev_isC (by decide) (fun _ => rfl) (by decide) hi,
  fun _ _ _ _ _ _ _ _ _ _ _ _ hi => ev_isC (by decide) (fun _ => rfl) (by decide) hi,
  fun _ _ _ _ _ _ _ _ _ _ _ _ hi => ev_isC (by decide) (fun _ => rfl) (by decide) hi,
  fun _ _ _ _ _ _ _ _ _ _ _ _ hi => ev_isC (by decide) (fun _ => rfl) (by decide) hi,
  fun _ _ _ _ _ _ _ _ _ _ _ _ hi => ev_isC (by decide) (fun _ => rfl) (by decide) hi,
  fun _ _ _ _ _ _ _ _ _ _ _ _ hi => ev_isC (by decide) (fun _ => rfl) (by decide) hi,
  fun _ _ _ _ _ _ _ _ _ _ _ _ hi => ev_isC (by decide) (fun _ => rfl) (by decide) hi,
  fun _ _ _ _ _ _ _ _ _ _ _ _ hi => ev_isC (by decide) (fun _ => rfl) (by decide) hi,
  fun _ _ _ _ _ _ _ _ _ _ _ _ hi => ev_isC (by decide) (fun _ => rfl) (by decide) hi,
  fun _ _ _ _ _ _ _ _ _ _ _ _ hi => ev_isC (by decide) (fun _ => rfl) (by decide) hi,
  fun _ _ _ _ _ _ _ _ _ _ _ _ hi => ev_isC (by decide) (fun _ => rfl) (by decide) hi,
  fun _ _ _ _ _ _ _ _ _ _ _ _ hi => ev_isC (by decide) (fun _ => rfl) (by decide) hi,
  fun _ _ _ _ _ _ _ _ _ _ _ _ hi => ev_isC (by decide) (fun _ => rfl) (by decide) hi,
  fun _ _ _ _ _ _ _ _ _ _ _ _ hi => ev_isC (by decide) (fun _ => rfl) (by decide) hi,
  fun _ _ _ _ _ _ _ _ _ _ _ _ hi => ev_isC (by decide) (fun _ => rfl) (by decide) hi,
  fun _ _ _ _ _ _ _ _ _ _ _ _ hi => ev_isC (by decide) (fun _ => rfl) (by decide) hi,
  fun _ _ _ _ _ _ _ _ _ _ _ _ hi => ev_isC (by decide) (fun _ => rfl) (by decide) hi,
  fun _ _ _ _ _ _ _ _ _ _ _ _ hi => ev_isC (by decide) (fun _ => rfl) (by decide) hi⟩
theorem ldF : (∀ (sc : Nat × (Nat → Int32)) (d mm : Nat) (is : List ma_I) (L : ma_L) (S : List Value) (c m : Nat → Nat → Int32) (w : Nat → Int64) (o : List Nat) (i : Nat), i < 41 → ev sc d mm ((.iaload, o) :: is) L (.int (nI i) :: .ref 107 :: S) (hp c w m) = ev sc d mm is L (.int (c 107 i) :: S) (hp c w m)) ∧
  (∀ (sc : Nat × (Nat → Int32)) (d mm : Nat) (is : List ma_I) (L : ma_L) (S : List Value) (c m : Nat → Nat → Int32) (w : Nat → Int64) (o : List Nat) (i : Nat), i < 41 → ev sc d mm ((.iaload, o) :: is) L (.int (nI i) :: .ref 108 :: S) (hp c w m) = ev sc d mm is L (.int (c 108 i) :: S) (hp c w m)) ∧
  (∀ (sc : Nat × (Nat → Int32)) (d mm : Nat) (is : List ma_I) (L : ma_L) (S : List Value) (c m : Nat → Nat → Int32) (w : Nat → Int64) (o : List Nat) (i : Nat), i < 41 → ev sc d mm ((.iaload, o) :: is) L (.int (nI i) :: .ref 109 :: S) (hp c w m) = ev sc d mm is L (.int (c 109 i) :: S) (hp c w m)) ∧
  (∀ (sc : Nat × (Nat → Int32)) (d mm : Nat) (is : List ma_I) (L : ma_L) (S : List Value) (c m : Nat → Nat → Int32) (w : Nat → Int64) (o : List Nat) (i : Nat), i < 41 → ev sc d mm ((.iaload, o) :: is) L (.int (nI i) :: .ref 110 :: S) (hp c w m) = ev sc d mm is L (.int (c 110 i) :: S) (hp c w m)) ∧
  (∀ (sc : Nat × (Nat → Int32)) (d mm : Nat) (is : List ma_I) (L : ma_L) (S : List Value) (c m : Nat → Nat → Int32) (w : Nat → Int64) (o : List Nat) (i : Nat), i < 41 → ev sc d mm ((.iaload, o) :: is) L (.int (nI i) :: .ref 111 :: S) (hp c w m) = ev sc d mm is L (.int (c 111 i) :: S) (hp c w m)) ∧
  (∀ (sc : Nat × (Nat → Int32)) (d mm : Nat) (is : List ma_I) (L : ma_L) (S : List Value) (c m : Nat → Nat → Int32) (w : Nat → Int64) (o : List Nat) (i : Nat), i < 41 → ev sc d mm ((.iaload, o) :: is) L (.int (nI i) :: .ref 112 :: S) (hp c w m) = ev sc d mm is L (.int (c 112 i) :: S) (hp c w m)) ∧
  (∀ (sc : Nat × (Nat → Int32)) (d mm : Nat) (is : List ma_I) (L : ma_L) (S : List Value) (c m : Nat → Nat → Int32) (w : Nat → Int64) (o : List Nat) (i : Nat), i < 41 → ev sc d mm ((.iaload, o) :: is) L (.int (nI i) :: .ref 113 :: S) (hp c w m) = ev sc d mm is L (.int (c 113 i) :: S) (hp c w m)) ∧
  (∀ (sc : Nat × (Nat → Int32)) (d mm : Nat) (is : List ma_I) (L : ma_L) (S : List Value) (c m : Nat → Nat → Int32) (w : Nat → Int64) (o : List Nat) (i : Nat), i < 41 → ev sc d mm ((.iaload, o) :: is) L (.int (nI i) :: .ref 114 :: S) (hp c w m) = ev sc d mm is L (.int (c 114 i) :: S) (hp c w m)) ∧
  (∀ (sc : Nat × (Nat → Int32)) (d mm : Nat) (is : List ma_I) (L : ma_L) (S : List Value) (c m : Nat → Nat → Int32) (w : Nat → Int64) (o : List Nat) (i : Nat), i < 41 → ev sc d mm ((.iaload, o) :: is) L (.int (nI i) :: .ref 115 :: S) (hp c w m) = ev sc d mm is L (.int (c 115 i) :: S) (hp c w m)) ∧
  (∀ (sc : Nat × (Nat → Int32)) (d mm : Nat) (is : List ma_I) (L : ma_L) (S : List Value) (c m : Nat → Nat → Int32) (w : Nat → Int64) (o : List Nat) (i : Nat), i < 41 → ev sc d mm ((.iaload, o) :: is) L (.int (nI i) :: .ref 116 :: S) (hp c w m) = ev sc d mm is L (.int (c 116 i) :: S) (hp c w m)) ∧
  (∀ (sc : Nat × (Nat → Int32)) (d mm : Nat) (is : List ma_I) (L : ma_L) (S : List Value) (c m : Nat → Nat → Int32) (w : Nat → Int64) (o : List Nat) (i : Nat), i < 41 → ev sc d mm ((.iaload, o) :: is) L (.int (nI i) :: .ref 117 :: S) (hp c w m) = ev sc d mm is L (.int (c 117 i) :: S) (hp c w m)) ∧
  (∀ (sc : Nat × (Nat → Int32)) (d mm : Nat) (is : List ma_I) (L : ma_L) (S : List Value) (c m : Nat → Nat → Int32) (w : Nat → Int64) (o : List Nat) (i : Nat), i < 41 → ev sc d mm ((.iaload, o) :: is) L (.int (nI i) :: .ref 118 :: S) (hp c w m) = ev sc d mm is L (.int (c 118 i) :: S) (hp c w m)) ∧
  (∀ (sc : Nat × (Nat → Int32)) (d mm : Nat) (is : List ma_I) (L : ma_L) (S : List Value) (c m : Nat → Nat → Int32) (w : Nat → Int64) (o : List Nat) (i : Nat), i < 41 → ev sc d mm ((.iaload, o) :: is) L (.int (nI i) :: .ref 119 :: S) (hp c w m) = ev sc d mm is L (.int (c 119 i) :: S) (hp c w m)) ∧
  (∀ (sc : Nat × (Nat → Int32)) (d mm : Nat) (is : List ma_I) (L : ma_L) (S : List Value) (c m : Nat → Nat → Int32) (w : Nat → Int64) (o : List Nat) (i : Nat), i < 41 → ev sc d mm ((.iaload, o) :: is) L (.int (nI i) :: .ref 120 :: S) (hp c w m) = ev sc d mm is L (.int (c 120 i) :: S) (hp c w m)) := ⟨fun _ _ _ _ _ _ _ _ _ _ _ hi => ev_il (by decide) rfl (by decide) hi,
  fun _ _ _ _ _ _ _ _ _ _ _ hi => ev_il (by decide) rfl (by decide) hi,
  fun _ _ _ _ _ _ _ _ _ _ _ hi => ev_il (by decide) rfl (by decide) hi,
  fun _ _ _ _ _ _ _ _ _ _ _ hi => ev_il (by decide) rfl (by decide) hi,
  fun _ _ _ _ _ _ _ _ _ _ _ hi => ev_il (by decide) rfl (by decide) hi,
  fun _ _ _ _ _ _ _ _ _ _ _ hi => ev_il (by decide) rfl (by decide) hi,
  fun _ _ _ _ _ _ _ _ _ _ _ hi => ev_il (by decide) rfl (by decide) hi,
  fun _ _ _ _ _ _ _ _ _ _ _ hi => ev_il (by decide) rfl (by decide) hi,
  fun _ _ _ _ _ _ _ _ _ _ _ hi => ev_il (by decide) rfl (by decide) hi,
  fun _ _ _ _ _ _ _ _ _ _ _ hi => ev_il (by decide) rfl (by decide) hi,
  fun _ _ _ _ _ _ _ _ _ _ _ hi => ev_il (by decide) rfl (by decide) hi,
  fun _ _ _ _ _ _ _ _ _ _ _ hi => ev_il (by decide) rfl (by decide) hi,
  fun _ _ _ _ _ _ _ _ _ _ _ hi => ev_il (by decide) rfl (by decide) hi,
  fun _ _ _ _ _ _ _ _ _ _ _ hi => ev_il (by decide) rfl (by decide) hi⟩
theorem stF : (∀ (sc : Nat × (Nat → Int32)) (d mm : Nat) (is : List ma_I) (L : ma_L) (S : List Value) (c m : Nat → Nat → Int32) (w : Nat → Int64) (o : List Nat) (i : Nat) (v : Int32), i < 41 → ev sc d mm ((.iastore, o) :: is) L (.int v :: .int (nI i) :: .ref 107 :: S) (hp c w m) = ev sc d mm is L S (hp (va_up c 107 (upd (c 107) i v)) w m)) ∧
  (∀ (sc : Nat × (Nat → Int32)) (d mm : Nat) (is : List ma_I) (L : ma_L) (S : List Value) (c m : Nat → Nat → Int32) (w : Nat → Int64) (o : List Nat) (i : Nat) (v : Int32), i < 41 → ev sc d mm ((.iastore, o) :: is) L (.int v :: .int (nI i) :: .ref 108 :: S) (hp c w m) = ev sc d mm is L S (hp (va_up c 108 (upd (c 108) i v)) w m)) ∧
  (∀ (sc : Nat × (Nat → Int32)) (d mm : Nat) (is : List ma_I) (L : ma_L) (S : List Value) (c m : Nat → Nat → Int32) (w : Nat → Int64) (o : List Nat) (i : Nat) (v : Int32), i < 41 → ev sc d mm ((.iastore, o) :: is) L (.int v :: .int (nI i) :: .ref 109 :: S) (hp c w m) = ev sc d mm is L S (hp (va_up c 109 (upd (c 109) i v)) w m)) ∧
  (∀ (sc : Nat × (Nat → Int32)) (d mm : Nat) (is : List ma_I) (L : ma_L) (S : List Value) (c m : Nat → Nat → Int32) (w : Nat → Int64) (o : List Nat) (i : Nat) (v : Int32), i < 41 → ev sc d mm ((.iastore, o) :: is) L (.int v :: .int (nI i) :: .ref 110 :: S) (hp c w m) = ev sc d mm is L S (hp (va_up c 110 (upd (c 110) i v)) w m)) ∧
  (∀ (sc : Nat × (Nat → Int32)) (d mm : Nat) (is : List ma_I) (L : ma_L) (S : List Value) (c m : Nat → Nat → Int32) (w : Nat → Int64) (o : List Nat) (i : Nat) (v : Int32), i < 41 → ev sc d mm ((.iastore, o) :: is) L (.int v :: .int (nI i) :: .ref 111 :: S) (hp c w m) = ev sc d mm is L S (hp (va_up c 111 (upd (c 111) i v)) w m)) ∧
  (∀ (sc : Nat × (Nat → Int32)) (d mm : Nat) (is : List ma_I) (L : ma_L) (S : List Value) (c m : Nat → Nat → Int32) (w : Nat → Int64) (o : List Nat) (i : Nat) (v : Int32), i < 41 → ev sc d mm ((.iastore, o) :: is) L (.int v :: .int (nI i) :: .ref 112 :: S) (hp c w m) = ev sc d mm is L S (hp (va_up c 112 (upd (c 112) i v)) w m)) ∧
  (∀ (sc : Nat × (Nat → Int32)) (d mm : Nat) (is : List ma_I) (L : ma_L) (S : List Value) (c m : Nat → Nat → Int32) (w : Nat → Int64) (o : List Nat) (i : Nat) (v : Int32), i < 41 → ev sc d mm ((.iastore, o) :: is) L (.int v :: .int (nI i) :: .ref 113 :: S) (hp c w m) = ev sc d mm is L S (hp (va_up c 113 (upd (c 113) i v)) w m)) ∧
  (∀ (sc : Nat × (Nat → Int32)) (d mm : Nat) (is : List ma_I) (L : ma_L) (S : List Value) (c m : Nat → Nat → Int32) (w : Nat → Int64) (o : List Nat) (i : Nat) (v : Int32), i < 41 → ev sc d mm ((.iastore, o) :: is) L (.int v :: .int (nI i) :: .ref 114 :: S) (hp c w m) = ev sc d mm is L S (hp (va_up c 114 (upd (c 114) i v)) w m)) ∧
  (∀ (sc : Nat × (Nat → Int32)) (d mm : Nat) (is : List ma_I) (L : ma_L) (S : List Value) (c m : Nat → Nat → Int32) (w : Nat → Int64) (o : List Nat) (i : Nat) (v : Int32), i < 41 → ev sc d mm ((.iastore, o) :: is) L (.int v :: .int (nI i) :: .ref 115 :: S) (hp c w m) = ev sc d mm is L S (hp (va_up c 115 (upd (c 115) i v)) w m)) ∧
  (∀ (sc : Nat × (Nat → Int32)) (d mm : Nat) (is : List ma_I) (L : ma_L) (S : List Value) (c m : Nat → Nat → Int32) (w : Nat → Int64) (o : List Nat) (i : Nat) (v : Int32), i < 41 → ev sc d mm ((.iastore, o) :: is) L (.int v :: .int (nI i) :: .ref 116 :: S) (hp c w m) = ev sc d mm is L S (hp (va_up c 116 (upd (c 116) i v)) w m)) ∧
  (∀ (sc : Nat × (Nat → Int32)) (d mm : Nat) (is : List ma_I) (L : ma_L) (S : List Value) (c m : Nat → Nat → Int32) (w : Nat → Int64) (o : List Nat) (i : Nat) (v : Int32), i < 41 → ev sc d mm ((.iastore, o) :: is) L (.int v :: .int (nI i) :: .ref 117 :: S) (hp c w m) = ev sc d mm is L S (hp (va_up c 117 (upd (c 117) i v)) w m)) ∧
  (∀ (sc : Nat × (Nat → Int32)) (d mm : Nat) (is : List ma_I) (L : ma_L) (S : List Value) (c m : Nat → Nat → Int32) (w : Nat → Int64) (o : List Nat) (i : Nat) (v : Int32), i < 41 → ev sc d mm ((.iastore, o) :: is) L (.int v :: .int (nI i) :: .ref 118 :: S) (hp c w m) = ev sc d mm is L S (hp (va_up c 118 (upd (c 118) i v)) w m)) ∧
  (∀ (sc : Nat × (Nat → Int32)) (d mm : Nat) (is : List ma_I) (L : ma_L) (S : List Value) (c m : Nat → Nat → Int32) (w : Nat → Int64) (o : List Nat) (i : Nat) (v : Int32), i < 41 → ev sc d mm ((.iastore, o) :: is) L (.int v :: .int (nI i) :: .ref 119 :: S) (hp c w m) = ev sc d mm is L S (hp (va_up c 119 (upd (c 119) i v)) w m)) ∧
  (∀ (sc : Nat × (Nat → Int32)) (d mm : Nat) (is : List ma_I) (L : ma_L) (S : List Value) (c m : Nat → Nat → Int32) (w : Nat → Int64) (o : List Nat) (i : Nat) (v : Int32), i < 41 → ev sc d mm ((.iastore, o) :: is) L (.int v :: .int (nI i) :: .ref 120 :: S) (hp c w m) = ev sc d mm is L S (hp (va_up c 120 (upd (c 120) i v)) w m)) := ⟨fun _ _ _ _ _ _ _ _ _ _ _ _ hi => ev_isC (by decide) (fun _ => rfl) (by decide) hi,
  fun _ _ _ _ _ _ _ _ _ _ _ _ hi => ev_isC (by decide) (fun _ => rfl) (by decide) hi,
  fun _ _ _ _ _ _ _ _ _ _ _ _ hi => ev_isC (by decide) (fun _ => rfl) (by decide) hi,
  fun _ _ _ _ _ _ _ _ _ _ _ _ hi => ev_isC (by decide) (fun _ => rfl) (by decide) hi,
  fun _ _ _ _ _ _ _ _ _ _ _ _ hi => ev_isC (by decide) (fun _ => rfl) (by decide) hi,
  fun _ _ _ _ _ _ _ _ _ _ _ _ hi => ev_isC (by decide) (fun _ => rfl) (by decide) hi,
  fun _ _ _ _ _ _ _ _ _ _ _ _ hi => ev_isC (by decide) (fun _ => rfl) (by decide) hi,
  fun _ _ _ _ _ _ _ _ _ _ _ _ hi => ev_isC (by decide) (fun _ => rfl) (by decide) hi,
  fun _ _ _ _ _ _ _ _ _ _ _ _ hi => ev_isC (by decide) (fun _ => rfl) (by decide) hi,
  fun _ _ _ _ _ _ _ _ _ _ _ _ hi => ev_isC (by decide) (fun _ => rfl) (by decide) hi,
  fun _ _ _ _ _ _ _ _ _ _ _ _ hi => ev_isC (by decide) (fun _ => rfl) (by decide) hi,
  fun _ _ _ _ _ _ _ _ _ _ _ _ hi => ev_isC (by decide) (fun _ => rfl) (by decide) hi,
  fun _ _ _ _ _ _ _ _ _ _ _ _ hi => ev_isC (by decide) (fun _ => rfl) (by decide) hi,
  fun _ _ _ _ _ _ _ _ _ _ _ _ hi => ev_isC (by decide) (fun _ => rfl) (by decide) hi⟩
theorem ldD : (∀ (sc : Nat × (Nat → Int32)) (d mm : Nat) (is : List ma_I) (L : ma_L) (S : List Value) (c m : Nat → Nat → Int32) (w : Nat → Int64) (o : List Nat) (i : Nat), i < 25 → ev sc d mm ((.iaload, o) :: is) L (.int (nI i) :: .ref 122 :: S) (hp c w m) = ev sc d mm is L (.int (c 122 i) :: S) (hp c w m)) ∧
  (∀ (sc : Nat × (Nat → Int32)) (d mm : Nat) (is : List ma_I) (L : ma_L) (S : List Value) (c m : Nat → Nat → Int32) (w : Nat → Int64) (o : List Nat) (i : Nat), i < 25 → ev sc d mm ((.iaload, o) :: is) L (.int (nI i) :: .ref 123 :: S) (hp c w m) = ev sc d mm is L (.int (c 123 i) :: S) (hp c w m)) ∧
  (∀ (sc : Nat × (Nat → Int32)) (d mm : Nat) (is : List ma_I) (L : ma_L) (S : List Value) (c m : Nat → Nat → Int32) (w : Nat → Int64) (o : List Nat) (i : Nat), i < 25 → ev sc d mm ((.iaload, o) :: is) L (.int (nI i) :: .ref 124 :: S) (hp c w m) = ev sc d mm is L (.int (c 124 i) :: S) (hp c w m)) ∧
  (∀ (sc : Nat × (Nat → Int32)) (d mm : Nat) (is : List ma_I) (L : ma_L) (S : List Value) (c m : Nat → Nat → Int32) (w : Nat → Int64) (o : List Nat) (i : Nat), i < 25 → ev sc d mm ((.iaload, o) :: is) L (.int (nI i) :: .ref 125 :: S) (hp c w m) = ev sc d mm is L (.int (c 125 i) :: S) (hp c w m)) ∧
  (∀ (sc : Nat × (Nat → Int32)) (d mm : Nat) (is : List ma_I) (L : ma_L) (S : List Value) (c m : Nat → Nat → Int32) (w : Nat → Int64) (o : List Nat) (i : Nat), i < 25 → ev sc d mm ((.iaload, o) :: is) L (.int (nI i) :: .ref 126 :: S) (hp c w m) = ev sc d mm is L (.int (c 126 i) :: S) (hp c w m)) ∧
  (∀ (sc : Nat × (Nat → Int32)) (d mm : Nat) (is : List ma_I) (L : ma_L) (S : List Value) (c m : Nat → Nat → Int32) (w : Nat → Int64) (o : List Nat) (i : Nat), i < 25 → ev sc d mm ((.iaload, o) :: is) L (.int (nI i) :: .ref 127 :: S) (hp c w m) = ev sc d mm is L (.int (c 127 i) :: S) (hp c w m)) ∧
  (∀ (sc : Nat × (Nat → Int32)) (d mm : Nat) (is : List ma_I) (L : ma_L) (S : List Value) (c m : Nat → Nat → Int32) (w : Nat → Int64) (o : List Nat) (i : Nat), i < 25 → ev sc d mm ((.iaload, o) :: is) L (.int (nI i) :: .ref 128 :: S) (hp c w m) = ev sc d mm is L (.int (c 128 i) :: S) (hp c w m)) ∧
  (∀ (sc : Nat × (Nat → Int32)) (d mm : Nat) (is : List ma_I) (L : ma_L) (S : List Value) (c m : Nat → Nat → Int32) (w : Nat → Int64) (o : List Nat) (i : Nat), i < 25 → ev sc d mm ((.iaload, o) :: is) L (.int (nI i) :: .ref 129 :: S) (hp c w m) = ev sc d mm is L (.int (c 129 i) :: S) (hp c w m)) ∧
  (∀ (sc : Nat × (Nat → Int32)) (d mm : Nat) (is : List ma_I) (L : ma_L) (S : List Value) (c m : Nat → Nat → Int32) (w : Nat → Int64) (o : List Nat) (i : Nat), i < 25 → ev sc d mm ((.iaload, o) :: is) L (.int (nI i) :: .ref 130 :: S) (hp c w m) = ev sc d mm is L (.int (c 130 i) :: S) (hp c w m)) ∧
  (∀ (sc : Nat × (Nat → Int32)) (d mm : Nat) (is : List ma_I) (L : ma_L) (S : List Value) (c m : Nat → Nat → Int32) (w : Nat → Int64) (o : List Nat) (i : Nat), i < 25 → ev sc d mm ((.iaload, o) :: is) L (.int (nI i) :: .ref 131 :: S) (hp c w m) = ev sc d mm is L (.int (c 131 i) :: S) (hp c w m)) ∧
  (∀ (sc : Nat × (Nat → Int32)) (d mm : Nat) (is : List ma_I) (L : ma_L) (S : List Value) (c m : Nat → Nat → Int32) (w : Nat → Int64) (o : List Nat) (i : Nat), i < 25 → ev sc d mm ((.iaload, o) :: is) L (.int (nI i) :: .ref 132 :: S) (hp c w m) = ev sc d mm is L (.int (c 132 i) :: S) (hp c w m)) ∧
  (∀ (sc : Nat × (Nat → Int32)) (d mm : Nat) (is : List ma_I) (L : ma_L) (S : List Value) (c m : Nat → Nat → Int32) (w : Nat → Int64) (o : List Nat) (i : Nat), i < 25 → ev sc d mm ((.iaload, o) :: is) L (.int (nI i) :: .ref 133 :: S) (hp c w m) = ev sc d mm is L (.int (c 133 i) :: S) (hp c w m)) ∧
  (∀ (sc : Nat × (Nat → Int32)) (d mm : Nat) (is : List ma_I) (L : ma_L) (S : List Value) (c m : Nat → Nat → Int32) (w : Nat → Int64) (o : List Nat) (i : Nat), i < 25 → ev sc d mm ((.iaload, o) :: is) L (.int (nI i) :: .ref 134 :: S) (hp c w m) = ev sc d mm is L (.int (c 134 i) :: S) (hp c w m)) ∧
  (∀ (sc : Nat × (Nat → Int32)) (d mm : Nat) (is : List ma_I) (L : ma_L) (S : List Value) (c m : Nat → Nat → Int32) (w : Nat → Int64) (o : List Nat) (i : Nat), i < 25 → ev sc d mm ((.iaload, o) :: is) L (.int (nI i) :: .ref 135 :: S) (hp c w m) = ev sc d mm is L (.int (c 135 i) :: S) (hp c w m)) := ⟨fun _ _ _ _ _ _ _ _ _ _ _ hi => ev_il (by decide) rfl (by decide) hi,
  fun _ _ _ _ _ _ _ _ _ _ _ hi => ev_il (by decide) rfl (by decide) hi,
  fun _ _ _ _ _ _ _ _ _ _ _ hi => ev_il (by decide) rfl (by decide) hi,
  fun _ _ _ _ _ _ _ _ _ _ _ hi => ev_il (by decide) rfl (by decide) hi,
  fun _ _ _ _ _ _ _ _ _ _ _ hi => ev_il (by decide) rfl (by decide) hi,
  fun _ _ _ _ _ _ _ _ _ _ _ hi => ev_il (by decide) rfl (by decide) hi,
  fun _ _ _ _ _ _ _ _ _ _ _ hi => ev_il (by decide) rfl (by decide) hi,
  fun _ _ _ _ _ _ _ _ _ _ _ hi => ev_il (by decide) rfl (by decide) hi,
  fun _ _ _ _ _ _ _ _ _ _ _ hi => ev_il (by decide) rfl (by decide) hi,
  fun _ _ _ _ _ _ _ _ _ _ _ hi => ev_il (by decide) rfl (by decide) hi,
  fun _ _ _ _ _ _ _ _ _ _ _ hi => ev_il (by decide) rfl (by decide) hi,
  fun _ _ _ _ _ _ _ _ _ _ _ hi => ev_il (by decide) rfl (by decide) hi,
  fun _ _ _ _ _ _ _ _ _ _ _ hi => ev_il (by decide) rfl (by decide) hi,
  fun _ _ _ _ _ _ _ _ _ _ _ hi => ev_il (by decide) rfl (by decide) hi⟩
theorem stD : (∀ (sc : Nat × (Nat → Int32)) (d mm : Nat) (is : List ma_I) (L : ma_L) (S : List Value) (c m : Nat → Nat → Int32) (w : Nat → Int64) (o : List Nat) (i : Nat) (v : Int32), i < 25 → ev sc d mm ((.iastore, o) :: is) L (.int v :: .int (nI i) :: .ref 122 :: S) (hp c w m) = ev sc d mm is L S (hp (va_up c 122 (upd (c 122) i v)) w m)) ∧
  (∀ (sc : Nat × (Nat → Int32)) (d mm : Nat) (is : List ma_I) (L : ma_L) (S : List Value) (c m : Nat → Nat → Int32) (w : Nat → Int64) (o : List Nat) (i : Nat) (v : Int32), i < 25 → ev sc d mm ((.iastore, o) :: is) L (.int v :: .int (nI i) :: .ref 123 :: S) (hp c w m) = ev sc d mm is L S (hp (va_up c 123 (upd (c 123) i v)) w m)) ∧
  (∀ (sc : Nat × (Nat → Int32)) (d mm : Nat) (is : List ma_I) (L : ma_L) (S : List Value) (c m : Nat → Nat → Int32) (w : Nat → Int64) (o : List Nat) (i : Nat) (v : Int32), i < 25 → ev sc d mm ((.iastore, o) :: is) L (.int v :: .int (nI i) :: .ref 124 :: S) (hp c w m) = ev sc d mm is L S (hp (va_up c 124 (upd (c 124) i v)) w m)) ∧
  (∀ (sc : Nat × (Nat → Int32)) (d mm : Nat) (is : List ma_I) (L : ma_L) (S : List Value) (c m : Nat → Nat → Int32) (w : Nat → Int64) (o : List Nat) (i : Nat) (v : Int32), i < 25 → ev sc d mm ((.iastore, o) :: is) L (.int v :: .int (nI i) :: .ref 125 :: S) (hp c w m) = ev sc d mm is L S (hp (va_up c 125 (upd (c 125) i v)) w m)) ∧
  (∀ (sc : Nat × (Nat → Int32)) (d mm : Nat) (is : List ma_I) (L : ma_L) (S : List Value) (c m : Nat → Nat → Int32) (w : Nat → Int64) (o : List Nat) (i : Nat) (v : Int32), i < 25 → ev sc d mm ((.iastore, o) :: is) L (.int v :: .int (nI i) :: .ref 126 :: S) (hp c w m) = ev sc d mm is L S (hp (va_up c 126 (upd (c 126) i v)) w m)) ∧
  (∀ (sc : Nat × (Nat → Int32)) (d mm : Nat) (is : List ma_I) (L : ma_L) (S : List Value) (c m : Nat → Nat → Int32) (w : Nat → Int64) (o : List Nat) (i : Nat) (v : Int32), i < 25 → ev sc d mm ((.iastore, o) :: is) L (.int v :: .int (nI i) :: .ref 127 :: S) (hp c w m) = ev sc d mm is L S (hp (va_up c 127 (upd (c 127) i v)) w m)) ∧
  (∀ (sc : Nat × (Nat → Int32)) (d mm : Nat) (is : List ma_I) (L : ma_L) (S : List Value) (c m : Nat → Nat → Int32) (w : Nat → Int64) (o : List Nat) (i : Nat) (v : Int32), i < 25 → ev sc d mm ((.iastore, o) :: is) L (.int v :: .int (nI i) :: .ref 128 :: S) (hp c w m) = ev sc d mm is L S (hp (va_up c 128 (upd (c 128) i v)) w m)) ∧
  (∀ (sc : Nat × (Nat → Int32)) (d mm : Nat) (is : List ma_I) (L : ma_L) (S : List Value) (c m : Nat → Nat → Int32) (w : Nat → Int64) (o : List Nat) (i : Nat) (v : Int32), i < 25 → ev sc d mm ((.iastore, o) :: is) L (.int v :: .int (nI i) :: .ref 129 :: S) (hp c w m) = ev sc d mm is L S (hp (va_up c 129 (upd (c 129) i v)) w m)) ∧
  (∀ (sc : Nat × (Nat → Int32)) (d mm : Nat) (is : List ma_I) (L : ma_L) (S : List Value) (c m : Nat → Nat → Int32) (w : Nat → Int64) (o : List Nat) (i : Nat) (v : Int32), i < 25 → ev sc d mm ((.iastore, o) :: is) L (.int v :: .int (nI i) :: .ref 130 :: S) (hp c w m) = ev sc d mm is L S (hp (va_up c 130 (upd (c 130) i v)) w m)) ∧
  (∀ (sc : Nat × (Nat → Int32)) (d mm : Nat) (is : List ma_I) (L : ma_L) (S : List Value) (c m : Nat → Nat → Int32) (w : Nat → Int64) (o : List Nat) (i : Nat) (v : Int32), i < 25 → ev sc d mm ((.iastore, o) :: is) L (.int v :: .int (nI i) :: .ref 131 :: S) (hp c w m) = ev sc d mm is L S (hp (va_up c 131 (upd (c 131) i v)) w m)) ∧
  (∀ (sc : Nat × (Nat → Int32)) (d mm : Nat) (is : List ma_I) (L : ma_L) (S : List Value) (c m : Nat → Nat → Int32) (w : Nat → Int64) (o : List Nat) (i : Nat) (v : Int32), i < 25 → ev sc d mm ((.iastore, o) :: is) L (.int v :: .int (nI i) :: .ref 132 :: S) (hp c w m) = ev sc d mm is L S (hp (va_up c 132 (upd (c 132) i v)) w m)) ∧
  (∀ (sc : Nat × (Nat → Int32)) (d mm : Nat) (is : List ma_I) (L : ma_L) (S : List Value) (c m : Nat → Nat → Int32) (w : Nat → Int64) (o : List Nat) (i : Nat) (v : Int32), i < 25 → ev sc d mm ((.iastore, o) :: is) L (.int v :: .int (nI i) :: .ref 133 :: S) (hp c w m) = ev sc d mm is L S (hp (va_up c 133 (upd (c 133) i v)) w m)) ∧
  (∀ (sc : Nat × (Nat → Int32)) (d mm : Nat) (is : List ma_I) (L : ma_L) (S : List Value) (c m : Nat → Nat → Int32) (w : Nat → Int64) (o : List Nat) (i : Nat) (v : Int32), i < 25 → ev sc d mm ((.iastore, o) :: is) L (.int v :: .int (nI i) :: .ref 134 :: S) (hp c w m) = ev sc d mm is L S (hp (va_up c 134 (upd (c 134) i v)) w m)) ∧
  (∀ (sc : Nat × (Nat → Int32)) (d mm : Nat) (is : List ma_I) (L : ma_L) (S : List Value) (c m : Nat → Nat → Int32) (w : Nat → Int64) (o : List Nat) (i : Nat) (v : Int32), i < 25 → ev sc d mm ((.iastore, o) :: is) L (.int v :: .int (nI i) :: .ref 135 :: S) (hp c w m) = ev sc d mm is L S (hp (va_up c 135 (upd (c 135) i v)) w m)) := ⟨fun _ _ _ _ _ _ _ _ _ _ _ _ hi => ev_isC (by decide) (fun _ => rfl) (by decide) hi,
  fun _ _ _ _ _ _ _ _ _ _ _ _ hi => ev_isC (by decide) (fun _ => rfl) (by decide) hi,
  fun _ _ _ _ _ _ _ _ _ _ _ _ hi => ev_isC (by decide) (fun _ => rfl) (by decide) hi,
  fun _ _ _ _ _ _ _ _ _ _ _ _ hi => ev_isC (by decide) (fun _ => rfl) (by decide) hi,
  fun _ _ _ _ _ _ _ _ _ _ _ _ hi => ev_isC (by decide) (fun _ => rfl) (by decide) hi,
  fun _ _ _ _ _ _ _ _ _ _ _ _ hi => ev_isC (by decide) (fun _ => rfl) (by decide) hi,
  fun _ _ _ _ _ _ _ _ _ _ _ _ hi => ev_isC (by decide) (fun _ => rfl) (by decide) hi,
  fun _ _ _ _ _ _ _ _ _ _ _ _ hi => ev_isC (by decide) (fun _ => rfl) (by decide) hi,
  fun _ _ _ _ _ _ _ _ _ _ _ _ hi => ev_isC (by decide) (fun _ => rfl) (by decide) hi,
  fun _ _ _ _ _ _ _ _ _ _ _ _ hi => ev_isC (by decide) (fun _ => rfl) (by decide) hi,
  fun _ _ _ _ _ _ _ _ _ _ _ _ hi => ev_isC (by decide) (fun _ => rfl) (by decide) hi,
  fun _ _ _ _ _ _ _ _ _ _ _ _ hi => ev_isC (by decide) (fun _ => rfl) (by decide) hi,
  fun _ _ _ _ _ _ _ _ _ _ _ _ hi => ev_isC (by decide) (fun _ => rfl) (by decide) hi,
  fun _ _ _ _ _ _ _ _ _ _ _ _ hi => ev_isC (by decide) (fun _ => rfl) (by decide) hi⟩
theorem ldM : (∀ (sc : Nat × (Nat → Int32)) (d mm : Nat) (is : List ma_I) (L : ma_L) (S : List Value) (c m : Nat → Nat → Int32) (w : Nat → Int64) (o : List Nat) (i : Nat), i < 49 → ev sc d mm ((.iaload, o) :: is) L (.int (nI i) :: .ref 139 :: S) (hp c w m) = ev sc d mm is L (.int (m 139 i) :: S) (hp c w m)) ∧
  (∀ (sc : Nat × (Nat → Int32)) (d mm : Nat) (is : List ma_I) (L : ma_L) (S : List Value) (c m : Nat → Nat → Int32) (w : Nat → Int64) (o : List Nat) (i : Nat), i < 294 → ev sc d mm ((.iaload, o) :: is) L (.int (nI i) :: .ref 140 :: S) (hp c w m) = ev sc d mm is L (.int (m 140 i) :: S) (hp c w m)) ∧
  (∀ (sc : Nat × (Nat → Int32)) (d mm : Nat) (is : List ma_I) (L : ma_L) (S : List Value) (c m : Nat → Nat → Int32) (w : Nat → Int64) (o : List Nat) (i : Nat), i < 49 → ev sc d mm ((.iaload, o) :: is) L (.int (nI i) :: .ref 141 :: S) (hp c w m) = ev sc d mm is L (.int (m 141 i) :: S) (hp c w m)) ∧
  (∀ (sc : Nat × (Nat → Int32)) (d mm : Nat) (is : List ma_I) (L : ma_L) (S : List Value) (c m : Nat → Nat → Int32) (w : Nat → Int64) (o : List Nat) (i : Nat), i < 8 → ev sc d mm ((.iaload, o) :: is) L (.int (nI i) :: .ref 142 :: S) (hp c w m) = ev sc d mm is L (.int (m 142 i) :: S) (hp c w m)) ∧
  (∀ (sc : Nat × (Nat → Int32)) (d mm : Nat) (is : List ma_I) (L : ma_L) (S : List Value) (c m : Nat → Nat → Int32) (w : Nat → Int64) (o : List Nat) (i : Nat), i < 6 → ev sc d mm ((.iaload, o) :: is) L (.int (nI i) :: .ref 143 :: S) (hp c w m) = ev sc d mm is L (.int (m 143 i) :: S) (hp c w m)) ∧
  (∀ (sc : Nat × (Nat → Int32)) (d mm : Nat) (is : List ma_I) (L : ma_L) (S : List Value) (c m : Nat → Nat → Int32) (w : Nat → Int64) (o : List Nat) (i : Nat), i < 6 → ev sc d mm ((.iaload, o) :: is) L (.int (nI i) :: .ref 144 :: S) (hp c w m) = ev sc d mm is L (.int (m 144 i) :: S) (hp c w m)) ∧
  (∀ (sc : Nat × (Nat → Int32)) (d mm : Nat) (is : List ma_I) (L : ma_L) (S : List Value) (c m : Nat → Nat → Int32) (w : Nat → Int64) (o : List Nat) (i : Nat), i < 600 → ev sc d mm ((.iaload, o) :: is) L (.int (nI i) :: .ref 145 :: S) (hp c w m) = ev sc d mm is L (.int (m 145 i) :: S) (hp c w m)) ∧
  (∀ (sc : Nat × (Nat → Int32)) (d mm : Nat) (is : List ma_I) (L : ma_L) (S : List Value) (c m : Nat → Nat → Int32) (w : Nat → Int64) (o : List Nat) (i : Nat), i < 400 → ev sc d mm ((.iaload, o) :: is) L (.int (nI i) :: .ref 146 :: S) (hp c w m) = ev sc d mm is L (.int (m 146 i) :: S) (hp c w m)) ∧
  (∀ (sc : Nat × (Nat → Int32)) (d mm : Nat) (is : List ma_I) (L : ma_L) (S : List Value) (c m : Nat → Nat → Int32) (w : Nat → Int64) (o : List Nat) (i : Nat), i < 120 → ev sc d mm ((.iaload, o) :: is) L (.int (nI i) :: .ref 147 :: S) (hp c w m) = ev sc d mm is L (.int (m 147 i) :: S) (hp c w m)) ∧
  (∀ (sc : Nat × (Nat → Int32)) (d mm : Nat) (is : List ma_I) (L : ma_L) (S : List Value) (c m : Nat → Nat → Int32) (w : Nat → Int64) (o : List Nat) (i : Nat), i < 2 → ev sc d mm ((.iaload, o) :: is) L (.int (nI i) :: .ref 148 :: S) (hp c w m) = ev sc d mm is L (.int (m 148 i) :: S) (hp c w m)) ∧
  (∀ (sc : Nat × (Nat → Int32)) (d mm : Nat) (is : List ma_I) (L : ma_L) (S : List Value) (c m : Nat → Nat → Int32) (w : Nat → Int64) (o : List Nat) (i : Nat), i < 48 → ev sc d mm ((.iaload, o) :: is) L (.int (nI i) :: .ref 149 :: S) (hp c w m) = ev sc d mm is L (.int (m 149 i) :: S) (hp c w m)) ∧
  (∀ (sc : Nat × (Nat → Int32)) (d mm : Nat) (is : List ma_I) (L : ma_L) (S : List Value) (c m : Nat → Nat → Int32) (w : Nat → Int64) (o : List Nat) (i : Nat), i < 48 → ev sc d mm ((.iaload, o) :: is) L (.int (nI i) :: .ref 150 :: S) (hp c w m) = ev sc d mm is L (.int (m 150 i) :: S) (hp c w m)) ∧
  (∀ (sc : Nat × (Nat → Int32)) (d mm : Nat) (is : List ma_I) (L : ma_L) (S : List Value) (c m : Nat → Nat → Int32) (w : Nat → Int64) (o : List Nat) (i : Nat), i < 48 → ev sc d mm ((.iaload, o) :: is) L (.int (nI i) :: .ref 151 :: S) (hp c w m) = ev sc d mm is L (.int (m 151 i) :: S) (hp c w m)) ∧
  (∀ (sc : Nat × (Nat → Int32)) (d mm : Nat) (is : List ma_I) (L : ma_L) (S : List Value) (c m : Nat → Nat → Int32) (w : Nat → Int64) (o : List Nat) (i : Nat), i < 48 → ev sc d mm ((.iaload, o) :: is) L (.int (nI i) :: .ref 152 :: S) (hp c w m) = ev sc d mm is L (.int (m 152 i) :: S) (hp c w m)) ∧
  (∀ (sc : Nat × (Nat → Int32)) (d mm : Nat) (is : List ma_I) (L : ma_L) (S : List Value) (c m : Nat → Nat → Int32) (w : Nat → Int64) (o : List Nat) (i : Nat), i < 1200 → ev sc d mm ((.iaload, o) :: is) L (.int (nI i) :: .ref 153 :: S) (hp c w m) = ev sc d mm is L (.int (m 153 i) :: S) (hp c w m)) ∧
  (∀ (sc : Nat × (Nat → Int32)) (d mm : Nat) (is : List ma_I) (L : ma_L) (S : List Value) (c m : Nat → Nat → Int32) (w : Nat → Int64) (o : List Nat) (i : Nat), i < 1200 → ev sc d mm ((.iaload, o) :: is) L (.int (nI i) :: .ref 154 :: S) (hp c w m) = ev sc d mm is L (.int (m 154 i) :: S) (hp c w m)) ∧
  (∀ (sc : Nat × (Nat → Int32)) (d mm : Nat) (is : List ma_I) (L : ma_L) (S : List Value) (c m : Nat → Nat → Int32) (w : Nat → Int64) (o : List Nat) (i : Nat), i < 40 → ev sc d mm ((.iaload, o) :: is) L (.int (nI i) :: .ref 155 :: S) (hp c w m) = ev sc d mm is L (.int (m 155 i) :: S) (hp c w m)) ∧
  (∀ (sc : Nat × (Nat → Int32)) (d mm : Nat) (is : List ma_I) (L : ma_L) (S : List Value) (c m : Nat → Nat → Int32) (w : Nat → Int64) (o : List Nat) (i : Nat), i < 128 → ev sc d mm ((.iaload, o) :: is) L (.int (nI i) :: .ref 156 :: S) (hp c w m) = ev sc d mm is L (.int (m 156 i) :: S) (hp c w m)) ∧
  (∀ (sc : Nat × (Nat → Int32)) (d mm : Nat) (is : List ma_I) (L : ma_L) (S : List Value) (c m : Nat → Nat → Int32) (w : Nat → Int64) (o : List Nat) (i : Nat), i < 120 → ev sc d mm ((.iaload, o) :: is) L (.int (nI i) :: .ref 157 :: S) (hp c w m) = ev sc d mm is L (.int (m 157 i) :: S) (hp c w m)) ∧
  (∀ (sc : Nat × (Nat → Int32)) (d mm : Nat) (is : List ma_I) (L : ma_L) (S : List Value) (c m : Nat → Nat → Int32) (w : Nat → Int64) (o : List Nat) (i : Nat), i < 7 → ev sc d mm ((.iaload, o) :: is) L (.int (nI i) :: .ref 158 :: S) (hp c w m) = ev sc d mm is L (.int (m 158 i) :: S) (hp c w m)) ∧
  (∀ (sc : Nat × (Nat → Int32)) (d mm : Nat) (is : List ma_I) (L : ma_L) (S : List Value) (c m : Nat → Nat → Int32) (w : Nat → Int64) (o : List Nat) (i : Nat), i < 420 → ev sc d mm ((.iaload, o) :: is) L (.int (nI i) :: .ref 159 :: S) (hp c w m) = ev sc d mm is L (.int (m 159 i) :: S) (hp c w m)) ∧
  (∀ (sc : Nat × (Nat → Int32)) (d mm : Nat) (is : List ma_I) (L : ma_L) (S : List Value) (c m : Nat → Nat → Int32) (w : Nat → Int64) (o : List Nat) (i : Nat), i < 574 → ev sc d mm ((.iaload, o) :: is) L (.int (nI i) :: .ref 160 :: S) (hp c w m) = ev sc d mm is L (.int (m 160 i) :: S) (hp c w m)) ∧
  (∀ (sc : Nat × (Nat → Int32)) (d mm : Nat) (is : List ma_I) (L : ma_L) (S : List Value) (c m : Nat → Nat → Int32) (w : Nat → Int64) (o : List Nat) (i : Nat), i < 16 → ev sc d mm ((.iaload, o) :: is) L (.int (nI i) :: .ref 161 :: S) (hp c w m) = ev sc d mm is L (.int (m 161 i) :: S) (hp c w m)) ∧
  (∀ (sc : Nat × (Nat → Int32)) (d mm : Nat) (is : List ma_I) (L : ma_L) (S : List Value) (c m : Nat → Nat → Int32) (w : Nat → Int64) (o : List Nat) (i : Nat), i < 41 → ev sc d mm ((.iaload, o) :: is) L (.int (nI i) :: .ref 162 :: S) (hp c w m) = ev sc d mm is L (.int (m 162 i) :: S) (hp c w m)) ∧
  (∀ (sc : Nat × (Nat → Int32)) (d mm : Nat) (is : List ma_I) (L : ma_L) (S : List Value) (c m : Nat → Nat → Int32) (w : Nat → Int64) (o : List Nat) (i : Nat), i < 25 → ev sc d mm ((.iaload, o) :: is) L (.int (nI i) :: .ref 163 :: S) (hp c w m) = ev sc d mm is L (.int (m 163 i) :: S) (hp c w m)) ∧
  (∀ (sc : Nat × (Nat → Int32)) (d mm : Nat) (is : List ma_I) (L : ma_L) (S : List Value) (c m : Nat → Nat → Int32) (w : Nat → Int64) (o : List Nat) (i : Nat), i < 14 → ev sc d mm ((.iaload, o) :: is) L (.int (nI i) :: .ref 164 :: S) (hp c w m) = ev sc d mm is L (.int (m 164 i) :: S) (hp c w m)) ∧
  (∀ (sc : Nat × (Nat → Int32)) (d mm : Nat) (is : List ma_I) (L : ma_L) (S : List Value) (c m : Nat → Nat → Int32) (w : Nat → Int64) (o : List Nat) (i : Nat), i < 16384 → ev sc d mm ((.iaload, o) :: is) L (.int (nI i) :: .ref 165 :: S) (hp c w m) = ev sc d mm is L (.int (m 165 i) :: S) (hp c w m)) ∧
  (∀ (sc : Nat × (Nat → Int32)) (d mm : Nat) (is : List ma_I) (L : ma_L) (S : List Value) (c m : Nat → Nat → Int32) (w : Nat → Int64) (o : List Nat) (i : Nat), i < 1700 → ev sc d mm ((.iaload, o) :: is) L (.int (nI i) :: .ref 166 :: S) (hp c w m) = ev sc d mm is L (.int (m 166 i) :: S) (hp c w m)) := ⟨fun _ _ _ _ _ _ _ _ _ _ _ hi => ev_il (by decide) rfl (by decide) hi,
  fun _ _ _ _ _ _ _ _ _ _ _ hi => ev_il (by decide) rfl (by decide) hi,
  fun _ _ _ _ _ _ _ _ _ _ _ hi => ev_il (by decide) rfl (by decide) hi,
  fun _ _ _ _ _ _ _ _ _ _ _ hi => ev_il (by decide) rfl (by decide) hi,
  fun _ _ _ _ _ _ _ _ _ _ _ hi => ev_il (by decide) rfl (by decide) hi,
  fun _ _ _ _ _ _ _ _ _ _ _ hi => ev_il (by decide) rfl (by decide) hi,
  fun _ _ _ _ _ _ _ _ _ _ _ hi => ev_il (by decide) rfl (by decide) hi,
  fun _ _ _ _ _ _ _ _ _ _ _ hi => ev_il (by decide) rfl (by decide) hi,
  fun _ _ _ _ _ _ _ _ _ _ _ hi => ev_il (by decide) rfl (by decide) hi,
  fun _ _ _ _ _ _ _ _ _ _ _ hi => ev_il (by decide) rfl (by decide) hi,
  fun _ _ _ _ _ _ _ _ _ _ _ hi => ev_il (by decide) rfl (by decide) hi,
  fun _ _ _ _ _ _ _ _ _ _ _ hi => ev_il (by decide) rfl (by decide) hi,
  fun _ _ _ _ _ _ _ _ _ _ _ hi => ev_il (by decide) rfl (by decide) hi,
  fun _ _ _ _ _ _ _ _ _ _ _ hi => ev_il (by decide) rfl (by decide) hi,
  fun _ _ _ _ _ _ _ _ _ _ _ hi => ev_il (by decide) rfl (by decide) hi,
  fun _ _ _ _ _ _ _ _ _ _ _ hi => ev_il (by decide) rfl (by decide) hi,
  fun _ _ _ _ _ _ _ _ _ _ _ hi => ev_il (by decide) rfl (by decide) hi,
  fun _ _ _ _ _ _ _ _ _ _ _ hi => ev_il (by decide) rfl (by decide) hi,
  fun _ _ _ _ _ _ _ _ _ _ _ hi => ev_il (by decide) rfl (by decide) hi,
  fun _ _ _ _ _ _ _ _ _ _ _ hi => ev_il (by decide) rfl (by decide) hi,
  fun _ _ _ _ _ _ _ _ _ _ _ hi => ev_il (by decide) rfl (by decide) hi,
  fun _ _ _ _ _ _ _ _ _ _ _ hi => ev_il (by decide) rfl (by decide) hi,
  fun _ _ _ _ _ _ _ _ _ _ _ hi => ev_il (by decide) rfl (by decide) hi,
  fun _ _ _ _ _ _ _ _ _ _ _ hi => ev_il (by decide) rfl (by decide) hi,
  fun _ _ _ _ _ _ _ _ _ _ _ hi => ev_il (by decide) rfl (by decide) hi,
  fun _ _ _ _ _ _ _ _ _ _ _ hi => ev_il (by decide) rfl (by decide) hi,
  fun _ _ _ _ _ _ _ _ _ _ _ hi => ev_il (by decide) rfl (by decide) hi,
  fun _ _ _ _ _ _ _ _ _ _ _ hi => ev_il (by decide) rfl (by decide) hi⟩
theorem stM : (∀ (sc : Nat × (Nat → Int32)) (d mm : Nat) (is : List ma_I) (L : ma_L) (S : List Value) (c m : Nat → Nat → Int32) (w : Nat → Int64) (o : List Nat) (i : Nat) (v : Int32), i < 49 → ev sc d mm ((.iastore, o) :: is) L (.int v :: .int (nI i) :: .ref 139 :: S) (hp c w m) = ev sc d mm is L S (hp c w (va_up m 139 (upd (m 139) i v)))) ∧
  (∀ (sc : Nat × (Nat → Int32)) (d mm : Nat) (is : List ma_I) (L : ma_L) (S : List Value) (c m : Nat → Nat → Int32) (w : Nat → Int64) (o : List Nat) (i : Nat) (v : Int32), i < 294 → ev sc d mm ((.iastore, o) :: is) L (.int v :: .int (nI i) :: .ref 140 :: S) (hp c w m) = ev sc d mm is L S (hp c w (va_up m 140 (upd (m 140) i v)))) ∧
  (∀ (sc : Nat × (Nat → Int32)) (d mm : Nat) (is : List ma_I) (L : ma_L) (S : List Value) (c m : Nat → Nat → Int32) (w : Nat → Int64) (o : List Nat) (i : Nat) (v : Int32), i < 49 → ev sc d mm ((.iastore, o) :: is) L (.int v :: .int (nI i) :: .ref 141 :: S) (hp c w m) = ev sc d mm is L S (hp c w (va_up m 141 (upd (m 141) i v)))) ∧
  (∀ (sc : Nat × (Nat → Int32)) (d mm : Nat) (is : List ma_I) (L : ma_L) (S : List Value) (c m : Nat → Nat → Int32) (w : Nat → Int64) (o : List Nat) (i : Nat) (v : Int32), i < 8 → ev sc d mm ((.iastore, o) :: is) L (.int v :: .int (nI i) :: .ref 142 :: S) (hp c w m) = ev sc d mm is L S (hp c w (va_up m 142 (upd (m 142) i v)))) ∧
  (∀ (sc : Nat × (Nat → Int32)) (d mm : Nat) (is : List ma_I) (L : ma_L) (S : List Value) (c m : Nat → Nat → Int32) (w : Nat → Int64) (o : List Nat) (i : Nat) (v : Int32), i < 6 → ev sc d mm ((.iastore, o) :: is) L (.int v :: .int (nI i) :: .ref 143 :: S) (hp c w m) = ev sc d mm is L S (hp c w (va_up m 143 (upd (m 143) i v)))) ∧
  (∀ (sc : Nat × (Nat → Int32)) (d mm : Nat) (is : List ma_I) (L : ma_L) (S : List Value) (c m : Nat → Nat → Int32) (w : Nat → Int64) (o : List Nat) (i : Nat) (v : Int32), i < 6 → ev sc d mm ((.iastore, o) :: is) L (.int v :: .int (nI i) :: .ref 144 :: S) (hp c w m) = ev sc d mm is L S (hp c w (va_up m 144 (upd (m 144) i v)))) ∧
  (∀ (sc : Nat × (Nat → Int32)) (d mm : Nat) (is : List ma_I) (L : ma_L) (S : List Value) (c m : Nat → Nat → Int32) (w : Nat → Int64) (o : List Nat) (i : Nat) (v : Int32), i < 600 → ev sc d mm ((.iastore, o) :: is) L (.int v :: .int (nI i) :: .ref 145 :: S) (hp c w m) = ev sc d mm is L S (hp c w (va_up m 145 (upd (m 145) i v)))) ∧
  (∀ (sc : Nat × (Nat → Int32)) (d mm : Nat) (is : List ma_I) (L : ma_L) (S : List Value) (c m : Nat → Nat → Int32) (w : Nat → Int64) (o : List Nat) (i : Nat) (v : Int32), i < 400 → ev sc d mm ((.iastore, o) :: is) L (.int v :: .int (nI i) :: .ref 146 :: S) (hp c w m) = ev sc d mm is L S (hp c w (va_up m 146 (upd (m 146) i v)))) ∧
  (∀ (sc : Nat × (Nat → Int32)) (d mm : Nat) (is : List ma_I) (L : ma_L) (S : List Value) (c m : Nat → Nat → Int32) (w : Nat → Int64) (o : List Nat) (i : Nat) (v : Int32), i < 120 → ev sc d mm ((.iastore, o) :: is) L (.int v :: .int (nI i) :: .ref 147 :: S) (hp c w m) = ev sc d mm is L S (hp c w (va_up m 147 (upd (m 147) i v)))) ∧
  (∀ (sc : Nat × (Nat → Int32)) (d mm : Nat) (is : List ma_I) (L : ma_L) (S : List Value) (c m : Nat → Nat → Int32) (w : Nat → Int64) (o : List Nat) (i : Nat) (v : Int32), i < 2 → ev sc d mm ((.iastore, o) :: is) L (.int v :: .int (nI i) :: .ref 148 :: S) (hp c w m) = ev sc d mm is L S (hp c w (va_up m 148 (upd (m 148) i v)))) ∧
  (∀ (sc : Nat × (Nat → Int32)) (d mm : Nat) (is : List ma_I) (L : ma_L) (S : List Value) (c m : Nat → Nat → Int32) (w : Nat → Int64) (o : List Nat) (i : Nat) (v : Int32), i < 48 → ev sc d mm ((.iastore, o) :: is) L (.int v :: .int (nI i) :: .ref 149 :: S) (hp c w m) = ev sc d mm is L S (hp c w (va_up m 149 (upd (m 149) i v)))) ∧
  (∀ (sc : Nat × (Nat → Int32)) (d mm : Nat) (is : List ma_I) (L : ma_L) (S : List Value) (c m : Nat → Nat → Int32) (w : Nat → Int64) (o : List Nat) (i : Nat) (v : Int32), i < 48 → ev sc d mm ((.iastore, o) :: is) L (.int v :: .int (nI i) :: .ref 150 :: S) (hp c w m) = ev sc d mm is L S (hp c w (va_up m 150 (upd (m 150) i v)))) ∧
  (∀ (sc : Nat × (Nat → Int32)) (d mm : Nat) (is : List ma_I) (L : ma_L) (S : List Value) (c m : Nat → Nat → Int32) (w : Nat → Int64) (o : List Nat) (i : Nat) (v : Int32), i < 48 → ev sc d mm ((.iastore, o) :: is) L (.int v :: .int (nI i) :: .ref 151 :: S) (hp c w m) = ev sc d mm is L S (hp c w (va_up m 151 (upd (m 151) i v)))) ∧
  (∀ (sc : Nat × (Nat → Int32)) (d mm : Nat) (is : List ma_I) (L : ma_L) (S : List Value) (c m : Nat → Nat → Int32) (w : Nat → Int64) (o : List Nat) (i : Nat) (v : Int32), i < 48 → ev sc d mm ((.iastore, o) :: is) L (.int v :: .int (nI i) :: .ref 152 :: S) (hp c w m) = ev sc d mm is L S (hp c w (va_up m 152 (upd (m 152) i v)))) ∧
  (∀ (sc : Nat × (Nat → Int32)) (d mm : Nat) (is : List ma_I) (L : ma_L) (S : List Value) (c m : Nat → Nat → Int32) (w : Nat → Int64) (o : List Nat) (i : Nat) (v : Int32), i < 1200 → ev sc d mm ((.iastore, o) :: is) L (.int v :: .int (nI i) :: .ref 153 :: S) (hp c w m) = ev sc d mm is L S (hp c w (va_up m 153 (upd (m 153) i v)))) ∧
  (∀ (sc : Nat × (Nat → Int32)) (d mm : Nat) (is : List ma_I) (L : ma_L) (S : List Value) (c m : Nat → Nat → Int32) (w : Nat → Int64) (o : List Nat) (i : Nat) (v : Int32), i < 1200 → ev sc d mm ((.iastore, o) :: is) L (.int v :: .int (nI i) :: .ref 154 :: S) (hp c w m) = ev sc d mm is L S (hp c w (va_up m 154 (upd (m 154) i v)))) ∧
  (∀ (sc : Nat × (Nat → Int32)) (d mm : Nat) (is : List ma_I) (L : ma_L) (S : List Value) (c m : Nat → Nat → Int32) (w : Nat → Int64) (o : List Nat) (i : Nat) (v : Int32), i < 40 → ev sc d mm ((.iastore, o) :: is) L (.int v :: .int (nI i) :: .ref 155 :: S) (hp c w m) = ev sc d mm is L S (hp c w (va_up m 155 (upd (m 155) i v)))) ∧
  (∀ (sc : Nat × (Nat → Int32)) (d mm : Nat) (is : List ma_I) (L : ma_L) (S : List Value) (c m : Nat → Nat → Int32) (w : Nat → Int64) (o : List Nat) (i : Nat) (v : Int32), i < 128 → ev sc d mm ((.iastore, o) :: is) L (.int v :: .int (nI i) :: .ref 156 :: S) (hp c w m) = ev sc d mm is L S (hp c w (va_up m 156 (upd (m 156) i v)))) ∧
  (∀ (sc : Nat × (Nat → Int32)) (d mm : Nat) (is : List ma_I) (L : ma_L) (S : List Value) (c m : Nat → Nat → Int32) (w : Nat → Int64) (o : List Nat) (i : Nat) (v : Int32), i < 120 → ev sc d mm ((.iastore, o) :: is) L (.int v :: .int (nI i) :: .ref 157 :: S) (hp c w m) = ev sc d mm is L S (hp c w (va_up m 157 (upd (m 157) i v)))) ∧
  (∀ (sc : Nat × (Nat → Int32)) (d mm : Nat) (is : List ma_I) (L : ma_L) (S : List Value) (c m : Nat → Nat → Int32) (w : Nat → Int64) (o : List Nat) (i : Nat) (v : Int32), i < 7 → ev sc d mm ((.iastore, o) :: is) L (.int v :: .int (nI i) :: .ref 158 :: S) (hp c w m) = ev sc d mm is L S (hp c w (va_up m 158 (upd (m 158) i v)))) ∧
  (∀ (sc : Nat × (Nat → Int32)) (d mm : Nat) (is : List ma_I) (L : ma_L) (S : List Value) (c m : Nat → Nat → Int32) (w : Nat → Int64) (o : List Nat) (i : Nat) (v : Int32), i < 420 → ev sc d mm ((.iastore, o) :: is) L (.int v :: .int (nI i) :: .ref 159 :: S) (hp c w m) = ev sc d mm is L S (hp c w (va_up m 159 (upd (m 159) i v)))) ∧
  (∀ (sc : Nat × (Nat → Int32)) (d mm : Nat) (is : List ma_I) (L : ma_L) (S : List Value) (c m : Nat → Nat → Int32) (w : Nat → Int64) (o : List Nat) (i : Nat) (v : Int32), i < 574 → ev sc d mm ((.iastore, o) :: is) L (.int v :: .int (nI i) :: .ref 160 :: S) (hp c w m) = ev sc d mm is L S (hp c w (va_up m 160 (upd (m 160) i v)))) ∧
  (∀ (sc : Nat × (Nat → Int32)) (d mm : Nat) (is : List ma_I) (L : ma_L) (S : List Value) (c m : Nat → Nat → Int32) (w : Nat → Int64) (o : List Nat) (i : Nat) (v : Int32), i < 16 → ev sc d mm ((.iastore, o) :: is) L (.int v :: .int (nI i) :: .ref 161 :: S) (hp c w m) = ev sc d mm is L S (hp c w (va_up m 161 (upd (m 161) i v)))) ∧
  (∀ (sc : Nat × (Nat → Int32)) (d mm : Nat) (is : List ma_I) (L : ma_L) (S : List Value) (c m : Nat → Nat → Int32) (w : Nat → Int64) (o : List Nat) (i : Nat) (v : Int32), i < 41 → ev sc d mm ((.iastore, o) :: is) L (.int v :: .int (nI i) :: .ref 162 :: S) (hp c w m) = ev sc d mm is L S (hp c w (va_up m 162 (upd (m 162) i v)))) ∧
  (∀ (sc : Nat × (Nat → Int32)) (d mm : Nat) (is : List ma_I) (L : ma_L) (S : List Value) (c m : Nat → Nat → Int32) (w : Nat → Int64) (o : List Nat) (i : Nat) (v : Int32), i < 25 → ev sc d mm ((.iastore, o) :: is) L (.int v :: .int (nI i) :: .ref 163 :: S) (hp c w m) = ev sc d mm is L S (hp c w (va_up m 163 (upd (m 163) i v)))) ∧
  (∀ (sc : Nat × (Nat → Int32)) (d mm : Nat) (is : List ma_I) (L : ma_L) (S : List Value) (c m : Nat → Nat → Int32) (w : Nat → Int64) (o : List Nat) (i : Nat) (v : Int32), i < 14 → ev sc d mm ((.iastore, o) :: is) L (.int v :: .int (nI i) :: .ref 164 :: S) (hp c w m) = ev sc d mm is L S (hp c w (va_up m 164 (upd (m 164) i v)))) ∧
  (∀ (sc : Nat × (Nat → Int32)) (d mm : Nat) (is : List ma_I) (L : ma_L) (S : List Value) (c m : Nat → Nat → Int32) (w : Nat → Int64) (o : List Nat) (i : Nat) (v : Int32), i < 16384 → ev sc d mm ((.iastore, o) :: is) L (.int v :: .int (nI i) :: .ref 165 :: S) (hp c w m) = ev sc d mm is L S (hp c w (va_up m 165 (upd (m 165) i v)))) ∧
  (∀ (sc : Nat × (Nat → Int32)) (d mm : Nat) (is : List ma_I) (L : ma_L) (S : List Value) (c m : Nat → Nat → Int32) (w : Nat → Int64) (o : List Nat) (i : Nat) (v : Int32), i < 1700 → ev sc d mm ((.iastore, o) :: is) L (.int v :: .int (nI i) :: .ref 166 :: S) (hp c w m) = ev sc d mm is L S (hp c w (va_up m 166 (upd (m 166) i v)))) := ⟨fun _ _ _ _ _ _ _ _ _ _ _ _ hi => ev_isM (by decide) (by decide) (fun _ => rfl) (by decide) hi,
  fun _ _ _ _ _ _ _ _ _ _ _ _ hi => ev_isM (by decide) (by decide) (fun _ => rfl) (by decide) hi,
  fun _ _ _ _ _ _ _ _ _ _ _ _ hi => ev_isM (by decide) (by decide) (fun _ => rfl) (by decide) hi,
  fun _ _ _ _ _ _ _ _ _ _ _ _ hi => ev_isM (by decide) (by decide) (fun _ => rfl) (by decide) hi,
  fun _ _ _ _ _ _ _ _ _ _ _ _ hi => ev_isM (by decide) (by decide) (fun _ => rfl) (by decide) hi,
  fun _ _ _ _ _ _ _ _ _ _ _ _ hi => ev_isM (by decide) (by decide) (fun _ => rfl) (by decide) hi,
  fun _ _ _ _ _ _ _ _ _ _ _ _ hi => ev_isM (by decide) (by decide) (fun _ => rfl) (by decide) hi,
  fun _ _ _ _ _ _ _ _ _ _ _ _ hi => ev_isM (by decide) (by decide) (fun _ => rfl) (by decide) hi,
  fun _ _ _ _ _ _ _ _ _ _ _ _ hi => ev_isM (by decide) (by decide) (fun _ => rfl) (by decide) hi,
  fun _ _ _ _ _ _ _ _ _ _ _ _ hi => ev_isM (by decide) (by decide) (fun _ => rfl) (by decide) hi,
  fun _ _ _ _ _ _ _ _ _ _ _ _ hi => ev_isM (by decide) (by decide) (fun _ => rfl) (by decide) hi,
  fun _ _ _ _ _ _ _ _ _ _ _ _ hi => ev_isM (by decide) (by decide) (fun _ => rfl) (by decide) hi,
  fun _ _ _ _ _ _ _ _ _ _ _ _ hi => ev_isM (by decide) (by decide) (fun _ => rfl) (by decide) hi,
  fun _ _ _ _ _ _ _ _ _ _ _ _ hi => ev_isM (by decide) (by decide) (fun _ => rfl) (by decide) hi,
  fun _ _ _ _ _ _ _ _ _ _ _ _ hi => ev_isM (by decide) (by decide) (fun _ => rfl) (by decide) hi,
  fun _ _ _ _ _ _ _ _ _ _ _ _ hi => ev_isM (by decide) (by decide) (fun _ => rfl) (by decide) hi,
  fun _ _ _ _ _ _ _ _ _ _ _ _ hi => ev_isM (by decide) (by decide) (fun _ => rfl) (by decide) hi,
  fun _ _ _ _ _ _ _ _ _ _ _ _ hi => ev_isM (by decide) (by decide) (fun _ => rfl) (by decide) hi,
  fun _ _ _ _ _ _ _ _ _ _ _ _ hi => ev_isM (by decide) (by decide) (fun _ => rfl) (by decide) hi,
  fun _ _ _ _ _ _ _ _ _ _ _ _ hi => ev_isM (by decide) (by decide) (fun _ => rfl) (by decide) hi,
  fun _ _ _ _ _ _ _ _ _ _ _ _ hi => ev_isM (by decide) (by decide) (fun _ => rfl) (by decide) hi,
  fun _ _ _ _ _ _ _ _ _ _ _ _ hi => ev_isM (by decide) (by decide) (fun _ => rfl) (by decide) hi,
  fun _ _ _ _ _ _ _ _ _ _ _ _ hi => ev_isM (by decide) (by decide) (fun _ => rfl) (by decide) hi,
  fun _ _ _ _ _ _ _ _ _ _ _ _ hi => ev_isM (by decide) (by decide) (fun _ => rfl) (by decide) hi,
  fun _ _ _ _ _ _ _ _ _ _ _ _ hi => ev_isM (by decide) (by decide) (fun _ => rfl) (by decide) hi,
  fun _ _ _ _ _ _ _ _ _ _ _ _ hi => ev_isM (by decide) (by decide) (fun _ => rfl) (by decide) hi,
  fun _ _ _ _ _ _ _ _ _ _ _ _ hi => ev_isM (by decide) (by decide) (fun _ => rfl) (by decide) hi,
  fun _ _ _ _ _ _ _ _ _ _ _ _ hi => ev_isM (by decide) (by decide) (fun _ => rfl) (by decide) hi⟩
end HP
