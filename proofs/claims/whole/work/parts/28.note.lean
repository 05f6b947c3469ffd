/-! ===== hours, class and reference side by side: the book ===== -/
theorem zs_c {Z : Nat → Nat → Int32} {i j : Nat} (u v : Int32) (h : i ≠ j) : zs (zs Z i u) j v = zs (zs Z j v) i u := by
  unfold zs
  rw [up_s, up_s, up_u, up_u]
  congr 1
  funext k
  unfold upd
  by_cases h1 : k = j
  · have h2 : ¬ k = i := fun z => h (z.symm.trans h1)
    simp [h1]
    intro z
    exact absurd z (Ne.symm h)
  · simp [h1]
def wkA (a : Nat) : Nat := if a = 17 then 96 else 102
def nK (v : Int32) : Nat := v.toInt.toNat
theorem nK_nI {k : Nat} (h : k < 2 ^ 31) : nK (nI k) = k := by unfold nK; rw [nI_toInt h]; rfl
def bW (f : Nat → Int32) (i : Nat) (h u b e : Int32) : Nat → Int32 := upd (upd (upd (upd f i h) (i + 1) u) (i + 2) b) (i + 3) e
def nCf (a : Nat) (c : Nat → Nat → Int32) (u b e : Int32) : Nat → Nat → Int32 :=
  if a = 97 ∨ c a 8 = nI 150 then c else va_up (va_up c 23 (bW (c 23) (4 * nK (c a 8)) (c a 6) u b e)) a (upd (c a) 8 (c a 8 + nI 1))
def nMf (m : Nat → Nat → Int32) (u b e : Int32) : Nat → Nat → Int32 :=
  if m 138 5 = nI 1 ∨ m 139 2 = nI 150 then m else va_up (va_up m 145 (bW (m 145) (4 * nK (m 139 2)) (m 139 0) u b e)) 139 (upd (m 139) 2 (m 139 2 + nI 1))
section NT
variable {sc : Nat × (Nat → Int32)} {c m : Nat → Nat → Int32} {w : Nat → Int64} {h : List ma_C}
theorem t_Book_write (d k : Nat) (u b e : Int32) (hk : k ≤ 150) (h8 : c 17 8 = nI k) : cc sc (d + 1) 54 [.ref 22, .ref 17, .int u, .int b, .int e] (hp c w m) = some (none, hp (nCf 17 c u b e) w m) := by
  by_cases hf : k = 150
  · have : nCf 17 c u b e = c := if_pos (Or.inr (by rw [h8, hf]))
    rw [this]
    simp (disch := first | assumption | omega | decide | (simp only [ma_wd0, ma_wdi, ma_wdr, ma_wdl, ma_wdn] <;> omega)) only [↓reduceIte, evK, evL, evS, evA, evJ, Option.bind_some, Option.toList, List.cons_append, List.nil_append, nI_add, pk_mul, bI0, ite_not, ev_rbb, en_Book_write, bk_Book_write, gfC, h8, ce_LH_within, t_LH_within, nI_ltT, nI_ltF, nI_leT, nI_leF, nI_eqT, nI_eqF, and_false, false_and]
  · have : nCf 17 c u b e = va_up (va_up c 23 (bW (c 23) (4 * nK (c 17 8)) (c 17 6) u b e)) 17 (upd (c 17) 8 (c 17 8 + nI 1)) := if_neg (by rintro (z | z); omega; rw [h8, nI_eq (by omega) (by omega)] at z; omega)
    rw [this, h8, nK_nI (by omega), Nat.mul_comm 4 k]
    simp (disch := first | assumption | omega | decide | (simp only [ma_wd0, ma_wdi, ma_wdr, ma_wdl, ma_wdn] <;> omega)) only [↓reduceIte, evK, evL, evS, evA, evJ, Option.bind_some, Option.toList, List.cons_append, List.nil_append, nI_add, pk_mul, bI0, ite_not, ev_rbb, en_Book_write, bk_Book_write, gfC, pfC, stC, h8, ce_LH_within, t_LH_within, nI_ltT, nI_ltF, nI_leT, nI_leF, nI_eqT, nI_eqF, and_true, true_and, not_true_eq_false, up_n, up_s, up_u, bW]
theorem t_Works_note (d a k : Nat) (u b e : Int32) (ha : a = 17 ∨ a = 97) (hk : k ≤ 150) (h8 : c a 8 = nI k) : cc sc (d + 2) 147 [.ref (wkA a), .ref a, .int u, .int b, .int e] (hp c w m) = some (none, hp (nCf a c u b e) w m) := by
  rcases ha with rfl | rfl
  · show cc sc (d + 2) 147 [.ref 96, .ref 17, .int u, .int b, .int e] (hp c w m) = _
    have := fun m => t_Book_write (sc := sc) (c := c) (m := m) (w := w) d k u b e hk h8
    simp (disch := first | assumption | omega | decide | (simp only [ma_wd0, ma_wdi, ma_wdr, ma_wdl, ma_wdn] <;> omega)) only [↓reduceIte, evK, evL, evS, evA, evJ, Option.bind_some, Option.toList, List.cons_append, List.nil_append, nI_add, pk_mul, bI0, ite_not, ev_rbb, en_Works_note, bk_Works_note, gfC, ce_Book_write, this]
  · show cc sc (d + 2) 147 [.ref 102, .ref 97, .int u, .int b, .int e] (hp c w m) = _
    rw [show nCf 97 c u b e = c from if_pos (Or.inl rfl)]
    simp (disch := first | assumption | omega | decide | (simp only [ma_wd0, ma_wdi, ma_wdr, ma_wdl, ma_wdn] <;> omega)) only [↓reduceIte, evK, evL, evS, evA, evJ, Option.bind_some, Option.toList, List.cons_append, List.nil_append, nI_add, pk_mul, bI0, ite_not, ev_rbb, en_Works_note, bk_Works_note, gfC]
theorem t_MO_notes (d k : Nat) (u b e : Int32) (hk : k ≤ 150) (h2 : m 139 2 = nI k) (ht : m 138 5 = nI 0 ∨ m 138 5 = nI 1) : cc sc d 224 [.ref 138, .int u, .int b, .int e] (hp c w m) = some (none, hp c w (nMf m u b e)) := by
  rcases ht with ht | ht
  · by_cases hf : k = 150
    · have : nMf m u b e = m := if_pos (Or.inr (by rw [h2, hf]))
      rw [this]
      simp (disch := first | assumption | omega | decide | (simp only [ma_wd0, ma_wdi, ma_wdr, ma_wdl, ma_wdn] <;> omega)) only [↓reduceIte, evK, evL, evS, evA, evJ, Option.bind_some, Option.toList, List.cons_append, List.nil_append, nI_add, pk_mul, bI0, ite_not, ev_rbb, en_MO_notes, bk_MO_notes, gfM, ldM, h2, ht, nI_ltT, nI_ltF, nI_leT, nI_leF, nI_eqT, nI_eqF]
    · have : nMf m u b e = va_up (va_up m 145 (bW (m 145) (4 * nK (m 139 2)) (m 139 0) u b e)) 139 (upd (m 139) 2 (m 139 2 + nI 1)) := if_neg (by rw [ht, h2]; rintro (z | z); exact nI_01 z; rw [nI_eq (by omega) (by omega)] at z; omega)
      rw [this, h2, nK_nI (by omega)]
      simp (disch := first | assumption | omega | decide | (simp only [ma_wd0, ma_wdi, ma_wdr, ma_wdl, ma_wdn] <;> omega)) only [↓reduceIte, evK, evL, evS, evA, evJ, Option.bind_some, Option.toList, List.cons_append, List.nil_append, nI_add, pk_mul, bI0, ite_not, ev_rbb, en_MO_notes, bk_MO_notes, gfM, ldM, stM, h2, ht, nI_ltT, nI_ltF, nI_leT, nI_leF, nI_eqT, nI_eqF, up_n, up_s, up_u, bW]
  · have : nMf m u b e = m := if_pos (Or.inl ht)
    rw [this]
    simp (disch := first | assumption | omega | decide | (simp only [ma_wd0, ma_wdi, ma_wdr, ma_wdl, ma_wdn] <;> omega)) only [↓reduceIte, evK, evL, evS, evA, evJ, Option.bind_some, Option.toList, List.cons_append, List.nil_append, nI_add, pk_mul, bI0, ite_not, ev_rbb, en_MO_notes, bk_MO_notes, gfM, ldM, h2, ht, nI_ltT, nI_ltF, nI_leT, nI_leF, nI_eqT, nI_eqF]
end NT
