/-! ===== image ===== -/
theorem cp0 {f g : Nat → Int32} {n j : Nat} (h : j < n) : va_cpy f g 0 0 n j = f j := by
  rw [pk_cpy_in (by omega) (by omega)]
  congr 1
  omega
theorem upd_self (f : Nat → Int32) (i : Nat) : upd f i (f i) = f := by
  funext j
  simp only [upd]
  split
  next h => rw [h]
  next => rfl
def cR (c : Nat → Nat → Int32) (x y : Nat) : Nat → Nat → Int32 := va_up (va_up c x (upd (c x) 0 (c y 0))) (x + 1) (va_cpy (c (y + 1)) (c (x + 1)) 0 0 80)
def cL (c : Nat → Nat → Int32) (x y : Nat) : Nat → Nat → Int32 := va_up (va_up (va_up (va_up (va_up (va_up c x (upd (upd (c x) 0 (c y 0)) 1 (c y 1))) (x + 1) (va_cpy (c (y + 1)) (c (x + 1)) 0 0 16)) (x + 2) (va_cpy (c (y + 2)) (c (x + 2)) 0 0 16)) (x + 3) (va_cpy (c (y + 3)) (c (x + 3)) 0 0 16)) (x + 4) (va_cpy (c (y + 4)) (c (x + 4)) 0 0 16)) (x + 5) (va_cpy (c (y + 5)) (c (x + 5)) 0 0 400)
/-- the places of the class's told rows that count -/
def inC (k j : Nat) : Prop := (k = 1 ∧ (j = 0 ∨ j = 1 ∨ j = 2 ∨ j = 3 ∨ j = 5 ∨ j = 8)) ∨ (k = 2 ∧ j < 8) ∨ ((k = 3 ∨ k = 4) ∧ j < 6) ∨ ((k = 5 ∨ k = 6) ∧ j < 8) ∨ (k = 7 ∧ j = 0) ∨ ((k = 8 ∨ k = 9 ∨ k = 10 ∨ k = 11) ∧ j < 16) ∨ (k = 12 ∧ j < 400) ∨ ((k = 13 ∨ k = 15) ∧ j = 0) ∨ ((k = 14 ∨ k = 16) ∧ j < 80)
def inM (k j : Nat) : Prop := (k = 138 ∧ (j = 6 ∨ j = 7 ∨ j = 8 ∨ j = 9 ∨ j = 10 ∨ j = 38 ∨ j = 40 ∨ j = 47)) ∨ (k = 142 ∧ j < 8) ∨ ((k = 143 ∨ k = 144) ∧ j < 6) ∨ (k = 148 ∧ j = 0) ∨ ((k = 149 ∨ k = 150 ∨ k = 151 ∨ k = 152) ∧ j < 16) ∨ ((k = 153 ∨ k = 154) ∧ j < 400) ∨ (k = 156 ∧ j < 64) ∨ (k = 157 ∧ j < 60) ∨ (k = 161 ∧ j < 16)
theorem tR.pt {W S Q : Nat} {ls : List lL} {c m c' m' : Nat → Nat → Int32} (h : tR W S Q ls c m) (h1 : ∀ k j, inC k j → c' k j = c k j) (h2 : ∀ k j, inM k j → m' k j = m k j) : tR W S Q ls c' m' := by
  obtain ⟨⟨l1, w1, w3, w14⟩, ⟨l2, w2, -, -⟩, t1, t2, t3, t4, t5, t6⟩ := h
  refine ⟨⟨?_, ?_, w3, w14⟩, ⟨?_, ?_, w3, w14⟩, ?_, ?_, ?_, ?_, ?_, ?_⟩
  · obtain ⟨e, hl, hi⟩ := l1
    refine ⟨by rw [h1 7 0 (by unfold inC; omega)]; exact e, hl, fun i l hil => ?_⟩
    have hil2 := (List.getElem?_eq_some_iff.mp hil).1
    obtain ⟨ok, s, a1, a2, a3, a4, a5, a6, a7⟩ := hi i l hil
    refine ⟨ok, s, ?_, ?_, ?_, ?_, a5, fun j a hj => ?_, fun j a hj => ?_⟩
    · rw [h1 8 i (by unfold inC; omega)]; exact a1
    · rw [h1 9 i (by unfold inC; omega)]; exact a2
    · rw [h1 10 i (by unfold inC; omega)]; exact a3
    · rw [h1 11 i (by unfold inC; omega)]; exact a4
    · have := (List.getElem?_eq_some_iff.mp hj).1
      rw [h1 12 _ (by unfold inC; omega)]; exact a6 j a hj
    · have := (List.getElem?_eq_some_iff.mp hj).1
      rw [h1 12 _ (by unfold inC; omega)]; exact a7 j a hj
  · rw [h1 1 0 (by unfold inC; omega)]; exact w1
  · obtain ⟨e, hl, hi⟩ := l2
    refine ⟨by rw [h2 148 0 (by unfold inM; omega)]; exact e, hl, fun i l hil => ?_⟩
    have hil2 := (List.getElem?_eq_some_iff.mp hil).1
    obtain ⟨ok, s, a1, a2, a3, a4, a5, a6, a7⟩ := hi i l hil
    refine ⟨ok, s, ?_, ?_, ?_, ?_, a5, fun j a hj => ?_, fun j a hj => ?_⟩
    · rw [h2 149 i (by unfold inM; omega)]; exact a1
    · rw [h2 150 i (by unfold inM; omega)]; exact a2
    · rw [h2 151 i (by unfold inM; omega)]; exact a3
    · rw [h2 152 i (by unfold inM; omega)]; exact a4
    · have := (List.getElem?_eq_some_iff.mp hj).1
      rw [h2 153 _ (by unfold inM; omega), h2 154 _ (by unfold inM; omega)]; exact a6 j a hj
    · have := (List.getElem?_eq_some_iff.mp hj).1
      rw [h2 153 _ (by unfold inM; omega), h2 154 _ (by unfold inM; omega)]; exact a7 j a hj
  · rw [h2 138 6 (by unfold inM; omega)]; exact w2
  · obtain ⟨a, b, hS, hj⟩ := t1
    refine ⟨by rw [h1 1 3 (by unfold inC; omega)]; exact a, by rw [h2 138 9 (by unfold inM; omega)]; exact b, hS, fun j hjS => ?_⟩
    rw [h1 2 j (by unfold inC; omega), h2 142 j (by unfold inM; omega)]
    exact hj j hjS
  · obtain ⟨a, b, hS, hj⟩ := t2
    refine ⟨by rw [h1 1 5 (by unfold inC; omega)]; exact a, by rw [h2 138 10 (by unfold inM; omega)]; exact b, hS, fun j hjS => ?_⟩
    rw [h1 3 j (by unfold inC; omega), h2 143 j (by unfold inM; omega), h1 4 j (by unfold inC; omega), h2 144 j (by unfold inM; omega)]
    exact hj j hjS
  · unfold tG at t3 ⊢
    rw [h1 1 1 (by unfold inC; omega), h1 1 2 (by unfold inC; omega), h2 138 7 (by unfold inM; omega), h2 138 8 (by unfold inM; omega)]
    exact t3
  · obtain ⟨n, hn, a, b, hj⟩ := t4
    refine ⟨n, hn, by rw [h1 1 8 (by unfold inC; omega)]; exact a, by rw [h2 138 47 (by unfold inM; omega)]; exact b, fun j hjS => ?_⟩
    rw [h1 5 j (by unfold inC; omega), h1 6 j (by unfold inC; omega), h2 161 _ (by unfold inM; omega), h2 161 _ (by unfold inM; omega)]
    exact hj j hjS
  · obtain ⟨n, hn, a, b, hj⟩ := t5
    refine ⟨n, hn, by rw [h1 13 0 (by unfold inC; omega)]; exact a, by rw [h2 138 38 (by unfold inM; omega)]; exact b, fun i hi => ?_⟩
    have := hj i hi
    unfold rL at this ⊢
    rw [h1 14 _ (by unfold inC; omega), h1 14 _ (by unfold inC; omega), h1 14 _ (by unfold inC; omega), h1 14 _ (by unfold inC; omega), h2 156 _ (by unfold inM; omega), h2 156 _ (by unfold inM; omega), h2 156 _ (by unfold inM; omega), h2 156 _ (by unfold inM; omega)]
    exact this
  · obtain ⟨n, hn, a, b, hj⟩ := t6
    refine ⟨n, hn, by rw [h1 15 0 (by unfold inC; omega)]; exact a, by rw [h2 138 40 (by unfold inM; omega)]; exact b, fun i hi => ?_⟩
    have := hj i hi
    unfold wL at this ⊢
    rw [h1 16 _ (by unfold inC; omega), h1 16 _ (by unfold inC; omega), h1 16 _ (by unfold inC; omega), h1 16 _ (by unfold inC; omega), h1 16 _ (by unfold inC; omega), h2 157 _ (by unfold inM; omega), h2 157 _ (by unfold inM; omega), h2 157 _ (by unfold inM; omega), h2 157 _ (by unfold inM; omega), h2 157 _ (by unfold inM; omega)]
    exact this
section IC
variable {sc : Nat × (Nat → Int32)} {c m : Nat → Nat → Int32} {w : Nat → Int64}
theorem t_Rows_copy (d x y : Nat) (h : (x, y) ∈ [(36, 13), (38, 15), (13, 36), (15, 38), (13, 91), (15, 91)]) : cc sc (d + 9) 89 [.ref x, .ref y] (hp c w m) = some (none, hp (cR c x y) w m) := by
  simp only [List.mem_cons, Prod.mk.injEq, List.not_mem_nil, or_false] at h
  rcases h with ⟨rfl, rfl⟩ | ⟨rfl, rfl⟩ | ⟨rfl, rfl⟩ | ⟨rfl, rfl⟩ | ⟨rfl, rfl⟩ | ⟨rfl, rfl⟩ <;> (simp (disch := first | assumption | omega | decide | (simp only [ma_wd0, ma_wdi, ma_wdr, ma_wdl, ma_wdn] <;> omega)) only [↓reduceIte, evK, evL, evS, evA, evJ, Option.bind_some, Option.toList, List.cons_append, List.nil_append, nI_add, pk_mul, bI0, ite_not, ev_rbb, up_n, up_s, up_u, pk_us, pk_un, Nat.reduceAdd, nI_ltT, nI_ltF, nI_leT, nI_leF, nI_eqT, nI_eqF, en_Rows_copy, gfC, gfI, gfK, cpA, pfC, pfI, pfK, alC, cR])
theorem t_Law_copy (d x y : Nat) (h : (x, y) ∈ [(30, 7), (7, 30), (7, 85)]) : cc sc (d + 9) 62 [.ref x, .ref y] (hp c w m) = some (none, hp (cL c x y) w m) := by
  simp only [List.mem_cons, Prod.mk.injEq, List.not_mem_nil, or_false] at h
  rcases h with ⟨rfl, rfl⟩ | ⟨rfl, rfl⟩ | ⟨rfl, rfl⟩ <;> (simp (disch := first | assumption | omega | decide | (simp only [ma_wd0, ma_wdi, ma_wdr, ma_wdl, ma_wdn] <;> omega)) only [↓reduceIte, evK, evL, evS, evA, evJ, Option.bind_some, Option.toList, List.cons_append, List.nil_append, nI_add, pk_mul, bI0, ite_not, ev_rbb, up_n, up_s, up_u, pk_us, pk_un, Nat.reduceAdd, nI_ltT, nI_ltF, nI_leT, nI_leF, nI_eqT, nI_eqF, en_Law_copy, gfC, gfI, gfK, cpA, pfC, pfI, pfK, alC, cL])
theorem t_Book_copy (d x y : Nat) (h : (x, y) = (45, 22) ∨ (x, y) = (22, 45)) : cc sc (d + 9) 56 [.ref x, .ref y] (hp c w m) = some (none, hp (va_up c (x + 1) (va_cpy (c (y + 1)) (c (x + 1)) 0 0 600)) w m) := by
  simp only [Prod.mk.injEq] at h
  rcases h with ⟨rfl, rfl⟩ | ⟨rfl, rfl⟩ <;> (simp (disch := first | assumption | omega | decide | (simp only [ma_wd0, ma_wdi, ma_wdr, ma_wdl, ma_wdn] <;> omega)) only [↓reduceIte, evK, evL, evS, evA, evJ, Option.bind_some, Option.toList, List.cons_append, List.nil_append, nI_add, pk_mul, bI0, ite_not, ev_rbb, up_n, up_s, up_u, pk_us, pk_un, Nat.reduceAdd, nI_ltT, nI_ltF, nI_leT, nI_leF, nI_eqT, nI_eqF, en_Book_copy, gfC, gfI, gfK, cpA, pfC, pfI, pfK, alC])
set_option maxHeartbeats 1000000 in
theorem t_Told_copy1 (d : Nat) : ∃ c', (∀ m, cc sc (d + 10) 144 [.ref 24, .ref 1] (hp c w m) = some (none, hp c' w m)) ∧ (∀ k j, inC k j → c' (k + 23) j = c k j) ∧ ∀ k, k < 24 ∨ 39 < k → c' k = c k := by
  have hL := fun c m => t_Law_copy (sc := sc) (c := c) (m := m) (w := w) d 30 7 (by simp)
  have hR1 := fun c m => t_Rows_copy (sc := sc) (c := c) (m := m) (w := w) d 36 13 (by simp)
  have hR2 := fun c m => t_Rows_copy (sc := sc) (c := c) (m := m) (w := w) d 38 15 (by simp)
  refine ⟨?_, fun m => ?_, fun k j h => ?_, fun k h => ?_⟩; rotate_left 1
  · (simp (disch := first | assumption | omega | decide | (simp only [ma_wd0, ma_wdi, ma_wdr, ma_wdl, ma_wdn] <;> omega)) only [↓reduceIte, evK, evL, evS, evA, evJ, Option.bind_some, Option.toList, List.cons_append, List.nil_append, nI_add, pk_mul, bI0, ite_not, ev_rbb, up_n, up_s, up_u, pk_us, pk_un, Nat.reduceAdd, nI_ltT, nI_ltF, nI_leT, nI_leF, nI_eqT, nI_eqF, en_Told_copy, gfC, gfI, cpA, pfC, pfI, ce_Law_copy, hL, ce_Rows_copy, hR1, hR2, cL, cR]) <;> rfl
  · simp only [inC] at h
    rcases h with ⟨rfl, h⟩ | ⟨rfl, h⟩ | ⟨rfl | rfl, h⟩ | ⟨rfl | rfl, h⟩ | ⟨rfl, h⟩ | ⟨rfl | rfl | rfl | rfl, h⟩ | ⟨rfl, h⟩ | ⟨rfl | rfl, h⟩ | ⟨rfl | rfl, h⟩
    · rcases h with rfl | rfl | rfl | rfl | rfl | rfl <;> (simp (disch := first | assumption | omega | decide | (simp only [ma_wd0, ma_wdi, ma_wdr, ma_wdl, ma_wdn] <;> omega)) only [up_n, up_s, up_u, pk_us, pk_un, Nat.reduceAdd])
    all_goals first | (subst h; simp (disch := first | assumption | omega | decide | (simp only [ma_wd0, ma_wdi, ma_wdr, ma_wdl, ma_wdn] <;> omega)) only [up_n, up_s, up_u, pk_us, pk_un, Nat.reduceAdd, cp0]) | (simp (disch := first | assumption | omega | decide | (simp only [ma_wd0, ma_wdi, ma_wdr, ma_wdl, ma_wdn] <;> omega)) only [up_n, up_s, up_u, pk_us, pk_un, Nat.reduceAdd, cp0])
  · simp (disch := first | assumption | omega | decide | (simp only [ma_wd0, ma_wdi, ma_wdr, ma_wdl, ma_wdn] <;> omega)) only [up_n, up_s, up_u, pk_us, pk_un, Nat.reduceAdd]
set_option maxHeartbeats 1000000 in
theorem t_Told_copy2 (d : Nat) : ∃ c', (∀ m, cc sc (d + 10) 144 [.ref 1, .ref 24] (hp c w m) = some (none, hp c' w m)) ∧ (∀ k j, inC k j → c' k j = c (k + 23) j) ∧ ∀ k, k < 1 ∨ 16 < k → c' k = c k := by
  have hL := fun c m => t_Law_copy (sc := sc) (c := c) (m := m) (w := w) d 7 30 (by simp)
  have hR1 := fun c m => t_Rows_copy (sc := sc) (c := c) (m := m) (w := w) d 13 36 (by simp)
  have hR2 := fun c m => t_Rows_copy (sc := sc) (c := c) (m := m) (w := w) d 15 38 (by simp)
  refine ⟨?_, fun m => ?_, fun k j h => ?_, fun k h => ?_⟩; rotate_left 1
  · (simp (disch := first | assumption | omega | decide | (simp only [ma_wd0, ma_wdi, ma_wdr, ma_wdl, ma_wdn] <;> omega)) only [↓reduceIte, evK, evL, evS, evA, evJ, Option.bind_some, Option.toList, List.cons_append, List.nil_append, nI_add, pk_mul, bI0, ite_not, ev_rbb, up_n, up_s, up_u, pk_us, pk_un, Nat.reduceAdd, nI_ltT, nI_ltF, nI_leT, nI_leF, nI_eqT, nI_eqF, en_Told_copy, gfC, gfI, cpA, pfC, pfI, ce_Law_copy, hL, ce_Rows_copy, hR1, hR2, cL, cR]) <;> rfl
  · simp only [inC] at h
    rcases h with ⟨rfl, h⟩ | ⟨rfl, h⟩ | ⟨rfl | rfl, h⟩ | ⟨rfl | rfl, h⟩ | ⟨rfl, h⟩ | ⟨rfl | rfl | rfl | rfl, h⟩ | ⟨rfl, h⟩ | ⟨rfl | rfl, h⟩ | ⟨rfl | rfl, h⟩
    · rcases h with rfl | rfl | rfl | rfl | rfl | rfl <;> (simp (disch := first | assumption | omega | decide | (simp only [ma_wd0, ma_wdi, ma_wdr, ma_wdl, ma_wdn] <;> omega)) only [up_n, up_s, up_u, pk_us, pk_un, Nat.reduceAdd])
    all_goals first | (subst h; simp (disch := first | assumption | omega | decide | (simp only [ma_wd0, ma_wdi, ma_wdr, ma_wdl, ma_wdn] <;> omega)) only [up_n, up_s, up_u, pk_us, pk_un, Nat.reduceAdd, cp0]) | (simp (disch := first | assumption | omega | decide | (simp only [ma_wd0, ma_wdi, ma_wdr, ma_wdl, ma_wdn] <;> omega)) only [up_n, up_s, up_u, pk_us, pk_un, Nat.reduceAdd, cp0])
  · simp (disch := first | assumption | omega | decide | (simp only [ma_wd0, ma_wdi, ma_wdr, ma_wdl, ma_wdn] <;> omega)) only [up_n, up_s, up_u, pk_us, pk_un, Nat.reduceAdd]
end IC
/-! the reference: a place of the image, and what it is of -/
def atP (p : Nat) : Nat × Nat := if p < 49 then (139, p) else if p < 54 then (138, p - 43) else if p = 54 then (138, 38) else if p = 55 then (138, 40) else if p = 56 then (138, 47) else if p < 65 then (142, p - 57) else if p < 77 then (143 + (p - 65) % 2, (p - 65) / 2) else if p < 93 then (161, p - 77) else if p < 157 then (156, p - 93) else if p < 217 then (157, p - 157) else if p < 817 then (145, p - 217) else if p = 817 then (148, 0) else if p < 882 then (149 + (p - 818) % 4, (p - 818) / 4) else (153 + (p - 882) % 2, (p - 882) / 2)
def psP (r i : Nat) : Nat := if r = 139 then i else if r = 138 then (if i < 11 then i + 43 else if i = 38 then 54 else if i = 40 then 55 else 56) else if r = 142 then 57 + i else if r = 143 then 65 + 2 * i else if r = 144 then 66 + 2 * i else if r = 161 then 77 + i else if r = 156 then 93 + i else if r = 157 then 157 + i else if r = 145 then 217 + i else if r = 148 then 817 else if r < 153 then 818 + 4 * i + (r - 149) else 882 + 2 * i + (r - 153)
theorem atP_c (p : Nat) : (p < 49 ∧ atP p = (139, p)) ∨ (49 ≤ p ∧ p < 54 ∧ atP p = (138, p - 43)) ∨ (p = 54 ∧ atP p = (138, 38)) ∨ (p = 55 ∧ atP p = (138, 40)) ∨ (p = 56 ∧ atP p = (138, 47)) ∨ (57 ≤ p ∧ p < 65 ∧ atP p = (142, p - 57)) ∨ (65 ≤ p ∧ p < 77 ∧ atP p = (143 + (p - 65) % 2, (p - 65) / 2)) ∨ (77 ≤ p ∧ p < 93 ∧ atP p = (161, p - 77)) ∨ (93 ≤ p ∧ p < 157 ∧ atP p = (156, p - 93)) ∨ (157 ≤ p ∧ p < 217 ∧ atP p = (157, p - 157)) ∨ (217 ≤ p ∧ p < 817 ∧ atP p = (145, p - 217)) ∨ (p = 817 ∧ atP p = (148, 0)) ∨ (818 ≤ p ∧ p < 882 ∧ atP p = (149 + (p - 818) % 4, (p - 818) / 4)) ∨ (882 ≤ p ∧ atP p = (153 + (p - 882) % 2, (p - 882) / 2)) := by
  unfold atP
  by_cases h0 : p < 49
  · exact Or.inl ⟨by omega, if_pos h0⟩
  rw [if_neg h0]
  by_cases h1 : p < 54
  · exact Or.inr (Or.inl ⟨by omega, by omega, if_pos h1⟩)
  rw [if_neg h1]
  by_cases h2 : p = 54
  · exact Or.inr (Or.inr (Or.inl ⟨by omega, if_pos h2⟩))
  rw [if_neg h2]
  by_cases h3 : p = 55
  · exact Or.inr (Or.inr (Or.inr (Or.inl ⟨by omega, if_pos h3⟩)))
  rw [if_neg h3]
  by_cases h4 : p = 56
  · exact Or.inr (Or.inr (Or.inr (Or.inr (Or.inl ⟨by omega, if_pos h4⟩))))
  rw [if_neg h4]
  by_cases h5 : p < 65
  · exact Or.inr (Or.inr (Or.inr (Or.inr (Or.inr (Or.inl ⟨by omega, by omega, if_pos h5⟩)))))
  rw [if_neg h5]
  by_cases h6 : p < 77
  · exact Or.inr (Or.inr (Or.inr (Or.inr (Or.inr (Or.inr (Or.inl ⟨by omega, by omega, if_pos h6⟩))))))
  rw [if_neg h6]
  by_cases h7 : p < 93
  · exact Or.inr (Or.inr (Or.inr (Or.inr (Or.inr (Or.inr (Or.inr (Or.inl ⟨by omega, by omega, if_pos h7⟩)))))))
  rw [if_neg h7]
  by_cases h8 : p < 157
  · exact Or.inr (Or.inr (Or.inr (Or.inr (Or.inr (Or.inr (Or.inr (Or.inr (Or.inl ⟨by omega, by omega, if_pos h8⟩))))))))
  rw [if_neg h8]
  by_cases h9 : p < 217
  · exact Or.inr (Or.inr (Or.inr (Or.inr (Or.inr (Or.inr (Or.inr (Or.inr (Or.inr (Or.inl ⟨by omega, by omega, if_pos h9⟩)))))))))
  rw [if_neg h9]
  by_cases h10 : p < 817
  · exact Or.inr (Or.inr (Or.inr (Or.inr (Or.inr (Or.inr (Or.inr (Or.inr (Or.inr (Or.inr (Or.inl ⟨by omega, by omega, if_pos h10⟩))))))))))
  rw [if_neg h10]
  by_cases h11 : p = 817
  · exact Or.inr (Or.inr (Or.inr (Or.inr (Or.inr (Or.inr (Or.inr (Or.inr (Or.inr (Or.inr (Or.inr (Or.inl ⟨by omega, if_pos h11⟩)))))))))))
  rw [if_neg h11]
  by_cases h12 : p < 882
  · exact Or.inr (Or.inr (Or.inr (Or.inr (Or.inr (Or.inr (Or.inr (Or.inr (Or.inr (Or.inr (Or.inr (Or.inr (Or.inl ⟨by omega, by omega, if_pos h12⟩))))))))))))
  rw [if_neg h12]
  exact Or.inr (Or.inr (Or.inr (Or.inr (Or.inr (Or.inr (Or.inr (Or.inr (Or.inr (Or.inr (Or.inr (Or.inr (Or.inr (⟨by omega, rfl⟩)))))))))))))
theorem psP_at (p : Nat) (hp : p < 1682) : psP (atP p).1 (atP p).2 = p := by
  rcases atP_c p with ⟨z00, e⟩ | ⟨z10, z11, e⟩ | ⟨z20, e⟩ | ⟨z30, e⟩ | ⟨z40, e⟩ | ⟨z50, z51, e⟩ | ⟨z60, z61, e⟩ | ⟨z70, z71, e⟩ | ⟨z80, z81, e⟩ | ⟨z90, z91, e⟩ | ⟨z100, z101, e⟩ | ⟨z110, e⟩ | ⟨z120, z121, e⟩ | ⟨z130, e⟩
  all_goals
    rw [e]
    try simp only [psP, if_true, if_false, Nat.reduceEqDiff, Nat.reduceLT, Nat.reduceAdd]
    try omega
  all_goals try (rw [if_pos (show p - 43 < 11 by omega)]; omega)
  · rcases (show (p - 65) % 2 = 0 ∨ (p - 65) % 2 = 1 by omega) with h | h <;> simp only [h, if_true, if_false, Nat.reduceEqDiff, Nat.reduceAdd] <;> omega
  · rcases (show (p - 818) % 4 = 0 ∨ (p - 818) % 4 = 1 ∨ (p - 818) % 4 = 2 ∨ (p - 818) % 4 = 3 by omega) with h | h | h | h <;> simp only [h, if_true, if_false, Nat.reduceEqDiff, Nat.reduceAdd, Nat.reduceLT, Nat.reduceSub] <;> omega
  · rcases (show (p - 882) % 2 = 0 ∨ (p - 882) % 2 = 1 by omega) with h | h <;> simp only [h, if_true, if_false, Nat.reduceEqDiff, Nat.reduceAdd, Nat.reduceLT, Nat.reduceSub] <;> omega
theorem atP_inj {p q : Nat} (hp : p < 1682) (hq : q < 1682) (h : atP p = atP q) : p = q := by rw [← psP_at p hp, ← psP_at q hq, h]
theorem atP_ok (p : Nat) (hp : p < 1682) : (atP p).1 ≠ 166 ∧ ((atP p).1 = 138 → (atP p).2 ≠ 56 ∧ (atP p).2 ≠ 54) := by
  rcases atP_c p with ⟨z00, e⟩ | ⟨z10, z11, e⟩ | ⟨z20, e⟩ | ⟨z30, e⟩ | ⟨z40, e⟩ | ⟨z50, z51, e⟩ | ⟨z60, z61, e⟩ | ⟨z70, z71, e⟩ | ⟨z80, z81, e⟩ | ⟨z90, z91, e⟩ | ⟨z100, z101, e⟩ | ⟨z110, e⟩ | ⟨z120, z121, e⟩ | ⟨z130, e⟩
  all_goals
    rw [e]
    refine ⟨fun h => ?_, fun h => ?_⟩
    · have h : (_ : Nat) = 166 := h
      omega
    · have h : (_ : Nat) = 138 := h
      refine ⟨fun g => ?_, fun g => ?_⟩
      · have g : (_ : Nat) = 56 := g
        omega
      · have g : (_ : Nat) = 54 := g
        omega

theorem at_139 {j : Nat} (h : j < 49) : atP (0 + j) = (139, j) := by
  rcases atP_c (0 + j) with ⟨z00, e⟩ | ⟨z10, z11, e⟩ | ⟨z20, e⟩ | ⟨z30, e⟩ | ⟨z40, e⟩ | ⟨z50, z51, e⟩ | ⟨z60, z61, e⟩ | ⟨z70, z71, e⟩ | ⟨z80, z81, e⟩ | ⟨z90, z91, e⟩ | ⟨z100, z101, e⟩ | ⟨z110, e⟩ | ⟨z120, z121, e⟩ | ⟨z130, e⟩
  all_goals first | (exfalso; omega) | (rw [e]; done) | (rw [e, Prod.mk.injEq]; omega)
theorem at_142 {j : Nat} (h : j < 8) : atP (57 + j) = (142, j) := by
  rcases atP_c (57 + j) with ⟨z00, e⟩ | ⟨z10, z11, e⟩ | ⟨z20, e⟩ | ⟨z30, e⟩ | ⟨z40, e⟩ | ⟨z50, z51, e⟩ | ⟨z60, z61, e⟩ | ⟨z70, z71, e⟩ | ⟨z80, z81, e⟩ | ⟨z90, z91, e⟩ | ⟨z100, z101, e⟩ | ⟨z110, e⟩ | ⟨z120, z121, e⟩ | ⟨z130, e⟩
  all_goals first | (exfalso; omega) | (rw [e]; done) | (rw [e, Prod.mk.injEq]; omega)
theorem at_143 {j : Nat} (h : j < 6) : atP (65 + 2 * j) = (143, j) := by
  rcases atP_c (65 + 2 * j) with ⟨z00, e⟩ | ⟨z10, z11, e⟩ | ⟨z20, e⟩ | ⟨z30, e⟩ | ⟨z40, e⟩ | ⟨z50, z51, e⟩ | ⟨z60, z61, e⟩ | ⟨z70, z71, e⟩ | ⟨z80, z81, e⟩ | ⟨z90, z91, e⟩ | ⟨z100, z101, e⟩ | ⟨z110, e⟩ | ⟨z120, z121, e⟩ | ⟨z130, e⟩
  all_goals first | (exfalso; omega) | (rw [e]; done) | (rw [e, Prod.mk.injEq]; omega)
theorem at_144 {j : Nat} (h : j < 6) : atP (65 + 2 * j + 1) = (144, j) := by
  rcases atP_c (65 + 2 * j + 1) with ⟨z00, e⟩ | ⟨z10, z11, e⟩ | ⟨z20, e⟩ | ⟨z30, e⟩ | ⟨z40, e⟩ | ⟨z50, z51, e⟩ | ⟨z60, z61, e⟩ | ⟨z70, z71, e⟩ | ⟨z80, z81, e⟩ | ⟨z90, z91, e⟩ | ⟨z100, z101, e⟩ | ⟨z110, e⟩ | ⟨z120, z121, e⟩ | ⟨z130, e⟩
  all_goals first | (exfalso; omega) | (rw [e]; done) | (rw [e, Prod.mk.injEq]; omega)
theorem at_161 {j : Nat} (h : j < 16) : atP (77 + j) = (161, j) := by
  rcases atP_c (77 + j) with ⟨z00, e⟩ | ⟨z10, z11, e⟩ | ⟨z20, e⟩ | ⟨z30, e⟩ | ⟨z40, e⟩ | ⟨z50, z51, e⟩ | ⟨z60, z61, e⟩ | ⟨z70, z71, e⟩ | ⟨z80, z81, e⟩ | ⟨z90, z91, e⟩ | ⟨z100, z101, e⟩ | ⟨z110, e⟩ | ⟨z120, z121, e⟩ | ⟨z130, e⟩
  all_goals first | (exfalso; omega) | (rw [e]; done) | (rw [e, Prod.mk.injEq]; omega)
theorem at_156 {j : Nat} (h : j < 64) : atP (93 + j) = (156, j) := by
  rcases atP_c (93 + j) with ⟨z00, e⟩ | ⟨z10, z11, e⟩ | ⟨z20, e⟩ | ⟨z30, e⟩ | ⟨z40, e⟩ | ⟨z50, z51, e⟩ | ⟨z60, z61, e⟩ | ⟨z70, z71, e⟩ | ⟨z80, z81, e⟩ | ⟨z90, z91, e⟩ | ⟨z100, z101, e⟩ | ⟨z110, e⟩ | ⟨z120, z121, e⟩ | ⟨z130, e⟩
  all_goals first | (exfalso; omega) | (rw [e]; done) | (rw [e, Prod.mk.injEq]; omega)
theorem at_157 {j : Nat} (h : j < 60) : atP (157 + j) = (157, j) := by
  rcases atP_c (157 + j) with ⟨z00, e⟩ | ⟨z10, z11, e⟩ | ⟨z20, e⟩ | ⟨z30, e⟩ | ⟨z40, e⟩ | ⟨z50, z51, e⟩ | ⟨z60, z61, e⟩ | ⟨z70, z71, e⟩ | ⟨z80, z81, e⟩ | ⟨z90, z91, e⟩ | ⟨z100, z101, e⟩ | ⟨z110, e⟩ | ⟨z120, z121, e⟩ | ⟨z130, e⟩
  all_goals first | (exfalso; omega) | (rw [e]; done) | (rw [e, Prod.mk.injEq]; omega)
theorem at_145 {j : Nat} (h : j < 600) : atP (217 + j) = (145, j) := by
  rcases atP_c (217 + j) with ⟨z00, e⟩ | ⟨z10, z11, e⟩ | ⟨z20, e⟩ | ⟨z30, e⟩ | ⟨z40, e⟩ | ⟨z50, z51, e⟩ | ⟨z60, z61, e⟩ | ⟨z70, z71, e⟩ | ⟨z80, z81, e⟩ | ⟨z90, z91, e⟩ | ⟨z100, z101, e⟩ | ⟨z110, e⟩ | ⟨z120, z121, e⟩ | ⟨z130, e⟩
  all_goals first | (exfalso; omega) | (rw [e]; done) | (rw [e, Prod.mk.injEq]; omega)
theorem at_149 {j : Nat} (h : j < 16) : atP (818 + 4 * j) = (149, j) := by
  rcases atP_c (818 + 4 * j) with ⟨z00, e⟩ | ⟨z10, z11, e⟩ | ⟨z20, e⟩ | ⟨z30, e⟩ | ⟨z40, e⟩ | ⟨z50, z51, e⟩ | ⟨z60, z61, e⟩ | ⟨z70, z71, e⟩ | ⟨z80, z81, e⟩ | ⟨z90, z91, e⟩ | ⟨z100, z101, e⟩ | ⟨z110, e⟩ | ⟨z120, z121, e⟩ | ⟨z130, e⟩
  all_goals first | (exfalso; omega) | (rw [e]; done) | (rw [e, Prod.mk.injEq]; omega)
theorem at_150 {j : Nat} (h : j < 16) : atP (818 + 4 * j + 1) = (150, j) := by
  rcases atP_c (818 + 4 * j + 1) with ⟨z00, e⟩ | ⟨z10, z11, e⟩ | ⟨z20, e⟩ | ⟨z30, e⟩ | ⟨z40, e⟩ | ⟨z50, z51, e⟩ | ⟨z60, z61, e⟩ | ⟨z70, z71, e⟩ | ⟨z80, z81, e⟩ | ⟨z90, z91, e⟩ | ⟨z100, z101, e⟩ | ⟨z110, e⟩ | ⟨z120, z121, e⟩ | ⟨z130, e⟩
  all_goals first | (exfalso; omega) | (rw [e]; done) | (rw [e, Prod.mk.injEq]; omega)
theorem at_151 {j : Nat} (h : j < 16) : atP (818 + 4 * j + 1 + 1) = (151, j) := by
  rcases atP_c (818 + 4 * j + 1 + 1) with ⟨z00, e⟩ | ⟨z10, z11, e⟩ | ⟨z20, e⟩ | ⟨z30, e⟩ | ⟨z40, e⟩ | ⟨z50, z51, e⟩ | ⟨z60, z61, e⟩ | ⟨z70, z71, e⟩ | ⟨z80, z81, e⟩ | ⟨z90, z91, e⟩ | ⟨z100, z101, e⟩ | ⟨z110, e⟩ | ⟨z120, z121, e⟩ | ⟨z130, e⟩
  all_goals first | (exfalso; omega) | (rw [e]; done) | (rw [e, Prod.mk.injEq]; omega)
theorem at_152 {j : Nat} (h : j < 16) : atP (818 + 4 * j + 1 + 1 + 1) = (152, j) := by
  rcases atP_c (818 + 4 * j + 1 + 1 + 1) with ⟨z00, e⟩ | ⟨z10, z11, e⟩ | ⟨z20, e⟩ | ⟨z30, e⟩ | ⟨z40, e⟩ | ⟨z50, z51, e⟩ | ⟨z60, z61, e⟩ | ⟨z70, z71, e⟩ | ⟨z80, z81, e⟩ | ⟨z90, z91, e⟩ | ⟨z100, z101, e⟩ | ⟨z110, e⟩ | ⟨z120, z121, e⟩ | ⟨z130, e⟩
  all_goals first | (exfalso; omega) | (rw [e]; done) | (rw [e, Prod.mk.injEq]; omega)
theorem at_153 {j : Nat} (h : j < 400) : atP (882 + 2 * j) = (153, j) := by
  rcases atP_c (882 + 2 * j) with ⟨z00, e⟩ | ⟨z10, z11, e⟩ | ⟨z20, e⟩ | ⟨z30, e⟩ | ⟨z40, e⟩ | ⟨z50, z51, e⟩ | ⟨z60, z61, e⟩ | ⟨z70, z71, e⟩ | ⟨z80, z81, e⟩ | ⟨z90, z91, e⟩ | ⟨z100, z101, e⟩ | ⟨z110, e⟩ | ⟨z120, z121, e⟩ | ⟨z130, e⟩
  all_goals first | (exfalso; omega) | (rw [e]; done) | (rw [e, Prod.mk.injEq]; omega)
theorem at_154 {j : Nat} (h : j < 400) : atP (882 + 2 * j + 1) = (154, j) := by
  rcases atP_c (882 + 2 * j + 1) with ⟨z00, e⟩ | ⟨z10, z11, e⟩ | ⟨z20, e⟩ | ⟨z30, e⟩ | ⟨z40, e⟩ | ⟨z50, z51, e⟩ | ⟨z60, z61, e⟩ | ⟨z70, z71, e⟩ | ⟨z80, z81, e⟩ | ⟨z90, z91, e⟩ | ⟨z100, z101, e⟩ | ⟨z110, e⟩ | ⟨z120, z121, e⟩ | ⟨z130, e⟩
  all_goals first | (exfalso; omega) | (rw [e]; done) | (rw [e, Prod.mk.injEq]; omega)
def kT (m : Nat → Nat → Int32) (k : Nat) (v : Int32) : Nat → Nat → Int32 := va_up (va_up m 138 (upd (m 138) 56 (nI (k + 1)))) 166 (upd (m 166) k v)
def kU (m : Nat → Nat → Int32) (k : Nat) : Nat → Nat → Int32 := va_up m 138 (upd (m 138) 56 (nI (k + 1)))
def iT (m0 : Nat → Nat → Int32) (k : Nat) (M : Nat → Nat → Int32) : Prop := M 138 56 = nI k ∧ M 138 54 = nI 1 ∧ (∀ r, r ≠ 138 → r ≠ 166 → M r = m0 r) ∧ (∀ j, j ≠ 56 → M 138 j = m0 138 j) ∧ ∀ p, p < k → M 166 p = m0 (atP p).1 (atP p).2
def imR : List Nat := [138, 139, 142, 143, 144, 145, 148, 149, 150, 151, 152, 153, 154, 156, 157, 161]
def imF : List Nat := [6, 7, 8, 9, 10, 38, 40, 47, 56]
def iU (m0 : Nat → Nat → Int32) (k : Nat) (M : Nat → Nat → Int32) : Prop := M 138 56 = nI k ∧ M 138 54 = nI 0 ∧ M 166 = m0 166 ∧ (∀ p, p < k → M (atP p).1 (atP p).2 = m0 166 p) ∧ (∀ r, r ∉ imR → M r = m0 r) ∧ ∀ f, f ∉ imF → M 138 f = m0 138 f
section IM
variable {sc : Nat × (Nat → Int32)} {c m m0 M : Nat → Nat → Int32} {w : Nat → Int64} {k : Nat}
theorem iT.kk (h : iT m0 k M) (hk : k < 1682) {r i : Nat} (ha : atP k = (r, i)) : iT m0 (k + 1) (kT M k (M r i)) := by
  have ok := atP_ok k hk
  rw [ha] at ok
  obtain ⟨h1, h2, h3, h4, h5⟩ := h
  refine ⟨?_, ?_, fun r hr hr2 => ?_, fun j hj => ?_, fun p hp => ?_⟩
  · unfold kT; simp (disch := first | assumption | omega | decide | (simp only [ma_wd0, ma_wdi, ma_wdr, ma_wdl, ma_wdn] <;> omega)) only [up_n, up_s, up_u, pk_us, pk_un, Nat.reduceAdd]
  · unfold kT; simp (disch := first | assumption | omega | decide | (simp only [ma_wd0, ma_wdi, ma_wdr, ma_wdl, ma_wdn] <;> omega)) only [up_n, up_s, up_u, pk_us, pk_un, Nat.reduceAdd]
    exact h2
  · unfold kT; simp (disch := first | assumption | omega | decide | (simp only [ma_wd0, ma_wdi, ma_wdr, ma_wdl, ma_wdn] <;> omega)) only [up_n, up_s, up_u, pk_us, pk_un, Nat.reduceAdd]
    exact h3 r hr hr2
  · unfold kT; simp (disch := first | assumption | omega | decide | (simp only [ma_wd0, ma_wdi, ma_wdr, ma_wdl, ma_wdn] <;> omega)) only [up_n, up_s, up_u, pk_us, pk_un, Nat.reduceAdd]
    exact h4 j hj
  · unfold kT
    rw [up_s]
    by_cases e : p = k
    · subst e
      rw [pk_us, ha]
      by_cases z : r = 138
      · subst z; exact h4 i (ok.2 rfl).1
      · rw [h3 r z ok.1]
    · rw [pk_un e]; exact h5 p (by omega)
theorem iT.row (h : iT m0 k M) (hk : k < 1682) {r i : Nat} (ha : atP k = (r, i)) (hr : r ≠ 138) : iT m0 (k + 1) (va_up (kT M k (M r i)) r (upd (kT M k (M r i) r) i (M r i))) := by
  have ok := atP_ok k hk
  rw [ha] at ok
  have e : kT M k (M r i) r = M r := by unfold kT; rw [up_n _ _ _ _ ok.1, up_n _ _ _ _ hr]
  have e2 : upd (kT M k (M r i) r) i (M r i) = kT M k (M r i) r := by rw [e, upd_self]
  rw [e2, up_self]
  exact h.kk hk ha
theorem iT.fld (h : iT m0 k M) (hk : k < 1682) {f : Nat} (ha : atP k = (138, f)) : iT m0 (k + 1) (va_up (kT M k (M 138 f)) 138 (upd (kT M k (M 138 f) 138) f (M 138 f))) := by
  have ok := atP_ok k hk
  rw [ha] at ok
  have e : kT M k (M 138 f) 138 f = M 138 f := by unfold kT; rw [up_n _ _ _ _ (by omega), up_s, pk_un (ok.2 rfl).1]
  have e2 : upd (kT M k (M 138 f) 138) f (M 138 f) = kT M k (M 138 f) 138 := by
    conv => lhs; rw [← e]
    rw [e]
    conv => lhs; arg 3; rw [← e]
    exact upd_self _ _
  rw [e2, up_self]
  exact h.kk hk ha
theorem iU.row (h : iU m0 k M) (hk : k < 1682) {r i : Nat} (ha : atP k = (r, i)) (hr : r ≠ 138) (hm : r ∈ imR) : iU m0 (k + 1) (va_up (kU M k) r (upd (kU M k r) i (M 166 k))) := by
  have ok := atP_ok k hk
  rw [ha] at ok
  obtain ⟨h1, h2, h3, h4, h5, h6⟩ := h
  have e : kU M k r = M r := by unfold kU; rw [up_n _ _ _ _ hr]
  have e8 : ∀ X, va_up (kU M k) r X 138 = upd (M 138) 56 (nI (k + 1)) := fun X => by
    rw [up_n _ _ _ _ (Ne.symm hr)]
    unfold kU
    rw [up_s]
  refine ⟨?_, ?_, ?_, fun p hp => ?_, fun s hs => ?_, fun f hf => ?_⟩
  · rw [e8, pk_us]
  · rw [e8, pk_un (by omega)]; exact h2
  · rw [up_n _ _ _ _ (Ne.symm ok.1)]
    unfold kU
    rw [up_n _ _ _ _ (by omega)]
    exact h3
  · by_cases z : p = k
    · subst z
      rw [ha, up_s, e, pk_us, h3]
    · have hne : atP p ≠ (r, i) := fun q => z (atP_inj (by omega) hk (q.trans ha.symm))
      by_cases z1 : (atP p).1 = r
      · have z2 : (atP p).2 ≠ i := fun q => hne (Prod.ext z1 q)
        rw [z1, up_s, e, pk_un z2, ← z1]
        exact h4 p (by omega)
      · rw [up_n _ _ _ _ z1]
        unfold kU
        by_cases z3 : (atP p).1 = 138
        · have := ((atP_ok p (by omega)).2 z3).1
          rw [z3, up_s, pk_un this, ← z3]
          exact h4 p (by omega)
        · rw [up_n _ _ _ _ z3]
          exact h4 p (by omega)
  · rw [up_n _ _ _ _ (fun q => hs (by rw [q]; exact hm))]
    unfold kU
    rw [up_n _ _ _ _ (fun q => hs (by rw [q]; simp [imR]))]
    exact h5 s hs
  · rw [e8, pk_un (fun q => hf (by rw [q]; simp [imF]))]
    exact h6 f hf
theorem iU.fld (h : iU m0 k M) (hk : k < 1682) {f : Nat} (ha : atP k = (138, f)) (hm : f ∈ imF) : iU m0 (k + 1) (va_up (kU M k) 138 (upd (kU M k 138) f (M 166 k))) := by
  have ok := atP_ok k hk
  rw [ha] at ok
  obtain ⟨h1, h2, h3, h4, h5, h6⟩ := h
  have e8 : ∀ X, va_up (kU M k) 138 X 138 = X := fun X => up_s _ _ _
  have e9 : kU M k 138 = upd (M 138) 56 (nI (k + 1)) := by unfold kU; rw [up_s]
  refine ⟨?_, ?_, ?_, fun p hp => ?_, fun s hs => ?_, fun g hg => ?_⟩
  · rw [e8, e9, pk_un (Ne.symm (ok.2 rfl).1), pk_us]
  · rw [e8, e9, pk_un (Ne.symm (ok.2 rfl).2), pk_un (by omega)]; exact h2
  · rw [up_n _ _ _ _ (by omega)]
    unfold kU
    rw [up_n _ _ _ _ (by omega)]
    exact h3
  · by_cases z : p = k
    · subst z
      rw [ha, e8, pk_us, h3]
    · have hne : atP p ≠ (138, f) := fun q => z (atP_inj (by omega) hk (q.trans ha.symm))
      by_cases z1 : (atP p).1 = 138
      · have z2 : (atP p).2 ≠ f := fun q => hne (Prod.ext z1 q)
        have := ((atP_ok p (by omega)).2 z1).1
        rw [z1, e8, e9, pk_un z2, pk_un this, ← z1]
        exact h4 p (by omega)
      · rw [up_n _ _ _ _ z1]
        unfold kU
        rw [up_n _ _ _ _ z1]
        exact h4 p (by omega)
  · rw [up_n _ _ _ _ (fun q => hs (by rw [q]; simp [imR]))]
    unfold kU
    rw [up_n _ _ _ _ (fun q => hs (by rw [q]; simp [imR]))]
    exact h5 s hs
  · rw [e8, e9, pk_un (fun q => hg (by rw [q]; exact hm)), pk_un (fun q => hg (by rw [q]; simp [imF]))]
    exact h6 g hg
theorem ev_kT {d mm x k : Nat} {is : List ma_I} {L : ma_L} {S : List Value} {v : Int32} (hk : M 138 56 = nI k) (h54 : M 138 54 = nI 1) (hk2 : k < 1700) (h8 : ma_wd S ≤ 8) : ev sc (d + 1) mm ((.invokevirtual x, [0, 287, 2, 12]) :: is) L (.int v :: .ref 138 :: S) (hp c w M) = ev sc (d + 1) mm is L (.int v :: S) (hp c w (kT M k v)) := by
  simp (disch := first | assumption | omega | decide | (simp only [ma_wd0, ma_wdi, ma_wdr, ma_wdl, ma_wdn] <;> omega)) only [↓reduceIte, evK, evL, evS, evA, evJ, Option.bind_some, Option.toList, List.cons_append, List.nil_append, nI_add, pk_mul, bI0, ite_not, ev_rbb, up_n, up_s, up_u, pk_us, pk_un, Nat.reduceAdd, nI_ltT, nI_ltF, nI_leT, nI_leF, nI_eqT, nI_eqF, ce_MO_keeps, en_MO_keeps, bk_MO_keeps, gfM, pfM, stM, hk, h54, nI_m1, kT]
theorem ev_kU {d mm x k : Nat} {is : List ma_I} {L : ma_L} {S : List Value} {v : Int32} (hk : M 138 56 = nI k) (h54 : M 138 54 = nI 0) (hk2 : k < 1700) (h8 : ma_wd S ≤ 8) : ev sc (d + 1) mm ((.invokevirtual x, [0, 287, 2, 12]) :: is) L (.int v :: .ref 138 :: S) (hp c w M) = ev sc (d + 1) mm is L (.int (M 166 k) :: S) (hp c w (kU M k)) := by
  simp (disch := first | assumption | omega | decide | (simp only [ma_wd0, ma_wdi, ma_wdr, ma_wdl, ma_wdn] <;> omega)) only [↓reduceIte, evK, evL, evS, evA, evJ, Option.bind_some, Option.toList, List.cons_append, List.nil_append, nI_add, pk_mul, bI0, ite_not, ev_rbb, up_n, up_s, up_u, pk_us, pk_un, Nat.reduceAdd, nI_ltT, nI_ltF, nI_leT, nI_leF, nI_eqT, nI_eqF, ce_MO_keeps, en_MO_keeps, bk_MO_keeps, gfM, pfM, ldM, hk, h54, nI_m1, kU]
theorem mo_loop {ρ : Type} {w : Nat → Int64} (n : Nat) (EM : Nat → List ma_C → ρ) (P : Nat → (Nat → Nat → Int32) → Prop) (step : ∀ i m, i < n → P i m → ∃ m', (∀ c0, EM i (hp c0 w m) = EM (i + 1) (hp c0 w m')) ∧ P (i + 1) m') : ∀ k i m, i + k = n → P i m → ∃ m', (∀ c0, EM i (hp c0 w m) = EM n (hp c0 w m')) ∧ P n m'
  | 0, i, m, hi, hP => by
    have : i = n := by omega
    subst this
    exact ⟨m, fun _ => rfl, hP⟩
  | k + 1, i, m, hi, hP => by
    obtain ⟨m1, e1, hP1⟩ := step i m (by omega) hP
    obtain ⟨m2, e2, hP2⟩ := mo_loop n EM P step k (i + 1) m1 (by omega) hP1
    exact ⟨m2, fun c0 => (e1 c0).trans (e2 c0), hP2⟩
theorem imT_a (d : Nat) (x0 : Option Value) (I : iT m0 (0 + 0) M) : ∃ M', (∀ c, ev sc (d + 1) 286 (pm_blk 286 35) [some (.ref 138), x0, some (.int (nI 0))] [] (hp c w M) = ev sc (d + 1) 286 (pm_blk 286 35) [some (.ref 138), x0, some (.int (nI 49))] [] (hp c w M')) ∧ iT m0 (0 + 49) M' := by
  refine mo_loop (w := w) 49 (fun i h => ev sc (d + 1) 286 (pm_blk 286 35) [some (.ref 138), x0, some (.int (nI i))] [] h) (fun i M => iT m0 (0 + i) M) ?_ 49 0 M (by omega) I
  intro i M0 hi I0
  have I1 := I0.row (k := 0 + i) (by omega) (at_139 (j := i) (by omega)) (by omega)
  generalize hgM1 : va_up (kT M0 (0 + i) (M0 139 i)) 139 (upd (kT M0 (0 + i) (M0 139 i) 139) i (M0 139 i)) = M1 at I1
  refine ⟨M1, fun c0 => ?_, ?_⟩
  · conv => lhs; rw [bh_MO_image_35]
    simp (disch := first | assumption | omega | decide | (simp only [ma_wd0, ma_wdi, ma_wdr, ma_wdl, ma_wdn] <;> omega)) only [↓reduceIte, evK, evL, evS, evA, evJ, Option.bind_some, Option.toList, List.cons_append, List.nil_append, nI_add, pk_mul, bI0, ite_not, ev_rbb, up_n, up_s, up_u, pk_us, pk_un, Nat.reduceAdd, nI_ltT, nI_ltF, nI_leT, nI_leF, nI_eqT, nI_eqF, gfM, ldM]
    rw [ev_kT (k := 0 + i) I0.1 I0.2.1 (by omega) (by simp only [ma_wd0, ma_wdi, ma_wdr, ma_wdl, ma_wdn] <;> omega)]
    simp (disch := first | assumption | omega | decide | (simp only [ma_wd0, ma_wdi, ma_wdr, ma_wdl, ma_wdn] <;> omega)) only [stM]
    rw [hgM1]
    simp (disch := first | assumption | omega | decide | (simp only [ma_wd0, ma_wdi, ma_wdr, ma_wdl, ma_wdn] <;> omega)) only [↓reduceIte, evK, evL, evS, evA, evJ, Option.bind_some, Option.toList, List.cons_append, List.nil_append, nI_add, pk_mul, bI0, ite_not, ev_rbb, up_n, up_s, up_u, pk_us, pk_un, Nat.reduceAdd, nI_ltT, nI_ltF, nI_leT, nI_leF, nI_eqT, nI_eqF, gfM]
  · rw [show 0 + (i + 1) = 0 + i + 1 by omega]
    exact I1
theorem imT_b (d : Nat) (x0 : Option Value) (I : iT m0 (57 + 0) M) : ∃ M', (∀ c, ev sc (d + 1) 288 (pm_blk 288 98) [some (.ref 138), some (.int (nI 0))] [] (hp c w M) = ev sc (d + 1) 288 (pm_blk 288 98) [some (.ref 138), some (.int (nI 8))] [] (hp c w M')) ∧ iT m0 (57 + 8) M' := by
  refine mo_loop (w := w) 8 (fun i h => ev sc (d + 1) 288 (pm_blk 288 98) [some (.ref 138), some (.int (nI i))] [] h) (fun i M => iT m0 (57 + i) M) ?_ 8 0 M (by omega) I
  intro i M0 hi I0
  have I1 := I0.row (k := 57 + i) (by omega) (at_142 (j := i) (by omega)) (by omega)
  generalize hgM1 : va_up (kT M0 (57 + i) (M0 142 i)) 142 (upd (kT M0 (57 + i) (M0 142 i) 142) i (M0 142 i)) = M1 at I1
  refine ⟨M1, fun c0 => ?_, ?_⟩
  · conv => lhs; rw [bh_MO_keepsTold_98]
    simp (disch := first | assumption | omega | decide | (simp only [ma_wd0, ma_wdi, ma_wdr, ma_wdl, ma_wdn] <;> omega)) only [↓reduceIte, evK, evL, evS, evA, evJ, Option.bind_some, Option.toList, List.cons_append, List.nil_append, nI_add, pk_mul, bI0, ite_not, ev_rbb, up_n, up_s, up_u, pk_us, pk_un, Nat.reduceAdd, nI_ltT, nI_ltF, nI_leT, nI_leF, nI_eqT, nI_eqF, gfM, ldM]
    rw [ev_kT (k := 57 + i) I0.1 I0.2.1 (by omega) (by simp only [ma_wd0, ma_wdi, ma_wdr, ma_wdl, ma_wdn] <;> omega)]
    simp (disch := first | assumption | omega | decide | (simp only [ma_wd0, ma_wdi, ma_wdr, ma_wdl, ma_wdn] <;> omega)) only [stM]
    rw [hgM1]
    simp (disch := first | assumption | omega | decide | (simp only [ma_wd0, ma_wdi, ma_wdr, ma_wdl, ma_wdn] <;> omega)) only [↓reduceIte, evK, evL, evS, evA, evJ, Option.bind_some, Option.toList, List.cons_append, List.nil_append, nI_add, pk_mul, bI0, ite_not, ev_rbb, up_n, up_s, up_u, pk_us, pk_un, Nat.reduceAdd, nI_ltT, nI_ltF, nI_leT, nI_leF, nI_eqT, nI_eqF, gfM]
  · rw [show 57 + (i + 1) = 57 + i + 1 by omega]
    exact I1
theorem imT_c (d : Nat) (x0 : Option Value) (I : iT m0 (65 + 2 * 0) M) : ∃ M', (∀ c, ev sc (d + 1) 288 (pm_blk 288 128) [some (.ref 138), some (.int (nI 0))] [] (hp c w M) = ev sc (d + 1) 288 (pm_blk 288 128) [some (.ref 138), some (.int (nI 6))] [] (hp c w M')) ∧ iT m0 (65 + 2 * 6) M' := by
  refine mo_loop (w := w) 6 (fun i h => ev sc (d + 1) 288 (pm_blk 288 128) [some (.ref 138), some (.int (nI i))] [] h) (fun i M => iT m0 (65 + 2 * i) M) ?_ 6 0 M (by omega) I
  intro i M0 hi I0
  have I1 := I0.row (k := 65 + 2 * i) (by omega) (at_143 (j := i) (by omega)) (by omega)
  generalize hgM1 : va_up (kT M0 (65 + 2 * i) (M0 143 i)) 143 (upd (kT M0 (65 + 2 * i) (M0 143 i) 143) i (M0 143 i)) = M1 at I1
  have I2 := I1.row (k := 65 + 2 * i + 1) (by omega) (at_144 (j := i) (by omega)) (by omega)
  generalize hgM2 : va_up (kT M1 (65 + 2 * i + 1) (M1 144 i)) 144 (upd (kT M1 (65 + 2 * i + 1) (M1 144 i) 144) i (M1 144 i)) = M2 at I2
  refine ⟨M2, fun c0 => ?_, ?_⟩
  · conv => lhs; rw [bh_MO_keepsTold_128]
    simp (disch := first | assumption | omega | decide | (simp only [ma_wd0, ma_wdi, ma_wdr, ma_wdl, ma_wdn] <;> omega)) only [↓reduceIte, evK, evL, evS, evA, evJ, Option.bind_some, Option.toList, List.cons_append, List.nil_append, nI_add, pk_mul, bI0, ite_not, ev_rbb, up_n, up_s, up_u, pk_us, pk_un, Nat.reduceAdd, nI_ltT, nI_ltF, nI_leT, nI_leF, nI_eqT, nI_eqF, gfM, ldM]
    rw [ev_kT (k := 65 + 2 * i) I0.1 I0.2.1 (by omega) (by simp only [ma_wd0, ma_wdi, ma_wdr, ma_wdl, ma_wdn] <;> omega)]
    simp (disch := first | assumption | omega | decide | (simp only [ma_wd0, ma_wdi, ma_wdr, ma_wdl, ma_wdn] <;> omega)) only [stM]
    rw [hgM1]
    simp (disch := first | assumption | omega | decide | (simp only [ma_wd0, ma_wdi, ma_wdr, ma_wdl, ma_wdn] <;> omega)) only [↓reduceIte, evK, evL, evS, evA, evJ, Option.bind_some, Option.toList, List.cons_append, List.nil_append, nI_add, pk_mul, bI0, ite_not, ev_rbb, up_n, up_s, up_u, pk_us, pk_un, Nat.reduceAdd, nI_ltT, nI_ltF, nI_leT, nI_leF, nI_eqT, nI_eqF, gfM, ldM]
    rw [ev_kT (k := 65 + 2 * i + 1) I1.1 I1.2.1 (by omega) (by simp only [ma_wd0, ma_wdi, ma_wdr, ma_wdl, ma_wdn] <;> omega)]
    simp (disch := first | assumption | omega | decide | (simp only [ma_wd0, ma_wdi, ma_wdr, ma_wdl, ma_wdn] <;> omega)) only [stM]
    rw [hgM2]
    simp (disch := first | assumption | omega | decide | (simp only [ma_wd0, ma_wdi, ma_wdr, ma_wdl, ma_wdn] <;> omega)) only [↓reduceIte, evK, evL, evS, evA, evJ, Option.bind_some, Option.toList, List.cons_append, List.nil_append, nI_add, pk_mul, bI0, ite_not, ev_rbb, up_n, up_s, up_u, pk_us, pk_un, Nat.reduceAdd, nI_ltT, nI_ltF, nI_leT, nI_leF, nI_eqT, nI_eqF, gfM]
  · rw [show 65 + 2 * (i + 1) = 65 + 2 * i + 1 + 1 by omega]
    exact I2
theorem imT_d (d : Nat) (x0 : Option Value) (I : iT m0 (77 + 0) M) : ∃ M', (∀ c, ev sc (d + 1) 288 (pm_blk 288 174) [some (.ref 138), some (.int (nI 0))] [] (hp c w M) = ev sc (d + 1) 288 (pm_blk 288 174) [some (.ref 138), some (.int (nI 16))] [] (hp c w M')) ∧ iT m0 (77 + 16) M' := by
  refine mo_loop (w := w) 16 (fun i h => ev sc (d + 1) 288 (pm_blk 288 174) [some (.ref 138), some (.int (nI i))] [] h) (fun i M => iT m0 (77 + i) M) ?_ 16 0 M (by omega) I
  intro i M0 hi I0
  have I1 := I0.row (k := 77 + i) (by omega) (at_161 (j := i) (by omega)) (by omega)
  generalize hgM1 : va_up (kT M0 (77 + i) (M0 161 i)) 161 (upd (kT M0 (77 + i) (M0 161 i) 161) i (M0 161 i)) = M1 at I1
  refine ⟨M1, fun c0 => ?_, ?_⟩
  · conv => lhs; rw [bh_MO_keepsTold_174]
    simp (disch := first | assumption | omega | decide | (simp only [ma_wd0, ma_wdi, ma_wdr, ma_wdl, ma_wdn] <;> omega)) only [↓reduceIte, evK, evL, evS, evA, evJ, Option.bind_some, Option.toList, List.cons_append, List.nil_append, nI_add, pk_mul, bI0, ite_not, ev_rbb, up_n, up_s, up_u, pk_us, pk_un, Nat.reduceAdd, nI_ltT, nI_ltF, nI_leT, nI_leF, nI_eqT, nI_eqF, gfM, ldM]
    rw [ev_kT (k := 77 + i) I0.1 I0.2.1 (by omega) (by simp only [ma_wd0, ma_wdi, ma_wdr, ma_wdl, ma_wdn] <;> omega)]
    simp (disch := first | assumption | omega | decide | (simp only [ma_wd0, ma_wdi, ma_wdr, ma_wdl, ma_wdn] <;> omega)) only [stM]
    rw [hgM1]
    simp (disch := first | assumption | omega | decide | (simp only [ma_wd0, ma_wdi, ma_wdr, ma_wdl, ma_wdn] <;> omega)) only [↓reduceIte, evK, evL, evS, evA, evJ, Option.bind_some, Option.toList, List.cons_append, List.nil_append, nI_add, pk_mul, bI0, ite_not, ev_rbb, up_n, up_s, up_u, pk_us, pk_un, Nat.reduceAdd, nI_ltT, nI_ltF, nI_leT, nI_leF, nI_eqT, nI_eqF, gfM]
  · rw [show 77 + (i + 1) = 77 + i + 1 by omega]
    exact I1
theorem imT_e (d : Nat) (x0 : Option Value) (I : iT m0 (93 + 0) M) : ∃ M', (∀ c, ev sc (d + 1) 288 (pm_blk 288 204) [some (.ref 138), some (.int (nI 0))] [] (hp c w M) = ev sc (d + 1) 288 (pm_blk 288 204) [some (.ref 138), some (.int (nI 64))] [] (hp c w M')) ∧ iT m0 (93 + 64) M' := by
  refine mo_loop (w := w) 64 (fun i h => ev sc (d + 1) 288 (pm_blk 288 204) [some (.ref 138), some (.int (nI i))] [] h) (fun i M => iT m0 (93 + i) M) ?_ 64 0 M (by omega) I
  intro i M0 hi I0
  have I1 := I0.row (k := 93 + i) (by omega) (at_156 (j := i) (by omega)) (by omega)
  generalize hgM1 : va_up (kT M0 (93 + i) (M0 156 i)) 156 (upd (kT M0 (93 + i) (M0 156 i) 156) i (M0 156 i)) = M1 at I1
  refine ⟨M1, fun c0 => ?_, ?_⟩
  · conv => lhs; rw [bh_MO_keepsTold_204]
    simp (disch := first | assumption | omega | decide | (simp only [ma_wd0, ma_wdi, ma_wdr, ma_wdl, ma_wdn] <;> omega)) only [↓reduceIte, evK, evL, evS, evA, evJ, Option.bind_some, Option.toList, List.cons_append, List.nil_append, nI_add, pk_mul, bI0, ite_not, ev_rbb, up_n, up_s, up_u, pk_us, pk_un, Nat.reduceAdd, nI_ltT, nI_ltF, nI_leT, nI_leF, nI_eqT, nI_eqF, gfM, ldM]
    rw [ev_kT (k := 93 + i) I0.1 I0.2.1 (by omega) (by simp only [ma_wd0, ma_wdi, ma_wdr, ma_wdl, ma_wdn] <;> omega)]
    simp (disch := first | assumption | omega | decide | (simp only [ma_wd0, ma_wdi, ma_wdr, ma_wdl, ma_wdn] <;> omega)) only [stM]
    rw [hgM1]
    simp (disch := first | assumption | omega | decide | (simp only [ma_wd0, ma_wdi, ma_wdr, ma_wdl, ma_wdn] <;> omega)) only [↓reduceIte, evK, evL, evS, evA, evJ, Option.bind_some, Option.toList, List.cons_append, List.nil_append, nI_add, pk_mul, bI0, ite_not, ev_rbb, up_n, up_s, up_u, pk_us, pk_un, Nat.reduceAdd, nI_ltT, nI_ltF, nI_leT, nI_leF, nI_eqT, nI_eqF, gfM]
  · rw [show 93 + (i + 1) = 93 + i + 1 by omega]
    exact I1
theorem imT_f (d : Nat) (x0 : Option Value) (I : iT m0 (157 + 0) M) : ∃ M', (∀ c, ev sc (d + 1) 288 (pm_blk 288 234) [some (.ref 138), some (.int (nI 0))] [] (hp c w M) = ev sc (d + 1) 288 (pm_blk 288 234) [some (.ref 138), some (.int (nI 60))] [] (hp c w M')) ∧ iT m0 (157 + 60) M' := by
  refine mo_loop (w := w) 60 (fun i h => ev sc (d + 1) 288 (pm_blk 288 234) [some (.ref 138), some (.int (nI i))] [] h) (fun i M => iT m0 (157 + i) M) ?_ 60 0 M (by omega) I
  intro i M0 hi I0
  have I1 := I0.row (k := 157 + i) (by omega) (at_157 (j := i) (by omega)) (by omega)
  generalize hgM1 : va_up (kT M0 (157 + i) (M0 157 i)) 157 (upd (kT M0 (157 + i) (M0 157 i) 157) i (M0 157 i)) = M1 at I1
  refine ⟨M1, fun c0 => ?_, ?_⟩
  · conv => lhs; rw [bh_MO_keepsTold_234]
    simp (disch := first | assumption | omega | decide | (simp only [ma_wd0, ma_wdi, ma_wdr, ma_wdl, ma_wdn] <;> omega)) only [↓reduceIte, evK, evL, evS, evA, evJ, Option.bind_some, Option.toList, List.cons_append, List.nil_append, nI_add, pk_mul, bI0, ite_not, ev_rbb, up_n, up_s, up_u, pk_us, pk_un, Nat.reduceAdd, nI_ltT, nI_ltF, nI_leT, nI_leF, nI_eqT, nI_eqF, gfM, ldM]
    rw [ev_kT (k := 157 + i) I0.1 I0.2.1 (by omega) (by simp only [ma_wd0, ma_wdi, ma_wdr, ma_wdl, ma_wdn] <;> omega)]
    simp (disch := first | assumption | omega | decide | (simp only [ma_wd0, ma_wdi, ma_wdr, ma_wdl, ma_wdn] <;> omega)) only [stM]
    rw [hgM1]
    simp (disch := first | assumption | omega | decide | (simp only [ma_wd0, ma_wdi, ma_wdr, ma_wdl, ma_wdn] <;> omega)) only [↓reduceIte, evK, evL, evS, evA, evJ, Option.bind_some, Option.toList, List.cons_append, List.nil_append, nI_add, pk_mul, bI0, ite_not, ev_rbb, up_n, up_s, up_u, pk_us, pk_un, Nat.reduceAdd, nI_ltT, nI_ltF, nI_leT, nI_leF, nI_eqT, nI_eqF, gfM]
  · rw [show 157 + (i + 1) = 157 + i + 1 by omega]
    exact I1
theorem imT_g (d : Nat) (x0 : Option Value) (I : iT m0 (217 + 0) M) : ∃ M', (∀ c, ev sc (d + 1) 286 (pm_blk 286 69) [some (.ref 138), x0, some (.int (nI 0))] [] (hp c w M) = ev sc (d + 1) 286 (pm_blk 286 69) [some (.ref 138), x0, some (.int (nI 600))] [] (hp c w M')) ∧ iT m0 (217 + 600) M' := by
  refine mo_loop (w := w) 600 (fun i h => ev sc (d + 1) 286 (pm_blk 286 69) [some (.ref 138), x0, some (.int (nI i))] [] h) (fun i M => iT m0 (217 + i) M) ?_ 600 0 M (by omega) I
  intro i M0 hi I0
  have I1 := I0.row (k := 217 + i) (by omega) (at_145 (j := i) (by omega)) (by omega)
  generalize hgM1 : va_up (kT M0 (217 + i) (M0 145 i)) 145 (upd (kT M0 (217 + i) (M0 145 i) 145) i (M0 145 i)) = M1 at I1
  refine ⟨M1, fun c0 => ?_, ?_⟩
  · conv => lhs; rw [bh_MO_image_69]
    simp (disch := first | assumption | omega | decide | (simp only [ma_wd0, ma_wdi, ma_wdr, ma_wdl, ma_wdn] <;> omega)) only [↓reduceIte, evK, evL, evS, evA, evJ, Option.bind_some, Option.toList, List.cons_append, List.nil_append, nI_add, pk_mul, bI0, ite_not, ev_rbb, up_n, up_s, up_u, pk_us, pk_un, Nat.reduceAdd, nI_ltT, nI_ltF, nI_leT, nI_leF, nI_eqT, nI_eqF, gfM, ldM]
    rw [ev_kT (k := 217 + i) I0.1 I0.2.1 (by omega) (by simp only [ma_wd0, ma_wdi, ma_wdr, ma_wdl, ma_wdn] <;> omega)]
    simp (disch := first | assumption | omega | decide | (simp only [ma_wd0, ma_wdi, ma_wdr, ma_wdl, ma_wdn] <;> omega)) only [stM]
    rw [hgM1]
    simp (disch := first | assumption | omega | decide | (simp only [ma_wd0, ma_wdi, ma_wdr, ma_wdl, ma_wdn] <;> omega)) only [↓reduceIte, evK, evL, evS, evA, evJ, Option.bind_some, Option.toList, List.cons_append, List.nil_append, nI_add, pk_mul, bI0, ite_not, ev_rbb, up_n, up_s, up_u, pk_us, pk_un, Nat.reduceAdd, nI_ltT, nI_ltF, nI_leT, nI_leF, nI_eqT, nI_eqF, gfM]
  · rw [show 217 + (i + 1) = 217 + i + 1 by omega]
    exact I1
theorem imT_h (d : Nat) (x0 : Option Value) (I : iT m0 (818 + 4 * 0) M) : ∃ M', (∀ c, ev sc (d + 1) 289 (pm_blk 289 18) [some (.ref 138), some (.int (nI 0))] [] (hp c w M) = ev sc (d + 1) 289 (pm_blk 289 18) [some (.ref 138), some (.int (nI 16))] [] (hp c w M')) ∧ iT m0 (818 + 4 * 16) M' := by
  refine mo_loop (w := w) 16 (fun i h => ev sc (d + 1) 289 (pm_blk 289 18) [some (.ref 138), some (.int (nI i))] [] h) (fun i M => iT m0 (818 + 4 * i) M) ?_ 16 0 M (by omega) I
  intro i M0 hi I0
  have I1 := I0.row (k := 818 + 4 * i) (by omega) (at_149 (j := i) (by omega)) (by omega)
  generalize hgM1 : va_up (kT M0 (818 + 4 * i) (M0 149 i)) 149 (upd (kT M0 (818 + 4 * i) (M0 149 i) 149) i (M0 149 i)) = M1 at I1
  have I2 := I1.row (k := 818 + 4 * i + 1) (by omega) (at_150 (j := i) (by omega)) (by omega)
  generalize hgM2 : va_up (kT M1 (818 + 4 * i + 1) (M1 150 i)) 150 (upd (kT M1 (818 + 4 * i + 1) (M1 150 i) 150) i (M1 150 i)) = M2 at I2
  have I3 := I2.row (k := 818 + 4 * i + 1 + 1) (by omega) (at_151 (j := i) (by omega)) (by omega)
  generalize hgM3 : va_up (kT M2 (818 + 4 * i + 1 + 1) (M2 151 i)) 151 (upd (kT M2 (818 + 4 * i + 1 + 1) (M2 151 i) 151) i (M2 151 i)) = M3 at I3
  have I4 := I3.row (k := 818 + 4 * i + 1 + 1 + 1) (by omega) (at_152 (j := i) (by omega)) (by omega)
  generalize hgM4 : va_up (kT M3 (818 + 4 * i + 1 + 1 + 1) (M3 152 i)) 152 (upd (kT M3 (818 + 4 * i + 1 + 1 + 1) (M3 152 i) 152) i (M3 152 i)) = M4 at I4
  refine ⟨M4, fun c0 => ?_, ?_⟩
  · conv => lhs; rw [bh_MO_keepsLaw_18]
    simp (disch := first | assumption | omega | decide | (simp only [ma_wd0, ma_wdi, ma_wdr, ma_wdl, ma_wdn] <;> omega)) only [↓reduceIte, evK, evL, evS, evA, evJ, Option.bind_some, Option.toList, List.cons_append, List.nil_append, nI_add, pk_mul, bI0, ite_not, ev_rbb, up_n, up_s, up_u, pk_us, pk_un, Nat.reduceAdd, nI_ltT, nI_ltF, nI_leT, nI_leF, nI_eqT, nI_eqF, gfM, ldM]
    rw [ev_kT (k := 818 + 4 * i) I0.1 I0.2.1 (by omega) (by simp only [ma_wd0, ma_wdi, ma_wdr, ma_wdl, ma_wdn] <;> omega)]
    simp (disch := first | assumption | omega | decide | (simp only [ma_wd0, ma_wdi, ma_wdr, ma_wdl, ma_wdn] <;> omega)) only [stM]
    rw [hgM1]
    simp (disch := first | assumption | omega | decide | (simp only [ma_wd0, ma_wdi, ma_wdr, ma_wdl, ma_wdn] <;> omega)) only [↓reduceIte, evK, evL, evS, evA, evJ, Option.bind_some, Option.toList, List.cons_append, List.nil_append, nI_add, pk_mul, bI0, ite_not, ev_rbb, up_n, up_s, up_u, pk_us, pk_un, Nat.reduceAdd, nI_ltT, nI_ltF, nI_leT, nI_leF, nI_eqT, nI_eqF, gfM, ldM]
    rw [ev_kT (k := 818 + 4 * i + 1) I1.1 I1.2.1 (by omega) (by simp only [ma_wd0, ma_wdi, ma_wdr, ma_wdl, ma_wdn] <;> omega)]
    simp (disch := first | assumption | omega | decide | (simp only [ma_wd0, ma_wdi, ma_wdr, ma_wdl, ma_wdn] <;> omega)) only [stM]
    rw [hgM2]
    simp (disch := first | assumption | omega | decide | (simp only [ma_wd0, ma_wdi, ma_wdr, ma_wdl, ma_wdn] <;> omega)) only [↓reduceIte, evK, evL, evS, evA, evJ, Option.bind_some, Option.toList, List.cons_append, List.nil_append, nI_add, pk_mul, bI0, ite_not, ev_rbb, up_n, up_s, up_u, pk_us, pk_un, Nat.reduceAdd, nI_ltT, nI_ltF, nI_leT, nI_leF, nI_eqT, nI_eqF, gfM, ldM]
    rw [ev_kT (k := 818 + 4 * i + 1 + 1) I2.1 I2.2.1 (by omega) (by simp only [ma_wd0, ma_wdi, ma_wdr, ma_wdl, ma_wdn] <;> omega)]
    simp (disch := first | assumption | omega | decide | (simp only [ma_wd0, ma_wdi, ma_wdr, ma_wdl, ma_wdn] <;> omega)) only [stM]
    rw [hgM3]
    simp (disch := first | assumption | omega | decide | (simp only [ma_wd0, ma_wdi, ma_wdr, ma_wdl, ma_wdn] <;> omega)) only [↓reduceIte, evK, evL, evS, evA, evJ, Option.bind_some, Option.toList, List.cons_append, List.nil_append, nI_add, pk_mul, bI0, ite_not, ev_rbb, up_n, up_s, up_u, pk_us, pk_un, Nat.reduceAdd, nI_ltT, nI_ltF, nI_leT, nI_leF, nI_eqT, nI_eqF, gfM, ldM]
    rw [ev_kT (k := 818 + 4 * i + 1 + 1 + 1) I3.1 I3.2.1 (by omega) (by simp only [ma_wd0, ma_wdi, ma_wdr, ma_wdl, ma_wdn] <;> omega)]
    simp (disch := first | assumption | omega | decide | (simp only [ma_wd0, ma_wdi, ma_wdr, ma_wdl, ma_wdn] <;> omega)) only [stM]
    rw [hgM4]
    simp (disch := first | assumption | omega | decide | (simp only [ma_wd0, ma_wdi, ma_wdr, ma_wdl, ma_wdn] <;> omega)) only [↓reduceIte, evK, evL, evS, evA, evJ, Option.bind_some, Option.toList, List.cons_append, List.nil_append, nI_add, pk_mul, bI0, ite_not, ev_rbb, up_n, up_s, up_u, pk_us, pk_un, Nat.reduceAdd, nI_ltT, nI_ltF, nI_leT, nI_leF, nI_eqT, nI_eqF, gfM]
  · rw [show 818 + 4 * (i + 1) = 818 + 4 * i + 1 + 1 + 1 + 1 by omega]
    exact I4
theorem imT_i (d : Nat) (x0 : Option Value) (I : iT m0 (882 + 2 * 0) M) : ∃ M', (∀ c, ev sc (d + 1) 289 (pm_blk 289 96) [some (.ref 138), some (.int (nI 0))] [] (hp c w M) = ev sc (d + 1) 289 (pm_blk 289 96) [some (.ref 138), some (.int (nI 400))] [] (hp c w M')) ∧ iT m0 (882 + 2 * 400) M' := by
  refine mo_loop (w := w) 400 (fun i h => ev sc (d + 1) 289 (pm_blk 289 96) [some (.ref 138), some (.int (nI i))] [] h) (fun i M => iT m0 (882 + 2 * i) M) ?_ 400 0 M (by omega) I
  intro i M0 hi I0
  have I1 := I0.row (k := 882 + 2 * i) (by omega) (at_153 (j := i) (by omega)) (by omega)
  generalize hgM1 : va_up (kT M0 (882 + 2 * i) (M0 153 i)) 153 (upd (kT M0 (882 + 2 * i) (M0 153 i) 153) i (M0 153 i)) = M1 at I1
  have I2 := I1.row (k := 882 + 2 * i + 1) (by omega) (at_154 (j := i) (by omega)) (by omega)
  generalize hgM2 : va_up (kT M1 (882 + 2 * i + 1) (M1 154 i)) 154 (upd (kT M1 (882 + 2 * i + 1) (M1 154 i) 154) i (M1 154 i)) = M2 at I2
  refine ⟨M2, fun c0 => ?_, ?_⟩
  · conv => lhs; rw [bh_MO_keepsLaw_96]
    simp (disch := first | assumption | omega | decide | (simp only [ma_wd0, ma_wdi, ma_wdr, ma_wdl, ma_wdn] <;> omega)) only [↓reduceIte, evK, evL, evS, evA, evJ, Option.bind_some, Option.toList, List.cons_append, List.nil_append, nI_add, pk_mul, bI0, ite_not, ev_rbb, up_n, up_s, up_u, pk_us, pk_un, Nat.reduceAdd, nI_ltT, nI_ltF, nI_leT, nI_leF, nI_eqT, nI_eqF, gfM, ldM]
    rw [ev_kT (k := 882 + 2 * i) I0.1 I0.2.1 (by omega) (by simp only [ma_wd0, ma_wdi, ma_wdr, ma_wdl, ma_wdn] <;> omega)]
    simp (disch := first | assumption | omega | decide | (simp only [ma_wd0, ma_wdi, ma_wdr, ma_wdl, ma_wdn] <;> omega)) only [stM]
    rw [hgM1]
    simp (disch := first | assumption | omega | decide | (simp only [ma_wd0, ma_wdi, ma_wdr, ma_wdl, ma_wdn] <;> omega)) only [↓reduceIte, evK, evL, evS, evA, evJ, Option.bind_some, Option.toList, List.cons_append, List.nil_append, nI_add, pk_mul, bI0, ite_not, ev_rbb, up_n, up_s, up_u, pk_us, pk_un, Nat.reduceAdd, nI_ltT, nI_ltF, nI_leT, nI_leF, nI_eqT, nI_eqF, gfM, ldM]
    rw [ev_kT (k := 882 + 2 * i + 1) I1.1 I1.2.1 (by omega) (by simp only [ma_wd0, ma_wdi, ma_wdr, ma_wdl, ma_wdn] <;> omega)]
    simp (disch := first | assumption | omega | decide | (simp only [ma_wd0, ma_wdi, ma_wdr, ma_wdl, ma_wdn] <;> omega)) only [stM]
    rw [hgM2]
    simp (disch := first | assumption | omega | decide | (simp only [ma_wd0, ma_wdi, ma_wdr, ma_wdl, ma_wdn] <;> omega)) only [↓reduceIte, evK, evL, evS, evA, evJ, Option.bind_some, Option.toList, List.cons_append, List.nil_append, nI_add, pk_mul, bI0, ite_not, ev_rbb, up_n, up_s, up_u, pk_us, pk_un, Nat.reduceAdd, nI_ltT, nI_ltF, nI_leT, nI_leF, nI_eqT, nI_eqF, gfM]
  · rw [show 882 + 2 * (i + 1) = 882 + 2 * i + 1 + 1 by omega]
    exact I2
theorem t_keepsToldT (d : Nat) (I0 : iT m0 49 M) : ∃ M', (∀ c, cc sc (d + 1) 288 [.ref 138] (hp c w M) = some (none, hp c w M')) ∧ iT m0 217 M' := by
  have I1 := I0.fld (k := 49) (f := 6) (by omega) (by decide)
  generalize hgM1 : va_up (kT M (49) (M 138 6)) 138 (upd (kT M (49) (M 138 6) 138) 6 (M 138 6)) = M1 at I1
  simp only [Nat.reduceAdd] at I1
  have I2 := I1.fld (k := 50) (f := 7) (by omega) (by decide)
  generalize hgM2 : va_up (kT M1 (50) (M1 138 7)) 138 (upd (kT M1 (50) (M1 138 7) 138) 7 (M1 138 7)) = M2 at I2
  simp only [Nat.reduceAdd] at I2
  have I3 := I2.fld (k := 51) (f := 8) (by omega) (by decide)
  generalize hgM3 : va_up (kT M2 (51) (M2 138 8)) 138 (upd (kT M2 (51) (M2 138 8) 138) 8 (M2 138 8)) = M3 at I3
  simp only [Nat.reduceAdd] at I3
  have I4 := I3.fld (k := 52) (f := 9) (by omega) (by decide)
  generalize hgM4 : va_up (kT M3 (52) (M3 138 9)) 138 (upd (kT M3 (52) (M3 138 9) 138) 9 (M3 138 9)) = M4 at I4
  simp only [Nat.reduceAdd] at I4
  have I5 := I4.fld (k := 53) (f := 10) (by omega) (by decide)
  generalize hgM5 : va_up (kT M4 (53) (M4 138 10)) 138 (upd (kT M4 (53) (M4 138 10) 138) 10 (M4 138 10)) = M5 at I5
  simp only [Nat.reduceAdd] at I5
  have I6 := I5.fld (k := 54) (f := 38) (by omega) (by decide)
  generalize hgM6 : va_up (kT M5 (54) (M5 138 38)) 138 (upd (kT M5 (54) (M5 138 38) 138) 38 (M5 138 38)) = M6 at I6
  simp only [Nat.reduceAdd] at I6
  have I7 := I6.fld (k := 55) (f := 40) (by omega) (by decide)
  generalize hgM7 : va_up (kT M6 (55) (M6 138 40)) 138 (upd (kT M6 (55) (M6 138 40) 138) 40 (M6 138 40)) = M7 at I7
  simp only [Nat.reduceAdd] at I7
  have I8 := I7.fld (k := 56) (f := 47) (by omega) (by decide)
  generalize hgM8 : va_up (kT M7 (56) (M7 138 47)) 138 (upd (kT M7 (56) (M7 138 47) 138) 47 (M7 138 47)) = M8 at I8
  simp only [Nat.reduceAdd] at I8
  obtain ⟨N0, E0, J0⟩ := imT_b (sc := sc) (w := w) d none (M := M8) I8
  simp only [Nat.reduceAdd, Nat.reduceMul] at J0
  obtain ⟨N1, E1, J1⟩ := imT_c (sc := sc) (w := w) d none (M := N0) J0
  simp only [Nat.reduceAdd, Nat.reduceMul] at J1
  obtain ⟨N2, E2, J2⟩ := imT_d (sc := sc) (w := w) d none (M := N1) J1
  simp only [Nat.reduceAdd, Nat.reduceMul] at J2
  obtain ⟨N3, E3, J3⟩ := imT_e (sc := sc) (w := w) d none (M := N2) J2
  simp only [Nat.reduceAdd, Nat.reduceMul] at J3
  obtain ⟨N4, E4, J4⟩ := imT_f (sc := sc) (w := w) d none (M := N3) J3
  simp only [Nat.reduceAdd, Nat.reduceMul] at J4
  refine ⟨N4, fun c => ?_, J4⟩
  simp (disch := first | assumption | omega | decide | (simp only [ma_wd0, ma_wdi, ma_wdr, ma_wdl, ma_wdn] <;> omega)) only [↓reduceIte, evK, evL, evS, evA, evJ, Option.bind_some, Option.toList, List.cons_append, List.nil_append, nI_add, pk_mul, bI0, ite_not, ev_rbb, up_n, up_s, up_u, pk_us, pk_un, Nat.reduceAdd, nI_ltT, nI_ltF, nI_leT, nI_leF, nI_eqT, nI_eqF, en_MO_keepsTold, gfM]
  rw [ev_kT (k := 49) I0.1 I0.2.1 (by omega) (by simp only [ma_wd0, ma_wdi, ma_wdr, ma_wdl, ma_wdn] <;> omega)]
  simp (disch := first | assumption | omega | decide | (simp only [ma_wd0, ma_wdi, ma_wdr, ma_wdl, ma_wdn] <;> omega)) only [pfM]
  rw [show va_up (kT M (49) (M 138 6)) 138 (upd (kT M (49) (M 138 6) 138) 6 (M 138 6)) = M1 from hgM1]
  simp (disch := first | assumption | omega | decide | (simp only [ma_wd0, ma_wdi, ma_wdr, ma_wdl, ma_wdn] <;> omega)) only [↓reduceIte, evK, evL, evS, evA, evJ, Option.bind_some, Option.toList, List.cons_append, List.nil_append, nI_add, pk_mul, bI0, ite_not, ev_rbb, up_n, up_s, up_u, pk_us, pk_un, Nat.reduceAdd, nI_ltT, nI_ltF, nI_leT, nI_leF, nI_eqT, nI_eqF, gfM]
  rw [ev_kT (k := 50) I1.1 I1.2.1 (by omega) (by simp only [ma_wd0, ma_wdi, ma_wdr, ma_wdl, ma_wdn] <;> omega)]
  simp (disch := first | assumption | omega | decide | (simp only [ma_wd0, ma_wdi, ma_wdr, ma_wdl, ma_wdn] <;> omega)) only [pfM]
  rw [show va_up (kT M1 (50) (M1 138 7)) 138 (upd (kT M1 (50) (M1 138 7) 138) 7 (M1 138 7)) = M2 from hgM2]
  simp (disch := first | assumption | omega | decide | (simp only [ma_wd0, ma_wdi, ma_wdr, ma_wdl, ma_wdn] <;> omega)) only [↓reduceIte, evK, evL, evS, evA, evJ, Option.bind_some, Option.toList, List.cons_append, List.nil_append, nI_add, pk_mul, bI0, ite_not, ev_rbb, up_n, up_s, up_u, pk_us, pk_un, Nat.reduceAdd, nI_ltT, nI_ltF, nI_leT, nI_leF, nI_eqT, nI_eqF, gfM]
  rw [ev_kT (k := 51) I2.1 I2.2.1 (by omega) (by simp only [ma_wd0, ma_wdi, ma_wdr, ma_wdl, ma_wdn] <;> omega)]
  simp (disch := first | assumption | omega | decide | (simp only [ma_wd0, ma_wdi, ma_wdr, ma_wdl, ma_wdn] <;> omega)) only [pfM]
  rw [show va_up (kT M2 (51) (M2 138 8)) 138 (upd (kT M2 (51) (M2 138 8) 138) 8 (M2 138 8)) = M3 from hgM3]
  simp (disch := first | assumption | omega | decide | (simp only [ma_wd0, ma_wdi, ma_wdr, ma_wdl, ma_wdn] <;> omega)) only [↓reduceIte, evK, evL, evS, evA, evJ, Option.bind_some, Option.toList, List.cons_append, List.nil_append, nI_add, pk_mul, bI0, ite_not, ev_rbb, up_n, up_s, up_u, pk_us, pk_un, Nat.reduceAdd, nI_ltT, nI_ltF, nI_leT, nI_leF, nI_eqT, nI_eqF, gfM]
  rw [ev_kT (k := 52) I3.1 I3.2.1 (by omega) (by simp only [ma_wd0, ma_wdi, ma_wdr, ma_wdl, ma_wdn] <;> omega)]
  simp (disch := first | assumption | omega | decide | (simp only [ma_wd0, ma_wdi, ma_wdr, ma_wdl, ma_wdn] <;> omega)) only [pfM]
  rw [show va_up (kT M3 (52) (M3 138 9)) 138 (upd (kT M3 (52) (M3 138 9) 138) 9 (M3 138 9)) = M4 from hgM4]
  simp (disch := first | assumption | omega | decide | (simp only [ma_wd0, ma_wdi, ma_wdr, ma_wdl, ma_wdn] <;> omega)) only [↓reduceIte, evK, evL, evS, evA, evJ, Option.bind_some, Option.toList, List.cons_append, List.nil_append, nI_add, pk_mul, bI0, ite_not, ev_rbb, up_n, up_s, up_u, pk_us, pk_un, Nat.reduceAdd, nI_ltT, nI_ltF, nI_leT, nI_leF, nI_eqT, nI_eqF, gfM]
  rw [ev_kT (k := 53) I4.1 I4.2.1 (by omega) (by simp only [ma_wd0, ma_wdi, ma_wdr, ma_wdl, ma_wdn] <;> omega)]
  simp (disch := first | assumption | omega | decide | (simp only [ma_wd0, ma_wdi, ma_wdr, ma_wdl, ma_wdn] <;> omega)) only [pfM]
  rw [show va_up (kT M4 (53) (M4 138 10)) 138 (upd (kT M4 (53) (M4 138 10) 138) 10 (M4 138 10)) = M5 from hgM5]
  simp (disch := first | assumption | omega | decide | (simp only [ma_wd0, ma_wdi, ma_wdr, ma_wdl, ma_wdn] <;> omega)) only [↓reduceIte, evK, evL, evS, evA, evJ, Option.bind_some, Option.toList, List.cons_append, List.nil_append, nI_add, pk_mul, bI0, ite_not, ev_rbb, up_n, up_s, up_u, pk_us, pk_un, Nat.reduceAdd, nI_ltT, nI_ltF, nI_leT, nI_leF, nI_eqT, nI_eqF, gfM]
  rw [ev_kT (k := 54) I5.1 I5.2.1 (by omega) (by simp only [ma_wd0, ma_wdi, ma_wdr, ma_wdl, ma_wdn] <;> omega)]
  simp (disch := first | assumption | omega | decide | (simp only [ma_wd0, ma_wdi, ma_wdr, ma_wdl, ma_wdn] <;> omega)) only [pfM]
  rw [show va_up (kT M5 (54) (M5 138 38)) 138 (upd (kT M5 (54) (M5 138 38) 138) 38 (M5 138 38)) = M6 from hgM6]
  simp (disch := first | assumption | omega | decide | (simp only [ma_wd0, ma_wdi, ma_wdr, ma_wdl, ma_wdn] <;> omega)) only [↓reduceIte, evK, evL, evS, evA, evJ, Option.bind_some, Option.toList, List.cons_append, List.nil_append, nI_add, pk_mul, bI0, ite_not, ev_rbb, up_n, up_s, up_u, pk_us, pk_un, Nat.reduceAdd, nI_ltT, nI_ltF, nI_leT, nI_leF, nI_eqT, nI_eqF, gfM]
  rw [ev_kT (k := 55) I6.1 I6.2.1 (by omega) (by simp only [ma_wd0, ma_wdi, ma_wdr, ma_wdl, ma_wdn] <;> omega)]
  simp (disch := first | assumption | omega | decide | (simp only [ma_wd0, ma_wdi, ma_wdr, ma_wdl, ma_wdn] <;> omega)) only [pfM]
  rw [show va_up (kT M6 (55) (M6 138 40)) 138 (upd (kT M6 (55) (M6 138 40) 138) 40 (M6 138 40)) = M7 from hgM7]
  simp (disch := first | assumption | omega | decide | (simp only [ma_wd0, ma_wdi, ma_wdr, ma_wdl, ma_wdn] <;> omega)) only [↓reduceIte, evK, evL, evS, evA, evJ, Option.bind_some, Option.toList, List.cons_append, List.nil_append, nI_add, pk_mul, bI0, ite_not, ev_rbb, up_n, up_s, up_u, pk_us, pk_un, Nat.reduceAdd, nI_ltT, nI_ltF, nI_leT, nI_leF, nI_eqT, nI_eqF, gfM]
  rw [ev_kT (k := 56) I7.1 I7.2.1 (by omega) (by simp only [ma_wd0, ma_wdi, ma_wdr, ma_wdl, ma_wdn] <;> omega)]
  simp (disch := first | assumption | omega | decide | (simp only [ma_wd0, ma_wdi, ma_wdr, ma_wdl, ma_wdn] <;> omega)) only [pfM]
  rw [show va_up (kT M7 (56) (M7 138 47)) 138 (upd (kT M7 (56) (M7 138 47) 138) 47 (M7 138 47)) = M8 from hgM8]
  simp (disch := first | assumption | omega | decide | (simp only [ma_wd0, ma_wdi, ma_wdr, ma_wdl, ma_wdn] <;> omega)) only [↓reduceIte, evK, evL, evS, evA, evJ, Option.bind_some, Option.toList, List.cons_append, List.nil_append, nI_add, pk_mul, bI0, ite_not, ev_rbb, up_n, up_s, up_u, pk_us, pk_un, Nat.reduceAdd, nI_ltT, nI_ltF, nI_leT, nI_leF, nI_eqT, nI_eqF, gfM]
  rw [E0, bh_MO_keepsTold_98]
  simp (disch := first | assumption | omega | decide | (simp only [ma_wd0, ma_wdi, ma_wdr, ma_wdl, ma_wdn] <;> omega)) only [↓reduceIte, evK, evL, evS, evA, evJ, Option.bind_some, Option.toList, List.cons_append, List.nil_append, nI_add, pk_mul, bI0, ite_not, ev_rbb, up_n, up_s, up_u, pk_us, pk_un, Nat.reduceAdd, nI_ltT, nI_ltF, nI_leT, nI_leF, nI_eqT, nI_eqF, bk_MO_keepsTold, gfM]
  rw [E1, bh_MO_keepsTold_128]
  simp (disch := first | assumption | omega | decide | (simp only [ma_wd0, ma_wdi, ma_wdr, ma_wdl, ma_wdn] <;> omega)) only [↓reduceIte, evK, evL, evS, evA, evJ, Option.bind_some, Option.toList, List.cons_append, List.nil_append, nI_add, pk_mul, bI0, ite_not, ev_rbb, up_n, up_s, up_u, pk_us, pk_un, Nat.reduceAdd, nI_ltT, nI_ltF, nI_leT, nI_leF, nI_eqT, nI_eqF, bk_MO_keepsTold, gfM]
  rw [E2, bh_MO_keepsTold_174]
  simp (disch := first | assumption | omega | decide | (simp only [ma_wd0, ma_wdi, ma_wdr, ma_wdl, ma_wdn] <;> omega)) only [↓reduceIte, evK, evL, evS, evA, evJ, Option.bind_some, Option.toList, List.cons_append, List.nil_append, nI_add, pk_mul, bI0, ite_not, ev_rbb, up_n, up_s, up_u, pk_us, pk_un, Nat.reduceAdd, nI_ltT, nI_ltF, nI_leT, nI_leF, nI_eqT, nI_eqF, bk_MO_keepsTold, gfM]
  rw [E3, bh_MO_keepsTold_204]
  simp (disch := first | assumption | omega | decide | (simp only [ma_wd0, ma_wdi, ma_wdr, ma_wdl, ma_wdn] <;> omega)) only [↓reduceIte, evK, evL, evS, evA, evJ, Option.bind_some, Option.toList, List.cons_append, List.nil_append, nI_add, pk_mul, bI0, ite_not, ev_rbb, up_n, up_s, up_u, pk_us, pk_un, Nat.reduceAdd, nI_ltT, nI_ltF, nI_leT, nI_leF, nI_eqT, nI_eqF, bk_MO_keepsTold, gfM]
  rw [E4, bh_MO_keepsTold_234]
  simp (disch := first | assumption | omega | decide | (simp only [ma_wd0, ma_wdi, ma_wdr, ma_wdl, ma_wdn] <;> omega)) only [↓reduceIte, evK, evL, evS, evA, evJ, Option.bind_some, Option.toList, List.cons_append, List.nil_append, nI_add, pk_mul, bI0, ite_not, ev_rbb, up_n, up_s, up_u, pk_us, pk_un, Nat.reduceAdd, nI_ltT, nI_ltF, nI_leT, nI_leF, nI_eqT, nI_eqF, bk_MO_keepsTold, gfM]
theorem t_keepsLawT (d : Nat) (I0 : iT m0 817 M) : ∃ M', (∀ c, cc sc (d + 1) 289 [.ref 138] (hp c w M) = some (none, hp c w M')) ∧ iT m0 1682 M' := by
  have I1 := I0.row (k := 817) (r := 148) (i := 0) (by omega) (by decide) (by omega)
  generalize hgM1 : va_up (kT M (817) (M 148 0)) 148 (upd (kT M (817) (M 148 0) 148) 0 (M 148 0)) = M1 at I1
  simp only [Nat.reduceAdd] at I1
  obtain ⟨N0, E0, J0⟩ := imT_h (sc := sc) (w := w) d none (M := M1) I1
  simp only [Nat.reduceAdd, Nat.reduceMul] at J0
  obtain ⟨N1, E1, J1⟩ := imT_i (sc := sc) (w := w) d none (M := N0) J0
  simp only [Nat.reduceAdd, Nat.reduceMul] at J1
  refine ⟨N1, fun c => ?_, J1⟩
  simp (disch := first | assumption | omega | decide | (simp only [ma_wd0, ma_wdi, ma_wdr, ma_wdl, ma_wdn] <;> omega)) only [↓reduceIte, evK, evL, evS, evA, evJ, Option.bind_some, Option.toList, List.cons_append, List.nil_append, nI_add, pk_mul, bI0, ite_not, ev_rbb, up_n, up_s, up_u, pk_us, pk_un, Nat.reduceAdd, nI_ltT, nI_ltF, nI_leT, nI_leF, nI_eqT, nI_eqF, en_MO_keepsLaw, gfM, ldM]
  rw [ev_kT (k := 817) I0.1 I0.2.1 (by omega) (by simp only [ma_wd0, ma_wdi, ma_wdr, ma_wdl, ma_wdn] <;> omega)]
  simp (disch := first | assumption | omega | decide | (simp only [ma_wd0, ma_wdi, ma_wdr, ma_wdl, ma_wdn] <;> omega)) only [stM]
  rw [show va_up (kT M (817) (M 148 0)) 148 (upd (kT M (817) (M 148 0) 148) 0 (M 148 0)) = M1 from hgM1]
  simp (disch := first | assumption | omega | decide | (simp only [ma_wd0, ma_wdi, ma_wdr, ma_wdl, ma_wdn] <;> omega)) only [↓reduceIte, evK, evL, evS, evA, evJ, Option.bind_some, Option.toList, List.cons_append, List.nil_append, nI_add, pk_mul, bI0, ite_not, ev_rbb, up_n, up_s, up_u, pk_us, pk_un, Nat.reduceAdd, nI_ltT, nI_ltF, nI_leT, nI_leF, nI_eqT, nI_eqF, gfM]
  rw [E0, bh_MO_keepsLaw_18]
  simp (disch := first | assumption | omega | decide | (simp only [ma_wd0, ma_wdi, ma_wdr, ma_wdl, ma_wdn] <;> omega)) only [↓reduceIte, evK, evL, evS, evA, evJ, Option.bind_some, Option.toList, List.cons_append, List.nil_append, nI_add, pk_mul, bI0, ite_not, ev_rbb, up_n, up_s, up_u, pk_us, pk_un, Nat.reduceAdd, nI_ltT, nI_ltF, nI_leT, nI_leF, nI_eqT, nI_eqF, bk_MO_keepsLaw, gfM]
  rw [E1, bh_MO_keepsLaw_96]
  simp (disch := first | assumption | omega | decide | (simp only [ma_wd0, ma_wdi, ma_wdr, ma_wdl, ma_wdn] <;> omega)) only [↓reduceIte, evK, evL, evS, evA, evJ, Option.bind_some, Option.toList, List.cons_append, List.nil_append, nI_add, pk_mul, bI0, ite_not, ev_rbb, up_n, up_s, up_u, pk_us, pk_un, Nat.reduceAdd, nI_ltT, nI_ltF, nI_leT, nI_leF, nI_eqT, nI_eqF, bk_MO_keepsLaw, gfM]
theorem imU_a (d : Nat) (x0 : Option Value) (I : iU m0 (0 + 0) M) : ∃ M', (∀ c, ev sc (d + 1) 286 (pm_blk 286 35) [some (.ref 138), x0, some (.int (nI 0))] [] (hp c w M) = ev sc (d + 1) 286 (pm_blk 286 35) [some (.ref 138), x0, some (.int (nI 49))] [] (hp c w M')) ∧ iU m0 (0 + 49) M' := by
  refine mo_loop (w := w) 49 (fun i h => ev sc (d + 1) 286 (pm_blk 286 35) [some (.ref 138), x0, some (.int (nI i))] [] h) (fun i M => iU m0 (0 + i) M) ?_ 49 0 M (by omega) I
  intro i M0 hi I0
  have I1 := I0.row (k := 0 + i) (by omega) (at_139 (j := i) (by omega)) (by omega) (by simp [imR])
  generalize hgM1 : va_up (kU M0 (0 + i)) 139 (upd (kU M0 (0 + i) 139) i (M0 166 (0 + i))) = M1 at I1
  refine ⟨M1, fun c0 => ?_, ?_⟩
  · conv => lhs; rw [bh_MO_image_35]
    simp (disch := first | assumption | omega | decide | (simp only [ma_wd0, ma_wdi, ma_wdr, ma_wdl, ma_wdn] <;> omega)) only [↓reduceIte, evK, evL, evS, evA, evJ, Option.bind_some, Option.toList, List.cons_append, List.nil_append, nI_add, pk_mul, bI0, ite_not, ev_rbb, up_n, up_s, up_u, pk_us, pk_un, Nat.reduceAdd, nI_ltT, nI_ltF, nI_leT, nI_leF, nI_eqT, nI_eqF, gfM, ldM]
    rw [ev_kU (k := 0 + i) I0.1 I0.2.1 (by omega) (by simp only [ma_wd0, ma_wdi, ma_wdr, ma_wdl, ma_wdn] <;> omega)]
    simp (disch := first | assumption | omega | decide | (simp only [ma_wd0, ma_wdi, ma_wdr, ma_wdl, ma_wdn] <;> omega)) only [stM]
    rw [hgM1]
    simp (disch := first | assumption | omega | decide | (simp only [ma_wd0, ma_wdi, ma_wdr, ma_wdl, ma_wdn] <;> omega)) only [↓reduceIte, evK, evL, evS, evA, evJ, Option.bind_some, Option.toList, List.cons_append, List.nil_append, nI_add, pk_mul, bI0, ite_not, ev_rbb, up_n, up_s, up_u, pk_us, pk_un, Nat.reduceAdd, nI_ltT, nI_ltF, nI_leT, nI_leF, nI_eqT, nI_eqF, gfM]
  · rw [show 0 + (i + 1) = 0 + i + 1 by omega]
    exact I1
theorem imU_b (d : Nat) (x0 : Option Value) (I : iU m0 (57 + 0) M) : ∃ M', (∀ c, ev sc (d + 1) 288 (pm_blk 288 98) [some (.ref 138), some (.int (nI 0))] [] (hp c w M) = ev sc (d + 1) 288 (pm_blk 288 98) [some (.ref 138), some (.int (nI 8))] [] (hp c w M')) ∧ iU m0 (57 + 8) M' := by
  refine mo_loop (w := w) 8 (fun i h => ev sc (d + 1) 288 (pm_blk 288 98) [some (.ref 138), some (.int (nI i))] [] h) (fun i M => iU m0 (57 + i) M) ?_ 8 0 M (by omega) I
  intro i M0 hi I0
  have I1 := I0.row (k := 57 + i) (by omega) (at_142 (j := i) (by omega)) (by omega) (by simp [imR])
  generalize hgM1 : va_up (kU M0 (57 + i)) 142 (upd (kU M0 (57 + i) 142) i (M0 166 (57 + i))) = M1 at I1
  refine ⟨M1, fun c0 => ?_, ?_⟩
  · conv => lhs; rw [bh_MO_keepsTold_98]
    simp (disch := first | assumption | omega | decide | (simp only [ma_wd0, ma_wdi, ma_wdr, ma_wdl, ma_wdn] <;> omega)) only [↓reduceIte, evK, evL, evS, evA, evJ, Option.bind_some, Option.toList, List.cons_append, List.nil_append, nI_add, pk_mul, bI0, ite_not, ev_rbb, up_n, up_s, up_u, pk_us, pk_un, Nat.reduceAdd, nI_ltT, nI_ltF, nI_leT, nI_leF, nI_eqT, nI_eqF, gfM, ldM]
    rw [ev_kU (k := 57 + i) I0.1 I0.2.1 (by omega) (by simp only [ma_wd0, ma_wdi, ma_wdr, ma_wdl, ma_wdn] <;> omega)]
    simp (disch := first | assumption | omega | decide | (simp only [ma_wd0, ma_wdi, ma_wdr, ma_wdl, ma_wdn] <;> omega)) only [stM]
    rw [hgM1]
    simp (disch := first | assumption | omega | decide | (simp only [ma_wd0, ma_wdi, ma_wdr, ma_wdl, ma_wdn] <;> omega)) only [↓reduceIte, evK, evL, evS, evA, evJ, Option.bind_some, Option.toList, List.cons_append, List.nil_append, nI_add, pk_mul, bI0, ite_not, ev_rbb, up_n, up_s, up_u, pk_us, pk_un, Nat.reduceAdd, nI_ltT, nI_ltF, nI_leT, nI_leF, nI_eqT, nI_eqF, gfM]
  · rw [show 57 + (i + 1) = 57 + i + 1 by omega]
    exact I1
theorem imU_c (d : Nat) (x0 : Option Value) (I : iU m0 (65 + 2 * 0) M) : ∃ M', (∀ c, ev sc (d + 1) 288 (pm_blk 288 128) [some (.ref 138), some (.int (nI 0))] [] (hp c w M) = ev sc (d + 1) 288 (pm_blk 288 128) [some (.ref 138), some (.int (nI 6))] [] (hp c w M')) ∧ iU m0 (65 + 2 * 6) M' := by
  refine mo_loop (w := w) 6 (fun i h => ev sc (d + 1) 288 (pm_blk 288 128) [some (.ref 138), some (.int (nI i))] [] h) (fun i M => iU m0 (65 + 2 * i) M) ?_ 6 0 M (by omega) I
  intro i M0 hi I0
  have I1 := I0.row (k := 65 + 2 * i) (by omega) (at_143 (j := i) (by omega)) (by omega) (by simp [imR])
  generalize hgM1 : va_up (kU M0 (65 + 2 * i)) 143 (upd (kU M0 (65 + 2 * i) 143) i (M0 166 (65 + 2 * i))) = M1 at I1
  have I2 := I1.row (k := 65 + 2 * i + 1) (by omega) (at_144 (j := i) (by omega)) (by omega) (by simp [imR])
  generalize hgM2 : va_up (kU M1 (65 + 2 * i + 1)) 144 (upd (kU M1 (65 + 2 * i + 1) 144) i (M1 166 (65 + 2 * i + 1))) = M2 at I2
  refine ⟨M2, fun c0 => ?_, ?_⟩
  · conv => lhs; rw [bh_MO_keepsTold_128]
    simp (disch := first | assumption | omega | decide | (simp only [ma_wd0, ma_wdi, ma_wdr, ma_wdl, ma_wdn] <;> omega)) only [↓reduceIte, evK, evL, evS, evA, evJ, Option.bind_some, Option.toList, List.cons_append, List.nil_append, nI_add, pk_mul, bI0, ite_not, ev_rbb, up_n, up_s, up_u, pk_us, pk_un, Nat.reduceAdd, nI_ltT, nI_ltF, nI_leT, nI_leF, nI_eqT, nI_eqF, gfM, ldM]
    rw [ev_kU (k := 65 + 2 * i) I0.1 I0.2.1 (by omega) (by simp only [ma_wd0, ma_wdi, ma_wdr, ma_wdl, ma_wdn] <;> omega)]
    simp (disch := first | assumption | omega | decide | (simp only [ma_wd0, ma_wdi, ma_wdr, ma_wdl, ma_wdn] <;> omega)) only [stM]
    rw [hgM1]
    simp (disch := first | assumption | omega | decide | (simp only [ma_wd0, ma_wdi, ma_wdr, ma_wdl, ma_wdn] <;> omega)) only [↓reduceIte, evK, evL, evS, evA, evJ, Option.bind_some, Option.toList, List.cons_append, List.nil_append, nI_add, pk_mul, bI0, ite_not, ev_rbb, up_n, up_s, up_u, pk_us, pk_un, Nat.reduceAdd, nI_ltT, nI_ltF, nI_leT, nI_leF, nI_eqT, nI_eqF, gfM, ldM]
    rw [ev_kU (k := 65 + 2 * i + 1) I1.1 I1.2.1 (by omega) (by simp only [ma_wd0, ma_wdi, ma_wdr, ma_wdl, ma_wdn] <;> omega)]
    simp (disch := first | assumption | omega | decide | (simp only [ma_wd0, ma_wdi, ma_wdr, ma_wdl, ma_wdn] <;> omega)) only [stM]
    rw [hgM2]
    simp (disch := first | assumption | omega | decide | (simp only [ma_wd0, ma_wdi, ma_wdr, ma_wdl, ma_wdn] <;> omega)) only [↓reduceIte, evK, evL, evS, evA, evJ, Option.bind_some, Option.toList, List.cons_append, List.nil_append, nI_add, pk_mul, bI0, ite_not, ev_rbb, up_n, up_s, up_u, pk_us, pk_un, Nat.reduceAdd, nI_ltT, nI_ltF, nI_leT, nI_leF, nI_eqT, nI_eqF, gfM]
  · rw [show 65 + 2 * (i + 1) = 65 + 2 * i + 1 + 1 by omega]
    exact I2
theorem imU_d (d : Nat) (x0 : Option Value) (I : iU m0 (77 + 0) M) : ∃ M', (∀ c, ev sc (d + 1) 288 (pm_blk 288 174) [some (.ref 138), some (.int (nI 0))] [] (hp c w M) = ev sc (d + 1) 288 (pm_blk 288 174) [some (.ref 138), some (.int (nI 16))] [] (hp c w M')) ∧ iU m0 (77 + 16) M' := by
  refine mo_loop (w := w) 16 (fun i h => ev sc (d + 1) 288 (pm_blk 288 174) [some (.ref 138), some (.int (nI i))] [] h) (fun i M => iU m0 (77 + i) M) ?_ 16 0 M (by omega) I
  intro i M0 hi I0
  have I1 := I0.row (k := 77 + i) (by omega) (at_161 (j := i) (by omega)) (by omega) (by simp [imR])
  generalize hgM1 : va_up (kU M0 (77 + i)) 161 (upd (kU M0 (77 + i) 161) i (M0 166 (77 + i))) = M1 at I1
  refine ⟨M1, fun c0 => ?_, ?_⟩
  · conv => lhs; rw [bh_MO_keepsTold_174]
    simp (disch := first | assumption | omega | decide | (simp only [ma_wd0, ma_wdi, ma_wdr, ma_wdl, ma_wdn] <;> omega)) only [↓reduceIte, evK, evL, evS, evA, evJ, Option.bind_some, Option.toList, List.cons_append, List.nil_append, nI_add, pk_mul, bI0, ite_not, ev_rbb, up_n, up_s, up_u, pk_us, pk_un, Nat.reduceAdd, nI_ltT, nI_ltF, nI_leT, nI_leF, nI_eqT, nI_eqF, gfM, ldM]
    rw [ev_kU (k := 77 + i) I0.1 I0.2.1 (by omega) (by simp only [ma_wd0, ma_wdi, ma_wdr, ma_wdl, ma_wdn] <;> omega)]
    simp (disch := first | assumption | omega | decide | (simp only [ma_wd0, ma_wdi, ma_wdr, ma_wdl, ma_wdn] <;> omega)) only [stM]
    rw [hgM1]
    simp (disch := first | assumption | omega | decide | (simp only [ma_wd0, ma_wdi, ma_wdr, ma_wdl, ma_wdn] <;> omega)) only [↓reduceIte, evK, evL, evS, evA, evJ, Option.bind_some, Option.toList, List.cons_append, List.nil_append, nI_add, pk_mul, bI0, ite_not, ev_rbb, up_n, up_s, up_u, pk_us, pk_un, Nat.reduceAdd, nI_ltT, nI_ltF, nI_leT, nI_leF, nI_eqT, nI_eqF, gfM]
  · rw [show 77 + (i + 1) = 77 + i + 1 by omega]
    exact I1
theorem imU_e (d : Nat) (x0 : Option Value) (I : iU m0 (93 + 0) M) : ∃ M', (∀ c, ev sc (d + 1) 288 (pm_blk 288 204) [some (.ref 138), some (.int (nI 0))] [] (hp c w M) = ev sc (d + 1) 288 (pm_blk 288 204) [some (.ref 138), some (.int (nI 64))] [] (hp c w M')) ∧ iU m0 (93 + 64) M' := by
  refine mo_loop (w := w) 64 (fun i h => ev sc (d + 1) 288 (pm_blk 288 204) [some (.ref 138), some (.int (nI i))] [] h) (fun i M => iU m0 (93 + i) M) ?_ 64 0 M (by omega) I
  intro i M0 hi I0
  have I1 := I0.row (k := 93 + i) (by omega) (at_156 (j := i) (by omega)) (by omega) (by simp [imR])
  generalize hgM1 : va_up (kU M0 (93 + i)) 156 (upd (kU M0 (93 + i) 156) i (M0 166 (93 + i))) = M1 at I1
  refine ⟨M1, fun c0 => ?_, ?_⟩
  · conv => lhs; rw [bh_MO_keepsTold_204]
    simp (disch := first | assumption | omega | decide | (simp only [ma_wd0, ma_wdi, ma_wdr, ma_wdl, ma_wdn] <;> omega)) only [↓reduceIte, evK, evL, evS, evA, evJ, Option.bind_some, Option.toList, List.cons_append, List.nil_append, nI_add, pk_mul, bI0, ite_not, ev_rbb, up_n, up_s, up_u, pk_us, pk_un, Nat.reduceAdd, nI_ltT, nI_ltF, nI_leT, nI_leF, nI_eqT, nI_eqF, gfM, ldM]
    rw [ev_kU (k := 93 + i) I0.1 I0.2.1 (by omega) (by simp only [ma_wd0, ma_wdi, ma_wdr, ma_wdl, ma_wdn] <;> omega)]
    simp (disch := first | assumption | omega | decide | (simp only [ma_wd0, ma_wdi, ma_wdr, ma_wdl, ma_wdn] <;> omega)) only [stM]
    rw [hgM1]
    simp (disch := first | assumption | omega | decide | (simp only [ma_wd0, ma_wdi, ma_wdr, ma_wdl, ma_wdn] <;> omega)) only [↓reduceIte, evK, evL, evS, evA, evJ, Option.bind_some, Option.toList, List.cons_append, List.nil_append, nI_add, pk_mul, bI0, ite_not, ev_rbb, up_n, up_s, up_u, pk_us, pk_un, Nat.reduceAdd, nI_ltT, nI_ltF, nI_leT, nI_leF, nI_eqT, nI_eqF, gfM]
  · rw [show 93 + (i + 1) = 93 + i + 1 by omega]
    exact I1
theorem imU_f (d : Nat) (x0 : Option Value) (I : iU m0 (157 + 0) M) : ∃ M', (∀ c, ev sc (d + 1) 288 (pm_blk 288 234) [some (.ref 138), some (.int (nI 0))] [] (hp c w M) = ev sc (d + 1) 288 (pm_blk 288 234) [some (.ref 138), some (.int (nI 60))] [] (hp c w M')) ∧ iU m0 (157 + 60) M' := by
  refine mo_loop (w := w) 60 (fun i h => ev sc (d + 1) 288 (pm_blk 288 234) [some (.ref 138), some (.int (nI i))] [] h) (fun i M => iU m0 (157 + i) M) ?_ 60 0 M (by omega) I
  intro i M0 hi I0
  have I1 := I0.row (k := 157 + i) (by omega) (at_157 (j := i) (by omega)) (by omega) (by simp [imR])
  generalize hgM1 : va_up (kU M0 (157 + i)) 157 (upd (kU M0 (157 + i) 157) i (M0 166 (157 + i))) = M1 at I1
  refine ⟨M1, fun c0 => ?_, ?_⟩
  · conv => lhs; rw [bh_MO_keepsTold_234]
    simp (disch := first | assumption | omega | decide | (simp only [ma_wd0, ma_wdi, ma_wdr, ma_wdl, ma_wdn] <;> omega)) only [↓reduceIte, evK, evL, evS, evA, evJ, Option.bind_some, Option.toList, List.cons_append, List.nil_append, nI_add, pk_mul, bI0, ite_not, ev_rbb, up_n, up_s, up_u, pk_us, pk_un, Nat.reduceAdd, nI_ltT, nI_ltF, nI_leT, nI_leF, nI_eqT, nI_eqF, gfM, ldM]
    rw [ev_kU (k := 157 + i) I0.1 I0.2.1 (by omega) (by simp only [ma_wd0, ma_wdi, ma_wdr, ma_wdl, ma_wdn] <;> omega)]
    simp (disch := first | assumption | omega | decide | (simp only [ma_wd0, ma_wdi, ma_wdr, ma_wdl, ma_wdn] <;> omega)) only [stM]
    rw [hgM1]
    simp (disch := first | assumption | omega | decide | (simp only [ma_wd0, ma_wdi, ma_wdr, ma_wdl, ma_wdn] <;> omega)) only [↓reduceIte, evK, evL, evS, evA, evJ, Option.bind_some, Option.toList, List.cons_append, List.nil_append, nI_add, pk_mul, bI0, ite_not, ev_rbb, up_n, up_s, up_u, pk_us, pk_un, Nat.reduceAdd, nI_ltT, nI_ltF, nI_leT, nI_leF, nI_eqT, nI_eqF, gfM]
  · rw [show 157 + (i + 1) = 157 + i + 1 by omega]
    exact I1
theorem imU_g (d : Nat) (x0 : Option Value) (I : iU m0 (217 + 0) M) : ∃ M', (∀ c, ev sc (d + 1) 286 (pm_blk 286 69) [some (.ref 138), x0, some (.int (nI 0))] [] (hp c w M) = ev sc (d + 1) 286 (pm_blk 286 69) [some (.ref 138), x0, some (.int (nI 600))] [] (hp c w M')) ∧ iU m0 (217 + 600) M' := by
  refine mo_loop (w := w) 600 (fun i h => ev sc (d + 1) 286 (pm_blk 286 69) [some (.ref 138), x0, some (.int (nI i))] [] h) (fun i M => iU m0 (217 + i) M) ?_ 600 0 M (by omega) I
  intro i M0 hi I0
  have I1 := I0.row (k := 217 + i) (by omega) (at_145 (j := i) (by omega)) (by omega) (by simp [imR])
  generalize hgM1 : va_up (kU M0 (217 + i)) 145 (upd (kU M0 (217 + i) 145) i (M0 166 (217 + i))) = M1 at I1
  refine ⟨M1, fun c0 => ?_, ?_⟩
  · conv => lhs; rw [bh_MO_image_69]
    simp (disch := first | assumption | omega | decide | (simp only [ma_wd0, ma_wdi, ma_wdr, ma_wdl, ma_wdn] <;> omega)) only [↓reduceIte, evK, evL, evS, evA, evJ, Option.bind_some, Option.toList, List.cons_append, List.nil_append, nI_add, pk_mul, bI0, ite_not, ev_rbb, up_n, up_s, up_u, pk_us, pk_un, Nat.reduceAdd, nI_ltT, nI_ltF, nI_leT, nI_leF, nI_eqT, nI_eqF, gfM, ldM]
    rw [ev_kU (k := 217 + i) I0.1 I0.2.1 (by omega) (by simp only [ma_wd0, ma_wdi, ma_wdr, ma_wdl, ma_wdn] <;> omega)]
    simp (disch := first | assumption | omega | decide | (simp only [ma_wd0, ma_wdi, ma_wdr, ma_wdl, ma_wdn] <;> omega)) only [stM]
    rw [hgM1]
    simp (disch := first | assumption | omega | decide | (simp only [ma_wd0, ma_wdi, ma_wdr, ma_wdl, ma_wdn] <;> omega)) only [↓reduceIte, evK, evL, evS, evA, evJ, Option.bind_some, Option.toList, List.cons_append, List.nil_append, nI_add, pk_mul, bI0, ite_not, ev_rbb, up_n, up_s, up_u, pk_us, pk_un, Nat.reduceAdd, nI_ltT, nI_ltF, nI_leT, nI_leF, nI_eqT, nI_eqF, gfM]
  · rw [show 217 + (i + 1) = 217 + i + 1 by omega]
    exact I1
theorem imU_h (d : Nat) (x0 : Option Value) (I : iU m0 (818 + 4 * 0) M) : ∃ M', (∀ c, ev sc (d + 1) 289 (pm_blk 289 18) [some (.ref 138), some (.int (nI 0))] [] (hp c w M) = ev sc (d + 1) 289 (pm_blk 289 18) [some (.ref 138), some (.int (nI 16))] [] (hp c w M')) ∧ iU m0 (818 + 4 * 16) M' := by
  refine mo_loop (w := w) 16 (fun i h => ev sc (d + 1) 289 (pm_blk 289 18) [some (.ref 138), some (.int (nI i))] [] h) (fun i M => iU m0 (818 + 4 * i) M) ?_ 16 0 M (by omega) I
  intro i M0 hi I0
  have I1 := I0.row (k := 818 + 4 * i) (by omega) (at_149 (j := i) (by omega)) (by omega) (by simp [imR])
  generalize hgM1 : va_up (kU M0 (818 + 4 * i)) 149 (upd (kU M0 (818 + 4 * i) 149) i (M0 166 (818 + 4 * i))) = M1 at I1
  have I2 := I1.row (k := 818 + 4 * i + 1) (by omega) (at_150 (j := i) (by omega)) (by omega) (by simp [imR])
  generalize hgM2 : va_up (kU M1 (818 + 4 * i + 1)) 150 (upd (kU M1 (818 + 4 * i + 1) 150) i (M1 166 (818 + 4 * i + 1))) = M2 at I2
  have I3 := I2.row (k := 818 + 4 * i + 1 + 1) (by omega) (at_151 (j := i) (by omega)) (by omega) (by simp [imR])
  generalize hgM3 : va_up (kU M2 (818 + 4 * i + 1 + 1)) 151 (upd (kU M2 (818 + 4 * i + 1 + 1) 151) i (M2 166 (818 + 4 * i + 1 + 1))) = M3 at I3
  have I4 := I3.row (k := 818 + 4 * i + 1 + 1 + 1) (by omega) (at_152 (j := i) (by omega)) (by omega) (by simp [imR])
  generalize hgM4 : va_up (kU M3 (818 + 4 * i + 1 + 1 + 1)) 152 (upd (kU M3 (818 + 4 * i + 1 + 1 + 1) 152) i (M3 166 (818 + 4 * i + 1 + 1 + 1))) = M4 at I4
  refine ⟨M4, fun c0 => ?_, ?_⟩
  · conv => lhs; rw [bh_MO_keepsLaw_18]
    simp (disch := first | assumption | omega | decide | (simp only [ma_wd0, ma_wdi, ma_wdr, ma_wdl, ma_wdn] <;> omega)) only [↓reduceIte, evK, evL, evS, evA, evJ, Option.bind_some, Option.toList, List.cons_append, List.nil_append, nI_add, pk_mul, bI0, ite_not, ev_rbb, up_n, up_s, up_u, pk_us, pk_un, Nat.reduceAdd, nI_ltT, nI_ltF, nI_leT, nI_leF, nI_eqT, nI_eqF, gfM, ldM]
    rw [ev_kU (k := 818 + 4 * i) I0.1 I0.2.1 (by omega) (by simp only [ma_wd0, ma_wdi, ma_wdr, ma_wdl, ma_wdn] <;> omega)]
    simp (disch := first | assumption | omega | decide | (simp only [ma_wd0, ma_wdi, ma_wdr, ma_wdl, ma_wdn] <;> omega)) only [stM]
    rw [hgM1]
    simp (disch := first | assumption | omega | decide | (simp only [ma_wd0, ma_wdi, ma_wdr, ma_wdl, ma_wdn] <;> omega)) only [↓reduceIte, evK, evL, evS, evA, evJ, Option.bind_some, Option.toList, List.cons_append, List.nil_append, nI_add, pk_mul, bI0, ite_not, ev_rbb, up_n, up_s, up_u, pk_us, pk_un, Nat.reduceAdd, nI_ltT, nI_ltF, nI_leT, nI_leF, nI_eqT, nI_eqF, gfM, ldM]
    rw [ev_kU (k := 818 + 4 * i + 1) I1.1 I1.2.1 (by omega) (by simp only [ma_wd0, ma_wdi, ma_wdr, ma_wdl, ma_wdn] <;> omega)]
    simp (disch := first | assumption | omega | decide | (simp only [ma_wd0, ma_wdi, ma_wdr, ma_wdl, ma_wdn] <;> omega)) only [stM]
    rw [hgM2]
    simp (disch := first | assumption | omega | decide | (simp only [ma_wd0, ma_wdi, ma_wdr, ma_wdl, ma_wdn] <;> omega)) only [↓reduceIte, evK, evL, evS, evA, evJ, Option.bind_some, Option.toList, List.cons_append, List.nil_append, nI_add, pk_mul, bI0, ite_not, ev_rbb, up_n, up_s, up_u, pk_us, pk_un, Nat.reduceAdd, nI_ltT, nI_ltF, nI_leT, nI_leF, nI_eqT, nI_eqF, gfM, ldM]
    rw [ev_kU (k := 818 + 4 * i + 1 + 1) I2.1 I2.2.1 (by omega) (by simp only [ma_wd0, ma_wdi, ma_wdr, ma_wdl, ma_wdn] <;> omega)]
    simp (disch := first | assumption | omega | decide | (simp only [ma_wd0, ma_wdi, ma_wdr, ma_wdl, ma_wdn] <;> omega)) only [stM]
    rw [hgM3]
    simp (disch := first | assumption | omega | decide | (simp only [ma_wd0, ma_wdi, ma_wdr, ma_wdl, ma_wdn] <;> omega)) only [↓reduceIte, evK, evL, evS, evA, evJ, Option.bind_some, Option.toList, List.cons_append, List.nil_append, nI_add, pk_mul, bI0, ite_not, ev_rbb, up_n, up_s, up_u, pk_us, pk_un, Nat.reduceAdd, nI_ltT, nI_ltF, nI_leT, nI_leF, nI_eqT, nI_eqF, gfM, ldM]
    rw [ev_kU (k := 818 + 4 * i + 1 + 1 + 1) I3.1 I3.2.1 (by omega) (by simp only [ma_wd0, ma_wdi, ma_wdr, ma_wdl, ma_wdn] <;> omega)]
    simp (disch := first | assumption | omega | decide | (simp only [ma_wd0, ma_wdi, ma_wdr, ma_wdl, ma_wdn] <;> omega)) only [stM]
    rw [hgM4]
    simp (disch := first | assumption | omega | decide | (simp only [ma_wd0, ma_wdi, ma_wdr, ma_wdl, ma_wdn] <;> omega)) only [↓reduceIte, evK, evL, evS, evA, evJ, Option.bind_some, Option.toList, List.cons_append, List.nil_append, nI_add, pk_mul, bI0, ite_not, ev_rbb, up_n, up_s, up_u, pk_us, pk_un, Nat.reduceAdd, nI_ltT, nI_ltF, nI_leT, nI_leF, nI_eqT, nI_eqF, gfM]
  · rw [show 818 + 4 * (i + 1) = 818 + 4 * i + 1 + 1 + 1 + 1 by omega]
    exact I4
theorem imU_i (d : Nat) (x0 : Option Value) (I : iU m0 (882 + 2 * 0) M) : ∃ M', (∀ c, ev sc (d + 1) 289 (pm_blk 289 96) [some (.ref 138), some (.int (nI 0))] [] (hp c w M) = ev sc (d + 1) 289 (pm_blk 289 96) [some (.ref 138), some (.int (nI 400))] [] (hp c w M')) ∧ iU m0 (882 + 2 * 400) M' := by
  refine mo_loop (w := w) 400 (fun i h => ev sc (d + 1) 289 (pm_blk 289 96) [some (.ref 138), some (.int (nI i))] [] h) (fun i M => iU m0 (882 + 2 * i) M) ?_ 400 0 M (by omega) I
  intro i M0 hi I0
  have I1 := I0.row (k := 882 + 2 * i) (by omega) (at_153 (j := i) (by omega)) (by omega) (by simp [imR])
  generalize hgM1 : va_up (kU M0 (882 + 2 * i)) 153 (upd (kU M0 (882 + 2 * i) 153) i (M0 166 (882 + 2 * i))) = M1 at I1
  have I2 := I1.row (k := 882 + 2 * i + 1) (by omega) (at_154 (j := i) (by omega)) (by omega) (by simp [imR])
  generalize hgM2 : va_up (kU M1 (882 + 2 * i + 1)) 154 (upd (kU M1 (882 + 2 * i + 1) 154) i (M1 166 (882 + 2 * i + 1))) = M2 at I2
  refine ⟨M2, fun c0 => ?_, ?_⟩
  · conv => lhs; rw [bh_MO_keepsLaw_96]
    simp (disch := first | assumption | omega | decide | (simp only [ma_wd0, ma_wdi, ma_wdr, ma_wdl, ma_wdn] <;> omega)) only [↓reduceIte, evK, evL, evS, evA, evJ, Option.bind_some, Option.toList, List.cons_append, List.nil_append, nI_add, pk_mul, bI0, ite_not, ev_rbb, up_n, up_s, up_u, pk_us, pk_un, Nat.reduceAdd, nI_ltT, nI_ltF, nI_leT, nI_leF, nI_eqT, nI_eqF, gfM, ldM]
    rw [ev_kU (k := 882 + 2 * i) I0.1 I0.2.1 (by omega) (by simp only [ma_wd0, ma_wdi, ma_wdr, ma_wdl, ma_wdn] <;> omega)]
    simp (disch := first | assumption | omega | decide | (simp only [ma_wd0, ma_wdi, ma_wdr, ma_wdl, ma_wdn] <;> omega)) only [stM]
    rw [hgM1]
    simp (disch := first | assumption | omega | decide | (simp only [ma_wd0, ma_wdi, ma_wdr, ma_wdl, ma_wdn] <;> omega)) only [↓reduceIte, evK, evL, evS, evA, evJ, Option.bind_some, Option.toList, List.cons_append, List.nil_append, nI_add, pk_mul, bI0, ite_not, ev_rbb, up_n, up_s, up_u, pk_us, pk_un, Nat.reduceAdd, nI_ltT, nI_ltF, nI_leT, nI_leF, nI_eqT, nI_eqF, gfM, ldM]
    rw [ev_kU (k := 882 + 2 * i + 1) I1.1 I1.2.1 (by omega) (by simp only [ma_wd0, ma_wdi, ma_wdr, ma_wdl, ma_wdn] <;> omega)]
    simp (disch := first | assumption | omega | decide | (simp only [ma_wd0, ma_wdi, ma_wdr, ma_wdl, ma_wdn] <;> omega)) only [stM]
    rw [hgM2]
    simp (disch := first | assumption | omega | decide | (simp only [ma_wd0, ma_wdi, ma_wdr, ma_wdl, ma_wdn] <;> omega)) only [↓reduceIte, evK, evL, evS, evA, evJ, Option.bind_some, Option.toList, List.cons_append, List.nil_append, nI_add, pk_mul, bI0, ite_not, ev_rbb, up_n, up_s, up_u, pk_us, pk_un, Nat.reduceAdd, nI_ltT, nI_ltF, nI_leT, nI_leF, nI_eqT, nI_eqF, gfM]
  · rw [show 882 + 2 * (i + 1) = 882 + 2 * i + 1 + 1 by omega]
    exact I2
theorem t_keepsToldU (d : Nat) (I0 : iU m0 49 M) : ∃ M', (∀ c, cc sc (d + 1) 288 [.ref 138] (hp c w M) = some (none, hp c w M')) ∧ iU m0 217 M' := by
  have I1 := I0.fld (k := 49) (f := 6) (by omega) (by decide) (by simp [imF])
  generalize hgM1 : va_up (kU M (49)) 138 (upd (kU M (49) 138) 6 (M 166 (49))) = M1 at I1
  simp only [Nat.reduceAdd] at I1
  have I2 := I1.fld (k := 50) (f := 7) (by omega) (by decide) (by simp [imF])
  generalize hgM2 : va_up (kU M1 (50)) 138 (upd (kU M1 (50) 138) 7 (M1 166 (50))) = M2 at I2
  simp only [Nat.reduceAdd] at I2
  have I3 := I2.fld (k := 51) (f := 8) (by omega) (by decide) (by simp [imF])
  generalize hgM3 : va_up (kU M2 (51)) 138 (upd (kU M2 (51) 138) 8 (M2 166 (51))) = M3 at I3
  simp only [Nat.reduceAdd] at I3
  have I4 := I3.fld (k := 52) (f := 9) (by omega) (by decide) (by simp [imF])
  generalize hgM4 : va_up (kU M3 (52)) 138 (upd (kU M3 (52) 138) 9 (M3 166 (52))) = M4 at I4
  simp only [Nat.reduceAdd] at I4
  have I5 := I4.fld (k := 53) (f := 10) (by omega) (by decide) (by simp [imF])
  generalize hgM5 : va_up (kU M4 (53)) 138 (upd (kU M4 (53) 138) 10 (M4 166 (53))) = M5 at I5
  simp only [Nat.reduceAdd] at I5
  have I6 := I5.fld (k := 54) (f := 38) (by omega) (by decide) (by simp [imF])
  generalize hgM6 : va_up (kU M5 (54)) 138 (upd (kU M5 (54) 138) 38 (M5 166 (54))) = M6 at I6
  simp only [Nat.reduceAdd] at I6
  have I7 := I6.fld (k := 55) (f := 40) (by omega) (by decide) (by simp [imF])
  generalize hgM7 : va_up (kU M6 (55)) 138 (upd (kU M6 (55) 138) 40 (M6 166 (55))) = M7 at I7
  simp only [Nat.reduceAdd] at I7
  have I8 := I7.fld (k := 56) (f := 47) (by omega) (by decide) (by simp [imF])
  generalize hgM8 : va_up (kU M7 (56)) 138 (upd (kU M7 (56) 138) 47 (M7 166 (56))) = M8 at I8
  simp only [Nat.reduceAdd] at I8
  obtain ⟨N0, E0, J0⟩ := imU_b (sc := sc) (w := w) d none (M := M8) I8
  simp only [Nat.reduceAdd, Nat.reduceMul] at J0
  obtain ⟨N1, E1, J1⟩ := imU_c (sc := sc) (w := w) d none (M := N0) J0
  simp only [Nat.reduceAdd, Nat.reduceMul] at J1
  obtain ⟨N2, E2, J2⟩ := imU_d (sc := sc) (w := w) d none (M := N1) J1
  simp only [Nat.reduceAdd, Nat.reduceMul] at J2
  obtain ⟨N3, E3, J3⟩ := imU_e (sc := sc) (w := w) d none (M := N2) J2
  simp only [Nat.reduceAdd, Nat.reduceMul] at J3
  obtain ⟨N4, E4, J4⟩ := imU_f (sc := sc) (w := w) d none (M := N3) J3
  simp only [Nat.reduceAdd, Nat.reduceMul] at J4
  refine ⟨N4, fun c => ?_, J4⟩
  simp (disch := first | assumption | omega | decide | (simp only [ma_wd0, ma_wdi, ma_wdr, ma_wdl, ma_wdn] <;> omega)) only [↓reduceIte, evK, evL, evS, evA, evJ, Option.bind_some, Option.toList, List.cons_append, List.nil_append, nI_add, pk_mul, bI0, ite_not, ev_rbb, up_n, up_s, up_u, pk_us, pk_un, Nat.reduceAdd, nI_ltT, nI_ltF, nI_leT, nI_leF, nI_eqT, nI_eqF, en_MO_keepsTold, gfM]
  rw [ev_kU (k := 49) I0.1 I0.2.1 (by omega) (by simp only [ma_wd0, ma_wdi, ma_wdr, ma_wdl, ma_wdn] <;> omega)]
  simp (disch := first | assumption | omega | decide | (simp only [ma_wd0, ma_wdi, ma_wdr, ma_wdl, ma_wdn] <;> omega)) only [pfM]
  rw [show va_up (kU M (49)) 138 (upd (kU M (49) 138) 6 (M 166 (49))) = M1 from hgM1]
  simp (disch := first | assumption | omega | decide | (simp only [ma_wd0, ma_wdi, ma_wdr, ma_wdl, ma_wdn] <;> omega)) only [↓reduceIte, evK, evL, evS, evA, evJ, Option.bind_some, Option.toList, List.cons_append, List.nil_append, nI_add, pk_mul, bI0, ite_not, ev_rbb, up_n, up_s, up_u, pk_us, pk_un, Nat.reduceAdd, nI_ltT, nI_ltF, nI_leT, nI_leF, nI_eqT, nI_eqF, gfM]
  rw [ev_kU (k := 50) I1.1 I1.2.1 (by omega) (by simp only [ma_wd0, ma_wdi, ma_wdr, ma_wdl, ma_wdn] <;> omega)]
  simp (disch := first | assumption | omega | decide | (simp only [ma_wd0, ma_wdi, ma_wdr, ma_wdl, ma_wdn] <;> omega)) only [pfM]
  rw [show va_up (kU M1 (50)) 138 (upd (kU M1 (50) 138) 7 (M1 166 (50))) = M2 from hgM2]
  simp (disch := first | assumption | omega | decide | (simp only [ma_wd0, ma_wdi, ma_wdr, ma_wdl, ma_wdn] <;> omega)) only [↓reduceIte, evK, evL, evS, evA, evJ, Option.bind_some, Option.toList, List.cons_append, List.nil_append, nI_add, pk_mul, bI0, ite_not, ev_rbb, up_n, up_s, up_u, pk_us, pk_un, Nat.reduceAdd, nI_ltT, nI_ltF, nI_leT, nI_leF, nI_eqT, nI_eqF, gfM]
  rw [ev_kU (k := 51) I2.1 I2.2.1 (by omega) (by simp only [ma_wd0, ma_wdi, ma_wdr, ma_wdl, ma_wdn] <;> omega)]
  simp (disch := first | assumption | omega | decide | (simp only [ma_wd0, ma_wdi, ma_wdr, ma_wdl, ma_wdn] <;> omega)) only [pfM]
  rw [show va_up (kU M2 (51)) 138 (upd (kU M2 (51) 138) 8 (M2 166 (51))) = M3 from hgM3]
  simp (disch := first | assumption | omega | decide | (simp only [ma_wd0, ma_wdi, ma_wdr, ma_wdl, ma_wdn] <;> omega)) only [↓reduceIte, evK, evL, evS, evA, evJ, Option.bind_some, Option.toList, List.cons_append, List.nil_append, nI_add, pk_mul, bI0, ite_not, ev_rbb, up_n, up_s, up_u, pk_us, pk_un, Nat.reduceAdd, nI_ltT, nI_ltF, nI_leT, nI_leF, nI_eqT, nI_eqF, gfM]
  rw [ev_kU (k := 52) I3.1 I3.2.1 (by omega) (by simp only [ma_wd0, ma_wdi, ma_wdr, ma_wdl, ma_wdn] <;> omega)]
  simp (disch := first | assumption | omega | decide | (simp only [ma_wd0, ma_wdi, ma_wdr, ma_wdl, ma_wdn] <;> omega)) only [pfM]
  rw [show va_up (kU M3 (52)) 138 (upd (kU M3 (52) 138) 9 (M3 166 (52))) = M4 from hgM4]
  simp (disch := first | assumption | omega | decide | (simp only [ma_wd0, ma_wdi, ma_wdr, ma_wdl, ma_wdn] <;> omega)) only [↓reduceIte, evK, evL, evS, evA, evJ, Option.bind_some, Option.toList, List.cons_append, List.nil_append, nI_add, pk_mul, bI0, ite_not, ev_rbb, up_n, up_s, up_u, pk_us, pk_un, Nat.reduceAdd, nI_ltT, nI_ltF, nI_leT, nI_leF, nI_eqT, nI_eqF, gfM]
  rw [ev_kU (k := 53) I4.1 I4.2.1 (by omega) (by simp only [ma_wd0, ma_wdi, ma_wdr, ma_wdl, ma_wdn] <;> omega)]
  simp (disch := first | assumption | omega | decide | (simp only [ma_wd0, ma_wdi, ma_wdr, ma_wdl, ma_wdn] <;> omega)) only [pfM]
  rw [show va_up (kU M4 (53)) 138 (upd (kU M4 (53) 138) 10 (M4 166 (53))) = M5 from hgM5]
  simp (disch := first | assumption | omega | decide | (simp only [ma_wd0, ma_wdi, ma_wdr, ma_wdl, ma_wdn] <;> omega)) only [↓reduceIte, evK, evL, evS, evA, evJ, Option.bind_some, Option.toList, List.cons_append, List.nil_append, nI_add, pk_mul, bI0, ite_not, ev_rbb, up_n, up_s, up_u, pk_us, pk_un, Nat.reduceAdd, nI_ltT, nI_ltF, nI_leT, nI_leF, nI_eqT, nI_eqF, gfM]
  rw [ev_kU (k := 54) I5.1 I5.2.1 (by omega) (by simp only [ma_wd0, ma_wdi, ma_wdr, ma_wdl, ma_wdn] <;> omega)]
  simp (disch := first | assumption | omega | decide | (simp only [ma_wd0, ma_wdi, ma_wdr, ma_wdl, ma_wdn] <;> omega)) only [pfM]
  rw [show va_up (kU M5 (54)) 138 (upd (kU M5 (54) 138) 38 (M5 166 (54))) = M6 from hgM6]
  simp (disch := first | assumption | omega | decide | (simp only [ma_wd0, ma_wdi, ma_wdr, ma_wdl, ma_wdn] <;> omega)) only [↓reduceIte, evK, evL, evS, evA, evJ, Option.bind_some, Option.toList, List.cons_append, List.nil_append, nI_add, pk_mul, bI0, ite_not, ev_rbb, up_n, up_s, up_u, pk_us, pk_un, Nat.reduceAdd, nI_ltT, nI_ltF, nI_leT, nI_leF, nI_eqT, nI_eqF, gfM]
  rw [ev_kU (k := 55) I6.1 I6.2.1 (by omega) (by simp only [ma_wd0, ma_wdi, ma_wdr, ma_wdl, ma_wdn] <;> omega)]
  simp (disch := first | assumption | omega | decide | (simp only [ma_wd0, ma_wdi, ma_wdr, ma_wdl, ma_wdn] <;> omega)) only [pfM]
  rw [show va_up (kU M6 (55)) 138 (upd (kU M6 (55) 138) 40 (M6 166 (55))) = M7 from hgM7]
  simp (disch := first | assumption | omega | decide | (simp only [ma_wd0, ma_wdi, ma_wdr, ma_wdl, ma_wdn] <;> omega)) only [↓reduceIte, evK, evL, evS, evA, evJ, Option.bind_some, Option.toList, List.cons_append, List.nil_append, nI_add, pk_mul, bI0, ite_not, ev_rbb, up_n, up_s, up_u, pk_us, pk_un, Nat.reduceAdd, nI_ltT, nI_ltF, nI_leT, nI_leF, nI_eqT, nI_eqF, gfM]
  rw [ev_kU (k := 56) I7.1 I7.2.1 (by omega) (by simp only [ma_wd0, ma_wdi, ma_wdr, ma_wdl, ma_wdn] <;> omega)]
  simp (disch := first | assumption | omega | decide | (simp only [ma_wd0, ma_wdi, ma_wdr, ma_wdl, ma_wdn] <;> omega)) only [pfM]
  rw [show va_up (kU M7 (56)) 138 (upd (kU M7 (56) 138) 47 (M7 166 (56))) = M8 from hgM8]
  simp (disch := first | assumption | omega | decide | (simp only [ma_wd0, ma_wdi, ma_wdr, ma_wdl, ma_wdn] <;> omega)) only [↓reduceIte, evK, evL, evS, evA, evJ, Option.bind_some, Option.toList, List.cons_append, List.nil_append, nI_add, pk_mul, bI0, ite_not, ev_rbb, up_n, up_s, up_u, pk_us, pk_un, Nat.reduceAdd, nI_ltT, nI_ltF, nI_leT, nI_leF, nI_eqT, nI_eqF, gfM]
  rw [E0, bh_MO_keepsTold_98]
  simp (disch := first | assumption | omega | decide | (simp only [ma_wd0, ma_wdi, ma_wdr, ma_wdl, ma_wdn] <;> omega)) only [↓reduceIte, evK, evL, evS, evA, evJ, Option.bind_some, Option.toList, List.cons_append, List.nil_append, nI_add, pk_mul, bI0, ite_not, ev_rbb, up_n, up_s, up_u, pk_us, pk_un, Nat.reduceAdd, nI_ltT, nI_ltF, nI_leT, nI_leF, nI_eqT, nI_eqF, bk_MO_keepsTold, gfM]
  rw [E1, bh_MO_keepsTold_128]
  simp (disch := first | assumption | omega | decide | (simp only [ma_wd0, ma_wdi, ma_wdr, ma_wdl, ma_wdn] <;> omega)) only [↓reduceIte, evK, evL, evS, evA, evJ, Option.bind_some, Option.toList, List.cons_append, List.nil_append, nI_add, pk_mul, bI0, ite_not, ev_rbb, up_n, up_s, up_u, pk_us, pk_un, Nat.reduceAdd, nI_ltT, nI_ltF, nI_leT, nI_leF, nI_eqT, nI_eqF, bk_MO_keepsTold, gfM]
  rw [E2, bh_MO_keepsTold_174]
  simp (disch := first | assumption | omega | decide | (simp only [ma_wd0, ma_wdi, ma_wdr, ma_wdl, ma_wdn] <;> omega)) only [↓reduceIte, evK, evL, evS, evA, evJ, Option.bind_some, Option.toList, List.cons_append, List.nil_append, nI_add, pk_mul, bI0, ite_not, ev_rbb, up_n, up_s, up_u, pk_us, pk_un, Nat.reduceAdd, nI_ltT, nI_ltF, nI_leT, nI_leF, nI_eqT, nI_eqF, bk_MO_keepsTold, gfM]
  rw [E3, bh_MO_keepsTold_204]
  simp (disch := first | assumption | omega | decide | (simp only [ma_wd0, ma_wdi, ma_wdr, ma_wdl, ma_wdn] <;> omega)) only [↓reduceIte, evK, evL, evS, evA, evJ, Option.bind_some, Option.toList, List.cons_append, List.nil_append, nI_add, pk_mul, bI0, ite_not, ev_rbb, up_n, up_s, up_u, pk_us, pk_un, Nat.reduceAdd, nI_ltT, nI_ltF, nI_leT, nI_leF, nI_eqT, nI_eqF, bk_MO_keepsTold, gfM]
  rw [E4, bh_MO_keepsTold_234]
  simp (disch := first | assumption | omega | decide | (simp only [ma_wd0, ma_wdi, ma_wdr, ma_wdl, ma_wdn] <;> omega)) only [↓reduceIte, evK, evL, evS, evA, evJ, Option.bind_some, Option.toList, List.cons_append, List.nil_append, nI_add, pk_mul, bI0, ite_not, ev_rbb, up_n, up_s, up_u, pk_us, pk_un, Nat.reduceAdd, nI_ltT, nI_ltF, nI_leT, nI_leF, nI_eqT, nI_eqF, bk_MO_keepsTold, gfM]
theorem t_keepsLawU (d : Nat) (I0 : iU m0 817 M) : ∃ M', (∀ c, cc sc (d + 1) 289 [.ref 138] (hp c w M) = some (none, hp c w M')) ∧ iU m0 1682 M' := by
  have I1 := I0.row (k := 817) (r := 148) (i := 0) (by omega) (by decide) (by omega) (by simp [imR])
  generalize hgM1 : va_up (kU M (817)) 148 (upd (kU M (817) 148) 0 (M 166 (817))) = M1 at I1
  simp only [Nat.reduceAdd] at I1
  obtain ⟨N0, E0, J0⟩ := imU_h (sc := sc) (w := w) d none (M := M1) I1
  simp only [Nat.reduceAdd, Nat.reduceMul] at J0
  obtain ⟨N1, E1, J1⟩ := imU_i (sc := sc) (w := w) d none (M := N0) J0
  simp only [Nat.reduceAdd, Nat.reduceMul] at J1
  refine ⟨N1, fun c => ?_, J1⟩
  simp (disch := first | assumption | omega | decide | (simp only [ma_wd0, ma_wdi, ma_wdr, ma_wdl, ma_wdn] <;> omega)) only [↓reduceIte, evK, evL, evS, evA, evJ, Option.bind_some, Option.toList, List.cons_append, List.nil_append, nI_add, pk_mul, bI0, ite_not, ev_rbb, up_n, up_s, up_u, pk_us, pk_un, Nat.reduceAdd, nI_ltT, nI_ltF, nI_leT, nI_leF, nI_eqT, nI_eqF, en_MO_keepsLaw, gfM, ldM]
  rw [ev_kU (k := 817) I0.1 I0.2.1 (by omega) (by simp only [ma_wd0, ma_wdi, ma_wdr, ma_wdl, ma_wdn] <;> omega)]
  simp (disch := first | assumption | omega | decide | (simp only [ma_wd0, ma_wdi, ma_wdr, ma_wdl, ma_wdn] <;> omega)) only [stM]
  rw [show va_up (kU M (817)) 148 (upd (kU M (817) 148) 0 (M 166 (817))) = M1 from hgM1]
  simp (disch := first | assumption | omega | decide | (simp only [ma_wd0, ma_wdi, ma_wdr, ma_wdl, ma_wdn] <;> omega)) only [↓reduceIte, evK, evL, evS, evA, evJ, Option.bind_some, Option.toList, List.cons_append, List.nil_append, nI_add, pk_mul, bI0, ite_not, ev_rbb, up_n, up_s, up_u, pk_us, pk_un, Nat.reduceAdd, nI_ltT, nI_ltF, nI_leT, nI_leF, nI_eqT, nI_eqF, gfM]
  rw [E0, bh_MO_keepsLaw_18]
  simp (disch := first | assumption | omega | decide | (simp only [ma_wd0, ma_wdi, ma_wdr, ma_wdl, ma_wdn] <;> omega)) only [↓reduceIte, evK, evL, evS, evA, evJ, Option.bind_some, Option.toList, List.cons_append, List.nil_append, nI_add, pk_mul, bI0, ite_not, ev_rbb, up_n, up_s, up_u, pk_us, pk_un, Nat.reduceAdd, nI_ltT, nI_ltF, nI_leT, nI_leF, nI_eqT, nI_eqF, bk_MO_keepsLaw, gfM]
  rw [E1, bh_MO_keepsLaw_96]
  simp (disch := first | assumption | omega | decide | (simp only [ma_wd0, ma_wdi, ma_wdr, ma_wdl, ma_wdn] <;> omega)) only [↓reduceIte, evK, evL, evS, evA, evJ, Option.bind_some, Option.toList, List.cons_append, List.nil_append, nI_add, pk_mul, bI0, ite_not, ev_rbb, up_n, up_s, up_u, pk_us, pk_un, Nat.reduceAdd, nI_ltT, nI_ltF, nI_leT, nI_leF, nI_eqT, nI_eqF, bk_MO_keepsLaw, gfM]
end IM
