/-! ===== text: what was read is taken ===== -/
def cpM (f : Nat → Int32) (base n : Nat) : Nat → Int32 := fun j => if j < n then f (base + j) else f j
theorem cpM_0 (f : Nat → Int32) (base : Nat) : cpM f base 0 = f := by
  funext j
  unfold cpM
  rw [if_neg (by omega)]
theorem cpM_in {f : Nat → Int32} {base n j : Nat} (h : j < n) : cpM f base n j = f (base + j) := if_pos h
theorem cpM_out {f : Nat → Int32} {base n j : Nat} (h : n ≤ j) : cpM f base n j = f j := if_neg (by omega)
theorem cpM_s (f : Nat → Int32) (base n : Nat) : upd (cpM f base n) n (f (base + n)) = cpM f base (n + 1) := by
  funext j
  unfold upd cpM
  by_cases e : j = n
  · rw [if_pos e, if_pos (by omega), e]
  · rw [if_neg e]
    by_cases z : j < n
    · rw [if_pos z, if_pos (by omega)]
    · rw [if_neg z, if_neg (by omega)]
section TA
variable {sc : Nat × (Nat → Int32)} {c : Nat → Nat → Int32} {w : Nat → Int64} {m : Nat → Nat → Int32}
def tkL1 (m : Nat → Nat → Int32) (n : Nat) : Nat → Nat → Int32 := va_up (va_up (va_up (va_up m 149 (cpM (m 149) 32 n)) 150 (cpM (m 150) 32 n)) 151 (cpM (m 151) 32 n)) 152 (cpM (m 152) 32 n)
def tkL2 (m : Nat → Nat → Int32) (n : Nat) : Nat → Nat → Int32 := va_up (va_up m 153 (cpM (m 153) 800 n)) 154 (cpM (m 154) 800 n)
theorem up_id (m : Nat → Nat → Int32) (k : Nat) : va_up m k (m k) = m := by
  funext j
  unfold va_up
  split
  next h => rw [h]
  next => rfl
theorem tkL1_0 : tkL1 m 0 = m := by
  unfold tkL1
  rw [cpM_0, cpM_0, cpM_0, cpM_0, up_id, up_id, up_id, up_id]
theorem tkL2_0 : tkL2 m 0 = m := by
  unfold tkL2
  rw [cpM_0, cpM_0, up_id, up_id]
theorem cp_rows (f g h k : Nat → Int32) (a b e r : Nat → Int32) : va_up (va_up (va_up (va_up (va_up (va_up (va_up (va_up m 149 f) 150 g) 151 h) 152 k) 149 a) 150 b) 151 e) 152 r = va_up (va_up (va_up (va_up m 149 a) 150 b) 151 e) 152 r := by
  funext j
  unfold va_up
  repeat' split
  all_goals first | rfl | omega
theorem cp_rows2 (f g a b : Nat → Int32) : va_up (va_up (va_up (va_up m 153 f) 154 g) 153 a) 154 b = va_up (va_up m 153 a) 154 b := by
  funext j
  unfold va_up
  repeat' split
  all_goals first | rfl | omega
theorem tk_l1 (d L : Nat) (h29 : m 138 29 = nI 0) (hL : L ≤ 16) : ev sc d 205 (pm_blk 205 2) [some (.ref 138), some (.int (nI L)), some (.int (nI 0))] [] (hp c w m) = ev sc d 205 (pm_blk 205 2) [some (.ref 138), some (.int (nI L)), some (.int (nI L))] [] (hp c w (tkL1 m L)) := by
  have := run_loop (fun l h => ev sc d 205 (pm_blk 205 2) [some (.ref 138), some (.int (nI L)), some (.int (nI l))] [] h) (fun l => hp c w (tkL1 m l)) L (fun l hl => by
    have e29 : tkL1 m l 138 29 = nI 0 := by unfold tkL1; rw [up_n _ _ _ _ (by omega), up_n _ _ _ _ (by omega), up_n _ _ _ _ (by omega), up_n _ _ _ _ (by omega)]; exact h29
    have r9 : tkL1 m l 149 = cpM (m 149) 32 l := by unfold tkL1; rw [up_n _ _ _ _ (by omega), up_n _ _ _ _ (by omega), up_n _ _ _ _ (by omega), up_s]
    have r0 : tkL1 m l 150 = cpM (m 150) 32 l := by unfold tkL1; rw [up_n _ _ _ _ (by omega), up_n _ _ _ _ (by omega), up_s]
    have r1 : tkL1 m l 151 = cpM (m 151) 32 l := by unfold tkL1; rw [up_n _ _ _ _ (by omega), up_s]
    have r2 : tkL1 m l 152 = cpM (m 152) 32 l := by unfold tkL1; rw [up_s]
    have o9 : cpM (m 149) 32 l (32 + l) = m 149 (32 + l) := cpM_out (by omega)
    have o0 : cpM (m 150) 32 l (32 + l) = m 150 (32 + l) := cpM_out (by omega)
    have o1 : cpM (m 151) 32 l (32 + l) = m 151 (32 + l) := cpM_out (by omega)
    have o2 : cpM (m 152) 32 l (32 + l) = m 152 (32 + l) := cpM_out (by omega)
    have hz : 16 * 0 + l = l := by omega
    conv => lhs; rw [bh_MO_takesLaw_2]
    simp (disch := first | assumption | omega | decide | (simp only [ma_wd0, ma_wdi, ma_wdr, ma_wdl, ma_wdn] <;> omega)) only [↓reduceIte, evK, evL, evS, evA, evJ, Option.bind_some, Option.toList, List.cons_append, List.nil_append, nI_add, pk_mul, bI0, ite_not, ev_rbb, up_n, up_s, up_u, pk_us, pk_un, Nat.reduceAdd, nI_ltT, nI_ltF, nI_leT, nI_leF, nI_eqT, nI_eqF, bk_MO_takesLaw, gfC, gfM, ev_r0, ev_r1, eq_self, n_m1e, true_and, and_true, false_and, and_false, and_self, not_true_eq_false, not_false_eq_true, e29, ldM, stM, r9, r0, r1, r2, o9, o0, o1, o2, cpM_s, hz]
    rw [show va_up (va_up (va_up (va_up (tkL1 m l) 149 (cpM (m 149) 32 (l + 1))) 150 (cpM (m 150) 32 (l + 1))) 151 (cpM (m 151) 32 (l + 1))) 152 (cpM (m 152) 32 (l + 1)) = tkL1 m (l + 1) from cp_rows _ _ _ _ _ _ _ _])
  rw [tkL1_0] at this
  exact this
theorem tk_l2 (d L C : Nat) (h29 : m 138 29 = nI 0) (h30 : m 138 30 = nI C) (hC : C ≤ 400) : ev sc d 205 (pm_blk 205 107) [some (.ref 138), some (.int (nI L)), some (.int (nI 0))] [] (hp c w m) = ev sc d 205 (pm_blk 205 107) [some (.ref 138), some (.int (nI L)), some (.int (nI C))] [] (hp c w (tkL2 m C)) := by
  have := run_loop (fun l h => ev sc d 205 (pm_blk 205 107) [some (.ref 138), some (.int (nI L)), some (.int (nI l))] [] h) (fun l => hp c w (tkL2 m l)) C (fun l hl => by
    have e29 : tkL2 m l 138 29 = nI 0 := by unfold tkL2; rw [up_n _ _ _ _ (by omega), up_n _ _ _ _ (by omega)]; exact h29
    have e30 : tkL2 m l 138 30 = nI C := by unfold tkL2; rw [up_n _ _ _ _ (by omega), up_n _ _ _ _ (by omega)]; exact h30
    have r3 : tkL2 m l 153 = cpM (m 153) 800 l := by unfold tkL2; rw [up_n _ _ _ _ (by omega), up_s]
    have r4 : tkL2 m l 154 = cpM (m 154) 800 l := by unfold tkL2; rw [up_s]
    have o3 : cpM (m 153) 800 l (800 + l) = m 153 (800 + l) := cpM_out (by omega)
    have o4 : cpM (m 154) 800 l (800 + l) = m 154 (800 + l) := cpM_out (by omega)
    have hz : 400 * 0 + l = l := by omega
    conv => lhs; rw [bh_MO_takesLaw_107]
    simp (disch := first | assumption | omega | decide | (simp only [ma_wd0, ma_wdi, ma_wdr, ma_wdl, ma_wdn] <;> omega)) only [↓reduceIte, evK, evL, evS, evA, evJ, Option.bind_some, Option.toList, List.cons_append, List.nil_append, nI_add, pk_mul, bI0, ite_not, ev_rbb, up_n, up_s, up_u, pk_us, pk_un, Nat.reduceAdd, nI_ltT, nI_ltF, nI_leT, nI_leF, nI_eqT, nI_eqF, bk_MO_takesLaw, gfC, gfM, ev_r0, ev_r1, eq_self, n_m1e, true_and, and_true, false_and, and_false, and_self, not_true_eq_false, not_false_eq_true, e29, e30, ldM, stM, r3, r4, o3, o4, cpM_s, hz]
    rw [show va_up (va_up (tkL2 m l) 153 (cpM (m 153) 800 (l + 1))) 154 (cpM (m 154) 800 (l + 1)) = tkL2 m (l + 1) from cp_rows2 _ _ _ _])
  rw [tkL2_0] at this
  exact this
def tkLw (m : Nat → Nat → Int32) (L C : Nat) : Nat → Nat → Int32 := va_up (tkL2 (tkL1 m L) C) 148 (upd (m 148) 0 (nI L))
theorem t_takesLaw (d L C : Nat) (h29 : m 138 29 = nI 0) (h30 : m 138 30 = nI C) (hL : L ≤ 16) (hC : C ≤ 400) : cc sc d 205 [.ref 138, .int (nI L)] (hp c w m) = some (none, hp c w (tkLw m L C)) := by
  have e29 : tkL1 m L 138 29 = nI 0 := by unfold tkL1; rw [up_n _ _ _ _ (by omega), up_n _ _ _ _ (by omega), up_n _ _ _ _ (by omega), up_n _ _ _ _ (by omega)]; exact h29
  have e30 : tkL1 m L 138 30 = nI C := by unfold tkL1; rw [up_n _ _ _ _ (by omega), up_n _ _ _ _ (by omega), up_n _ _ _ _ (by omega), up_n _ _ _ _ (by omega)]; exact h30
  have a1 := tk_l1 (sc := sc) (c := c) (w := w) d L h29 hL
  have a2 := tk_l2 (sc := sc) (c := c) (w := w) (m := tkL1 m L) d L C e29 e30 hC
  have f29 : tkL2 (tkL1 m L) C 138 29 = nI 0 := by unfold tkL2; rw [up_n _ _ _ _ (by omega), up_n _ _ _ _ (by omega)]; exact e29
  have f30 : tkL2 (tkL1 m L) C 138 30 = nI C := by unfold tkL2; rw [up_n _ _ _ _ (by omega), up_n _ _ _ _ (by omega)]; exact e30
  have r48 : tkL2 (tkL1 m L) C 148 = m 148 := by unfold tkL2 tkL1; rw [up_n _ _ _ _ (by omega), up_n _ _ _ _ (by omega), up_n _ _ _ _ (by omega), up_n _ _ _ _ (by omega), up_n _ _ _ _ (by omega), up_n _ _ _ _ (by omega)]
  unfold tkLw
  simp (disch := first | assumption | omega | decide | (simp only [ma_wd0, ma_wdi, ma_wdr, ma_wdl, ma_wdn] <;> omega)) only [↓reduceIte, evK, evL, evS, evA, evJ, Option.bind_some, Option.toList, List.cons_append, List.nil_append, nI_add, pk_mul, bI0, ite_not, ev_rbb, up_n, up_s, up_u, pk_us, pk_un, Nat.reduceAdd, nI_ltT, nI_ltF, nI_leT, nI_leF, nI_eqT, nI_eqF, en_MO_takesLaw]
  rw [a1, bh_MO_takesLaw_2]
  simp (disch := first | assumption | omega | decide | (simp only [ma_wd0, ma_wdi, ma_wdr, ma_wdl, ma_wdn] <;> omega)) only [↓reduceIte, evK, evL, evS, evA, evJ, Option.bind_some, Option.toList, List.cons_append, List.nil_append, nI_add, pk_mul, bI0, ite_not, ev_rbb, up_n, up_s, up_u, pk_us, pk_un, Nat.reduceAdd, nI_ltT, nI_ltF, nI_leT, nI_leF, nI_eqT, nI_eqF, bk_MO_takesLaw, gfC, gfM, ev_r0, ev_r1, eq_self, n_m1e, true_and, and_true, false_and, and_false, and_self, not_true_eq_false, not_false_eq_true]
  rw [a2, bh_MO_takesLaw_107]
  simp (disch := first | assumption | omega | decide | (simp only [ma_wd0, ma_wdi, ma_wdr, ma_wdl, ma_wdn] <;> omega)) only [↓reduceIte, evK, evL, evS, evA, evJ, Option.bind_some, Option.toList, List.cons_append, List.nil_append, nI_add, pk_mul, bI0, ite_not, ev_rbb, up_n, up_s, up_u, pk_us, pk_un, Nat.reduceAdd, nI_ltT, nI_ltF, nI_leT, nI_leF, nI_eqT, nI_eqF, bk_MO_takesLaw, gfC, gfM, ev_r0, ev_r1, eq_self, n_m1e, true_and, and_true, false_and, and_false, and_self, not_true_eq_false, not_false_eq_true, f29, f30, stM, r48]
theorem tk_o1 (d K n : Nat) (hn : n ≤ 16) : ev sc d 206 (pm_blk 206 7) [some (.ref 138), some (.int (nI K)), some (.int (nI n)), some (.int (nI 0))] [] (hp c w m) = ev sc d 206 (pm_blk 206 7) [some (.ref 138), some (.int (nI K)), some (.int (nI n)), some (.int (nI (4 * n)))] [] (hp c w (va_up m 156 (cpM (m 156) 64 (4 * n)))) := by
  have := run_loop (fun l h => ev sc d 206 (pm_blk 206 7) [some (.ref 138), some (.int (nI K)), some (.int (nI n)), some (.int (nI l))] [] h) (fun l => hp c w (va_up m 156 (cpM (m 156) 64 l))) (4 * n) (fun l hl => by
    have o3 : cpM (m 156) 64 l (64 + l) = m 156 (64 + l) := cpM_out (by omega)
    conv => lhs; rw [bh_MO_takesOther_7]
    simp (disch := first | assumption | omega | decide | (simp only [ma_wd0, ma_wdi, ma_wdr, ma_wdl, ma_wdn] <;> omega)) only [↓reduceIte, evK, evL, evS, evA, evJ, Option.bind_some, Option.toList, List.cons_append, List.nil_append, nI_add, pk_mul, bI0, ite_not, ev_rbb, up_n, up_s, up_u, pk_us, pk_un, Nat.reduceAdd, nI_ltT, nI_ltF, nI_leT, nI_leF, nI_eqT, nI_eqF, bk_MO_takesOther, gfC, gfM, ev_r0, ev_r1, eq_self, n_m1e, true_and, and_true, false_and, and_false, and_self, not_true_eq_false, not_false_eq_true, ldM, stM, o3, cpM_s])
  rw [cpM_0, up_id] at this
  exact this
theorem tk_o2 (d K n : Nat) (hn : n ≤ 12) : ev sc d 206 (pm_blk 206 50) [some (.ref 138), some (.int (nI K)), some (.int (nI n)), some (.int (nI 0))] [] (hp c w m) = ev sc d 206 (pm_blk 206 50) [some (.ref 138), some (.int (nI K)), some (.int (nI n)), some (.int (nI (5 * n)))] [] (hp c w (va_up m 157 (cpM (m 157) 60 (5 * n)))) := by
  have := run_loop (fun l h => ev sc d 206 (pm_blk 206 50) [some (.ref 138), some (.int (nI K)), some (.int (nI n)), some (.int (nI l))] [] h) (fun l => hp c w (va_up m 157 (cpM (m 157) 60 l))) (5 * n) (fun l hl => by
    have o3 : cpM (m 157) 60 l (60 + l) = m 157 (60 + l) := cpM_out (by omega)
    conv => lhs; rw [bh_MO_takesOther_50]
    simp (disch := first | assumption | omega | decide | (simp only [ma_wd0, ma_wdi, ma_wdr, ma_wdl, ma_wdn] <;> omega)) only [↓reduceIte, evK, evL, evS, evA, evJ, Option.bind_some, Option.toList, List.cons_append, List.nil_append, nI_add, pk_mul, bI0, ite_not, ev_rbb, up_n, up_s, up_u, pk_us, pk_un, Nat.reduceAdd, nI_ltT, nI_ltF, nI_leT, nI_leF, nI_eqT, nI_eqF, bk_MO_takesOther, gfC, gfM, ev_r0, ev_r1, eq_self, n_m1e, true_and, and_true, false_and, and_false, and_self, not_true_eq_false, not_false_eq_true, ldM, stM, o3, cpM_s])
  rw [cpM_0, up_id] at this
  exact this
theorem t_takesO1 (d n : Nat) (hn : n ≤ 16) : cc sc d 206 [.ref 138, .int (nI 1), .int (nI n)] (hp c w m) = some (none, hp c w (va_up (va_up m 156 (cpM (m 156) 64 (4 * n))) 138 (upd (upd (m 138) 38 (nI n)) 3 (nI 0)))) := by
  have a1 := tk_o1 (sc := sc) (c := c) (w := w) (m := m) d 1 n hn
  simp (disch := first | assumption | omega | decide | (simp only [ma_wd0, ma_wdi, ma_wdr, ma_wdl, ma_wdn] <;> omega)) only [↓reduceIte, evK, evL, evS, evA, evJ, Option.bind_some, Option.toList, List.cons_append, List.nil_append, nI_add, pk_mul, bI0, ite_not, ev_rbb, up_n, up_s, up_u, pk_us, pk_un, Nat.reduceAdd, nI_ltT, nI_ltF, nI_leT, nI_leF, nI_eqT, nI_eqF, en_MO_takesOther, gfC, gfM, ev_r0, ev_r1, eq_self, n_m1e, true_and, and_true, false_and, and_false, and_self, not_true_eq_false, not_false_eq_true]
  rw [a1, bh_MO_takesOther_7]
  simp (disch := first | assumption | omega | decide | (simp only [ma_wd0, ma_wdi, ma_wdr, ma_wdl, ma_wdn] <;> omega)) only [↓reduceIte, evK, evL, evS, evA, evJ, Option.bind_some, Option.toList, List.cons_append, List.nil_append, nI_add, pk_mul, bI0, ite_not, ev_rbb, up_n, up_s, up_u, pk_us, pk_un, Nat.reduceAdd, nI_ltT, nI_ltF, nI_leT, nI_leF, nI_eqT, nI_eqF, bk_MO_takesOther, gfC, gfM, ev_r0, ev_r1, eq_self, n_m1e, true_and, and_true, false_and, and_false, and_self, not_true_eq_false, not_false_eq_true, pfM]
theorem t_takesO2 (d n : Nat) (hn : n ≤ 12) : cc sc d 206 [.ref 138, .int (nI 2), .int (nI n)] (hp c w m) = some (none, hp c w (va_up (va_up m 157 (cpM (m 157) 60 (5 * n))) 138 (upd (m 138) 40 (nI n)))) := by
  have a1 := tk_o2 (sc := sc) (c := c) (w := w) (m := m) d 2 n hn
  simp (disch := first | assumption | omega | decide | (simp only [ma_wd0, ma_wdi, ma_wdr, ma_wdl, ma_wdn] <;> omega)) only [↓reduceIte, evK, evL, evS, evA, evJ, Option.bind_some, Option.toList, List.cons_append, List.nil_append, nI_add, pk_mul, bI0, ite_not, ev_rbb, up_n, up_s, up_u, pk_us, pk_un, Nat.reduceAdd, nI_ltT, nI_ltF, nI_leT, nI_leF, nI_eqT, nI_eqF, en_MO_takesOther, bk_MO_takesOther, gfC, gfM, ev_r0, ev_r1, eq_self, n_m1e, true_and, and_true, false_and, and_false, and_self, not_true_eq_false, not_false_eq_true]
  rw [a1, bh_MO_takesOther_50]
  simp (disch := first | assumption | omega | decide | (simp only [ma_wd0, ma_wdi, ma_wdr, ma_wdl, ma_wdn] <;> omega)) only [↓reduceIte, evK, evL, evS, evA, evJ, Option.bind_some, Option.toList, List.cons_append, List.nil_append, nI_add, pk_mul, bI0, ite_not, ev_rbb, up_n, up_s, up_u, pk_us, pk_un, Nat.reduceAdd, nI_ltT, nI_ltF, nI_leT, nI_leF, nI_eqT, nI_eqF, bk_MO_takesOther, gfC, gfM, ev_r0, ev_r1, eq_self, n_m1e, true_and, and_true, false_and, and_false, and_self, not_true_eq_false, not_false_eq_true, pfM]
end TA
/-! the law that was read, as both keep it -/
theorem lAcc_at {ls : List lL} {i : Nat} {l : lL} (h : ls[i]? = some l) : lAcc ls = lAcc (ls.take i) ++ (l.2.1 ++ (l.2.2 ++ lAcc (ls.drop (i + 1)))) := by
  have h1 : ls = ls.take i ++ (l :: ls.drop (i + 1)) := by
    rw [← List.getElem?_eq_some_iff.mp h |>.2, ← List.drop_eq_getElem_cons (List.getElem?_eq_some_iff.mp h).1, List.take_append_drop]
  conv => lhs; rw [h1]
  unfold lAcc
  rw [List.flatMap_append, List.flatMap_cons]
  unfold lF
  rw [List.append_assoc]
theorem lA_at_sub {f : Nat → Int32} {a x y : List lA} (h : lA_at f 0 (a ++ (x ++ y))) : lA_at f a.length x := fun j q hj => by
  have hl := (List.getElem?_eq_some_iff.mp hj).1
  have := h (a.length + j) q (by rw [List.getElem?_append_right (by omega), show a.length + j - a.length = j by omega, List.getElem?_append_left hl]; exact hj)
  rwa [Nat.zero_add] at this
theorem lc_of {ls : List lL} {c c' : Nat → Nat → Int32} (hn : lnC ls c) (ha : lA_at (c 90) 0 (lAcc ls)) (hok : lsOK (.inl ls)) (h7 : c' 7 0 = c 85 0) (h8 : ∀ j, j < 16 → c' 8 j = c 86 j ∧ c' 9 j = c 87 j ∧ c' 10 j = c 88 j ∧ c' 11 j = c 89 j) (h12 : ∀ j, j < 400 → c' 12 j = c 90 j) : lC c' ls := by
  obtain ⟨k1, k2, k3, k4⟩ := hok
  refine ⟨by rw [h7]; exact hn.1, k2, fun i l hl => ⟨k1 l (List.mem_of_getElem? hl), (lAcc (ls.take i)).length, ?_⟩⟩
  have hi := (List.getElem?_eq_some_iff.mp hl).1
  obtain ⟨e1, e2, e3, e4⟩ := h8 i (by omega)
  obtain ⟨g1, g2, g3, g4⟩ := hn.2 i l hl
  have hsp := lAcc_at hl
  have hlen : (lAcc (ls.take i)).length + l.2.1.length + l.2.2.length ≤ 400 := by
    have := congrArg List.length hsp
    simp only [List.length_append] at this
    omega
  refine ⟨e1.trans g1, e2.trans g2, e3.trans g3, e4.trans g4, hlen, ?_, ?_⟩
  · intro j q hj
    have hjl := (List.getElem?_eq_some_iff.mp hj).1
    rw [h12 _ (by omega)]
    rw [hsp] at ha
    exact lA_at_sub ha j q hj
  · intro j q hj
    have hjl := (List.getElem?_eq_some_iff.mp hj).1
    rw [h12 _ (by omega)]
    rw [hsp, ← List.append_assoc] at ha
    have := lA_at_sub ha j q hj
    rw [List.length_append] at this
    exact this
theorem lm_of {N : Nat} {T : Nat → Nat → Nat} {i0 : Nat} {ls : List lL} {m m' : Nat → Nat → Int32} (hn : lnM ls m) (ha : mA N T i0 (lAcc ls) m) (hok : lsOK (.inl ls)) (h7 : m' 148 0 = nI ls.length) (h8 : ∀ j, j < ls.length → m' 149 j = m 149 (32 + j) ∧ m' 150 j = m 150 (32 + j) ∧ m' 151 j = m 151 (32 + j) ∧ m' 152 j = m 152 (32 + j)) (h12 : ∀ j, j < ((lAcc ls).flatMap lB_x).length → m' 153 j = m 153 (800 + j) ∧ m' 154 j = m 154 (800 + j)) : lM m' ls := by
  obtain ⟨k1, k2, k3, k4⟩ := hok
  have hc := ha.2.2.2.2.2
  refine ⟨h7, k2, fun i l hl => ⟨k1 l (List.mem_of_getElem? hl), ((lAcc (ls.take i)).flatMap lB_x).length, ?_⟩⟩
  have hi := (List.getElem?_eq_some_iff.mp hl).1
  obtain ⟨e1, e2, e3, e4⟩ := h8 i (by omega)
  obtain ⟨g1, g2, g3, g4⟩ := hn i l hl
  have hsp := lAcc_at hl
  have hsp2 : (lAcc ls).flatMap lB_x = (lAcc (ls.take i)).flatMap lB_x ++ (l.2.1.flatMap lB_x ++ (l.2.2.flatMap lB_x ++ (lAcc (ls.drop (i + 1))).flatMap lB_x)) := by
    rw [hsp, List.flatMap_append, List.flatMap_append, List.flatMap_append]
  have hlen := congrArg List.length hsp2
  simp only [List.length_append] at hlen
  refine ⟨e1.trans g1, e2.trans g2, e3.trans g3, e4.trans g4, by omega, ?_, ?_⟩
  · intro j q hj
    have hjl := (List.getElem?_eq_some_iff.mp hj).1
    obtain ⟨f1, f2⟩ := h12 (((lAcc (ls.take i)).flatMap lB_x).length + j) (by omega)
    rw [f1, f2]
    refine hc _ q ?_
    rw [hsp2, List.getElem?_append_right (by omega), show ((lAcc (ls.take i)).flatMap lB_x).length + j - ((lAcc (ls.take i)).flatMap lB_x).length = j by omega, List.getElem?_append_left hjl]
    exact hj
  · intro j q hj
    have hjl := (List.getElem?_eq_some_iff.mp hj).1
    obtain ⟨f1, f2⟩ := h12 (((lAcc (ls.take i)).flatMap lB_x).length + (l.2.1.flatMap lB_x).length + j) (by omega)
    rw [f1, f2]
    refine hc _ q ?_
    rw [hsp2, List.getElem?_append_right (by omega), List.getElem?_append_right (by omega), show ((lAcc (ls.take i)).flatMap lB_x).length + (l.2.1.flatMap lB_x).length + j - ((lAcc (ls.take i)).flatMap lB_x).length - (l.2.1.flatMap lB_x).length = j by omega, List.getElem?_append_left hjl]
    exact hj
