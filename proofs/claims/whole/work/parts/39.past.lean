/-! ===== what is kept for undoing ===== -/
theorem run_loop {ρ : Type} (E : Nat → List ma_C → ρ) (H : Nat → List ma_C) : ∀ (n : Nat), (∀ i, i < n → E i (H i) = E (i + 1) (H (i + 1))) → E 0 (H 0) = E n (H n)
  | 0, _ => rfl
  | n + 1, h => (run_loop E H n (fun i hi => h i (by omega))).trans (h n (by omega))
theorem zC.eq {x S : Nat} {c c' Z : Nat → Nat → Int32} (h : zC x c Z S) (he : ∀ k, x ≤ k → k ≤ x + 4 → c' k = c k) : zC x c' Z S := by
  unfold zC at *
  rw [he x (by omega) (by omega), he (x + 1) (by omega) (by omega), he (x + 2) (by omega) (by omega), he (x + 3) (by omega) (by omega), he (x + 4) (by omega) (by omega)]
  exact h
theorem zC.lE {x y S : Nat} {c c' Z : Nat → Nat → Int32} (h : zC y c Z S) (he : lE c' x c y) (hS : S ≤ 8) : zC x c' Z S := by
  obtain ⟨⟨h1, h2, h3, h4, h5⟩, h6, h7, h8, h9⟩ := h
  obtain ⟨e1, e2, e3, e4, e5⟩ := he
  refine ⟨⟨?_, ?_, ?_, ?_, ?_⟩, fun j hj => ?_, fun j hj => ?_, fun j hj => ?_, fun j hj => ?_⟩
  · rw [e1 6 (by omega) (by omega)]; exact h1
  · rw [e1 7 (by omega) (by omega)]; exact h2
  · rw [e1 8 (by omega) (by omega)]; exact h3
  · rw [e1 4 (by omega) (by omega)]; exact h4
  · rw [e1 5 (by omega) (by omega)]; exact h5
  · rw [e2 j hj]; exact h6 j hj
  · rw [e3 j hj]; exact h7 j hj
  · rw [e4 j (by omega)]; exact h8 j hj
  · rw [e5 j (by omega)]; exact h9 j hj
theorem zM.eq {S : Nat} {m m' Z : Nat → Nat → Int32} (h : zM m Z S) (hS : S ≤ 8) (he : ∀ k, k < 49 → m' 139 k = m 139 k) : zM m' Z S := by
  obtain ⟨⟨h1, h2, h3, h4, h5⟩, h6, h7, h8, h9⟩ := h
  refine ⟨⟨?_, ?_, ?_, ?_, ?_⟩, fun j hj => ?_, fun j hj => ?_, fun j hj => ?_, fun j hj => ?_⟩
  · rw [he 0 (by omega)]; exact h1
  · rw [he 1 (by omega)]; exact h2
  · rw [he 2 (by omega)]; exact h3
  · rw [he 3 (by omega)]; exact h4
  · rw [he 4 (by omega)]; exact h5
  · rw [he _ (by omega)]; exact h6 j hj
  · rw [he _ (by omega)]; exact h7 j hj
  · rw [he _ (by omega)]; exact h8 j hj
  · rw [he _ (by omega)]; exact h9 j hj
def pR (W S : Nat) (c m : Nat → Nat → Int32) : Prop := ∃ n : Nat, n ≤ 6 ∧ c 47 1 = nI n ∧ m 138 3 = nI n ∧ ∃ p : Nat → Nat, (∀ i, i < 6 → p i < 6 ∧ c 48 i = nI (p i)) ∧ (∀ i j, i < 6 → j < 6 → p i = p j → i = j) ∧ ∀ i, i < n → ∃ Z, zC (49 + 5 * p i) c Z S ∧ zM (fun _ j => m 140 (49 * i + j)) Z S ∧ zI W S Z
theorem kept_mem {p : Nat} (h : p < 6) : (49 + 5 * p, 17) ∈ lX ∧ (17, 49 + 5 * p) ∈ lX := by
  rcases (show p = 0 ∨ p = 1 ∨ p = 2 ∨ p = 3 ∨ p = 4 ∨ p = 5 by omega) with rfl | rfl | rfl | rfl | rfl | rfl <;> simp [lX]
section L3
variable {sc : Nat × (Nat → Int32)} {W S Q : Nat} {c m Z : Nat → Nat → Int32} {w : Nat → Int64}
theorem ce_copyK (d mm : Nat) (is : List ma_I) (L : ma_L) (S : List Value) (x : Nat) (c m : Nat → Nat → Int32) (w : Nat → Int64) (a1 p : Nat) (hp6 : p < 6) (h8 : ma_wd S ≤ 8) : ev sc (d + 1) mm ((.invokevirtual x, [0, 65, 2, 4]) :: is) L (.ref a1 :: .ref (49 + 5 * p) :: S) (hp c w m) = (cc sc d 65 [.ref (49 + 5 * p), .ref a1] (hp c w m)).bind (fun q => ev sc (d + 1) mm is L (q.1.toList ++ S) q.2) := by
  rcases (show p = 0 ∨ p = 1 ∨ p = 2 ∨ p = 3 ∨ p = 4 ∨ p = 5 by omega) with rfl | rfl | rfl | rfl | rfl | rfl <;> simp (disch := first | assumption | omega | decide | (simp only [ma_wd0, ma_wdi, ma_wdr, ma_wdl, ma_wdn] <;> omega)) only [ce_Line_copy, Nat.reduceMul, Nat.reduceAdd]
/-- the reference: the row of now, put away behind the others -/
def kM (m : Nat → Nat → Int32) (n : Nat) : Nat → Nat → Int32 := va_up (va_up m 140 (fun j => if 49 * n ≤ j ∧ j < 49 * n + 49 then m 139 (j - 49 * n) else m 140 j)) 138 (upd (m 138) 3 (nI (n + 1)))
theorem t_keeps2 (d n : Nat) (x : Option Value) (hn : n < 6) (h3 : m 138 3 = nI n) : ev sc d 209 (pm_blk 209 53) [some (.ref 138), x] [] (hp c w m) = some (none, hp c w (kM m n)) := by
  have hl := run_loop (fun i h => ev sc d 209 (pm_blk 209 55) [some (.ref 138), some (.int (nI i))] [] h) (fun i => hp c w (va_up m 140 (fun j => if 49 * n ≤ j ∧ j < 49 * n + i then m 139 (j - 49 * n) else m 140 j))) 49 (by
    intro i hi
    conv => lhs; rw [bh_MO_keepsAhead_55]
    simp (disch := first | assumption | omega | decide | (simp only [ma_wd0, ma_wdi, ma_wdr, ma_wdl, ma_wdn] <;> omega)) only [↓reduceIte, evK, evL, evS, evA, evJ, Option.bind_some, Option.toList, List.cons_append, List.nil_append, nI_add, pk_mul, bI0, ite_not, ev_rbb, up_n, up_s, up_u, pk_us, pk_un, Nat.reduceAdd, nI_ltT, nI_ltF, nI_leT, nI_leF, nI_eqT, nI_eqF, gfM, ldM, stM, h3]
    congr 3
    funext j
    simp only [upd]
    repeat' split
    all_goals first | rfl | (exfalso; omega) | (congr 1; omega))
  have h0 : va_up m 140 (fun j => if 49 * n ≤ j ∧ j < 49 * n + 0 then m 139 (j - 49 * n) else m 140 j) = m := by
    rw [show (fun j => if 49 * n ≤ j ∧ j < 49 * n + 0 then m 139 (j - 49 * n) else m 140 j) = m 140 from by funext j; rw [if_neg (by omega)], up_self]
  rw [h0] at hl
  simp (disch := first | assumption | omega | decide | (simp only [ma_wd0, ma_wdi, ma_wdr, ma_wdl, ma_wdn] <;> omega)) only [↓reduceIte, evK, evL, evS, evA, evJ, Option.bind_some, Option.toList, List.cons_append, List.nil_append, nI_add, pk_mul, bI0, ite_not, ev_rbb, up_n, up_s, up_u, pk_us, pk_un, Nat.reduceAdd, nI_ltT, nI_ltF, nI_leT, nI_leF, nI_eqT, nI_eqF, bk_MO_keepsAhead, hl]
  rw [bh_MO_keepsAhead_55]
  simp (disch := first | assumption | omega | decide | (simp only [ma_wd0, ma_wdi, ma_wdr, ma_wdl, ma_wdn] <;> omega)) only [↓reduceIte, evK, evL, evS, evA, evJ, Option.bind_some, Option.toList, List.cons_append, List.nil_append, nI_add, pk_mul, bI0, ite_not, ev_rbb, up_n, up_s, up_u, pk_us, pk_un, Nat.reduceAdd, nI_ltT, nI_ltF, nI_leT, nI_leF, nI_eqT, nI_eqF, bk_MO_keepsAhead, gfM, pfM, h3]
  rfl
def shM (m : Nat → Nat → Int32) : Nat → Nat → Int32 := va_up (va_up m 138 (upd (m 138) 3 (nI 5))) 140 (fun j => if j < 245 then m 140 (j + 49) else m 140 j)
theorem t_MO_keepsAhead (d n : Nat) (hn : n ≤ 6) (h3 : m 138 3 = nI n) : cc sc d 209 [.ref 138] (hp c w m) = some (none, hp c w (if n = 6 then kM (shM m) 5 else kM m n)) := by
  by_cases h6 : n = 6
  · subst h6
    rw [if_pos rfl]
    have hl := run_loop (fun i h => ev sc d 209 (pm_blk 209 21) [some (.ref 138), some (.int (nI i))] [] h) (fun i => hp c w (va_up (va_up m 138 (upd (m 138) 3 (nI 5))) 140 (fun j => if j < i then m 140 (j + 49) else m 140 j))) 245 (by
      intro i hi
      conv => lhs; rw [bh_MO_keepsAhead_21]
      simp (disch := first | assumption | omega | decide | (simp only [ma_wd0, ma_wdi, ma_wdr, ma_wdl, ma_wdn] <;> omega)) only [↓reduceIte, evK, evL, evS, evA, evJ, Option.bind_some, Option.toList, List.cons_append, List.nil_append, nI_add, pk_mul, bI0, ite_not, ev_rbb, up_n, up_s, up_u, pk_us, pk_un, Nat.reduceAdd, nI_ltT, nI_ltF, nI_leT, nI_leF, nI_eqT, nI_eqF, gfM, ldM, stM, Nat.reduceMul]
      congr 3
      funext j
      simp only [upd]
      repeat' split
      all_goals first | rfl | (exfalso; omega) | (congr 1; omega))
    have h0 : va_up (va_up m 138 (upd (m 138) 3 (nI 5))) 140 (fun j => if j < 0 then m 140 (j + 49) else m 140 j) = va_up m 138 (upd (m 138) 3 (nI 5)) := by
      rw [show (fun j => if j < 0 then m 140 (j + 49) else m 140 j) = m 140 from by funext j; rw [if_neg (by omega)]]
      exact up_self (va_up m 138 (upd (m 138) 3 (nI 5))) 140
    rw [h0] at hl
    have h2 := fun x => t_keeps2 (sc := sc) (c := c) (w := w) (m := shM m) d 5 x (by omega) (by simp only [shM]; rw [up_n _ _ _ _ (by omega), up_s, pk_us])
    simp (disch := first | assumption | omega | decide | (simp only [ma_wd0, ma_wdi, ma_wdr, ma_wdl, ma_wdn] <;> omega)) only [↓reduceIte, evK, evL, evS, evA, evJ, Option.bind_some, Option.toList, List.cons_append, List.nil_append, nI_add, pk_mul, bI0, ite_not, ev_rbb, up_n, up_s, up_u, pk_us, pk_un, Nat.reduceAdd, nI_ltT, nI_ltF, nI_leT, nI_leF, nI_eqT, nI_eqF, en_MO_keepsAhead, gfM, pfM, h3, pk_sub, Nat.reduceSub, hl]
    rw [bh_MO_keepsAhead_21]
    simp (disch := first | assumption | omega | decide | (simp only [ma_wd0, ma_wdi, ma_wdr, ma_wdl, ma_wdn] <;> omega)) only [↓reduceIte, evK, evL, evS, evA, evJ, Option.bind_some, Option.toList, List.cons_append, List.nil_append, nI_add, pk_mul, bI0, ite_not, ev_rbb, up_n, up_s, up_u, pk_us, pk_un, Nat.reduceAdd, nI_ltT, nI_ltF, nI_leT, nI_leF, nI_eqT, nI_eqF, gfM, Nat.reduceMul]
    exact h2 _
  · rw [if_neg h6]
    have h2 := fun x => t_keeps2 (sc := sc) (c := c) (w := w) (m := m) d n x (by omega) h3
    simp (disch := first | assumption | omega | decide | (simp only [ma_wd0, ma_wdi, ma_wdr, ma_wdl, ma_wdn] <;> omega)) only [↓reduceIte, evK, evL, evS, evA, evJ, Option.bind_some, Option.toList, List.cons_append, List.nil_append, nI_add, pk_mul, bI0, ite_not, ev_rbb, up_n, up_s, up_u, pk_us, pk_un, Nat.reduceAdd, nI_ltT, nI_ltF, nI_leT, nI_leF, nI_eqT, nI_eqF, en_MO_keepsAhead, gfM, h3, h2]
end L3
