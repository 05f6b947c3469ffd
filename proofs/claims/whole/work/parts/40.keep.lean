/-! ===== keep, undo, forget ===== -/
def KX : List Nat := [47, 48, 49, 50, 51, 52, 53, 54, 55, 56, 57, 58, 59, 60, 61, 62, 63, 64, 65, 66, 67, 68, 69, 70, 71, 72, 73, 74, 75, 76, 77, 78]
theorem KX_of {k : Nat} (h1 : 47 ≤ k) (h2 : k ≤ 78) : k ∈ KX := by
  unfold KX
  simp only [List.mem_cons, List.not_mem_nil, or_false]
  omega
theorem KX_not {k : Nat} (h : k < 47 ∨ 78 < k) : k ∉ KX := by
  unfold KX
  simp only [List.mem_cons, List.not_mem_nil, or_false]
  omega
theorem upd_uu (f : Nat → Int32) (k : Nat) (x y : Int32) : upd (upd f k x) k y = upd f k y := by
  funext j
  simp only [upd]
  split <;> rfl
section L4
variable {sc : Nat × (Nat → Int32)} {W S Q : Nat} {c m Z : Nat → Nat → Int32} {w : Nat → Int64}
def rot (f : Nat → Int32) : Nat → Int32 := fun i => if i < 5 then f (i + 1) else if i = 5 then f 0 else f i
theorem t_Past_drop (d : Nat) (p : Nat → Nat) (hpp : ∀ i, i < 6 → p i < 6 ∧ c 48 i = nI (p i)) : cc sc d 70 [.ref 47] (hp c w m) = some (none, hp (va_up (va_up c 48 (rot (c 48))) 47 (upd (c 47) 1 (nI 5))) w m) := by
  obtain ⟨p0, q0⟩ := hpp 0 (by omega)
  obtain ⟨p1, q1⟩ := hpp 1 (by omega)
  obtain ⟨p2, q2⟩ := hpp 2 (by omega)
  obtain ⟨p3, q3⟩ := hpp 3 (by omega)
  obtain ⟨p4, q4⟩ := hpp 4 (by omega)
  obtain ⟨p5, q5⟩ := hpp 5 (by omega)
  have hr : rot (c 48) = upd (upd (upd (upd (upd (upd (c 48) 0 (nI (p 1))) 1 (nI (p 2))) 2 (nI (p 3))) 3 (nI (p 4))) 4 (nI (p 5))) 5 (nI (p 0)) := by
    funext j
    simp only [rot, upd]
    repeat' split
    all_goals first | omega | (subst_vars; assumption) | rfl | skip
  rw [hr]
  simp (disch := first | assumption | omega | decide | (simp only [ma_wd0, ma_wdi, ma_wdr, ma_wdl, ma_wdn] <;> omega)) only [↓reduceIte, evK, evL, evS, evA, evJ, Option.bind_some, Option.toList, List.cons_append, List.nil_append, nI_add, pk_mul, bI0, ite_not, ev_rbb, up_n, up_s, up_u, pk_us, pk_un, Nat.reduceAdd, nI_ltT, nI_ltF, nI_leT, nI_leF, nI_eqT, nI_eqF, en_Past_dropOldest, bh_Past_dropOldest_9, bk_Past_dropOldest, gfC, pfC, ev_ak, ev_as48, q0, q1, q2, q3, q4, q5, nI_clamp, pk_sub, Nat.reduceSub]
theorem t_Past_keep0 (d n p : Nat) (x : Option Value) (hn : n < 6) (h1 : c 47 1 = nI n) (hp6 : p < 6) (hpp : c 48 n = nI p) : ev sc (d + 10) 69 (pm_blk 69 13) [some (.ref 47), some (.ref 17), x] [] (hp c w m) = some (none, hp (va_up (lV c (49 + 5 * p) 17) 47 (upd (c 47) 1 (nI (n + 1)))) w m) := by
  have hL := fun m => t_Line_copy (sc := sc) (c := c) (m := m) (w := w) d (49 + 5 * p) 17 (kept_mem hp6).1
  have h47 : lV c (49 + 5 * p) 17 47 = c 47 := lV_fr c (49 + 5 * p) 17 47 (by simp only [List.mem_cons, List.not_mem_nil, or_false]; omega)
  simp (disch := first | assumption | omega | decide | (simp only [ma_wd0, ma_wdi, ma_wdr, ma_wdl, ma_wdn] <;> omega)) only [↓reduceIte, evK, evL, evS, evA, evJ, Option.bind_some, Option.toList, List.cons_append, List.nil_append, nI_add, pk_mul, bI0, ite_not, ev_rbb, up_n, up_s, up_u, pk_us, pk_un, Nat.reduceAdd, nI_ltT, nI_ltF, nI_leT, nI_leF, nI_eqT, nI_eqF, bk_Past_keep, gfC, pfC, h1, ev_ak, hpp, nI_clamp, ce_copyK, hL, h47]
/-- the class: put behind the others; six are kept, the oldest goes -/
theorem t_Past_keep (d n : Nat) (p : Nat → Nat) (hn : n ≤ 6) (h1 : c 47 1 = nI n) (hpp : ∀ i, i < 6 → p i < 6 ∧ c 48 i = nI (p i)) : cc sc (d + 10) 69 [.ref 47, .ref 17] (hp c w m) = some (none, hp (if n = 6 then va_up (lV (va_up (va_up c 48 (rot (c 48))) 47 (upd (c 47) 1 (nI 5))) (49 + 5 * p 0) 17) 47 (upd (c 47) 1 (nI 6)) else va_up (lV c (49 + 5 * p n) 17) 47 (upd (c 47) 1 (nI (n + 1)))) w m) := by
  by_cases h6 : n = 6
  · subst h6
    rw [if_pos rfl]
    have hD := fun m => t_Past_drop (sc := sc) (m := m) (w := w) (d + 9) p hpp
    have hK := fun m x => t_Past_keep0 (sc := sc) (c := va_up (va_up c 48 (rot (c 48))) 47 (upd (c 47) 1 (nI 5))) (m := m) (w := w) d 5 (p 0) x (by omega) (by rw [up_s, pk_us]) (hpp 0 (by omega)).1 (by rw [up_n _ _ _ _ (by omega), up_s]; exact (hpp 0 (by omega)).2)
    simp (disch := first | assumption | omega | decide | (simp only [ma_wd0, ma_wdi, ma_wdr, ma_wdl, ma_wdn] <;> omega)) only [up_n, up_s, up_u, pk_us, pk_un, Nat.reduceAdd] at hK
    simp (disch := first | assumption | omega | decide | (simp only [ma_wd0, ma_wdi, ma_wdr, ma_wdl, ma_wdn] <;> omega)) only [↓reduceIte, evK, evL, evS, evA, evJ, Option.bind_some, Option.toList, List.cons_append, List.nil_append, nI_add, pk_mul, bI0, ite_not, ev_rbb, up_n, up_s, up_u, pk_us, pk_un, Nat.reduceAdd, nI_ltT, nI_ltF, nI_leT, nI_leF, nI_eqT, nI_eqF, en_Past_keep, gfC, h1, ce_Past_dropOldest, hD, hK, upd_uu]
  · rw [if_neg h6]
    have hK := fun m x => t_Past_keep0 (sc := sc) (c := c) (m := m) (w := w) d n (p n) x (by omega) h1 (hpp n (by omega)).1 (hpp n (by omega)).2
    simp (disch := first | assumption | omega | decide | (simp only [ma_wd0, ma_wdi, ma_wdr, ma_wdl, ma_wdn] <;> omega)) only [↓reduceIte, evK, evL, evS, evA, evJ, Option.bind_some, Option.toList, List.cons_append, List.nil_append, nI_add, pk_mul, bI0, ite_not, ev_rbb, up_n, up_s, up_u, pk_us, pk_un, Nat.reduceAdd, nI_ltT, nI_ltF, nI_leT, nI_leF, nI_eqT, nI_eqF, en_Past_keep, gfC, h1, hK]
theorem keep_math {c m : Nat → Nat → Int32} {n : Nat} {p : Nat → Nat} (hn : n < 6) (hJ : jR 17 W S c m Z) (hS : S ≤ 8) (hpp : ∀ i, i < 6 → p i < 6 ∧ c 48 i = nI (p i)) (hi : ∀ i j, i < 6 → j < 6 → p i = p j → i = j) (hz : ∀ i, i < n → ∃ Z, zC (49 + 5 * p i) c Z S ∧ zM (fun _ j => m 140 (49 * i + j)) Z S ∧ zI W S Z) : pR W S (va_up (lV c (49 + 5 * p n) 17) 47 (upd (c 47) 1 (nI (n + 1)))) (kM m n) := by
  have hL := lV_fr c (49 + 5 * p n) 17
  have hpn := hpp n (by omega)
  refine ⟨n + 1, by omega, by rw [up_s, pk_us], by unfold kM; rw [up_s, pk_us], p, fun i h6 => ⟨(hpp i h6).1, ?_⟩, hi, fun i h => ?_⟩
  · rw [up_n _ _ _ _ (by omega), hL 48 (by simp only [List.mem_cons, List.not_mem_nil, or_false]; omega)]
    exact (hpp i h6).2
  · by_cases e : i = n
    · subst e
      refine ⟨Z, ?_, ?_, hJ.2.2.1⟩
      · exact (hJ.1.lE (lV_E c (49 + 5 * p i) 17) hS).eq (fun k h1 h2 => up_n _ _ _ _ (by omega))
      · refine hJ.2.1.eq hS (fun k hk => ?_)
        simp only [kM]
        rw [up_n _ _ _ _ (by omega), up_s, if_pos (by omega)]
        congr 1
        omega
    · obtain ⟨Z1, z1, z2, z3⟩ := hz i (by omega)
      refine ⟨Z1, ?_, ?_, z3⟩
      · have hne : p i ≠ p n := fun z => e (hi i n (by omega) (by omega) z)
        exact z1.eq (fun k h1 h2 => by rw [up_n _ _ _ _ (by omega), hL k (by simp only [List.mem_cons, List.not_mem_nil, or_false]; omega)])
      · refine z2.eq hS (fun k hk => ?_)
        simp only [kM]
        rw [up_n _ _ _ _ (by omega), up_s, if_neg (by omega)]
theorem j_keep (d : Nat) (hP : pR W S c m) (hJ : jR 17 W S c m Z) (hS : S ≤ 8) : ∃ c' m', (∀ m0, cc sc (d + 10) 69 [.ref 47, .ref 17] (hp c w m0) = some (none, hp c' w m0)) ∧ (∀ c0, cc sc (d + 10) 209 [.ref 138] (hp c0 w m) = some (none, hp c0 w m')) ∧ pR W S c' m' ∧ fr KX c c' ∧ fr [138, 140] m m' ∧ ∀ k, k ≠ 3 → m' 138 k = m 138 k := by
  obtain ⟨n, hn, h1, h3, p, hpp, hi, hz⟩ := hP
  have r1 := fun m => t_Past_keep (sc := sc) (c := c) (m := m) (w := w) d n p hn h1 hpp
  have r2 := fun c => t_MO_keepsAhead (sc := sc) (c := c) (m := m) (w := w) (d + 10) n hn h3
  have fL : ∀ (c : Nat → Nat → Int32) (q : Nat), q < 6 → fr KX c (lV c (49 + 5 * q) 17) := fun c q hq => (lV_fr c (49 + 5 * q) 17).mono (fun k hk => by
    simp only [List.mem_cons, List.not_mem_nil, or_false] at hk
    exact KX_of (by omega) (by omega))
  by_cases h6 : n = 6
  · subst h6
    simp only [if_pos] at r1 r2
    refine ⟨_, _, r1, r2, ?_, ?_, ?_, ?_⟩
    · have hJ2 : jR 17 W S (va_up (va_up c 48 (rot (c 48))) 47 (upd (c 47) 1 (nI 5))) (shM m) Z := by
        obtain ⟨a1, a2, a3, a4, a5⟩ := hJ
        exact ⟨a1.eq (fun k h1 h2 => by rw [up_n _ _ _ _ (by omega), up_n _ _ _ _ (by omega)]), a2, a3, a4, a5⟩
      have := keep_math (c := va_up (va_up c 48 (rot (c 48))) 47 (upd (c 47) 1 (nI 5))) (m := shM m) (n := 5) (p := fun i => if i < 5 then p (i + 1) else p 0) (by omega) hJ2 hS (fun i h => by
        rw [up_n _ _ _ _ (by omega), up_s]
        unfold rot
        by_cases e : i < 5
        · rw [if_pos e, if_pos e]; exact hpp _ (by omega)
        · rw [if_neg e, if_neg e, if_pos (by omega)]; exact hpp _ (by omega)) (fun i j h1 h2 e => by
        split at e <;> split at e
        · have := hi _ _ (by omega) (by omega) e; omega
        · have := hi _ _ (by omega) (by omega) e; omega
        · have := hi _ _ (by omega) (by omega) e; omega
        · omega) (fun i h => by
        obtain ⟨Z1, z1, z2, z3⟩ := hz (i + 1) (by omega)
        refine ⟨Z1, ?_, ?_, z3⟩
        · simp only [if_pos h]
          exact z1.eq (fun k h1 h2 => by rw [up_n _ _ _ _ (by omega), up_n _ _ _ _ (by omega)])
        · refine z2.eq hS (fun k hk => ?_)
          simp only [shM, up_s]
          rw [if_pos (by omega)]
          congr 1
          omega)
      have h5 : (if 5 < 5 then p (5 + 1) else p 0) = p 0 := if_neg (by omega)
      simp only [up_s, h5, upd_uu, Nat.reduceAdd] at this
      exact this
    · exact (((fr.rf.up (KX_of (by omega) (by omega)) _).up (KX_of (by omega) (by omega)) _).tr (fL _ _ (hpp 0 (by omega)).1)).up (KX_of (by omega) (by omega)) _
    · exact (((fr.rf.up (by simp) _).up (by simp) _).up (by simp) _).up (by simp) _
    · intro k hk
      simp only [kM, shM]
      rw [up_s, pk_un hk, up_n _ _ _ _ (by omega), up_s, pk_un hk]
  · simp only [if_neg h6] at r1 r2
    refine ⟨_, _, r1, r2, keep_math (by omega) hJ hS hpp hi hz, (fL _ _ (hpp n (by omega)).1).up (KX_of (by omega) (by omega)) _, (fr.rf.up (by simp) _).up (by simp) _, fun k hk => ?_⟩
    simp only [kM]
    rw [up_s, pk_un hk]
/-- the way back -/
theorem j_undo (d d2 : Nat) (hP : pR W S c m) (hS : S ≤ 8) (hb : ∀ j, j < 600 → c 23 j = m 145 j) (ht : m 138 5 = nI 0) : ∃ c' m' v, (v = nI 0 ∨ v = nI 1) ∧ (∀ m0, cc sc (d + 10) 71 [.ref 47, .ref 17] (hp c w m0) = some (some (.int v), hp c' w m0)) ∧ (∀ c0, cc sc d2 161 [.ref 138] (hp c0 w m) = some (some (.int v), hp c0 w m')) ∧ ((c' = c ∧ m' = va_up m 138 (upd (m 138) 0 (nI 0))) ∨ (∃ Z, jR 17 W S c' m' Z ∧ pR W S c' m' ∧ fr [17, 18, 19, 20, 21, 47] c c' ∧ fr [138, 139] m m' ∧ ∀ k, k ≠ 3 → k ≠ 0 → m' 138 k = m 138 k)) := by
  obtain ⟨n, hn, h1, h3, p, hpp, hi, hz⟩ := hP
  by_cases h0 : n = 0
  · subst h0
    refine ⟨c, _, nI 0, Or.inl rfl, fun m0 => ?_, fun c0 => ?_, Or.inl ⟨rfl, rfl⟩⟩
    · simp (disch := first | assumption | omega | decide | (simp only [ma_wd0, ma_wdi, ma_wdr, ma_wdl, ma_wdn] <;> omega)) only [↓reduceIte, evK, evL, evS, evA, evJ, Option.bind_some, Option.toList, List.cons_append, List.nil_append, nI_add, pk_mul, bI0, ite_not, ev_rbb, up_n, up_s, up_u, pk_us, pk_un, Nat.reduceAdd, nI_ltT, nI_ltF, nI_leT, nI_leF, nI_eqT, nI_eqF, en_Past_goBack, bk_Past_goBack, gfC, h1]
    · simp (disch := first | assumption | omega | decide | (simp only [ma_wd0, ma_wdi, ma_wdr, ma_wdl, ma_wdn] <;> omega)) only [↓reduceIte, evK, evL, evS, evA, evJ, Option.bind_some, Option.toList, List.cons_append, List.nil_append, nI_add, pk_mul, bI0, ite_not, ev_rbb, up_n, up_s, up_u, pk_us, pk_un, Nat.reduceAdd, nI_ltT, nI_ltF, nI_leT, nI_leF, nI_eqT, nI_eqF, en_MO_undo, bk_MO_undo, gfM, pfM, h3]
  · obtain ⟨i, rfl⟩ : ∃ i, n = i + 1 := ⟨n - 1, by omega⟩
    have hL := fun m => t_Line_copy (sc := sc) (c := c) (m := m) (w := w) d 17 (49 + 5 * p i) (kept_mem (hpp i (by omega)).1).2
    have h47 : lV c 17 (49 + 5 * p i) 47 = c 47 := lV_fr c 17 (49 + 5 * p i) 47 (by simp)
    have hpi := (hpp i (by omega)).2
    have hpi6 := (hpp i (by omega)).1
    have hl := fun c => run_loop (fun k h => ev sc d2 161 (pm_blk 161 26) [some (.ref 138), some (.int (nI k))] [] h) (fun k => hp c w (va_up (va_up m 138 (upd (upd (m 138) 0 (nI 0)) 3 (nI i))) 139 (fun j => if j < k then m 140 (49 * i + j) else m 139 j))) 49 (by
      intro k hk
      conv => lhs; rw [bh_MO_undo_26]
      simp (disch := first | assumption | omega | decide | (simp only [ma_wd0, ma_wdi, ma_wdr, ma_wdl, ma_wdn] <;> omega)) only [↓reduceIte, evK, evL, evS, evA, evJ, Option.bind_some, Option.toList, List.cons_append, List.nil_append, nI_add, pk_mul, bI0, ite_not, ev_rbb, up_n, up_s, up_u, pk_us, pk_un, Nat.reduceAdd, nI_ltT, nI_ltF, nI_leT, nI_leF, nI_eqT, nI_eqF, gfM, ldM, stM]
      congr 3
      funext j
      simp only [upd]
      repeat' split
      all_goals first | rfl | (exfalso; omega) | (congr 1; omega))
    have hz0 : va_up (va_up m 138 (upd (upd (m 138) 0 (nI 0)) 3 (nI i))) 139 (fun j => if j < 0 then m 140 (49 * i + j) else m 139 j) = va_up m 138 (upd (upd (m 138) 0 (nI 0)) 3 (nI i)) := by
      rw [show (fun j => if j < 0 then m 140 (49 * i + j) else m 139 j) = m 139 from by funext j; rw [if_neg (by omega)]]
      exact up_self (va_up m 138 (upd (upd (m 138) 0 (nI 0)) 3 (nI i))) 139
    rw [hz0] at hl
    obtain ⟨Z, z1, z2, z3⟩ := hz i (by omega)
    refine ⟨va_up (lV c 17 (49 + 5 * p i)) 47 (upd (c 47) 1 (nI i)), va_up (va_up m 138 (upd (upd (m 138) 0 (nI 0)) 3 (nI i))) 139 (fun j => if j < 49 then m 140 (49 * i + j) else m 139 j), nI 1, Or.inr rfl, fun m0 => ?_, fun c0 => ?_, Or.inr ⟨Z, ⟨?_, ?_, z3, ?_, ?_⟩, ⟨i, by omega, ?_, ?_, p, ?_, hi, ?_⟩, ?_, ?_, ?_⟩⟩
    · simp (disch := first | assumption | omega | decide | (simp only [ma_wd0, ma_wdi, ma_wdr, ma_wdl, ma_wdn] <;> omega)) only [↓reduceIte, evK, evL, evS, evA, evJ, Option.bind_some, Option.toList, List.cons_append, List.nil_append, nI_add, pk_mul, bI0, ite_not, ev_rbb, up_n, up_s, up_u, pk_us, pk_un, Nat.reduceAdd, nI_ltT, nI_ltF, nI_leT, nI_leF, nI_eqT, nI_eqF, en_Past_goBack, bk_Past_goBack, gfC, pfC, h1, pk_sub, Nat.add_sub_cancel, ev_ak, hpi, nI_clamp, hL, ce_Line_copy, h47]
    · simp (disch := first | assumption | omega | decide | (simp only [ma_wd0, ma_wdi, ma_wdr, ma_wdl, ma_wdn] <;> omega)) only [↓reduceIte, evK, evL, evS, evA, evJ, Option.bind_some, Option.toList, List.cons_append, List.nil_append, nI_add, pk_mul, bI0, ite_not, ev_rbb, up_n, up_s, up_u, pk_us, pk_un, Nat.reduceAdd, nI_ltT, nI_ltF, nI_leT, nI_leF, nI_eqT, nI_eqF, en_MO_undo, bk_MO_undo, gfM, pfM, h3, pk_sub, Nat.add_sub_cancel, hl]
      rw [bh_MO_undo_26]
      simp (disch := first | assumption | omega | decide | (simp only [ma_wd0, ma_wdi, ma_wdr, ma_wdl, ma_wdn] <;> omega)) only [↓reduceIte, evK, evL, evS, evA, evJ, Option.bind_some, Option.toList, List.cons_append, List.nil_append, nI_add, pk_mul, bI0, ite_not, ev_rbb, up_n, up_s, up_u, pk_us, pk_un, Nat.reduceAdd, nI_ltT, nI_ltF, nI_leT, nI_leF, nI_eqT, nI_eqF, bk_MO_undo]
    · exact (z1.lE (lV_E c 17 (49 + 5 * p i)) hS).eq (fun k h1 h2 => up_n _ _ _ _ (by omega))
    · exact z2.eq hS (fun k hk => by rw [up_s, if_pos hk])
    · intro j hj
      rw [up_n _ _ _ _ (by omega), lV_fr c 17 (49 + 5 * p i) 23 (by simp), up_n _ _ _ _ (by omega), up_n _ _ _ _ (by omega)]
      exact hb j hj
    · refine Or.inl ⟨rfl, ?_⟩
      rw [up_n _ _ _ _ (by omega), up_s, pk_un (by omega), pk_un (by omega)]
      exact ht
    · rw [up_s, pk_us]
    · rw [up_n _ _ _ _ (by omega), up_s, pk_us]
    · intro j hj
      rw [up_n _ _ _ _ (by omega), lV_fr c 17 (49 + 5 * p i) 48 (by simp)]
      exact hpp j hj
    · intro j hj
      obtain ⟨Z1, y1, y2, y3⟩ := hz j (by omega)
      refine ⟨Z1, y1.eq (fun k h1 h2 => ?_), y2.eq hS (fun k hk => ?_), y3⟩
      · rw [up_n _ _ _ _ (by omega), lV_fr c 17 (49 + 5 * p i) k (by simp only [List.mem_cons, List.not_mem_nil, or_false]; omega)]
      · rw [up_n _ _ _ _ (by omega), up_n _ _ _ _ (by omega)]
    · exact ((lV_fr c 17 (49 + 5 * p i)).mono (fun k hk => by simp only [List.mem_cons, List.not_mem_nil, or_false] at hk ⊢; omega)).up (by simp) _
    · exact (fr.rf.up (by simp) _).up (by simp) _
    · intro k h3 h0
      rw [up_n _ _ _ _ (by omega), up_s, pk_un h3, pk_un h0]
end L4
