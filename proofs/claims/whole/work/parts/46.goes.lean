/-! ===== goes: hours in thought ===== -/
section P5
variable {sc : Nat × (Nat → Int32)} {W S Q : Nat} {ls : List lL} {c m Z : Nat → Nat → Int32} {w : Nat → Int64}
def cpN (f g : Nat → Int32) (n : Nat) : Nat → Int32 := fun j => if j < n then f j else g j
theorem cpN_0 (f g : Nat → Int32) : cpN f g 0 = g := by funext j; simp [cpN]
theorem cpN_s (f g : Nat → Int32) (i : Nat) : upd (cpN f g i) i (f i) = cpN f g (i + 1) := by
  funext j
  simp only [upd, cpN]
  repeat' split
  all_goals first | rfl | (exfalso; omega) | (subst_vars; rfl)
theorem t_MO_thinks (d : Nat) : cc sc d 253 [.ref 138] (hp c w m) = some (none, hp c w (va_up (va_up m 141 (cpN (m 139) (m 141) 49)) 138 (upd (upd (upd (m 138) 5 (nI 1)) 44 (-1)) 45 (-1)))) := by
  have hl := run_loop (fun i h => ev sc d 253 (pm_blk 253 2) [some (.ref 138), some (.int (nI i))] [] h) (fun i => hp c w (va_up m 141 (cpN (m 139) (m 141) i))) 49 (by
    intro i hi
    conv => lhs; rw [bh_MO_thinks_2]
    simp (disch := first | assumption | omega | decide | (simp only [ma_wd0, ma_wdi, ma_wdr, ma_wdl, ma_wdn] <;> omega)) only [↓reduceIte, evK, evL, evS, evA, evJ, Option.bind_some, Option.toList, List.cons_append, List.nil_append, nI_add, pk_mul, bI0, ite_not, ev_rbb, up_n, up_s, up_u, pk_us, pk_un, Nat.reduceAdd, nI_ltT, nI_ltF, nI_leT, nI_leF, nI_eqT, nI_eqF, gfM, ldM, stM, cpN_s])
  rw [cpN_0, up_self] at hl
  simp (disch := first | assumption | omega | decide | (simp only [ma_wd0, ma_wdi, ma_wdr, ma_wdl, ma_wdn] <;> omega)) only [↓reduceIte, evK, evL, evS, evA, evJ, Option.bind_some, Option.toList, List.cons_append, List.nil_append, nI_add, pk_mul, bI0, ite_not, ev_rbb, up_n, up_s, up_u, pk_us, pk_un, Nat.reduceAdd, nI_ltT, nI_ltF, nI_leT, nI_leF, nI_eqT, nI_eqF, en_MO_thinks, hl]
  rw [bh_MO_thinks_2]
  simp (disch := first | assumption | omega | decide | (simp only [ma_wd0, ma_wdi, ma_wdr, ma_wdl, ma_wdn] <;> omega)) only [↓reduceIte, evK, evL, evS, evA, evJ, Option.bind_some, Option.toList, List.cons_append, List.nil_append, nI_add, pk_mul, bI0, ite_not, ev_rbb, up_n, up_s, up_u, pk_us, pk_un, Nat.reduceAdd, nI_ltT, nI_ltF, nI_leT, nI_leF, nI_eqT, nI_eqF, bk_MO_thinks, pfM]
theorem t_MO_endsThought (d : Nat) : cc sc d 254 [.ref 138] (hp c w m) = some (none, hp c w (va_up (va_up m 139 (cpN (m 141) (m 139) 49)) 138 (upd (m 138) 5 (nI 0)))) := by
  have hl := run_loop (fun i h => ev sc d 254 (pm_blk 254 2) [some (.ref 138), some (.int (nI i))] [] h) (fun i => hp c w (va_up m 139 (cpN (m 141) (m 139) i))) 49 (by
    intro i hi
    conv => lhs; rw [bh_MO_endsThought_2]
    simp (disch := first | assumption | omega | decide | (simp only [ma_wd0, ma_wdi, ma_wdr, ma_wdl, ma_wdn] <;> omega)) only [↓reduceIte, evK, evL, evS, evA, evJ, Option.bind_some, Option.toList, List.cons_append, List.nil_append, nI_add, pk_mul, bI0, ite_not, ev_rbb, up_n, up_s, up_u, pk_us, pk_un, Nat.reduceAdd, nI_ltT, nI_ltF, nI_leT, nI_leF, nI_eqT, nI_eqF, gfM, ldM, stM, cpN_s])
  rw [cpN_0, up_self] at hl
  simp (disch := first | assumption | omega | decide | (simp only [ma_wd0, ma_wdi, ma_wdr, ma_wdl, ma_wdn] <;> omega)) only [↓reduceIte, evK, evL, evS, evA, evJ, Option.bind_some, Option.toList, List.cons_append, List.nil_append, nI_add, pk_mul, bI0, ite_not, ev_rbb, up_n, up_s, up_u, pk_us, pk_un, Nat.reduceAdd, nI_ltT, nI_ltF, nI_leT, nI_leF, nI_eqT, nI_eqF, en_MO_endsThought, hl]
  rw [bh_MO_endsThought_2]
  simp (disch := first | assumption | omega | decide | (simp only [ma_wd0, ma_wdi, ma_wdr, ma_wdl, ma_wdn] <;> omega)) only [↓reduceIte, evK, evL, evS, evA, evJ, Option.bind_some, Option.toList, List.cons_append, List.nil_append, nI_add, pk_mul, bI0, ite_not, ev_rbb, up_n, up_s, up_u, pk_us, pk_un, Nat.reduceAdd, nI_ltT, nI_ltF, nI_leT, nI_leF, nI_eqT, nI_eqF, bk_MO_endsThought, pfM]
/-- into thought: the class's spare line, the reference's own -/
theorem think_in (g : gQ W S Q ls c m Z) : jR 97 W S (va_up (lV c 97 17) 102 (upd (upd (upd (c 102) 3 (nI 0)) 4 (-1)) 5 (-1))) (va_up (va_up m 141 (cpN (m 139) (m 141) 49)) 138 (upd (upd (upd (m 138) 5 (nI 1)) 44 (-1)) 45 (-1))) Z ∧ tR W S Q ls (va_up (lV c 97 17) 102 (upd (upd (upd (c 102) 3 (nI 0)) 4 (-1)) 5 (-1))) (va_up (va_up m 141 (cpN (m 139) (m 141) 49)) 138 (upd (upd (upd (m 138) 5 (nI 1)) 44 (-1)) 45 (-1))) := by
  obtain ⟨t, j, p, i, x⟩ := g
  have hS := t.2.2.1.2.2.1
  have fL : ∀ k, k < 97 → lV c 97 17 k = c k := fun k hk => lV_fr c 97 17 k (by simp only [List.mem_cons, List.not_mem_nil, or_false]; omega)
  constructor
  · refine ⟨(j.1.lE (lV_E c 97 17) hS).eq (fun k a b => up_n _ _ _ _ (by omega)), j.2.1.eq hS (fun k hk => by simp (disch := first | assumption | omega | decide | (simp only [ma_wd0, ma_wdi, ma_wdr, ma_wdl, ma_wdn] <;> omega)) only [up_n, up_s, up_u, pk_us, pk_un, Nat.reduceAdd]), j.2.2.1, fun k hk => ?_, Or.inr ⟨rfl, ?_⟩⟩
    · rw [up_n _ _ _ _ (by omega), fL 23 (by omega)]
      simp (disch := first | assumption | omega | decide | (simp only [ma_wd0, ma_wdi, ma_wdr, ma_wdl, ma_wdn] <;> omega)) only [up_n, up_s, up_u, pk_us, pk_un, Nat.reduceAdd]
      exact j.2.2.2.1 k hk
    · simp (disch := first | assumption | omega | decide | (simp only [ma_wd0, ma_wdi, ma_wdr, ma_wdl, ma_wdn] <;> omega)) only [up_n, up_s, up_u, pk_us, pk_un, Nat.reduceAdd]
  · refine t.eq (fun k hk => ?_) (fun k hk => ?_) (fun k hk => ?_)
    · simp only [tRc, List.mem_cons, List.not_mem_nil, or_false] at hk
      rw [up_n _ _ _ _ (by omega), fL k (by omega)]
    · simp only [tRm, List.mem_cons, List.not_mem_nil, or_false] at hk
      simp (disch := first | assumption | omega | decide | (simp only [ma_wd0, ma_wdi, ma_wdr, ma_wdl, ma_wdn] <;> omega)) only [up_n, up_s, up_u, pk_us, pk_un, Nat.reduceAdd]
    · simp only [tRf, List.mem_cons, List.not_mem_nil, or_false] at hk
      simp (disch := first | assumption | omega | decide | (simp only [ma_wd0, ma_wdi, ma_wdr, ma_wdl, ma_wdn] <;> omega)) only [up_n, up_s, up_u, pk_us, pk_un, Nat.reduceAdd]
/-- out of it -/
theorem think_out {c' m' : Nat → Nat → Int32} (g : gQ W S Q ls c m Z) (h1 : ∀ k, k ≤ 80 → c' k = c k) (h2 : ∀ k, k < 49 → m' 139 k = m 139 k) (h3 : ∀ k, k < 600 → m' 145 k = m 145 k) (h4 : ∀ k, 140 ≤ k → k ≠ 141 → k ≠ 145 → k ≠ 158 → k ≠ 159 → k ≠ 162 → k ≠ 163 → m' k = m k) (h5 : ∀ k, k ∈ fE → m' 138 k = m 138 k) : gR c' m' := by
  obtain ⟨t, j, p, i, x⟩ := g
  have hS := t.2.2.1.2.2.1
  simp only [fE, List.forall_mem_cons, List.not_mem_nil, false_implies, implies_true, and_true] at h5
  obtain ⟨f3, f5, f6, f7, f8, f9, f10, f16, f36, f37, f38, f40, f47, f55⟩ := h5
  have q : ∀ k, k ∈ [140, 142, 143, 144, 146, 147, 148, 149, 150, 151, 152, 153, 154, 156, 157, 161, 166] → m' k = m k := fun k hk => by
    simp only [List.mem_cons, List.not_mem_nil, or_false] at hk
    exact h4 k (by omega) (by omega) (by omega) (by omega) (by omega) (by omega) (by omega)
  refine ⟨W, S, Q, ls, t.eq (fun k hk => h1 k ?_) (fun k hk => q k ?_) ?_, ⟨Z, j.1.eq (fun k a b => h1 k (by omega)), j.2.1.eq hS h2, j.2.2.1, fun k hk => ?_, ?_⟩, p.eq (fun k a b => h1 k (by omega)) (q _ (by simp)) f3, i.eq (by rw [h1 0 (by omega)]) (fun k a b => h1 k (by omega)) (q _ (by simp)) f55, x.eq (by rw [h1 79 (by omega)]) (by rw [h1 79 (by omega)]) (by rw [h1 79 (by omega)]) (h1 80 (by omega)) f16 f36 f37 (q _ (by simp)) (q _ (by simp))⟩
  · simp only [tRc, List.mem_cons, List.not_mem_nil, or_false] at hk; omega
  · simp only [tRm, List.mem_cons, List.not_mem_nil, or_false] at hk ⊢; omega
  · simp only [tRf, List.forall_mem_cons, List.not_mem_nil, false_implies, implies_true, and_true]
    exact ⟨f6, f7, f8, f9, f10, f38, f40, f47⟩
  · rw [h1 23 (by omega), h3 k hk]
    exact j.2.2.2.1 k hk
  · rw [f5]
    exact j.2.2.2.2
theorem p_goes (d : Nat) (a b : Int32) (h : gR c m) : pub sc w (d + 20) 25 252 [.int a, .int b] c m := by
  obtain ⟨W, S, Q, ls, Z, g⟩ := h.e
  by_cases h1 : nI 1 ≤ a ∧ a ≤ nI 99
  · obtain ⟨n, hn0, hn, rfl⟩ := rng (by omega) h1.1 h1.2 (by omega)
    by_cases h2 : nI 0 ≤ b ∧ b ≤ nI 4
    · obtain ⟨kb, -, hkb, rfl⟩ := rng (by omega) h2.1 h2.2 (by omega)
      obtain ⟨j1, t1⟩ := think_in g.q0
      generalize hc1 : va_up (lV c 97 17) 102 (upd (upd (upd (c 102) 3 (nI 0)) 4 (-1)) 5 (-1)) = c1 at j1 t1
      have T := fun c => t_MO_thinks (sc := sc) (c := c) (m := va_up m 138 (upd (m 138) 0 (nI 0))) (w := w) (d + 19)
      generalize hm1 : va_up (va_up (va_up m 138 (upd (m 138) 0 (nI 0))) 141 (cpN (va_up m 138 (upd (m 138) 0 (nI 0)) 139) (va_up m 138 (upd (m 138) 0 (nI 0)) 141) 49)) 138 (upd (upd (upd (va_up m 138 (upd (m 138) 0 (nI 0)) 138) 5 (nI 1)) 44 (-1)) 45 (-1)) = m1 at j1 t1 T
      have k1 : kR 97 c1 m1 := by
        intro _
        rw [← hc1, ← hm1]
        simp (disch := first | assumption | omega | decide | (simp only [ma_wd0, ma_wdi, ma_wdr, ma_wdl, ma_wdn] <;> omega)) only [up_n, up_s, up_u, pk_us, pk_un, Nat.reduceAdd, and_self]
      obtain ⟨s, t, c2, m2, e1, e2, ⟨Z2, j2⟩, k2, F2⟩ := sim_loop (w := w) n (fun i (s : Unit) h => ev sc (d + 20) 25 (pm_blk 25 42) [some (.ref 0), some (.int (nI n)), some (.int (nI kb)), some (.int (nI i))] [] h)
        (fun i (s : Unit) h => ev sc (d + 20) 252 (pm_blk 252 36) [some (.ref 138), some (.int (nI n)), some (.int (nI kb)), some (.int (nI i)), none] [] h)
        (fun i s t c' m' => (∃ Z', jR 97 W S c' m' Z') ∧ kR 97 c' m' ∧ FR 97 c1 m1 c' m') (by
          rintro i s t c3 m3 hi ⟨⟨Z3, j3⟩, k3, F3⟩
          obtain ⟨c4, m4, e, r1, r2, Z4, j4, k4, f4, p4⟩ := j_hour (sc := sc) (w := w) (d + 7) (t1.FR (Or.inr rfl) F3) j3 k3
          simp only [wkA97] at r1
          refine ⟨s, t, c4, m4, fun m0 => ?_, fun c0 => ?_, ⟨Z4, j4⟩, k4, F3.tr f4⟩
          · conv => lhs; rw [bh_LH_goes_42]
            simp (disch := first | assumption | omega | decide | (simp only [ma_wd0, ma_wdi, ma_wdr, ma_wdl, ma_wdn] <;> omega)) only [↓reduceIte, evK, evL, evS, evA, evJ, Option.bind_some, Option.toList, List.cons_append, List.nil_append, nI_add, pk_mul, bI0, ite_not, ev_rbb, up_n, up_s, up_u, pk_us, pk_un, Nat.reduceAdd, nI_ltT, nI_ltF, nI_leT, nI_leF, nI_eqT, nI_eqF, gfC, ce_Works_passHour, r1]
          · conv => lhs; rw [bh_MO_goes_36]
            simp (disch := first | assumption | omega | decide | (simp only [ma_wd0, ma_wdi, ma_wdr, ma_wdl, ma_wdn] <;> omega)) only [↓reduceIte, evK, evL, evS, evA, evJ, Option.bind_some, Option.toList, List.cons_append, List.nil_append, nI_add, pk_mul, bI0, ite_not, ev_rbb, up_n, up_s, up_u, pk_us, pk_un, Nat.reduceAdd, nI_ltT, nI_ltF, nI_leT, nI_leF, nI_eqT, nI_eqF, ce_MO_goesBy, r2]) n 0 () () c1 m1 (by omega) ⟨⟨Z, j1⟩, k1, FR.rf⟩
      have t2 := t1.FR (Or.inr rfl) F2
      have s1 := t2.2.2.1.1
      have s2 := t2.2.2.1.2.1
      have hS := t2.2.2.1.2.2.1
      obtain ⟨x, y, c3, m3, f1, f2, rfl, rfl, rfl⟩ := sim_loop (w := w) S (fun i (s : Int32) h => ev sc (d + 19) 92 (pm_blk 92 4) [some (.ref 103), some (.ref 97), some (.int s), some (.int (nI i))] [] h)
        (fun i (s : Int32) h => ev sc (d + 20) 252 (pm_blk 252 57) [some (.ref 138), some (.int (nI n)), some (.int (nI kb)), some (.int s), some (.int (nI i))] [] h)
        (fun i s t c' m' => s = t ∧ c2 = c' ∧ m2 = m') (by
          rintro i s t c3 m3 hi ⟨rfl, rfl, rfl⟩
          have z1 : c2 101 i = Z2 0 (41 + i) := j2.1.2.2.2.2 i hi
          have z2 : m2 139 (41 + i) = Z2 0 (41 + i) := j2.2.1.2.2.2.2 i hi
          refine ⟨s + Z2 0 (41 + i), s + Z2 0 (41 + i), c2, m2, fun m0 => ?_, fun c0 => ?_, rfl, rfl, rfl⟩
          · conv => lhs; rw [bh_Thought_allScraped_4]
            simp (disch := first | assumption | omega | decide | (simp only [ma_wd0, ma_wdi, ma_wdr, ma_wdl, ma_wdn] <;> omega)) only [↓reduceIte, evK, evL, evS, evA, evJ, Option.bind_some, Option.toList, List.cons_append, List.nil_append, nI_add, pk_mul, bI0, ite_not, ev_rbb, up_n, up_s, up_u, pk_us, pk_un, Nat.reduceAdd, nI_ltT, nI_ltF, nI_leT, nI_leF, nI_eqT, nI_eqF, gfC, ldC, s1, z1]
          · conv => lhs; rw [bh_MO_goes_57]
            simp (disch := first | assumption | omega | decide | (simp only [ma_wd0, ma_wdi, ma_wdr, ma_wdl, ma_wdn] <;> omega)) only [↓reduceIte, evK, evL, evS, evA, evJ, Option.bind_some, Option.toList, List.cons_append, List.nil_append, nI_add, pk_mul, bI0, ite_not, ev_rbb, up_n, up_s, up_u, pk_us, pk_un, Nat.reduceAdd, nI_ltT, nI_ltF, nI_leT, nI_leF, nI_eqT, nI_eqF, gfM, ldM, s2, z2]) S 0 (nI 0) (nI 0) c2 m2 (by omega) ⟨rfl, rfl, rfl⟩
      obtain ⟨⟨z0, z1, z2, z3, z4⟩, -⟩ := j2.1
      obtain ⟨⟨y0, y1, y2, y3, y4⟩, -⟩ := j2.2.1
      have kk := k2 rfl
      have hL := fun m => t_Line_copy (sc := sc) (c := c) (m := m) (w := w) (d + 10) 97 17 (by simp [lX])
      have h102 : lV c 97 17 102 = c 102 := lV_fr c 97 17 102 (by simp)
      have E := fun c => t_MO_endsThought (sc := sc) (c := c) (m := m2) (w := w) (d + 19)
      have hA : ∀ m0, cc sc (d + 19) 92 [.ref 103, .ref 97] (hp c2 w m0) = some (some (.int x), hp c2 w m0) := by
        intro m0
        simp (disch := first | assumption | omega | decide | (simp only [ma_wd0, ma_wdi, ma_wdr, ma_wdl, ma_wdn] <;> omega)) only [↓reduceIte, evK, evL, evS, evA, evJ, Option.bind_some, Option.toList, List.cons_append, List.nil_append, nI_add, pk_mul, bI0, ite_not, ev_rbb, up_n, up_s, up_u, pk_us, pk_un, Nat.reduceAdd, nI_ltT, nI_ltF, nI_leT, nI_leF, nI_eqT, nI_eqF, en_Thought_allScraped, f1]
        rw [bh_Thought_allScraped_4]
        simp (disch := first | assumption | omega | decide | (simp only [ma_wd0, ma_wdi, ma_wdr, ma_wdl, ma_wdn] <;> omega)) only [↓reduceIte, evK, evL, evS, evA, evJ, Option.bind_some, Option.toList, List.cons_append, List.nil_append, nI_add, pk_mul, bI0, ite_not, ev_rbb, up_n, up_s, up_u, pk_us, pk_un, Nat.reduceAdd, nI_ltT, nI_ltF, nI_leT, nI_leF, nI_eqT, nI_eqF, bk_Thought_allScraped, gfC, s1]
      have hg : gR c2 (va_up (va_up m2 139 (cpN (m2 141) (m2 139) 49)) 138 (upd (m2 138) 5 (nI 0))) := by
        have q1 : ∀ k, k ∉ FX 97 → c2 k = c1 k := F2.1
        have q2 : ∀ k, k ∉ FY → m2 k = m1 k := F2.2.2.1
        have q3 := F2.2.2.2
        simp only [FX, List.mem_cons, List.not_mem_nil, or_false, not_or] at q1
        simp only [FY, List.mem_cons, List.not_mem_nil, or_false, not_or] at q2
        have l1 : ∀ k, k ≤ 80 → c1 k = c k := fun k hk => by
          rw [← hc1, up_n _ _ _ _ (by omega)]
          exact lV_fr c 97 17 k (by simp only [List.mem_cons, List.not_mem_nil, or_false]; omega)
        have c23 : c2 23 = c 23 := (F2.2.1 rfl).trans (l1 23 (by omega))
        have l2 : ∀ k, k ≠ 138 → k ≠ 141 → m1 k = m k := fun k a b => by rw [← hm1]; simp (disch := first | assumption | omega | decide | (simp only [ma_wd0, ma_wdi, ma_wdr, ma_wdl, ma_wdn] <;> omega)) only [up_n, up_s, up_u, pk_us, pk_un, Nat.reduceAdd]
        refine think_out g (fun k hk => ?_) (fun k hk => ?_) (fun k hk => ?_) (fun k a b f e r _ _ => ?_) (fun k hk => ?_)
        · by_cases e : k = 23
          · rw [e]; exact c23
          · rw [q1 k (by omega)]; exact l1 k hk
        · rw [up_n _ _ _ _ (by omega), up_s]
          simp only [cpN]
          rw [if_pos hk, q2 141 (by omega), ← hm1]
          simp (disch := first | assumption | omega | decide | (simp only [ma_wd0, ma_wdi, ma_wdr, ma_wdl, ma_wdn] <;> omega)) only [up_n, up_s, up_u, pk_us, pk_un, Nat.reduceAdd]
          simp only [cpN]
          rw [if_pos hk]
        · rw [up_n _ _ _ _ (by omega), up_n _ _ _ _ (by omega), ← j2.2.2.2.1 k hk, c23]
          exact g.2.1.2.2.2.1 k hk
        · rw [up_n _ _ _ _ (by omega), up_n _ _ _ _ (by omega), q2 k (by omega)]
          exact l2 k (by omega) (by omega)
        · simp only [fE, List.mem_cons, List.not_mem_nil, or_false] at hk
          rw [up_s]
          by_cases e : k = 5
          · rw [e, pk_us]; exact g.2.1.t17.symm
          · rw [pk_un e, q3 k (by omega) (by omega), ← hm1]
            simp (disch := first | assumption | omega | decide | (simp only [ma_wd0, ma_wdi, ma_wdr, ma_wdl, ma_wdn] <;> omega)) only [up_n, up_s, up_u, pk_us, pk_un, Nat.reduceAdd]
      refine ⟨c2, _, if kb = 0 then Z2 0 3 else if kb = 1 then x else if kb = 2 then Z2 0 4 else if kb = 3 then m2 138 44 else m2 138 45, fun m0 => ?_, fun c0 => ?_, hg⟩
      · simp (disch := first | assumption | omega | decide | (simp only [ma_wd0, ma_wdi, ma_wdr, ma_wdl, ma_wdn] <;> omega)) only [↓reduceIte, evK, evL, evS, evA, evJ, Option.bind_some, Option.toList, List.cons_append, List.nil_append, nI_add, pk_mul, bI0, ite_not, ev_rbb, up_n, up_s, up_u, pk_us, pk_un, Nat.reduceAdd, nI_ltT, nI_ltF, nI_leT, nI_leF, nI_eqT, nI_eqF, en_LH_goes, bk_LH_goes, gfC, pfC, ce_LH_within, t_LH_within, h1, h2, and_self, not_true_eq_false, ce_Line_copy, hL, ce_Works_beginCounts, en_Works_beginCounts, h102, hc1, e1]
        rw [bh_LH_goes_42]
        rcases (show kb = 0 ∨ kb = 1 ∨ kb = 2 ∨ kb = 3 ∨ kb = 4 by omega) with rfl | rfl | rfl | rfl | rfl
        all_goals
          simp (disch := first | assumption | omega | decide | (simp only [ma_wd0, ma_wdi, ma_wdr, ma_wdl, ma_wdn] <;> omega)) only [↓reduceIte, evK, evL, evS, evA, evJ, Option.bind_some, Option.toList, List.cons_append, List.nil_append, nI_add, pk_mul, bI0, ite_not, ev_rbb, up_n, up_s, up_u, pk_us, pk_un, Nat.reduceAdd, nI_ltT, nI_ltF, nI_leT, nI_leF, nI_eqT, nI_eqF, bk_LH_goes, gfC, ev_sw, swc_s, swc_0, z0, z1, z2, z3, z4, kk.1, kk.2, ce_Thought_allScraped, hA]
          try rfl
      · simp (disch := first | assumption | omega | decide | (simp only [ma_wd0, ma_wdi, ma_wdr, ma_wdl, ma_wdn] <;> omega)) only [↓reduceIte, evK, evL, evS, evA, evJ, Option.bind_some, Option.toList, List.cons_append, List.nil_append, nI_add, pk_mul, bI0, ite_not, ev_rbb, up_n, up_s, up_u, pk_us, pk_un, Nat.reduceAdd, nI_ltT, nI_ltF, nI_leT, nI_leF, nI_eqT, nI_eqF, en_MO_goes, bk_MO_goes, pfM, ce_MO_isIn, t_MO_isIn, h1, h2, and_self, not_true_eq_false, ce_MO_thinks, T, e2]
        rw [bh_MO_goes_36]
        simp (disch := first | assumption | omega | decide | (simp only [ma_wd0, ma_wdi, ma_wdr, ma_wdl, ma_wdn] <;> omega)) only [↓reduceIte, evK, evL, evS, evA, evJ, Option.bind_some, Option.toList, List.cons_append, List.nil_append, nI_add, pk_mul, bI0, ite_not, ev_rbb, up_n, up_s, up_u, pk_us, pk_un, Nat.reduceAdd, nI_ltT, nI_ltF, nI_leT, nI_leF, nI_eqT, nI_eqF, bk_MO_goes, f2]
        rw [bh_MO_goes_57]
        rcases (show kb = 0 ∨ kb = 1 ∨ kb = 2 ∨ kb = 3 ∨ kb = 4 by omega) with rfl | rfl | rfl | rfl | rfl
        all_goals
          simp (disch := first | assumption | omega | decide | (simp only [ma_wd0, ma_wdi, ma_wdr, ma_wdl, ma_wdn] <;> omega)) only [↓reduceIte, evK, evL, evS, evA, evJ, Option.bind_some, Option.toList, List.cons_append, List.nil_append, nI_add, pk_mul, bI0, ite_not, ev_rbb, up_n, up_s, up_u, pk_us, pk_un, Nat.reduceAdd, nI_ltT, nI_ltF, nI_leT, nI_leF, nI_eqT, nI_eqF, bk_MO_goes, gfM, ldM, s2, y0, y1, y2, y3, y4, ce_MO_endsThought, E]
          try rfl
    · refine ⟨c, _, -100000, fun m0 => ?_, fun c0 => ?_, h.q0⟩
      · simp (disch := first | assumption | omega | decide | (simp only [ma_wd0, ma_wdi, ma_wdr, ma_wdl, ma_wdn] <;> omega)) only [↓reduceIte, evK, evL, evS, evA, evJ, Option.bind_some, Option.toList, List.cons_append, List.nil_append, nI_add, pk_mul, bI0, ite_not, ev_rbb, up_n, up_s, up_u, pk_us, pk_un, Nat.reduceAdd, nI_ltT, nI_ltF, nI_leT, nI_leF, nI_eqT, nI_eqF, en_LH_goes, bk_LH_goes, gfC, h1, h2, and_self, not_true_eq_false, not_false_eq_true, ce_LH_within, t_LH_within]
      · simp (disch := first | assumption | omega | decide | (simp only [ma_wd0, ma_wdi, ma_wdr, ma_wdl, ma_wdn] <;> omega)) only [↓reduceIte, evK, evL, evS, evA, evJ, Option.bind_some, Option.toList, List.cons_append, List.nil_append, nI_add, pk_mul, bI0, ite_not, ev_rbb, up_n, up_s, up_u, pk_us, pk_un, Nat.reduceAdd, nI_ltT, nI_ltF, nI_leT, nI_leF, nI_eqT, nI_eqF, en_MO_goes, bk_MO_goes, pfM, h1, h2, and_self, not_true_eq_false, not_false_eq_true, ce_MO_isIn, t_MO_isIn]
  · refine ⟨c, _, -100000, fun m0 => ?_, fun c0 => ?_, h.q0⟩
    · simp (disch := first | assumption | omega | decide | (simp only [ma_wd0, ma_wdi, ma_wdr, ma_wdl, ma_wdn] <;> omega)) only [↓reduceIte, evK, evL, evS, evA, evJ, Option.bind_some, Option.toList, List.cons_append, List.nil_append, nI_add, pk_mul, bI0, ite_not, ev_rbb, up_n, up_s, up_u, pk_us, pk_un, Nat.reduceAdd, nI_ltT, nI_ltF, nI_leT, nI_leF, nI_eqT, nI_eqF, en_LH_goes, bk_LH_goes, gfC, h1, not_false_eq_true, ce_LH_within, t_LH_within]
    · simp (disch := first | assumption | omega | decide | (simp only [ma_wd0, ma_wdi, ma_wdr, ma_wdl, ma_wdn] <;> omega)) only [↓reduceIte, evK, evL, evS, evA, evJ, Option.bind_some, Option.toList, List.cons_append, List.nil_append, nI_add, pk_mul, bI0, ite_not, ev_rbb, up_n, up_s, up_u, pk_us, pk_un, Nat.reduceAdd, nI_ltT, nI_ltF, nI_leT, nI_leF, nI_eqT, nI_eqF, en_MO_goes, bk_MO_goes, pfM, h1, not_false_eq_true, ce_MO_isIn, t_MO_isIn]
end P5
