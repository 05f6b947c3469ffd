/-! ===== smooth: the reference's table, the call ===== -/
def aP (W st : Nat) (H : Nat → Nat) : Nat → Nat
  | 0 => arN (sFx W st H 0) 0 40
  | x + 1 => nrN st (sFx W st H (x + 1)) (aP W st H x)
theorem aP_le (W st : Nat) (H : Nat → Nat) : ∀ x, aP W st H x ≤ 40
  | 0 => by have := (arN_in (sFx W st H 0) 0 40).2; unfold aP; omega
  | x + 1 => by
    have := (nrN_le (st := st) (f := sFx W st H (x + 1)) (aP_le W st H x)).2
    unfold aP
    omega
section PQ
variable {sc : Nat × (Nat → Int32)} {W S Q : Nat} {ls : List lL} {c m c1 m1 Z : Nat → Nat → Int32} {w : Nat → Int64}
theorem t_MO_row (d x st : Nat) (H : Nat → Nat) (hx : x < W) (hW : W ≤ 14) (hH : ∀ j, H j ≤ 40) (hst : st ≤ 9) (hw : m 138 6 + nI 10 = nI W) (hs : m 138 7 + nI 3 = nI st) (h18 : m 139 (5 + x) + nI 10 = nI (H x)) (hv : ∀ h, x + 1 < W → h ≤ 40 → m 160 (41 * (x + 1) + h) = nI (sFx W st H (x + 1) h)) :
    ∃ f', (∀ c, ev sc (d + 2) 262 (pm_blk 262 13) [some (.ref 138), some (.int (nI x)), some (.int (nI 0))] [] (hp c w m) = ev sc (d + 2) 262 (pm_blk 262 7) [some (.ref 138), some (.int (nI x - nI 1)), some (.int (nI 41))] [] (hp c w (va_up m 160 f'))) ∧ (∀ k, (k < 41 * x ∨ 41 * x + 41 ≤ k) → f' k = m 160 k) ∧ ∀ h, h ≤ 40 → f' (41 * x + h) = nI (sFx W st H x h) := by
  have hHx := hH x
  have hl := fun c => run_loop (fun i h => ev sc (d + 2) 262 (pm_blk 262 13) [some (.ref 138), some (.int (nI x)), some (.int (nI i))] [] h) (fun i => hp c w (va_up m 160 (fun j => if 41 * x ≤ j ∧ j < 41 * x + i then nI (sFx W st H x (j - 41 * x)) else m 160 j))) 41 (by
    intro i hi
    have ef : upd (fun j => if 41 * x ≤ j ∧ j < 41 * x + i then nI (sFx W st H x (j - 41 * x)) else m 160 j) (41 * x + i) (nI (sFx W st H x i)) = (fun j => if 41 * x ≤ j ∧ j < 41 * x + (i + 1) then nI (sFx W st H x (j - 41 * x)) else m 160 j) := by
      funext j
      simp only [upd]
      repeat' split
      all_goals first | rfl | (exfalso; omega) | (congr 2; omega)
    conv => lhs; rw [bh_MO_findsSmooth_13]
    by_cases z : x + 1 = W
    · have es : sFx W st H x i = dN i (H x) := by rw [sFx_s hx, if_pos z]; rfl
      rw [← ef, es]
      simp (disch := first | assumption | omega | decide | (simp only [ma_wd0, ma_wdi, ma_wdr, ma_wdl, ma_wdn] <;> omega)) only [↓reduceIte, evK, evL, evS, evA, evJ, Option.bind_some, Option.toList, List.cons_append, List.nil_append, nI_add, pk_mul, bI0, ite_not, ev_rbb, up_n, up_s, up_u, pk_us, pk_un, Nat.reduceAdd, nI_ltT, nI_ltF, nI_leT, nI_leF, nI_eqT, nI_eqF, bk_MO_findsSmooth, gfM, stM, ce_MO_heightOf, t_MO_heightOf, h18, ce_MO_far, t_MO_far, iFr_n, ce_MO_leastNear, en_MO_leastNear, ce_MO_wide, t_MO_wide, hw, Nat.add_zero]
    · have es : sFx W st H x i = dN i (H x) + sFx W st H (x + 1) (nrN st (sFx W st H (x + 1)) i) := by rw [sFx_s hx, if_neg z]
      have L := fun c => t_MO_leastNear (sc := sc) (c := c) (m := va_up m 160 (fun j => if 41 * x ≤ j ∧ j < 41 * x + i then nI (sFx W st H x (j - 41 * x)) else m 160 j)) (w := w) (W := W) d (x + 1) i st (sFx W st H (x + 1)) (by omega) hW (by omega) hst (fun h hh => sFx_le hH hW _ h hh) hw hs (fun h hh => by rw [up_s, if_neg (by omega)]; exact hv h (by omega) hh)
      rw [← ef, es]
      simp (disch := first | assumption | omega | decide | (simp only [ma_wd0, ma_wdi, ma_wdr, ma_wdl, ma_wdn] <;> omega)) only [↓reduceIte, evK, evL, evS, evA, evJ, Option.bind_some, Option.toList, List.cons_append, List.nil_append, nI_add, pk_mul, bI0, ite_not, ev_rbb, up_n, up_s, up_u, pk_us, pk_un, Nat.reduceAdd, nI_ltT, nI_ltF, nI_leT, nI_leF, nI_eqT, nI_eqF, bk_MO_findsSmooth, gfM, stM, ce_MO_heightOf, t_MO_heightOf, h18, ce_MO_far, t_MO_far, iFr_n, ce_MO_leastNear, L])
  have h0 : va_up m 160 (fun j => if 41 * x ≤ j ∧ j < 41 * x + 0 then nI (sFx W st H x (j - 41 * x)) else m 160 j) = m := by
    rw [show (fun j => if 41 * x ≤ j ∧ j < 41 * x + 0 then nI (sFx W st H x (j - 41 * x)) else m 160 j) = m 160 from by funext j; rw [if_neg (by omega)], up_self]
  simp only [h0] at hl
  refine ⟨fun j => if 41 * x ≤ j ∧ j < 41 * x + 41 then nI (sFx W st H x (j - 41 * x)) else m 160 j, fun c => (hl c).trans ?_, fun k hk => if_neg (by omega), fun h hh => ?_⟩
  · conv => lhs; rw [bh_MO_findsSmooth_13]
    simp (disch := first | assumption | omega | decide | (simp only [ma_wd0, ma_wdi, ma_wdr, ma_wdl, ma_wdn] <;> omega)) only [↓reduceIte, evK, evL, evS, evA, evJ, Option.bind_some, Option.toList, List.cons_append, List.nil_append, nI_add, pk_mul, bI0, ite_not, ev_rbb, up_n, up_s, up_u, pk_us, pk_un, Nat.reduceAdd, nI_ltT, nI_ltF, nI_leT, nI_leF, nI_eqT, nI_eqF, bk_MO_findsSmooth, n_a1]
  · simp only
    rw [if_pos (by omega)]
    congr 2
    omega
theorem t_MO_finds (d st : Nat) (H : Nat → Nat) (hW : W ≤ 14) (hH : ∀ j, H j ≤ 40) (hst : st ≤ 9) (hw : m 138 6 + nI 10 = nI W) (hs : m 138 7 + nI 3 = nI st) (h18 : ∀ j, j < W → m 139 (5 + j) + nI 10 = nI (H j)) : ∀ (x : Nat) (f : Nat → Int32) (u : Option Value), x ≤ W → (∀ j h, x ≤ j → j < W → h ≤ 40 → f (41 * j + h) = nI (sFx W st H j h)) →
    ∃ f', (∀ c, ev sc (d + 2) 262 (pm_blk 262 7) [some (.ref 138), some (.int (nI x - nI 1)), u] [] (hp c w (va_up m 160 f)) = some (none, hp c w (va_up m 160 f'))) ∧ ∀ j h, j < W → h ≤ 40 → f' (41 * j + h) = nI (sFx W st H j h)
  | 0, f, u, hx, hv => by
    refine ⟨f, fun c => ?_, fun j h hj hh => hv j h (by omega) hj hh⟩
    conv => lhs; rw [bh_MO_findsSmooth_7]
    simp (disch := first | assumption | omega | decide | (simp only [ma_wd0, ma_wdi, ma_wdr, ma_wdl, ma_wdn] <;> omega)) only [↓reduceIte, evK, evL, evS, evA, evJ, Option.bind_some, Option.toList, List.cons_append, List.nil_append, nI_add, pk_mul, bI0, ite_not, ev_rbb, up_n, up_s, up_u, pk_us, pk_un, Nat.reduceAdd, nI_ltT, nI_ltF, nI_leT, nI_leF, nI_eqT, nI_eqF, bk_MO_findsSmooth, n_01, n_m1lt]
  | x + 1, f, u, hx, hv => by
    obtain ⟨f2, e2, g2, v2⟩ := t_MO_row (sc := sc) (m := va_up m 160 f) (w := w) d x st H (by omega) hW hH hst hw hs (by rw [up_n _ _ _ _ (by omega)]; exact h18 x (by omega)) (fun h h1 hh => by rw [up_s]; exact hv (x + 1) h (by omega) h1 hh)
    rw [up_u] at e2
    rw [up_s] at g2
    obtain ⟨f3, e3, v3⟩ := t_MO_finds d st H hW hH hst hw hs h18 x f2 (some (.int (nI 41))) (by omega) (fun j h h1 h2 hh => by
      by_cases z : j = x
      · subst z; exact v2 h hh
      · rw [g2 _ (by omega)]; exact hv j h (by omega) h2 hh)
    refine ⟨f3, fun c => ?_, v3⟩
    conv => lhs; rw [bh_MO_findsSmooth_7]
    simp (disch := first | assumption | omega | decide | (simp only [ma_wd0, ma_wdi, ma_wdr, ma_wdl, ma_wdn] <;> omega)) only [↓reduceIte, evK, evL, evS, evA, evJ, Option.bind_some, Option.toList, List.cons_append, List.nil_append, nI_add, pk_mul, bI0, ite_not, ev_rbb, up_n, up_s, up_u, pk_us, pk_un, Nat.reduceAdd, nI_ltT, nI_ltF, nI_leT, nI_leF, nI_eqT, nI_eqF, nI_m1, e2, e3]
theorem t_MO_findsSmooth (d st : Nat) (H : Nat → Nat) (hW : W ≤ 14) (hH : ∀ j, H j ≤ 40) (hst : st ≤ 9) (hw : m 138 6 + nI 10 = nI W) (hs : m 138 7 + nI 3 = nI st) (h18 : ∀ j, j < W → m 139 (5 + j) + nI 10 = nI (H j)) : ∃ f', (∀ c, cc sc (d + 2) 262 [.ref 138] (hp c w m) = some (none, hp c w (va_up m 160 f'))) ∧ ∀ j h, j < W → h ≤ 40 → f' (41 * j + h) = nI (sFx W st H j h) := by
  obtain ⟨f', e, v⟩ := t_MO_finds (sc := sc) (m := m) (w := w) d st H hW hH hst hw hs h18 W (m 160) none (Nat.le_refl _) (fun j h h1 h2 => by omega)
  rw [up_self] at e
  refine ⟨f', fun c => ?_, v⟩
  simp (disch := first | assumption | omega | decide | (simp only [ma_wd0, ma_wdi, ma_wdr, ma_wdl, ma_wdn] <;> omega)) only [↓reduceIte, evK, evL, evS, evA, evJ, Option.bind_some, Option.toList, List.cons_append, List.nil_append, nI_add, pk_mul, bI0, ite_not, ev_rbb, up_n, up_s, up_u, pk_us, pk_un, Nat.reduceAdd, nI_ltT, nI_ltF, nI_leT, nI_leF, nI_eqT, nI_eqF, en_MO_findsSmooth, ce_MO_wide, t_MO_wide, hw, e]
/-- the while -/
theorem t_while (d x a : Nat) (y y3 : Int32) (f : Nat → Nat) (hx : x < 14) (ha : a ≤ 40) (hf : ∀ h, h ≤ 40 → f h ≤ 560) (hv : ∀ h, h ≤ 40 → m 160 (41 * x + h) = nI (f h)) : ∀ k lo, lo + k = a → (∀ j, lo ≤ j → j < a → f a < f j) → ∀ c, ev sc d 261 (pm_blk 261 104) [some (.ref 138), some (.int y), some (.int (nI (f a))), some (.int y3), some (.int (nI x)), some (.int (nI lo))] [] (hp c w m) = ev sc d 261 (pm_blk 261 130) [some (.ref 138), some (.int y), some (.int (nI (f a))), some (.int y3), some (.int (nI x)), some (.int (nI a))] [] (hp c w m)
  | 0, lo, hk, hj => fun c => by
    have : lo = a := by omega
    subst this
    have v1 := hv lo ha
    conv => lhs; rw [bh_MO_smooth_104]
    simp (disch := first | assumption | omega | decide | (simp only [ma_wd0, ma_wdi, ma_wdr, ma_wdl, ma_wdn] <;> omega)) only [↓reduceIte, evK, evL, evS, evA, evJ, Option.bind_some, Option.toList, List.cons_append, List.nil_append, nI_add, pk_mul, bI0, ite_not, ev_rbb, up_n, up_s, up_u, pk_us, pk_un, Nat.reduceAdd, nI_ltT, nI_ltF, nI_leT, nI_leF, nI_eqT, nI_eqF, gfM, ldM, v1]
  | k + 1, lo, hk, hj => fun c => by
    have v1 := hv lo (by omega)
    have h1 := hj lo (Nat.le_refl _) (by omega)
    have f1 := hf lo (by omega)
    have f2 := hf a ha
    have ih := t_while d x a y y3 f hx ha hf hv k (lo + 1) (by omega) (fun j a b => hj j (by omega) b) c
    conv => lhs; rw [bh_MO_smooth_104]
    simp (disch := first | assumption | omega | decide | (simp only [ma_wd0, ma_wdi, ma_wdr, ma_wdl, ma_wdn] <;> omega)) only [↓reduceIte, evK, evL, evS, evA, evJ, Option.bind_some, Option.toList, List.cons_append, List.nil_append, nI_add, pk_mul, bI0, ite_not, ev_rbb, up_n, up_s, up_u, pk_us, pk_un, Nat.reduceAdd, nI_ltT, nI_ltF, nI_leT, nI_leF, nI_eqT, nI_eqF, gfM, ldM, v1, ih]
theorem p_smooth (d : Nat) (b : Int32) (h : gR c m) : pub sc w (d + 20) 27 261 [.int b] c m := by
  obtain ⟨W, S, Q, ls, Z, g⟩ := h.e
  obtain ⟨t, j, -, -, -⟩ := id g
  have hw1 := t.1.2.1
  have hW := t.1.2.2.2
  have hW3 := t.1.2.2.1
  have hq0 := h.q0
  obtain ⟨t0, j0, -, -, -⟩ := g.q0
  generalize hm1 : va_up m 138 (upd (m 138) 0 (nI 0)) = m1 at t0 j0 hq0
  have hw2 := t0.2.1.2.1
  obtain ⟨st, gu, st1, st9, gu1, g1, g2, -, -⟩ := t0.2.2.2.2.1
  have hZ : ∀ j, j < 14 → nK (Z 0 (5 + j)) < 41 ∧ Z 0 (5 + j) = nI (nK (Z 0 (5 + j))) := fun k hk => by
    obtain ⟨v, hv, e⟩ := nI_ex (n := 40) (j.2.2.1.1 k hk)
    rw [e, nK_nI (by omega)]
    exact ⟨by omega, rfl⟩
  generalize hHd : (fun k => if k < 14 then nK (Z 0 (5 + k)) else 0) = H
  have hH : ∀ k, H k ≤ 40 := fun k => by
    rw [← hHd]
    simp only
    split
    next z => have := (hZ k z).1; omega
    next => omega
  have e1 : ∀ k, k < W → c 18 k = nI (H k) := fun k hk => by
    rw [← hHd]
    simp only
    rw [if_pos (by omega)]
    exact (j.1.2.1 k (by omega)).trans (hZ k (by omega)).2
  have e2 : ∀ k, k < W → m1 139 (5 + k) + nI 10 = nI (H k) := fun k hk => by
    rw [← hHd]
    simp only
    rw [if_pos (by omega)]
    exact (j0.2.1.2.1 k (by omega)).trans (hZ k (by omega)).2
  have hst : st ≤ 9 := by omega
  have hjk : ∀ f, gR c (va_up m1 160 f) := fun f => hq0.q (fun _ _ => rfl) (fun k hk => up_n _ _ _ _ (by simp only [mE, List.mem_cons, List.not_mem_nil, or_false] at hk; omega)) (fun k hk => by rw [up_n _ _ _ _ (by omega)])
  obtain ⟨f', EM, vM⟩ := t_MO_findsSmooth (sc := sc) (m := m1) (w := w) (d + 17) st H hW hH hst hw2 g2 e2
  have hle := aP_le W st H
  -- the reference's first minimum
  have L0 := fun c0 => run_loop (fun i z => ev sc (d + 20) 261 (pm_blk 261 38) [some (.ref 138), some (.int b), some (.int (nI (leN (sFx W st H 0) 0 i))), some (.int (nI i)), none, none] [] z) (fun i => hp c0 w (va_up m1 160 f')) 41 (by
    intro i hi
    have v1 := vM 0 i (by omega) (by omega)
    rw [show 41 * 0 + i = i by omega] at v1
    have f1 := sFx_le (st := st) hH hW 0 i (by omega)
    have f2 := leN_le (f := sFx W st H 0) (lo := 0) i (fun y hy => sFx_le hH hW 0 y (by omega))
    have ls := leN_s (f := sFx W st H 0) (lo := 0) (i := i) (by rw [Nat.zero_add]; exact f1)
    rw [Nat.zero_add] at ls
    conv => lhs; rw [bh_MO_smooth_38]
    simp (disch := first | assumption | omega | decide | (simp only [ma_wd0, ma_wdi, ma_wdr, ma_wdl, ma_wdn] <;> omega)) only [↓reduceIte, evK, evL, evS, evA, evJ, Option.bind_some, Option.toList, List.cons_append, List.nil_append, nI_add, pk_mul, bI0, ite_not, ev_rbb, up_n, up_s, up_u, pk_us, pk_un, Nat.reduceAdd, nI_ltT, nI_ltF, nI_leT, nI_leF, nI_eqT, nI_eqF, gfM, ldM, ce_MO_lesser, t_MO_lesser, iMn_n, v1, ls])
  simp only [show leN (sFx W st H 0) 0 0 = 1000000 from rfl, show leN (sFx W st H 0) 0 41 = sFx W st H 0 (aP W st H 0) from rfl] at L0
  -- the class
  have CL : ∀ y : Int32, ∃ c', (∀ m, ∃ u', ev sc (d + 19) 99 (pm_blk 99 10) [some (.ref 103), some (.int y), some (.int (nI W - nI 1)), none] [] (hp c w m) = ev sc (d + 19) 99 (pm_blk 99 108) [some (.ref 103), some (.int y), some (.int (-1)), u'] [] (hp c' w m)) ∧ (∀ k, k < 107 ∨ 120 < k → c' k = c k) ∧ ∀ j h, j < W → h ≤ 40 → c' (107 + j) h = nI (sFx W st H j h) := fun y =>
    t_feet (sc := sc) (w := w) (d + 17) st H y hW hH hst W c none (Nat.le_refl _) hw1 g1 e1 (fun j h h1 h2 => by omega)
  have out : ∀ c' f, (∀ k, k < 107 ∨ 120 < k → c' k = c k) → gR c' (va_up m1 160 f) := fun c' f hc => (hjk f).q (fun k hk => hc k (by omega)) (fun _ _ => rfl) (fun _ _ => rfl)
  by_cases b0 : b = nI 0
  · subst b0
    obtain ⟨c', C1, fc, vc⟩ := CL (-1)
    have hwc : c' 1 0 = nI W := by rw [fc 1 (by omega)]; exact hw1
    have LN := fun m => t_Thought_leastNear (sc := sc) (c := c') (m := m) (w := w) (d + 17) 0 0 40 (nI 0) (sFx W st H 0) (by omega) (fun h hh => sFx_le hH hW 0 h hh) (fun h hh => vc 0 h (by omega) hh) (by decide +kernel) (by omega) (by omega)
    rw [show arN (sFx W st H 0) 0 (min 40 40 - 0) = aP W st H 0 from rfl] at LN
    have v0 : c' 107 (aP W st H 0) = nI (sFx W st H 0 (aP W st H 0)) := vc 0 (aP W st H 0) (by omega) (hle 0)
    have h0 := hle 0
    refine ⟨c', va_up m1 160 f', nI (sFx W st H 0 (aP W st H 0)), fun m0 => ?_, fun c0 => ?_, out c' f' fc⟩
    · obtain ⟨u', C1⟩ := C1 m0
      simp (disch := first | assumption | omega | decide | (simp only [ma_wd0, ma_wdi, ma_wdr, ma_wdl, ma_wdn] <;> omega)) only [↓reduceIte, evK, evL, evS, evA, evJ, Option.bind_some, Option.toList, List.cons_append, List.nil_append, nI_add, pk_mul, bI0, ite_not, ev_rbb, up_n, up_s, up_u, pk_us, pk_un, Nat.reduceAdd, nI_ltT, nI_ltF, nI_leT, nI_leF, nI_eqT, nI_eqF, en_LH_smooth, bk_LH_smooth, gfC, ce_Thought_smoothed, en_Thought_smoothed, hw1, C1]
      simp (disch := first | assumption | omega | decide | (simp only [ma_wd0, ma_wdi, ma_wdr, ma_wdl, ma_wdn] <;> omega)) only [↓reduceIte, evK, evL, evS, evA, evJ, Option.bind_some, Option.toList, List.cons_append, List.nil_append, nI_add, pk_mul, bI0, ite_not, ev_rbb, up_n, up_s, up_u, pk_us, pk_un, Nat.reduceAdd, nI_ltT, nI_ltF, nI_leT, nI_leF, nI_eqT, nI_eqF, bk_Thought_smoothed, gfC, ce_Thought_leastNear, LN, aaF, ldF, v0]
    · simp (disch := first | assumption | omega | decide | (simp only [ma_wd0, ma_wdi, ma_wdr, ma_wdl, ma_wdn] <;> omega)) only [↓reduceIte, evK, evL, evS, evA, evJ, Option.bind_some, Option.toList, List.cons_append, List.nil_append, nI_add, pk_mul, bI0, ite_not, ev_rbb, up_n, up_s, up_u, pk_us, pk_un, Nat.reduceAdd, nI_ltT, nI_ltF, nI_leT, nI_leF, nI_eqT, nI_eqF, en_MO_smooth, bk_MO_smooth, pfM, hm1, ce_MO_findsSmooth, EM, L0]
      rw [bh_MO_smooth_38]
      simp (disch := first | assumption | omega | decide | (simp only [ma_wd0, ma_wdi, ma_wdr, ma_wdl, ma_wdn] <;> omega)) only [↓reduceIte, evK, evL, evS, evA, evJ, Option.bind_some, Option.toList, List.cons_append, List.nil_append, nI_add, pk_mul, bI0, ite_not, ev_rbb, up_n, up_s, up_u, pk_us, pk_un, Nat.reduceAdd, nI_ltT, nI_ltF, nI_leT, nI_leF, nI_eqT, nI_eqF, bk_MO_smooth]
  by_cases bb : nI 10 ≤ b ∧ b ≤ nI (9 + W)
  · obtain ⟨k10, hk1, hk2, rfl⟩ := rng (by omega) bb.1 bb.2 (by omega)
    obtain ⟨col, rfl⟩ : ∃ col, k10 = col + 10 := ⟨k10 - 10, by omega⟩
    have ek : nI (col + 10) - nI 10 = nI col := by rw [pk_sub (by omega)]; rfl
    obtain ⟨c', C1, fc, vc⟩ := CL (nI col)
    have hwc : c' 1 0 = nI W := by rw [fc 1 (by omega)]; exact hw1
    have hsc : c' 1 1 = nI st := by rw [fc 1 (by omega)]; exact g1
    have LN := fun m => t_Thought_leastNear (sc := sc) (c := c') (m := m) (w := w) (d + 17) 0 0 40 (nI 0) (sFx W st H 0) (by omega) (fun h hh => sFx_le hH hW 0 h hh) (fun h hh => vc 0 h (by omega) hh) (by decide +kernel) (by omega) (by omega)
    rw [show arN (sFx W st H 0) 0 (min 40 40 - 0) = aP W st H 0 from rfl] at LN
    have C2 := fun m => run_loop (fun i z => ev sc (d + 19) 99 (pm_blk 99 133) [some (.ref 103), some (.int (nI col)), some (.int (nI (aP W st H i))), some (.int (nI (i + 1)))] [] z) (fun i => hp c' w m) col (by
      intro i hi
      have hai := hle i
      have L := fun m => t_Thought_leastNear (sc := sc) (c := c') (m := m) (w := w) (d + 17) (i + 1) (aP W st H i - st) (aP W st H i + st) (nI (aP W st H i) - nI st) (sFx W st H (i + 1)) (by omega) (fun h hh => sFx_le hH hW _ h hh) (fun h hh => vc (i + 1) h (by omega) hh) (mx0 (by omega) (by omega)) (by omega) (by omega)
      rw [show arN (sFx W st H (i + 1)) (aP W st H i - st) (min 40 (aP W st H i + st) - (aP W st H i - st)) = aP W st H (i + 1) from rfl] at L
      conv => lhs; rw [bh_Thought_smoothed_133]
      simp (disch := first | assumption | omega | decide | (simp only [ma_wd0, ma_wdi, ma_wdr, ma_wdl, ma_wdn] <;> omega)) only [↓reduceIte, evK, evL, evS, evA, evJ, Option.bind_some, Option.toList, List.cons_append, List.nil_append, nI_add, pk_mul, bI0, ite_not, ev_rbb, up_n, up_s, up_u, pk_us, pk_un, Nat.reduceAdd, nI_ltT, nI_ltF, nI_leT, nI_leF, nI_eqT, nI_eqF, gfC, hwc, hsc, ce_Thought_leastNear, L])
    -- the reference's path
    have hM18 : ∀ k, k < W → va_up m1 160 f' 139 (5 + k) + nI 10 = nI (H k) := fun k hk => by rw [up_n _ _ _ _ (by omega)]; exact e2 k hk
    have R2 : ∀ n, n ≤ col + 1 → ∃ u l, ∀ c0, ev sc (d + 20) 261 (pm_blk 261 73) [some (.ref 138), some (.int (nI (col + 10))), some (.int (nI (sFx W st H 0 (aP W st H 0)))), some (.int (nI 0)), some (.int (nI 0)), none] [] (hp c0 w (va_up m1 160 f')) = ev sc (d + 20) 261 (pm_blk 261 73) [some (.ref 138), some (.int (nI (col + 10))), some (.int (nI l)), some (.int (nI (if n = 0 then 0 else aP W st H (n - 1)))), some (.int (nI n)), u] [] (hp c0 w (va_up m1 160 f')) ∧ (n < W → l = sFx W st H n (aP W st H n)) := by
      intro n
      induction n with
      | zero => intro _; exact ⟨none, _, fun c0 => ⟨rfl, fun _ => rfl⟩⟩
      | succ n ih =>
        intro hn
        obtain ⟨u, l, ih⟩ := ih (by omega)
        have hl := (ih (fun _ _ => 0)).2 (by omega)
        subst hl
        have han := hle n
        have hHn := hH n
        have hln := sFx_le (st := st) hH hW n (aP W st H n) han
        have hwl : ∀ lo, (∀ j, lo ≤ j → j < aP W st H n → sFx W st H n (aP W st H n) < sFx W st H n j) → lo ≤ aP W st H n → ∀ y3 c0, ev sc (d + 20) 261 (pm_blk 261 104) [some (.ref 138), some (.int (nI (col + 10))), some (.int (nI (sFx W st H n (aP W st H n)))), some (.int y3), some (.int (nI n)), some (.int (nI lo))] [] (hp c0 w (va_up m1 160 f')) = ev sc (d + 20) 261 (pm_blk 261 130) [some (.ref 138), some (.int (nI (col + 10))), some (.int (nI (sFx W st H n (aP W st H n)))), some (.int y3), some (.int (nI n)), some (.int (nI (aP W st H n)))] [] (hp c0 w (va_up m1 160 f')) := fun lo q1 q2 y3 c0 =>
          t_while (sc := sc) (w := w) (d + 20) n (aP W st H n) (nI (col + 10)) y3 (sFx W st H n) (by omega) han (fun h hh => sFx_le hH hW n h hh) (fun h hh => by rw [up_s]; exact vM n h (by omega) hh) (aP W st H n - lo) lo (by omega) q1 c0
        have hsub : sFx W st H n (aP W st H n) = dN (aP W st H n) (H n) + if n + 1 = W then 0 else sFx W st H (n + 1) (aP W st H (n + 1)) := sFx_s (by omega) _
        have hge : dN (aP W st H n) (H n) ≤ sFx W st H n (aP W st H n) := by omega
        have h18 := e2 n (by omega)
        refine ⟨some (.int (nI (aP W st H n))), sFx W st H n (aP W st H n) - dN (aP W st H n) (H n), fun c0 => ⟨(ih c0).1.trans ?_, fun hW2 => by rw [if_neg (by omega)] at hsub; omega⟩⟩
        conv => lhs; rw [bh_MO_smooth_73]
        rcases n with _ | n
        · have W0 := hwl 0 (fun j a b => (arN_min (sFx W st H 0) 0 40 j a (by omega)).2 b) (Nat.zero_le _)
          simp only [if_true, Nat.add_sub_cancel, if_false, Nat.add_eq_zero_iff, Nat.one_ne_zero, and_false]
          rw [Nat.add_zero] at h18
          simp (disch := first | assumption | omega | decide | (simp only [ma_wd0, ma_wdi, ma_wdr, ma_wdl, ma_wdn] <;> omega)) only [↓reduceIte, evK, evL, evS, evA, evJ, Option.bind_some, Option.toList, List.cons_append, List.nil_append, nI_add, pk_mul, bI0, ite_not, ev_rbb, up_n, up_s, up_u, pk_us, pk_un, Nat.reduceAdd, nI_ltT, nI_ltF, nI_leT, nI_leF, nI_eqT, nI_eqF, bk_MO_smooth, ek, W0]
          simp (disch := first | assumption | omega | decide | (simp only [ma_wd0, ma_wdi, ma_wdr, ma_wdl, ma_wdn] <;> omega)) only [↓reduceIte, evK, evL, evS, evA, evJ, Option.bind_some, Option.toList, List.cons_append, List.nil_append, nI_add, pk_mul, bI0, ite_not, ev_rbb, up_n, up_s, up_u, pk_us, pk_un, Nat.reduceAdd, nI_ltT, nI_ltF, nI_leT, nI_leF, nI_eqT, nI_eqF, bk_MO_smooth, ce_MO_heightOf, t_MO_heightOf, h18, ce_MO_far, t_MO_far, iFr_n, pk_sub]
        · have hlo := (nrN_le (st := st) (f := sFx W st H (n + 1)) (hle n)).1
          have hap := hle n
          have W0 := hwl (aP W st H n - st) (fun j a b => (arN_min (sFx W st H (n + 1)) (aP W st H n - st) (min 40 (aP W st H n + st) - (aP W st H n - st)) j a (by
            have := (nrN_le (st := st) (f := sFx W st H (n + 1)) (hle n)).2
            have e : aP W st H (n + 1) = nrN st (sFx W st H (n + 1)) (aP W st H n) := rfl
            omega)).2 b) hlo
          have gs : va_up m1 160 f' 138 7 + nI 3 = nI st := by rw [up_n _ _ _ _ (by omega)]; exact g2
          simp only [Nat.add_sub_cancel, if_false, Nat.add_eq_zero_iff, Nat.one_ne_zero, and_false]
          simp (disch := first | assumption | omega | decide | (simp only [ma_wd0, ma_wdi, ma_wdr, ma_wdl, ma_wdn] <;> omega)) only [↓reduceIte, evK, evL, evS, evA, evJ, Option.bind_some, Option.toList, List.cons_append, List.nil_append, nI_add, pk_mul, bI0, ite_not, ev_rbb, up_n, up_s, up_u, pk_us, pk_un, Nat.reduceAdd, nI_ltT, nI_ltF, nI_leT, nI_leF, nI_eqT, nI_eqF, bk_MO_smooth, ek, ce_MO_steep, t_MO_steep, g2, ce_MO_greater, t_MO_greater, iMx0, W0]
          simp (disch := first | assumption | omega | decide | (simp only [ma_wd0, ma_wdi, ma_wdr, ma_wdl, ma_wdn] <;> omega)) only [↓reduceIte, evK, evL, evS, evA, evJ, Option.bind_some, Option.toList, List.cons_append, List.nil_append, nI_add, pk_mul, bI0, ite_not, ev_rbb, up_n, up_s, up_u, pk_us, pk_un, Nat.reduceAdd, nI_ltT, nI_ltF, nI_leT, nI_leF, nI_eqT, nI_eqF, bk_MO_smooth, ce_MO_heightOf, t_MO_heightOf, h18, ce_MO_far, t_MO_far, iFr_n, pk_sub]
    obtain ⟨u, l, R2⟩ := R2 (col + 1) (Nat.le_refl _)
    simp only [Nat.add_sub_cancel, if_false, Nat.add_eq_zero_iff, Nat.one_ne_zero, and_false] at R2
    refine ⟨c', va_up m1 160 f', nI (aP W st H col), fun m0 => ?_, fun c0 => ?_, out c' f' fc⟩
    · obtain ⟨u', C1⟩ := C1 m0
      simp (disch := first | assumption | omega | decide | (simp only [ma_wd0, ma_wdi, ma_wdr, ma_wdl, ma_wdn] <;> omega)) only [↓reduceIte, evK, evL, evS, evA, evJ, Option.bind_some, Option.toList, List.cons_append, List.nil_append, nI_add, pk_mul, bI0, ite_not, ev_rbb, up_n, up_s, up_u, pk_us, pk_un, Nat.reduceAdd, nI_ltT, nI_ltF, nI_leT, nI_leF, nI_eqT, nI_eqF, en_LH_smooth, bk_LH_smooth, gfC, ce_LH_numbered, t_LH_numbered, ek, ce_Told_isColumn, t_Told_isColumn, hw1, and_self, not_true_eq_false, ce_Thought_smoothed, en_Thought_smoothed, C1]
      simp (disch := first | assumption | omega | decide | (simp only [ma_wd0, ma_wdi, ma_wdr, ma_wdl, ma_wdn] <;> omega)) only [↓reduceIte, evK, evL, evS, evA, evJ, Option.bind_some, Option.toList, List.cons_append, List.nil_append, nI_add, pk_mul, bI0, ite_not, ev_rbb, up_n, up_s, up_u, pk_us, pk_un, Nat.reduceAdd, nI_ltT, nI_ltF, nI_leT, nI_leF, nI_eqT, nI_eqF, bk_Thought_smoothed, gfC, ce_Thought_leastNear, LN, nI_m1ne, C2]
      rw [bh_Thought_smoothed_133]
      simp (disch := first | assumption | omega | decide | (simp only [ma_wd0, ma_wdi, ma_wdr, ma_wdl, ma_wdn] <;> omega)) only [↓reduceIte, evK, evL, evS, evA, evJ, Option.bind_some, Option.toList, List.cons_append, List.nil_append, nI_add, pk_mul, bI0, ite_not, ev_rbb, up_n, up_s, up_u, pk_us, pk_un, Nat.reduceAdd, nI_ltT, nI_ltF, nI_leT, nI_leF, nI_eqT, nI_eqF, bk_Thought_smoothed, gfC]
    · simp (disch := first | assumption | omega | decide | (simp only [ma_wd0, ma_wdi, ma_wdr, ma_wdl, ma_wdn] <;> omega)) only [↓reduceIte, evK, evL, evS, evA, evJ, Option.bind_some, Option.toList, List.cons_append, List.nil_append, nI_add, pk_mul, bI0, ite_not, ev_rbb, up_n, up_s, up_u, pk_us, pk_un, Nat.reduceAdd, nI_ltT, nI_ltF, nI_leT, nI_leF, nI_eqT, nI_eqF, en_MO_smooth, bk_MO_smooth, pfM, hm1, ce_MO_wide, t_MO_wide, hw2, ce_MO_isIn, t_MO_isIn, and_self, not_true_eq_false, ce_MO_findsSmooth, EM, L0]
      rw [bh_MO_smooth_38]
      have R2c := (R2 c0).1
      simp (disch := first | assumption | omega | decide | (simp only [ma_wd0, ma_wdi, ma_wdr, ma_wdl, ma_wdn] <;> omega)) only [↓reduceIte, evK, evL, evS, evA, evJ, Option.bind_some, Option.toList, List.cons_append, List.nil_append, nI_add, pk_mul, bI0, ite_not, ev_rbb, up_n, up_s, up_u, pk_us, pk_un, Nat.reduceAdd, nI_ltT, nI_ltF, nI_leT, nI_leF, nI_eqT, nI_eqF, bk_MO_smooth, R2c]
      rw [bh_MO_smooth_73]
      simp (disch := first | assumption | omega | decide | (simp only [ma_wd0, ma_wdi, ma_wdr, ma_wdl, ma_wdn] <;> omega)) only [↓reduceIte, evK, evL, evS, evA, evJ, Option.bind_some, Option.toList, List.cons_append, List.nil_append, nI_add, pk_mul, bI0, ite_not, ev_rbb, up_n, up_s, up_u, pk_us, pk_un, Nat.reduceAdd, nI_ltT, nI_ltF, nI_leT, nI_leF, nI_eqT, nI_eqF, bk_MO_smooth, ek]
  · refine ⟨c, m1, -1, fun m0 => ?_, fun c0 => ?_, hq0⟩
    · by_cases q : b < nI 10
      · have hm1n : (nI 0 ≤ (-1 : Int32)) = False := eq_false (by decide +kernel)
        simp (disch := first | assumption | omega | decide | (simp only [ma_wd0, ma_wdi, ma_wdr, ma_wdl, ma_wdn] <;> omega)) only [↓reduceIte, evK, evL, evS, evA, evJ, Option.bind_some, Option.toList, List.cons_append, List.nil_append, nI_add, pk_mul, bI0, ite_not, ev_rbb, up_n, up_s, up_u, pk_us, pk_un, Nat.reduceAdd, nI_ltT, nI_ltF, nI_leT, nI_leF, nI_eqT, nI_eqF, en_LH_smooth, bk_LH_smooth, gfC, b0, ce_LH_numbered, t_LH_numbered, q, ce_Told_isColumn, t_Told_isColumn, hw1, hm1n, false_and, not_false_eq_true]
      · have hc : ¬ (nI 0 ≤ b - nI 10 ∧ b - nI 10 < nI W) := by
          rintro ⟨z1, z2⟩
          apply bb
          rw [Int32.lt_iff_toInt_lt, nI_toInt (by omega)] at q
          have k1 : (b - nI 10).toInt = b.toInt - 10 := by
            have := Int32.toInt_lt b
            rw [Int32.toInt_sub, nI_toInt (by omega)]
            exact Int.bmod_eq_of_le (by omega) (by omega)
          rw [Int32.lt_iff_toInt_lt, k1, nI_toInt (by omega)] at z2
          simp only [Int32.le_iff_toInt_le]
          rw [nI_toInt (by omega), nI_toInt (by omega)]
          omega
        simp (disch := first | assumption | omega | decide | (simp only [ma_wd0, ma_wdi, ma_wdr, ma_wdl, ma_wdn] <;> omega)) only [↓reduceIte, evK, evL, evS, evA, evJ, Option.bind_some, Option.toList, List.cons_append, List.nil_append, nI_add, pk_mul, bI0, ite_not, ev_rbb, up_n, up_s, up_u, pk_us, pk_un, Nat.reduceAdd, nI_ltT, nI_ltF, nI_leT, nI_leF, nI_eqT, nI_eqF, en_LH_smooth, bk_LH_smooth, gfC, b0, ce_LH_numbered, t_LH_numbered, q, ce_Told_isColumn, t_Told_isColumn, hw1, hc, not_false_eq_true]
    · simp (disch := first | assumption | omega | decide | (simp only [ma_wd0, ma_wdi, ma_wdr, ma_wdl, ma_wdn] <;> omega)) only [↓reduceIte, evK, evL, evS, evA, evJ, Option.bind_some, Option.toList, List.cons_append, List.nil_append, nI_add, pk_mul, bI0, ite_not, ev_rbb, up_n, up_s, up_u, pk_us, pk_un, Nat.reduceAdd, nI_ltT, nI_ltF, nI_leT, nI_leF, nI_eqT, nI_eqF, en_MO_smooth, bk_MO_smooth, pfM, hm1, b0, ce_MO_wide, t_MO_wide, hw2, ce_MO_isIn, t_MO_isIn, bb, not_false_eq_true]
end PQ
