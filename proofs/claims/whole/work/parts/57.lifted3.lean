/-! ===== lifted: the call ===== -/
section PN
variable {sc : Nat × (Nat → Int32)} {W S Q : Nat} {ls : List lL} {c m c1 m1 Z : Nat → Nat → Int32} {w : Nat → Int64}
theorem t_mostAlike (d x n : Nat) (a : Nat → Int32) (hn : n ≤ 41) (hx : x < W) (t : tR W S Q ls c1 m1) (hz : zC 17 c1 Z S) (hm : zM m1 Z S) (hi : zI W S Z) (h23 : ∀ j, j < 600 → c1 23 j = m1 145 j) (h5 : m1 138 5 = nI 1) (h41 : ∀ k, k < 49 → m1 141 k = m1 139 k) (hM : liM W n a m1 m) : ∃ m', (∀ c0, cc sc (d + 7) 272 [.ref 138, .int (nI x)] (hp c0 w m) = some (some (.int (nI (mxF (cntA (fun b => dkN ls W (liZ W b Z) x) a n) 25))), hp c0 w m')) ∧ liM W n a m1 m' := by
  have hW := t.1.2.2.2
  have hl := fun c0 => run_loop (fun i h => ev sc (d + 7) 272 (pm_blk 272 2) [some (.ref 138), some (.int (nI x)), some (.int (nI i)), none, none, none] [] h) (fun i => hp c0 w (va_up m 163 (fun j => if j < i then nI 0 else m 163 j))) 25 (by
    intro i hi
    conv => lhs; rw [bh_MO_mostAlike_2]
    simp (disch := first | assumption | omega | decide | (simp only [ma_wd0, ma_wdi, ma_wdr, ma_wdl, ma_wdn] <;> omega)) only [↓reduceIte, evK, evL, evS, evA, evJ, Option.bind_some, Option.toList, List.cons_append, List.nil_append, nI_add, pk_mul, bI0, ite_not, ev_rbb, up_n, up_s, up_u, pk_us, pk_un, Nat.reduceAdd, nI_ltT, nI_ltF, nI_leT, nI_leF, nI_eqT, nI_eqF, gfM, stM]
    congr 3
    funext j
    simp only [upd]
    repeat' split
    all_goals first | rfl | (exfalso; omega))
  have h0 : va_up m 163 (fun j => if j < 0 then nI 0 else m 163 j) = m := by
    rw [show (fun j => if j < 0 then nI 0 else m 163 j) = m 163 from by funext j; rw [if_neg (by omega)], up_self]
  simp only [h0] at hl
  have hM0 : liM W n a m1 (va_up m 163 (fun j => if j < 25 then nI 0 else m 163 j)) := by
    refine ⟨fun r a1 a2 a3 a4 a5 a6 => ?_, fun f hf => ?_, fun k hk => ?_, ?_, fun j hj => ?_⟩
    · rw [up_n _ _ _ _ a6]; exact hM.1 r a1 a2 a3 a4 a5 a6
    · rw [up_n _ _ _ _ (by omega)]; exact hM.2.1 f hf
    · rw [up_n _ _ _ _ (by omega)]; exact hM.2.2.1 k hk
    · rw [up_n _ _ _ _ (by omega)]; exact hM.2.2.2.1
    · rw [up_n _ _ _ _ (by omega)]; exact hM.2.2.2.2 j hj
  have hv0 : ∀ h, h < 25 → va_up m 163 (fun j => if j < 25 then nI 0 else m 163 j) 163 h = nI 0 := fun h hh => by rw [up_s, if_pos hh]
  generalize va_up m 163 (fun j => if j < 25 then nI 0 else m 163 j) = m2 at hl hM0 hv0
  generalize hg : (fun b => dkN ls W (liZ W b Z) x) = g
  have hge : ∀ b, dkN ls W (liZ W b Z) x = g b := fun b => by rw [← hg]
  obtain ⟨-, y, -, m3, -, e3, hM3, -⟩ := sim_loop (w := w) n (fun i (s : Unit) h => (none : Option (Option Value × List ma_C)))
    (fun i (s : Option Value × Option Value) h => ev sc (d + 7) 272 (pm_blk 272 25) [some (.ref 138), some (.int (nI x)), some (.int (nI (mxF (cntA g a i) 25))), some (.int (nI i)), s.1, s.2] [] h)
    (fun i s t c' m' => liM W n a m1 m' ∧ ∀ h, h < 25 → m' 163 h = nI (cntA g a i h)) (by
      rintro i s ⟨s4, s5⟩ c' m' hi' ⟨hM', hv⟩
      obtain ⟨c2, m4, -, l2, fc2, hM4, j4, e163⟩ := j_lift1 (sc := sc) (w := w) d (d + 5) (a i) (c := c1) t hz hm hi h23 h5 h41 (fun _ _ => rfl) hM'
      have t4 := t.li (c := c1) (fun _ _ => rfl) hM4
      obtain ⟨g2, f2, hmd⟩ := t_MO_duskOf (sc := sc) (m := m4) (w := w) (d + 1) x W ls hx t4.2.1
      rw [(j4.dusk hx hW).2] at hmd
      have e50 := hM'.2.2.2.1
      have e162 := hM'.2.2.2.2 i hi'
      have hdk := dkN_le ls W (liZ W (a i) Z) x
      have hcl := cntA_le g a i (g (a i))
      have hb : mxF (cntA g a i) 25 ≤ i := (mxF_le 25).mpr (fun k _ => cntA_le g a i k)
      have hcv : m4 163 (g (a i)) = nI (cntA g a i (g (a i))) := by rw [e163]; exact hv _ (by rw [← hge]; omega)
      have hmx := mxF_cnt (g := g) (a := a) (n := i) (N := 25) (by rw [← hge]; omega)
      have hM5 : liM W n a m1 (va_up (va_up (va_up m4 158 g2) 159 f2) 163 (upd (m4 163) (g (a i)) (nI (cntA g a i (g (a i)) + 1)))) := by
        refine ⟨fun r a1 a2 a3 a4 a5 a6 => ?_, fun f hf => ?_, fun k hk => ?_, ?_, fun j hj => ?_⟩
        · rw [up_n _ _ _ _ a6]; exact (hM4.jk).1 r a1 a2 a3 a4 a5 a6
        · rw [up_n _ _ _ _ (by omega)]; exact (hM4.jk).2.1 f hf
        · rw [up_n _ _ _ _ (by omega)]; exact (hM4.jk).2.2.1 k hk
        · rw [up_n _ _ _ _ (by omega)]; exact (hM4.jk).2.2.2.1
        · rw [up_n _ _ _ _ (by omega)]; exact (hM4.jk).2.2.2.2 j hj
      have ex := dkN_ex ls W (liZ W (a i) Z) x
      rw [hge] at ex hdk
      refine ⟨(), (some (.int (duskS ls W (zH (liZ W (a i) Z)) (zN (liZ W (a i) Z)) (liZ W (a i) Z 0 0) x)), some (.int (nI (g (a i))))), c', _, fun _ => rfl, fun c0 => ?_, hM5, fun h hh => ?_⟩
      · conv => lhs; rw [bh_MO_mostAlike_25]
        rw [hmx]
        rcases ex with ⟨x1, x2⟩ | ⟨x1, x2⟩
        · rw [x2] at hcv hcl ⊢
          simp (disch := first | assumption | omega | decide | (simp only [ma_wd0, ma_wdi, ma_wdr, ma_wdl, ma_wdn] <;> omega)) only [↓reduceIte, evK, evL, evS, evA, evJ, Option.bind_some, Option.toList, List.cons_append, List.nil_append, nI_add, pk_mul, bI0, ite_not, ev_rbb, up_n, up_s, up_u, pk_us, pk_un, Nat.reduceAdd, nI_ltT, nI_ltF, nI_leT, nI_leF, nI_eqT, nI_eqF, bk_MO_mostAlike, gfM, ldM, stM, e50, e162, ce_MO_liftsThought, l2, ce_MO_duskOf, hmd, x1, hcv, ce_MO_greater, t_MO_greater, iMx_n]
        · simp (disch := first | assumption | omega | decide | (simp only [ma_wd0, ma_wdi, ma_wdr, ma_wdl, ma_wdn] <;> omega)) only [↓reduceIte, evK, evL, evS, evA, evJ, Option.bind_some, Option.toList, List.cons_append, List.nil_append, nI_add, pk_mul, bI0, ite_not, ev_rbb, up_n, up_s, up_u, pk_us, pk_un, Nat.reduceAdd, nI_ltT, nI_ltF, nI_leT, nI_leF, nI_eqT, nI_eqF, bk_MO_mostAlike, gfM, ldM, stM, e50, e162, ce_MO_liftsThought, l2, ce_MO_duskOf, hmd, x1, nI_m1ne, hcv, ce_MO_greater, t_MO_greater, iMx_n]
      · rw [up_s, show cntA g a (i + 1) h = cntA g a i h + if g (a i) = h then 1 else 0 from rfl]
        by_cases z : g (a i) = h
        · subst z; rw [pk_us, if_pos rfl]
        · rw [pk_un (Ne.symm z), if_neg z, e163]; exact hv h hh) n 0 () (none, none) c1 m2 (by omega) ⟨hM0, hv0⟩
  have e50 := hM3.2.2.2.1
  simp only at e3
  have hz0 : mxF (cntA g a 0) 25 = 0 := Nat.le_antisymm ((mxF_le 25).mpr (fun i _ => Nat.le_refl _)) (Nat.zero_le _)
  rw [hz0] at e3
  refine ⟨m3, fun c0 => ?_, hM3⟩
  simp (disch := first | assumption | omega | decide | (simp only [ma_wd0, ma_wdi, ma_wdr, ma_wdl, ma_wdn] <;> omega)) only [↓reduceIte, evK, evL, evS, evA, evJ, Option.bind_some, Option.toList, List.cons_append, List.nil_append, nI_add, pk_mul, bI0, ite_not, ev_rbb, up_n, up_s, up_u, pk_us, pk_un, Nat.reduceAdd, nI_ltT, nI_ltF, nI_leT, nI_leF, nI_eqT, nI_eqF, en_MO_mostAlike, hl]
  rw [bh_MO_mostAlike_2]
  simp (disch := first | assumption | omega | decide | (simp only [ma_wd0, ma_wdi, ma_wdr, ma_wdl, ma_wdn] <;> omega)) only [↓reduceIte, evK, evL, evS, evA, evJ, Option.bind_some, Option.toList, List.cons_append, List.nil_append, nI_add, pk_mul, bI0, ite_not, ev_rbb, up_n, up_s, up_u, pk_us, pk_un, Nat.reduceAdd, nI_ltT, nI_ltF, nI_leT, nI_leF, nI_eqT, nI_eqF, bk_MO_mostAlike, e3]
  rw [bh_MO_mostAlike_25]
  simp (disch := first | assumption | omega | decide | (simp only [ma_wd0, ma_wdi, ma_wdr, ma_wdl, ma_wdn] <;> omega)) only [↓reduceIte, evK, evL, evS, evA, evJ, Option.bind_some, Option.toList, List.cons_append, List.nil_append, nI_add, pk_mul, bI0, ite_not, ev_rbb, up_n, up_s, up_u, pk_us, pk_un, Nat.reduceAdd, nI_ltT, nI_ltF, nI_leT, nI_leF, nI_eqT, nI_eqF, bk_MO_mostAlike, gfM, e50]
theorem t_MO_bestLook (d n : Nat) (a : Nat → Int32) (hn : n ≤ 41) (hn2 : 2 ≤ n) (t : tR W S Q ls c1 m1) (hz : zC 17 c1 Z S) (hm : zM m1 Z S) (hi : zI W S Z) (h23 : ∀ j, j < 600 → c1 23 j = m1 145 j) (h5 : m1 138 5 = nI 1) (h41 : ∀ k, k < 49 → m1 141 k = m1 139 k) (hM : liM W n a m1 m) : ∃ m', (∀ c0, cc sc (d + 8) 271 [.ref 138] (hp c0 w m) = some (some (.int (nI (arF (fun x => mxF (cntA (fun b => dkN ls W (liZ W b Z) x) a n) 25) W))), hp c0 w m')) ∧ liM W n a m1 m' := by
  have hW := t.1.2.2.2
  have hW3 := t.1.2.2.1
  generalize hg : (fun x => mxF (cntA (fun b => dkN ls W (liZ W b Z) x) a n) 25) = g
  have hge : ∀ x, mxF (cntA (fun b => dkN ls W (liZ W b Z) x) a n) 25 = g x := fun x => by rw [← hg]
  have hgl : ∀ x, g x ≤ 41 := fun x => by rw [← hge]; exact (mxF_le 25).mpr (fun k _ => Nat.le_trans (cntA_le _ _ _ _) hn)
  obtain ⟨-, y, -, m3, -, e3, hM3⟩ := sim_loop (w := w) W (fun i (s : Unit) h => (none : Option (Option Value × List ma_C)))
    (fun i (s : Option Value) h => ev sc (d + 8) 271 (pm_blk 271 18) [some (.ref 138), some (.int (nI (arF g i))), some (.int (nI (if i = 0 then 1000000 else g (arF g i)))), some (.int (nI i)), s] [] h)
    (fun i s t c' m' => liM W n a m1 m') (by
      rintro i s s4 c' m' hi' hM'
      have t4 := t.li (c := c1) (fun _ _ => rfl) hM'
      have hw2 := t4.2.1.2.1
      obtain ⟨m4, e4, hM4⟩ := t_mostAlike (sc := sc) (w := w) d i n a hn hi' t hz hm hi h23 h5 h41 hM'
      rw [hge] at e4
      have g1 := hgl i
      have g2 := hgl (arF g i)
      refine ⟨(), some (.int (nI (g i))), c', m4, fun _ => rfl, fun c0 => ?_, hM4⟩
      conv => lhs; rw [bh_MO_bestLook_18]
      rw [if_neg (show ¬ i + 1 = 0 by omega)]
      by_cases z0 : i = 0
      · subst z0
        rw [if_pos rfl, show arF g 0 = 0 from rfl, show arF g (0 + 1) = 0 by simp [arF]]
        simp (disch := first | assumption | omega | decide | (simp only [ma_wd0, ma_wdi, ma_wdr, ma_wdl, ma_wdn] <;> omega)) only [↓reduceIte, evK, evL, evS, evA, evJ, Option.bind_some, Option.toList, List.cons_append, List.nil_append, nI_add, pk_mul, bI0, ite_not, ev_rbb, up_n, up_s, up_u, pk_us, pk_un, Nat.reduceAdd, nI_ltT, nI_ltF, nI_leT, nI_leF, nI_eqT, nI_eqF, bk_MO_bestLook, ce_MO_wide, t_MO_wide, hw2, ce_MO_mostAlike, e4, ce_MO_lesser, t_MO_lesser, iMn_n, Nat.min_eq_right]
      · rw [if_neg z0]
        by_cases z : g i < g (arF g i)
        · rw [show arF g (i + 1) = i from if_pos z]
          simp (disch := first | assumption | omega | decide | (simp only [ma_wd0, ma_wdi, ma_wdr, ma_wdl, ma_wdn] <;> omega)) only [↓reduceIte, evK, evL, evS, evA, evJ, Option.bind_some, Option.toList, List.cons_append, List.nil_append, nI_add, pk_mul, bI0, ite_not, ev_rbb, up_n, up_s, up_u, pk_us, pk_un, Nat.reduceAdd, nI_ltT, nI_ltF, nI_leT, nI_leF, nI_eqT, nI_eqF, bk_MO_bestLook, ce_MO_wide, t_MO_wide, hw2, ce_MO_mostAlike, e4, ce_MO_lesser, t_MO_lesser, iMn_n, Nat.min_eq_right]
        · rw [show arF g (i + 1) = arF g i from if_neg z]
          simp (disch := first | assumption | omega | decide | (simp only [ma_wd0, ma_wdi, ma_wdr, ma_wdl, ma_wdn] <;> omega)) only [↓reduceIte, evK, evL, evS, evA, evJ, Option.bind_some, Option.toList, List.cons_append, List.nil_append, nI_add, pk_mul, bI0, ite_not, ev_rbb, up_n, up_s, up_u, pk_us, pk_un, Nat.reduceAdd, nI_ltT, nI_ltF, nI_leT, nI_leF, nI_eqT, nI_eqF, bk_MO_bestLook, ce_MO_wide, t_MO_wide, hw2, ce_MO_mostAlike, e4, ce_MO_lesser, t_MO_lesser, iMn_n, Nat.min_eq_left]) W 0 () none c1 m (by omega) hM
  have t4 := t.li (c := c1) (fun _ _ => rfl) hM3
  have hw2 := t4.2.1.2.1
  have e50 := hM.2.2.2.1
  rw [if_pos rfl, show arF g 0 = 0 from rfl] at e3
  refine ⟨m3, fun c0 => ?_, hM3⟩
  simp (disch := first | assumption | omega | decide | (simp only [ma_wd0, ma_wdi, ma_wdr, ma_wdl, ma_wdn] <;> omega)) only [↓reduceIte, evK, evL, evS, evA, evJ, Option.bind_some, Option.toList, List.cons_append, List.nil_append, nI_add, pk_mul, bI0, ite_not, ev_rbb, up_n, up_s, up_u, pk_us, pk_un, Nat.reduceAdd, nI_ltT, nI_ltF, nI_leT, nI_leF, nI_eqT, nI_eqF, en_MO_bestLook, bk_MO_bestLook, gfM, e50, e3]
  rw [bh_MO_bestLook_18]
  simp (disch := first | assumption | omega | decide | (simp only [ma_wd0, ma_wdi, ma_wdr, ma_wdl, ma_wdn] <;> omega)) only [↓reduceIte, evK, evL, evS, evA, evJ, Option.bind_some, Option.toList, List.cons_append, List.nil_append, nI_add, pk_mul, bI0, ite_not, ev_rbb, up_n, up_s, up_u, pk_us, pk_un, Nat.reduceAdd, nI_ltT, nI_ltF, nI_leT, nI_leF, nI_eqT, nI_eqF, bk_MO_bestLook, ce_MO_wide, t_MO_wide, hw2]
theorem t_Thought_bestLook (d : Nat) (f : Nat → Nat → Nat) (hW3 : 3 ≤ W) (hW : W ≤ 14) (hw : c 1 0 = nI W) (hf : ∀ x h, f x h ≤ 41) (hv : ∀ x, x < W → ∀ h, h < 25 → c (122 + x) h = nI (f x h)) : cc sc (d + 2) 109 [.ref 103] (hp c w m) = some (some (.int (nI (arF (fun x => mxF (f x) 25) W))), hp c w m) := by
  have G := fun m x hx => t_greatestGroup (sc := sc) (c := c) (m := m) (w := w) d x (f x) (show x < 14 by omega) (hf x) (hv x hx)
  generalize hg : (fun x => mxF (f x) 25) = g
  have hge : ∀ x, mxF (f x) 25 = g x := fun x => by rw [← hg]
  have hgl : ∀ x, g x ≤ 41 := fun x => by rw [← hge]; exact (mxF_le 25).mpr (fun k _ => hf x k)
  simp only [hge] at G
  obtain ⟨-, -, c', m', e1, -, -, rfl⟩ := sim_loop (w := w) W (fun i (s : Unit) h => ev sc (d + 2) 109 (pm_blk 109 4) [some (.ref 103), some (.int (nI (arF g i))), some (.int (nI i))] [] h)
    (fun i (s : Unit) h => (none : Option (Option Value × List ma_C)))
    (fun i s t c' m' => 1 ≤ i ∧ c = c') (by
      rintro i s t c' m' hi' ⟨h1, rfl⟩
      have hal := arF_lt g i h1
      have g1 := hgl i
      have g2 := hgl (arF g i)
      refine ⟨(), (), c, m', fun m0 => ?_, fun _ => rfl, by omega, rfl⟩
      conv => lhs; rw [bh_Thought_bestLook_4]
      by_cases z : g i < g (arF g i)
      · rw [show arF g (i + 1) = i from if_pos z]
        simp (disch := first | assumption | omega | decide | (simp only [ma_wd0, ma_wdi, ma_wdr, ma_wdl, ma_wdn] <;> omega)) only [↓reduceIte, evK, evL, evS, evA, evJ, Option.bind_some, Option.toList, List.cons_append, List.nil_append, nI_add, pk_mul, bI0, ite_not, ev_rbb, up_n, up_s, up_u, pk_us, pk_un, Nat.reduceAdd, nI_ltT, nI_ltF, nI_leT, nI_leF, nI_eqT, nI_eqF, bk_Thought_bestLook, gfC, hw, ce_Thought_greatestGroup, G]
      · rw [show arF g (i + 1) = arF g i from if_neg z]
        simp (disch := first | assumption | omega | decide | (simp only [ma_wd0, ma_wdi, ma_wdr, ma_wdl, ma_wdn] <;> omega)) only [↓reduceIte, evK, evL, evS, evA, evJ, Option.bind_some, Option.toList, List.cons_append, List.nil_append, nI_add, pk_mul, bI0, ite_not, ev_rbb, up_n, up_s, up_u, pk_us, pk_un, Nat.reduceAdd, nI_ltT, nI_ltF, nI_leT, nI_leF, nI_eqT, nI_eqF, bk_Thought_bestLook, gfC, hw, ce_Thought_greatestGroup, G]) (W - 1) 1 () () c c (by omega) ⟨by omega, rfl⟩
  rw [show arF g 1 = 0 by simp [arF]] at e1
  simp (disch := first | assumption | omega | decide | (simp only [ma_wd0, ma_wdi, ma_wdr, ma_wdl, ma_wdn] <;> omega)) only [↓reduceIte, evK, evL, evS, evA, evJ, Option.bind_some, Option.toList, List.cons_append, List.nil_append, nI_add, pk_mul, bI0, ite_not, ev_rbb, up_n, up_s, up_u, pk_us, pk_un, Nat.reduceAdd, nI_ltT, nI_ltF, nI_leT, nI_leF, nI_eqT, nI_eqF, en_Thought_bestLook, e1]
  rw [bh_Thought_bestLook_4]
  simp (disch := first | assumption | omega | decide | (simp only [ma_wd0, ma_wdi, ma_wdr, ma_wdl, ma_wdn] <;> omega)) only [↓reduceIte, evK, evL, evS, evA, evJ, Option.bind_some, Option.toList, List.cons_append, List.nil_append, nI_add, pk_mul, bI0, ite_not, ev_rbb, up_n, up_s, up_u, pk_us, pk_un, Nat.reduceAdd, nI_ltT, nI_ltF, nI_leT, nI_leF, nI_eqT, nI_eqF, bk_Thought_bestLook, gfC, hw]
theorem p_lifted (d : Nat) (b : Int32) (h : gR c m) : pub sc w (d + 20) 31 267 [.int b] c m := by
  obtain ⟨W, S, Q, ls, Z, g⟩ := h.e
  obtain ⟨t, j, -, -, -⟩ := id g
  have hW := t.1.2.2.2
  have hW3 := t.1.2.2.1
  have hS := t.2.2.1.2.2.1
  by_cases h1 : nI 0 ≤ b ∧ b ≤ nI 2
  · obtain ⟨wh, -, hwh, rfl⟩ := rng (by omega) h1.1 h1.2 (by omega)
    obtain ⟨c1, E1, fc1, v1⟩ := t_emptyDusks (sc := sc) (c := c) (w := w) (d + 18) t.1.2.1 hW
    have T := fun c => t_MO_thinks (sc := sc) (c := c) (m := va_up m 138 (upd (m 138) 0 (nI 0))) (w := w) (d + 19)
    generalize hm0 : va_up (va_up (va_up m 138 (upd (m 138) 0 (nI 0))) 141 (cpN (va_up m 138 (upd (m 138) 0 (nI 0)) 139) (va_up m 138 (upd (m 138) 0 (nI 0)) 141) 49)) 138 (upd (upd (upd (va_up m 138 (upd (m 138) 0 (nI 0)) 138) 5 (nI 1)) 44 (-1)) 45 (-1)) = m0 at T
    have r0 : ∀ k, k ≠ 138 → k ≠ 141 → m0 k = m k := fun k a b => by rw [← hm0]; simp (disch := first | assumption | omega | decide | (simp only [ma_wd0, ma_wdi, ma_wdr, ma_wdl, ma_wdn] <;> omega)) only [up_n, up_s, up_u, pk_us, pk_un, Nat.reduceAdd]
    have f0 : ∀ k, k ≠ 0 → k ≠ 5 → k ≠ 44 → k ≠ 45 → m0 138 k = m 138 k := fun k a b c d => by rw [← hm0]; simp (disch := first | assumption | omega | decide | (simp only [ma_wd0, ma_wdi, ma_wdr, ma_wdl, ma_wdn] <;> omega)) only [up_n, up_s, up_u, pk_us, pk_un, Nat.reduceAdd]
    have a0 : ∀ k, k < 49 → m0 141 k = m 139 k := fun k hk => by
      rw [← hm0]
      simp (disch := first | assumption | omega | decide | (simp only [ma_wd0, ma_wdi, ma_wdr, ma_wdl, ma_wdn] <;> omega)) only [up_n, up_s, up_u, pk_us, pk_un, Nat.reduceAdd]
      simp only [cpN]
      rw [if_pos hk]
    have b0 : m0 138 5 = nI 1 := by rw [← hm0]; simp (disch := first | assumption | omega | decide | (simp only [ma_wd0, ma_wdi, ma_wdr, ma_wdl, ma_wdn] <;> omega)) only [up_n, up_s, up_u, pk_us, pk_un, Nat.reduceAdd]
    generalize hm1 : va_up m0 138 (upd (m0 138) 50 (nI 0)) = m1
    have r1 : ∀ k, k ≠ 138 → k ≠ 141 → m1 k = m k := fun k a b => by rw [← hm1, up_n _ _ _ _ a]; exact r0 k a b
    have f1 : ∀ k, k ≠ 0 → k ≠ 5 → k ≠ 44 → k ≠ 45 → k ≠ 50 → m1 138 k = m 138 k := fun k a b c d e => by rw [← hm1, up_s, pk_un e]; exact f0 k a b c d
    have t1 : tR W S Q ls c1 m1 := by
      refine t.eq (fun k hk => fc1 k ?_) (fun k hk => r1 k ?_ ?_) (fun k hk => f1 k ?_ ?_ ?_ ?_ ?_)
      · simp only [tRc, List.mem_cons, List.not_mem_nil, or_false] at hk; omega
      all_goals first | (simp only [tRm, List.mem_cons, List.not_mem_nil, or_false] at hk; omega) | (simp only [tRf, List.mem_cons, List.not_mem_nil, or_false] at hk; omega)
    have z1 : zC 17 c1 Z S := j.1.eq (fun k a b => fc1 k (by omega))
    have zm1 : zM m1 Z S := j.2.1.eq hS (fun k hk => by rw [r1 139 (by omega) (by omega)])
    have h23 : ∀ k, k < 600 → c1 23 k = m1 145 k := fun k hk => by rw [fc1 23 (by omega), r1 145 (by omega) (by omega)]; exact j.2.2.2.1 k hk
    have h5 : m1 138 5 = nI 1 := by rw [← hm1, up_s, pk_un (by omega)]; exact b0
    have h41 : ∀ k, k < 49 → m1 141 k = m1 139 k := fun k hk => by rw [r1 139 (by omega) (by omega), ← hm1, up_n _ _ _ _ (by omega)]; exact a0 k hk
    have h50 : m1 138 50 = nI 0 := by rw [← hm1, up_s, pk_us]
    obtain ⟨fit, c2, m2, e1, e2, fc2, hM, hv⟩ := j_lifts (sc := sc) (w := w) d wh hwh t1 z1 zm1 j.2.2.1 h23 h5 h41 h50 v1
    have hle := FA_le fit 41
    generalize FA fit 41 = fa at e1 e2 hM hv hle
    obtain ⟨n, a⟩ := fa
    simp only at e1 e2 hM hv hle
    have hM50 := hM.2.2.2.1
    have out : ∀ m3, liM W n a m1 m3 → gR c2 (va_up (va_up m3 139 (cpN (m3 141) (m3 139) 49)) 138 (upd (m3 138) 5 (nI 0))) := fun m3 h3 => by
      refine think_out g (fun k hk => ?_) (fun k hk => ?_) (fun k hk => ?_) (fun k q1 q2 q3 q4 q5 q6 q7 => ?_) (fun k hk => ?_)
      · rw [fc2 k (by omega), fc1 k (by omega)]
      · rw [up_n _ _ _ _ (by omega), up_s]
        simp only [cpN]
        rw [if_pos hk, h3.1 141 (by omega) (by omega) (by omega) (by omega) (by omega) (by omega), h41 k hk, r1 139 (by omega) (by omega)]
      · rw [up_n _ _ _ _ (by omega), up_n _ _ _ _ (by omega), h3.1 145 (by omega) (by omega) (by omega) (by omega) (by omega) (by omega), r1 145 (by omega) (by omega)]
      · rw [up_n _ _ _ _ (by omega), up_n _ _ _ _ (by omega), h3.1 k (by omega) (by omega) q4 q5 q6 q7, r1 k (by omega) q2]
      · simp only [fE, List.mem_cons, List.not_mem_nil, or_false] at hk
        rw [up_s]
        by_cases e : k = 5
        · rw [e, pk_us]; exact j.t17.symm
        · rw [pk_un e, h3.2.1 k (by omega)]; exact f1 k (by omega) e (by omega) (by omega) (by omega)
    have EL : ∀ m0, ev sc (d + 19) 103 (pm_blk 103 13) [some (.ref 103), some (.int (nI wh)), some (.int (nI 0)), some (.int (-100)), some (.int (-20))] [] (hp c1 w m0) = ev sc (d + 19) 103 (pm_blk 103 13) [some (.ref 103), some (.int (nI wh)), some (.int (nI n)), some (.int (leF (n, a))), some (.int (bV 41))] [] (hp c2 w m0) := by
      rw [bV_0] at e1
      exact e1
    have EM : ∀ c0, cc sc (d + 19) 268 [.ref 138] (hp c0 w m0) = some (none, hp c0 w m2) := by
      intro c0
      rw [bV_0] at e2
      simp (disch := first | assumption | omega | decide | (simp only [ma_wd0, ma_wdi, ma_wdr, ma_wdl, ma_wdn] <;> omega)) only [↓reduceIte, evK, evL, evS, evA, evJ, Option.bind_some, Option.toList, List.cons_append, List.nil_append, nI_add, pk_mul, bI0, ite_not, ev_rbb, up_n, up_s, up_u, pk_us, pk_un, Nat.reduceAdd, nI_ltT, nI_ltF, nI_leT, nI_leF, nI_eqT, nI_eqF, en_MO_findsFitting, pfM, hm1, e2]
      rw [bh_MO_findsFitting_8]
      simp (disch := first | assumption | omega | decide | (simp only [ma_wd0, ma_wdi, ma_wdr, ma_wdl, ma_wdn] <;> omega)) only [↓reduceIte, evK, evL, evS, evA, evJ, Option.bind_some, Option.toList, List.cons_append, List.nil_append, nI_add, pk_mul, bI0, ite_not, ev_rbb, up_n, up_s, up_u, pk_us, pk_un, Nat.reduceAdd, nI_ltT, nI_ltF, nI_leT, nI_leF, nI_eqT, nI_eqF, bk_MO_findsFitting, bV_41]
    have X := fun c m => t_MO_endsThought (sc := sc) (c := c) (m := m) (w := w) (d + 19)
    rcases (show wh = 0 ∨ wh = 1 ∨ wh = 2 by omega) with rfl | rfl | rfl
    · refine ⟨c2, _, nI n, fun m0 => ?_, fun c0 => ?_, out m2 hM⟩
      · simp (disch := first | assumption | omega | decide | (simp only [ma_wd0, ma_wdi, ma_wdr, ma_wdl, ma_wdn] <;> omega)) only [↓reduceIte, evK, evL, evS, evA, evJ, Option.bind_some, Option.toList, List.cons_append, List.nil_append, nI_add, pk_mul, bI0, ite_not, ev_rbb, up_n, up_s, up_u, pk_us, pk_un, Nat.reduceAdd, nI_ltT, nI_ltF, nI_leT, nI_leF, nI_eqT, nI_eqF, en_LH_lifted, bk_LH_lifted, gfC, ce_LH_within, t_LH_within, h1, and_self, not_true_eq_false, ce_Thought_lifts, en_Thought_lifts, ce_Thought_emptyDusks, E1, EL]
        rw [bh_Thought_lifts_13]
        simp (disch := first | assumption | omega | decide | (simp only [ma_wd0, ma_wdi, ma_wdr, ma_wdl, ma_wdn] <;> omega)) only [↓reduceIte, evK, evL, evS, evA, evJ, Option.bind_some, Option.toList, List.cons_append, List.nil_append, nI_add, pk_mul, bI0, ite_not, ev_rbb, up_n, up_s, up_u, pk_us, pk_un, Nat.reduceAdd, nI_ltT, nI_ltF, nI_leT, nI_leF, nI_eqT, nI_eqF, bk_Thought_lifts, bV_41]
      · simp (disch := first | assumption | omega | decide | (simp only [ma_wd0, ma_wdi, ma_wdr, ma_wdl, ma_wdn] <;> omega)) only [↓reduceIte, evK, evL, evS, evA, evJ, Option.bind_some, Option.toList, List.cons_append, List.nil_append, nI_add, pk_mul, bI0, ite_not, ev_rbb, up_n, up_s, up_u, pk_us, pk_un, Nat.reduceAdd, nI_ltT, nI_ltF, nI_leT, nI_leF, nI_eqT, nI_eqF, en_MO_lifted, bk_MO_lifted, pfM, gfM, ce_MO_isIn, t_MO_isIn, h1, and_self, not_true_eq_false, ce_MO_thinks, T, ce_MO_findsFitting, EM, hM50, ce_MO_endsThought, X]
    · by_cases n0 : n = 0
      · refine ⟨c2, _, -100, fun m0 => ?_, fun c0 => ?_, out m2 hM⟩
        · simp (disch := first | assumption | omega | decide | (simp only [ma_wd0, ma_wdi, ma_wdr, ma_wdl, ma_wdn] <;> omega)) only [↓reduceIte, evK, evL, evS, evA, evJ, Option.bind_some, Option.toList, List.cons_append, List.nil_append, nI_add, pk_mul, bI0, ite_not, ev_rbb, up_n, up_s, up_u, pk_us, pk_un, Nat.reduceAdd, nI_ltT, nI_ltF, nI_leT, nI_leF, nI_eqT, nI_eqF, en_LH_lifted, bk_LH_lifted, gfC, ce_LH_within, t_LH_within, h1, and_self, not_true_eq_false, ce_Thought_lifts, en_Thought_lifts, ce_Thought_emptyDusks, E1, EL]
          rw [bh_Thought_lifts_13]
          simp (disch := first | assumption | omega | decide | (simp only [ma_wd0, ma_wdi, ma_wdr, ma_wdl, ma_wdn] <;> omega)) only [↓reduceIte, evK, evL, evS, evA, evJ, Option.bind_some, Option.toList, List.cons_append, List.nil_append, nI_add, pk_mul, bI0, ite_not, ev_rbb, up_n, up_s, up_u, pk_us, pk_un, Nat.reduceAdd, nI_ltT, nI_ltF, nI_leT, nI_leF, nI_eqT, nI_eqF, bk_Thought_lifts, bV_41, leF, n0]
        · simp (disch := first | assumption | omega | decide | (simp only [ma_wd0, ma_wdi, ma_wdr, ma_wdl, ma_wdn] <;> omega)) only [↓reduceIte, evK, evL, evS, evA, evJ, Option.bind_some, Option.toList, List.cons_append, List.nil_append, nI_add, pk_mul, bI0, ite_not, ev_rbb, up_n, up_s, up_u, pk_us, pk_un, Nat.reduceAdd, nI_ltT, nI_ltF, nI_leT, nI_leF, nI_eqT, nI_eqF, en_MO_lifted, bk_MO_lifted, pfM, gfM, ce_MO_isIn, t_MO_isIn, h1, and_self, not_true_eq_false, ce_MO_thinks, T, ce_MO_findsFitting, EM, hM50, n0, ce_MO_endsThought, X]
      · have e162 := hM.2.2.2.2 0 (by omega)
        refine ⟨c2, _, a 0, fun m0 => ?_, fun c0 => ?_, out m2 hM⟩
        · simp (disch := first | assumption | omega | decide | (simp only [ma_wd0, ma_wdi, ma_wdr, ma_wdl, ma_wdn] <;> omega)) only [↓reduceIte, evK, evL, evS, evA, evJ, Option.bind_some, Option.toList, List.cons_append, List.nil_append, nI_add, pk_mul, bI0, ite_not, ev_rbb, up_n, up_s, up_u, pk_us, pk_un, Nat.reduceAdd, nI_ltT, nI_ltF, nI_leT, nI_leF, nI_eqT, nI_eqF, en_LH_lifted, bk_LH_lifted, gfC, ce_LH_within, t_LH_within, h1, and_self, not_true_eq_false, ce_Thought_lifts, en_Thought_lifts, ce_Thought_emptyDusks, E1, EL]
          rw [bh_Thought_lifts_13]
          simp (disch := first | assumption | omega | decide | (simp only [ma_wd0, ma_wdi, ma_wdr, ma_wdl, ma_wdn] <;> omega)) only [↓reduceIte, evK, evL, evS, evA, evJ, Option.bind_some, Option.toList, List.cons_append, List.nil_append, nI_add, pk_mul, bI0, ite_not, ev_rbb, up_n, up_s, up_u, pk_us, pk_un, Nat.reduceAdd, nI_ltT, nI_ltF, nI_leT, nI_leF, nI_eqT, nI_eqF, bk_Thought_lifts, bV_41, leF, n0]
        · simp (disch := first | assumption | omega | decide | (simp only [ma_wd0, ma_wdi, ma_wdr, ma_wdl, ma_wdn] <;> omega)) only [↓reduceIte, evK, evL, evS, evA, evJ, Option.bind_some, Option.toList, List.cons_append, List.nil_append, nI_add, pk_mul, bI0, ite_not, ev_rbb, up_n, up_s, up_u, pk_us, pk_un, Nat.reduceAdd, nI_ltT, nI_ltF, nI_leT, nI_leF, nI_eqT, nI_eqF, en_MO_lifted, bk_MO_lifted, pfM, gfM, ldM, ce_MO_isIn, t_MO_isIn, h1, and_self, not_true_eq_false, ce_MO_thinks, T, ce_MO_findsFitting, EM, hM50, n0, e162, ce_MO_endsThought, X]
    · by_cases n2 : 2 ≤ n
      · have hw2 : c2 1 0 = nI W := by rw [fc2 1 (by omega), fc1 1 (by omega)]; exact t.1.2.1
        have BC := fun m => t_Thought_bestLook (sc := sc) (c := c2) (m := m) (w := w) (d + 16) (fun x h => cntA (fun b => dkN ls W (liZ W b Z) x) a n h) hW3 hW hw2 (fun x h => Nat.le_trans (cntA_le _ _ _ _) hle) (hv rfl)
        obtain ⟨m3, BM, hM3⟩ := t_MO_bestLook (sc := sc) (w := w) (d + 11) n a hle n2 t1 z1 zm1 j.2.2.1 h23 h5 h41 hM
        refine ⟨c2, _, nI (arF (fun x => mxF (cntA (fun b => dkN ls W (liZ W b Z) x) a n) 25) W), fun m0 => ?_, fun c0 => ?_, out m3 hM3⟩
        · simp (disch := first | assumption | omega | decide | (simp only [ma_wd0, ma_wdi, ma_wdr, ma_wdl, ma_wdn] <;> omega)) only [↓reduceIte, evK, evL, evS, evA, evJ, Option.bind_some, Option.toList, List.cons_append, List.nil_append, nI_add, pk_mul, bI0, ite_not, ev_rbb, up_n, up_s, up_u, pk_us, pk_un, Nat.reduceAdd, nI_ltT, nI_ltF, nI_leT, nI_leF, nI_eqT, nI_eqF, en_LH_lifted, bk_LH_lifted, gfC, ce_LH_within, t_LH_within, h1, and_self, not_true_eq_false, ce_Thought_lifts, en_Thought_lifts, ce_Thought_emptyDusks, E1, EL]
          rw [bh_Thought_lifts_13]
          simp (disch := first | assumption | omega | decide | (simp only [ma_wd0, ma_wdi, ma_wdr, ma_wdl, ma_wdn] <;> omega)) only [↓reduceIte, evK, evL, evS, evA, evJ, Option.bind_some, Option.toList, List.cons_append, List.nil_append, nI_add, pk_mul, bI0, ite_not, ev_rbb, up_n, up_s, up_u, pk_us, pk_un, Nat.reduceAdd, nI_ltT, nI_ltF, nI_leT, nI_leF, nI_eqT, nI_eqF, bk_Thought_lifts, bV_41, ce_Thought_bestLook, BC]
        · simp (disch := first | assumption | omega | decide | (simp only [ma_wd0, ma_wdi, ma_wdr, ma_wdl, ma_wdn] <;> omega)) only [↓reduceIte, evK, evL, evS, evA, evJ, Option.bind_some, Option.toList, List.cons_append, List.nil_append, nI_add, pk_mul, bI0, ite_not, ev_rbb, up_n, up_s, up_u, pk_us, pk_un, Nat.reduceAdd, nI_ltT, nI_ltF, nI_leT, nI_leF, nI_eqT, nI_eqF, en_MO_lifted, bk_MO_lifted, pfM, gfM, ce_MO_isIn, t_MO_isIn, h1, and_self, not_true_eq_false, ce_MO_thinks, T, ce_MO_findsFitting, EM, hM50, ce_MO_bestLook, BM, ce_MO_endsThought, X]
      · refine ⟨c2, _, -1, fun m0 => ?_, fun c0 => ?_, out m2 hM⟩
        · simp (disch := first | assumption | omega | decide | (simp only [ma_wd0, ma_wdi, ma_wdr, ma_wdl, ma_wdn] <;> omega)) only [↓reduceIte, evK, evL, evS, evA, evJ, Option.bind_some, Option.toList, List.cons_append, List.nil_append, nI_add, pk_mul, bI0, ite_not, ev_rbb, up_n, up_s, up_u, pk_us, pk_un, Nat.reduceAdd, nI_ltT, nI_ltF, nI_leT, nI_leF, nI_eqT, nI_eqF, en_LH_lifted, bk_LH_lifted, gfC, ce_LH_within, t_LH_within, h1, and_self, not_true_eq_false, ce_Thought_lifts, en_Thought_lifts, ce_Thought_emptyDusks, E1, EL]
          rw [bh_Thought_lifts_13]
          simp (disch := first | assumption | omega | decide | (simp only [ma_wd0, ma_wdi, ma_wdr, ma_wdl, ma_wdn] <;> omega)) only [↓reduceIte, evK, evL, evS, evA, evJ, Option.bind_some, Option.toList, List.cons_append, List.nil_append, nI_add, pk_mul, bI0, ite_not, ev_rbb, up_n, up_s, up_u, pk_us, pk_un, Nat.reduceAdd, nI_ltT, nI_ltF, nI_leT, nI_leF, nI_eqT, nI_eqF, bk_Thought_lifts, bV_41]
        · simp (disch := first | assumption | omega | decide | (simp only [ma_wd0, ma_wdi, ma_wdr, ma_wdl, ma_wdn] <;> omega)) only [↓reduceIte, evK, evL, evS, evA, evJ, Option.bind_some, Option.toList, List.cons_append, List.nil_append, nI_add, pk_mul, bI0, ite_not, ev_rbb, up_n, up_s, up_u, pk_us, pk_un, Nat.reduceAdd, nI_ltT, nI_ltF, nI_leT, nI_leF, nI_eqT, nI_eqF, en_MO_lifted, bk_MO_lifted, pfM, gfM, ce_MO_isIn, t_MO_isIn, h1, and_self, not_true_eq_false, ce_MO_thinks, T, ce_MO_findsFitting, EM, hM50, ce_MO_bestLook, en_MO_bestLook, bk_MO_bestLook, ce_MO_endsThought, X]
  · refine ⟨c, _, -100, fun m0 => ?_, fun c0 => ?_, h.q0⟩
    · simp (disch := first | assumption | omega | decide | (simp only [ma_wd0, ma_wdi, ma_wdr, ma_wdl, ma_wdn] <;> omega)) only [↓reduceIte, evK, evL, evS, evA, evJ, Option.bind_some, Option.toList, List.cons_append, List.nil_append, nI_add, pk_mul, bI0, ite_not, ev_rbb, up_n, up_s, up_u, pk_us, pk_un, Nat.reduceAdd, nI_ltT, nI_ltF, nI_leT, nI_leF, nI_eqT, nI_eqF, en_LH_lifted, bk_LH_lifted, gfC, ce_LH_within, t_LH_within, h1, not_false_eq_true]
    · simp (disch := first | assumption | omega | decide | (simp only [ma_wd0, ma_wdi, ma_wdr, ma_wdl, ma_wdn] <;> omega)) only [↓reduceIte, evK, evL, evS, evA, evJ, Option.bind_some, Option.toList, List.cons_append, List.nil_append, nI_add, pk_mul, bI0, ite_not, ev_rbb, up_n, up_s, up_u, pk_us, pk_un, Nat.reduceAdd, nI_ltT, nI_ltF, nI_leT, nI_leF, nI_eqT, nI_eqF, en_MO_lifted, bk_MO_lifted, pfM, ce_MO_isIn, t_MO_isIn, h1, not_false_eq_true]
end PN
