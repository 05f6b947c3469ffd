/-! ===== lifted: the loops, the best look ===== -/
/-- the first column with the least, among the first n -/
def arF (g : Nat → Nat) : Nat → Nat
  | 0 => 0
  | n + 1 => if g n < g (arF g n) then n else arF g n
theorem arF_lt (g : Nat → Nat) : ∀ n, 0 < n → arF g n < n
  | 0, h => by omega
  | n + 1, _ => by
    unfold arF
    split
    · omega
    · rcases Nat.eq_zero_or_pos n with z | z
      · subst z; simp [arF]
      · have := arF_lt g n z; omega
section PM
variable {sc : Nat × (Nat → Int32)} {W S Q : Nat} {ls : List lL} {c m c1 m1 Z Zb : Nat → Nat → Int32} {w : Nat → Int64}
theorem FA_t {fit : Nat → Bool} {i : Nat} (h : fit i = true) : FA fit (i + 1) = ((FA fit i).1 + 1, upd (FA fit i).2 (FA fit i).1 (bV i)) := if_pos h
theorem FA_f {fit : Nat → Bool} {i : Nat} (h : ¬ fit i = true) : FA fit (i + 1) = FA fit i := if_neg h
theorem tR.li {n : Nat} {a : Nat → Int32} (t : tR W S Q ls c1 m1) (h : ∀ k, k ≤ 93 → c k = c1 k) (hM : liM W n a m1 m) : tR W S Q ls c m := by
  refine t.eq (fun k hk => h k ?_) (fun k hk => hM.1 k ?_ ?_ ?_ ?_ ?_ ?_) (fun k hk => hM.2.1 k ?_)
  · simp only [tRc, List.mem_cons, List.not_mem_nil, or_false] at hk; omega
  all_goals first | (simp only [tRm, List.mem_cons, List.not_mem_nil, or_false] at hk; omega) | (simp only [tRf, List.mem_cons, List.not_mem_nil, or_false] at hk; omega)
/-- one lift of both -/
theorem j_lift1 (d d' : Nat) (b : Int32) {n : Nat} {a : Nat → Int32} (t : tR W S Q ls c1 m1) (hz : zC 17 c1 Z S) (hm : zM m1 Z S) (hi : zI W S Z) (h23 : ∀ j, j < 600 → c1 23 j = m1 145 j) (h5 : m1 138 5 = nI 1) (h41 : ∀ k, k < 49 → m1 141 k = m1 139 k) (h : ∀ k, k ≤ 93 → c k = c1 k) (hM : liM W n a m1 m) : ∃ c' m', (∀ m0, cc sc (d + 10) 105 [.ref 103, .int b] (hp c w m0) = some (none, hp c' w m0)) ∧ (∀ c0, cc sc (d' + 1) 269 [.ref 138, .int b] (hp c0 w m) = some (none, hp c0 w m')) ∧ (∀ k, k < 97 ∨ 101 < k → c' k = c k) ∧ liM W n a m1 m' ∧ jR 97 W S c' m' (liZ W b Z) ∧ m' 163 = m 163 := by
  have hS := t.2.2.1.2.2.1
  have hW := t.1.2.2.2
  have tt := t.li h hM
  obtain ⟨c', e1, z1, f1⟩ := t_liftSpare (sc := sc) (w := w) d b (c := c) (Z := Z) (S := S) (W := W) (hz.eq (fun k a b => h k (by omega))) hS tt.1.2.1 hW
  have e2 := fun c0 => t_liftsThought (sc := sc) (c := c0) (w := w) d' b tt.2.1.2.1 hW
  have hM41 : ∀ k, k < 49 → m 141 k = m1 139 k := fun k hk => by rw [hM.1 141 (by omega) (by omega) (by omega) (by omega) (by omega) (by omega)]; exact h41 k hk
  have z2 := zM.li (b := b) hm hS hW hM41 hM.2.2.1
  refine ⟨c', _, e1, e2, f1, ⟨fun r a1 a2 a3 a4 a5 a6 => ?_, fun f hf => ?_, fun k hk => ?_, ?_, fun j hj => ?_⟩, ⟨z1, z2, hi.li hW, fun j hj => ?_, Or.inr ⟨rfl, ?_⟩⟩, ?_⟩
  · rw [up_n _ _ _ _ a2]; exact hM.1 r a1 a2 a3 a4 a5 a6
  · rw [up_n _ _ _ _ (by omega)]; exact hM.2.1 f hf
  · rw [up_s, if_neg (by omega)]; exact hM.2.2.1 k hk
  · rw [up_n _ _ _ _ (by omega)]; exact hM.2.2.2.1
  · rw [up_n _ _ _ _ (by omega)]; exact hM.2.2.2.2 j hj
  · rw [f1 23 (by omega), h 23 (by omega), up_n _ _ _ _ (by omega), hM.1 145 (by omega) (by omega) (by omega) (by omega) (by omega) (by omega)]
    exact h23 j hj
  · rw [up_n _ _ _ _ (by omega), hM.2.1 5 (by omega)]; exact h5
  · rw [up_n _ _ _ _ (by omega)]
theorem liM.jk {n : Nat} {a g f : Nat → Int32} (h : liM W n a m1 m) : liM W n a m1 (va_up (va_up m 158 g) 159 f) := by
  refine ⟨fun r a1 a2 a3 a4 a5 a6 => ?_, fun f hf => ?_, fun k hk => ?_, ?_, fun j hj => ?_⟩
  · rw [up_n _ _ _ _ a4, up_n _ _ _ _ a3]; exact h.1 r a1 a2 a3 a4 a5 a6
  · rw [up_n _ _ _ _ (by omega), up_n _ _ _ _ (by omega)]; exact h.2.1 f hf
  · rw [up_n _ _ _ _ (by omega), up_n _ _ _ _ (by omega)]; exact h.2.2.1 k hk
  · rw [up_n _ _ _ _ (by omega), up_n _ _ _ _ (by omega)]; exact h.2.2.2.1
  · rw [up_n _ _ _ _ (by omega), up_n _ _ _ _ (by omega)]; exact h.2.2.2.2 j hj
theorem leF_t {fit : Nat → Bool} {i : Nat} (h : fit i = true) : leF (FA fit (i + 1)) = if (FA fit i).1 = 0 then bV i else leF (FA fit i) := by
  rw [FA_t h]
  unfold leF
  simp only
  rw [if_neg (by omega)]
  by_cases z : (FA fit i).1 = 0
  · rw [if_pos z, z, pk_us]
  · rw [if_neg z, if_neg z, pk_un (by omega)]
/-- all lifts, the fitting ones found -/
theorem j_lifts (d wh : Nat) (hwh : wh ≤ 2) (t : tR W S Q ls c1 m1) (hz : zC 17 c1 Z S) (hm : zM m1 Z S) (hi : zI W S Z) (h23 : ∀ j, j < 600 → c1 23 j = m1 145 j) (h5 : m1 138 5 = nI 1) (h41 : ∀ k, k < 49 → m1 141 k = m1 139 k) (h50 : m1 138 50 = nI 0) (h0 : ∀ x, x < W → ∀ h, h < 25 → c1 (122 + x) h = nI 0) :
    ∃ (fit : Nat → Bool) (c' m' : Nat → Nat → Int32), (∀ m0, ev sc (d + 19) 103 (pm_blk 103 13) [some (.ref 103), some (.int (nI wh)), some (.int (nI 0)), some (.int (-100)), some (.int (bV 0))] [] (hp c1 w m0) = ev sc (d + 19) 103 (pm_blk 103 13) [some (.ref 103), some (.int (nI wh)), some (.int (nI (FA fit 41).1)), some (.int (leF (FA fit 41))), some (.int (bV 41))] [] (hp c' w m0)) ∧
    (∀ c0, ev sc (d + 19) 268 (pm_blk 268 8) [some (.ref 138), some (.int (bV 0))] [] (hp c0 w m1) = ev sc (d + 19) 268 (pm_blk 268 8) [some (.ref 138), some (.int (bV 41))] [] (hp c0 w m')) ∧ (∀ k, k ≤ 93 → c' k = c1 k) ∧ liM W (FA fit 41).1 (FA fit 41).2 m1 m' ∧ (wh = 2 → ∀ x, x < W → ∀ h, h < 25 → c' (122 + x) h = nI (cntA (fun b => dkN ls W (liZ W b Z) x) (FA fit 41).2 (FA fit 41).1 h)) := by
  have hS := t.2.2.1.2.2.1
  have hW := t.1.2.2.2
  obtain ⟨n, hn8, n1, n2, hu⟩ := t.2.2.2.2.2.1
  refine ⟨fun i => fitF (fun x => duskS ls W (zH (liZ W (bV i) Z)) (zN (liZ W (bV i) Z)) (liZ W (bV i) Z 0 0) x) (c1 5) (c1 6) n 0, ?_⟩
  generalize hfit : (fun i => fitF (fun x => duskS ls W (zH (liZ W (bV i) Z)) (zN (liZ W (bV i) Z)) (liZ W (bV i) Z 0 0) x) (c1 5) (c1 6) n 0) = fit
  have hfe : ∀ i, fitF (fun x => duskS ls W (zH (liZ W (bV i) Z)) (zN (liZ W (bV i) Z)) (liZ W (bV i) Z 0 0) x) (c1 5) (c1 6) n 0 = fit i := fun i => by rw [← hfit]
  obtain ⟨-, -, c', m', e1, e2, h1, h2, h3⟩ := sim_loop (w := w) 41 (fun i (s : Unit) h => ev sc (d + 19) 103 (pm_blk 103 13) [some (.ref 103), some (.int (nI wh)), some (.int (nI (FA fit i).1)), some (.int (leF (FA fit i))), some (.int (bV i))] [] h)
    (fun i (s : Unit) h => ev sc (d + 19) 268 (pm_blk 268 8) [some (.ref 138), some (.int (bV i))] [] h)
    (fun i s t c' m' => (∀ k, k ≤ 93 → c' k = c1 k) ∧ liM W (FA fit i).1 (FA fit i).2 m1 m' ∧ (wh = 2 → ∀ x, x < W → ∀ h, h < 25 → c' (122 + x) h = nI (cntA (fun b => dkN ls W (liZ W b Z) x) (FA fit i).2 (FA fit i).1 h))) (by
      rintro i s s' c m hi' ⟨hc, hM, hv⟩
      have hle := FA_le fit i
      have hb := bV_le i hi'
      obtain ⟨c2, m2, l1, l2, fc2, hM2, j2, -⟩ := j_lift1 (sc := sc) (w := w) (d + 8) (d + 17) (bV i) t hz hm hi h23 h5 h41 hc hM
      have hc2 : ∀ k, k ≤ 93 → c2 k = c1 k := fun k hk => by rw [fc2 k (by omega), hc k hk]
      have tt := t.li hc2 hM2
      obtain ⟨g, f, g', f', i1, i2⟩ := fits_loop (sc := sc) (w := w) (d + 15) (d + 12) n (c1 5) (c1 6) hn8 n 0 c2 m2 (by omega) tt j2 (hc2 5 (by omega)) (hc2 6 (by omega)) (by rw [hc2 1 (by omega)]; exact n1) (by rw [hM2.2.1 47 (by omega)]; exact n2) (by
        rw [hc2 5 (by omega), hc2 6 (by omega), hM2.1 161 (by omega) (by omega) (by omega) (by omega) (by omega) (by omega)]
        exact hu)
      rw [hfe] at i1 i2
      have hM3 := hM2.jk (g := g') (f := f')
      have hc3 : ∀ k, k ≤ 93 → va_up (va_up c2 94 g) 95 f k = c1 k := fun k hk => by rw [up_n _ _ _ _ (by omega), up_n _ _ _ _ (by omega)]; exact hc2 k hk
      have hv3 : wh = 2 → ∀ x, x < W → ∀ h, h < 25 → va_up (va_up c2 94 g) 95 f (122 + x) h = nI (cntA (fun b => dkN ls W (liZ W b Z) x) (FA fit i).2 (FA fit i).1 h) := fun hw2 x hx h hh => by
        rw [up_n _ _ _ _ (by omega), up_n _ _ _ _ (by omega), fc2 _ (by omega)]
        exact hv hw2 x hx h hh
      by_cases hf : fit i = true
      · have e50 : va_up (va_up m2 158 g') 159 f' 138 50 = nI (FA fit i).1 := hM3.2.2.2.1
        have hM4 : liM W (FA fit (i + 1)).1 (FA fit (i + 1)).2 m1 (va_up (va_up (va_up (va_up m2 158 g') 159 f') 162 (upd (m2 162) (FA fit i).1 (bV i))) 138 (upd (m2 138) 50 (nI ((FA fit i).1 + 1)))) := by
          rw [FA_t hf]
          refine ⟨fun r a1 a2 a3 a4 a5 a6 => ?_, fun f hf => ?_, fun k hk => ?_, ?_, fun j hj => ?_⟩
          · simp (disch := first | assumption | omega | decide | (simp only [ma_wd0, ma_wdi, ma_wdr, ma_wdl, ma_wdn] <;> omega)) only [up_n, up_s, up_u, pk_us, pk_un, Nat.reduceAdd]
            exact hM2.1 r a1 a2 a3 a4 a5 a6
          · simp (disch := first | assumption | omega | decide | (simp only [ma_wd0, ma_wdi, ma_wdr, ma_wdl, ma_wdn] <;> omega)) only [up_n, up_s, up_u, pk_us, pk_un, Nat.reduceAdd]
            exact hM2.2.1 f hf
          · simp (disch := first | assumption | omega | decide | (simp only [ma_wd0, ma_wdi, ma_wdr, ma_wdl, ma_wdn] <;> omega)) only [up_n, up_s, up_u, pk_us, pk_un, Nat.reduceAdd]
            exact hM2.2.2.1 k hk
          · simp (disch := first | assumption | omega | decide | (simp only [ma_wd0, ma_wdi, ma_wdr, ma_wdl, ma_wdn] <;> omega)) only [up_n, up_s, up_u, pk_us, pk_un, Nat.reduceAdd]
          · simp (disch := first | assumption | omega | decide | (simp only [ma_wd0, ma_wdi, ma_wdr, ma_wdl, ma_wdn] <;> omega)) only [up_n, up_s, up_u, pk_us, pk_un, Nat.reduceAdd]
            by_cases z : j = (FA fit i).1
            · subst z; rw [pk_us, pk_us]
            · rw [pk_un z, pk_un z]; exact hM2.2.2.2.2 j (by simp only at hj; omega)
        have eM : ∀ c0, ev sc (d + 19) 268 (pm_blk 268 8) [some (.ref 138), some (.int (bV i))] [] (hp c0 w m) = ev sc (d + 19) 268 (pm_blk 268 8) [some (.ref 138), some (.int (bV (i + 1)))] [] (hp c0 w (va_up (va_up (va_up (va_up m2 158 g') 159 f') 162 (upd (m2 162) (FA fit i).1 (bV i))) 138 (upd (m2 138) 50 (nI ((FA fit i).1 + 1))))) := by
          intro c0
          have e50' := hM2.2.2.2.1
          conv => lhs; rw [bh_MO_findsFitting_8]
          simp (disch := first | assumption | omega | decide | (simp only [ma_wd0, ma_wdi, ma_wdr, ma_wdl, ma_wdn] <;> omega)) only [↓reduceIte, evK, evL, evS, evA, evJ, Option.bind_some, Option.toList, List.cons_append, List.nil_append, nI_add, pk_mul, bI0, ite_not, ev_rbb, up_n, up_s, up_u, pk_us, pk_un, Nat.reduceAdd, nI_ltT, nI_ltF, nI_leT, nI_leF, nI_eqT, nI_eqF, bk_MO_findsFitting, hb, ce_MO_liftsThought, l2, ce_MO_fitsLifted, en_MO_fitsLifted, i2, hf, not_true_eq_false, gfM, pfM, stM, e50', bV_s]
        have eC : ∀ (c5 : Nat → Nat → Int32), (wh = 2 → ∀ m0, cc sc (d + 18) 107 [.ref 103] (hp (va_up (va_up c2 94 g) 95 f) w m0) = some (none, hp c5 w m0)) → (wh ≠ 2 → c5 = va_up (va_up c2 94 g) 95 f) → ∀ m0, ev sc (d + 19) 103 (pm_blk 103 13) [some (.ref 103), some (.int (nI wh)), some (.int (nI (FA fit i).1)), some (.int (leF (FA fit i))), some (.int (bV i))] [] (hp c w m0) = ev sc (d + 19) 103 (pm_blk 103 13) [some (.ref 103), some (.int (nI wh)), some (.int (nI (FA fit (i + 1)).1)), some (.int (leF (FA fit (i + 1)))), some (.int (bV (i + 1)))] [] (hp c5 w m0) := by
          intro c5 q1 q2 m0
          rw [leF_t hf, FA_t hf]
          conv => lhs; rw [bh_Thought_lifts_13]
          by_cases hw2 : wh = 2
          · subst hw2
            have q1 := q1 rfl
            by_cases hn0 : (FA fit i).1 = 0
            · simp (disch := first | assumption | omega | decide | (simp only [ma_wd0, ma_wdi, ma_wdr, ma_wdl, ma_wdn] <;> omega)) only [↓reduceIte, evK, evL, evS, evA, evJ, Option.bind_some, Option.toList, List.cons_append, List.nil_append, nI_add, pk_mul, bI0, ite_not, ev_rbb, up_n, up_s, up_u, pk_us, pk_un, Nat.reduceAdd, nI_ltT, nI_ltF, nI_leT, nI_leF, nI_eqT, nI_eqF, bk_Thought_lifts, hb, ce_Thought_liftSpare, l1, ce_Thought_fitsSunsets, en_Thought_fitsSunsets, i1, hf, not_true_eq_false, hn0, ce_Thought_countDusks, q1, bV_s]
            · simp (disch := first | assumption | omega | decide | (simp only [ma_wd0, ma_wdi, ma_wdr, ma_wdl, ma_wdn] <;> omega)) only [↓reduceIte, evK, evL, evS, evA, evJ, Option.bind_some, Option.toList, List.cons_append, List.nil_append, nI_add, pk_mul, bI0, ite_not, ev_rbb, up_n, up_s, up_u, pk_us, pk_un, Nat.reduceAdd, nI_ltT, nI_ltF, nI_leT, nI_leF, nI_eqT, nI_eqF, bk_Thought_lifts, hb, ce_Thought_liftSpare, l1, ce_Thought_fitsSunsets, en_Thought_fitsSunsets, i1, hf, not_true_eq_false, hn0, ce_Thought_countDusks, q1, bV_s]
          · have q2 := q2 hw2
            subst q2
            by_cases hn0 : (FA fit i).1 = 0
            · simp (disch := first | assumption | omega | decide | (simp only [ma_wd0, ma_wdi, ma_wdr, ma_wdl, ma_wdn] <;> omega)) only [↓reduceIte, evK, evL, evS, evA, evJ, Option.bind_some, Option.toList, List.cons_append, List.nil_append, nI_add, pk_mul, bI0, ite_not, ev_rbb, up_n, up_s, up_u, pk_us, pk_un, Nat.reduceAdd, nI_ltT, nI_ltF, nI_leT, nI_leF, nI_eqT, nI_eqF, bk_Thought_lifts, hb, ce_Thought_liftSpare, l1, ce_Thought_fitsSunsets, en_Thought_fitsSunsets, i1, hf, not_true_eq_false, hn0, bV_s]
            · simp (disch := first | assumption | omega | decide | (simp only [ma_wd0, ma_wdi, ma_wdr, ma_wdl, ma_wdn] <;> omega)) only [↓reduceIte, evK, evL, evS, evA, evJ, Option.bind_some, Option.toList, List.cons_append, List.nil_append, nI_add, pk_mul, bI0, ite_not, ev_rbb, up_n, up_s, up_u, pk_us, pk_un, Nat.reduceAdd, nI_ltT, nI_ltF, nI_leT, nI_leF, nI_eqT, nI_eqF, bk_Thought_lifts, hb, ce_Thought_liftSpare, l1, ce_Thought_fitsSunsets, en_Thought_fitsSunsets, i1, hf, not_true_eq_false, hn0, bV_s]
        by_cases hw2 : wh = 2
        · have t3 := t.li hc3 hM3
          obtain ⟨c5, k1, k2, k3⟩ := t_countDusks (sc := sc) (w := w) (d + 14) (fun x h => cntA (fun b => dkN ls W (liZ W b Z) x) (FA fit i).2 (FA fit i).1 h) t3.1 (Zb := liZ W (bV i) Z) (S := S) ((j2.1.row g (by omega)).row f (by omega)) (hi.li hW) (hv3 hw2)
          refine ⟨(), (), c5, _, eC c5 (fun _ => k1) (fun z => absurd hw2 z), eM, fun k hk => by rw [k2 k hk]; exact hc3 k hk, hM4, fun _ x hx h hh => ?_⟩
          rw [k3 x hx h hh, FA_t hf]
          congr 1
          show _ = cntA (fun b => dkN ls W (liZ W b Z) x) (upd (FA fit i).2 (FA fit i).1 (bV i)) (FA fit i).1 h + if dkN ls W (liZ W (upd (FA fit i).2 (FA fit i).1 (bV i) (FA fit i).1) Z) x = h then 1 else 0
          rw [pk_us, cntA_congr (a' := (FA fit i).2) (FA fit i).1 h (fun j hj => pk_un (by omega))]
        · exact ⟨(), (), _, _, eC _ (fun z => absurd z hw2) (fun _ => rfl), eM, hc3, hM4, fun z => absurd z hw2⟩
      · refine ⟨(), (), va_up (va_up c2 94 g) 95 f, va_up (va_up m2 158 g') 159 f', fun m0 => ?_, fun c0 => ?_, hc3, ?_, ?_⟩
        · rw [FA_f hf]
          conv => lhs; rw [bh_Thought_lifts_13]
          simp (disch := first | assumption | omega | decide | (simp only [ma_wd0, ma_wdi, ma_wdr, ma_wdl, ma_wdn] <;> omega)) only [↓reduceIte, evK, evL, evS, evA, evJ, Option.bind_some, Option.toList, List.cons_append, List.nil_append, nI_add, pk_mul, bI0, ite_not, ev_rbb, up_n, up_s, up_u, pk_us, pk_un, Nat.reduceAdd, nI_ltT, nI_ltF, nI_leT, nI_leF, nI_eqT, nI_eqF, bk_Thought_lifts, hb, ce_Thought_liftSpare, l1, ce_Thought_fitsSunsets, en_Thought_fitsSunsets, i1, hf, not_false_eq_true, Bool.false_eq_true, bV_s]
        · conv => lhs; rw [bh_MO_findsFitting_8]
          simp (disch := first | assumption | omega | decide | (simp only [ma_wd0, ma_wdi, ma_wdr, ma_wdl, ma_wdn] <;> omega)) only [↓reduceIte, evK, evL, evS, evA, evJ, Option.bind_some, Option.toList, List.cons_append, List.nil_append, nI_add, pk_mul, bI0, ite_not, ev_rbb, up_n, up_s, up_u, pk_us, pk_un, Nat.reduceAdd, nI_ltT, nI_ltF, nI_leT, nI_leF, nI_eqT, nI_eqF, bk_MO_findsFitting, hb, ce_MO_liftsThought, l2, ce_MO_fitsLifted, en_MO_fitsLifted, i2, hf, not_false_eq_true, Bool.false_eq_true, bV_s]
        · rw [FA_f hf]; exact hM3
        · rw [FA_f hf]; exact hv3) 41 0 () () c1 m1 (by omega) ⟨fun _ _ => rfl, ⟨fun _ _ _ _ _ _ _ => rfl, fun _ _ => rfl, fun _ _ => rfl, h50, fun j hj => by simp only [FA] at hj; omega⟩, fun _ x hx h hh => h0 x hx h hh⟩
  exact ⟨c', m', e1, e2, h1, h2, h3⟩
end PM
