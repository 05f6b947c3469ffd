/-! ===== wear, slide, cost, sun, dusk: class and reference ===== -/
def dsk (p : Nat → Bool) : Nat → Nat → Int32
  | 0, _ => -1
  | k + 1, i => if p i = true then nI i else dsk p k (i + 1)
def duskS (ls : List lL) (W : Nat) (H N : Nat → Int32) (t : Int32) (x : Nat) : Int32 := dsk (fun i => decide (sunS ls W H N t x (nI i) ≤ H x)) 24 0
/-- what the class needs to ask -/
def aC (c : Nat → Nat → Int32) (ls : List lL) (W : Nat) : Prop := lC c ls ∧ c 1 0 = nI W ∧ 3 ≤ W ∧ W ≤ 14
def aM (m : Nat → Nat → Int32) (ls : List lL) (W : Nat) : Prop := lM m ls ∧ m 138 6 + nI 10 = nI W ∧ 3 ≤ W ∧ W ≤ 14
theorem aC.junk {c : Nat → Nat → Int32} {ls : List lL} {W : Nat} (h : aC c ls W) (g f : Nat → Int32) : aC (va_up (va_up c 94 g) 95 f) ls W := h
theorem aM.junk {c : Nat → Nat → Int32} {ls : List lL} {W : Nat} (h : aM c ls W) (g f : Nat → Int32) : aM (va_up (va_up c 158 g) 159 f) ls W := h
theorem up_c {α : Type} (f : Nat → α) (k j : Nat) (x y : α) (h : k ≠ j) : va_up (va_up f k x) j y = va_up (va_up f j y) k x := by
  funext i
  unfold va_up
  by_cases h1 : i = j
  · by_cases h2 : i = k
    · omega
    · simp [h1, h2]
      omega
  · by_cases h2 : i = k
    · simp [h2, h]
    · simp [h1, h2]
theorem upJ {α : Type} (c : Nat → α) {a b : Nat} (h : a ≠ b) (g f g' f' : α) : va_up (va_up (va_up (va_up c a g) b f) a g') b f' = va_up (va_up c a g') b f' := by
  funext i
  unfold va_up
  by_cases h1 : i = b
  · simp [h1]
  · by_cases h2 : i = a
    · simp [h2, h]
    · simp [h1, h2]
section AK
variable {sc : Nat × (Nat → Int32)} {c m : Nat → Nat → Int32} {w : Nat → Int64} {h : List ma_C}
theorem t_Asker_wear (d x W a : Nat) (ls : List lL) (ha : a = 17 ∨ a = 97) (hx : x < W) (hC : aC c ls W) (hH : hB (c (a + 1))) : ∃ g f, ∀ m, cc sc (d + 2) 50 [.ref 93, .ref a, .int (nI x)] (hp c w m) = some (some (.int (wearS ls W (c (a + 1)) (c (a + 2)) (c a 6) x)), hp (va_up (va_up c 94 g) 95 f) w m) := by
  obtain ⟨hL, hw, hW3, hW⟩ := hC
  have hN := fun m => t_Asker_name (sc := sc) (c := c) (m := m) (w := w) d x W a ha hx hW hw hH
  generalize hg : aW (c 94) (aQS W (c (a + 1)) (c (a + 2)) (iRem (c a 6) (nI 24)) (c a 6 / nI 24) (nI 0) x) = g at hN
  obtain ⟨f, hf⟩ := t_Asker_tell (sc := sc) (c := va_up c 94 g) (w := w) d 0 (by omega) ls hL
  refine ⟨g, f, fun m => ?_⟩
  have e1 : lL_tell ((va_up c 94 g) 94) 0 ls = lL_tell (aQS W (c (a + 1)) (c (a + 2)) (iRem (c a 6) (nI 24)) (c a 6 / nI 24) (nI 0) x) 0 ls := lL_tell_congr (by rw [up_s, ← hg]; exact aW_k _ _) 0 ls hL.ok
  have e2 : lL_un ((va_up c 94 g) 94) 0 = leanS W (c (a + 1)) x := by rw [up_s, ← hg]; rfl
  rw [e1, e2] at hf
  rcases ha with rfl | rfl <;> simp (disch := first | assumption | omega | decide | (simp only [ma_wd0, ma_wdi, ma_wdr, ma_wdl, ma_wdn] <;> omega)) only [↓reduceIte, evK, evL, evS, evA, evJ, Option.bind_some, Option.toList, List.cons_append, List.nil_append, nI_add, pk_mul, bI0, ite_not, ev_rbb, en_Asker_wear, ce_Asker_name, hN, ce_Asker_tell, hf, ce_LH_hold, t_LH_hold, wearS, askS]
theorem t_Asker_slide (d x W a : Nat) (ls : List lL) (ha : a = 17 ∨ a = 97) (hx : x < W) (hC : aC c ls W) (hH : hB (c (a + 1))) : ∃ g f, ∀ m, cc sc (d + 2) 49 [.ref 93, .ref a, .int (nI x)] (hp c w m) = some (some (.int (slideS ls W (c (a + 1)) (c (a + 2)) (c a 6) x)), hp (va_up (va_up c 94 g) 95 f) w m) := by
  obtain ⟨hL, hw, hW3, hW⟩ := hC
  have hN := fun m => t_Asker_name (sc := sc) (c := c) (m := m) (w := w) d x W a ha hx hW hw hH
  generalize hg : aW (c 94) (aQS W (c (a + 1)) (c (a + 2)) (iRem (c a 6) (nI 24)) (c a 6 / nI 24) (nI 0) x) = g at hN
  obtain ⟨f, hf⟩ := t_Asker_tell (sc := sc) (c := va_up c 94 g) (w := w) d 1 (by omega) ls hL
  refine ⟨g, f, fun m => ?_⟩
  have e1 : lL_tell ((va_up c 94 g) 94) 1 ls = lL_tell (aQS W (c (a + 1)) (c (a + 2)) (iRem (c a 6) (nI 24)) (c a 6 / nI 24) (nI 0) x) 1 ls := lL_tell_congr (by rw [up_s, ← hg]; exact aW_k _ _) 1 ls hL.ok
  have e2 : lL_un ((va_up c 94 g) 94) 1 = nI 2 := rfl
  rw [e1, e2] at hf
  rcases ha with rfl | rfl <;> simp (disch := first | assumption | omega | decide | (simp only [ma_wd0, ma_wdi, ma_wdr, ma_wdl, ma_wdn] <;> omega)) only [↓reduceIte, evK, evL, evS, evA, evJ, Option.bind_some, Option.toList, List.cons_append, List.nil_append, nI_add, pk_mul, bI0, ite_not, ev_rbb, en_Asker_slide, ce_Asker_name, hN, ce_Asker_tell, hf, ce_LH_hold, t_LH_hold, slideS, askS]
theorem by_math {h g : Int32} (hh : 0 ≤ h.toInt ∧ h.toInt ≤ 40) (hg : 0 ≤ g.toInt ∧ g.toInt ≤ 40) : (if g ≤ h then nI 0 else g - h) = iMx (nI 0) (g - h) := by
  have k1 := Int32_sub_toInt (a := g) (b := h) (by omega) (by omega)
  have k0 : (nI 0).toInt = 0 := by decide +kernel
  apply Int32.toInt_inj.mp
  unfold iMx
  simp only [Int32.lt_iff_toInt_lt, Int32.le_iff_toInt_le]
  repeat' split
  all_goals first | omega | (simp only [k1, k0] at * <;> omega)
theorem t_Asker_cost (d x W a : Nat) (ls : List lL) (go : Int32) (hgo : 0 ≤ go.toInt ∧ go.toInt ≤ 40) (ha : a = 17 ∨ a = 97) (hx : x < W) (hC : aC c ls W) (hH : hB (c (a + 1))) : ∃ g f, ∀ m, cc sc (d + 2) 43 [.ref 93, .ref a, .int (nI x), .int go] (hp c w m) = some (some (.int (costS ls W (c (a + 1)) (c (a + 2)) (c a 6) x go)), hp (va_up (va_up c 94 g) 95 f) w m) := by
  obtain ⟨hL, hw, hW3, hW⟩ := hC
  have hN := fun m => t_Asker_name (sc := sc) (c := c) (m := m) (w := w) d x W a ha hx hW hw hH
  generalize hg : aW (c 94) (aQS W (c (a + 1)) (c (a + 2)) (iRem (c a 6) (nI 24)) (c a 6 / nI 24) (nI 0) x) = g at hN
  have hbm := by_math (hH x (by omega)) hgo
  obtain ⟨f, hf⟩ := t_Asker_tell (sc := sc) (c := va_up c 94 (upd g 6 (byS (c (a + 1)) x go))) (w := w) d 2 (by omega) ls hL
  refine ⟨upd g 6 (byS (c (a + 1)) x go), f, fun m => ?_⟩
  have e1 : lL_tell ((va_up c 94 (upd g 6 (byS (c (a + 1)) x go))) 94) 2 ls = lL_tell (aQS W (c (a + 1)) (c (a + 2)) (iRem (c a 6) (nI 24)) (c a 6 / nI 24) (byS (c (a + 1)) x go) x) 2 ls := lL_tell_congr (by
    rw [up_s, ← hg]
    intro k hk
    rcases (show k = 0 ∨ k = 1 ∨ k = 2 ∨ k = 3 ∨ k = 4 ∨ k = 5 ∨ k = 6 by omega) with rfl | rfl | rfl | rfl | rfl | rfl | rfl <;> rfl) 2 ls hL.ok
  have e2 : lL_un ((va_up c 94 (upd g 6 (byS (c (a + 1)) x go))) 94) 2 = byS (c (a + 1)) x go := rfl
  rw [e1, e2] at hf
  rcases ha with rfl | rfl
  · by_cases hz : go ≤ c 18 x
    · have hb2 : byS (c 18) x go = nI 0 := by rw [if_pos hz] at hbm; exact hbm.symm
      simp only [Nat.reduceAdd, hb2] at hf ⊢
      simp (disch := first | assumption | omega | decide | (simp only [ma_wd0, ma_wdi, ma_wdr, ma_wdl, ma_wdn] <;> omega)) only [↓reduceIte, evK, evL, evS, evA, evJ, Option.bind_some, Option.toList, List.cons_append, List.nil_append, nI_add, pk_mul, bI0, ite_not, ev_rbb, en_Asker_cost, bk_Asker_cost, ce_Asker_name, hN, gfC, ldC, stC, up_n, up_s, up_u, hz, ce_Asker_tell, hf, ce_LH_hold, t_LH_hold, costS, askS, hb2, nI_ltT, nI_ltF, nI_leT, nI_leF, nI_eqT, nI_eqF]
    · have hb2 : byS (c 18) x go = go - c 18 x := by rw [if_neg hz] at hbm; exact hbm.symm
      simp only [Nat.reduceAdd, hb2] at hf ⊢
      simp (disch := first | assumption | omega | decide | (simp only [ma_wd0, ma_wdi, ma_wdr, ma_wdl, ma_wdn] <;> omega)) only [↓reduceIte, evK, evL, evS, evA, evJ, Option.bind_some, Option.toList, List.cons_append, List.nil_append, nI_add, pk_mul, bI0, ite_not, ev_rbb, en_Asker_cost, bk_Asker_cost, ce_Asker_name, hN, gfC, ldC, stC, up_n, up_s, up_u, hz, ce_Asker_tell, hf, ce_LH_hold, t_LH_hold, costS, askS, hb2, nI_ltT, nI_ltF, nI_leT, nI_leF, nI_eqT, nI_eqF]
  · by_cases hz : go ≤ c 98 x
    · have hb2 : byS (c 98) x go = nI 0 := by rw [if_pos hz] at hbm; exact hbm.symm
      simp only [Nat.reduceAdd, hb2] at hf ⊢
      simp (disch := first | assumption | omega | decide | (simp only [ma_wd0, ma_wdi, ma_wdr, ma_wdl, ma_wdn] <;> omega)) only [↓reduceIte, evK, evL, evS, evA, evJ, Option.bind_some, Option.toList, List.cons_append, List.nil_append, nI_add, pk_mul, bI0, ite_not, ev_rbb, en_Asker_cost, bk_Asker_cost, ce_Asker_name, hN, gfC, ldC, stC, up_n, up_s, up_u, hz, ce_Asker_tell, hf, ce_LH_hold, t_LH_hold, costS, askS, hb2, nI_ltT, nI_ltF, nI_leT, nI_leF, nI_eqT, nI_eqF]
    · have hb2 : byS (c 98) x go = go - c 98 x := by rw [if_neg hz] at hbm; exact hbm.symm
      simp only [Nat.reduceAdd, hb2] at hf ⊢
      simp (disch := first | assumption | omega | decide | (simp only [ma_wd0, ma_wdi, ma_wdr, ma_wdl, ma_wdn] <;> omega)) only [↓reduceIte, evK, evL, evS, evA, evJ, Option.bind_some, Option.toList, List.cons_append, List.nil_append, nI_add, pk_mul, bI0, ite_not, ev_rbb, en_Asker_cost, bk_Asker_cost, ce_Asker_name, hN, gfC, ldC, stC, up_n, up_s, up_u, hz, ce_Asker_tell, hf, ce_LH_hold, t_LH_hold, costS, askS, hb2, nI_ltT, nI_ltF, nI_leT, nI_leF, nI_eqT, nI_eqF]
theorem t_Asker_sunAt (d x W : Nat) (ls : List lL) (hr : Int32) (hx : x < W) (hC : aC c ls W) (hH : hB (c 18)) : ∃ g f, ∀ m, cc sc (d + 2) 52 [.ref 93, .ref 17, .int (nI x), .int hr] (hp c w m) = some (some (.int (sunS ls W (c 18) (c 19) (c 17 6) x hr)), hp (va_up (va_up c 94 g) 95 f) w m) := by
  obtain ⟨hL, hw, hW3, hW⟩ := hC
  have hN := fun m => t_Asker_name (sc := sc) (c := c) (m := m) (w := w) d x W 17 (Or.inl rfl) hx hW hw hH
  generalize hg : aW (c 94) (aQS W (c (17 + 1)) (c (17 + 2)) (iRem (c 17 6) (nI 24)) (c 17 6 / nI 24) (nI 0) x) = g at hN
  obtain ⟨f, hf⟩ := t_Asker_tell (sc := sc) (c := va_up c 94 (upd g 3 hr)) (w := w) d 3 (by omega) ls hL
  refine ⟨upd g 3 hr, f, fun m => ?_⟩
  have e1 : lL_tell ((va_up c 94 (upd g 3 hr)) 94) 3 ls = lL_tell (aQS W (c 18) (c 19) hr (c 17 6 / nI 24) (nI 0) x) 3 ls := lL_tell_congr (by
    rw [up_s, ← hg]
    intro k hk
    rcases (show k = 0 ∨ k = 1 ∨ k = 2 ∨ k = 3 ∨ k = 4 ∨ k = 5 ∨ k = 6 by omega) with rfl | rfl | rfl | rfl | rfl | rfl | rfl <;> rfl) 3 ls hL.ok
  have e2 : lL_un ((va_up c 94 (upd g 3 hr)) 94) 3 = nI 60 - nI 3 * hr := rfl
  rw [e1, e2] at hf
  simp (disch := first | assumption | omega | decide | (simp only [ma_wd0, ma_wdi, ma_wdr, ma_wdl, ma_wdn] <;> omega)) only [↓reduceIte, evK, evL, evS, evA, evJ, Option.bind_some, Option.toList, List.cons_append, List.nil_append, nI_add, pk_mul, bI0, ite_not, ev_rbb, en_Asker_sunAt, ce_Asker_name, hN, gfC, ldC, stC, up_n, up_s, up_u, ce_Asker_tell, hf, ce_LH_hold, t_LH_hold, sunS, askS, nI_ltT, nI_ltF, nI_leT, nI_leF, nI_eqT, nI_eqF]
theorem t_MO_wearOf (d x W : Nat) (ls : List lL) (hx : x < W) (hC : aM m ls W) : ∃ g f, ∀ c, cc sc (d + 4) 239 [.ref 138, .int (nI x)] (hp c w m) = some (some (.int (wearS ls W (fun j => m 139 (5 + j) + nI 10) (fun j => m 139 (19 + j)) (m 139 0) x)), hp c w (va_up (va_up m 158 g) 159 f)) := by
  obtain ⟨hL, hw, hW3, hW⟩ := hC
  have hN := fun c => t_MO_asks (sc := sc) (c := c) (m := m) (w := w) (d + 1) x W hx hW hw (iRem (m 139 0) (nI 24)) (nI 0)
  generalize hg : aW (m 158) _ = g at hN
  obtain ⟨f, hf⟩ := t_MO_lawTells (sc := sc) (m := va_up m 158 g) (w := w) d 0 (by omega) ls hL (g 5) (nI 99)
  refine ⟨g, f, fun c => ?_⟩
  rw [lL_tell_congr (q' := aQS W (fun j => m 139 (5 + j) + nI 10) (fun j => m 139 (19 + j)) (iRem (m 139 0) (nI 24)) (m 139 0 / nI 24) (nI 0) x) (by rw [up_s, ← hg]; exact aW_k _ _) 0 ls hL.ok] at hf
  have e2 : g 5 = leanS W (fun j => m 139 (5 + j) + nI 10) x := by rw [← hg]; rfl
  rw [e2] at hf
  simp (disch := first | assumption | omega | decide | (simp only [ma_wd0, ma_wdi, ma_wdr, ma_wdl, ma_wdn] <;> omega)) only [↓reduceIte, evK, evL, evS, evA, evJ, Option.bind_some, Option.toList, List.cons_append, List.nil_append, nI_add, pk_mul, bI0, ite_not, ev_rbb, en_MO_wearOf, gfM, ldM, nI24, ce_MO_asks, hN, up_s, up_n, e2, ce_MO_lawTells, hf, wearS, askS]
theorem t_MO_slideOf (d x W : Nat) (ls : List lL) (hx : x < W) (hC : aM m ls W) : ∃ g f, ∀ c, cc sc (d + 4) 234 [.ref 138, .int (nI x)] (hp c w m) = some (some (.int (slideS ls W (fun j => m 139 (5 + j) + nI 10) (fun j => m 139 (19 + j)) (m 139 0) x)), hp c w (va_up (va_up m 158 g) 159 f)) := by
  obtain ⟨hL, hw, hW3, hW⟩ := hC
  have hN := fun c => t_MO_asks (sc := sc) (c := c) (m := m) (w := w) (d + 1) x W hx hW hw (iRem (m 139 0) (nI 24)) (nI 0)
  generalize hg : aW (m 158) _ = g at hN
  obtain ⟨f, hf⟩ := t_MO_lawTells (sc := sc) (m := va_up m 158 g) (w := w) d 1 (by omega) ls hL (nI 2) (nI 40)
  refine ⟨g, f, fun c => ?_⟩
  rw [lL_tell_congr (q' := aQS W (fun j => m 139 (5 + j) + nI 10) (fun j => m 139 (19 + j)) (iRem (m 139 0) (nI 24)) (m 139 0 / nI 24) (nI 0) x) (by rw [up_s, ← hg]; exact aW_k _ _) 1 ls hL.ok] at hf
  simp (disch := first | assumption | omega | decide | (simp only [ma_wd0, ma_wdi, ma_wdr, ma_wdl, ma_wdn] <;> omega)) only [↓reduceIte, evK, evL, evS, evA, evJ, Option.bind_some, Option.toList, List.cons_append, List.nil_append, nI_add, pk_mul, bI0, ite_not, ev_rbb, en_MO_slideOf, gfM, ldM, nI24, ce_MO_asks, hN, up_s, up_n, ce_MO_lawTells, hf, slideS, askS]
theorem t_MO_costOf (d x W : Nat) (ls : List lL) (go : Int32) (hx : x < W) (hC : aM m ls W) : ∃ g f, ∀ c, cc sc (d + 4) 211 [.ref 138, .int (nI x), .int go] (hp c w m) = some (some (.int (costS ls W (fun j => m 139 (5 + j) + nI 10) (fun j => m 139 (19 + j)) (m 139 0) x go)), hp c w (va_up (va_up m 158 g) 159 f)) := by
  obtain ⟨hL, hw, hW3, hW⟩ := hC
  have hN := fun c => t_MO_asks (sc := sc) (c := c) (m := m) (w := w) (d + 1) x W hx hW hw (iRem (m 139 0) (nI 24)) (iMx (nI 0) (go - (m 139 (5 + x) + nI 10)))
  generalize hg : aW (m 158) _ = g at hN
  obtain ⟨f, hf⟩ := t_MO_lawTells (sc := sc) (m := va_up m 158 g) (w := w) d 2 (by omega) ls hL (g 6) (nI 999)
  refine ⟨g, f, fun c => ?_⟩
  rw [lL_tell_congr (q' := aQS W (fun j => m 139 (5 + j) + nI 10) (fun j => m 139 (19 + j)) (iRem (m 139 0) (nI 24)) (m 139 0 / nI 24) (iMx (nI 0) (go - (m 139 (5 + x) + nI 10))) x) (by rw [up_s, ← hg]; exact aW_k _ _) 2 ls hL.ok] at hf
  have e2 : g 6 = iMx (nI 0) (go - (m 139 (5 + x) + nI 10)) := by rw [← hg]; rfl
  rw [e2] at hf
  simp (disch := first | assumption | omega | decide | (simp only [ma_wd0, ma_wdi, ma_wdr, ma_wdl, ma_wdn] <;> omega)) only [↓reduceIte, evK, evL, evS, evA, evJ, Option.bind_some, Option.toList, List.cons_append, List.nil_append, nI_add, pk_mul, bI0, ite_not, ev_rbb, en_MO_costOf, gfM, ldM, nI24, ce_MO_heightOf, t_MO_heightOf, ce_MO_greater, t_MO_greater, ce_MO_asks, hN, up_s, up_n, e2, ce_MO_lawTells, hf, costS, askS, byS]
theorem t_MO_sunOver (d x W : Nat) (ls : List lL) (hr : Int32) (hx : x < W) (hC : aM m ls W) : ∃ g f, ∀ c, cc sc (d + 4) 244 [.ref 138, .int (nI x), .int hr] (hp c w m) = some (some (.int (sunS ls W (fun j => m 139 (5 + j) + nI 10) (fun j => m 139 (19 + j)) (m 139 0) x hr)), hp c w (va_up (va_up m 158 g) 159 f)) := by
  obtain ⟨hL, hw, hW3, hW⟩ := hC
  have hN := fun c => t_MO_asks (sc := sc) (c := c) (m := m) (w := w) (d + 1) x W hx hW hw hr (nI 0)
  generalize hg : aW (m 158) _ = g at hN
  obtain ⟨f, hf⟩ := t_MO_lawTells (sc := sc) (m := va_up m 158 g) (w := w) d 3 (by omega) ls hL (nI 60 - nI 3 * hr) (nI 99)
  refine ⟨g, f, fun c => ?_⟩
  rw [lL_tell_congr (q' := aQS W (fun j => m 139 (5 + j) + nI 10) (fun j => m 139 (19 + j)) hr (m 139 0 / nI 24) (nI 0) x) (by rw [up_s, ← hg]; exact aW_k _ _) 3 ls hL.ok] at hf
  simp (disch := first | assumption | omega | decide | (simp only [ma_wd0, ma_wdi, ma_wdr, ma_wdl, ma_wdn] <;> omega)) only [↓reduceIte, evK, evL, evS, evA, evJ, Option.bind_some, Option.toList, List.cons_append, List.nil_append, nI_add, pk_mul, bI0, ite_not, ev_rbb, en_MO_sunOver, ce_MO_asks, hN, ce_MO_lawTells, hf, sunS, askS]
set_option maxHeartbeats 2000000 in
theorem t_dusk_loop (d x W a : Nat) (ls : List lL) (H N : Nat → Int32) (t : Int32) (ha : a = 17 ∨ a = 97) (hx : x < W) : ∀ (k i : Nat) (c : Nat → Nat → Int32), i + k = 24 → aC c ls W → c (a + 1) = H → (∀ j, j < 7 → j ≠ 3 → c 94 j = aQS W H N (iRem t (nI 24)) (t / nI 24) (nI 0) x j) → ∃ g f, ∀ m, ev sc (d + 2) 51 (pm_blk 51 8) [some (.ref 93), some (.ref a), some (.int (nI x)), some (.int (nI i))] [] (hp c w m) = some (some (.int (dsk (fun i => decide (sunS ls W H N t x (nI i) ≤ H x)) k i)), hp (va_up (va_up c 94 g) 95 f) w m)
  | 0, i, c, hi, hC, hH, hq => by
    refine ⟨c 94, c 95, fun m => ?_⟩
    rw [up_self, up_self, bh_Asker_dusk_8, dsk]
    simp (disch := first | assumption | omega | decide | (simp only [ma_wd0, ma_wdi, ma_wdr, ma_wdl, ma_wdn] <;> omega)) only [↓reduceIte, evK, evL, evS, evA, evJ, Option.bind_some, Option.toList, List.cons_append, List.nil_append, nI_add, pk_mul, bI0, ite_not, ev_rbb, bk_Asker_dusk, nI_ltT, nI_ltF, nI_leT, nI_leF, nI_eqT, nI_eqF]
  | k + 1, i, c, hi, hC, hH, hq => by
    have hW := hC.2.2.2
    obtain ⟨f, hf⟩ := t_Asker_tell (sc := sc) (c := va_up c 94 (upd (c 94) 3 (nI i))) (w := w) (d + 0) 3 (by omega) ls hC.1
    have e1 : lL_tell ((va_up c 94 (upd (c 94) 3 (nI i))) 94) 3 ls = lL_tell (aQS W H N (nI i) (t / nI 24) (nI 0) x) 3 ls := lL_tell_congr (by
      rw [up_s]
      intro j hj
      by_cases h3 : j = 3
      · subst h3; rfl
      · rw [pk_un h3, hq j hj h3]
        rcases (show j = 0 ∨ j = 1 ∨ j = 2 ∨ j = 4 ∨ j = 5 ∨ j = 6 by omega) with rfl | rfl | rfl | rfl | rfl | rfl <;> rfl) 3 ls hC.1.ok
    have e2 : lL_un ((va_up c 94 (upd (c 94) 3 (nI i))) 94) 3 = nI 60 - nI 3 * nI i := rfl
    rw [e1, e2] at hf
    obtain ⟨g1, f1, ih⟩ := t_dusk_loop d x W a ls H N t ha hx k (i + 1) (va_up (va_up c 94 (upd (c 94) 3 (nI i))) 95 f) (by omega) (hC.junk _ _) (by rcases ha with rfl | rfl <;> exact hH) (fun j hj h3 => by
      show upd (c 94) 3 (nI i) j = _
      rw [pk_un h3]
      exact hq j hj h3)
    rw [upJ c (by decide)] at ih
    rw [bh_Asker_dusk_8, dsk]
    have hS : iHd ((lL_tell (aQS W H N (nI i) (t / nI 24) (nI 0) x) 3 ls).getD (nI 60 - nI 3 * nI i)) (nI 0) (nI 99) = sunS ls W H N t x (nI i) := rfl
    rw [pk_mul] at hf hS
    by_cases hz : sunS ls W H N t x (nI i) ≤ H x
    · refine ⟨upd (c 94) 3 (nI i), f, fun m => ?_⟩
      rcases ha with rfl | rfl
      · have hH' : c 18 x = H x := by rw [← hH]
        simp (disch := first | assumption | omega | decide | (simp only [ma_wd0, ma_wdi, ma_wdr, ma_wdl, ma_wdn] <;> omega)) only [↓reduceIte, evK, evL, evS, evA, evJ, Option.bind_some, Option.toList, List.cons_append, List.nil_append, nI_add, pk_mul, bI0, ite_not, ev_rbb, bk_Asker_dusk, nI_ltT, nI_ltF, nI_leT, nI_leF, nI_eqT, nI_eqF, gfC, stC, ldC, up_n, up_s, up_u, ce_Asker_tell, hf, ce_LH_hold, t_LH_hold, hS, hH', hz, decide_true]
      · have hH' : c 98 x = H x := by rw [← hH]
        simp (disch := first | assumption | omega | decide | (simp only [ma_wd0, ma_wdi, ma_wdr, ma_wdl, ma_wdn] <;> omega)) only [↓reduceIte, evK, evL, evS, evA, evJ, Option.bind_some, Option.toList, List.cons_append, List.nil_append, nI_add, pk_mul, bI0, ite_not, ev_rbb, bk_Asker_dusk, nI_ltT, nI_ltF, nI_leT, nI_leF, nI_eqT, nI_eqF, gfC, stC, ldC, up_n, up_s, up_u, ce_Asker_tell, hf, ce_LH_hold, t_LH_hold, hS, hH', hz, decide_true]
    · refine ⟨g1, f1, fun m => ?_⟩
      rcases ha with rfl | rfl
      · have hH' : c 18 x = H x := by rw [← hH]
        simp (disch := first | assumption | omega | decide | (simp only [ma_wd0, ma_wdi, ma_wdr, ma_wdl, ma_wdn] <;> omega)) only [↓reduceIte, evK, evL, evS, evA, evJ, Option.bind_some, Option.toList, List.cons_append, List.nil_append, nI_add, pk_mul, bI0, ite_not, ev_rbb, bk_Asker_dusk, nI_ltT, nI_ltF, nI_leT, nI_leF, nI_eqT, nI_eqF, gfC, stC, ldC, up_n, up_s, up_u, ce_Asker_tell, hf, ce_LH_hold, t_LH_hold, hS, hH', hz, decide_false, Bool.false_eq_true]
        exact ih m
      · have hH' : c 98 x = H x := by rw [← hH]
        simp (disch := first | assumption | omega | decide | (simp only [ma_wd0, ma_wdi, ma_wdr, ma_wdl, ma_wdn] <;> omega)) only [↓reduceIte, evK, evL, evS, evA, evJ, Option.bind_some, Option.toList, List.cons_append, List.nil_append, nI_add, pk_mul, bI0, ite_not, ev_rbb, bk_Asker_dusk, nI_ltT, nI_ltF, nI_leT, nI_leF, nI_eqT, nI_eqF, gfC, stC, ldC, up_n, up_s, up_u, ce_Asker_tell, hf, ce_LH_hold, t_LH_hold, hS, hH', hz, decide_false, Bool.false_eq_true]
        exact ih m
theorem t_Asker_dusk (d x W a : Nat) (ls : List lL) (ha : a = 17 ∨ a = 97) (hx : x < W) (hC : aC c ls W) (hH : hB (c (a + 1))) : ∃ g f, ∀ m, cc sc (d + 2) 51 [.ref 93, .ref a, .int (nI x)] (hp c w m) = some (some (.int (duskS ls W (c (a + 1)) (c (a + 2)) (c a 6) x)), hp (va_up (va_up c 94 g) 95 f) w m) := by
  have hN := fun m => t_Asker_name (sc := sc) (c := c) (m := m) (w := w) d x W a ha hx hC.2.2.2 hC.2.1 hH
  generalize hg : aW (c 94) _ = g at hN
  obtain ⟨g1, f1, ih⟩ := t_dusk_loop (sc := sc) (w := w) d x W a ls (c (a + 1)) (c (a + 2)) (c a 6) ha hx 24 0 (va_up c 94 g) (by omega) hC (by rcases ha with rfl | rfl <;> rfl) (fun j hj _ => by rw [up_s, ← hg]; exact aW_k _ _ j hj)
  rw [up_u] at ih
  refine ⟨g1, f1, fun m => ?_⟩
  rcases ha with rfl | rfl
  · simp (disch := first | assumption | omega | decide | (simp only [ma_wd0, ma_wdi, ma_wdr, ma_wdl, ma_wdn] <;> omega)) only [↓reduceIte, evK, evL, evS, evA, evJ, Option.bind_some, Option.toList, List.cons_append, List.nil_append, nI_add, pk_mul, bI0, ite_not, ev_rbb, en_Asker_dusk, ce_Asker_name, hN]
    exact ih m
  · simp (disch := first | assumption | omega | decide | (simp only [ma_wd0, ma_wdi, ma_wdr, ma_wdl, ma_wdn] <;> omega)) only [↓reduceIte, evK, evL, evS, evA, evJ, Option.bind_some, Option.toList, List.cons_append, List.nil_append, nI_add, pk_mul, bI0, ite_not, ev_rbb, en_Asker_dusk, ce_Asker_name, hN]
    exact ih m
theorem t_duskM_loop (d x W : Nat) (ls : List lL) (H N : Nat → Int32) (t : Int32) (hx : x < W) : ∀ (k i : Nat) (m : Nat → Nat → Int32), i + k = 24 → aM m ls W → (fun j => m 139 (5 + j) + nI 10) = H → (fun j => m 139 (19 + j)) = N → m 139 0 = t → ∃ g f, ∀ c, ev sc (d + 5) 243 (pm_blk 243 2) [some (.ref 138), some (.int (nI x)), some (.int (nI i))] [] (hp c w m) = some (some (.int (dsk (fun i => decide (sunS ls W H N t x (nI i) ≤ H x)) k i)), hp c w (va_up (va_up m 158 g) 159 f))
  | 0, i, m, hi, hC, hH, hN, ht => by
    refine ⟨m 158, m 159, fun c => ?_⟩
    rw [up_self, up_self, bh_MO_duskOf_2, dsk]
    simp (disch := first | assumption | omega | decide | (simp only [ma_wd0, ma_wdi, ma_wdr, ma_wdl, ma_wdn] <;> omega)) only [↓reduceIte, evK, evL, evS, evA, evJ, Option.bind_some, Option.toList, List.cons_append, List.nil_append, nI_add, pk_mul, bI0, ite_not, ev_rbb, bk_MO_duskOf, nI_ltT, nI_ltF, nI_leT, nI_leF, nI_eqT, nI_eqF]
  | k + 1, i, m, hi, hC, hH, hN, ht => by
    have hW := hC.2.2.2
    obtain ⟨g, f, hf⟩ := t_MO_sunOver (sc := sc) (m := m) (w := w) d x W ls (nI i) hx hC
    rw [hH, hN, ht] at hf
    obtain ⟨g1, f1, ih⟩ := t_duskM_loop d x W ls H N t hx k (i + 1) (va_up (va_up m 158 g) 159 f) (by omega) (hC.junk _ _) hH hN ht
    rw [upJ m (by decide)] at ih
    rw [bh_MO_duskOf_2, dsk]
    have hH' : m 139 (5 + x) + nI 10 = H x := by rw [← hH]
    by_cases hz : sunS ls W H N t x (nI i) ≤ H x
    · refine ⟨g, f, fun c => ?_⟩
      simp (disch := first | assumption | omega | decide | (simp only [ma_wd0, ma_wdi, ma_wdr, ma_wdl, ma_wdn] <;> omega)) only [↓reduceIte, evK, evL, evS, evA, evJ, Option.bind_some, Option.toList, List.cons_append, List.nil_append, nI_add, pk_mul, bI0, ite_not, ev_rbb, bk_MO_duskOf, nI_ltT, nI_ltF, nI_leT, nI_leF, nI_eqT, nI_eqF, up_n, ce_MO_sunOver, hf, ce_MO_heightOf, t_MO_heightOf, hH', hz, decide_true]
    · refine ⟨g1, f1, fun c => ?_⟩
      simp (disch := first | assumption | omega | decide | (simp only [ma_wd0, ma_wdi, ma_wdr, ma_wdl, ma_wdn] <;> omega)) only [↓reduceIte, evK, evL, evS, evA, evJ, Option.bind_some, Option.toList, List.cons_append, List.nil_append, nI_add, pk_mul, bI0, ite_not, ev_rbb, bk_MO_duskOf, nI_ltT, nI_ltF, nI_leT, nI_leF, nI_eqT, nI_eqF, up_n, ce_MO_sunOver, hf, ce_MO_heightOf, t_MO_heightOf, hH', hz, decide_false, Bool.false_eq_true]
      exact ih c
theorem t_MO_duskOf (d x W : Nat) (ls : List lL) (hx : x < W) (hC : aM m ls W) : ∃ g f, ∀ c, cc sc (d + 5) 243 [.ref 138, .int (nI x)] (hp c w m) = some (some (.int (duskS ls W (fun j => m 139 (5 + j) + nI 10) (fun j => m 139 (19 + j)) (m 139 0) x)), hp c w (va_up (va_up m 158 g) 159 f)) := by
  obtain ⟨g1, f1, ih⟩ := t_duskM_loop (sc := sc) (w := w) d x W ls _ _ _ hx 24 0 m (by omega) hC rfl rfl rfl
  refine ⟨g1, f1, fun c => ?_⟩
  simp (disch := first | assumption | omega | decide | (simp only [ma_wd0, ma_wdi, ma_wdr, ma_wdl, ma_wdn] <;> omega)) only [↓reduceIte, evK, evL, evS, evA, evJ, Option.bind_some, Option.toList, List.cons_append, List.nil_append, nI_add, pk_mul, bI0, ite_not, ev_rbb, en_MO_duskOf]
  exact ih c
end AK
