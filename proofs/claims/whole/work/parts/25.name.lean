/-! ===== the names are told, the law is asked ===== -/
def aQS (W : Nat) (H N : Nat → Int32) (hr dy b : Int32) (x : Nat) : Nat → Int32 := aQ (nI x) (H x) (N x) hr dy (leanS W H x) b
def askS (ls : List lL) (word : Nat) (q : Nat → Int32) (wo mo : Int32) : Int32 := iHd ((lL_tell q word ls).getD wo) (nI 0) mo
/-- wear, slide, cost, sun, dusk: by the law, the width, heights, worn, the hour -/
def wearS (ls : List lL) (W : Nat) (H N : Nat → Int32) (t : Int32) (x : Nat) : Int32 := askS ls 0 (aQS W H N (iRem t (nI 24)) (t / nI 24) (nI 0) x) (leanS W H x) (nI 99)
def slideS (ls : List lL) (W : Nat) (H N : Nat → Int32) (t : Int32) (x : Nat) : Int32 := askS ls 1 (aQS W H N (iRem t (nI 24)) (t / nI 24) (nI 0) x) (nI 2) (nI 40)
def byS (H : Nat → Int32) (x : Nat) (g : Int32) : Int32 := iMx (nI 0) (g - H x)
def costS (ls : List lL) (W : Nat) (H N : Nat → Int32) (t : Int32) (x : Nat) (g : Int32) : Int32 := askS ls 2 (aQS W H N (iRem t (nI 24)) (t / nI 24) (byS H x g) x) (byS H x g) (nI 999)
def sunS (ls : List lL) (W : Nat) (H N : Nat → Int32) (t : Int32) (x : Nat) (hr : Int32) : Int32 := askS ls 3 (aQS W H N hr (t / nI 24) (nI 0) x) (nI 60 - nI 3 * hr) (nI 99)
def aW (f v : Nat → Int32) : Nat → Int32 := upd (upd (upd (upd (upd (upd (upd f 0 (v 0)) 1 (v 1)) 2 (v 2)) 3 (v 3)) 4 (v 4)) 5 (v 5)) 6 (v 6)
theorem aW_k (f v : Nat → Int32) : ∀ k, k < 7 → aW f v k = v k := by
  intro k hk
  rcases (show k = 0 ∨ k = 1 ∨ k = 2 ∨ k = 3 ∨ k = 4 ∨ k = 5 ∨ k = 6 by omega) with rfl | rfl | rfl | rfl | rfl | rfl | rfl <;> rfl
theorem nI24 : (nI 24 = nI 0) = False := eq_false (by decide +kernel)
section NM
variable {sc : Nat × (Nat → Int32)} {c m : Nat → Nat → Int32} {w : Nat → Int64} {h : List ma_C}
theorem t_MO_asks (d x W : Nat) (hx : x < W) (hW : W ≤ 14) (hw : m 138 6 + nI 10 = nI W) (hr b : Int32) : cc sc (d + 2) 214 [.ref 138, .int (nI x), .int hr, .int b] (hp c w m) = some (none, hp c w (va_up m 158 (aW (m 158) (aQS W (fun j => m 139 (5 + j) + nI 10) (fun j => m 139 (19 + j)) hr (m 139 0 / nI 24) b x)))) := by
  have hL := fun (q : Nat → Int32) => t_MO_leansOf (sc := sc) (c := c) (m := va_up m 158 q) (w := w) (d) x W hx hW hw
  simp (disch := first | assumption | omega | decide | (simp only [ma_wd0, ma_wdi, ma_wdr, ma_wdl, ma_wdn] <;> omega)) only [↓reduceIte, evK, evL, evS, evA, evJ, Option.bind_some, Option.toList, List.cons_append, List.nil_append, nI_add, pk_mul, bI0, ite_not, ev_rbb, en_MO_asks, gfM, ldM, stM, nI_ltT, nI_ltF, nI_leT, nI_leF, nI_eqT, nI_eqF, ce_MO_heightOf, t_MO_heightOf, ce_MO_leansOf, hL, up_s, up_n, up_u, nI24]
  rfl
theorem t_Asker_leans (d x W a : Nat) (ha : a = 17 ∨ a = 97) (hx : x < W) (hW : W ≤ 14) (hw : c 1 0 = nI W) (hH : hB (c (a + 1))) : cc sc d 45 [.ref 93, .ref a, .int (nI x)] (hp c w m) = some (some (.int (leanS W (c (a + 1)) x)), hp c w m) := by
  rw [← leans_math hx hW hH _ _ rfl rfl]
  rcases ha with rfl | rfl <;> rcases x with _ | x
  · rcases (show 0 + 1 < W ∨ ¬ 0 + 1 < W by omega) with h1 | h1
    · simp (disch := first | assumption | omega | decide | (simp only [ma_wd0, ma_wdi, ma_wdr, ma_wdl, ma_wdn] <;> omega)) only [↓reduceIte, evK, evL, evS, evA, evJ, Option.bind_some, Option.toList, List.cons_append, List.nil_append, nI_add, pk_mul, bI0, ite_not, ev_rbb, en_Asker_leans, bk_Asker_leans, nI_ltT, nI_ltF, nI_leT, nI_leF, nI_eqT, nI_eqF, gfC, ldC, hw, h1, Nat.lt_irrefl, Nat.zero_add, nI_m1, Nat.reduceAdd]
      repeat' split
      all_goals first | rfl | (exfalso; simp only [Int32.lt_iff_toInt_lt, Int32.le_iff_toInt_le] at *; omega) | (simp_all; done)
    · simp (disch := first | assumption | omega | decide | (simp only [ma_wd0, ma_wdi, ma_wdr, ma_wdl, ma_wdn] <;> omega)) only [↓reduceIte, evK, evL, evS, evA, evJ, Option.bind_some, Option.toList, List.cons_append, List.nil_append, nI_add, pk_mul, bI0, ite_not, ev_rbb, en_Asker_leans, bk_Asker_leans, nI_ltT, nI_ltF, nI_leT, nI_leF, nI_eqT, nI_eqF, gfC, ldC, hw, h1, Nat.lt_irrefl, Nat.zero_add, nI_m1, Nat.reduceAdd]
      repeat' split
      all_goals first | rfl | (exfalso; simp only [Int32.lt_iff_toInt_lt, Int32.le_iff_toInt_le] at *; omega) | (simp_all; done)
  · rcases (show x + 1 + 1 < W ∨ ¬ x + 1 + 1 < W by omega) with h1 | h1
    · simp (disch := first | assumption | omega | decide | (simp only [ma_wd0, ma_wdi, ma_wdr, ma_wdl, ma_wdn] <;> omega)) only [↓reduceIte, evK, evL, evS, evA, evJ, Option.bind_some, Option.toList, List.cons_append, List.nil_append, nI_add, pk_mul, bI0, ite_not, ev_rbb, en_Asker_leans, bk_Asker_leans, nI_ltT, nI_ltF, nI_leT, nI_leF, nI_eqT, nI_eqF, gfC, ldC, hw, h1, Nat.zero_lt_succ, Nat.add_sub_cancel, nI_m1, Nat.reduceAdd]
      repeat' split
      all_goals first | rfl | (exfalso; simp only [Int32.lt_iff_toInt_lt, Int32.le_iff_toInt_le] at *; omega) | (simp_all; done)
    · simp (disch := first | assumption | omega | decide | (simp only [ma_wd0, ma_wdi, ma_wdr, ma_wdl, ma_wdn] <;> omega)) only [↓reduceIte, evK, evL, evS, evA, evJ, Option.bind_some, Option.toList, List.cons_append, List.nil_append, nI_add, pk_mul, bI0, ite_not, ev_rbb, en_Asker_leans, bk_Asker_leans, nI_ltT, nI_ltF, nI_leT, nI_leF, nI_eqT, nI_eqF, gfC, ldC, hw, h1, Nat.zero_lt_succ, Nat.add_sub_cancel, nI_m1, Nat.reduceAdd]
      repeat' split
      all_goals first | rfl | (exfalso; simp only [Int32.lt_iff_toInt_lt, Int32.le_iff_toInt_le] at *; omega) | (simp_all; done)
  · rcases (show 0 + 1 < W ∨ ¬ 0 + 1 < W by omega) with h1 | h1
    · simp (disch := first | assumption | omega | decide | (simp only [ma_wd0, ma_wdi, ma_wdr, ma_wdl, ma_wdn] <;> omega)) only [↓reduceIte, evK, evL, evS, evA, evJ, Option.bind_some, Option.toList, List.cons_append, List.nil_append, nI_add, pk_mul, bI0, ite_not, ev_rbb, en_Asker_leans, bk_Asker_leans, nI_ltT, nI_ltF, nI_leT, nI_leF, nI_eqT, nI_eqF, gfC, ldC, hw, h1, Nat.lt_irrefl, Nat.zero_add, nI_m1, Nat.reduceAdd]
      repeat' split
      all_goals first | rfl | (exfalso; simp only [Int32.lt_iff_toInt_lt, Int32.le_iff_toInt_le] at *; omega) | (simp_all; done)
    · simp (disch := first | assumption | omega | decide | (simp only [ma_wd0, ma_wdi, ma_wdr, ma_wdl, ma_wdn] <;> omega)) only [↓reduceIte, evK, evL, evS, evA, evJ, Option.bind_some, Option.toList, List.cons_append, List.nil_append, nI_add, pk_mul, bI0, ite_not, ev_rbb, en_Asker_leans, bk_Asker_leans, nI_ltT, nI_ltF, nI_leT, nI_leF, nI_eqT, nI_eqF, gfC, ldC, hw, h1, Nat.lt_irrefl, Nat.zero_add, nI_m1, Nat.reduceAdd]
      repeat' split
      all_goals first | rfl | (exfalso; simp only [Int32.lt_iff_toInt_lt, Int32.le_iff_toInt_le] at *; omega) | (simp_all; done)
  · rcases (show x + 1 + 1 < W ∨ ¬ x + 1 + 1 < W by omega) with h1 | h1
    · simp (disch := first | assumption | omega | decide | (simp only [ma_wd0, ma_wdi, ma_wdr, ma_wdl, ma_wdn] <;> omega)) only [↓reduceIte, evK, evL, evS, evA, evJ, Option.bind_some, Option.toList, List.cons_append, List.nil_append, nI_add, pk_mul, bI0, ite_not, ev_rbb, en_Asker_leans, bk_Asker_leans, nI_ltT, nI_ltF, nI_leT, nI_leF, nI_eqT, nI_eqF, gfC, ldC, hw, h1, Nat.zero_lt_succ, Nat.add_sub_cancel, nI_m1, Nat.reduceAdd]
      repeat' split
      all_goals first | rfl | (exfalso; simp only [Int32.lt_iff_toInt_lt, Int32.le_iff_toInt_le] at *; omega) | (simp_all; done)
    · simp (disch := first | assumption | omega | decide | (simp only [ma_wd0, ma_wdi, ma_wdr, ma_wdl, ma_wdn] <;> omega)) only [↓reduceIte, evK, evL, evS, evA, evJ, Option.bind_some, Option.toList, List.cons_append, List.nil_append, nI_add, pk_mul, bI0, ite_not, ev_rbb, en_Asker_leans, bk_Asker_leans, nI_ltT, nI_ltF, nI_leT, nI_leF, nI_eqT, nI_eqF, gfC, ldC, hw, h1, Nat.zero_lt_succ, Nat.add_sub_cancel, nI_m1, Nat.reduceAdd]
      repeat' split
      all_goals first | rfl | (exfalso; simp only [Int32.lt_iff_toInt_lt, Int32.le_iff_toInt_le] at *; omega) | (simp_all; done)
theorem t_Asker_name (d x W a : Nat) (ha : a = 17 ∨ a = 97) (hx : x < W) (hW : W ≤ 14) (hw : c 1 0 = nI W) (hH : hB (c (a + 1))) : cc sc (d + 1) 44 [.ref 93, .ref a, .int (nI x)] (hp c w m) = some (none, hp (va_up c 94 (aW (c 94) (aQS W (c (a + 1)) (c (a + 2)) (iRem (c a 6) (nI 24)) (c a 6 / nI 24) (nI 0) x))) w m) := by
  have hL := fun (q : Nat → Int32) => t_Asker_leans (sc := sc) (c := va_up c 94 q) (m := m) (w := w) d x W a ha hx hW hw
  rcases ha with rfl | rfl
  · have hL2 := fun q => hL q hH
    simp (disch := first | assumption | omega | decide | (simp only [ma_wd0, ma_wdi, ma_wdr, ma_wdl, ma_wdn] <;> omega)) only [↓reduceIte, evK, evL, evS, evA, evJ, Option.bind_some, Option.toList, List.cons_append, List.nil_append, nI_add, pk_mul, bI0, ite_not, ev_rbb, en_Asker_name, gfC, ldC, stC, nI_ltT, nI_ltF, nI_leT, nI_leF, nI_eqT, nI_eqF, ce_Asker_leans, hL2, up_s, up_n, up_u, nI24]
    rfl
  · have hL2 := fun q => hL q hH
    simp (disch := first | assumption | omega | decide | (simp only [ma_wd0, ma_wdi, ma_wdr, ma_wdl, ma_wdn] <;> omega)) only [↓reduceIte, evK, evL, evS, evA, evJ, Option.bind_some, Option.toList, List.cons_append, List.nil_append, nI_add, pk_mul, bI0, ite_not, ev_rbb, en_Asker_name, gfC, ldC, stC, nI_ltT, nI_ltF, nI_leT, nI_leF, nI_eqT, nI_eqF, ce_Asker_leans, hL2, up_s, up_n, up_u, nI24]
    rfl
end NM
