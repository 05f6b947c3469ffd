/-! ===== small methods ===== -/
/-- a condition as a Java boolean -/
def bI (p : Prop) [Decidable p] : Int32 := if p then nI 1 else nI 0
theorem nI_10 : ¬ nI 1 = nI 0 := by decide +kernel
theorem nI_01 : ¬ nI 0 = nI 1 := by decide +kernel
theorem bI0 (p : Prop) [Decidable p] : (bI p = nI 0) = ¬ p := by
  unfold bI
  split
  next h => simp [h, nI_10]
  next h => simp [h]
theorem bI1 (p : Prop) [Decidable p] : (bI p = nI 1) = p := by
  unfold bI
  split
  next h => simp [h]
  next h => simp [h, nI_01]
theorem bI_t {p : Prop} [Decidable p] (h : p) : bI p = nI 1 := if_pos h
theorem bI_f {p : Prop} [Decidable p] (h : ¬ p) : bI p = nI 0 := if_neg h
theorem bI_c {p q : Prop} [Decidable p] [Decidable q] (h : p ↔ q) : bI p = bI q := by
  unfold bI
  by_cases hp : p
  · rw [if_pos hp, if_pos (h.mp hp)]
  · rw [if_neg hp, if_neg (fun z => hp (h.mpr z))]
theorem ev_rbb {sc : Nat × (Nat → Int32)} {d m : Nat} {is : List ma_I} {L : ma_L} {h : List ma_C} (p : Prop) [Decidable p] : ev sc d m ((.ireturn, [1]) :: is) L [.int (bI p)] h = some (some (.int (bI p)), h) := ev_rb _ (by unfold bI; split; exact Or.inr rfl; exact Or.inl rfl)
theorem up_s {α : Type} (f : Nat → α) (k : Nat) (x : α) : va_up f k x k = x := if_pos rfl
theorem up_n {α : Type} (f : Nat → α) (k : Nat) (x : α) (j : Nat) (h : j ≠ k) : va_up f k x j = f j := if_neg h
theorem up_u {α : Type} (f : Nat → α) (k : Nat) (x y : α) : va_up (va_up f k x) k y = va_up f k y := by
  funext j
  unfold va_up
  split <;> rfl
theorem nI_ltT {a b : Nat} (h : a < b) (hb : b < 2 ^ 31) : (nI a < nI b) = True := eq_true (nI_lt h hb)
theorem nI_ltF {a b : Nat} (h : b ≤ a) (hb : a < 2 ^ 31) : (nI a < nI b) = False := eq_false (nI_nlt h hb)
theorem nI_leT {a b : Nat} (h : a ≤ b) (hb : b < 2 ^ 31) : (nI a ≤ nI b) = True := eq_true (nI_le h hb)
theorem nI_leF {a b : Nat} (h : b < a) (hb : a < 2 ^ 31) : (nI a ≤ nI b) = False := eq_false (nI_ge h hb)
theorem nI_eqT {a b : Nat} (h : a = b) : (nI a = nI b) = True := eq_true (by rw [h])
theorem nI_eqF {a b : Nat} (h : a ≠ b) (ha : a < 2 ^ 31) (hb : b < 2 ^ 31) : (nI a = nI b) = False := eq_false (fun z => h ((nI_eq ha hb).mp z))
theorem iRem_nI {a b : Nat} (ha : a < 2 ^ 31) (h0 : 0 < b) (hb : b < 2 ^ 31) : iRem (nI a) (nI b) = nI (a % b) := pk_rem ha h0 hb
/-- least and greatest, held between, how far -/
def iMx (a b : Int32) : Int32 := if b < a then a else b
def iMn (a b : Int32) : Int32 := if a < b then a else b
def iHd (v a b : Int32) : Int32 := if v < a then a else if b < v then b else v
def iFr (a b : Int32) : Int32 := if b < a then a - b else b - a
section T1
variable {sc : Nat × (Nat → Int32)} {h : List ma_C} {c m : Nat → Nat → Int32} {w : Nat → Int64}
theorem t_MO_isIn (d : Nat) (v a b : Int32) : cc sc d 164 [.ref 138, .int v, .int a, .int b] h = some (some (.int (bI (a ≤ v ∧ v ≤ b))), h) := by
  simp (disch := first | assumption | omega | decide | (simp only [ma_wd0, ma_wdi, ma_wdr, ma_wdl, ma_wdn] <;> omega)) only [↓reduceIte, evK, evL, evS, evA, evJ, Option.bind_some, Option.toList, List.cons_append, List.nil_append, nI_add, pk_mul, bI0, ite_not, ev_rbb, en_MO_isIn, bk_MO_isIn]
  unfold bI
  repeat' split
  all_goals first | rfl | (exfalso; simp only [Int32.lt_iff_toInt_lt, Int32.le_iff_toInt_le] at *; omega) | (simp_all; done)
theorem t_LH_within (d : Nat) (v a b : Int32) : cc sc d 3 [.int v, .int a, .int b] h = some (some (.int (bI (a ≤ v ∧ v ≤ b))), h) := by
  simp (disch := first | assumption | omega | decide | (simp only [ma_wd0, ma_wdi, ma_wdr, ma_wdl, ma_wdn] <;> omega)) only [↓reduceIte, evK, evL, evS, evA, evJ, Option.bind_some, Option.toList, List.cons_append, List.nil_append, nI_add, pk_mul, bI0, ite_not, ev_rbb, en_LH_within, bk_LH_within]
  unfold bI
  repeat' split
  all_goals first | rfl | (exfalso; simp only [Int32.lt_iff_toInt_lt, Int32.le_iff_toInt_le] at *; omega) | (simp_all; done)
theorem t_MO_held (d : Nat) (v a b : Int32) : cc sc d 221 [.ref 138, .int v, .int a, .int b] h = some (some (.int (iHd v a b)), h) := by
  simp (disch := first | assumption | omega | decide | (simp only [ma_wd0, ma_wdi, ma_wdr, ma_wdl, ma_wdn] <;> omega)) only [↓reduceIte, evK, evL, evS, evA, evJ, Option.bind_some, Option.toList, List.cons_append, List.nil_append, nI_add, pk_mul, bI0, ite_not, ev_rbb, en_MO_held, bk_MO_held]
  unfold iHd
  repeat' split
  all_goals first | rfl | (exfalso; simp only [Int32.lt_iff_toInt_lt, Int32.le_iff_toInt_le] at *; omega) | (simp_all; done)
theorem t_LH_hold (d : Nat) (v a b : Int32) : cc sc d 10 [.int v, .int a, .int b] h = some (some (.int (iHd v a b)), h) := by
  simp (disch := first | assumption | omega | decide | (simp only [ma_wd0, ma_wdi, ma_wdr, ma_wdl, ma_wdn] <;> omega)) only [↓reduceIte, evK, evL, evS, evA, evJ, Option.bind_some, Option.toList, List.cons_append, List.nil_append, nI_add, pk_mul, bI0, ite_not, ev_rbb, en_LH_hold, bk_LH_hold]
  unfold iHd
  repeat' split
  all_goals first | rfl | (exfalso; simp only [Int32.lt_iff_toInt_lt, Int32.le_iff_toInt_le] at *; omega) | (simp_all; done)
theorem t_MO_greater (d : Nat) (a b : Int32) : cc sc d 213 [.ref 138, .int a, .int b] h = some (some (.int (iMx a b)), h) := by
  simp (disch := first | assumption | omega | decide | (simp only [ma_wd0, ma_wdi, ma_wdr, ma_wdl, ma_wdn] <;> omega)) only [↓reduceIte, evK, evL, evS, evA, evJ, Option.bind_some, Option.toList, List.cons_append, List.nil_append, nI_add, pk_mul, bI0, ite_not, ev_rbb, en_MO_greater, bk_MO_greater]
  unfold iMx
  repeat' split
  all_goals first | rfl | (exfalso; simp only [Int32.lt_iff_toInt_lt, Int32.le_iff_toInt_le] at *; omega) | (simp_all; done)
theorem t_MO_lesser (d : Nat) (a b : Int32) : cc sc d 222 [.ref 138, .int a, .int b] h = some (some (.int (iMn a b)), h) := by
  simp (disch := first | assumption | omega | decide | (simp only [ma_wd0, ma_wdi, ma_wdr, ma_wdl, ma_wdn] <;> omega)) only [↓reduceIte, evK, evL, evS, evA, evJ, Option.bind_some, Option.toList, List.cons_append, List.nil_append, nI_add, pk_mul, bI0, ite_not, ev_rbb, en_MO_lesser, bk_MO_lesser]
  unfold iMn
  repeat' split
  all_goals first | rfl | (exfalso; simp only [Int32.lt_iff_toInt_lt, Int32.le_iff_toInt_le] at *; omega) | (simp_all; done)
theorem t_MO_far (d : Nat) (a b : Int32) : cc sc d 216 [.ref 138, .int a, .int b] h = some (some (.int (iFr a b)), h) := by
  simp (disch := first | assumption | omega | decide | (simp only [ma_wd0, ma_wdi, ma_wdr, ma_wdl, ma_wdn] <;> omega)) only [↓reduceIte, evK, evL, evS, evA, evJ, Option.bind_some, Option.toList, List.cons_append, List.nil_append, nI_add, pk_mul, bI0, ite_not, ev_rbb, en_MO_far, bk_MO_far]
  unfold iFr
  repeat' split
  all_goals first | rfl | (exfalso; simp only [Int32.lt_iff_toInt_lt, Int32.le_iff_toInt_le] at *; omega) | (simp_all; done)
theorem t_LH_numbered (d : Nat) (v : Int32) : cc sc d 28 [.int v] h = some (some (.int (if v < nI 10 then -1 else v - nI 10)), h) := by
  simp (disch := first | assumption | omega | decide | (simp only [ma_wd0, ma_wdi, ma_wdr, ma_wdl, ma_wdn] <;> omega)) only [↓reduceIte, evK, evL, evS, evA, evJ, Option.bind_some, Option.toList, List.cons_append, List.nil_append, nI_add, pk_mul, bI0, ite_not, ev_rbb, en_LH_numbered, bk_LH_numbered]
  split <;> rfl
theorem t_MO_has (d : Nat) (s k : Int32) : cc sc d 256 [.ref 138, .int s, .int k] h = some (some (.int (bI (s >>> (k &&& 31) &&& nI 1 = nI 1))), h) := by
  simp (disch := first | assumption | omega | decide | (simp only [ma_wd0, ma_wdi, ma_wdr, ma_wdl, ma_wdn] <;> omega)) only [↓reduceIte, evK, evL, evS, evA, evJ, Option.bind_some, Option.toList, List.cons_append, List.nil_append, nI_add, pk_mul, bI0, ite_not, ev_rbb, en_MO_has, bk_MO_has]
  unfold bI
  repeat' split
  all_goals first | rfl | (exfalso; simp only [Int32.lt_iff_toInt_lt, Int32.le_iff_toInt_le] at *; omega) | (simp_all; done)
theorem t_MO_wide (d : Nat) : cc sc d 167 [.ref 138] (hp c w m) = some (some (.int (m 138 6 + nI 10)), hp c w m) := by
  simp (disch := first | assumption | omega | decide | (simp only [ma_wd0, ma_wdi, ma_wdr, ma_wdl, ma_wdn] <;> omega)) only [↓reduceIte, evK, evL, evS, evA, evJ, Option.bind_some, Option.toList, List.cons_append, List.nil_append, nI_add, pk_mul, bI0, ite_not, ev_rbb, en_MO_wide, gfM]
theorem t_MO_steep (d : Nat) : cc sc d 258 [.ref 138] (hp c w m) = some (some (.int (m 138 7 + nI 3)), hp c w m) := by
  simp (disch := first | assumption | omega | decide | (simp only [ma_wd0, ma_wdi, ma_wdr, ma_wdl, ma_wdn] <;> omega)) only [↓reduceIte, evK, evL, evS, evA, evJ, Option.bind_some, Option.toList, List.cons_append, List.nil_append, nI_add, pk_mul, bI0, ite_not, ev_rbb, en_MO_steep, gfM]
theorem t_MO_heightOf (d i : Nat) (hi : i < 14) : cc sc d 212 [.ref 138, .int (nI i)] (hp c w m) = some (some (.int (m 139 (5 + i) + nI 10)), hp c w m) := by
  simp (disch := first | assumption | omega | decide | (simp only [ma_wd0, ma_wdi, ma_wdr, ma_wdl, ma_wdn] <;> omega)) only [↓reduceIte, evK, evL, evS, evA, evJ, Option.bind_some, Option.toList, List.cons_append, List.nil_append, nI_add, pk_mul, bI0, ite_not, ev_rbb, en_MO_heightOf, gfM, ldM]
theorem t_MO_heightBe (d i : Nat) (v : Int32) (hi : i < 14) : cc sc d 223 [.ref 138, .int (nI i), .int v] (hp c w m) = some (none, hp c w (va_up m 139 (upd (m 139) (5 + i) (v - nI 10)))) := by
  simp (disch := first | assumption | omega | decide | (simp only [ma_wd0, ma_wdi, ma_wdr, ma_wdl, ma_wdn] <;> omega)) only [↓reduceIte, evK, evL, evS, evA, evJ, Option.bind_some, Option.toList, List.cons_append, List.nil_append, nI_add, pk_mul, bI0, ite_not, ev_rbb, en_MO_heightBe, gfM, stM]
theorem t_MO_isColumn (d : Nat) (x : Int32) : cc sc (d + 1) 166 [.ref 138, .int x] (hp c w m) = some (some (.int (bI (nI 0 ≤ x ∧ x < m 138 6 + nI 10))), hp c w m) := by
  simp (disch := first | assumption | omega | decide | (simp only [ma_wd0, ma_wdi, ma_wdr, ma_wdl, ma_wdn] <;> omega)) only [↓reduceIte, evK, evL, evS, evA, evJ, Option.bind_some, Option.toList, List.cons_append, List.nil_append, nI_add, pk_mul, bI0, ite_not, ev_rbb, en_MO_isColumn, bk_MO_isColumn, ce_MO_wide, t_MO_wide]
  unfold bI
  repeat' split
  all_goals first | rfl | (exfalso; simp only [Int32.lt_iff_toInt_lt, Int32.le_iff_toInt_le] at *; omega) | (simp_all; done)
theorem t_MO_isShip (d : Nat) (x : Int32) : cc sc d 171 [.ref 138, .int x] (hp c w m) = some (some (.int (bI (nI 0 ≤ x ∧ x < m 138 9))), hp c w m) := by
  simp (disch := first | assumption | omega | decide | (simp only [ma_wd0, ma_wdi, ma_wdr, ma_wdl, ma_wdn] <;> omega)) only [↓reduceIte, evK, evL, evS, evA, evJ, Option.bind_some, Option.toList, List.cons_append, List.nil_append, nI_add, pk_mul, bI0, ite_not, ev_rbb, en_MO_isShip, bk_MO_isShip, gfM]
  unfold bI
  repeat' split
  all_goals first | rfl | (exfalso; simp only [Int32.lt_iff_toInt_lt, Int32.le_iff_toInt_le] at *; omega) | (simp_all; done)
theorem t_MO_isPier (d : Nat) (x : Int32) : cc sc d 172 [.ref 138, .int x] (hp c w m) = some (some (.int (bI (nI 0 ≤ x ∧ x < m 138 10))), hp c w m) := by
  simp (disch := first | assumption | omega | decide | (simp only [ma_wd0, ma_wdi, ma_wdr, ma_wdl, ma_wdn] <;> omega)) only [↓reduceIte, evK, evL, evS, evA, evJ, Option.bind_some, Option.toList, List.cons_append, List.nil_append, nI_add, pk_mul, bI0, ite_not, ev_rbb, en_MO_isPier, bk_MO_isPier, gfM]
  unfold bI
  repeat' split
  all_goals first | rfl | (exfalso; simp only [Int32.lt_iff_toInt_lt, Int32.le_iff_toInt_le] at *; omega) | (simp_all; done)
theorem t_Told_isColumn (d : Nat) (x : Int32) : cc sc d 137 [.ref 1, .int x] (hp c w m) = some (some (.int (bI (nI 0 ≤ x ∧ x < c 1 0))), hp c w m) := by
  simp (disch := first | assumption | omega | decide | (simp only [ma_wd0, ma_wdi, ma_wdr, ma_wdl, ma_wdn] <;> omega)) only [↓reduceIte, evK, evL, evS, evA, evJ, Option.bind_some, Option.toList, List.cons_append, List.nil_append, nI_add, pk_mul, bI0, ite_not, ev_rbb, en_Told_isColumn, bk_Told_isColumn, gfC]
  unfold bI
  repeat' split
  all_goals first | rfl | (exfalso; simp only [Int32.lt_iff_toInt_lt, Int32.le_iff_toInt_le] at *; omega) | (simp_all; done)
theorem t_Told_isShip (d : Nat) (x : Int32) : cc sc d 138 [.ref 1, .int x] (hp c w m) = some (some (.int (bI (nI 0 ≤ x ∧ x < c 1 3))), hp c w m) := by
  simp (disch := first | assumption | omega | decide | (simp only [ma_wd0, ma_wdi, ma_wdr, ma_wdl, ma_wdn] <;> omega)) only [↓reduceIte, evK, evL, evS, evA, evJ, Option.bind_some, Option.toList, List.cons_append, List.nil_append, nI_add, pk_mul, bI0, ite_not, ev_rbb, en_Told_isShip, bk_Told_isShip, gfC]
  unfold bI
  repeat' split
  all_goals first | rfl | (exfalso; simp only [Int32.lt_iff_toInt_lt, Int32.le_iff_toInt_le] at *; omega) | (simp_all; done)
theorem t_Told_isPier (d : Nat) (x : Int32) : cc sc d 139 [.ref 1, .int x] (hp c w m) = some (some (.int (bI (nI 0 ≤ x ∧ x < c 1 5))), hp c w m) := by
  simp (disch := first | assumption | omega | decide | (simp only [ma_wd0, ma_wdi, ma_wdr, ma_wdl, ma_wdn] <;> omega)) only [↓reduceIte, evK, evL, evS, evA, evJ, Option.bind_some, Option.toList, List.cons_append, List.nil_append, nI_add, pk_mul, bI0, ite_not, ev_rbb, en_Told_isPier, bk_Told_isPier, gfC]
  unfold bI
  repeat' split
  all_goals first | rfl | (exfalso; simp only [Int32.lt_iff_toInt_lt, Int32.le_iff_toInt_le] at *; omega) | (simp_all; done)
theorem t_Told_allColumns (d : Nat) : cc sc d 143 [.ref 1] (hp c w m) = some (some (.int (nI 1 <<< (c 1 0 &&& 31) - nI 1)), hp c w m) := by
  simp (disch := first | assumption | omega | decide | (simp only [ma_wd0, ma_wdi, ma_wdr, ma_wdl, ma_wdn] <;> omega)) only [↓reduceIte, evK, evL, evS, evA, evJ, Option.bind_some, Option.toList, List.cons_append, List.nil_append, nI_add, pk_mul, bI0, ite_not, ev_rbb, en_Told_allColumns, gfC]
theorem t_Math_max (d : Nat) (a b : Int32) : cc sc d 292 [.int a, .int b] h = some (some (.int (if a < b then b else a)), h) := by
  simp (disch := first | assumption | omega | decide | (simp only [ma_wd0, ma_wdi, ma_wdr, ma_wdl, ma_wdn] <;> omega)) only [↓reduceIte, evK, evL, evS, evA, evJ, Option.bind_some, Option.toList, List.cons_append, List.nil_append, nI_add, pk_mul, bI0, ite_not, ev_rbb, en_Math_max, bk_Math_max]
  repeat' split
  all_goals first | rfl | (exfalso; simp only [Int32.lt_iff_toInt_lt, Int32.le_iff_toInt_le] at *; omega) | (simp_all; done)
theorem t_Math_min (d : Nat) (a b : Int32) : cc sc d 291 [.int a, .int b] h = some (some (.int (if a ≤ b then a else b)), h) := by
  simp (disch := first | assumption | omega | decide | (simp only [ma_wd0, ma_wdi, ma_wdr, ma_wdl, ma_wdn] <;> omega)) only [↓reduceIte, evK, evL, evS, evA, evJ, Option.bind_some, Option.toList, List.cons_append, List.nil_append, nI_add, pk_mul, bI0, ite_not, ev_rbb, en_Math_min, bk_Math_min]
  repeat' split
  all_goals first | rfl | (exfalso; simp only [Int32.lt_iff_toInt_lt, Int32.le_iff_toInt_le] at *; omega) | (simp_all; done)
theorem t_Math_abs (d : Nat) (a : Int32) : cc sc d 293 [.int a] h = some (some (.int (if a < nI 0 then -a else a)), h) := by
  simp (disch := first | assumption | omega | decide | (simp only [ma_wd0, ma_wdi, ma_wdr, ma_wdl, ma_wdn] <;> omega)) only [↓reduceIte, evK, evL, evS, evA, evJ, Option.bind_some, Option.toList, List.cons_append, List.nil_append, nI_add, pk_mul, bI0, ite_not, ev_rbb, en_Math_abs, bk_Math_abs]
  repeat' split
  all_goals first | rfl | (exfalso; simp only [Int32.lt_iff_toInt_lt, Int32.le_iff_toInt_le] at *; omega) | (simp_all; done)
end T1
