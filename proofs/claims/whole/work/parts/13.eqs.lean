/-! ===== equations: one instruction each ===== -/
theorem ma_jT {c : ClassFile.Cond} {x y : Int32} {t : Nat} {z : Int} {S : List Value} (hc : ma_cmp c x y = true) : ma_j (.if_icmp c z) [t] (.int y :: .int x :: S) = some (some t, S) := by simp only [ma_j, hc, if_true]
theorem ma_jF {c : ClassFile.Cond} {x y : Int32} {t : Nat} {z : Int} {S : List Value} (hc : ma_cmp c x y = false) : ma_j (.if_icmp c z) [t] (.int y :: .int x :: S) = some (none, S) := by simp only [ma_j, hc]; rfl
theorem ma_jT0 {c : ClassFile.Cond} {x : Int32} {t : Nat} {z : Int} {S : List Value} (hc : ma_cmp c x 0 = true) : ma_j (.ifCond c z) [t] (.int x :: S) = some (some t, S) := by simp only [ma_j, hc, if_true]
theorem ma_jF0 {c : ClassFile.Cond} {x : Int32} {t : Nat} {z : Int} {S : List Value} (hc : ma_cmp c x 0 = false) : ma_j (.ifCond c z) [t] (.int x :: S) = some (none, S) := by simp only [ma_j, hc]; rfl
noncomputable def ev (sc : Nat × (Nat → Int32)) (d m : Nat) (is : List ma_I) (L : ma_L) (S : List Value) (h : List ma_C) : Option (Option Value × List ma_C) := rv (pm_P sc) d m is L S h
noncomputable def cc (sc : Nat × (Nat → Int32)) (d m : Nat) (a : List Value) (h : List ma_C) : Option (Option Value × List ma_C) := ev sc d m (pm_blk m 0) (ma_en a ((pm_mx[m]?).getD 0)) [] h
def ma_wd : List Value → Nat
  | [] => 0
  | v :: S => v.category + ma_wd S
theorem ma_wd_eq : ∀ S : List Value, (S.map fun v => v.category).sum = ma_wd S
  | [] => rfl
  | v :: S => by rw [List.map_cons, List.sum_cons, ma_wd_eq S]; rfl
theorem ma_wd0 : ma_wd [] = 0 := rfl
theorem ma_wdi (x : Int32) (S : List Value) : ma_wd (.int x :: S) = 1 + ma_wd S := rfl
theorem ma_wdr (x : Nat) (S : List Value) : ma_wd (.ref x :: S) = 1 + ma_wd S := rfl
theorem ma_wdn (S : List Value) : ma_wd (.null :: S) = 1 + ma_wd S := rfl
theorem ma_wdl (x : Int64) (S : List Value) : ma_wd (.long x :: S) = 2 + ma_wd S := rfl
section EV
variable {sc : Nat × (Nat → Int32)} {d m : Nat} {is : List ma_I} {L : ma_L} {S : List Value} {h : List ma_C} {o : List Nat}
theorem evK : (∀ (sc : Nat × (Nat → Int32)) (d m : Nat) (is : List ma_I) (L : ma_L) (S : List Value) (h : List ma_C) (o : List Nat), ev sc d m ((.iconst (-1), o) :: is) (L) (S) (h) = ev sc d m (is) (L) (.int (-1) :: S) (h)) ∧
  (∀ (sc : Nat × (Nat → Int32)) (d m : Nat) (is : List ma_I) (L : ma_L) (S : List Value) (h : List ma_C) (o : List Nat), ev sc d m ((.iconst 0, o) :: is) (L) (S) (h) = ev sc d m (is) (L) (.int 0 :: S) (h)) ∧
  (∀ (sc : Nat × (Nat → Int32)) (d m : Nat) (is : List ma_I) (L : ma_L) (S : List Value) (h : List ma_C) (o : List Nat), ev sc d m ((.iconst 1, o) :: is) (L) (S) (h) = ev sc d m (is) (L) (.int 1 :: S) (h)) ∧
  (∀ (sc : Nat × (Nat → Int32)) (d m : Nat) (is : List ma_I) (L : ma_L) (S : List Value) (h : List ma_C) (o : List Nat), ev sc d m ((.iconst 2, o) :: is) (L) (S) (h) = ev sc d m (is) (L) (.int 2 :: S) (h)) ∧
  (∀ (sc : Nat × (Nat → Int32)) (d m : Nat) (is : List ma_I) (L : ma_L) (S : List Value) (h : List ma_C) (o : List Nat), ev sc d m ((.iconst 3, o) :: is) (L) (S) (h) = ev sc d m (is) (L) (.int 3 :: S) (h)) ∧
  (∀ (sc : Nat × (Nat → Int32)) (d m : Nat) (is : List ma_I) (L : ma_L) (S : List Value) (h : List ma_C) (o : List Nat), ev sc d m ((.iconst 4, o) :: is) (L) (S) (h) = ev sc d m (is) (L) (.int 4 :: S) (h)) ∧
  (∀ (sc : Nat × (Nat → Int32)) (d m : Nat) (is : List ma_I) (L : ma_L) (S : List Value) (h : List ma_C) (o : List Nat), ev sc d m ((.iconst 5, o) :: is) (L) (S) (h) = ev sc d m (is) (L) (.int 5 :: S) (h)) ∧
  (∀ (sc : Nat × (Nat → Int32)) (d m : Nat) (is : List ma_I) (L : ma_L) (S : List Value) (h : List ma_C) (o : List Nat), ev sc d m ((.bipush (-100), o) :: is) (L) (S) (h) = ev sc d m (is) (L) (.int (-100) :: S) (h)) ∧
  (∀ (sc : Nat × (Nat → Int32)) (d m : Nat) (is : List ma_I) (L : ma_L) (S : List Value) (h : List ma_C) (o : List Nat), ev sc d m ((.bipush (-20), o) :: is) (L) (S) (h) = ev sc d m (is) (L) (.int (-20) :: S) (h)) ∧
  (∀ (sc : Nat × (Nat → Int32)) (d m : Nat) (is : List ma_I) (L : ma_L) (S : List Value) (h : List ma_C) (o : List Nat), ev sc d m ((.bipush (-2), o) :: is) (L) (S) (h) = ev sc d m (is) (L) (.int (-2) :: S) (h)) ∧
  (∀ (sc : Nat × (Nat → Int32)) (d m : Nat) (is : List ma_I) (L : ma_L) (S : List Value) (h : List ma_C) (o : List Nat), ev sc d m ((.bipush 6, o) :: is) (L) (S) (h) = ev sc d m (is) (L) (.int 6 :: S) (h)) ∧
  (∀ (sc : Nat × (Nat → Int32)) (d m : Nat) (is : List ma_I) (L : ma_L) (S : List Value) (h : List ma_C) (o : List Nat), ev sc d m ((.bipush 7, o) :: is) (L) (S) (h) = ev sc d m (is) (L) (.int 7 :: S) (h)) ∧
  (∀ (sc : Nat × (Nat → Int32)) (d m : Nat) (is : List ma_I) (L : ma_L) (S : List Value) (h : List ma_C) (o : List Nat), ev sc d m ((.bipush 8, o) :: is) (L) (S) (h) = ev sc d m (is) (L) (.int 8 :: S) (h)) ∧
  (∀ (sc : Nat × (Nat → Int32)) (d m : Nat) (is : List ma_I) (L : ma_L) (S : List Value) (h : List ma_C) (o : List Nat), ev sc d m ((.bipush 9, o) :: is) (L) (S) (h) = ev sc d m (is) (L) (.int 9 :: S) (h)) ∧
  (∀ (sc : Nat × (Nat → Int32)) (d m : Nat) (is : List ma_I) (L : ma_L) (S : List Value) (h : List ma_C) (o : List Nat), ev sc d m ((.bipush 10, o) :: is) (L) (S) (h) = ev sc d m (is) (L) (.int 10 :: S) (h)) ∧
  (∀ (sc : Nat × (Nat → Int32)) (d m : Nat) (is : List ma_I) (L : ma_L) (S : List Value) (h : List ma_C) (o : List Nat), ev sc d m ((.bipush 11, o) :: is) (L) (S) (h) = ev sc d m (is) (L) (.int 11 :: S) (h)) ∧
  (∀ (sc : Nat × (Nat → Int32)) (d m : Nat) (is : List ma_I) (L : ma_L) (S : List Value) (h : List ma_C) (o : List Nat), ev sc d m ((.bipush 12, o) :: is) (L) (S) (h) = ev sc d m (is) (L) (.int 12 :: S) (h)) ∧
  (∀ (sc : Nat × (Nat → Int32)) (d m : Nat) (is : List ma_I) (L : ma_L) (S : List Value) (h : List ma_C) (o : List Nat), ev sc d m ((.bipush 13, o) :: is) (L) (S) (h) = ev sc d m (is) (L) (.int 13 :: S) (h)) ∧
  (∀ (sc : Nat × (Nat → Int32)) (d m : Nat) (is : List ma_I) (L : ma_L) (S : List Value) (h : List ma_C) (o : List Nat), ev sc d m ((.bipush 14, o) :: is) (L) (S) (h) = ev sc d m (is) (L) (.int 14 :: S) (h)) ∧
  (∀ (sc : Nat × (Nat → Int32)) (d m : Nat) (is : List ma_I) (L : ma_L) (S : List Value) (h : List ma_C) (o : List Nat), ev sc d m ((.bipush 15, o) :: is) (L) (S) (h) = ev sc d m (is) (L) (.int 15 :: S) (h)) ∧
  (∀ (sc : Nat × (Nat → Int32)) (d m : Nat) (is : List ma_I) (L : ma_L) (S : List Value) (h : List ma_C) (o : List Nat), ev sc d m ((.bipush 16, o) :: is) (L) (S) (h) = ev sc d m (is) (L) (.int 16 :: S) (h)) ∧
  (∀ (sc : Nat × (Nat → Int32)) (d m : Nat) (is : List ma_I) (L : ma_L) (S : List Value) (h : List ma_C) (o : List Nat), ev sc d m ((.bipush 17, o) :: is) (L) (S) (h) = ev sc d m (is) (L) (.int 17 :: S) (h)) ∧
  (∀ (sc : Nat × (Nat → Int32)) (d m : Nat) (is : List ma_I) (L : ma_L) (S : List Value) (h : List ma_C) (o : List Nat), ev sc d m ((.bipush 18, o) :: is) (L) (S) (h) = ev sc d m (is) (L) (.int 18 :: S) (h)) ∧
  (∀ (sc : Nat × (Nat → Int32)) (d m : Nat) (is : List ma_I) (L : ma_L) (S : List Value) (h : List ma_C) (o : List Nat), ev sc d m ((.bipush 19, o) :: is) (L) (S) (h) = ev sc d m (is) (L) (.int 19 :: S) (h)) ∧
  (∀ (sc : Nat × (Nat → Int32)) (d m : Nat) (is : List ma_I) (L : ma_L) (S : List Value) (h : List ma_C) (o : List Nat), ev sc d m ((.bipush 20, o) :: is) (L) (S) (h) = ev sc d m (is) (L) (.int 20 :: S) (h)) ∧
  (∀ (sc : Nat × (Nat → Int32)) (d m : Nat) (is : List ma_I) (L : ma_L) (S : List Value) (h : List ma_C) (o : List Nat), ev sc d m ((.bipush 21, o) :: is) (L) (S) (h) = ev sc d m (is) (L) (.int 21 :: S) (h)) ∧
  (∀ (sc : Nat × (Nat → Int32)) (d m : Nat) (is : List ma_I) (L : ma_L) (S : List Value) (h : List ma_C) (o : List Nat), ev sc d m ((.bipush 22, o) :: is) (L) (S) (h) = ev sc d m (is) (L) (.int 22 :: S) (h)) ∧
  (∀ (sc : Nat × (Nat → Int32)) (d m : Nat) (is : List ma_I) (L : ma_L) (S : List Value) (h : List ma_C) (o : List Nat), ev sc d m ((.bipush 23, o) :: is) (L) (S) (h) = ev sc d m (is) (L) (.int 23 :: S) (h)) ∧
  (∀ (sc : Nat × (Nat → Int32)) (d m : Nat) (is : List ma_I) (L : ma_L) (S : List Value) (h : List ma_C) (o : List Nat), ev sc d m ((.bipush 24, o) :: is) (L) (S) (h) = ev sc d m (is) (L) (.int 24 :: S) (h)) ∧
  (∀ (sc : Nat × (Nat → Int32)) (d m : Nat) (is : List ma_I) (L : ma_L) (S : List Value) (h : List ma_C) (o : List Nat), ev sc d m ((.bipush 25, o) :: is) (L) (S) (h) = ev sc d m (is) (L) (.int 25 :: S) (h)) ∧
  (∀ (sc : Nat × (Nat → Int32)) (d m : Nat) (is : List ma_I) (L : ma_L) (S : List Value) (h : List ma_C) (o : List Nat), ev sc d m ((.bipush 26, o) :: is) (L) (S) (h) = ev sc d m (is) (L) (.int 26 :: S) (h)) ∧
  (∀ (sc : Nat × (Nat → Int32)) (d m : Nat) (is : List ma_I) (L : ma_L) (S : List Value) (h : List ma_C) (o : List Nat), ev sc d m ((.bipush 27, o) :: is) (L) (S) (h) = ev sc d m (is) (L) (.int 27 :: S) (h)) ∧
  (∀ (sc : Nat × (Nat → Int32)) (d m : Nat) (is : List ma_I) (L : ma_L) (S : List Value) (h : List ma_C) (o : List Nat), ev sc d m ((.bipush 28, o) :: is) (L) (S) (h) = ev sc d m (is) (L) (.int 28 :: S) (h)) ∧
  (∀ (sc : Nat × (Nat → Int32)) (d m : Nat) (is : List ma_I) (L : ma_L) (S : List Value) (h : List ma_C) (o : List Nat), ev sc d m ((.bipush 29, o) :: is) (L) (S) (h) = ev sc d m (is) (L) (.int 29 :: S) (h)) ∧
  (∀ (sc : Nat × (Nat → Int32)) (d m : Nat) (is : List ma_I) (L : ma_L) (S : List Value) (h : List ma_C) (o : List Nat), ev sc d m ((.bipush 30, o) :: is) (L) (S) (h) = ev sc d m (is) (L) (.int 30 :: S) (h)) ∧
  (∀ (sc : Nat × (Nat → Int32)) (d m : Nat) (is : List ma_I) (L : ma_L) (S : List Value) (h : List ma_C) (o : List Nat), ev sc d m ((.bipush 31, o) :: is) (L) (S) (h) = ev sc d m (is) (L) (.int 31 :: S) (h)) ∧
  (∀ (sc : Nat × (Nat → Int32)) (d m : Nat) (is : List ma_I) (L : ma_L) (S : List Value) (h : List ma_C) (o : List Nat), ev sc d m ((.bipush 32, o) :: is) (L) (S) (h) = ev sc d m (is) (L) (.int 32 :: S) (h)) ∧
  (∀ (sc : Nat × (Nat → Int32)) (d m : Nat) (is : List ma_I) (L : ma_L) (S : List Value) (h : List ma_C) (o : List Nat), ev sc d m ((.bipush 33, o) :: is) (L) (S) (h) = ev sc d m (is) (L) (.int 33 :: S) (h)) ∧
  (∀ (sc : Nat × (Nat → Int32)) (d m : Nat) (is : List ma_I) (L : ma_L) (S : List Value) (h : List ma_C) (o : List Nat), ev sc d m ((.bipush 34, o) :: is) (L) (S) (h) = ev sc d m (is) (L) (.int 34 :: S) (h)) ∧
  (∀ (sc : Nat × (Nat → Int32)) (d m : Nat) (is : List ma_I) (L : ma_L) (S : List Value) (h : List ma_C) (o : List Nat), ev sc d m ((.bipush 35, o) :: is) (L) (S) (h) = ev sc d m (is) (L) (.int 35 :: S) (h)) ∧
  (∀ (sc : Nat × (Nat → Int32)) (d m : Nat) (is : List ma_I) (L : ma_L) (S : List Value) (h : List ma_C) (o : List Nat), ev sc d m ((.bipush 36, o) :: is) (L) (S) (h) = ev sc d m (is) (L) (.int 36 :: S) (h)) ∧
  (∀ (sc : Nat × (Nat → Int32)) (d m : Nat) (is : List ma_I) (L : ma_L) (S : List Value) (h : List ma_C) (o : List Nat), ev sc d m ((.bipush 37, o) :: is) (L) (S) (h) = ev sc d m (is) (L) (.int 37 :: S) (h)) ∧
  (∀ (sc : Nat × (Nat → Int32)) (d m : Nat) (is : List ma_I) (L : ma_L) (S : List Value) (h : List ma_C) (o : List Nat), ev sc d m ((.bipush 38, o) :: is) (L) (S) (h) = ev sc d m (is) (L) (.int 38 :: S) (h)) ∧
  (∀ (sc : Nat × (Nat → Int32)) (d m : Nat) (is : List ma_I) (L : ma_L) (S : List Value) (h : List ma_C) (o : List Nat), ev sc d m ((.bipush 39, o) :: is) (L) (S) (h) = ev sc d m (is) (L) (.int 39 :: S) (h)) ∧
  (∀ (sc : Nat × (Nat → Int32)) (d m : Nat) (is : List ma_I) (L : ma_L) (S : List Value) (h : List ma_C) (o : List Nat), ev sc d m ((.bipush 40, o) :: is) (L) (S) (h) = ev sc d m (is) (L) (.int 40 :: S) (h)) ∧
  (∀ (sc : Nat × (Nat → Int32)) (d m : Nat) (is : List ma_I) (L : ma_L) (S : List Value) (h : List ma_C) (o : List Nat), ev sc d m ((.bipush 41, o) :: is) (L) (S) (h) = ev sc d m (is) (L) (.int 41 :: S) (h)) ∧
  (∀ (sc : Nat × (Nat → Int32)) (d m : Nat) (is : List ma_I) (L : ma_L) (S : List Value) (h : List ma_C) (o : List Nat), ev sc d m ((.bipush 42, o) :: is) (L) (S) (h) = ev sc d m (is) (L) (.int 42 :: S) (h)) ∧
  (∀ (sc : Nat × (Nat → Int32)) (d m : Nat) (is : List ma_I) (L : ma_L) (S : List Value) (h : List ma_C) (o : List Nat), ev sc d m ((.bipush 43, o) :: is) (L) (S) (h) = ev sc d m (is) (L) (.int 43 :: S) (h)) ∧
  (∀ (sc : Nat × (Nat → Int32)) (d m : Nat) (is : List ma_I) (L : ma_L) (S : List Value) (h : List ma_C) (o : List Nat), ev sc d m ((.bipush 44, o) :: is) (L) (S) (h) = ev sc d m (is) (L) (.int 44 :: S) (h)) ∧
  (∀ (sc : Nat × (Nat → Int32)) (d m : Nat) (is : List ma_I) (L : ma_L) (S : List Value) (h : List ma_C) (o : List Nat), ev sc d m ((.bipush 45, o) :: is) (L) (S) (h) = ev sc d m (is) (L) (.int 45 :: S) (h)) ∧
  (∀ (sc : Nat × (Nat → Int32)) (d m : Nat) (is : List ma_I) (L : ma_L) (S : List Value) (h : List ma_C) (o : List Nat), ev sc d m ((.bipush 46, o) :: is) (L) (S) (h) = ev sc d m (is) (L) (.int 46 :: S) (h)) ∧
  (∀ (sc : Nat × (Nat → Int32)) (d m : Nat) (is : List ma_I) (L : ma_L) (S : List Value) (h : List ma_C) (o : List Nat), ev sc d m ((.bipush 47, o) :: is) (L) (S) (h) = ev sc d m (is) (L) (.int 47 :: S) (h)) ∧
  (∀ (sc : Nat × (Nat → Int32)) (d m : Nat) (is : List ma_I) (L : ma_L) (S : List Value) (h : List ma_C) (o : List Nat), ev sc d m ((.bipush 48, o) :: is) (L) (S) (h) = ev sc d m (is) (L) (.int 48 :: S) (h)) ∧
  (∀ (sc : Nat × (Nat → Int32)) (d m : Nat) (is : List ma_I) (L : ma_L) (S : List Value) (h : List ma_C) (o : List Nat), ev sc d m ((.bipush 49, o) :: is) (L) (S) (h) = ev sc d m (is) (L) (.int 49 :: S) (h)) ∧
  (∀ (sc : Nat × (Nat → Int32)) (d m : Nat) (is : List ma_I) (L : ma_L) (S : List Value) (h : List ma_C) (o : List Nat), ev sc d m ((.bipush 50, o) :: is) (L) (S) (h) = ev sc d m (is) (L) (.int 50 :: S) (h)) ∧
  (∀ (sc : Nat × (Nat → Int32)) (d m : Nat) (is : List ma_I) (L : ma_L) (S : List Value) (h : List ma_C) (o : List Nat), ev sc d m ((.bipush 51, o) :: is) (L) (S) (h) = ev sc d m (is) (L) (.int 51 :: S) (h)) ∧
  (∀ (sc : Nat × (Nat → Int32)) (d m : Nat) (is : List ma_I) (L : ma_L) (S : List Value) (h : List ma_C) (o : List Nat), ev sc d m ((.bipush 52, o) :: is) (L) (S) (h) = ev sc d m (is) (L) (.int 52 :: S) (h)) ∧
  (∀ (sc : Nat × (Nat → Int32)) (d m : Nat) (is : List ma_I) (L : ma_L) (S : List Value) (h : List ma_C) (o : List Nat), ev sc d m ((.bipush 53, o) :: is) (L) (S) (h) = ev sc d m (is) (L) (.int 53 :: S) (h)) ∧
  (∀ (sc : Nat × (Nat → Int32)) (d m : Nat) (is : List ma_I) (L : ma_L) (S : List Value) (h : List ma_C) (o : List Nat), ev sc d m ((.bipush 54, o) :: is) (L) (S) (h) = ev sc d m (is) (L) (.int 54 :: S) (h)) ∧
  (∀ (sc : Nat × (Nat → Int32)) (d m : Nat) (is : List ma_I) (L : ma_L) (S : List Value) (h : List ma_C) (o : List Nat), ev sc d m ((.bipush 55, o) :: is) (L) (S) (h) = ev sc d m (is) (L) (.int 55 :: S) (h)) ∧
  (∀ (sc : Nat × (Nat → Int32)) (d m : Nat) (is : List ma_I) (L : ma_L) (S : List Value) (h : List ma_C) (o : List Nat), ev sc d m ((.bipush 56, o) :: is) (L) (S) (h) = ev sc d m (is) (L) (.int 56 :: S) (h)) ∧
  (∀ (sc : Nat × (Nat → Int32)) (d m : Nat) (is : List ma_I) (L : ma_L) (S : List Value) (h : List ma_C) (o : List Nat), ev sc d m ((.bipush 57, o) :: is) (L) (S) (h) = ev sc d m (is) (L) (.int 57 :: S) (h)) ∧
  (∀ (sc : Nat × (Nat → Int32)) (d m : Nat) (is : List ma_I) (L : ma_L) (S : List Value) (h : List ma_C) (o : List Nat), ev sc d m ((.bipush 58, o) :: is) (L) (S) (h) = ev sc d m (is) (L) (.int 58 :: S) (h)) ∧
  (∀ (sc : Nat × (Nat → Int32)) (d m : Nat) (is : List ma_I) (L : ma_L) (S : List Value) (h : List ma_C) (o : List Nat), ev sc d m ((.bipush 59, o) :: is) (L) (S) (h) = ev sc d m (is) (L) (.int 59 :: S) (h)) ∧
  (∀ (sc : Nat × (Nat → Int32)) (d m : Nat) (is : List ma_I) (L : ma_L) (S : List Value) (h : List ma_C) (o : List Nat), ev sc d m ((.bipush 60, o) :: is) (L) (S) (h) = ev sc d m (is) (L) (.int 60 :: S) (h)) ∧
  (∀ (sc : Nat × (Nat → Int32)) (d m : Nat) (is : List ma_I) (L : ma_L) (S : List Value) (h : List ma_C) (o : List Nat), ev sc d m ((.bipush 61, o) :: is) (L) (S) (h) = ev sc d m (is) (L) (.int 61 :: S) (h)) ∧
  (∀ (sc : Nat × (Nat → Int32)) (d m : Nat) (is : List ma_I) (L : ma_L) (S : List Value) (h : List ma_C) (o : List Nat), ev sc d m ((.bipush 62, o) :: is) (L) (S) (h) = ev sc d m (is) (L) (.int 62 :: S) (h)) ∧
  (∀ (sc : Nat × (Nat → Int32)) (d m : Nat) (is : List ma_I) (L : ma_L) (S : List Value) (h : List ma_C) (o : List Nat), ev sc d m ((.bipush 63, o) :: is) (L) (S) (h) = ev sc d m (is) (L) (.int 63 :: S) (h)) ∧
  (∀ (sc : Nat × (Nat → Int32)) (d m : Nat) (is : List ma_I) (L : ma_L) (S : List Value) (h : List ma_C) (o : List Nat), ev sc d m ((.bipush 64, o) :: is) (L) (S) (h) = ev sc d m (is) (L) (.int 64 :: S) (h)) ∧
  (∀ (sc : Nat × (Nat → Int32)) (d m : Nat) (is : List ma_I) (L : ma_L) (S : List Value) (h : List ma_C) (o : List Nat), ev sc d m ((.bipush 65, o) :: is) (L) (S) (h) = ev sc d m (is) (L) (.int 65 :: S) (h)) ∧
  (∀ (sc : Nat × (Nat → Int32)) (d m : Nat) (is : List ma_I) (L : ma_L) (S : List Value) (h : List ma_C) (o : List Nat), ev sc d m ((.bipush 66, o) :: is) (L) (S) (h) = ev sc d m (is) (L) (.int 66 :: S) (h)) ∧
  (∀ (sc : Nat × (Nat → Int32)) (d m : Nat) (is : List ma_I) (L : ma_L) (S : List Value) (h : List ma_C) (o : List Nat), ev sc d m ((.bipush 67, o) :: is) (L) (S) (h) = ev sc d m (is) (L) (.int 67 :: S) (h)) ∧
  (∀ (sc : Nat × (Nat → Int32)) (d m : Nat) (is : List ma_I) (L : ma_L) (S : List Value) (h : List ma_C) (o : List Nat), ev sc d m ((.bipush 68, o) :: is) (L) (S) (h) = ev sc d m (is) (L) (.int 68 :: S) (h)) ∧
  (∀ (sc : Nat × (Nat → Int32)) (d m : Nat) (is : List ma_I) (L : ma_L) (S : List Value) (h : List ma_C) (o : List Nat), ev sc d m ((.bipush 69, o) :: is) (L) (S) (h) = ev sc d m (is) (L) (.int 69 :: S) (h)) ∧
  (∀ (sc : Nat × (Nat → Int32)) (d m : Nat) (is : List ma_I) (L : ma_L) (S : List Value) (h : List ma_C) (o : List Nat), ev sc d m ((.bipush 70, o) :: is) (L) (S) (h) = ev sc d m (is) (L) (.int 70 :: S) (h)) ∧
  (∀ (sc : Nat × (Nat → Int32)) (d m : Nat) (is : List ma_I) (L : ma_L) (S : List Value) (h : List ma_C) (o : List Nat), ev sc d m ((.bipush 71, o) :: is) (L) (S) (h) = ev sc d m (is) (L) (.int 71 :: S) (h)) ∧
  (∀ (sc : Nat × (Nat → Int32)) (d m : Nat) (is : List ma_I) (L : ma_L) (S : List Value) (h : List ma_C) (o : List Nat), ev sc d m ((.bipush 72, o) :: is) (L) (S) (h) = ev sc d m (is) (L) (.int 72 :: S) (h)) ∧
  (∀ (sc : Nat × (Nat → Int32)) (d m : Nat) (is : List ma_I) (L : ma_L) (S : List Value) (h : List ma_C) (o : List Nat), ev sc d m ((.bipush 73, o) :: is) (L) (S) (h) = ev sc d m (is) (L) (.int 73 :: S) (h)) ∧
  (∀ (sc : Nat × (Nat → Int32)) (d m : Nat) (is : List ma_I) (L : ma_L) (S : List Value) (h : List ma_C) (o : List Nat), ev sc d m ((.bipush 74, o) :: is) (L) (S) (h) = ev sc d m (is) (L) (.int 74 :: S) (h)) ∧
  (∀ (sc : Nat × (Nat → Int32)) (d m : Nat) (is : List ma_I) (L : ma_L) (S : List Value) (h : List ma_C) (o : List Nat), ev sc d m ((.bipush 75, o) :: is) (L) (S) (h) = ev sc d m (is) (L) (.int 75 :: S) (h)) ∧
  (∀ (sc : Nat × (Nat → Int32)) (d m : Nat) (is : List ma_I) (L : ma_L) (S : List Value) (h : List ma_C) (o : List Nat), ev sc d m ((.bipush 76, o) :: is) (L) (S) (h) = ev sc d m (is) (L) (.int 76 :: S) (h)) ∧
  (∀ (sc : Nat × (Nat → Int32)) (d m : Nat) (is : List ma_I) (L : ma_L) (S : List Value) (h : List ma_C) (o : List Nat), ev sc d m ((.bipush 77, o) :: is) (L) (S) (h) = ev sc d m (is) (L) (.int 77 :: S) (h)) ∧
  (∀ (sc : Nat × (Nat → Int32)) (d m : Nat) (is : List ma_I) (L : ma_L) (S : List Value) (h : List ma_C) (o : List Nat), ev sc d m ((.bipush 78, o) :: is) (L) (S) (h) = ev sc d m (is) (L) (.int 78 :: S) (h)) ∧
  (∀ (sc : Nat × (Nat → Int32)) (d m : Nat) (is : List ma_I) (L : ma_L) (S : List Value) (h : List ma_C) (o : List Nat), ev sc d m ((.bipush 79, o) :: is) (L) (S) (h) = ev sc d m (is) (L) (.int 79 :: S) (h)) ∧
  (∀ (sc : Nat × (Nat → Int32)) (d m : Nat) (is : List ma_I) (L : ma_L) (S : List Value) (h : List ma_C) (o : List Nat), ev sc d m ((.bipush 80, o) :: is) (L) (S) (h) = ev sc d m (is) (L) (.int 80 :: S) (h)) ∧
  (∀ (sc : Nat × (Nat → Int32)) (d m : Nat) (is : List ma_I) (L : ma_L) (S : List Value) (h : List ma_C) (o : List Nat), ev sc d m ((.bipush 81, o) :: is) (L) (S) (h) = ev sc d m (is) (L) (.int 81 :: S) (h)) ∧
  (∀ (sc : Nat × (Nat → Int32)) (d m : Nat) (is : List ma_I) (L : ma_L) (S : List Value) (h : List ma_C) (o : List Nat), ev sc d m ((.bipush 82, o) :: is) (L) (S) (h) = ev sc d m (is) (L) (.int 82 :: S) (h)) ∧
  (∀ (sc : Nat × (Nat → Int32)) (d m : Nat) (is : List ma_I) (L : ma_L) (S : List Value) (h : List ma_C) (o : List Nat), ev sc d m ((.bipush 83, o) :: is) (L) (S) (h) = ev sc d m (is) (L) (.int 83 :: S) (h)) ∧
  (∀ (sc : Nat × (Nat → Int32)) (d m : Nat) (is : List ma_I) (L : ma_L) (S : List Value) (h : List ma_C) (o : List Nat), ev sc d m ((.bipush 84, o) :: is) (L) (S) (h) = ev sc d m (is) (L) (.int 84 :: S) (h)) ∧
  (∀ (sc : Nat × (Nat → Int32)) (d m : Nat) (is : List ma_I) (L : ma_L) (S : List Value) (h : List ma_C) (o : List Nat), ev sc d m ((.bipush 85, o) :: is) (L) (S) (h) = ev sc d m (is) (L) (.int 85 :: S) (h)) ∧
  (∀ (sc : Nat × (Nat → Int32)) (d m : Nat) (is : List ma_I) (L : ma_L) (S : List Value) (h : List ma_C) (o : List Nat), ev sc d m ((.bipush 86, o) :: is) (L) (S) (h) = ev sc d m (is) (L) (.int 86 :: S) (h)) ∧
  (∀ (sc : Nat × (Nat → Int32)) (d m : Nat) (is : List ma_I) (L : ma_L) (S : List Value) (h : List ma_C) (o : List Nat), ev sc d m ((.bipush 87, o) :: is) (L) (S) (h) = ev sc d m (is) (L) (.int 87 :: S) (h)) ∧
  (∀ (sc : Nat × (Nat → Int32)) (d m : Nat) (is : List ma_I) (L : ma_L) (S : List Value) (h : List ma_C) (o : List Nat), ev sc d m ((.bipush 88, o) :: is) (L) (S) (h) = ev sc d m (is) (L) (.int 88 :: S) (h)) ∧
  (∀ (sc : Nat × (Nat → Int32)) (d m : Nat) (is : List ma_I) (L : ma_L) (S : List Value) (h : List ma_C) (o : List Nat), ev sc d m ((.bipush 89, o) :: is) (L) (S) (h) = ev sc d m (is) (L) (.int 89 :: S) (h)) ∧
  (∀ (sc : Nat × (Nat → Int32)) (d m : Nat) (is : List ma_I) (L : ma_L) (S : List Value) (h : List ma_C) (o : List Nat), ev sc d m ((.bipush 90, o) :: is) (L) (S) (h) = ev sc d m (is) (L) (.int 90 :: S) (h)) ∧
  (∀ (sc : Nat × (Nat → Int32)) (d m : Nat) (is : List ma_I) (L : ma_L) (S : List Value) (h : List ma_C) (o : List Nat), ev sc d m ((.bipush 91, o) :: is) (L) (S) (h) = ev sc d m (is) (L) (.int 91 :: S) (h)) ∧
  (∀ (sc : Nat × (Nat → Int32)) (d m : Nat) (is : List ma_I) (L : ma_L) (S : List Value) (h : List ma_C) (o : List Nat), ev sc d m ((.bipush 92, o) :: is) (L) (S) (h) = ev sc d m (is) (L) (.int 92 :: S) (h)) ∧
  (∀ (sc : Nat × (Nat → Int32)) (d m : Nat) (is : List ma_I) (L : ma_L) (S : List Value) (h : List ma_C) (o : List Nat), ev sc d m ((.bipush 93, o) :: is) (L) (S) (h) = ev sc d m (is) (L) (.int 93 :: S) (h)) ∧
  (∀ (sc : Nat × (Nat → Int32)) (d m : Nat) (is : List ma_I) (L : ma_L) (S : List Value) (h : List ma_C) (o : List Nat), ev sc d m ((.bipush 94, o) :: is) (L) (S) (h) = ev sc d m (is) (L) (.int 94 :: S) (h)) ∧
  (∀ (sc : Nat × (Nat → Int32)) (d m : Nat) (is : List ma_I) (L : ma_L) (S : List Value) (h : List ma_C) (o : List Nat), ev sc d m ((.bipush 95, o) :: is) (L) (S) (h) = ev sc d m (is) (L) (.int 95 :: S) (h)) ∧
  (∀ (sc : Nat × (Nat → Int32)) (d m : Nat) (is : List ma_I) (L : ma_L) (S : List Value) (h : List ma_C) (o : List Nat), ev sc d m ((.bipush 96, o) :: is) (L) (S) (h) = ev sc d m (is) (L) (.int 96 :: S) (h)) ∧
  (∀ (sc : Nat × (Nat → Int32)) (d m : Nat) (is : List ma_I) (L : ma_L) (S : List Value) (h : List ma_C) (o : List Nat), ev sc d m ((.bipush 97, o) :: is) (L) (S) (h) = ev sc d m (is) (L) (.int 97 :: S) (h)) ∧
  (∀ (sc : Nat × (Nat → Int32)) (d m : Nat) (is : List ma_I) (L : ma_L) (S : List Value) (h : List ma_C) (o : List Nat), ev sc d m ((.bipush 98, o) :: is) (L) (S) (h) = ev sc d m (is) (L) (.int 98 :: S) (h)) ∧
  (∀ (sc : Nat × (Nat → Int32)) (d m : Nat) (is : List ma_I) (L : ma_L) (S : List Value) (h : List ma_C) (o : List Nat), ev sc d m ((.bipush 99, o) :: is) (L) (S) (h) = ev sc d m (is) (L) (.int 99 :: S) (h)) ∧
  (∀ (sc : Nat × (Nat → Int32)) (d m : Nat) (is : List ma_I) (L : ma_L) (S : List Value) (h : List ma_C) (o : List Nat), ev sc d m ((.bipush 100, o) :: is) (L) (S) (h) = ev sc d m (is) (L) (.int 100 :: S) (h)) ∧
  (∀ (sc : Nat × (Nat → Int32)) (d m : Nat) (is : List ma_I) (L : ma_L) (S : List Value) (h : List ma_C) (o : List Nat), ev sc d m ((.bipush 101, o) :: is) (L) (S) (h) = ev sc d m (is) (L) (.int 101 :: S) (h)) ∧
  (∀ (sc : Nat × (Nat → Int32)) (d m : Nat) (is : List ma_I) (L : ma_L) (S : List Value) (h : List ma_C) (o : List Nat), ev sc d m ((.bipush 102, o) :: is) (L) (S) (h) = ev sc d m (is) (L) (.int 102 :: S) (h)) ∧
  (∀ (sc : Nat × (Nat → Int32)) (d m : Nat) (is : List ma_I) (L : ma_L) (S : List Value) (h : List ma_C) (o : List Nat), ev sc d m ((.bipush 103, o) :: is) (L) (S) (h) = ev sc d m (is) (L) (.int 103 :: S) (h)) ∧
  (∀ (sc : Nat × (Nat → Int32)) (d m : Nat) (is : List ma_I) (L : ma_L) (S : List Value) (h : List ma_C) (o : List Nat), ev sc d m ((.bipush 104, o) :: is) (L) (S) (h) = ev sc d m (is) (L) (.int 104 :: S) (h)) ∧
  (∀ (sc : Nat × (Nat → Int32)) (d m : Nat) (is : List ma_I) (L : ma_L) (S : List Value) (h : List ma_C) (o : List Nat), ev sc d m ((.bipush 105, o) :: is) (L) (S) (h) = ev sc d m (is) (L) (.int 105 :: S) (h)) ∧
  (∀ (sc : Nat × (Nat → Int32)) (d m : Nat) (is : List ma_I) (L : ma_L) (S : List Value) (h : List ma_C) (o : List Nat), ev sc d m ((.bipush 106, o) :: is) (L) (S) (h) = ev sc d m (is) (L) (.int 106 :: S) (h)) ∧
  (∀ (sc : Nat × (Nat → Int32)) (d m : Nat) (is : List ma_I) (L : ma_L) (S : List Value) (h : List ma_C) (o : List Nat), ev sc d m ((.bipush 107, o) :: is) (L) (S) (h) = ev sc d m (is) (L) (.int 107 :: S) (h)) ∧
  (∀ (sc : Nat × (Nat → Int32)) (d m : Nat) (is : List ma_I) (L : ma_L) (S : List Value) (h : List ma_C) (o : List Nat), ev sc d m ((.bipush 108, o) :: is) (L) (S) (h) = ev sc d m (is) (L) (.int 108 :: S) (h)) ∧
  (∀ (sc : Nat × (Nat → Int32)) (d m : Nat) (is : List ma_I) (L : ma_L) (S : List Value) (h : List ma_C) (o : List Nat), ev sc d m ((.bipush 109, o) :: is) (L) (S) (h) = ev sc d m (is) (L) (.int 109 :: S) (h)) ∧
  (∀ (sc : Nat × (Nat → Int32)) (d m : Nat) (is : List ma_I) (L : ma_L) (S : List Value) (h : List ma_C) (o : List Nat), ev sc d m ((.bipush 110, o) :: is) (L) (S) (h) = ev sc d m (is) (L) (.int 110 :: S) (h)) ∧
  (∀ (sc : Nat × (Nat → Int32)) (d m : Nat) (is : List ma_I) (L : ma_L) (S : List Value) (h : List ma_C) (o : List Nat), ev sc d m ((.bipush 111, o) :: is) (L) (S) (h) = ev sc d m (is) (L) (.int 111 :: S) (h)) ∧
  (∀ (sc : Nat × (Nat → Int32)) (d m : Nat) (is : List ma_I) (L : ma_L) (S : List Value) (h : List ma_C) (o : List Nat), ev sc d m ((.bipush 112, o) :: is) (L) (S) (h) = ev sc d m (is) (L) (.int 112 :: S) (h)) ∧
  (∀ (sc : Nat × (Nat → Int32)) (d m : Nat) (is : List ma_I) (L : ma_L) (S : List Value) (h : List ma_C) (o : List Nat), ev sc d m ((.bipush 113, o) :: is) (L) (S) (h) = ev sc d m (is) (L) (.int 113 :: S) (h)) ∧
  (∀ (sc : Nat × (Nat → Int32)) (d m : Nat) (is : List ma_I) (L : ma_L) (S : List Value) (h : List ma_C) (o : List Nat), ev sc d m ((.bipush 114, o) :: is) (L) (S) (h) = ev sc d m (is) (L) (.int 114 :: S) (h)) ∧
  (∀ (sc : Nat × (Nat → Int32)) (d m : Nat) (is : List ma_I) (L : ma_L) (S : List Value) (h : List ma_C) (o : List Nat), ev sc d m ((.bipush 115, o) :: is) (L) (S) (h) = ev sc d m (is) (L) (.int 115 :: S) (h)) ∧
  (∀ (sc : Nat × (Nat → Int32)) (d m : Nat) (is : List ma_I) (L : ma_L) (S : List Value) (h : List ma_C) (o : List Nat), ev sc d m ((.bipush 116, o) :: is) (L) (S) (h) = ev sc d m (is) (L) (.int 116 :: S) (h)) ∧
  (∀ (sc : Nat × (Nat → Int32)) (d m : Nat) (is : List ma_I) (L : ma_L) (S : List Value) (h : List ma_C) (o : List Nat), ev sc d m ((.bipush 117, o) :: is) (L) (S) (h) = ev sc d m (is) (L) (.int 117 :: S) (h)) ∧
  (∀ (sc : Nat × (Nat → Int32)) (d m : Nat) (is : List ma_I) (L : ma_L) (S : List Value) (h : List ma_C) (o : List Nat), ev sc d m ((.bipush 118, o) :: is) (L) (S) (h) = ev sc d m (is) (L) (.int 118 :: S) (h)) ∧
  (∀ (sc : Nat × (Nat → Int32)) (d m : Nat) (is : List ma_I) (L : ma_L) (S : List Value) (h : List ma_C) (o : List Nat), ev sc d m ((.bipush 119, o) :: is) (L) (S) (h) = ev sc d m (is) (L) (.int 119 :: S) (h)) ∧
  (∀ (sc : Nat × (Nat → Int32)) (d m : Nat) (is : List ma_I) (L : ma_L) (S : List Value) (h : List ma_C) (o : List Nat), ev sc d m ((.bipush 120, o) :: is) (L) (S) (h) = ev sc d m (is) (L) (.int 120 :: S) (h)) ∧
  (∀ (sc : Nat × (Nat → Int32)) (d m : Nat) (is : List ma_I) (L : ma_L) (S : List Value) (h : List ma_C) (o : List Nat), ev sc d m ((.bipush 121, o) :: is) (L) (S) (h) = ev sc d m (is) (L) (.int 121 :: S) (h)) ∧
  (∀ (sc : Nat × (Nat → Int32)) (d m : Nat) (is : List ma_I) (L : ma_L) (S : List Value) (h : List ma_C) (o : List Nat), ev sc d m ((.bipush 122, o) :: is) (L) (S) (h) = ev sc d m (is) (L) (.int 122 :: S) (h)) ∧
  (∀ (sc : Nat × (Nat → Int32)) (d m : Nat) (is : List ma_I) (L : ma_L) (S : List Value) (h : List ma_C) (o : List Nat), ev sc d m ((.sipush 128, o) :: is) (L) (S) (h) = ev sc d m (is) (L) (.int 128 :: S) (h)) ∧
  (∀ (sc : Nat × (Nat → Int32)) (d m : Nat) (is : List ma_I) (L : ma_L) (S : List Value) (h : List ma_C) (o : List Nat), ev sc d m ((.sipush 149, o) :: is) (L) (S) (h) = ev sc d m (is) (L) (.int 149 :: S) (h)) ∧
  (∀ (sc : Nat × (Nat → Int32)) (d m : Nat) (is : List ma_I) (L : ma_L) (S : List Value) (h : List ma_C) (o : List Nat), ev sc d m ((.sipush 150, o) :: is) (L) (S) (h) = ev sc d m (is) (L) (.int 150 :: S) (h)) ∧
  (∀ (sc : Nat × (Nat → Int32)) (d m : Nat) (is : List ma_I) (L : ma_L) (S : List Value) (h : List ma_C) (o : List Nat), ev sc d m ((.sipush 200, o) :: is) (L) (S) (h) = ev sc d m (is) (L) (.int 200 :: S) (h)) ∧
  (∀ (sc : Nat × (Nat → Int32)) (d m : Nat) (is : List ma_I) (L : ma_L) (S : List Value) (h : List ma_C) (o : List Nat), ev sc d m ((.sipush 255, o) :: is) (L) (S) (h) = ev sc d m (is) (L) (.int 255 :: S) (h)) ∧
  (∀ (sc : Nat × (Nat → Int32)) (d m : Nat) (is : List ma_I) (L : ma_L) (S : List Value) (h : List ma_C) (o : List Nat), ev sc d m ((.sipush 256, o) :: is) (L) (S) (h) = ev sc d m (is) (L) (.int 256 :: S) (h)) ∧
  (∀ (sc : Nat × (Nat → Int32)) (d m : Nat) (is : List ma_I) (L : ma_L) (S : List Value) (h : List ma_C) (o : List Nat), ev sc d m ((.sipush 259, o) :: is) (L) (S) (h) = ev sc d m (is) (L) (.int 259 :: S) (h)) ∧
  (∀ (sc : Nat × (Nat → Int32)) (d m : Nat) (is : List ma_I) (L : ma_L) (S : List Value) (h : List ma_C) (o : List Nat), ev sc d m ((.sipush 260, o) :: is) (L) (S) (h) = ev sc d m (is) (L) (.int 260 :: S) (h)) ∧
  (∀ (sc : Nat × (Nat → Int32)) (d m : Nat) (is : List ma_I) (L : ma_L) (S : List Value) (h : List ma_C) (o : List Nat), ev sc d m ((.sipush 266, o) :: is) (L) (S) (h) = ev sc d m (is) (L) (.int 266 :: S) (h)) ∧
  (∀ (sc : Nat × (Nat → Int32)) (d m : Nat) (is : List ma_I) (L : ma_L) (S : List Value) (h : List ma_C) (o : List Nat), ev sc d m ((.sipush 267, o) :: is) (L) (S) (h) = ev sc d m (is) (L) (.int 267 :: S) (h)) ∧
  (∀ (sc : Nat × (Nat → Int32)) (d m : Nat) (is : List ma_I) (L : ma_L) (S : List Value) (h : List ma_C) (o : List Nat), ev sc d m ((.sipush 268, o) :: is) (L) (S) (h) = ev sc d m (is) (L) (.int 268 :: S) (h)) ∧
  (∀ (sc : Nat × (Nat → Int32)) (d m : Nat) (is : List ma_I) (L : ma_L) (S : List Value) (h : List ma_C) (o : List Nat), ev sc d m ((.sipush 269, o) :: is) (L) (S) (h) = ev sc d m (is) (L) (.int 269 :: S) (h)) ∧
  (∀ (sc : Nat × (Nat → Int32)) (d m : Nat) (is : List ma_I) (L : ma_L) (S : List Value) (h : List ma_C) (o : List Nat), ev sc d m ((.sipush 270, o) :: is) (L) (S) (h) = ev sc d m (is) (L) (.int 270 :: S) (h)) ∧
  (∀ (sc : Nat × (Nat → Int32)) (d m : Nat) (is : List ma_I) (L : ma_L) (S : List Value) (h : List ma_C) (o : List Nat), ev sc d m ((.sipush 271, o) :: is) (L) (S) (h) = ev sc d m (is) (L) (.int 271 :: S) (h)) ∧
  (∀ (sc : Nat × (Nat → Int32)) (d m : Nat) (is : List ma_I) (L : ma_L) (S : List Value) (h : List ma_C) (o : List Nat), ev sc d m ((.sipush 272, o) :: is) (L) (S) (h) = ev sc d m (is) (L) (.int 272 :: S) (h)) ∧
  (∀ (sc : Nat × (Nat → Int32)) (d m : Nat) (is : List ma_I) (L : ma_L) (S : List Value) (h : List ma_C) (o : List Nat), ev sc d m ((.sipush 276, o) :: is) (L) (S) (h) = ev sc d m (is) (L) (.int 276 :: S) (h)) ∧
  (∀ (sc : Nat × (Nat → Int32)) (d m : Nat) (is : List ma_I) (L : ma_L) (S : List Value) (h : List ma_C) (o : List Nat), ev sc d m ((.sipush 277, o) :: is) (L) (S) (h) = ev sc d m (is) (L) (.int 277 :: S) (h)) ∧
  (∀ (sc : Nat × (Nat → Int32)) (d m : Nat) (is : List ma_I) (L : ma_L) (S : List Value) (h : List ma_C) (o : List Nat), ev sc d m ((.sipush 278, o) :: is) (L) (S) (h) = ev sc d m (is) (L) (.int 278 :: S) (h)) ∧
  (∀ (sc : Nat × (Nat → Int32)) (d m : Nat) (is : List ma_I) (L : ma_L) (S : List Value) (h : List ma_C) (o : List Nat), ev sc d m ((.sipush 279, o) :: is) (L) (S) (h) = ev sc d m (is) (L) (.int 279 :: S) (h)) ∧
  (∀ (sc : Nat × (Nat → Int32)) (d m : Nat) (is : List ma_I) (L : ma_L) (S : List Value) (h : List ma_C) (o : List Nat), ev sc d m ((.sipush 280, o) :: is) (L) (S) (h) = ev sc d m (is) (L) (.int 280 :: S) (h)) ∧
  (∀ (sc : Nat × (Nat → Int32)) (d m : Nat) (is : List ma_I) (L : ma_L) (S : List Value) (h : List ma_C) (o : List Nat), ev sc d m ((.sipush 294, o) :: is) (L) (S) (h) = ev sc d m (is) (L) (.int 294 :: S) (h)) ∧
  (∀ (sc : Nat × (Nat → Int32)) (d m : Nat) (is : List ma_I) (L : ma_L) (S : List Value) (h : List ma_C) (o : List Nat), ev sc d m ((.sipush 380, o) :: is) (L) (S) (h) = ev sc d m (is) (L) (.int 380 :: S) (h)) ∧
  (∀ (sc : Nat × (Nat → Int32)) (d m : Nat) (is : List ma_I) (L : ma_L) (S : List Value) (h : List ma_C) (o : List Nat), ev sc d m ((.sipush 400, o) :: is) (L) (S) (h) = ev sc d m (is) (L) (.int 400 :: S) (h)) ∧
  (∀ (sc : Nat × (Nat → Int32)) (d m : Nat) (is : List ma_I) (L : ma_L) (S : List Value) (h : List ma_C) (o : List Nat), ev sc d m ((.sipush 401, o) :: is) (L) (S) (h) = ev sc d m (is) (L) (.int 401 :: S) (h)) ∧
  (∀ (sc : Nat × (Nat → Int32)) (d m : Nat) (is : List ma_I) (L : ma_L) (S : List Value) (h : List ma_C) (o : List Nat), ev sc d m ((.sipush 420, o) :: is) (L) (S) (h) = ev sc d m (is) (L) (.int 420 :: S) (h)) ∧
  (∀ (sc : Nat × (Nat → Int32)) (d m : Nat) (is : List ma_I) (L : ma_L) (S : List Value) (h : List ma_C) (o : List Nat), ev sc d m ((.sipush 574, o) :: is) (L) (S) (h) = ev sc d m (is) (L) (.int 574 :: S) (h)) ∧
  (∀ (sc : Nat × (Nat → Int32)) (d m : Nat) (is : List ma_I) (L : ma_L) (S : List Value) (h : List ma_C) (o : List Nat), ev sc d m ((.sipush 600, o) :: is) (L) (S) (h) = ev sc d m (is) (L) (.int 600 :: S) (h)) ∧
  (∀ (sc : Nat × (Nat → Int32)) (d m : Nat) (is : List ma_I) (L : ma_L) (S : List Value) (h : List ma_C) (o : List Nat), ev sc d m ((.sipush 800, o) :: is) (L) (S) (h) = ev sc d m (is) (L) (.int 800 :: S) (h)) ∧
  (∀ (sc : Nat × (Nat → Int32)) (d m : Nat) (is : List ma_I) (L : ma_L) (S : List Value) (h : List ma_C) (o : List Nat), ev sc d m ((.sipush 999, o) :: is) (L) (S) (h) = ev sc d m (is) (L) (.int 999 :: S) (h)) ∧
  (∀ (sc : Nat × (Nat → Int32)) (d m : Nat) (is : List ma_I) (L : ma_L) (S : List Value) (h : List ma_C) (o : List Nat), ev sc d m ((.sipush 1000, o) :: is) (L) (S) (h) = ev sc d m (is) (L) (.int 1000 :: S) (h)) ∧
  (∀ (sc : Nat × (Nat → Int32)) (d m : Nat) (is : List ma_I) (L : ma_L) (S : List Value) (h : List ma_C) (o : List Nat), ev sc d m ((.sipush 1200, o) :: is) (L) (S) (h) = ev sc d m (is) (L) (.int 1200 :: S) (h)) ∧
  (∀ (sc : Nat × (Nat → Int32)) (d m : Nat) (is : List ma_I) (L : ma_L) (S : List Value) (h : List ma_C) (o : List Nat), ev sc d m ((.sipush 1700, o) :: is) (L) (S) (h) = ev sc d m (is) (L) (.int 1700 :: S) (h)) ∧
  (∀ (sc : Nat × (Nat → Int32)) (d m : Nat) (is : List ma_I) (L : ma_L) (S : List Value) (h : List ma_C) (o : List Nat), ev sc d m ((.sipush 4095, o) :: is) (L) (S) (h) = ev sc d m (is) (L) (.int 4095 :: S) (h)) ∧
  (∀ (sc : Nat × (Nat → Int32)) (d m : Nat) (is : List ma_I) (L : ma_L) (S : List Value) (h : List ma_C) (o : List Nat), ev sc d m ((.sipush 4096, o) :: is) (L) (S) (h) = ev sc d m (is) (L) (.int 4096 :: S) (h)) ∧
  (∀ (sc : Nat × (Nat → Int32)) (d m : Nat) (is : List ma_I) (L : ma_L) (S : List Value) (h : List ma_C) (o : List Nat), ev sc d m ((.sipush 9999, o) :: is) (L) (S) (h) = ev sc d m (is) (L) (.int 9999 :: S) (h)) ∧
  (∀ (sc : Nat × (Nat → Int32)) (d m : Nat) (is : List ma_I) (L : ma_L) (S : List Value) (h : List ma_C) (o : List Nat), ev sc d m ((.sipush 10000, o) :: is) (L) (S) (h) = ev sc d m (is) (L) (.int 10000 :: S) (h)) ∧
  (∀ (sc : Nat × (Nat → Int32)) (d m : Nat) (is : List ma_I) (L : ma_L) (S : List Value) (h : List ma_C) (o : List Nat), ev sc d m ((.sipush 16384, o) :: is) (L) (S) (h) = ev sc d m (is) (L) (.int 16384 :: S) (h)) ∧
  (∀ (sc : Nat × (Nat → Int32)) (d m : Nat) (is : List ma_I) (L : ma_L) (S : List Value) (h : List ma_C) (x : Nat), ev sc d m ((.ldc x, [0, 1664525]) :: is) (L) (S) (h) = ev sc d m (is) (L) (.int 1664525 :: S) (h)) ∧
  (∀ (sc : Nat × (Nat → Int32)) (d m : Nat) (is : List ma_I) (L : ma_L) (S : List Value) (h : List ma_C) (x : Nat), ev sc d m ((.ldc x, [0, 1013904223]) :: is) (L) (S) (h) = ev sc d m (is) (L) (.int 1013904223 :: S) (h)) ∧
  (∀ (sc : Nat × (Nat → Int32)) (d m : Nat) (is : List ma_I) (L : ma_L) (S : List Value) (h : List ma_C) (x : Nat), ev sc d m ((.ldc x, [0, 4294867296]) :: is) (L) (S) (h) = ev sc d m (is) (L) (.int (-100000) :: S) (h)) ∧
  (∀ (sc : Nat × (Nat → Int32)) (d m : Nat) (is : List ma_I) (L : ma_L) (S : List Value) (h : List ma_C) (x : Nat), ev sc d m ((.ldc_w x, [0, 1000000]) :: is) (L) (S) (h) = ev sc d m (is) (L) (.int 1000000 :: S) (h)) ∧
  (∀ (sc : Nat × (Nat → Int32)) (d m : Nat) (is : List ma_I) (L : ma_L) (S : List Value) (h : List ma_C) (x : Nat), ev sc d m ((.ldc_w x, [0, 252645135]) :: is) (L) (S) (h) = ev sc d m (is) (L) (.int 252645135 :: S) (h)) ∧
  (∀ (sc : Nat × (Nat → Int32)) (d m : Nat) (is : List ma_I) (L : ma_L) (S : List Value) (h : List ma_C) (x : Nat), ev sc d m ((.ldc_w x, [0, 858993459]) :: is) (L) (S) (h) = ev sc d m (is) (L) (.int 858993459 :: S) (h)) ∧
  (∀ (sc : Nat × (Nat → Int32)) (d m : Nat) (is : List ma_I) (L : ma_L) (S : List Value) (h : List ma_C) (x : Nat), ev sc d m ((.ldc_w x, [0, 1431655765]) :: is) (L) (S) (h) = ev sc d m (is) (L) (.int 1431655765 :: S) (h)) ∧
  (∀ (sc : Nat × (Nat → Int32)) (d m : Nat) (is : List ma_I) (L : ma_L) (S : List Value) (h : List ma_C) (x : Nat), ev sc d m ((.ldc_w x, [0, 4294867296]) :: is) (L) (S) (h) = ev sc d m (is) (L) (.int (-100000) :: S) (h)) ∧
  (∀ (sc : Nat × (Nat → Int32)) (d m : Nat) (is : List ma_I) (L : ma_L) (S : List Value) (h : List ma_C) (x : Nat), ev sc d m ((.ldc2_w x, [15]) :: is) (L) (S) (h) = ev sc d m (is) (L) (.long 15 :: S) (h)) ∧
  (∀ (sc : Nat × (Nat → Int32)) (d m : Nat) (is : List ma_I) (L : ma_L) (S : List Value) (h : List ma_C) (x : Nat), ev sc d m ((.ldc2_w x, [4611686018427387904]) :: is) (L) (S) (h) = ev sc d m (is) (L) (.long 4611686018427387904 :: S) (h)) ∧
  (∀ (sc : Nat × (Nat → Int32)) (d m : Nat) (is : List ma_I) (L : ma_L) (S : List Value) (h : List ma_C) (o : List Nat), ev sc d m ((.aconst_null, o) :: is) (L) (S) (h) = ev sc d m (is) (L) (.null :: S) (h)) ∧
  (∀ (sc : Nat × (Nat → Int32)) (d m : Nat) (is : List ma_I) (L : ma_L) (S : List Value) (h : List ma_C) (o : List Nat), ev sc d m ((.lconst 0, o) :: is) (L) (S) (h) = ev sc d m (is) (L) (.long 0 :: S) (h)) := ⟨fun _ _ _ _ _ _ _ _ => rv_s rfl rfl,
  fun _ _ _ _ _ _ _ _ => rv_s rfl rfl,
  fun _ _ _ _ _ _ _ _ => rv_s rfl rfl,
  fun _ _ _ _ _ _ _ _ => rv_s rfl rfl,
  fun _ _ _ _ _ _ _ _ => rv_s rfl rfl,
  fun _ _ _ _ _ _ _ _ => rv_s rfl rfl,
  fun _ _ _ _ _ _ _ _ => rv_s rfl rfl,
  fun _ _ _ _ _ _ _ _ => rv_s rfl rfl,
  fun _ _ _ _ _ _ _ _ => rv_s rfl rfl,
  fun _ _ _ _ _ _ _ _ => rv_s rfl rfl,
  fun _ _ _ _ _ _ _ _ => rv_s rfl rfl,
  fun _ _ _ _ _ _ _ _ => rv_s rfl rfl,
  fun _ _ _ _ _ _ _ _ => rv_s rfl rfl,
  fun _ _ _ _ _ _ _ _ => rv_s rfl rfl,
  fun _ _ _ _ _ _ _ _ => rv_s rfl rfl,
  fun _ _ _ _ _ _ _ _ => rv_s rfl rfl,
  fun _ _ _ _ _ _ _ _ => rv_s rfl rfl,
  fun _ _ _ _ _ _ _ _ => rv_s rfl rfl,
  fun _ _ _ _ _ _ _ _ => rv_s rfl rfl,
  fun _ _ _ _ _ _ _ _ => rv_s rfl rfl,
  fun _ _ _ _ _ _ _ _ => rv_s rfl rfl,
  fun _ _ _ _ _ _ _ _ => rv_s rfl rfl,
  fun _ _ _ _ _ _ _ _ => rv_s rfl rfl,
  fun _ _ _ _ _ _ _ _ => rv_s rfl rfl,
  fun _ _ _ _ _ _ _ _ => rv_s rfl rfl,
  fun _ _ _ _ _ _ _ _ => rv_s rfl rfl,
  fun _ _ _ _ _ _ _ _ => rv_s rfl rfl,
  fun _ _ _ _ _ _ _ _ => rv_s rfl rfl,
  fun _ _ _ _ _ _ _ _ => rv_s rfl rfl,
  fun _ _ _ _ _ _ _ _ => rv_s rfl rfl,
  fun _ _ _ _ _ _ _ _ => rv_s rfl rfl,
  fun _ _ _ _ _ _ _ _ => rv_s rfl rfl,
  fun _ _ _ _ _ _ _ _ => rv_s rfl rfl,
  fun _ _ _ _ _ _ _ _ => rv_s rfl rfl,
  fun _ _ _ _ _ _ _ _ => rv_s rfl rfl,
  fun _ _ _ _ _ _ _ _ => rv_s rfl rfl,
  fun _ _ _ _ _ _ _ _ => rv_s rfl rfl,
  fun _ _ _ _ _ _ _ _ => rv_s rfl rfl,
  fun _ _ _ _ _ _ _ _ => rv_s rfl rfl,
  fun _ _ _ _ _ _ _ _ => rv_s rfl rfl,
  fun _ _ _ _ _ _ _ _ => rv_s rfl rfl,
  fun _ _ _ _ _ _ _ _ => rv_s rfl rfl,
  fun _ _ _ _ _ _ _ _ => rv_s rfl rfl,
  fun _ _ _ _ _ _ _ _ => rv_s rfl rfl,
  fun _ _ _ _ _ _ _ _ => rv_s rfl rfl,
  fun _ _ _ _ _ _ _ _ => rv_s rfl rfl,
  fun _ _ _ _ _ _ _ _ => rv_s rfl rfl,
  fun _ _ _ _ _ _ _ _ => rv_s rfl rfl,
  fun _ _ _ _ _ _ _ _ => rv_s rfl rfl,
  fun _ _ _ _ _ _ _ _ => rv_s rfl rfl,
  fun _ _ _ _ _ _ _ _ => rv_s rfl rfl,
  fun _ _ _ _ _ _ _ _ => rv_s rfl rfl,
  fun _ _ _ _ _ _ _ _ => rv_s rfl rfl,
  fun _ _ _ _ _ _ _ _ => rv_s rfl rfl,
  fun _ _ _ _ _ _ _ _ => rv_s rfl rfl,
  fun _ _ _ _ _ _ _ _ => rv_s rfl rfl,
  fun _ _ _ _ _ _ _ _ => rv_s rfl rfl,
  fun _ _ _ _ _ _ _ _ => rv_s rfl rfl,
  fun _ _ _ _ _ _ _ _ => rv_s rfl rfl,
  fun _ _ _ _ _ _ _ _ => rv_s rfl rfl,
  fun _ _ _ _ _ _ _ _ => rv_s rfl rfl,
  fun _ _ _ _ _ _ _ _ => rv_s rfl rfl,
  fun _ _ _ _ _ _ _ _ => rv_s rfl rfl,
  fun _ _ _ _ _ _ _ _ => rv_s rfl rfl,
  fun _ _ _ _ _ _ _ _ => rv_s rfl rfl,
  fun _ _ _ _ _ _ _ _ => rv_s rfl rfl,
  fun _ _ _ _ _ _ _ _ => rv_s rfl rfl,
  fun _ _ _ _ _ _ _ _ => rv_s rfl rfl,
  fun _ _ _ _ _ _ _ _ => rv_s rfl rfl,
  fun _ _ _ _ _ _ _ _ => rv_s rfl rfl,
  fun _ _ _ _ _ _ _ _ => rv_s rfl rfl,
  fun _ _ _ _ _ _ _ _ => rv_s rfl rfl,
  fun _ _ _ _ _ _ _ _ => rv_s rfl rfl,
  fun _ _ _ _ _ _ _ _ => rv_s rfl rfl,
  fun _ _ _ _ _ _ _ _ => rv_s rfl rfl,
  fun _ _ _ _ _ _ _ _ => rv_s rfl rfl,
  fun _ _ _ _ _ _ _ _ => rv_s rfl rfl,
  fun _ _ _ _ _ _ _ _ => rv_s rfl rfl,
  fun _ _ _ _ _ _ _ _ => rv_s rfl rfl,
  fun _ _ _ _ _ _ _ _ => rv_s rfl rfl,
  fun _ _ _ _ _ _ _ _ => rv_s rfl rfl,
  fun _ _ _ _ _ _ _ _ => rv_s rfl rfl,
  fun _ _ _ _ _ _ _ _ => rv_s rfl rfl,
  fun _ _ _ _ _ _ _ _ => rv_s rfl rfl,
  fun _ _ _ _ _ _ _ _ => rv_s rfl rfl,
  fun _ _ _ _ _ _ _ _ => rv_s rfl rfl,
  fun _ _ _ _ _ _ _ _ => rv_s rfl rfl,
  fun _ _ _ _ _ _ _ _ => rv_s rfl rfl,
  fun _ _ _ _ _ _ _ _ => rv_s rfl rfl,
  fun _ _ _ _ _ _ _ _ => rv_s rfl rfl,
  fun _ _ _ _ _ _ _ _ => rv_s rfl rfl,
  fun _ _ _ _ _ _ _ _ => rv_s rfl rfl,
  fun _ _ _ _ _ _ _ _ => rv_s rfl rfl,
  fun _ _ _ _ _ _ _ _ => rv_s rfl rfl,
  fun _ _ _ _ _ _ _ _ => rv_s rfl rfl,
  fun _ _ _ _ _ _ _ _ => rv_s rfl rfl,
  fun _ _ _ _ _ _ _ _ => rv_s rfl rfl,
  fun _ _ _ _ _ _ _ _ => rv_s rfl rfl,
  fun _ _ _ _ _ _ _ _ => rv_s rfl rfl,
  fun _ _ _ _ _ _ _ _ => rv_s rfl rfl,
  fun _ _ _ _ _ _ _ _ => rv_s rfl rfl,
  fun _ _ _ _ _ _ _ _ => rv_s rfl rfl,
  fun _ _ _ _ _ _ _ _ => rv_s rfl rfl,
  fun _ _ _ _ _ _ _ _ => rv_s rfl rfl,
  fun _ _ _ _ _ _ _ _ => rv_s rfl rfl,
  fun _ _ _ _ _ _ _ _ => rv_s rfl rfl,
  fun _ _ _ _ _ _ _ _ => rv_s rfl rfl,
  fun _ _ _ _ _ _ _ _ => rv_s rfl rfl,
  fun _ _ _ _ _ _ _ _ => rv_s rfl rfl,
  fun _ _ _ _ _ _ _ _ => rv_s rfl rfl,
  fun _ _ _ _ _ _ _ _ => rv_s rfl rfl,
  fun _ _ _ _ _ _ _ _ => rv_s rfl rfl,
  fun _ _ _ _ _ _ _ _ => rv_s rfl rfl,
  fun _ _ _ _ _ _ _ _ => rv_s rfl rfl,
  fun _ _ _ _ _ _ _ _ => rv_s rfl rfl,
  fun _ _ _ _ _ _ _ _ => rv_s rfl rfl,
  fun _ _ _ _ _ _ _ _ => rv_s rfl rfl,
  fun _ _ _ _ _ _ _ _ => rv_s rfl rfl,
  fun _ _ _ _ _ _ _ _ => rv_s rfl rfl,
  fun _ _ _ _ _ _ _ _ => rv_s rfl rfl,
  fun _ _ _ _ _ _ _ _ => rv_s rfl rfl,
  fun _ _ _ _ _ _ _ _ => rv_s rfl rfl,
  fun _ _ _ _ _ _ _ _ => rv_s rfl rfl,
  fun _ _ _ _ _ _ _ _ => rv_s rfl rfl,
  fun _ _ _ _ _ _ _ _ => rv_s rfl rfl,
  fun _ _ _ _ _ _ _ _ => rv_s rfl rfl,
  fun _ _ _ _ _ _ _ _ => rv_s rfl rfl,
  fun _ _ _ _ _ _ _ _ => rv_s rfl rfl,
  fun _ _ _ _ _ _ _ _ => rv_s rfl rfl,
  fun _ _ _ _ _ _ _ _ => rv_s rfl rfl,
  fun _ _ _ _ _ _ _ _ => rv_s rfl rfl,
  fun _ _ _ _ _ _ _ _ => rv_s rfl rfl,
  fun _ _ _ _ _ _ _ _ => rv_s rfl rfl,
  fun _ _ _ _ _ _ _ _ => rv_s rfl rfl,
  fun _ _ _ _ _ _ _ _ => rv_s rfl rfl,
  fun _ _ _ _ _ _ _ _ => rv_s rfl rfl,
  fun _ _ _ _ _ _ _ _ => rv_s rfl rfl,
  fun _ _ _ _ _ _ _ _ => rv_s rfl rfl,
  fun _ _ _ _ _ _ _ _ => rv_s rfl rfl,
  fun _ _ _ _ _ _ _ _ => rv_s rfl rfl,
  fun _ _ _ _ _ _ _ _ => rv_s rfl rfl,
  fun _ _ _ _ _ _ _ _ => rv_s rfl rfl,
  fun _ _ _ _ _ _ _ _ => rv_s rfl rfl,
  fun _ _ _ _ _ _ _ _ => rv_s rfl rfl,
  fun _ _ _ _ _ _ _ _ => rv_s rfl rfl,
  fun _ _ _ _ _ _ _ _ => rv_s rfl rfl,
  fun _ _ _ _ _ _ _ _ => rv_s rfl rfl,
  fun _ _ _ _ _ _ _ _ => rv_s rfl rfl,
  fun _ _ _ _ _ _ _ _ => rv_s rfl rfl,
  fun _ _ _ _ _ _ _ _ => rv_s rfl rfl,
  fun _ _ _ _ _ _ _ _ => rv_s rfl rfl,
  fun _ _ _ _ _ _ _ _ => rv_s rfl rfl,
  fun _ _ _ _ _ _ _ _ => rv_s rfl rfl,
  fun _ _ _ _ _ _ _ _ => rv_s rfl rfl,
  fun _ _ _ _ _ _ _ _ => rv_s rfl rfl,
  fun _ _ _ _ _ _ _ _ => rv_s rfl rfl,
  fun _ _ _ _ _ _ _ _ => rv_s rfl rfl,
  fun _ _ _ _ _ _ _ _ => rv_s rfl rfl,
  fun _ _ _ _ _ _ _ _ => rv_s rfl rfl,
  fun _ _ _ _ _ _ _ _ => rv_s rfl rfl,
  fun _ _ _ _ _ _ _ _ => rv_s rfl rfl,
  fun _ _ _ _ _ _ _ _ => rv_s rfl rfl,
  fun _ _ _ _ _ _ _ _ => rv_s rfl rfl,
  fun _ _ _ _ _ _ _ _ => rv_s rfl rfl,
  fun _ _ _ _ _ _ _ _ => rv_s rfl rfl,
  fun _ _ _ _ _ _ _ _ => rv_s rfl rfl,
  fun _ _ _ _ _ _ _ _ => rv_s rfl rfl,
  fun _ _ _ _ _ _ _ _ => rv_s rfl rfl,
  fun _ _ _ _ _ _ _ _ => rv_s rfl rfl,
  fun _ _ _ _ _ _ _ _ => rv_s rfl rfl,
  fun _ _ _ _ _ _ _ _ => rv_s rfl rfl,
  fun _ _ _ _ _ _ _ _ => rv_s rfl rfl,
  fun _ _ _ _ _ _ _ _ => rv_s rfl rfl,
  fun _ _ _ _ _ _ _ _ => rv_s rfl rfl,
  fun _ _ _ _ _ _ _ _ => rv_s rfl rfl,
  fun _ _ _ _ _ _ _ _ => rv_s rfl rfl⟩
theorem evL : (∀ (sc : Nat × (Nat → Int32)) (d m : Nat) (is : List ma_I) (L : ma_L) (S : List Value) (h : List ma_C) (o : List Nat) (a0 a1 a2 a3 : Option Value) (x : Int32), ev sc d m ((.iload 4, o) :: is) (a0 :: a1 :: a2 :: a3 :: some (.int x) :: L) (S) (h) = ev sc d m (is) (a0 :: a1 :: a2 :: a3 :: some (.int x) :: L) (.int x :: S) (h)) ∧
  (∀ (sc : Nat × (Nat → Int32)) (d m : Nat) (is : List ma_I) (L : ma_L) (S : List Value) (h : List ma_C) (o : List Nat) (a0 a1 a2 a3 a4 : Option Value) (x : Int32), ev sc d m ((.iload 5, o) :: is) (a0 :: a1 :: a2 :: a3 :: a4 :: some (.int x) :: L) (S) (h) = ev sc d m (is) (a0 :: a1 :: a2 :: a3 :: a4 :: some (.int x) :: L) (.int x :: S) (h)) ∧
  (∀ (sc : Nat × (Nat → Int32)) (d m : Nat) (is : List ma_I) (L : ma_L) (S : List Value) (h : List ma_C) (o : List Nat) (a0 a1 a2 a3 a4 a5 : Option Value) (x : Int32), ev sc d m ((.iload 6, o) :: is) (a0 :: a1 :: a2 :: a3 :: a4 :: a5 :: some (.int x) :: L) (S) (h) = ev sc d m (is) (a0 :: a1 :: a2 :: a3 :: a4 :: a5 :: some (.int x) :: L) (.int x :: S) (h)) ∧
  (∀ (sc : Nat × (Nat → Int32)) (d m : Nat) (is : List ma_I) (L : ma_L) (S : List Value) (h : List ma_C) (o : List Nat) (a0 a1 a2 a3 a4 a5 a6 : Option Value) (x : Int32), ev sc d m ((.iload 7, o) :: is) (a0 :: a1 :: a2 :: a3 :: a4 :: a5 :: a6 :: some (.int x) :: L) (S) (h) = ev sc d m (is) (a0 :: a1 :: a2 :: a3 :: a4 :: a5 :: a6 :: some (.int x) :: L) (.int x :: S) (h)) ∧
  (∀ (sc : Nat × (Nat → Int32)) (d m : Nat) (is : List ma_I) (L : ma_L) (S : List Value) (h : List ma_C) (o : List Nat) (a0 a1 a2 a3 a4 a5 a6 a7 : Option Value) (x : Int32), ev sc d m ((.iload 8, o) :: is) (a0 :: a1 :: a2 :: a3 :: a4 :: a5 :: a6 :: a7 :: some (.int x) :: L) (S) (h) = ev sc d m (is) (a0 :: a1 :: a2 :: a3 :: a4 :: a5 :: a6 :: a7 :: some (.int x) :: L) (.int x :: S) (h)) ∧
  (∀ (sc : Nat × (Nat → Int32)) (d m : Nat) (is : List ma_I) (L : ma_L) (S : List Value) (h : List ma_C) (o : List Nat) (a0 a1 a2 a3 a4 a5 a6 a7 a8 : Option Value) (x : Int32), ev sc d m ((.iload 9, o) :: is) (a0 :: a1 :: a2 :: a3 :: a4 :: a5 :: a6 :: a7 :: a8 :: some (.int x) :: L) (S) (h) = ev sc d m (is) (a0 :: a1 :: a2 :: a3 :: a4 :: a5 :: a6 :: a7 :: a8 :: some (.int x) :: L) (.int x :: S) (h)) ∧
  (∀ (sc : Nat × (Nat → Int32)) (d m : Nat) (is : List ma_I) (L : ma_L) (S : List Value) (h : List ma_C) (o : List Nat) (x : Int32), ev sc d m ((.iload_n 0, o) :: is) (some (.int x) :: L) (S) (h) = ev sc d m (is) (some (.int x) :: L) (.int x :: S) (h)) ∧
  (∀ (sc : Nat × (Nat → Int32)) (d m : Nat) (is : List ma_I) (L : ma_L) (S : List Value) (h : List ma_C) (o : List Nat) (a0 : Option Value) (x : Int32), ev sc d m ((.iload_n 1, o) :: is) (a0 :: some (.int x) :: L) (S) (h) = ev sc d m (is) (a0 :: some (.int x) :: L) (.int x :: S) (h)) ∧
  (∀ (sc : Nat × (Nat → Int32)) (d m : Nat) (is : List ma_I) (L : ma_L) (S : List Value) (h : List ma_C) (o : List Nat) (a0 a1 : Option Value) (x : Int32), ev sc d m ((.iload_n 2, o) :: is) (a0 :: a1 :: some (.int x) :: L) (S) (h) = ev sc d m (is) (a0 :: a1 :: some (.int x) :: L) (.int x :: S) (h)) ∧
  (∀ (sc : Nat × (Nat → Int32)) (d m : Nat) (is : List ma_I) (L : ma_L) (S : List Value) (h : List ma_C) (o : List Nat) (a0 a1 a2 : Option Value) (x : Int32), ev sc d m ((.iload_n 3, o) :: is) (a0 :: a1 :: a2 :: some (.int x) :: L) (S) (h) = ev sc d m (is) (a0 :: a1 :: a2 :: some (.int x) :: L) (.int x :: S) (h)) ∧
  (∀ (sc : Nat × (Nat → Int32)) (d m : Nat) (is : List ma_I) (L : ma_L) (S : List Value) (h : List ma_C) (o : List Nat) (a0 a1 a2 a3 : Option Value) (x : Nat), ev sc d m ((.aload 4, o) :: is) (a0 :: a1 :: a2 :: a3 :: some (.ref x) :: L) (S) (h) = ev sc d m (is) (a0 :: a1 :: a2 :: a3 :: some (.ref x) :: L) (.ref x :: S) (h)) ∧
  (∀ (sc : Nat × (Nat → Int32)) (d m : Nat) (is : List ma_I) (L : ma_L) (S : List Value) (h : List ma_C) (o : List Nat) (a0 a1 a2 a3 : Option Value), ev sc d m ((.aload 4, o) :: is) (a0 :: a1 :: a2 :: a3 :: some .null :: L) (S) (h) = ev sc d m (is) (a0 :: a1 :: a2 :: a3 :: some .null :: L) (.null :: S) (h)) ∧
  (∀ (sc : Nat × (Nat → Int32)) (d m : Nat) (is : List ma_I) (L : ma_L) (S : List Value) (h : List ma_C) (o : List Nat) (x : Nat), ev sc d m ((.aload_n 0, o) :: is) (some (.ref x) :: L) (S) (h) = ev sc d m (is) (some (.ref x) :: L) (.ref x :: S) (h)) ∧
  (∀ (sc : Nat × (Nat → Int32)) (d m : Nat) (is : List ma_I) (L : ma_L) (S : List Value) (h : List ma_C) (o : List Nat), ev sc d m ((.aload_n 0, o) :: is) (some .null :: L) (S) (h) = ev sc d m (is) (some .null :: L) (.null :: S) (h)) ∧
  (∀ (sc : Nat × (Nat → Int32)) (d m : Nat) (is : List ma_I) (L : ma_L) (S : List Value) (h : List ma_C) (o : List Nat) (a0 : Option Value) (x : Nat), ev sc d m ((.aload_n 1, o) :: is) (a0 :: some (.ref x) :: L) (S) (h) = ev sc d m (is) (a0 :: some (.ref x) :: L) (.ref x :: S) (h)) ∧
  (∀ (sc : Nat × (Nat → Int32)) (d m : Nat) (is : List ma_I) (L : ma_L) (S : List Value) (h : List ma_C) (o : List Nat) (a0 : Option Value), ev sc d m ((.aload_n 1, o) :: is) (a0 :: some .null :: L) (S) (h) = ev sc d m (is) (a0 :: some .null :: L) (.null :: S) (h)) ∧
  (∀ (sc : Nat × (Nat → Int32)) (d m : Nat) (is : List ma_I) (L : ma_L) (S : List Value) (h : List ma_C) (o : List Nat) (a0 a1 : Option Value) (x : Nat), ev sc d m ((.aload_n 2, o) :: is) (a0 :: a1 :: some (.ref x) :: L) (S) (h) = ev sc d m (is) (a0 :: a1 :: some (.ref x) :: L) (.ref x :: S) (h)) ∧
  (∀ (sc : Nat × (Nat → Int32)) (d m : Nat) (is : List ma_I) (L : ma_L) (S : List Value) (h : List ma_C) (o : List Nat) (a0 a1 : Option Value), ev sc d m ((.aload_n 2, o) :: is) (a0 :: a1 :: some .null :: L) (S) (h) = ev sc d m (is) (a0 :: a1 :: some .null :: L) (.null :: S) (h)) ∧
  (∀ (sc : Nat × (Nat → Int32)) (d m : Nat) (is : List ma_I) (L : ma_L) (S : List Value) (h : List ma_C) (o : List Nat) (a0 a1 a2 : Option Value) (x : Nat), ev sc d m ((.aload_n 3, o) :: is) (a0 :: a1 :: a2 :: some (.ref x) :: L) (S) (h) = ev sc d m (is) (a0 :: a1 :: a2 :: some (.ref x) :: L) (.ref x :: S) (h)) ∧
  (∀ (sc : Nat × (Nat → Int32)) (d m : Nat) (is : List ma_I) (L : ma_L) (S : List Value) (h : List ma_C) (o : List Nat) (a0 a1 a2 : Option Value), ev sc d m ((.aload_n 3, o) :: is) (a0 :: a1 :: a2 :: some .null :: L) (S) (h) = ev sc d m (is) (a0 :: a1 :: a2 :: some .null :: L) (.null :: S) (h)) ∧
  (∀ (sc : Nat × (Nat → Int32)) (d m : Nat) (is : List ma_I) (L : ma_L) (S : List Value) (h : List ma_C) (o : List Nat) (a0 a1 a2 a3 a4 a5 : Option Value) (x : Int64), ev sc d m ((.lload 6, o) :: is) (a0 :: a1 :: a2 :: a3 :: a4 :: a5 :: some (.long x) :: none :: L) (S) (h) = ev sc d m (is) (a0 :: a1 :: a2 :: a3 :: a4 :: a5 :: some (.long x) :: none :: L) (.long x :: S) (h)) ∧
  (∀ (sc : Nat × (Nat → Int32)) (d m : Nat) (is : List ma_I) (L : ma_L) (S : List Value) (h : List ma_C) (o : List Nat) (x : Int64), ev sc d m ((.lload_n 0, o) :: is) (some (.long x) :: none :: L) (S) (h) = ev sc d m (is) (some (.long x) :: none :: L) (.long x :: S) (h)) ∧
  (∀ (sc : Nat × (Nat → Int32)) (d m : Nat) (is : List ma_I) (L : ma_L) (S : List Value) (h : List ma_C) (o : List Nat) (a0 a1 : Option Value) (x : Int64), ev sc d m ((.lload_n 2, o) :: is) (a0 :: a1 :: some (.long x) :: none :: L) (S) (h) = ev sc d m (is) (a0 :: a1 :: some (.long x) :: none :: L) (.long x :: S) (h)) ∧
  (∀ (sc : Nat × (Nat → Int32)) (d m : Nat) (is : List ma_I) (L : ma_L) (S : List Value) (h : List ma_C) (o : List Nat) (a0 a1 a2 : Option Value) (x : Int64), ev sc d m ((.lload_n 3, o) :: is) (a0 :: a1 :: a2 :: some (.long x) :: none :: L) (S) (h) = ev sc d m (is) (a0 :: a1 :: a2 :: some (.long x) :: none :: L) (.long x :: S) (h)) := ⟨fun _ _ _ _ _ _ _ _ _ _ _ _ _ => rv_s rfl rfl,
  fun _ _ _ _ _ _ _ _ _ _ _ _ _ _ => rv_s rfl rfl,
  fun _ _ _ _ _ _ _ _ _ _ _ _ _ _ _ => rv_s rfl rfl,
  fun _ _ _ _ _ _ _ _ _ _ _ _ _ _ _ _ => rv_s rfl rfl,
  fun _ _ _ _ _ _ _ _ _ _ _ _ _ _ _ _ _ => rv_s rfl rfl,
  fun _ _ _ _ _ _ _ _ _ _ _ _ _ _ _ _ _ _ => rv_s rfl rfl,
  fun _ _ _ _ _ _ _ _ _ => rv_s rfl rfl,
  fun _ _ _ _ _ _ _ _ _ _ => rv_s rfl rfl,
  fun _ _ _ _ _ _ _ _ _ _ _ => rv_s rfl rfl,
  fun _ _ _ _ _ _ _ _ _ _ _ _ => rv_s rfl rfl,
  fun _ _ _ _ _ _ _ _ _ _ _ _ _ => rv_s rfl rfl,
  fun _ _ _ _ _ _ _ _ _ _ _ _ => rv_s rfl rfl,
  fun _ _ _ _ _ _ _ _ _ => rv_s rfl rfl,
  fun _ _ _ _ _ _ _ _ => rv_s rfl rfl,
  fun _ _ _ _ _ _ _ _ _ _ => rv_s rfl rfl,
  fun _ _ _ _ _ _ _ _ _ => rv_s rfl rfl,
  fun _ _ _ _ _ _ _ _ _ _ _ => rv_s rfl rfl,
  fun _ _ _ _ _ _ _ _ _ _ => rv_s rfl rfl,
  fun _ _ _ _ _ _ _ _ _ _ _ _ => rv_s rfl rfl,
  fun _ _ _ _ _ _ _ _ _ _ _ => rv_s rfl rfl,
  fun _ _ _ _ _ _ _ _ _ _ _ _ _ _ _ => rv_s rfl rfl,
  fun _ _ _ _ _ _ _ _ _ => rv_s rfl rfl,
  fun _ _ _ _ _ _ _ _ _ _ _ => rv_s rfl rfl,
  fun _ _ _ _ _ _ _ _ _ _ _ _ => rv_s rfl rfl⟩
theorem evS : (∀ (sc : Nat × (Nat → Int32)) (d m : Nat) (is : List ma_I) (L : ma_L) (S : List Value) (h : List ma_C) (o : List Nat) (a0 a1 a2 a3 : Option Value) (b : Option Value) (x : Int32), ev sc d m ((.istore 4, o) :: is) (a0 :: a1 :: a2 :: a3 :: b :: L) (.int x :: S) (h) = ev sc d m (is) (a0 :: a1 :: a2 :: a3 :: some (.int x) :: L) (S) (h)) ∧
  (∀ (sc : Nat × (Nat → Int32)) (d m : Nat) (is : List ma_I) (L : ma_L) (S : List Value) (h : List ma_C) (o : List Nat) (a0 a1 a2 a3 a4 : Option Value) (b : Option Value) (x : Int32), ev sc d m ((.istore 5, o) :: is) (a0 :: a1 :: a2 :: a3 :: a4 :: b :: L) (.int x :: S) (h) = ev sc d m (is) (a0 :: a1 :: a2 :: a3 :: a4 :: some (.int x) :: L) (S) (h)) ∧
  (∀ (sc : Nat × (Nat → Int32)) (d m : Nat) (is : List ma_I) (L : ma_L) (S : List Value) (h : List ma_C) (o : List Nat) (a0 a1 a2 a3 a4 a5 : Option Value) (b : Option Value) (x : Int32), ev sc d m ((.istore 6, o) :: is) (a0 :: a1 :: a2 :: a3 :: a4 :: a5 :: b :: L) (.int x :: S) (h) = ev sc d m (is) (a0 :: a1 :: a2 :: a3 :: a4 :: a5 :: some (.int x) :: L) (S) (h)) ∧
  (∀ (sc : Nat × (Nat → Int32)) (d m : Nat) (is : List ma_I) (L : ma_L) (S : List Value) (h : List ma_C) (o : List Nat) (a0 a1 a2 a3 a4 a5 a6 : Option Value) (b : Option Value) (x : Int32), ev sc d m ((.istore 7, o) :: is) (a0 :: a1 :: a2 :: a3 :: a4 :: a5 :: a6 :: b :: L) (.int x :: S) (h) = ev sc d m (is) (a0 :: a1 :: a2 :: a3 :: a4 :: a5 :: a6 :: some (.int x) :: L) (S) (h)) ∧
  (∀ (sc : Nat × (Nat → Int32)) (d m : Nat) (is : List ma_I) (L : ma_L) (S : List Value) (h : List ma_C) (o : List Nat) (a0 a1 a2 a3 a4 a5 a6 a7 : Option Value) (b : Option Value) (x : Int32), ev sc d m ((.istore 8, o) :: is) (a0 :: a1 :: a2 :: a3 :: a4 :: a5 :: a6 :: a7 :: b :: L) (.int x :: S) (h) = ev sc d m (is) (a0 :: a1 :: a2 :: a3 :: a4 :: a5 :: a6 :: a7 :: some (.int x) :: L) (S) (h)) ∧
  (∀ (sc : Nat × (Nat → Int32)) (d m : Nat) (is : List ma_I) (L : ma_L) (S : List Value) (h : List ma_C) (o : List Nat) (a0 a1 a2 a3 a4 a5 a6 a7 a8 : Option Value) (b : Option Value) (x : Int32), ev sc d m ((.istore 9, o) :: is) (a0 :: a1 :: a2 :: a3 :: a4 :: a5 :: a6 :: a7 :: a8 :: b :: L) (.int x :: S) (h) = ev sc d m (is) (a0 :: a1 :: a2 :: a3 :: a4 :: a5 :: a6 :: a7 :: a8 :: some (.int x) :: L) (S) (h)) ∧
  (∀ (sc : Nat × (Nat → Int32)) (d m : Nat) (is : List ma_I) (L : ma_L) (S : List Value) (h : List ma_C) (o : List Nat) (b : Option Value) (x : Int32), ev sc d m ((.istore_n 0, o) :: is) (b :: L) (.int x :: S) (h) = ev sc d m (is) (some (.int x) :: L) (S) (h)) ∧
  (∀ (sc : Nat × (Nat → Int32)) (d m : Nat) (is : List ma_I) (L : ma_L) (S : List Value) (h : List ma_C) (o : List Nat) (a0 : Option Value) (b : Option Value) (x : Int32), ev sc d m ((.istore_n 1, o) :: is) (a0 :: b :: L) (.int x :: S) (h) = ev sc d m (is) (a0 :: some (.int x) :: L) (S) (h)) ∧
  (∀ (sc : Nat × (Nat → Int32)) (d m : Nat) (is : List ma_I) (L : ma_L) (S : List Value) (h : List ma_C) (o : List Nat) (a0 a1 : Option Value) (b : Option Value) (x : Int32), ev sc d m ((.istore_n 2, o) :: is) (a0 :: a1 :: b :: L) (.int x :: S) (h) = ev sc d m (is) (a0 :: a1 :: some (.int x) :: L) (S) (h)) ∧
  (∀ (sc : Nat × (Nat → Int32)) (d m : Nat) (is : List ma_I) (L : ma_L) (S : List Value) (h : List ma_C) (o : List Nat) (a0 a1 a2 : Option Value) (b : Option Value) (x : Int32), ev sc d m ((.istore_n 3, o) :: is) (a0 :: a1 :: a2 :: b :: L) (.int x :: S) (h) = ev sc d m (is) (a0 :: a1 :: a2 :: some (.int x) :: L) (S) (h)) ∧
  (∀ (sc : Nat × (Nat → Int32)) (d m : Nat) (is : List ma_I) (L : ma_L) (S : List Value) (h : List ma_C) (o : List Nat) (a0 : Option Value) (b : Option Value) (x : Nat), ev sc d m ((.astore_n 1, o) :: is) (a0 :: b :: L) (.ref x :: S) (h) = ev sc d m (is) (a0 :: some (.ref x) :: L) (S) (h)) ∧
  (∀ (sc : Nat × (Nat → Int32)) (d m : Nat) (is : List ma_I) (L : ma_L) (S : List Value) (h : List ma_C) (o : List Nat) (a0 : Option Value) (b : Option Value), ev sc d m ((.astore_n 1, o) :: is) (a0 :: b :: L) (.null :: S) (h) = ev sc d m (is) (a0 :: some .null :: L) (S) (h)) ∧
  (∀ (sc : Nat × (Nat → Int32)) (d m : Nat) (is : List ma_I) (L : ma_L) (S : List Value) (h : List ma_C) (o : List Nat) (a0 a1 : Option Value) (b : Option Value) (x : Nat), ev sc d m ((.astore_n 2, o) :: is) (a0 :: a1 :: b :: L) (.ref x :: S) (h) = ev sc d m (is) (a0 :: a1 :: some (.ref x) :: L) (S) (h)) ∧
  (∀ (sc : Nat × (Nat → Int32)) (d m : Nat) (is : List ma_I) (L : ma_L) (S : List Value) (h : List ma_C) (o : List Nat) (a0 a1 : Option Value) (b : Option Value), ev sc d m ((.astore_n 2, o) :: is) (a0 :: a1 :: b :: L) (.null :: S) (h) = ev sc d m (is) (a0 :: a1 :: some .null :: L) (S) (h)) ∧
  (∀ (sc : Nat × (Nat → Int32)) (d m : Nat) (is : List ma_I) (L : ma_L) (S : List Value) (h : List ma_C) (o : List Nat) (a0 a1 a2 : Option Value) (b : Option Value) (x : Nat), ev sc d m ((.astore_n 3, o) :: is) (a0 :: a1 :: a2 :: b :: L) (.ref x :: S) (h) = ev sc d m (is) (a0 :: a1 :: a2 :: some (.ref x) :: L) (S) (h)) ∧
  (∀ (sc : Nat × (Nat → Int32)) (d m : Nat) (is : List ma_I) (L : ma_L) (S : List Value) (h : List ma_C) (o : List Nat) (a0 a1 a2 : Option Value) (b : Option Value), ev sc d m ((.astore_n 3, o) :: is) (a0 :: a1 :: a2 :: b :: L) (.null :: S) (h) = ev sc d m (is) (a0 :: a1 :: a2 :: some .null :: L) (S) (h)) ∧
  (∀ (sc : Nat × (Nat → Int32)) (d m : Nat) (is : List ma_I) (L : ma_L) (S : List Value) (h : List ma_C) (o : List Nat) (a0 a1 a2 a3 a4 a5 : Option Value) (b b2 : Option Value) (x : Int64), ev sc d m ((.lstore 6, o) :: is) (a0 :: a1 :: a2 :: a3 :: a4 :: a5 :: b :: b2 :: L) (.long x :: S) (h) = ev sc d m (is) (a0 :: a1 :: a2 :: a3 :: a4 :: a5 :: some (.long x) :: none :: L) (S) (h)) ∧
  (∀ (sc : Nat × (Nat → Int32)) (d m : Nat) (is : List ma_I) (L : ma_L) (S : List Value) (h : List ma_C) (o : List Nat) (a0 a1 a2 : Option Value) (b b2 : Option Value) (x : Int64), ev sc d m ((.lstore_n 3, o) :: is) (a0 :: a1 :: a2 :: b :: b2 :: L) (.long x :: S) (h) = ev sc d m (is) (a0 :: a1 :: a2 :: some (.long x) :: none :: L) (S) (h)) ∧
  (∀ (sc : Nat × (Nat → Int32)) (d m : Nat) (is : List ma_I) (L : ma_L) (S : List Value) (h : List ma_C) (o : List Nat) (a0 : Option Value) (x : Int32), ev sc d m ((.iinc 1 (-1), o) :: is) (a0 :: some (.int x) :: L) (S) (h) = ev sc d m (is) (a0 :: some (.int (x + (-1))) :: L) (S) (h)) ∧
  (∀ (sc : Nat × (Nat → Int32)) (d m : Nat) (is : List ma_I) (L : ma_L) (S : List Value) (h : List ma_C) (o : List Nat) (a0 : Option Value) (x : Int32), ev sc d m ((.iinc 1 1, o) :: is) (a0 :: some (.int x) :: L) (S) (h) = ev sc d m (is) (a0 :: some (.int (x + 1)) :: L) (S) (h)) ∧
  (∀ (sc : Nat × (Nat → Int32)) (d m : Nat) (is : List ma_I) (L : ma_L) (S : List Value) (h : List ma_C) (o : List Nat) (a0 a1 : Option Value) (x : Int32), ev sc d m ((.iinc 2 (-8), o) :: is) (a0 :: a1 :: some (.int x) :: L) (S) (h) = ev sc d m (is) (a0 :: a1 :: some (.int (x + (-8))) :: L) (S) (h)) ∧
  (∀ (sc : Nat × (Nat → Int32)) (d m : Nat) (is : List ma_I) (L : ma_L) (S : List Value) (h : List ma_C) (o : List Nat) (a0 a1 : Option Value) (x : Int32), ev sc d m ((.iinc 2 (-1), o) :: is) (a0 :: a1 :: some (.int x) :: L) (S) (h) = ev sc d m (is) (a0 :: a1 :: some (.int (x + (-1))) :: L) (S) (h)) ∧
  (∀ (sc : Nat × (Nat → Int32)) (d m : Nat) (is : List ma_I) (L : ma_L) (S : List Value) (h : List ma_C) (o : List Nat) (a0 a1 : Option Value) (x : Int32), ev sc d m ((.iinc 2 1, o) :: is) (a0 :: a1 :: some (.int x) :: L) (S) (h) = ev sc d m (is) (a0 :: a1 :: some (.int (x + 1)) :: L) (S) (h)) ∧
  (∀ (sc : Nat × (Nat → Int32)) (d m : Nat) (is : List ma_I) (L : ma_L) (S : List Value) (h : List ma_C) (o : List Nat) (a0 a1 a2 : Option Value) (x : Int32), ev sc d m ((.iinc 3 1, o) :: is) (a0 :: a1 :: a2 :: some (.int x) :: L) (S) (h) = ev sc d m (is) (a0 :: a1 :: a2 :: some (.int (x + 1)) :: L) (S) (h)) ∧
  (∀ (sc : Nat × (Nat → Int32)) (d m : Nat) (is : List ma_I) (L : ma_L) (S : List Value) (h : List ma_C) (o : List Nat) (a0 a1 a2 : Option Value) (x : Int32), ev sc d m ((.iinc 3 6, o) :: is) (a0 :: a1 :: a2 :: some (.int x) :: L) (S) (h) = ev sc d m (is) (a0 :: a1 :: a2 :: some (.int (x + 6)) :: L) (S) (h)) ∧
  (∀ (sc : Nat × (Nat → Int32)) (d m : Nat) (is : List ma_I) (L : ma_L) (S : List Value) (h : List ma_C) (o : List Nat) (a0 a1 a2 a3 : Option Value) (x : Int32), ev sc d m ((.iinc 4 (-1), o) :: is) (a0 :: a1 :: a2 :: a3 :: some (.int x) :: L) (S) (h) = ev sc d m (is) (a0 :: a1 :: a2 :: a3 :: some (.int (x + (-1))) :: L) (S) (h)) ∧
  (∀ (sc : Nat × (Nat → Int32)) (d m : Nat) (is : List ma_I) (L : ma_L) (S : List Value) (h : List ma_C) (o : List Nat) (a0 a1 a2 a3 : Option Value) (x : Int32), ev sc d m ((.iinc 4 1, o) :: is) (a0 :: a1 :: a2 :: a3 :: some (.int x) :: L) (S) (h) = ev sc d m (is) (a0 :: a1 :: a2 :: a3 :: some (.int (x + 1)) :: L) (S) (h)) ∧
  (∀ (sc : Nat × (Nat → Int32)) (d m : Nat) (is : List ma_I) (L : ma_L) (S : List Value) (h : List ma_C) (o : List Nat) (a0 a1 a2 a3 a4 : Option Value) (x : Int32), ev sc d m ((.iinc 5 (-1), o) :: is) (a0 :: a1 :: a2 :: a3 :: a4 :: some (.int x) :: L) (S) (h) = ev sc d m (is) (a0 :: a1 :: a2 :: a3 :: a4 :: some (.int (x + (-1))) :: L) (S) (h)) ∧
  (∀ (sc : Nat × (Nat → Int32)) (d m : Nat) (is : List ma_I) (L : ma_L) (S : List Value) (h : List ma_C) (o : List Nat) (a0 a1 a2 a3 a4 : Option Value) (x : Int32), ev sc d m ((.iinc 5 1, o) :: is) (a0 :: a1 :: a2 :: a3 :: a4 :: some (.int x) :: L) (S) (h) = ev sc d m (is) (a0 :: a1 :: a2 :: a3 :: a4 :: some (.int (x + 1)) :: L) (S) (h)) ∧
  (∀ (sc : Nat × (Nat → Int32)) (d m : Nat) (is : List ma_I) (L : ma_L) (S : List Value) (h : List ma_C) (o : List Nat) (a0 a1 a2 a3 a4 a5 a6 : Option Value) (x : Int32), ev sc d m ((.iinc 7 1, o) :: is) (a0 :: a1 :: a2 :: a3 :: a4 :: a5 :: a6 :: some (.int x) :: L) (S) (h) = ev sc d m (is) (a0 :: a1 :: a2 :: a3 :: a4 :: a5 :: a6 :: some (.int (x + 1)) :: L) (S) (h)) := ⟨fun _ _ _ _ _ _ _ _ _ _ _ _ _ _ => rv_s rfl (by simp only [ma_s]; rw [if_pos (by first | (simp; done) | (simp only [List.length_cons]; show 3 < _; omega) | (simp only [List.length_cons]; show 3 + 1 < _; omega))]; rfl),
  fun _ _ _ _ _ _ _ _ _ _ _ _ _ _ _ => rv_s rfl (by simp only [ma_s]; rw [if_pos (by first | (simp; done) | (simp only [List.length_cons]; show 3 < _; omega) | (simp only [List.length_cons]; show 3 + 1 < _; omega))]; rfl),
  fun _ _ _ _ _ _ _ _ _ _ _ _ _ _ _ _ => rv_s rfl (by simp only [ma_s]; rw [if_pos (by first | (simp; done) | (simp only [List.length_cons]; show 3 < _; omega) | (simp only [List.length_cons]; show 3 + 1 < _; omega))]; rfl),
  fun _ _ _ _ _ _ _ _ _ _ _ _ _ _ _ _ _ => rv_s rfl (by simp only [ma_s]; rw [if_pos (by first | (simp; done) | (simp only [List.length_cons]; show 3 < _; omega) | (simp only [List.length_cons]; show 3 + 1 < _; omega))]; rfl),
  fun _ _ _ _ _ _ _ _ _ _ _ _ _ _ _ _ _ _ => rv_s rfl (by simp only [ma_s]; rw [if_pos (by first | (simp; done) | (simp only [List.length_cons]; show 3 < _; omega) | (simp only [List.length_cons]; show 3 + 1 < _; omega))]; rfl),
  fun _ _ _ _ _ _ _ _ _ _ _ _ _ _ _ _ _ _ _ => rv_s rfl (by simp only [ma_s]; rw [if_pos (by first | (simp; done) | (simp only [List.length_cons]; show 3 < _; omega) | (simp only [List.length_cons]; show 3 + 1 < _; omega))]; rfl),
  fun _ _ _ _ _ _ _ _ _ _ => rv_s rfl (by simp only [ma_s]; rw [if_pos (by first | (simp; done) | (simp only [List.length_cons]; show 3 < _; omega) | (simp only [List.length_cons]; show 3 + 1 < _; omega))]; rfl),
  fun _ _ _ _ _ _ _ _ _ _ _ => rv_s rfl (by simp only [ma_s]; rw [if_pos (by first | (simp; done) | (simp only [List.length_cons]; show 3 < _; omega) | (simp only [List.length_cons]; show 3 + 1 < _; omega))]; rfl),
  fun _ _ _ _ _ _ _ _ _ _ _ _ => rv_s rfl (by simp only [ma_s]; rw [if_pos (by first | (simp; done) | (simp only [List.length_cons]; show 3 < _; omega) | (simp only [List.length_cons]; show 3 + 1 < _; omega))]; rfl),
  fun _ _ _ _ _ _ _ _ _ _ _ _ _ => rv_s rfl (by simp only [ma_s]; rw [if_pos (by first | (simp; done) | (simp only [List.length_cons]; show 3 < _; omega) | (simp only [List.length_cons]; show 3 + 1 < _; omega))]; rfl),
  fun _ _ _ _ _ _ _ _ _ _ _ => rv_s rfl (by simp only [ma_s]; rw [if_pos (by first | (simp; done) | (simp only [List.length_cons]; show 3 < _; omega) | (simp only [List.length_cons]; show 3 + 1 < _; omega))]; rfl),
  fun _ _ _ _ _ _ _ _ _ _ => rv_s rfl (by simp only [ma_s]; rw [if_pos (by first | (simp; done) | (simp only [List.length_cons]; show 3 < _; omega) | (simp only [List.length_cons]; show 3 + 1 < _; omega))]; rfl),
  fun _ _ _ _ _ _ _ _ _ _ _ _ => rv_s rfl (by simp only [ma_s]; rw [if_pos (by first | (simp; done) | (simp only [List.length_cons]; show 3 < _; omega) | (simp only [List.length_cons]; show 3 + 1 < _; omega))]; rfl),
  fun _ _ _ _ _ _ _ _ _ _ _ => rv_s rfl (by simp only [ma_s]; rw [if_pos (by first | (simp; done) | (simp only [List.length_cons]; show 3 < _; omega) | (simp only [List.length_cons]; show 3 + 1 < _; omega))]; rfl),
  fun _ _ _ _ _ _ _ _ _ _ _ _ _ => rv_s rfl (by simp only [ma_s]; rw [if_pos (by first | (simp; done) | (simp only [List.length_cons]; show 3 < _; omega) | (simp only [List.length_cons]; show 3 + 1 < _; omega))]; rfl),
  fun _ _ _ _ _ _ _ _ _ _ _ _ => rv_s rfl (by simp only [ma_s]; rw [if_pos (by first | (simp; done) | (simp only [List.length_cons]; show 3 < _; omega) | (simp only [List.length_cons]; show 3 + 1 < _; omega))]; rfl),
  fun _ _ _ _ _ _ _ _ _ _ _ _ _ _ _ _ _ => rv_s rfl (by simp only [ma_s]; rw [if_pos (by first | (simp; done) | (simp only [List.length_cons]; show 3 < _; omega) | (simp only [List.length_cons]; show 3 + 1 < _; omega))]; rfl),
  fun _ _ _ _ _ _ _ _ _ _ _ _ _ _ => rv_s rfl (by simp only [ma_s]; rw [if_pos (by first | (simp; done) | (simp only [List.length_cons]; show 3 < _; omega) | (simp only [List.length_cons]; show 3 + 1 < _; omega))]; rfl),
  fun _ _ _ _ _ _ _ _ _ _ => rv_s rfl rfl,
  fun _ _ _ _ _ _ _ _ _ _ => rv_s rfl rfl,
  fun _ _ _ _ _ _ _ _ _ _ _ => rv_s rfl rfl,
  fun _ _ _ _ _ _ _ _ _ _ _ => rv_s rfl rfl,
  fun _ _ _ _ _ _ _ _ _ _ _ => rv_s rfl rfl,
  fun _ _ _ _ _ _ _ _ _ _ _ _ => rv_s rfl rfl,
  fun _ _ _ _ _ _ _ _ _ _ _ _ => rv_s rfl rfl,
  fun _ _ _ _ _ _ _ _ _ _ _ _ _ => rv_s rfl rfl,
  fun _ _ _ _ _ _ _ _ _ _ _ _ _ => rv_s rfl rfl,
  fun _ _ _ _ _ _ _ _ _ _ _ _ _ _ => rv_s rfl rfl,
  fun _ _ _ _ _ _ _ _ _ _ _ _ _ _ => rv_s rfl rfl,
  fun _ _ _ _ _ _ _ _ _ _ _ _ _ _ _ _ => rv_s rfl rfl⟩
theorem evA : (∀ (sc : Nat × (Nat → Int32)) (d m : Nat) (is : List ma_I) (L : ma_L) (S : List Value) (h : List ma_C) (o : List Nat) (x y : Int32), ev sc d m ((.iadd, o) :: is) (L) (.int y :: .int x :: S) (h) = ev sc d m (is) (L) (.int (x + y) :: S) (h)) ∧
  (∀ (sc : Nat × (Nat → Int32)) (d m : Nat) (is : List ma_I) (L : ma_L) (S : List Value) (h : List ma_C) (o : List Nat) (x y : Int32), ev sc d m ((.isub, o) :: is) (L) (.int y :: .int x :: S) (h) = ev sc d m (is) (L) (.int (x - y) :: S) (h)) ∧
  (∀ (sc : Nat × (Nat → Int32)) (d m : Nat) (is : List ma_I) (L : ma_L) (S : List Value) (h : List ma_C) (o : List Nat) (x y : Int32), ev sc d m ((.imul, o) :: is) (L) (.int y :: .int x :: S) (h) = ev sc d m (is) (L) (.int (x * y) :: S) (h)) ∧
  (∀ (sc : Nat × (Nat → Int32)) (d m : Nat) (is : List ma_I) (L : ma_L) (S : List Value) (h : List ma_C) (o : List Nat) (x y : Int32), ev sc d m ((.iand, o) :: is) (L) (.int y :: .int x :: S) (h) = ev sc d m (is) (L) (.int (x &&& y) :: S) (h)) ∧
  (∀ (sc : Nat × (Nat → Int32)) (d m : Nat) (is : List ma_I) (L : ma_L) (S : List Value) (h : List ma_C) (o : List Nat) (x y : Int32), ev sc d m ((.ior, o) :: is) (L) (.int y :: .int x :: S) (h) = ev sc d m (is) (L) (.int (x ||| y) :: S) (h)) ∧
  (∀ (sc : Nat × (Nat → Int32)) (d m : Nat) (is : List ma_I) (L : ma_L) (S : List Value) (h : List ma_C) (o : List Nat) (x y : Int32), ev sc d m ((.ixor, o) :: is) (L) (.int y :: .int x :: S) (h) = ev sc d m (is) (L) (.int (x ^^^ y) :: S) (h)) ∧
  (∀ (sc : Nat × (Nat → Int32)) (d m : Nat) (is : List ma_I) (L : ma_L) (S : List Value) (h : List ma_C) (o : List Nat) (x y : Int32), ev sc d m ((.ishl, o) :: is) (L) (.int y :: .int x :: S) (h) = ev sc d m (is) (L) (.int (x <<< (y &&& 31)) :: S) (h)) ∧
  (∀ (sc : Nat × (Nat → Int32)) (d m : Nat) (is : List ma_I) (L : ma_L) (S : List Value) (h : List ma_C) (o : List Nat) (x y : Int32), ev sc d m ((.ishr, o) :: is) (L) (.int y :: .int x :: S) (h) = ev sc d m (is) (L) (.int (x >>> (y &&& 31)) :: S) (h)) ∧
  (∀ (sc : Nat × (Nat → Int32)) (d m : Nat) (is : List ma_I) (L : ma_L) (S : List Value) (h : List ma_C) (o : List Nat) (x y : Int32), ev sc d m ((.iushr, o) :: is) (L) (.int y :: .int x :: S) (h) = ev sc d m (is) (L) (.int ((x.toUInt32 >>> (y.toUInt32 &&& Int32.toUInt32 31)).toInt32) :: S) (h)) ∧
  (∀ (sc : Nat × (Nat → Int32)) (d m : Nat) (is : List ma_I) (L : ma_L) (S : List Value) (h : List ma_C) (o : List Nat) (x y : Int32), ev sc d m ((.idiv, o) :: is) (L) (.int y :: .int x :: S) (h) = if y = 0 then none else ev sc d m (is) (L) (.int (x / y) :: S) (h)) ∧
  (∀ (sc : Nat × (Nat → Int32)) (d m : Nat) (is : List ma_I) (L : ma_L) (S : List Value) (h : List ma_C) (o : List Nat) (x y : Int32), ev sc d m ((.irem, o) :: is) (L) (.int y :: .int x :: S) (h) = if y = 0 then none else ev sc d m (is) (L) (.int (x - x / y * y) :: S) (h)) ∧
  (∀ (sc : Nat × (Nat → Int32)) (d m : Nat) (is : List ma_I) (L : ma_L) (S : List Value) (h : List ma_C) (o : List Nat) (x : Int32), ev sc d m ((.ineg, o) :: is) (L) (.int x :: S) (h) = ev sc d m (is) (L) (.int (-x) :: S) (h)) ∧
  (∀ (sc : Nat × (Nat → Int32)) (d m : Nat) (is : List ma_I) (L : ma_L) (S : List Value) (h : List ma_C) (o : List Nat) (x : Int32), ev sc d m ((.i2l, o) :: is) (L) (.int x :: S) (h) = ev sc d m (is) (L) (.long x.toInt64 :: S) (h)) ∧
  (∀ (sc : Nat × (Nat → Int32)) (d m : Nat) (is : List ma_I) (L : ma_L) (S : List Value) (h : List ma_C) (o : List Nat) (x : Int64), ev sc d m ((.l2i, o) :: is) (L) (.long x :: S) (h) = ev sc d m (is) (L) (.int x.toInt32 :: S) (h)) ∧
  (∀ (sc : Nat × (Nat → Int32)) (d m : Nat) (is : List ma_I) (L : ma_L) (S : List Value) (h : List ma_C) (o : List Nat) (x : Int32), ev sc d m ((.i2b, o) :: is) (L) (.int x :: S) (h) = ev sc d m (is) (L) (.int x.toInt8.toInt32 :: S) (h)) ∧
  (∀ (sc : Nat × (Nat → Int32)) (d m : Nat) (is : List ma_I) (L : ma_L) (S : List Value) (h : List ma_C) (o : List Nat) (x : Int32), ev sc d m ((.i2c, o) :: is) (L) (.int x :: S) (h) = ev sc d m (is) (L) (.int (x.toUInt32 % 65536).toInt32 :: S) (h)) ∧
  (∀ (sc : Nat × (Nat → Int32)) (d m : Nat) (is : List ma_I) (L : ma_L) (S : List Value) (h : List ma_C) (o : List Nat) (x y : Int64), ev sc d m ((.ladd, o) :: is) (L) (.long y :: .long x :: S) (h) = ev sc d m (is) (L) (.long (x + y) :: S) (h)) ∧
  (∀ (sc : Nat × (Nat → Int32)) (d m : Nat) (is : List ma_I) (L : ma_L) (S : List Value) (h : List ma_C) (o : List Nat) (x y : Int64), ev sc d m ((.land, o) :: is) (L) (.long y :: .long x :: S) (h) = ev sc d m (is) (L) (.long (x &&& y) :: S) (h)) ∧
  (∀ (sc : Nat × (Nat → Int32)) (d m : Nat) (is : List ma_I) (L : ma_L) (S : List Value) (h : List ma_C) (o : List Nat) (x y : Int64), ev sc d m ((.lcmp, o) :: is) (L) (.long y :: .long x :: S) (h) = ev sc d m (is) (L) (.int (lg_cmp x y) :: S) (h)) ∧
  (∀ (sc : Nat × (Nat → Int32)) (d m : Nat) (is : List ma_I) (L : ma_L) (S : List Value) (h : List ma_C) (o : List Nat) (x : Int64) (y : Int32), ev sc d m ((.lshl, o) :: is) (L) (.int y :: .long x :: S) (h) = ev sc d m (is) (L) (.long (x <<< (y.toInt64 &&& 63)) :: S) (h)) ∧
  (∀ (sc : Nat × (Nat → Int32)) (d m : Nat) (is : List ma_I) (L : ma_L) (S : List Value) (h : List ma_C) (o : List Nat) (x : Int64) (y : Int32), ev sc d m ((.lshr, o) :: is) (L) (.int y :: .long x :: S) (h) = ev sc d m (is) (L) (.long (x >>> (y.toInt64 &&& 63)) :: S) (h)) ∧
  (∀ (sc : Nat × (Nat → Int32)) (d m : Nat) (is : List ma_I) (L : ma_L) (S : List Value) (h : List ma_C) (o : List Nat) (x : Int32), ev sc d m ((.dup, o) :: is) (L) (.int x :: S) (h) = ev sc d m (is) (L) (.int x :: .int x :: S) (h)) ∧
  (∀ (sc : Nat × (Nat → Int32)) (d m : Nat) (is : List ma_I) (L : ma_L) (S : List Value) (h : List ma_C) (o : List Nat) (x : Nat), ev sc d m ((.dup, o) :: is) (L) (.ref x :: S) (h) = ev sc d m (is) (L) (.ref x :: .ref x :: S) (h)) ∧
  (∀ (sc : Nat × (Nat → Int32)) (d m : Nat) (is : List ma_I) (L : ma_L) (S : List Value) (h : List ma_C) (o : List Nat) (x : Nat) (y : Int32), ev sc d m ((.dup2, o) :: is) (L) (.int y :: .ref x :: S) (h) = ev sc d m (is) (L) (.int y :: .ref x :: .int y :: .ref x :: S) (h)) ∧
  (∀ (sc : Nat × (Nat → Int32)) (d m : Nat) (is : List ma_I) (L : ma_L) (S : List Value) (h : List ma_C) (o : List Nat) (x : Int32), ev sc d m ((.pop, o) :: is) (L) (.int x :: S) (h) = ev sc d m (is) (L) (S) (h)) := ⟨fun _ _ _ _ _ _ _ _ _ _ => rv_s rfl rfl,
  fun _ _ _ _ _ _ _ _ _ _ => rv_s rfl rfl,
  fun _ _ _ _ _ _ _ _ _ _ => rv_s rfl rfl,
  fun _ _ _ _ _ _ _ _ _ _ => rv_s rfl rfl,
  fun _ _ _ _ _ _ _ _ _ _ => rv_s rfl rfl,
  fun _ _ _ _ _ _ _ _ _ _ => rv_s rfl rfl,
  fun _ _ _ _ _ _ _ _ _ _ => rv_s rfl rfl,
  fun _ _ _ _ _ _ _ _ _ _ => rv_s rfl rfl,
  fun _ _ _ _ _ _ _ _ _ _ => rv_s rfl rfl,
  fun _ _ _ _ _ _ _ _ x y => by
    by_cases hy : y = 0
    · rw [if_pos hy]; exact rv_sn rfl (by simp only [ma_s]; rw [if_pos hy])
    · rw [if_neg hy]; exact rv_s rfl (by simp only [ma_s]; rw [if_neg hy]),
  fun _ _ _ _ _ _ _ _ x y => by
    by_cases hy : y = 0
    · rw [if_pos hy]; exact rv_sn rfl (by simp only [ma_s]; rw [if_pos hy])
    · rw [if_neg hy]; exact rv_s rfl (by simp only [ma_s]; rw [if_neg hy]),
  fun _ _ _ _ _ _ _ _ _ => rv_s rfl rfl,
  fun _ _ _ _ _ _ _ _ _ => rv_s rfl rfl,
  fun _ _ _ _ _ _ _ _ _ => rv_s rfl rfl,
  fun _ _ _ _ _ _ _ _ _ => rv_s rfl rfl,
  fun _ _ _ _ _ _ _ _ _ => rv_s rfl rfl,
  fun _ _ _ _ _ _ _ _ _ _ => rv_s rfl rfl,
  fun _ _ _ _ _ _ _ _ _ _ => rv_s rfl rfl,
  fun _ _ _ _ _ _ _ _ _ _ => rv_s rfl rfl,
  fun _ _ _ _ _ _ _ _ _ _ => rv_s rfl rfl,
  fun _ _ _ _ _ _ _ _ _ _ => rv_s rfl rfl,
  fun _ _ _ _ _ _ _ _ _ => rv_s rfl rfl,
  fun _ _ _ _ _ _ _ _ _ => rv_s rfl rfl,
  fun _ _ _ _ _ _ _ _ _ _ => rv_s rfl rfl,
  fun _ _ _ _ _ _ _ _ _ => rv_s rfl rfl⟩
theorem evJ : (∀ (sc : Nat × (Nat → Int32)) (d m : Nat) (is : List ma_I) (L : ma_L) (S : List Value) (h : List ma_C) (t : Nat), ev sc d m ((.nop, [t]) :: is) (L) (S) (h) = ev sc d m (pm_blk m t) L S h) ∧
  (∀ (sc : Nat × (Nat → Int32)) (d m : Nat) (is : List ma_I) (L : ma_L) (S : List Value) (h : List ma_C) (t : Nat) (z : Int), ev sc d m ((.goto z, [t]) :: is) (L) (S) (h) = ev sc d m (pm_blk m t) L S h) ∧
  (∀ (sc : Nat × (Nat → Int32)) (d m : Nat) (is : List ma_I) (L : ma_L) (S : List Value) (h : List ma_C) (t : Nat) (z : Int) (x y : Int32), ev sc d m ((.if_icmp .eq z, [t]) :: is) (L) (.int y :: .int x :: S) (h) = if x = y then ev sc d m (pm_blk m t) L S h else ev sc d m (is) (L) (S) (h)) ∧
  (∀ (sc : Nat × (Nat → Int32)) (d m : Nat) (is : List ma_I) (L : ma_L) (S : List Value) (h : List ma_C) (t : Nat) (z : Int) (x : Int32), ev sc d m ((.ifCond .eq z, [t]) :: is) (L) (.int x :: S) (h) = if x = 0 then ev sc d m (pm_blk m t) L S h else ev sc d m (is) (L) (S) (h)) ∧
  (∀ (sc : Nat × (Nat → Int32)) (d m : Nat) (is : List ma_I) (L : ma_L) (S : List Value) (h : List ma_C) (t : Nat) (z : Int) (x y : Int32), ev sc d m ((.if_icmp .ne z, [t]) :: is) (L) (.int y :: .int x :: S) (h) = if x = y then ev sc d m (is) (L) (S) (h) else ev sc d m (pm_blk m t) L S h) ∧
  (∀ (sc : Nat × (Nat → Int32)) (d m : Nat) (is : List ma_I) (L : ma_L) (S : List Value) (h : List ma_C) (t : Nat) (z : Int) (x : Int32), ev sc d m ((.ifCond .ne z, [t]) :: is) (L) (.int x :: S) (h) = if x = 0 then ev sc d m (is) (L) (S) (h) else ev sc d m (pm_blk m t) L S h) ∧
  (∀ (sc : Nat × (Nat → Int32)) (d m : Nat) (is : List ma_I) (L : ma_L) (S : List Value) (h : List ma_C) (t : Nat) (z : Int) (x y : Int32), ev sc d m ((.if_icmp .lt z, [t]) :: is) (L) (.int y :: .int x :: S) (h) = if x < y then ev sc d m (pm_blk m t) L S h else ev sc d m (is) (L) (S) (h)) ∧
  (∀ (sc : Nat × (Nat → Int32)) (d m : Nat) (is : List ma_I) (L : ma_L) (S : List Value) (h : List ma_C) (t : Nat) (z : Int) (x : Int32), ev sc d m ((.ifCond .lt z, [t]) :: is) (L) (.int x :: S) (h) = if x < 0 then ev sc d m (pm_blk m t) L S h else ev sc d m (is) (L) (S) (h)) ∧
  (∀ (sc : Nat × (Nat → Int32)) (d m : Nat) (is : List ma_I) (L : ma_L) (S : List Value) (h : List ma_C) (t : Nat) (z : Int) (x y : Int32), ev sc d m ((.if_icmp .ge z, [t]) :: is) (L) (.int y :: .int x :: S) (h) = if x < y then ev sc d m (is) (L) (S) (h) else ev sc d m (pm_blk m t) L S h) ∧
  (∀ (sc : Nat × (Nat → Int32)) (d m : Nat) (is : List ma_I) (L : ma_L) (S : List Value) (h : List ma_C) (t : Nat) (z : Int) (x : Int32), ev sc d m ((.ifCond .ge z, [t]) :: is) (L) (.int x :: S) (h) = if x < 0 then ev sc d m (is) (L) (S) (h) else ev sc d m (pm_blk m t) L S h) ∧
  (∀ (sc : Nat × (Nat → Int32)) (d m : Nat) (is : List ma_I) (L : ma_L) (S : List Value) (h : List ma_C) (t : Nat) (z : Int) (x y : Int32), ev sc d m ((.if_icmp .gt z, [t]) :: is) (L) (.int y :: .int x :: S) (h) = if x ≤ y then ev sc d m (is) (L) (S) (h) else ev sc d m (pm_blk m t) L S h) ∧
  (∀ (sc : Nat × (Nat → Int32)) (d m : Nat) (is : List ma_I) (L : ma_L) (S : List Value) (h : List ma_C) (t : Nat) (z : Int) (x : Int32), ev sc d m ((.ifCond .gt z, [t]) :: is) (L) (.int x :: S) (h) = if x ≤ 0 then ev sc d m (is) (L) (S) (h) else ev sc d m (pm_blk m t) L S h) ∧
  (∀ (sc : Nat × (Nat → Int32)) (d m : Nat) (is : List ma_I) (L : ma_L) (S : List Value) (h : List ma_C) (t : Nat) (z : Int) (x y : Int32), ev sc d m ((.if_icmp .le z, [t]) :: is) (L) (.int y :: .int x :: S) (h) = if x ≤ y then ev sc d m (pm_blk m t) L S h else ev sc d m (is) (L) (S) (h)) ∧
  (∀ (sc : Nat × (Nat → Int32)) (d m : Nat) (is : List ma_I) (L : ma_L) (S : List Value) (h : List ma_C) (t : Nat) (z : Int) (x : Int32), ev sc d m ((.ifCond .le z, [t]) :: is) (L) (.int x :: S) (h) = if x ≤ 0 then ev sc d m (pm_blk m t) L S h else ev sc d m (is) (L) (S) (h)) ∧
  (∀ (sc : Nat × (Nat → Int32)) (d m : Nat) (is : List ma_I) (L : ma_L) (S : List Value) (h : List ma_C) (t : Nat) (z : Int), ev sc d m ((.ifnull z, [t]) :: is) (L) (.null :: S) (h) = ev sc d m (pm_blk m t) L S h) ∧
  (∀ (sc : Nat × (Nat → Int32)) (d m : Nat) (is : List ma_I) (L : ma_L) (S : List Value) (h : List ma_C) (t : Nat) (z : Int) (x : Nat), ev sc d m ((.ifnull z, [t]) :: is) (L) (.ref x :: S) (h) = ev sc d m (is) (L) (S) (h)) ∧
  (∀ (sc : Nat × (Nat → Int32)) (d m : Nat) (is : List ma_I) (L : ma_L) (S : List Value) (h : List ma_C) (t : Nat) (z : Int), ev sc d m ((.ifnonnull z, [t]) :: is) (L) (.null :: S) (h) = ev sc d m (is) (L) (S) (h)) ∧
  (∀ (sc : Nat × (Nat → Int32)) (d m : Nat) (is : List ma_I) (L : ma_L) (S : List Value) (h : List ma_C) (t : Nat) (z : Int) (x : Nat), ev sc d m ((.ifnonnull z, [t]) :: is) (L) (.ref x :: S) (h) = ev sc d m (pm_blk m t) L S h) ∧
  (∀ (sc : Nat × (Nat → Int32)) (d m : Nat) (is : List ma_I) (L : ma_L) (S : List Value) (h : List ma_C) (x : Int32), ev sc d m ((.ireturn, [0]) :: is) (L) ([.int x]) (h) = some (some (.int x), h)) ∧
  (∀ (sc : Nat × (Nat → Int32)) (d m : Nat) (is : List ma_I) (L : ma_L) (S : List Value) (h : List ma_C), ev sc d m ((.ireturn, [1]) :: is) (L) ([.int 0]) (h) = some (some (.int 0), h)) ∧
  (∀ (sc : Nat × (Nat → Int32)) (d m : Nat) (is : List ma_I) (L : ma_L) (S : List Value) (h : List ma_C), ev sc d m ((.ireturn, [1]) :: is) (L) ([.int 1]) (h) = some (some (.int 1), h)) ∧
  (∀ (sc : Nat × (Nat → Int32)) (d m : Nat) (is : List ma_I) (L : ma_L) (S : List Value) (h : List ma_C) (o : List Nat), ev sc d m ((.return_, o) :: is) (L) ([]) (h) = some (none, h)) ∧
  (∀ (sc : Nat × (Nat → Int32)) (d m : Nat) (is : List ma_I) (L : ma_L) (S : List Value) (h : List ma_C) (o : List Nat) (x : Int64), ev sc d m ((.lreturn, o) :: is) (L) ([.long x]) (h) = some (some (.long x), h)) := ⟨fun _ _ _ _ _ _ _ _ => rv_j rfl rfl,
  fun _ _ _ _ _ _ _ _ _ => rv_j rfl rfl,
  fun _ _ _ _ _ _ _ t z x y => by
    by_cases hz : x = y
    · rw [if_pos hz]; exact rv_j rfl (ma_jT (decide_eq_true hz))
    · rw [if_neg hz]; exact rv_jn rfl (ma_jF (decide_eq_false hz)),
  fun _ _ _ _ _ _ _ t z x => by
    by_cases hz : x = 0
    · rw [if_pos hz]; exact rv_j rfl (ma_jT0 (decide_eq_true hz))
    · rw [if_neg hz]; exact rv_jn rfl (ma_jF0 (decide_eq_false hz)),
  fun _ _ _ _ _ _ _ t z x y => by
    by_cases hz : x = y
    · rw [if_pos hz]; exact rv_jn rfl (ma_jF (decide_eq_false (fun q => q hz)))
    · rw [if_neg hz]; exact rv_j rfl (ma_jT (decide_eq_true hz)),
  fun _ _ _ _ _ _ _ t z x => by
    by_cases hz : x = 0
    · rw [if_pos hz]; exact rv_jn rfl (ma_jF0 (decide_eq_false (fun q => q hz)))
    · rw [if_neg hz]; exact rv_j rfl (ma_jT0 (decide_eq_true hz)),
  fun _ _ _ _ _ _ _ t z x y => by
    by_cases hz : x < y
    · rw [if_pos hz]; exact rv_j rfl (ma_jT (decide_eq_true hz))
    · rw [if_neg hz]; exact rv_jn rfl (ma_jF (decide_eq_false hz)),
  fun _ _ _ _ _ _ _ t z x => by
    by_cases hz : x < 0
    · rw [if_pos hz]; exact rv_j rfl (ma_jT0 (decide_eq_true hz))
    · rw [if_neg hz]; exact rv_jn rfl (ma_jF0 (decide_eq_false hz)),
  fun _ _ _ _ _ _ _ t z x y => by
    by_cases hz : x < y
    · rw [if_pos hz]; exact rv_jn rfl (ma_jF (decide_eq_false (Int32.not_le.mpr hz)))
    · rw [if_neg hz]; exact rv_j rfl (ma_jT (decide_eq_true (Int32.not_lt.mp hz))),
  fun _ _ _ _ _ _ _ t z x => by
    by_cases hz : x < 0
    · rw [if_pos hz]; exact rv_jn rfl (ma_jF0 (decide_eq_false (Int32.not_le.mpr hz)))
    · rw [if_neg hz]; exact rv_j rfl (ma_jT0 (decide_eq_true (Int32.not_lt.mp hz))),
  fun _ _ _ _ _ _ _ t z x y => by
    by_cases hz : x ≤ y
    · rw [if_pos hz]; exact rv_jn rfl (ma_jF (decide_eq_false (Int32.not_lt.mpr hz)))
    · rw [if_neg hz]; exact rv_j rfl (ma_jT (decide_eq_true (Int32.not_le.mp hz))),
  fun _ _ _ _ _ _ _ t z x => by
    by_cases hz : x ≤ 0
    · rw [if_pos hz]; exact rv_jn rfl (ma_jF0 (decide_eq_false (Int32.not_lt.mpr hz)))
    · rw [if_neg hz]; exact rv_j rfl (ma_jT0 (decide_eq_true (Int32.not_le.mp hz))),
  fun _ _ _ _ _ _ _ t z x y => by
    by_cases hz : x ≤ y
    · rw [if_pos hz]; exact rv_j rfl (ma_jT (decide_eq_true hz))
    · rw [if_neg hz]; exact rv_jn rfl (ma_jF (decide_eq_false hz)),
  fun _ _ _ _ _ _ _ t z x => by
    by_cases hz : x ≤ 0
    · rw [if_pos hz]; exact rv_j rfl (ma_jT0 (decide_eq_true hz))
    · rw [if_neg hz]; exact rv_jn rfl (ma_jF0 (decide_eq_false hz)),
  fun _ _ _ _ _ _ _ _ _ => rv_j rfl rfl,
  fun _ _ _ _ _ _ _ _ _ _ => rv_jn rfl rfl,
  fun _ _ _ _ _ _ _ _ _ => rv_jn rfl rfl,
  fun _ _ _ _ _ _ _ _ _ _ => rv_j rfl rfl,
  fun _ _ _ _ _ _ _ _ => rv_r rfl rfl,
  fun _ _ _ _ _ _ _ => rv_r rfl rfl,
  fun _ _ _ _ _ _ _ => rv_r rfl rfl,
  fun _ _ _ _ _ _ _ _ => rv_r rfl rfl,
  fun _ _ _ _ _ _ _ _ _ => rv_r rfl rfl⟩
theorem ev_rb (x : Int32) (hx : x = 0 ∨ x = 1) : ev sc d m ((.ireturn, [1]) :: is) L [.int x] h = some (some (.int x), h) := rv_r rfl (by simp only [ma_r]; rw [if_pos hx])
theorem ev_ob (x y : Nat) (h8 : ma_wd S ≤ 8) : ev sc (d + 9) m ((.invokespecial x, [1]) :: is) L (.ref y :: S) h = ev sc (d + 9) m is L S h := rv_x rfl (by omega) (by simp only [ma_x, ma_wd_eq]; rw [if_neg (by omega)])
end EV
