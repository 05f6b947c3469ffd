/-! ===== how a column leans; what is asked of the law ===== -/
def leanS (W : Nat) (H : Nat → Int32) (x : Nat) : Int32 := iMx (if 0 < x then iFr (H x) (H (x - 1)) else nI 0) (if x + 1 < W then iFr (H x) (H (x + 1)) else nI 0)
def hB (H : Nat → Int32) : Prop := ∀ j, j < 14 → 0 ≤ (H j).toInt ∧ (H j).toInt ≤ 40
/-- the seven names -/
def aQ (x h n hr dy ln b : Int32) : Nat → Int32
  | 0 => x
  | 1 => h
  | 2 => n
  | 3 => hr
  | 4 => dy
  | 5 => ln
  | _ => b
theorem lA_s_congr {q q' : Nat → Int32} {a : lA} {t t' : List Bool} (st : List Int32) (h : ∀ k, k < 7 → q k = q' k) (ht : lA_t a t = some t') : lA_s q a st = lA_s q' a st := by
  unfold lA_t at ht
  split at ht
  · rfl
  · split at ht
    next hv => simp only [lA_s]; rw [h _ hv]
    next => cases ht
  all_goals first | (cases ht; done) | (rcases st with _ | ⟨y1, _ | ⟨y2, st⟩⟩ <;> rfl)
theorem lA_r_congr {q q' : Nat → Int32} (h : ∀ k, k < 7 → q k = q' k) : ∀ (as : List lA) (st : List Int32) (t t' : List Bool), lA_T as t = some t' → lA_r q as st = lA_r q' as st
  | [], _, _, _, _ => rfl
  | a :: as, st, t, t', hT => by
    unfold lA_T at hT
    split at hT
    next t1 ht =>
      split at hT
      next => rw [lA_r, lA_r, lA_s_congr st h ht]; exact lA_r_congr h as _ t1 t' hT
      next => cases hT
    next => cases hT
theorem lL_tell_congr {q q' : Nat → Int32} (h : ∀ k, k < 7 → q k = q' k) (word : Nat) : ∀ (ls : List lL), (∀ l ∈ ls, lL_ok l) → lL_tell q word ls = lL_tell q' word ls
  | [], _ => rfl
  | l :: ls, hl => by
    have ih := lL_tell_congr h word ls (fun x hx => hl x (List.mem_cons_of_mem _ hx))
    obtain ⟨h1, h2, h3⟩ := hl l List.mem_cons_self
    rw [lL_tell, lL_tell, ih, lA_r_congr h _ [] _ _ h2]
    rcases h3 with h3 | h3
    · simp only [h3, true_or, and_true]
    · rw [lA_r_congr h _ [] _ _ h3]
theorem lC.ok {c : Nat → Nat → Int32} {ls : List lL} (h : lC c ls) : ∀ l ∈ ls, lL_ok l := fun l hl => by
  obtain ⟨i, hi⟩ := List.mem_iff_getElem?.mp hl
  exact (h.2.2 i l hi).1
theorem lM.ok {c : Nat → Nat → Int32} {ls : List lL} (h : lM c ls) : ∀ l ∈ ls, lL_ok l := fun l hl => by
  obtain ⟨i, hi⟩ := List.mem_iff_getElem?.mp hl
  exact (h.2.2 i l hi).1
section AS
variable {sc : Nat × (Nat → Int32)} {c m : Nat → Nat → Int32} {w : Nat → Int64} {h : List ma_C}
theorem t_MO_leansOf (d x W : Nat) (hx : x < W) (hW : W ≤ 14) (hw : m 138 6 + nI 10 = nI W) : cc sc (d + 1) 215 [.ref 138, .int (nI x)] (hp c w m) = some (some (.int (leanS W (fun j => m 139 (5 + j) + nI 10) x)), hp c w m) := by
  unfold leanS
  rcases x with _ | x
  · rcases (show 0 + 1 < W ∨ ¬ 0 + 1 < W by omega) with h1 | h1
    · simp (disch := first | assumption | omega | decide | (simp only [ma_wd0, ma_wdi, ma_wdr, ma_wdl, ma_wdn] <;> omega)) only [↓reduceIte, evK, evL, evS, evA, evJ, Option.bind_some, Option.toList, List.cons_append, List.nil_append, nI_add, pk_mul, bI0, ite_not, ev_rbb, en_MO_leansOf, bk_MO_leansOf, nI_ltT, nI_ltF, nI_leT, nI_leF, nI_eqT, nI_eqF, ce_MO_heightOf, t_MO_heightOf, ce_MO_far, t_MO_far, ce_MO_wide, t_MO_wide, hw, ce_MO_greater, t_MO_greater, h1, Nat.lt_irrefl, Nat.zero_add, nI_m1]
    · simp (disch := first | assumption | omega | decide | (simp only [ma_wd0, ma_wdi, ma_wdr, ma_wdl, ma_wdn] <;> omega)) only [↓reduceIte, evK, evL, evS, evA, evJ, Option.bind_some, Option.toList, List.cons_append, List.nil_append, nI_add, pk_mul, bI0, ite_not, ev_rbb, en_MO_leansOf, bk_MO_leansOf, nI_ltT, nI_ltF, nI_leT, nI_leF, nI_eqT, nI_eqF, ce_MO_heightOf, t_MO_heightOf, ce_MO_far, t_MO_far, ce_MO_wide, t_MO_wide, hw, ce_MO_greater, t_MO_greater, h1, Nat.lt_irrefl, Nat.zero_add, nI_m1]
  · rcases (show x + 1 + 1 < W ∨ ¬ x + 1 + 1 < W by omega) with h1 | h1
    · simp (disch := first | assumption | omega | decide | (simp only [ma_wd0, ma_wdi, ma_wdr, ma_wdl, ma_wdn] <;> omega)) only [↓reduceIte, evK, evL, evS, evA, evJ, Option.bind_some, Option.toList, List.cons_append, List.nil_append, nI_add, pk_mul, bI0, ite_not, ev_rbb, en_MO_leansOf, bk_MO_leansOf, nI_ltT, nI_ltF, nI_leT, nI_leF, nI_eqT, nI_eqF, ce_MO_heightOf, t_MO_heightOf, ce_MO_far, t_MO_far, ce_MO_wide, t_MO_wide, hw, ce_MO_greater, t_MO_greater, h1, Nat.zero_lt_succ, Nat.add_sub_cancel, nI_m1]
    · simp (disch := first | assumption | omega | decide | (simp only [ma_wd0, ma_wdi, ma_wdr, ma_wdl, ma_wdn] <;> omega)) only [↓reduceIte, evK, evL, evS, evA, evJ, Option.bind_some, Option.toList, List.cons_append, List.nil_append, nI_add, pk_mul, bI0, ite_not, ev_rbb, en_MO_leansOf, bk_MO_leansOf, nI_ltT, nI_ltF, nI_leT, nI_leF, nI_eqT, nI_eqF, ce_MO_heightOf, t_MO_heightOf, ce_MO_far, t_MO_far, ce_MO_wide, t_MO_wide, hw, ce_MO_greater, t_MO_greater, h1, Nat.zero_lt_succ, Nat.add_sub_cancel, nI_m1]
theorem Int32_sub_toInt {a b : Int32} (ha : 0 ≤ a.toInt ∧ a.toInt ≤ 1000000) (hb : 0 ≤ b.toInt ∧ b.toInt ≤ 1000000) : (a - b).toInt = a.toInt - b.toInt := by
  rw [Int32.toInt_sub]
  exact Int.bmod_eq_of_le (by omega) (by omega)
theorem leans_math {W x : Nat} {H : Nat → Int32} (hx : x < W) (hW : W ≤ 14) (hH : hB H) : ∀ (b a : Int32), (b = if 0 < x then H (x - 1) else H x) → (a = if x + 1 < W then H (x + 1) else H x) → (if (H x - (if b < a then b else a)) ≤ ((if b < a then a else b) - H x) then (if b < a then a else b) - H x else H x - (if b < a then b else a)) = leanS W H x := by
  intro b a hb ha
  have h0 := hH x (by omega)
  have hbb : 0 ≤ b.toInt ∧ b.toInt ≤ 40 := by rw [hb]; split; exact hH _ (by omega); exact h0
  have haa : 0 ≤ a.toInt ∧ a.toInt ≤ 40 := by rw [ha]; split; exact hH _ (by omega); exact h0
  have sb := fun (u v : Int32) hu hv => Int32_sub_toInt (a := u) (b := v) hu hv
  have e1 : leanS W H x = iMx (iFr (H x) b) (iFr (H x) a) := by
    have hz : iFr (H x) (H x) = nI 0 := by unfold iFr; rw [if_neg (by rw [Int32.lt_iff_toInt_lt]; omega)]; exact Int32.sub_self _
    unfold leanS
    rw [hb, ha]
    split <;> split <;> simp only [hz]
  rw [e1]
  apply Int32.toInt_inj.mp
  unfold iMx iFr
  have k1 := sb (H x) b (by omega) (by omega)
  have k2 := sb b (H x) (by omega) (by omega)
  have k3 := sb (H x) a (by omega) (by omega)
  have k4 := sb a (H x) (by omega) (by omega)
  simp only [Int32.lt_iff_toInt_lt, Int32.le_iff_toInt_le]
  by_cases z1 : b.toInt < a.toInt
  · simp only [z1, if_true, k1, k2, k3, k4]
    repeat' split
    all_goals first | omega | (simp only [k1, k2, k3, k4] at * <;> omega)
  · simp only [z1, if_false, k1, k2, k3, k4]
    repeat' split
    all_goals first | omega | (simp only [k1, k2, k3, k4] at * <;> omega)
end AS
