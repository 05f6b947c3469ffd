/-! ===== the start: both constructors, run without the script ===== -/
def ma_s0 (ks : Nat → List Nat) (i : Instr) (o : List Nat) (L : ma_L) (S : List Value) (h : List ma_C) : Option (ma_L × List Value × List ma_C) := match i, S with
  | .arraylength, .ref k :: _ => if k = 4096 then none else ma_s (0, fun _ => 0) ks i o L S h
  | .iaload, .int _ :: .ref k :: _ => if k = 4096 then none else ma_s (0, fun _ => 0) ks i o L S h
  | _, _ => ma_s (0, fun _ => 0) ks i o L S h
theorem ma_s0_ok {ks : Nat → List Nat} {i : Instr} {o : List Nat} {L : ma_L} {S : List Value} {h : List ma_C} {x : ma_L × List Value × List ma_C} (sc : Nat × (Nat → Int32)) (h0 : ma_s0 ks i o L S h = some x) : ma_s sc ks i o L S h = some x := by
  unfold ma_s0 at h0
  split at h0
  · split at h0
    · cases h0
    · rename_i hk
      simp only [ma_s, ma_g, if_neg hk] at h0 ⊢
      exact h0
  · split at h0
    · cases h0
    · rename_i hk
      simp only [ma_s, ma_g, if_neg hk] at h0 ⊢
      exact h0
  · rename_i n1 n2
    cases i
    case arraylength =>
      rcases S with _ | ⟨v, S⟩
      · exact h0
      · cases v <;> first | exact h0 | exact (n1 _ _ rfl rfl).elim
    case iaload =>
      rcases S with _ | ⟨v, _ | ⟨u, S⟩⟩
      · exact h0
      · cases v <;> exact h0
      · cases v <;> first | exact h0 | (cases u <;> first | exact h0 | exact (n2 _ _ _ rfl rfl).elim)
    case multianewarray ix dm =>
      rcases dm with _ | _ | _ | dm
      · exact h0
      · exact h0
      · exact h0
      · first | exact h0 | (simp [ma_s] at h0)
    all_goals exact h0
def ma_run0 : Nat → Nat → Nat → List ma_I → ma_L → List Value → List ma_C → Option (Option Value × List ma_C)
  | 0, _, _, _, _, _, _ => none
  | _ + 1, _, _, [], _, _, _ => none
  | n + 1, d, m, (i, o) :: is, L, S, h =>
    match ma_k i o with
    | 0 => match ma_s0 pm_k i o L S h with
      | some (L, S, h) => ma_run0 n d m is L S h
      | none => none
    | 1 => match ma_j i o S with
      | some (some t, S) => ma_run0 n d m (pm_blk m t) L S h
      | some (none, S) => ma_run0 n d m is L S h
      | none => none
    | 2 => match ma_c i o S h with
      | some (m', a, S) => if (pm_mx[m']?).getD 0 < (ma_ent a).length then none else match d with
        | 0 => none
        | d + 1 => match ma_run0 n d m' (pm_blk m' 0) (ma_en a ((pm_mx[m']?).getD 0)) [] h with
          | some (r, h) => ma_run0 n (d + 1) m is L (r.toList ++ S) h
          | none => none
      | none => none
    | 3 => match ma_r i o S with
      | some r => some (r, h)
      | none => none
    | _ => match (if d < 9 then none else ma_x pm_tx i o S h) with
      | some (S, h) => ma_run0 n d m is L S h
      | none => none
theorem ma_run0_ok (sc : Nat × (Nat → Int32)) : ∀ (n d m : Nat) (is : List ma_I) (L : ma_L) (S : List Value) (h : List ma_C) (v : Option Value × List ma_C), ma_run0 n d m is L S h = some v → ma_run (pm_P sc) n d m is L S h = some v
  | 0, _, _, _, _, _, _, _, hr => by simp [ma_run0] at hr
  | n + 1, d, m, [], L, S, h, v, hr => by simp [ma_run0] at hr
  | n + 1, d, m, (i, o) :: is, L, S, h, v, hr => by
    unfold ma_run0 at hr
    unfold ma_run
    split at hr
    next hk =>
      rw [hk]
      split at hr
      next L1 S1 h1 hs =>
        have e : ma_s (pm_P sc).2.2.2.2 (pm_P sc).2.2.1 i o L S h = some (L1, S1, h1) := ma_s0_ok _ hs
        simp only [e]
        exact ma_run0_ok sc n _ _ _ _ _ _ _ hr
      next => cases hr
    next hk =>
      rw [hk]
      split at hr
      next t S1 hs => simp only [hs]; exact ma_run0_ok sc n _ _ _ _ _ _ _ hr
      next S1 hs => simp only [hs]; exact ma_run0_ok sc n _ _ _ _ _ _ _ hr
      next => cases hr
    next hk =>
      rw [hk]
      split at hr
      next m2 a S1 hs =>
        simp only [hs]
        split at hr
        next => cases hr
        next hz =>
          rw [if_neg (show ¬ (pm_P sc).2.1 m2 < (ma_ent a).length from hz)]
          split at hr
          next => cases hr
          next d1 =>
            split at hr
            next r1 h1 h2 =>
              have := ma_run0_ok sc n _ _ _ _ _ _ _ h2
              have e : ma_run (pm_P sc) n d1 m2 ((pm_P sc).1 m2 0) (ma_en a ((pm_P sc).2.1 m2)) [] h = some (r1, h1) := this
              simp only [e]
              exact ma_run0_ok sc n _ _ _ _ _ _ _ hr
            next => cases hr
      next => cases hr
    next hk =>
      rw [hk]
      exact hr
    next h0 h1 h2 h3 =>
      split at hr
      next S1 h1 hs =>
        have e : (if d < 9 then none else ma_x (pm_P sc).2.2.2.1 i o S h) = some (S1, h1) := hs
        split
        next hk => exact absurd hk h0
        next hk => exact absurd hk (by assumption)
        next hk => exact absurd hk h2
        next hk => exact absurd hk h3
        next =>
          simp only [e]
          exact ma_run0_ok sc n _ _ _ _ _ _ _ hr
      next => cases hr
/-- the heap behind the class's constructor, and behind the reference's -/
def st1 : List ma_C := match ma_run0 1000 59 0 (pm_blk 0 0) (ma_en [.ref 0] 1) [] [.inr (0, ma_df (pm_k 0))] with
  | some q => q.2
  | none => []
def st2 : List ma_C := match ma_run0 1000 59 160 (pm_blk 160 0) (ma_en [.ref 138] 1) [] (st1 ++ [.inr (12, ma_df (pm_k 12))]) with
  | some q => q.2
  | none => []
theorem st1_len : st1.length = 138 := by decide +kernel
theorem st2_len : st2.length = 167 := by decide +kernel
