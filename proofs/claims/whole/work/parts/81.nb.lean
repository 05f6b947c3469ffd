/-! ===== rows of references hold nothing beyond their length ===== -/
def nbc (c : ma_C) : Prop := match c with
  | .inl (_, n, .inr (.inr (.inr (.inr f)))) => ∀ j, n ≤ j → f j = none
  | _ => True
def nb (h : List ma_C) : Prop := ∀ c ∈ h, nbc c
theorem nb.set {h : List ma_C} {k : Nat} {c : ma_C} (hn : nb h) (hc : nbc c) : nb (h.set k c) := fun x hx => by
  rcases List.mem_or_eq_of_mem_set hx with z | z
  · exact hn x z
  · rw [z]; exact hc
theorem nb.app {h l : List ma_C} (hn : nb h) (hl : nb l) : nb (h ++ l) := fun x hx => by
  rcases List.mem_append.mp hx with z | z
  · exact hn x z
  · exact hl x z
theorem nb.one {c : ma_C} (hc : nbc c) : nb [c] := fun x hx => by rw [List.mem_singleton.mp hx]; exact hc
theorem nb.got {h : List ma_C} {k : Nat} {c : ma_C} (hn : nb h) (hk : h[k]? = some c) : nbc c := hn c (List.mem_of_getElem? hk)
theorem nbc_new : ∀ (t n : Nat), nbc (.inl (t, n, ma_new t))
  | 0, _ => trivial
  | 1, _ => trivial
  | 2, _ => trivial
  | _ + 3, _ => fun _ _ => rfl
theorem nb_two {h : List ma_C} {n k a : Nat} (hn : nb h) : nb (h ++ .inl (4, n, .inr (.inr (.inr (.inr (fun i => if i < n then some (a + i) else none))))) :: List.replicate n (.inl (0, k, .inl (fun _ => 0)))) := by
  refine hn.app (fun x hx => ?_)
  rcases List.mem_cons.mp hx with z | z
  · rw [z]
    intro j hj
    exact if_neg (by omega)
  · rw [List.eq_of_mem_replicate z]
    trivial
theorem nb_aa {h : List ma_C} {k v n : Nat} {i : Int32} {f : Nat → Option Nat} (hn : nb h) (hk : h[k]? = some (.inl (3, n, .inr (.inr (.inr (.inr f)))))) (hi : ¬ n ≤ i.toNatClampNeg) : nb (h.set k (.inl (3, n, .inr (.inr (.inr (.inr (va_up f i.toNatClampNeg (some v)))))))) := by
  refine hn.set (fun j hj => ?_)
  have := hn.got hk j hj
  show va_up f i.toNatClampNeg (some v) j = none
  rw [up_n _ _ _ _ (by omega)]
  exact this
set_option maxHeartbeats 4000000 in
theorem ma_s_nb {sc : Nat × (Nat → Int32)} {ks : Nat → List Nat} {i : Instr} {o : List Nat} {L L' : ma_L} {S S' : List Value} {h h' : List ma_C} (hn : nb h) (hs : ma_s sc ks i o L S h = some (L', S', h')) : nb h' := by
  unfold ma_s at hs
  split at hs
  all_goals repeat' split at hs
  all_goals first
    | (cases hs; done)
    | (cases hs; exact hn)
    | (cases hs; exact hn.set trivial)
    | (cases hs; exact hn.app (nb.one trivial))
    | (cases hs; exact hn.app (nb.one (nbc_new _ _)))
    | (cases hs; exact nb_two hn)
    | (cases hs; refine nb_aa hn (by assumption) (fun z => ?_); rename_i q; exact q (Or.inr (Or.inl z)))
    | skip
theorem ma_x_nb {tx : Nat → Int32 → Option Int32} {i : Instr} {o : List Nat} {S S' : List Value} {h h' : List ma_C} (hn : nb h) (hs : ma_x tx i o S h = some (S', h')) : nb h' := by
  unfold ma_x at hs
  split at hs
  all_goals repeat' split at hs
  all_goals first
    | (cases hs; done)
    | (cases hs; exact hn)
    | (cases hs; exact hn.set trivial)
theorem ma_run0_nb : ∀ (n d m : Nat) (is : List ma_I) (L : ma_L) (S : List Value) (h : List ma_C) (r : Option Value) (h' : List ma_C), nb h → ma_run0 n d m is L S h = some (r, h') → nb h'
  | 0, _, _, _, _, _, _, _, _, _, hr => by simp [ma_run0] at hr
  | n + 1, d, m, [], L, S, h, r, h', _, hr => by simp [ma_run0] at hr
  | n + 1, d, m, (i, o) :: is, L, S, h, r, h', hn, hr => by
    unfold ma_run0 at hr
    split at hr
    · split at hr
      next hs => exact ma_run0_nb n _ _ _ _ _ _ _ _ (ma_s_nb (sc := (0, fun _ => 0)) hn (ma_s0_ok _ hs)) hr
      next => cases hr
    · split at hr
      next => exact ma_run0_nb n _ _ _ _ _ _ _ _ hn hr
      next => exact ma_run0_nb n _ _ _ _ _ _ _ _ hn hr
      next => cases hr
    · split at hr
      next =>
        split at hr
        next => cases hr
        next =>
          split at hr
          next => cases hr
          next =>
            split at hr
            next h2 => exact ma_run0_nb n _ _ _ _ _ _ _ _ (ma_run0_nb n _ _ _ _ _ _ _ _ hn h2) hr
            next => cases hr
      next => cases hr
    · split at hr
      next => cases hr; exact hn
      next => cases hr
    · split at hr
      next hs =>
        split at hs
        next => cases hs
        next => exact ma_run0_nb n _ _ _ _ _ _ _ _ (ma_x_nb hn hs) hr
      next => cases hr
