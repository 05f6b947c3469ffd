/-! ===== the law's steps: on lists, in the class, in the reference ===== -/
theorem nI_m1 (n : Nat) : nI (n + 1) - nI 1 = nI n := nI_pred n
theorem nI_m2 (n : Nat) : nI (n + 2) - nI 2 = nI n := by rw [pk_sub (by omega)]; rfl
abbrev lA : Type := Nat × Nat
/-- one step on a stack, its top first -/
def lA_s (q : Nat → Int32) (a : lA) (st : List Int32) : List Int32 :=
  match a, st with
  | (0, v), st => nI v :: st
  | (1, v), st => q v :: st
  | (2, v), b :: st => b / nI v :: st
  | (3, _), b :: st => (nI 1 - b) :: st
  | (4, _), b :: a :: st => (a + b) :: st
  | (5, _), b :: a :: st => (a - b) :: st
  | (6, _), b :: a :: st => (a * b) :: st
  | (7, _), b :: a :: st => bI (a < b) :: st
  | (8, _), b :: a :: st => bI (a = b) :: st
  | (9, _), b :: a :: st => bI (b < a) :: st
  | (10, _), b :: a :: st => (a &&& b) :: st
  | (11, _), b :: a :: st => (a ||| b) :: st
  | _, st => st
def lA_r (q : Nat → Int32) : List lA → List Int32 → List Int32
  | [], st => st
  | a :: as, st => lA_r q as (lA_s q a st)
/-- what kinds of values stand on the stack: true for a truth value -/
def lA_t (a : lA) (t : List Bool) : Option (List Bool) :=
  match a, t with
  | (0, v), t => if v < 10000 then some (false :: t) else none
  | (1, v), t => if v < 7 then some (false :: t) else none
  | (2, v), false :: t => if 0 < v ∧ v < 10000 then some (false :: t) else none
  | (3, 0), true :: t => some (true :: t)
  | (4, 0), false :: false :: t => some (false :: t)
  | (5, 0), false :: false :: t => some (false :: t)
  | (6, 0), false :: false :: t => some (false :: t)
  | (7, 0), false :: false :: t => some (true :: t)
  | (8, 0), false :: false :: t => some (true :: t)
  | (9, 0), false :: false :: t => some (true :: t)
  | (10, 0), true :: true :: t => some (true :: t)
  | (11, 0), true :: true :: t => some (true :: t)
  | _, _ => none
def lA_T : List lA → List Bool → Option (List Bool)
  | [], t => some t
  | a :: as, t => match lA_t a t with
    | some t' => if t'.length ≤ 32 then lA_T as t' else none
    | none => none
def lA_c : List Bool → List Int32 → Prop
  | [], [] => True
  | b :: t, v :: st => (b = true → v = nI 0 ∨ v = nI 1) ∧ lA_c t st
  | _, _ => False
theorem lA_c_len : ∀ {t : List Bool} {st : List Int32}, lA_c t st → t.length = st.length
  | [], [], _ => rfl
  | b :: t, v :: st, h => by simp [lA_c_len h.2]
  | [], _ :: _, h => h.elim
  | _ :: _, [], h => h.elim
theorem lA_safe {q : Nat → Int32} {a : lA} {t t' : List Bool} {st : List Int32} (ht : lA_t a t = some t') (hc : lA_c t st) : lA_c t' (lA_s q a st) := by
  have hb : ∀ p : Prop, ∀ [Decidable p], bI p = nI 0 ∨ bI p = nI 1 := fun p _ => by unfold bI; split; exact Or.inr rfl; exact Or.inl rfl
  unfold lA_t at ht
  split at ht
  · split at ht
    · cases ht; exact ⟨fun z => Bool.noConfusion z, hc⟩
    · cases ht
  · split at ht
    · cases ht; exact ⟨fun z => Bool.noConfusion z, hc⟩
    · cases ht
  · split at ht
    · cases ht
      match st, hc with
      | b :: st, hc => exact ⟨fun z => Bool.noConfusion z, hc.2⟩
    · cases ht
  · cases ht
    match st, hc with
    | b :: st, hc =>
      refine ⟨fun _ => ?_, hc.2⟩
      rcases hc.1 rfl with rfl | rfl
      · exact Or.inr (by decide +kernel)
      · exact Or.inl (by decide +kernel)
  all_goals first
    | (cases ht; done)
    | (cases ht
       match st, hc with
       | b :: a :: st, hc => exact ⟨fun z => Bool.noConfusion z, hc.2.2⟩)
    | (cases ht
       match st, hc with
       | b :: a :: st, hc => exact ⟨fun _ => hb _, hc.2.2⟩)
    | (cases ht
       match st, hc with
       | b :: a :: st, hc =>
         refine ⟨fun _ => ?_, hc.2.2⟩
         rcases hc.1 rfl with rfl | rfl <;> rcases hc.2.1 rfl with rfl | rfl <;> first | exact Or.inl (by decide +kernel) | exact Or.inr (by decide +kernel))
/-- an array holds a stack -/
def lA_k (f : Nat → Int32) : List Int32 → Prop
  | [] => True
  | v :: st => f st.length = v ∧ lA_k f st
theorem lA_k_upd {f : Nat → Int32} {k : Nat} {x : Int32} : ∀ {st : List Int32}, st.length ≤ k → lA_k f st → lA_k (upd f k x) st
  | [], _, _ => trivial
  | v :: st, hk, h => ⟨by simp at hk; rw [pk_un (by omega)]; exact h.1, lA_k_upd (by simp at hk; omega) h.2⟩
theorem lA_k_push {f : Nat → Int32} {x : Int32} {st : List Int32} (h : lA_k f st) : lA_k (upd f st.length x) (x :: st) := ⟨pk_us, lA_k_upd (Nat.le_refl _) h⟩
/-- the value at hand, and what waits below it (a 0 lies at the bottom) -/
def lA_b (st : List Int32) : List Int32 := (st ++ [nI 0]).tail
theorem lA_b_len (st : List Int32) : (lA_b st).length = st.length := by simp [lA_b]
theorem lA_b_cons : ∀ (x : Int32) (st : List Int32), lA_b (x :: st) = st.headD (nI 0) :: lA_b st
  | _, [] => rfl
  | _, _ :: _ => rfl
theorem lA_b_push {f : Nat → Int32} {st : List Int32} (x : Int32) (h : lA_k f (lA_b st)) : lA_k (upd f st.length (st.headD (nI 0))) (lA_b (x :: st)) := by
  rw [lA_b_cons, ← lA_b_len st]
  exact lA_k_push h
theorem lA_b_pop {f : Nat → Int32} {x y : Int32} {st : List Int32} (h : lA_k f (lA_b (x :: y :: st))) : f (st.length + 1) = y ∧ ∀ z, lA_k f (lA_b (z :: st)) := by
  refine ⟨?_, fun z => h.2⟩
  have := h.1
  simpa using this
theorem nI_dec (n : Nat) : nI (n + 1) + (-1) = nI n := by
  rw [← nI_m1 n]
  exact (Int32.sub_eq_add_neg _ _).symm
/-- what the class leaves in its row of those that wait -/
def lA_u (a : lA) (st : List Int32) (f : Nat → Int32) : Nat → Int32 := match a with
  | (0, _) => upd f st.length (st.headD (nI 0))
  | (1, _) => upd f st.length (st.headD (nI 0))
  | _ => f
def lA_w (q : Nat → Int32) : List lA → List Int32 → (Nat → Int32) → (Nat → Int32)
  | [], _, f => f
  | a :: as, st, f => lA_w q as (lA_s q a st) (lA_u a st f)
section LW
variable {sc : Nat × (Nat → Int32)} {c m : Nat → Nat → Int32} {w : Nat → Int64}
theorem nI_r16 {v k : Nat} (hk : k < 16) (hv : v < 10000) : iRem (nI (16 * v + k)) (nI 16) = nI k := by
  rw [iRem_nI (by omega) (by omega) (by omega)]
  congr 1
  omega
theorem nI_d16 {v k : Nat} (hk : k < 16) (hv : v < 10000) : nI (16 * v + k) / nI 16 = nI v := by
  rw [pk_div (by omega) (by omega) (by omega)]
  congr 1
  omega
set_option maxHeartbeats 4000000 in
theorem t_work_loop (d : Nat) (fr : Int32) : ∀ (as : List lA) (st : List Int32) (t t' : List Bool) (f : Nat → Int32) (i : Nat) (x7 x8 x9 : Option Value), lA_T as t = some t' → lA_c t st → st.length ≤ 32 → lA_k f (lA_b st) → (∀ j a, as[j]? = some a → c 12 (i + j) = nI (16 * a.2 + a.1)) → i + as.length ≤ 400 →
    ev sc d 47 (pm_blk 47 20) [some (.ref 93), some (.int fr), some (.int (nI (i + as.length))), some (.ref 12), some (.int (nI st.length)), some (.int (st.headD (nI 0))), some (.int (nI i)), x7, x8, x9] [] (hp (va_up c 95 f) w m) = some (some (.int ((lA_r (c 94) as st).headD (nI 0))), hp (va_up c 95 (lA_w (c 94) as st f)) w m)
  | [], st, t, t', f, i, x7, x8, x9, hT, hc, hl, hk, hs, hi => by
    rw [bh_Asker_work_20]
    simp (disch := first | assumption | omega | decide | (simp only [ma_wd0, ma_wdi, ma_wdr, ma_wdl, ma_wdn] <;> omega)) only [↓reduceIte, evK, evL, evS, evA, evJ, Option.bind_some, Option.toList, List.cons_append, List.nil_append, nI_add, pk_mul, bI0, ite_not, ev_rbb, bk_Asker_work, List.length_nil, Nat.add_zero, nI_ltT, nI_ltF, nI_leT, nI_leF, nI_eqT, nI_eqF, lA_r, lA_w]
  | a :: as, st, t, t', f, i, x7, x8, x9, hT, hc, hl, hk, hs, hi => by
    unfold lA_T at hT
    split at hT
    next t1 ht =>
      split at hT
      next hlen =>
        have hc1 := lA_safe (q := c 94) ht hc
        have ih := fun f1 hk1 y7 y8 y9 => t_work_loop d fr as (lA_s (c 94) a st) t1 t' f1 (i + 1) y7 y8 y9 hT hc1 (by rw [← lA_c_len hc1]; exact hlen) hk1 (fun j b hb => by have := hs (j + 1) b (by simpa using hb); rw [← this]; congr 1; omega) (by simp at hi; omega)
        have e0 := hs 0 a rfl
        have hi' : i + (as.length + 1) ≤ 400 := hi
        rw [Nat.add_zero] at e0
        rw [show i + 1 + as.length = i + (as.length + 1) by omega] at ih
        rw [bh_Asker_work_20, lA_r, lA_w]
        have hq : (lA_s (c 94) a st).length ≤ 32 := by rw [← lA_c_len hc1]; exact hlen
        unfold lA_t at ht
        split at ht
        · split at ht
          next hv =>
            cases ht
            dsimp only at e0
            have hl' : st.length + 1 ≤ 32 := hq
            simp (disch := first | assumption | omega | decide | (simp only [ma_wd0, ma_wdi, ma_wdr, ma_wdl, ma_wdn] <;> omega)) only [↓reduceIte, evK, evL, evS, evA, evJ, Option.bind_some, Option.toList, List.cons_append, List.nil_append, nI_add, pk_mul, bI0, ite_not, ev_rbb, bk_Asker_work, List.length_cons, List.length_nil, nI_ltT, nI_ltF, nI_leT, nI_leF, nI_eqT, nI_eqF, alC, ldC, gfC, stC, up_s, up_n, up_u, e0, nI_r16, nI_d16, nI_m1, nI_m2, nI_dec, pk_m1, ev_sw, swc_s, swc_0, Nat.add_assoc, Nat.reduceAdd, List.headD_cons]
            exact ih _ (lA_b_push _ hk) _ _ _
          next => cases ht
        · split at ht
          next hv =>
            cases ht
            dsimp only at e0
            have hl' : st.length + 1 ≤ 32 := hq
            simp (disch := first | assumption | omega | decide | (simp only [ma_wd0, ma_wdi, ma_wdr, ma_wdl, ma_wdn] <;> omega)) only [↓reduceIte, evK, evL, evS, evA, evJ, Option.bind_some, Option.toList, List.cons_append, List.nil_append, nI_add, pk_mul, bI0, ite_not, ev_rbb, bk_Asker_work, List.length_cons, List.length_nil, nI_ltT, nI_ltF, nI_leT, nI_leF, nI_eqT, nI_eqF, alC, ldC, gfC, stC, up_s, up_n, up_u, e0, nI_r16, nI_d16, nI_m1, nI_m2, nI_dec, pk_m1, ev_sw, swc_s, swc_0, Nat.add_assoc, Nat.reduceAdd, List.headD_cons]
            exact ih _ (lA_b_push _ hk) _ _ _
          next => cases ht
        · split at ht
          next hv =>
            cases ht
            dsimp only at e0
            rcases st with _ | ⟨y1, st⟩
            · exact hc.elim
            · have hl' : st.length + 1 ≤ 32 := hl
              simp (disch := first | assumption | omega | decide | (simp only [ma_wd0, ma_wdi, ma_wdr, ma_wdl, ma_wdn] <;> omega)) only [↓reduceIte, evK, evL, evS, evA, evJ, Option.bind_some, Option.toList, List.cons_append, List.nil_append, nI_add, pk_mul, bI0, ite_not, ev_rbb, bk_Asker_work, List.length_cons, List.length_nil, nI_ltT, nI_ltF, nI_leT, nI_leF, nI_eqT, nI_eqF, alC, ldC, gfC, stC, up_s, up_n, up_u, e0, nI_r16, nI_d16, nI_m1, nI_m2, nI_dec, pk_m1, ev_sw, swc_s, swc_0, Nat.add_assoc, Nat.reduceAdd, List.headD_cons]
              exact ih _ hk _ _ _
          next => cases ht
        · cases ht
          have e0 : c 12 i = nI (16 * 0 + 3) := e0
          rcases st with _ | ⟨y1, st⟩
          · exact hc.elim
          · have hl' : st.length + 1 ≤ 32 := hl
            simp (disch := first | assumption | omega | decide | (simp only [ma_wd0, ma_wdi, ma_wdr, ma_wdl, ma_wdn] <;> omega)) only [↓reduceIte, evK, evL, evS, evA, evJ, Option.bind_some, Option.toList, List.cons_append, List.nil_append, nI_add, pk_mul, bI0, ite_not, ev_rbb, bk_Asker_work, List.length_cons, List.length_nil, nI_ltT, nI_ltF, nI_leT, nI_leF, nI_eqT, nI_eqF, alC, ldC, gfC, stC, up_s, up_n, up_u, e0, nI_r16, nI_d16, nI_m1, nI_m2, nI_dec, pk_m1, ev_sw, swc_s, swc_0, Nat.add_assoc, Nat.reduceAdd, List.headD_cons]
            exact ih _ hk _ _ _
        · dsimp only at e0
          cases ht
          rcases st with _ | ⟨y1, _ | ⟨y2, st⟩⟩
          · exact hc.elim
          · exact hc.2.elim
          · have hl' : st.length + 2 ≤ 32 := hl
            obtain ⟨hk1, hk2⟩ := lA_b_pop hk
            have e0' : c 12 i = nI (16 * 0 + 4) := e0
            simp (disch := first | assumption | omega | decide | (simp only [ma_wd0, ma_wdi, ma_wdr, ma_wdl, ma_wdn] <;> omega)) only [↓reduceIte, evK, evL, evS, evA, evJ, Option.bind_some, Option.toList, List.cons_append, List.nil_append, nI_add, pk_mul, bI0, ite_not, ev_rbb, bk_Asker_work, List.length_cons, List.length_nil, nI_ltT, nI_ltF, nI_leT, nI_leF, nI_eqT, nI_eqF, alC, ldC, gfC, stC, up_s, up_n, up_u, e0', nI_r16, nI_d16, nI_m1, nI_m2, nI_dec, pk_m1, ev_sw, swc_s, swc_0, Nat.add_assoc, Nat.reduceAdd, List.headD_cons, hk1]
            exact ih _ (hk2 _) _ _ _
        · dsimp only at e0
          cases ht
          rcases st with _ | ⟨y1, _ | ⟨y2, st⟩⟩
          · exact hc.elim
          · exact hc.2.elim
          · have hl' : st.length + 2 ≤ 32 := hl
            obtain ⟨hk1, hk2⟩ := lA_b_pop hk
            have e0' : c 12 i = nI (16 * 0 + 5) := e0
            simp (disch := first | assumption | omega | decide | (simp only [ma_wd0, ma_wdi, ma_wdr, ma_wdl, ma_wdn] <;> omega)) only [↓reduceIte, evK, evL, evS, evA, evJ, Option.bind_some, Option.toList, List.cons_append, List.nil_append, nI_add, pk_mul, bI0, ite_not, ev_rbb, bk_Asker_work, List.length_cons, List.length_nil, nI_ltT, nI_ltF, nI_leT, nI_leF, nI_eqT, nI_eqF, alC, ldC, gfC, stC, up_s, up_n, up_u, e0', nI_r16, nI_d16, nI_m1, nI_m2, nI_dec, pk_m1, ev_sw, swc_s, swc_0, Nat.add_assoc, Nat.reduceAdd, List.headD_cons, hk1]
            exact ih _ (hk2 _) _ _ _
        · dsimp only at e0
          cases ht
          rcases st with _ | ⟨y1, _ | ⟨y2, st⟩⟩
          · exact hc.elim
          · exact hc.2.elim
          · have hl' : st.length + 2 ≤ 32 := hl
            obtain ⟨hk1, hk2⟩ := lA_b_pop hk
            have e0' : c 12 i = nI (16 * 0 + 6) := e0
            simp (disch := first | assumption | omega | decide | (simp only [ma_wd0, ma_wdi, ma_wdr, ma_wdl, ma_wdn] <;> omega)) only [↓reduceIte, evK, evL, evS, evA, evJ, Option.bind_some, Option.toList, List.cons_append, List.nil_append, nI_add, pk_mul, bI0, ite_not, ev_rbb, bk_Asker_work, List.length_cons, List.length_nil, nI_ltT, nI_ltF, nI_leT, nI_leF, nI_eqT, nI_eqF, alC, ldC, gfC, stC, up_s, up_n, up_u, e0', nI_r16, nI_d16, nI_m1, nI_m2, nI_dec, pk_m1, ev_sw, swc_s, swc_0, Nat.add_assoc, Nat.reduceAdd, List.headD_cons, hk1]
            exact ih _ (hk2 _) _ _ _
        · dsimp only at e0
          cases ht
          rcases st with _ | ⟨y1, _ | ⟨y2, st⟩⟩
          · exact hc.elim
          · exact hc.2.elim
          · have hl' : st.length + 2 ≤ 32 := hl
            obtain ⟨hk1, hk2⟩ := lA_b_pop hk
            have e0' : c 12 i = nI (16 * 0 + 7) := e0
            simp (disch := first | assumption | omega | decide | (simp only [ma_wd0, ma_wdi, ma_wdr, ma_wdl, ma_wdn] <;> omega)) only [↓reduceIte, evK, evL, evS, evA, evJ, Option.bind_some, Option.toList, List.cons_append, List.nil_append, nI_add, pk_mul, bI0, ite_not, ev_rbb, bk_Asker_work, List.length_cons, List.length_nil, nI_ltT, nI_ltF, nI_leT, nI_leF, nI_eqT, nI_eqF, alC, ldC, gfC, stC, up_s, up_n, up_u, e0', nI_r16, nI_d16, nI_m1, nI_m2, nI_dec, pk_m1, ev_sw, swc_s, swc_0, Nat.add_assoc, Nat.reduceAdd, List.headD_cons, hk1]
            by_cases z : y2 < y1
            · rw [if_pos z]
              have zz := ih f (hk2 _)
              simp only [lA_s, lA_u, bI_t z, List.headD_cons, List.length_cons] at zz ⊢
              exact zz _ _ _
            · rw [if_neg z]
              have zz := ih f (hk2 _)
              simp only [lA_s, lA_u, bI_f z, List.headD_cons, List.length_cons] at zz ⊢
              exact zz _ _ _
        · dsimp only at e0
          cases ht
          rcases st with _ | ⟨y1, _ | ⟨y2, st⟩⟩
          · exact hc.elim
          · exact hc.2.elim
          · have hl' : st.length + 2 ≤ 32 := hl
            obtain ⟨hk1, hk2⟩ := lA_b_pop hk
            have e0' : c 12 i = nI (16 * 0 + 8) := e0
            simp (disch := first | assumption | omega | decide | (simp only [ma_wd0, ma_wdi, ma_wdr, ma_wdl, ma_wdn] <;> omega)) only [↓reduceIte, evK, evL, evS, evA, evJ, Option.bind_some, Option.toList, List.cons_append, List.nil_append, nI_add, pk_mul, bI0, ite_not, ev_rbb, bk_Asker_work, List.length_cons, List.length_nil, nI_ltT, nI_ltF, nI_leT, nI_leF, nI_eqT, nI_eqF, alC, ldC, gfC, stC, up_s, up_n, up_u, e0', nI_r16, nI_d16, nI_m1, nI_m2, nI_dec, pk_m1, ev_sw, swc_s, swc_0, Nat.add_assoc, Nat.reduceAdd, List.headD_cons, hk1]
            by_cases z : y2 = y1
            · rw [if_pos z]
              have zz := ih f (hk2 _)
              simp only [lA_s, lA_u, bI_t z, List.headD_cons, List.length_cons] at zz ⊢
              exact zz _ _ _
            · rw [if_neg z]
              have zz := ih f (hk2 _)
              simp only [lA_s, lA_u, bI_f z, List.headD_cons, List.length_cons] at zz ⊢
              exact zz _ _ _
        · dsimp only at e0
          cases ht
          rcases st with _ | ⟨y1, _ | ⟨y2, st⟩⟩
          · exact hc.elim
          · exact hc.2.elim
          · have hl' : st.length + 2 ≤ 32 := hl
            obtain ⟨hk1, hk2⟩ := lA_b_pop hk
            have e0' : c 12 i = nI (16 * 0 + 9) := e0
            simp (disch := first | assumption | omega | decide | (simp only [ma_wd0, ma_wdi, ma_wdr, ma_wdl, ma_wdn] <;> omega)) only [↓reduceIte, evK, evL, evS, evA, evJ, Option.bind_some, Option.toList, List.cons_append, List.nil_append, nI_add, pk_mul, bI0, ite_not, ev_rbb, bk_Asker_work, List.length_cons, List.length_nil, nI_ltT, nI_ltF, nI_leT, nI_leF, nI_eqT, nI_eqF, alC, ldC, gfC, stC, up_s, up_n, up_u, e0', nI_r16, nI_d16, nI_m1, nI_m2, nI_dec, pk_m1, ev_sw, swc_s, swc_0, Nat.add_assoc, Nat.reduceAdd, List.headD_cons, hk1]
            by_cases z : y2 ≤ y1
            · rw [if_pos z]
              have zz := ih f (hk2 _)
              simp only [lA_s, lA_u, bI_f (Int32.not_lt.mpr z), List.headD_cons, List.length_cons] at zz ⊢
              exact zz _ _ _
            · rw [if_neg z]
              have zz := ih f (hk2 _)
              simp only [lA_s, lA_u, bI_t (Int32.not_le.mp z), List.headD_cons, List.length_cons] at zz ⊢
              exact zz _ _ _
        · dsimp only at e0
          cases ht
          rcases st with _ | ⟨y1, _ | ⟨y2, st⟩⟩
          · exact hc.elim
          · exact hc.2.elim
          · have hl' : st.length + 2 ≤ 32 := hl
            obtain ⟨hk1, hk2⟩ := lA_b_pop hk
            have e0' : c 12 i = nI (16 * 0 + 10) := e0
            simp (disch := first | assumption | omega | decide | (simp only [ma_wd0, ma_wdi, ma_wdr, ma_wdl, ma_wdn] <;> omega)) only [↓reduceIte, evK, evL, evS, evA, evJ, Option.bind_some, Option.toList, List.cons_append, List.nil_append, nI_add, pk_mul, bI0, ite_not, ev_rbb, bk_Asker_work, List.length_cons, List.length_nil, nI_ltT, nI_ltF, nI_leT, nI_leF, nI_eqT, nI_eqF, alC, ldC, gfC, stC, up_s, up_n, up_u, e0', nI_r16, nI_d16, nI_m1, nI_m2, nI_dec, pk_m1, ev_sw, swc_s, swc_0, Nat.add_assoc, Nat.reduceAdd, List.headD_cons, hk1]
            exact ih _ (hk2 _) _ _ _
        · dsimp only at e0
          cases ht
          rcases st with _ | ⟨y1, _ | ⟨y2, st⟩⟩
          · exact hc.elim
          · exact hc.2.elim
          · have hl' : st.length + 2 ≤ 32 := hl
            obtain ⟨hk1, hk2⟩ := lA_b_pop hk
            have e0' : c 12 i = nI (16 * 0 + 11) := e0
            simp (disch := first | assumption | omega | decide | (simp only [ma_wd0, ma_wdi, ma_wdr, ma_wdl, ma_wdn] <;> omega)) only [↓reduceIte, evK, evL, evS, evA, evJ, Option.bind_some, Option.toList, List.cons_append, List.nil_append, nI_add, pk_mul, bI0, ite_not, ev_rbb, bk_Asker_work, List.length_cons, List.length_nil, nI_ltT, nI_ltF, nI_leT, nI_leF, nI_eqT, nI_eqF, alC, ldC, gfC, stC, up_s, up_n, up_u, e0', nI_r16, nI_d16, nI_m1, nI_m2, nI_dec, pk_m1, ev_sw, swc_s, swc_0, Nat.add_assoc, Nat.reduceAdd, List.headD_cons, hk1]
            exact ih _ (hk2 _) _ _ _
        · cases ht
      next => cases hT
    next => cases hT
theorem up_self {α : Type} (f : Nat → α) (k : Nat) : va_up f k (f k) = f := by
  funext j
  unfold va_up
  split
  next h => rw [h]
  next => rfl
/-- where steps stand in the class's array -/
def lA_at (f : Nat → Int32) (i : Nat) (as : List lA) : Prop := ∀ j a, as[j]? = some a → f (i + j) = nI (16 * a.2 + a.1)
theorem t_Asker_work (d i : Nat) (as : List lA) (t' : List Bool) (hT : lA_T as [] = some t') (hs : lA_at (c 12) i as) (hi : i + as.length ≤ 400) : cc sc d 47 [.ref 93, .int (nI i), .int (nI (i + as.length))] (hp c w m) = some (some (.int ((lA_r (c 94) as []).headD (nI 0))), hp (va_up c 95 (lA_w (c 94) as [] (c 95))) w m) := by
  simp (disch := first | assumption | omega | decide | (simp only [ma_wd0, ma_wdi, ma_wdr, ma_wdl, ma_wdn] <;> omega)) only [↓reduceIte, evK, evL, evS, evA, evJ, Option.bind_some, Option.toList, List.cons_append, List.nil_append, nI_add, pk_mul, bI0, ite_not, ev_rbb, en_Asker_work, gfC]
  have := t_work_loop (sc := sc) (c := c) (m := m) (w := w) d (nI i) as [] [] t' (c 95) i none none none hT trivial (Nat.zero_le _) trivial hs hi
  rw [up_self] at this
  exact this
end LW
/-! the same in the reference -/
def lB_x (a : lA) : List (Nat × Nat) := match a with
  | (0, v) => [(0, v)]
  | (1, v) => [(1, v)]
  | (2, v) => [(0, v), (5, 0)]
  | (3, _) => [(9, 0)]
  | (4, _) => [(2, 0)]
  | (5, _) => [(3, 0)]
  | (6, _) => [(4, 0)]
  | (7, _) => [(6, 0)]
  | (8, _) => [(7, 0)]
  | (9, _) => [(8, 0)]
  | (10, _) => [(10, 0)]
  | (11, _) => [(11, 0)]
  | _ => []
def lB_v (q : Nat → Int32) : List lA → List Int32 → (Nat → Int32) → (Nat → Int32)
  | [], _, f => f
  | a :: as, st, f => lB_v q as (lA_s q a st) (upd (if a.1 = 2 then upd f st.length (nI a.2) else f) ((lA_s q a st).length - 1) ((lA_s q a st).headD (nI 0)))
theorem b_and01 {a b : Int32} (ha : a = nI 0 ∨ a = nI 1) (hb : b = nI 0 ∨ b = nI 1) : a * b = a &&& b := by
  rcases ha with rfl | rfl <;> rcases hb with rfl | rfl <;> decide +kernel
theorem b_or01 {a b : Int32} (ha : a = nI 0 ∨ a = nI 1) (hb : b = nI 0 ∨ b = nI 1) : (if a + b ≤ nI 0 then nI 0 else nI 1) = a ||| b := by
  rcases ha with rfl | rfl <;> rcases hb with rfl | rfl <;> decide +kernel
section LB
variable {sc : Nat × (Nat → Int32)} {c m : Nat → Nat → Int32} {w : Nat → Int64} {h : List ma_C}
theorem t_MO_twoOf (d : Nat) (x y : Int32) : (cc sc d 220 [.ref 138, .int (nI 2), .int x, .int y] h = some (some (.int (x + y)), h)) ∧ (cc sc d 220 [.ref 138, .int (nI 3), .int x, .int y] h = some (some (.int (x - y)), h)) ∧ (cc sc d 220 [.ref 138, .int (nI 4), .int x, .int y] h = some (some (.int (x * y)), h)) ∧
    (y ≠ nI 0 → cc sc d 220 [.ref 138, .int (nI 5), .int x, .int y] h = some (some (.int (x / y)), h)) ∧ (cc sc d 220 [.ref 138, .int (nI 6), .int x, .int y] h = some (some (.int (bI (x < y))), h)) ∧ (cc sc d 220 [.ref 138, .int (nI 7), .int x, .int y] h = some (some (.int (bI (x = y))), h)) ∧ (cc sc d 220 [.ref 138, .int (nI 8), .int x, .int y] h = some (some (.int (bI (y < x))), h)) ∧
    (cc sc d 220 [.ref 138, .int (nI 10), .int x, .int y] h = some (some (.int (x * y)), h)) ∧ (cc sc d 220 [.ref 138, .int (nI 11), .int x, .int y] h = some (some (.int (if x + y ≤ nI 0 then nI 0 else nI 1)), h)) := by
  refine ⟨?_, ?_, ?_, fun hy => ?_, ?_, ?_, ?_, ?_, ?_⟩
  · simp (disch := first | assumption | omega | decide | (simp only [ma_wd0, ma_wdi, ma_wdr, ma_wdl, ma_wdn] <;> omega)) only [↓reduceIte, evK, evL, evS, evA, evJ, Option.bind_some, Option.toList, List.cons_append, List.nil_append, nI_add, pk_mul, bI0, ite_not, ev_rbb, en_MO_twoOf, bk_MO_twoOf, nI_ltT, nI_ltF, nI_leT, nI_leF, nI_eqT, nI_eqF]
  · simp (disch := first | assumption | omega | decide | (simp only [ma_wd0, ma_wdi, ma_wdr, ma_wdl, ma_wdn] <;> omega)) only [↓reduceIte, evK, evL, evS, evA, evJ, Option.bind_some, Option.toList, List.cons_append, List.nil_append, nI_add, pk_mul, bI0, ite_not, ev_rbb, en_MO_twoOf, bk_MO_twoOf, nI_ltT, nI_ltF, nI_leT, nI_leF, nI_eqT, nI_eqF]
  · simp (disch := first | assumption | omega | decide | (simp only [ma_wd0, ma_wdi, ma_wdr, ma_wdl, ma_wdn] <;> omega)) only [↓reduceIte, evK, evL, evS, evA, evJ, Option.bind_some, Option.toList, List.cons_append, List.nil_append, nI_add, pk_mul, bI0, ite_not, ev_rbb, en_MO_twoOf, bk_MO_twoOf, nI_ltT, nI_ltF, nI_leT, nI_leF, nI_eqT, nI_eqF]
  · simp (disch := first | assumption | omega | decide | (simp only [ma_wd0, ma_wdi, ma_wdr, ma_wdl, ma_wdn] <;> omega)) only [↓reduceIte, evK, evL, evS, evA, evJ, Option.bind_some, Option.toList, List.cons_append, List.nil_append, nI_add, pk_mul, bI0, ite_not, ev_rbb, en_MO_twoOf, bk_MO_twoOf, nI_ltT, nI_ltF, nI_leT, nI_leF, nI_eqT, nI_eqF, hy]
  all_goals simp (disch := first | assumption | omega | decide | (simp only [ma_wd0, ma_wdi, ma_wdr, ma_wdl, ma_wdn] <;> omega)) only [↓reduceIte, evK, evL, evS, evA, evJ, Option.bind_some, Option.toList, List.cons_append, List.nil_append, nI_add, pk_mul, bI0, ite_not, ev_rbb, en_MO_twoOf, bk_MO_twoOf, nI_ltT, nI_ltF, nI_leT, nI_leF, nI_eqT, nI_eqF]
  all_goals try unfold bI
  all_goals repeat' split
  all_goals first | rfl | (exfalso; simp only [Int32.lt_iff_toInt_lt, Int32.le_iff_toInt_le] at *; omega) | (simp_all; done)
/-- where steps stand in the reference's arrays -/
def lB_at (f g : Nat → Int32) (i : Nat) (as : List lA) : Prop := ∀ j a, (as.flatMap lB_x)[j]? = some a → f (i + j) = nI a.1 ∧ g (i + j) = nI a.2
theorem lB_at.tail {f g : Nat → Int32} {i : Nat} {a : lA} {as : List lA} (h : lB_at f g i (a :: as)) : lB_at f g (i + (lB_x a).length) as := fun j b hb => by
  have := h ((lB_x a).length + j) b (by rw [List.flatMap_cons, List.getElem?_append_right (by omega)]; rw [← hb]; congr 1; omega)
  rw [Nat.add_assoc]
  exact this
theorem lB_at.head {f g : Nat → Int32} {i : Nat} {a : lA} {as : List lA} (h : lB_at f g i (a :: as)) (j : Nat) (b : Nat × Nat) (hb : (lB_x a)[j]? = some b) : f (i + j) = nI b.1 ∧ g (i + j) = nI b.2 :=
  h j b (by rw [List.flatMap_cons, List.getElem?_append_left (List.getElem?_eq_some_iff.mp hb).1]; exact hb)
set_option maxHeartbeats 8000000 in
theorem t_runs_loop (d : Nat) (fi : Int32) : ∀ (as : List lA) (st : List Int32) (t t' : List Bool) (f : Nat → Int32) (i : Nat), lA_T as t = some t' → lA_c t st → st.length ≤ 32 → lA_k f st → lB_at (m 153) (m 154) i as → i + (as.flatMap lB_x).length ≤ 400 →
    ev sc (d + 1) 219 (pm_blk 219 12) [some (.ref 138), some (.int (nI 0)), some (.int fi), some (.int (nI (i + (as.flatMap lB_x).length))), some (.int (nI st.length)), some (.int (nI i))] [] (hp c w (va_up m 159 f)) = some (some (.int (lB_v (m 158) as st f 0)), hp c w (va_up m 159 (lB_v (m 158) as st f)))
  | [], st, t, t', f, i, hT, hc, hl, hk, hs, hi => by
    rw [bh_MO_runs_12]
    have hi' : i ≤ 400 := by simpa using hi
    simp (disch := first | assumption | omega | decide | (simp only [ma_wd0, ma_wdi, ma_wdr, ma_wdl, ma_wdn] <;> omega)) only [↓reduceIte, evK, evL, evS, evA, evJ, Option.bind_some, Option.toList, List.cons_append, List.nil_append, nI_add, pk_mul, bI0, ite_not, ev_rbb, bk_MO_runs, List.length_cons, List.length_nil, nI_ltT, nI_ltF, nI_leT, nI_leF, nI_eqT, nI_eqF, ldM, gfM, stM, up_s, up_n, up_u, nI_m1, nI_m2, pk_m1, ce_MO_twoOf, Nat.add_assoc, Nat.reduceAdd, Nat.mul_zero, Nat.zero_add, pk_us, List.flatMap_nil, Nat.add_zero, lB_v]
  | a :: as, st, t, t', f, i, hT, hc, hl, hk, hs, hi => by
    unfold lA_T at hT
    split at hT
    next t1 ht =>
      split at hT
      next hlen =>
        have hc1 := lA_safe (q := m 158) ht hc
        have hi2 : i + ((lB_x a).length + (as.flatMap lB_x).length) ≤ 400 := by rw [List.flatMap_cons, List.length_append] at hi; exact hi
        have ih := fun f1 hk1 => t_runs_loop d fi as (lA_s (m 158) a st) t1 t' f1 (i + (lB_x a).length) hT hc1 (by rw [← lA_c_len hc1]; exact hlen) hk1 hs.tail (by omega)
        rw [show i + (lB_x a).length + (as.flatMap lB_x).length = i + ((lB_x a).length + (as.flatMap lB_x).length) by omega] at ih
        have hq : (lA_s (m 158) a st).length ≤ 32 := by rw [← lA_c_len hc1]; exact hlen
        rw [bh_MO_runs_12, lB_v, List.flatMap_cons, List.length_append]
        unfold lA_t at ht
        split at ht
        · split at ht
          next hv =>
            cases ht
            obtain ⟨h1, h2⟩ := hs.head 0 _ rfl
            rw [Nat.add_zero] at h1 h2
            dsimp only at h1 h2
            have hq' : st.length + 1 ≤ 32 := hq
            have hi3 : i + (1 + (as.flatMap lB_x).length) ≤ 400 := hi2
            show ev _ _ _ _ [_, _, _, some (.int (nI (i + (1 + (as.flatMap lB_x).length)))), _, _] _ _ = _
            simp (disch := first | assumption | omega | decide | (simp only [ma_wd0, ma_wdi, ma_wdr, ma_wdl, ma_wdn] <;> omega)) only [↓reduceIte, evK, evL, evS, evA, evJ, Option.bind_some, Option.toList, List.cons_append, List.nil_append, nI_add, pk_mul, bI0, ite_not, ev_rbb, bk_MO_runs, List.length_cons, List.length_nil, nI_ltT, nI_ltF, nI_leT, nI_leF, nI_eqT, nI_eqF, ldM, gfM, stM, up_s, up_n, up_u, h1, h2, nI_m1, nI_m2, pk_m1, ce_MO_twoOf, Nat.add_assoc, Nat.reduceAdd, Nat.mul_zero, Nat.zero_add, pk_us]
            exact ih _ (lA_k_push hk)
          next => cases ht
        · split at ht
          next hv =>
            cases ht
            obtain ⟨h1, h2⟩ := hs.head 0 _ rfl
            rw [Nat.add_zero] at h1 h2
            dsimp only at h1 h2
            have hq' : st.length + 1 ≤ 32 := hq
            have hi3 : i + (1 + (as.flatMap lB_x).length) ≤ 400 := hi2
            show ev _ _ _ _ [_, _, _, some (.int (nI (i + (1 + (as.flatMap lB_x).length)))), _, _] _ _ = _
            simp (disch := first | assumption | omega | decide | (simp only [ma_wd0, ma_wdi, ma_wdr, ma_wdl, ma_wdn] <;> omega)) only [↓reduceIte, evK, evL, evS, evA, evJ, Option.bind_some, Option.toList, List.cons_append, List.nil_append, nI_add, pk_mul, bI0, ite_not, ev_rbb, bk_MO_runs, List.length_cons, List.length_nil, nI_ltT, nI_ltF, nI_leT, nI_leF, nI_eqT, nI_eqF, ldM, gfM, stM, up_s, up_n, up_u, h1, h2, nI_m1, nI_m2, pk_m1, ce_MO_twoOf, Nat.add_assoc, Nat.reduceAdd, Nat.mul_zero, Nat.zero_add, pk_us]
            exact ih _ (lA_k_push hk)
          next => cases ht
        · split at ht
          next hv =>
            cases ht
            obtain ⟨h1, h2⟩ := hs.head 0 _ rfl
            obtain ⟨h3, h4⟩ := hs.head 1 _ rfl
            rw [Nat.add_zero] at h1 h2
            dsimp only at h1 h2 h3 h4
            rcases st with _ | ⟨y1, st⟩
            · exact hc.elim
            · have hl' : st.length + 1 ≤ 32 := hl
              have hk1 : f st.length = y1 := hk.1
              have hi3 : i + (2 + (as.flatMap lB_x).length) ≤ 400 := hi2
              show ev _ _ _ _ [_, _, _, some (.int (nI (i + (2 + (as.flatMap lB_x).length)))), _, _] _ _ = _
              simp (disch := first | assumption | omega | decide | (simp only [ma_wd0, ma_wdi, ma_wdr, ma_wdl, ma_wdn] <;> omega)) only [↓reduceIte, evK, evL, evS, evA, evJ, Option.bind_some, Option.toList, List.cons_append, List.nil_append, nI_add, pk_mul, bI0, ite_not, ev_rbb, bk_MO_runs, List.length_cons, List.length_nil, nI_ltT, nI_ltF, nI_leT, nI_leF, nI_eqT, nI_eqF, ldM, gfM, stM, up_s, up_n, up_u, h1, h2, nI_m1, nI_m2, pk_m1, ce_MO_twoOf, Nat.add_assoc, Nat.reduceAdd, Nat.mul_zero, Nat.zero_add, pk_us]
              rw [bh_MO_runs_12]
              have hv0 : nI _ ≠ nI 0 := fun z => (Nat.ne_of_gt hv.1) ((nI_eq (by omega) (by omega)).mp z)
              simp (disch := first | assumption | omega | decide | (simp only [ma_wd0, ma_wdi, ma_wdr, ma_wdl, ma_wdn] <;> omega)) only [↓reduceIte, evK, evL, evS, evA, evJ, Option.bind_some, Option.toList, List.cons_append, List.nil_append, nI_add, pk_mul, bI0, ite_not, ev_rbb, bk_MO_runs, List.length_cons, List.length_nil, nI_ltT, nI_ltF, nI_leT, nI_leF, nI_eqT, nI_eqF, ldM, gfM, stM, up_s, up_n, up_u, h3, hk1, nI_m1, nI_m2, pk_m1, ce_MO_twoOf, t_MO_twoOf, Nat.add_assoc, Nat.reduceAdd, Nat.mul_zero, Nat.zero_add, pk_us, pk_un]
              exact ih _ (lA_k_push (lA_k_upd (by omega) hk.2))
          next => cases ht
        · cases ht
          obtain ⟨h1, h2⟩ := hs.head 0 _ rfl
          rw [Nat.add_zero] at h1 h2
          dsimp only at h1 h2
          rcases st with _ | ⟨y1, st⟩
          · exact hc.elim
          · have hl' : st.length + 1 ≤ 32 := hl
            have hk1 : f st.length = y1 := hk.1
            have hi3 : i + (1 + (as.flatMap lB_x).length) ≤ 400 := hi2
            show ev _ _ _ _ [_, _, _, some (.int (nI (i + (1 + (as.flatMap lB_x).length)))), _, _] _ _ = _
            simp (disch := first | assumption | omega | decide | (simp only [ma_wd0, ma_wdi, ma_wdr, ma_wdl, ma_wdn] <;> omega)) only [↓reduceIte, evK, evL, evS, evA, evJ, Option.bind_some, Option.toList, List.cons_append, List.nil_append, nI_add, pk_mul, bI0, ite_not, ev_rbb, bk_MO_runs, List.length_cons, List.length_nil, nI_ltT, nI_ltF, nI_leT, nI_leF, nI_eqT, nI_eqF, ldM, gfM, stM, up_s, up_n, up_u, h1, hk1, nI_m1, nI_m2, pk_m1, ce_MO_twoOf, Nat.add_assoc, Nat.reduceAdd, Nat.mul_zero, Nat.zero_add, pk_us]
            exact ih _ (lA_k_push hk.2)
        · cases ht
          obtain ⟨h1, h2⟩ := hs.head 0 _ rfl
          rw [Nat.add_zero] at h1 h2
          dsimp only at h1 h2
          rcases st with _ | ⟨y1, _ | ⟨y2, st⟩⟩
          · exact hc.elim
          · exact hc.2.elim
          · have hl' : st.length + 2 ≤ 32 := hl
            have hk1 : f (st.length + 1) = y1 := hk.1
            have hk2 : f st.length = y2 := hk.2.1
            have hi3 : i + (1 + (as.flatMap lB_x).length) ≤ 400 := hi2
            show ev _ _ _ _ [_, _, _, some (.int (nI (i + (1 + (as.flatMap lB_x).length)))), _, _] _ _ = _
            simp (disch := first | assumption | omega | decide | (simp only [ma_wd0, ma_wdi, ma_wdr, ma_wdl, ma_wdn] <;> omega)) only [↓reduceIte, evK, evL, evS, evA, evJ, Option.bind_some, Option.toList, List.cons_append, List.nil_append, nI_add, pk_mul, bI0, ite_not, ev_rbb, bk_MO_runs, List.length_cons, List.length_nil, nI_ltT, nI_ltF, nI_leT, nI_leF, nI_eqT, nI_eqF, ldM, gfM, stM, up_s, up_n, up_u, h1, hk1, hk2, nI_m1, nI_m2, pk_m1, ce_MO_twoOf, t_MO_twoOf, Nat.add_assoc, Nat.reduceAdd, Nat.mul_zero, Nat.zero_add, pk_us]
            exact ih _ (lA_k_push hk.2.2)
        · cases ht
          obtain ⟨h1, h2⟩ := hs.head 0 _ rfl
          rw [Nat.add_zero] at h1 h2
          dsimp only at h1 h2
          rcases st with _ | ⟨y1, _ | ⟨y2, st⟩⟩
          · exact hc.elim
          · exact hc.2.elim
          · have hl' : st.length + 2 ≤ 32 := hl
            have hk1 : f (st.length + 1) = y1 := hk.1
            have hk2 : f st.length = y2 := hk.2.1
            have hi3 : i + (1 + (as.flatMap lB_x).length) ≤ 400 := hi2
            show ev _ _ _ _ [_, _, _, some (.int (nI (i + (1 + (as.flatMap lB_x).length)))), _, _] _ _ = _
            simp (disch := first | assumption | omega | decide | (simp only [ma_wd0, ma_wdi, ma_wdr, ma_wdl, ma_wdn] <;> omega)) only [↓reduceIte, evK, evL, evS, evA, evJ, Option.bind_some, Option.toList, List.cons_append, List.nil_append, nI_add, pk_mul, bI0, ite_not, ev_rbb, bk_MO_runs, List.length_cons, List.length_nil, nI_ltT, nI_ltF, nI_leT, nI_leF, nI_eqT, nI_eqF, ldM, gfM, stM, up_s, up_n, up_u, h1, hk1, hk2, nI_m1, nI_m2, pk_m1, ce_MO_twoOf, t_MO_twoOf, Nat.add_assoc, Nat.reduceAdd, Nat.mul_zero, Nat.zero_add, pk_us]
            exact ih _ (lA_k_push hk.2.2)
        · cases ht
          obtain ⟨h1, h2⟩ := hs.head 0 _ rfl
          rw [Nat.add_zero] at h1 h2
          dsimp only at h1 h2
          rcases st with _ | ⟨y1, _ | ⟨y2, st⟩⟩
          · exact hc.elim
          · exact hc.2.elim
          · have hl' : st.length + 2 ≤ 32 := hl
            have hk1 : f (st.length + 1) = y1 := hk.1
            have hk2 : f st.length = y2 := hk.2.1
            have hi3 : i + (1 + (as.flatMap lB_x).length) ≤ 400 := hi2
            show ev _ _ _ _ [_, _, _, some (.int (nI (i + (1 + (as.flatMap lB_x).length)))), _, _] _ _ = _
            simp (disch := first | assumption | omega | decide | (simp only [ma_wd0, ma_wdi, ma_wdr, ma_wdl, ma_wdn] <;> omega)) only [↓reduceIte, evK, evL, evS, evA, evJ, Option.bind_some, Option.toList, List.cons_append, List.nil_append, nI_add, pk_mul, bI0, ite_not, ev_rbb, bk_MO_runs, List.length_cons, List.length_nil, nI_ltT, nI_ltF, nI_leT, nI_leF, nI_eqT, nI_eqF, ldM, gfM, stM, up_s, up_n, up_u, h1, hk1, hk2, nI_m1, nI_m2, pk_m1, ce_MO_twoOf, t_MO_twoOf, Nat.add_assoc, Nat.reduceAdd, Nat.mul_zero, Nat.zero_add, pk_us]
            exact ih _ (lA_k_push hk.2.2)
        · cases ht
          obtain ⟨h1, h2⟩ := hs.head 0 _ rfl
          rw [Nat.add_zero] at h1 h2
          dsimp only at h1 h2
          rcases st with _ | ⟨y1, _ | ⟨y2, st⟩⟩
          · exact hc.elim
          · exact hc.2.elim
          · have hl' : st.length + 2 ≤ 32 := hl
            have hk1 : f (st.length + 1) = y1 := hk.1
            have hk2 : f st.length = y2 := hk.2.1
            have hi3 : i + (1 + (as.flatMap lB_x).length) ≤ 400 := hi2
            show ev _ _ _ _ [_, _, _, some (.int (nI (i + (1 + (as.flatMap lB_x).length)))), _, _] _ _ = _
            simp (disch := first | assumption | omega | decide | (simp only [ma_wd0, ma_wdi, ma_wdr, ma_wdl, ma_wdn] <;> omega)) only [↓reduceIte, evK, evL, evS, evA, evJ, Option.bind_some, Option.toList, List.cons_append, List.nil_append, nI_add, pk_mul, bI0, ite_not, ev_rbb, bk_MO_runs, List.length_cons, List.length_nil, nI_ltT, nI_ltF, nI_leT, nI_leF, nI_eqT, nI_eqF, ldM, gfM, stM, up_s, up_n, up_u, h1, hk1, hk2, nI_m1, nI_m2, pk_m1, ce_MO_twoOf, t_MO_twoOf, Nat.add_assoc, Nat.reduceAdd, Nat.mul_zero, Nat.zero_add, pk_us]
            exact ih _ (lA_k_push hk.2.2)
        · cases ht
          obtain ⟨h1, h2⟩ := hs.head 0 _ rfl
          rw [Nat.add_zero] at h1 h2
          dsimp only at h1 h2
          rcases st with _ | ⟨y1, _ | ⟨y2, st⟩⟩
          · exact hc.elim
          · exact hc.2.elim
          · have hl' : st.length + 2 ≤ 32 := hl
            have hk1 : f (st.length + 1) = y1 := hk.1
            have hk2 : f st.length = y2 := hk.2.1
            have hi3 : i + (1 + (as.flatMap lB_x).length) ≤ 400 := hi2
            show ev _ _ _ _ [_, _, _, some (.int (nI (i + (1 + (as.flatMap lB_x).length)))), _, _] _ _ = _
            simp (disch := first | assumption | omega | decide | (simp only [ma_wd0, ma_wdi, ma_wdr, ma_wdl, ma_wdn] <;> omega)) only [↓reduceIte, evK, evL, evS, evA, evJ, Option.bind_some, Option.toList, List.cons_append, List.nil_append, nI_add, pk_mul, bI0, ite_not, ev_rbb, bk_MO_runs, List.length_cons, List.length_nil, nI_ltT, nI_ltF, nI_leT, nI_leF, nI_eqT, nI_eqF, ldM, gfM, stM, up_s, up_n, up_u, h1, hk1, hk2, nI_m1, nI_m2, pk_m1, ce_MO_twoOf, t_MO_twoOf, Nat.add_assoc, Nat.reduceAdd, Nat.mul_zero, Nat.zero_add, pk_us]
            exact ih _ (lA_k_push hk.2.2)
        · cases ht
          obtain ⟨h1, h2⟩ := hs.head 0 _ rfl
          rw [Nat.add_zero] at h1 h2
          dsimp only at h1 h2
          rcases st with _ | ⟨y1, _ | ⟨y2, st⟩⟩
          · exact hc.elim
          · exact hc.2.elim
          · have hl' : st.length + 2 ≤ 32 := hl
            have hk1 : f (st.length + 1) = y1 := hk.1
            have hk2 : f st.length = y2 := hk.2.1
            have hi3 : i + (1 + (as.flatMap lB_x).length) ≤ 400 := hi2
            show ev _ _ _ _ [_, _, _, some (.int (nI (i + (1 + (as.flatMap lB_x).length)))), _, _] _ _ = _
            simp (disch := first | assumption | omega | decide | (simp only [ma_wd0, ma_wdi, ma_wdr, ma_wdl, ma_wdn] <;> omega)) only [↓reduceIte, evK, evL, evS, evA, evJ, Option.bind_some, Option.toList, List.cons_append, List.nil_append, nI_add, pk_mul, bI0, ite_not, ev_rbb, bk_MO_runs, List.length_cons, List.length_nil, nI_ltT, nI_ltF, nI_leT, nI_leF, nI_eqT, nI_eqF, ldM, gfM, stM, up_s, up_n, up_u, h1, hk1, hk2, nI_m1, nI_m2, pk_m1, ce_MO_twoOf, t_MO_twoOf, Nat.add_assoc, Nat.reduceAdd, Nat.mul_zero, Nat.zero_add, pk_us]
            exact ih _ (lA_k_push hk.2.2)
        · cases ht
          obtain ⟨h1, h2⟩ := hs.head 0 _ rfl
          rw [Nat.add_zero] at h1 h2
          dsimp only at h1 h2
          rcases st with _ | ⟨y1, _ | ⟨y2, st⟩⟩
          · exact hc.elim
          · exact hc.2.elim
          · have hl' : st.length + 2 ≤ 32 := hl
            have hk1 : f (st.length + 1) = y1 := hk.1
            have hk2 : f st.length = y2 := hk.2.1
            have hi3 : i + (1 + (as.flatMap lB_x).length) ≤ 400 := hi2
            show ev _ _ _ _ [_, _, _, some (.int (nI (i + (1 + (as.flatMap lB_x).length)))), _, _] _ _ = _
            simp (disch := first | assumption | omega | decide | (simp only [ma_wd0, ma_wdi, ma_wdr, ma_wdl, ma_wdn] <;> omega)) only [↓reduceIte, evK, evL, evS, evA, evJ, Option.bind_some, Option.toList, List.cons_append, List.nil_append, nI_add, pk_mul, bI0, ite_not, ev_rbb, bk_MO_runs, List.length_cons, List.length_nil, nI_ltT, nI_ltF, nI_leT, nI_leF, nI_eqT, nI_eqF, ldM, gfM, stM, up_s, up_n, up_u, h1, hk1, hk2, nI_m1, nI_m2, pk_m1, ce_MO_twoOf, t_MO_twoOf, Nat.add_assoc, Nat.reduceAdd, Nat.mul_zero, Nat.zero_add, pk_us]
            rw [b_and01 (hc.2.1 rfl) (hc.1 rfl)]
            exact ih _ (lA_k_push hk.2.2)
        · cases ht
          obtain ⟨h1, h2⟩ := hs.head 0 _ rfl
          rw [Nat.add_zero] at h1 h2
          dsimp only at h1 h2
          rcases st with _ | ⟨y1, _ | ⟨y2, st⟩⟩
          · exact hc.elim
          · exact hc.2.elim
          · have hl' : st.length + 2 ≤ 32 := hl
            have hk1 : f (st.length + 1) = y1 := hk.1
            have hk2 : f st.length = y2 := hk.2.1
            have hi3 : i + (1 + (as.flatMap lB_x).length) ≤ 400 := hi2
            show ev _ _ _ _ [_, _, _, some (.int (nI (i + (1 + (as.flatMap lB_x).length)))), _, _] _ _ = _
            simp (disch := first | assumption | omega | decide | (simp only [ma_wd0, ma_wdi, ma_wdr, ma_wdl, ma_wdn] <;> omega)) only [↓reduceIte, evK, evL, evS, evA, evJ, Option.bind_some, Option.toList, List.cons_append, List.nil_append, nI_add, pk_mul, bI0, ite_not, ev_rbb, bk_MO_runs, List.length_cons, List.length_nil, nI_ltT, nI_ltF, nI_leT, nI_leF, nI_eqT, nI_eqF, ldM, gfM, stM, up_s, up_n, up_u, h1, hk1, hk2, nI_m1, nI_m2, pk_m1, ce_MO_twoOf, t_MO_twoOf, Nat.add_assoc, Nat.reduceAdd, Nat.mul_zero, Nat.zero_add, pk_us]
            rw [b_or01 (hc.2.1 rfl) (hc.1 rfl)]
            exact ih _ (lA_k_push hk.2.2)
        · cases ht
      next => cases hT
    next => cases hT
theorem t_MO_runs (d i : Nat) (as : List lA) (x : Bool) (hT : lA_T as [] = some [x]) (hs : lB_at (m 153) (m 154) i as) (hi : i + (as.flatMap lB_x).length ≤ 400) : cc sc (d + 1) 219 [.ref 138, .int (nI 0), .int (nI i), .int (nI (i + (as.flatMap lB_x).length))] (hp c w m) = some (some (.int (lB_v (m 158) as [] (m 159) 0)), hp c w (va_up m 159 (lB_v (m 158) as [] (m 159)))) := by
  simp (disch := first | assumption | omega | decide | (simp only [ma_wd0, ma_wdi, ma_wdr, ma_wdl, ma_wdn] <;> omega)) only [↓reduceIte, evK, evL, evS, evA, evJ, Option.bind_some, Option.toList, List.cons_append, List.nil_append, nI_add, pk_mul, bI0, ite_not, ev_rbb, en_MO_runs, Nat.mul_zero, Nat.zero_add]
  have := t_runs_loop (sc := sc) (c := c) (m := m) (w := w) d (nI i) as [] [] [x] (m 159) i hT trivial (Nat.zero_le _) trivial hs hi
  rw [up_self] at this
  exact this
end LB
