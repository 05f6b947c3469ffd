/-! ===== jumps, calls, what the machine does itself ===== -/
def ma_cz : ma_C → Nat
  | .inl q => q.2.1
  | .inr q => q.2.length
def ma_sl (h : List ma_C) : Nat := (h.map ma_cz).sum
theorem ma_sl_set {h : List ma_C} {k : Nat} {x y : ma_C} (hk : h[k]? = some x) (e : ma_cz y = ma_cz x) : ma_sl (h.set k y) = ma_sl h := by
  induction h generalizing k with
  | nil => simp at hk
  | cons a t ih =>
    cases k with
    | zero =>
      simp only [List.getElem?_cons_zero, Option.some.injEq] at hk
      subst hk
      simp [ma_sl, e]
    | succ k =>
      rw [List.getElem?_cons_succ] at hk
      have := ih hk
      simp only [ma_sl, List.set_cons_succ, List.map_cons, List.sum_cons] at this ⊢
      omega
theorem ma_sl_app (a b : List ma_C) : ma_sl (a ++ b) = ma_sl a + ma_sl b := by simp [ma_sl]
/-- the numbers of cells and places never fall -/
def ma_le (h h' : List ma_C) : Prop := h.length ≤ h'.length ∧ ma_sl h ≤ ma_sl h'
theorem ma_le.rf {h : List ma_C} : ma_le h h := ⟨Nat.le_refl _, Nat.le_refl _⟩
theorem ma_le.tr {a b c : List ma_C} (h1 : ma_le a b) (h2 : ma_le b c) : ma_le a c := ⟨Nat.le_trans h1.1 h2.1, Nat.le_trans h1.2 h2.2⟩
theorem ma_le.set {h : List ma_C} {k : Nat} {x y : ma_C} (hk : h[k]? = some x) (e : ma_cz y = ma_cz x) : ma_le h (h.set k y) := ⟨by simp, by rw [ma_sl_set hk e]; exact Nat.le_refl _⟩
theorem ma_le.app {h t : List ma_C} : ma_le h (h ++ t) := ⟨by simp, by rw [ma_sl_app]; omega⟩
theorem ma_s_le {sc : Nat × (Nat → Int32)} {ks : Nat → List Nat} {i : Instr} {o : List Nat} {L L' : ma_L} {S S' : List Value} {h h' : List ma_C} (hs : ma_s sc ks i o L S h = some (L', S', h')) : ma_le h h' := by
  unfold ma_s at hs
  repeat' split at hs
  all_goals first
    | (cases hs; done)
    | (cases hs; exact ma_le.rf)
    | (cases hs; exact ma_le.app)
    | (cases hs; rename_i hk _; exact ma_le.set hk rfl)
    | (cases hs; rename_i hk _; exact ma_le.set hk (by simp [ma_cz]))
    | (cases hs; rename_i hk _ _; exact ma_le.set hk rfl)
theorem ma_x_le {tx : Nat → Int32 → Option Int32} {i : Instr} {o : List Nat} {S S' : List Value} {h h' : List ma_C} (hs : ma_x tx i o S h = some (S', h')) : ma_le h h' := by
  unfold ma_x at hs
  repeat' split at hs
  all_goals first
    | (cases hs; done)
    | (cases hs; exact ma_le.rf)
    | (cases hs; rename_i hk _; exact ma_le.set hk rfl)
theorem ma_run_le {P : ma_P} : ∀ (n d m : Nat) (is : List ma_I) (L : ma_L) (S : List Value) (h : List ma_C) (r : Option Value) (h' : List ma_C), ma_run P n d m is L S h = some (r, h') → ma_le h h'
  | 0, _, _, _, _, _, _, _, _, hr => by simp [ma_run] at hr
  | n + 1, d, m, [], L, S, h, r, h', hr => by simp [ma_run] at hr
  | n + 1, d, m, (i, o) :: is, L, S, h, r, h', hr => by
    unfold ma_run at hr
    split at hr
    · split at hr
      next L1 S1 h1 hs => exact (ma_s_le hs).tr (ma_run_le n _ _ _ _ _ _ _ _ hr)
      next => cases hr
    · split at hr
      · exact ma_run_le n _ _ _ _ _ _ _ _ hr
      · exact ma_run_le n _ _ _ _ _ _ _ _ hr
      · cases hr
    · split at hr
      · split at hr
        · cases hr
        split at hr
        · cases hr
        · split at hr
          next r1 h1 h2 => exact (ma_run_le n _ _ _ _ _ _ _ _ h2).tr (ma_run_le n _ _ _ _ _ _ _ _ hr)
          next => cases hr
      · cases hr
    · split at hr
      · cases hr; exact ma_le.rf
      · cases hr
    · split at hr
      next S1 h1 hs =>
        split at hs
        next => cases hs
        next => exact (ma_x_le hs).tr (ma_run_le n _ _ _ _ _ _ _ _ hr)
      next => cases hr
/-- how long an instruction is -/
def ma_ln (pc : Nat) : Instr → Nat
  | .bipush _ | .ldc _ | .iload _ | .lload _ | .aload _ | .istore _ | .lstore _ | .astore _ | .newarray _ => 2
  | .sipush _ | .ldc_w _ | .ldc2_w _ | .getfield _ | .putfield _ | .new _ | .anewarray _ | .iinc _ _ | .goto _ | .if_icmp _ _ | .ifCond _ _ | .ifnull _ | .ifnonnull _ | .invokevirtual _ | .invokespecial _ | .invokestatic _ => 3
  | .multianewarray _ _ => 4
  | .tableswitch _ _ _ offs => 1 + (4 - (pc + 1) % 4) % 4 + 12 + 4 * offs.size
  | _ => 1
def ma_jt (pc : Nat) : Instr → List Nat → Prop
  | .nop, [t] => pc = t
  | .goto off, [t] => (pc : Int) + off = (t : Int)
  | .if_icmp _ off, [t] => (pc : Int) + off = (t : Int)
  | .ifCond _ off, [t] => (pc : Int) + off = (t : Int)
  | .ifnull off, [t] => (pc : Int) + off = (t : Int)
  | .ifnonnull off, [t] => (pc : Int) + off = (t : Int)
  | .tableswitch d _ _ offs, t0 :: ts => (pc : Int) + d = (t0 : Int) ∧ offs.toList.map (fun off => (pc : Int) + off) = ts.map (fun (t : Nat) => (t : Int))
  | _, _ => False
section MJ
variable {D : va_G} {cl : List vw_C} {ks : Nat → List Nat} {ad : Nat → Nat} {base : Nat} {G : List Jvm.Cond} {own : String} {ini : Bool} {p : Program} {l : Launch} {e : Env} {R : Room} {s : State} {m : MethodId} {args : Array Value} {below : List Frame} {meth : Method} {c : Code} {cc : ByteArray} {nL pc : Nat} {Q : State → Prop} {sc : Nat × (Nat → Int32)} {o : List Nat} {L : ma_L} {S S' : List Value} {h h' : List ma_C} {cells slots : Nat}
theorem ma_o_j {i : Instr} {t : Option Nat} (X : ma_X D cl ks ad base sc G own ini p s m args meth c cc nL) (hdg : i = .nop ∨ decode cc pc = .ok (i, ma_ln pc i)) (hjt : ma_jt pc i o) (hs : ma_j i o S = some (t, S')) (k : ma_G D cl ad base p l e R s m args below meth c Q nL (t.getD (pc + ma_ln pc i)) L S' h cells slots) : ma_G D cl ad base p l e R s m args below meth c Q nL pc L S h cells slots := by
  obtain ⟨hx, hb, -⟩ := X
  intro H locs ls hH hF hl hn
  have kk := k H locs ls hH hF hl hn
  unfold ma_j at hs
  split at hs
  · split at hs
    · cases hs
      have hjt : pc = _ := hjt
      rw [hjt]
      exact kk
    · cases hs
  · replace hdg := hdg.resolve_left (fun z => by cases z)
    split at hs
    · cases hs
      exact lv_goto hx hb hdg hjt kk
    · cases hs
  · replace hdg := hdg.resolve_left (fun z => by cases z)
    rename_i cnd off
    split at hs
    · rename_i tt y x S2
      obtain ⟨e1, e2⟩ := Prod.mk.inj (Option.some.inj hs)
      subst e2
      have hjt : (pc : Int) + off = (tt : Int) := hjt
      have kT : ∀ b : Bool, ma_cmp cnd x y = b → (b = true → W p l e R s m args below meth c H locs cells slots Q (F0 m tt ls (S2.map (ma_va ad)))) ∧ (b = false → W p l e R s m args below meth c H locs cells slots Q (F0 m (pc + 3) ls (S2.map (ma_va ad)))) := by
        intro b hbb
        rw [← e1, hbb] at kk
        cases b
        · exact ⟨fun z => (by cases z), fun _ => kk⟩
        · exact ⟨fun _ => kk, fun z => by cases z⟩
      cases cnd with
      | eq => exact lv_icmp_eq hx hb hdg hjt (fun z => (kT true (decide_eq_true z)).1 rfl) (fun z => (kT false (decide_eq_false z)).2 rfl)
      | ne => exact lv_icmp_ne hx hb hdg hjt (fun z => (kT true (decide_eq_true z)).1 rfl) (fun z => (kT false (decide_eq_false (fun q => q z))).2 rfl)
      | lt => exact lv_icmp_lt hx hb hdg hjt (fun z => (kT true (decide_eq_true z)).1 rfl) (fun z => (kT false (decide_eq_false z)).2 rfl)
      | ge => exact lv_icmp_ge hx hb hdg hjt (fun z => (kT true (decide_eq_true z)).1 rfl) (fun z => (kT false (decide_eq_false z)).2 rfl)
      | gt => exact lv_icmp_gt hx hb hdg hjt (fun z => (kT true (decide_eq_true z)).1 rfl) (fun z => (kT false (decide_eq_false z)).2 rfl)
      | le => exact lv_icmp_le hx hb hdg hjt (fun z => (kT true (decide_eq_true z)).1 rfl) (fun z => (kT false (decide_eq_false z)).2 rfl)
    · cases hs
  · replace hdg := hdg.resolve_left (fun z => by cases z)
    rename_i cnd off
    split at hs
    · rename_i tt x S2
      obtain ⟨e1, e2⟩ := Prod.mk.inj (Option.some.inj hs)
      subst e2
      have hjt : (pc : Int) + off = (tt : Int) := hjt
      have kT : ∀ b : Bool, ma_cmp cnd x 0 = b → (b = true → W p l e R s m args below meth c H locs cells slots Q (F0 m tt ls (S2.map (ma_va ad)))) ∧ (b = false → W p l e R s m args below meth c H locs cells slots Q (F0 m (pc + 3) ls (S2.map (ma_va ad)))) := by
        intro b hbb
        rw [← e1, hbb] at kk
        cases b
        · exact ⟨fun z => (by cases z), fun _ => kk⟩
        · exact ⟨fun _ => kk, fun z => by cases z⟩
      cases cnd with
      | eq => exact lv_if_eq hx hb hdg hjt (fun z => (kT true (decide_eq_true z)).1 rfl) (fun z => (kT false (decide_eq_false z)).2 rfl)
      | ne => exact lv_if_ne hx hb hdg hjt (fun z => (kT true (decide_eq_true z)).1 rfl) (fun z => (kT false (decide_eq_false (fun q => q z))).2 rfl)
      | lt => exact lv_if_lt hx hb hdg hjt (fun z => (kT true (decide_eq_true z)).1 rfl) (fun z => (kT false (decide_eq_false z)).2 rfl)
      | ge => exact lv_if_ge hx hb hdg hjt (fun z => (kT true (decide_eq_true z)).1 rfl) (fun z => (kT false (decide_eq_false z)).2 rfl)
      | gt => exact lv_if_gt hx hb hdg hjt (fun z => (kT true (decide_eq_true z)).1 rfl) (fun z => (kT false (decide_eq_false z)).2 rfl)
      | le => exact lv_if_le hx hb hdg hjt (fun z => (kT true (decide_eq_true z)).1 rfl) (fun z => (kT false (decide_eq_false z)).2 rfl)
    · cases hs
  · replace hdg := hdg.resolve_left (fun z => by cases z)
    split at hs
    · cases hs
      exact lv_ifnullN hx hb hdg hjt kk
    · cases hs
      exact lv_ifnull hx hb hdg kk
    · cases hs
  · replace hdg := hdg.resolve_left (fun z => by cases z)
    split at hs
    · cases hs
      exact lv_ifnonnullN hx hb hdg kk
    · cases hs
      exact lv_ifnonnull hx hb hdg hjt kk
    · cases hs
  · replace hdg := hdg.resolve_left (fun z => by cases z)
    rename_i dfl lo hi offs
    split at hs
    · rename_i t0 ts x S2
      obtain ⟨j1, j2⟩ : (pc : Int) + dfl = (t0 : Int) ∧ offs.toList.map (fun off => (pc : Int) + off) = ts.map (fun (t : Nat) => (t : Int)) := hjt
      split at hs
      next hz =>
        cases hs
        exact lv_tableOut hx hb hdg hz j1 kk
      next hz =>
        split at hs
        next tt ht =>
          cases hs
          have h2 : (offs.toList.map (fun off => (pc : Int) + off))[(x.toInt - lo).toNat]? = some (tt : Int) := by rw [j2, List.getElem?_map, ht]; rfl
          rw [List.getElem?_map] at h2
          cases ho : offs.toList[(x.toInt - lo).toNat]? with
          | none => rw [ho] at h2; cases h2
          | some off =>
            rw [ho] at h2
            exact lv_tableIn hx hb hdg (fun z => hz (Or.inl z)) (fun z => hz (Or.inr z)) (by rw [← Array.getElem?_toList]; exact ho) (Option.some.inj h2) kk
        next => cases hs
    · cases hs
  · cases hs
end MJ
