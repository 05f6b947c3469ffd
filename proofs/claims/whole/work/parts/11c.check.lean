/-! ===== a check by numbers, and what it says ===== -/
def pm_in (k : Nat) : Instr := match k % 16 with
  | 0 => .getfield (k / 16)
  | 1 => .invokevirtual (k / 16)
  | 2 => .invokespecial (k / 16)
  | 3 => .invokestatic (k / 16)
  | 4 => .ldc (k / 16)
  | 5 => .ldc_w (k / 16)
  | 6 => .ldc2_w (k / 16)
  | 7 => .new (k / 16)
  | 8 => .anewarray (k / 16)
  | 9 => .multianewarray (k / 16) 2
  | _ => .putfield (k / 16)
def pm_fo (own : String) (e : Nat × List Nat) : Prop := ∀ (ini : Bool) (ret : Option FieldType) (pc : Nat), (e.1 % 16 = 11 → ini = true) → ma_lk pm_cl pm_k pm_m pm_G pm_TK own ini ret pc (pm_in e.1) e.2
def pm_jb (pc : Nat) : Instr → List Nat → Bool
  | .nop, [t] => pc == t
  | .goto off, [t] => (pc : Int) + off == (t : Int)
  | .if_icmp _ off, [t] => (pc : Int) + off == (t : Int)
  | .ifCond _ off, [t] => (pc : Int) + off == (t : Int)
  | .ifnull off, [t] => (pc : Int) + off == (t : Int)
  | .ifnonnull off, [t] => (pc : Int) + off == (t : Int)
  | .tableswitch d _ _ offs, t0 :: ts => (pc : Int) + d == (t0 : Int) && offs.toList.map (fun off => (pc : Int) + off) == ts.map (fun (t : Nat) => (t : Int))
  | _, _ => false
theorem pm_jb_ok {pc : Nat} {i : Instr} {o : List Nat} (h : pm_jb pc i o = true) : ma_jt pc i o := by
  unfold pm_jb at h
  split at h
  · exact eq_of_beq h
  · exact eq_of_beq h
  · exact eq_of_beq h
  · exact eq_of_beq h
  · exact eq_of_beq h
  · exact eq_of_beq h
  · rw [Bool.and_eq_true] at h
    exact ⟨eq_of_beq h.1, eq_of_beq h.2⟩
  · cases h
def pm_lb (F : List (Nat × List Nat)) (ini : Bool) (ret : Option FieldType) (pc : Nat) (i : Instr) (o : List Nat) : Bool := match i with
  | .bipush n => decide ((Int8.ofInt n).toInt32 = Int32.ofInt n)
  | .sipush n => decide ((Int16.ofInt n).toInt32 = Int32.ofInt n)
  | .ldc x => F.lookup (16 * x + 4) == some o
  | .ldc_w x => F.lookup (16 * x + 5) == some o
  | .ldc2_w x => F.lookup (16 * x + 6) == some o
  | .getfield x => F.lookup (16 * x) == some o
  | .putfield x => F.lookup (16 * x + 10) == some o || (ini && F.lookup (16 * x + 11) == some o)
  | .aastore => o == [4]
  | .new x => F.lookup (16 * x + 7) == some o
  | .newarray a => (ma_atc a).isSome
  | .anewarray x => F.lookup (16 * x + 8) == some o
  | .multianewarray x d => d == 2 && F.lookup (16 * x + 9) == some o
  | .nop => pm_jb pc i o
  | .goto _ => pm_jb pc i o
  | .if_icmp _ _ => pm_jb pc i o
  | .ifCond _ _ => pm_jb pc i o
  | .ifnull _ => pm_jb pc i o
  | .ifnonnull _ => pm_jb pc i o
  | .tableswitch _ _ _ _ => pm_jb pc i o
  | .invokevirtual x => F.lookup (16 * x + 1) == some o
  | .invokespecial x => F.lookup (16 * x + 2) == some o
  | .invokestatic x => F.lookup (16 * x + 3) == some o
  | .ireturn => (o == [0] && decide (ret = some .int)) || (o == [1] && decide (ret = some .boolean))
  | .return_ => decide (ret = none)
  | .lreturn => decide (ret = some .long)
  | _ => true
theorem pm_lu2 {α : Type} {F : List (Nat × α)} {k : Nat} {o : α} (h : F.lookup k = some o) : (k, o) ∈ F := by
  induction F with
  | nil => cases h
  | cons a r ih =>
    obtain ⟨k1, o1⟩ := a
    rw [List.lookup_cons] at h
    split at h
    next hk =>
      cases h
      rw [eq_of_beq hk]
      exact List.mem_cons_self
    next => exact List.mem_cons_of_mem _ (ih h)
theorem pm_lu {F : List (Nat × List Nat)} {k : Nat} {o : List Nat} (h : (F.lookup k == some o) = true) : (k, o) ∈ F := pm_lu2 (eq_of_beq h)
theorem pm_arr {a : ArrayType} (h : (ma_atc a).isSome = true) : Jvm.Cond.arrayClass (newarray.typeOf a) ∈ pm_G := by
  unfold ma_atc at h
  split at h
  · exact gt 73 (by decide +kernel)
  · exact gt 295 (by decide +kernel)
  · exact gt 402 (by decide +kernel)
  · cases h
set_option maxHeartbeats 4000000 in
theorem pm_lb_ok {own : String} {F : List (Nat × List Nat)} (hF : ∀ e ∈ F, pm_fo own e) {ini : Bool} {ret : Option FieldType} {pc : Nat} {i : Instr} {o : List Nat} (h : pm_lb F ini ret pc i o = true) : ma_lk pm_cl pm_k pm_m pm_G pm_TK own ini ret pc i o := by
  have d0 : ∀ x : Nat, (16 * x) / 16 = x ∧ (16 * x) % 16 = 0 := fun x => ⟨by omega, by omega⟩
  have d1 : ∀ x r : Nat, r < 16 → (16 * x + r) / 16 = x ∧ (16 * x + r) % 16 = r := fun x r hr => ⟨by omega, by omega⟩
  have use : ∀ (k : Nat), (F.lookup k == some o) = true → k % 16 ≠ 11 → ma_lk pm_cl pm_k pm_m pm_G pm_TK own ini ret pc (pm_in k) o := fun k hk h2 => hF _ (pm_lu hk) ini ret pc (fun z => absurd z h2)
  cases i
  case bipush n => exact (of_decide_eq_true h : (Int8.ofInt n).toInt32 = Int32.ofInt n)
  case sipush n => exact (of_decide_eq_true h : (Int16.ofInt n).toInt32 = Int32.ofInt n)
  case ldc x => have := use _ h (by have := d1 x 4; omega); simpa only [pm_in, (d1 x 4 (by decide)).1, (d1 x 4 (by decide)).2] using this
  case ldc_w x => have := use _ h (by have := d1 x 5; omega); simpa only [pm_in, (d1 x 5 (by decide)).1, (d1 x 5 (by decide)).2] using this
  case ldc2_w x => have := use _ h (by have := d1 x 6; omega); simpa only [pm_in, (d1 x 6 (by decide)).1, (d1 x 6 (by decide)).2] using this
  case getfield x => have := use _ h (by have := d0 x; omega); simpa only [pm_in, (d0 x).1, (d0 x).2] using this
  case putfield x =>
    rcases Bool.or_eq_true _ _ ▸ h with h | h
    · have := use _ h (by have := d1 x 10; omega); simpa only [pm_in, (d1 x 10 (by decide)).1, (d1 x 10 (by decide)).2] using this
    · rw [Bool.and_eq_true] at h
      have := hF _ (pm_lu h.2) ini ret pc (fun _ => h.1)
      simpa only [pm_in, (d1 x 11 (by decide)).1, (d1 x 11 (by decide)).2] using this
  case aastore =>
    have h := eq_of_beq h
    subst h
    intro ci r hr
    cases hr
    exact ⟨pm_T4, _, rfl⟩
  case new x => have := use _ h (by have := d1 x 7; omega); simpa only [pm_in, (d1 x 7 (by decide)).1, (d1 x 7 (by decide)).2] using this
  case newarray a => exact pm_arr h
  case anewarray x => have := use _ h (by have := d1 x 8; omega); simpa only [pm_in, (d1 x 8 (by decide)).1, (d1 x 8 (by decide)).2] using this
  case multianewarray x d =>
    have h := Bool.and_eq_true _ _ ▸ h
    have e := eq_of_beq h.1
    subst e
    have := use _ h.2 (by have := d1 x 9; omega); simpa only [pm_in, (d1 x 9 (by decide)).1, (d1 x 9 (by decide)).2] using this
  case nop => exact pm_jb_ok h
  case goto => exact pm_jb_ok h
  case if_icmp => exact pm_jb_ok h
  case ifCond => exact pm_jb_ok h
  case ifnull => exact pm_jb_ok h
  case ifnonnull => exact pm_jb_ok h
  case tableswitch => exact pm_jb_ok h
  case invokevirtual x => have := use _ h (by have := d1 x 1; omega); simpa only [pm_in, (d1 x 1 (by decide)).1, (d1 x 1 (by decide)).2] using this
  case invokespecial x => have := use _ h (by have := d1 x 2; omega); simpa only [pm_in, (d1 x 2 (by decide)).1, (d1 x 2 (by decide)).2] using this
  case invokestatic x => have := use _ h (by have := d1 x 3; omega); simpa only [pm_in, (d1 x 3 (by decide)).1, (d1 x 3 (by decide)).2] using this
  case ireturn =>
    rcases Bool.or_eq_true _ _ ▸ h with h | h
    · have h := Bool.and_eq_true _ _ ▸ h
      have e := eq_of_beq h.1
      subst e
      exact ⟨fun _ => of_decide_eq_true h.2, fun z => (by cases z)⟩
    · have h := Bool.and_eq_true _ _ ▸ h
      have e := eq_of_beq h.1
      subst e
      exact ⟨fun z => (by cases z), fun _ => of_decide_eq_true h.2⟩
  case return_ => exact (of_decide_eq_true h : ret = none)
  case lreturn => exact (of_decide_eq_true h : ret = some .long)
  all_goals trivial
def pm_ob (F : List (Nat × List Nat)) (q : ma_M) : Nat → List ma_I → Bool
  | _, [] => true
  | pc, (i, o) :: is => (decide (i = .nop) || decide (decode q.2.1 pc = .ok (i, ma_ln pc i))) && (pm_lb F (q.1.name == "<init>") q.2.2.2.1 pc i o && pm_ob F q (pc + ma_ln pc i) is)
theorem pm_ob_ok {F : List (Nat × List Nat)} {q : ma_M} (hF : ∀ e ∈ F, pm_fo q.1.cls e) : ∀ (is : List ma_I) (pc : Nat), pm_ob F q pc is = true → ma_ok pm_cl pm_k pm_m pm_G pm_TK q pc is
  | [], _, _ => trivial
  | (i, o) :: is, pc, h => by
    unfold pm_ob at h
    rw [Bool.and_eq_true, Bool.and_eq_true, Bool.or_eq_true] at h
    exact ⟨h.1.imp of_decide_eq_true of_decide_eq_true, pm_lb_ok hF h.2.1, pm_ob_ok hF is _ h.2.2⟩
def pm_pcs : Nat → List ma_I → Nat
  | pc, [] => pc
  | pc, (i, _) :: is => pm_pcs (pc + ma_ln pc i) is
theorem pm_ob_app {F : List (Nat × List Nat)} {q : ma_M} {b : List ma_I} : ∀ (a : List ma_I) (pc : Nat), pm_ob F q pc a = true → pm_ob F q (pm_pcs pc a) b = true → pm_ob F q pc (a ++ b) = true
  | [], _, _, h => h
  | (i, o) :: a, pc, h1, h2 => by
    unfold pm_ob at h1
    rw [Bool.and_eq_true, Bool.and_eq_true] at h1
    rw [List.cons_append]
    unfold pm_ob
    rw [Bool.and_eq_true, Bool.and_eq_true]
    exact ⟨h1.1, h1.2.1, pm_ob_app a _ h1.2.2 h2⟩
theorem pm_ob_td {F : List (Nat × List Nat)} {q : ma_M} {is : List ma_I} {pc k c pc2 : Nat} (h1 : pm_ob F q pc ((is.drop k).take c) = true ∧ pm_pcs pc ((is.drop k).take c) = pc2) (h3 : pm_ob F q pc2 (is.drop (k + c)) = true) : pm_ob F q pc (is.drop k) = true := by
  have e : is.drop k = (is.drop k).take c ++ is.drop (k + c) := by rw [← List.drop_drop, List.take_append_drop]
  rw [e]
  exact pm_ob_app _ _ h1.1 (by rw [h1.2]; exact h3)
theorem pm_all_td {α : Type} {f : α → Bool} {l : List α} {k c : Nat} (h1 : ((l.drop k).take c).all f = true) (h2 : (l.drop (k + c)).all f = true) : (l.drop k).all f = true := by
  have e : l.drop k = (l.drop k).take c ++ l.drop (k + c) := by rw [← List.drop_drop, List.take_append_drop]
  rw [e, List.all_append, h1, h2]
  rfl
/-- what the walk asks of a method -/
def pm_gd (m : Nat) (q : ma_M) : Prop := plainFor q.1 = true ∧ (pm_mx[m]?).getD 0 = q.2.2.1 ∧ q.2.2.1 ≤ 80 ∧ ∀ t, ma_ok pm_cl pm_k pm_m pm_G pm_TK q t (pm_blk m t)
theorem pm_gd_of {F : List (Nat × List Nat)} {m : Nat} {q : ma_M} {X : List (Nat × List ma_I)} (hF : ∀ e ∈ F, pm_fo q.1.cls e) (hX : pm_all[m]? = some X) (h1 : plainFor q.1 = true) (h2 : (pm_mx[m]?).getD 0 = q.2.2.1) (h3 : q.2.2.1 ≤ 80) (h4 : X.all (fun b => pm_ob F q b.1 b.2) = true) : pm_gd m q := by
  refine ⟨h1, h2, h3, fun t => ?_⟩
  unfold pm_blk
  rw [hX, Option.getD_some]
  cases hl : X.lookup t with
  | none => exact trivial
  | some is => exact pm_ob_ok hF is t (List.all_eq_true.mp h4 _ (pm_lu2 hl))

