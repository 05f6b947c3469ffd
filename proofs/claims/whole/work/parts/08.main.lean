/-! ===== THE TRUE MACHINE FOLLOWS: every run of the list machine is one of the true machine ===== -/
/-- what an instruction needs of the tables -/
def ma_lk (cl : List vw_C) (ks : Nat → List Nat) (mt : Nat → Option ma_M) (G : List Jvm.Cond) (TK : String → Instr → List Nat → Prop) (own : String) (ini : Bool) (ret : Option FieldType) (pc : Nat) (i : Instr) (o : List Nat) : Prop :=
  match i with
  | .bipush n => (Int8.ofInt n).toInt32 = Int32.ofInt n
  | .sipush n => (Int16.ofInt n).toInt32 = Int32.ofInt n
  | .ldc x => (∀ v, o = [0, v] → Jvm.Cond.constant own x (Int32.ofNat v) ∈ G) ∧ ∀ v, o = [1, v] → TK own i o
  | .ldc_w x => ∀ v, o = [0, v] → Jvm.Cond.constant own x (Int32.ofNat v) ∈ G
  | .ldc2_w x => ∀ v, o = [v] → Jvm.Cond.constantLong own x (Int64.ofNat v) ∈ G
  | .getfield x => ∀ ci j r, o = ci :: j :: r → ma_fl cl G own x ci j
  | .putfield x => ∀ ci j t r, o = ci :: j :: t :: r → ma_fp cl G own ini x ci j ∧ (ks ci)[j]? = some t
  | .aastore => ∀ ci r, o = ci :: r → ∃ T N, cl[ci]? = some ("LetHorizon$Line", T, N)
  | .new x => ∀ ci r, o = ci :: r → ∃ C T N, cl[ci]? = some (C, T, N) ∧ Jvm.Cond.classLink own x C ∈ G ∧ Jvm.Cond.instantiable C N ∈ G ∧ Jvm.Cond.initialized C ∈ G
  | .newarray a => Jvm.Cond.arrayClass (newarray.typeOf a) ∈ G
  | .anewarray x => Jvm.Cond.classLink own x "LetHorizon$Line" ∈ G ∧ Jvm.Cond.arrayOver (.object "LetHorizon$Line") ∈ G
  | .multianewarray x _ => Jvm.Cond.classLink own x ("[" ++ (FieldType.array .int).toString) ∈ G ∧ Jvm.Cond.arrayOver (.array .int) ∈ G ∧ Jvm.Cond.arrayClass .int ∈ G
  | .nop => ma_jt pc i o
  | .goto _ => ma_jt pc i o
  | .if_icmp _ _ => ma_jt pc i o
  | .ifCond _ _ => ma_jt pc i o
  | .ifnull _ => ma_jt pc i o
  | .ifnonnull _ => ma_jt pc i o
  | .tableswitch _ _ _ _ => ma_jt pc i o
  | .invokevirtual _ => match o with
    | 0 :: _ => ma_ml mt G cl own i o
    | _ => TK own i o
  | .invokespecial x => match o with
    | 0 :: _ => ma_ml mt G cl own i o
    | _ => Jvm.Cond.methodLink own x Lib.objectInit ∈ G ∧ Jvm.Cond.instanceMethod Lib.objectInit ∈ G ∧ Jvm.Cond.code Lib.objectInit ⟨#[0xb1]⟩ 1 none ∈ G
  | .invokestatic x => match o with
    | 0 :: _ => ma_ml mt G cl own i o
    | _ => Jvm.Cond.methodLink own x arraycopyName ∈ G ∧ Jvm.Cond.native arraycopyName ∈ G ∧ Jvm.Cond.static arraycopyName ∈ G ∧ Jvm.Cond.initialized "java/lang/System" ∈ G
  | .ireturn => (o = [0] → ret = some .int) ∧ (o = [1] → ret = some .boolean)
  | .return_ => ret = none
  | .lreturn => ret = some .long
  | _ => True
def ma_ok (cl : List vw_C) (ks : Nat → List Nat) (mt : Nat → Option ma_M) (G : List Jvm.Cond) (TK : String → Instr → List Nat → Prop) (q : ma_M) : Nat → List ma_I → Prop
  | _, [] => True
  | pc, (i, o) :: is => (i = .nop ∨ decode q.2.1 pc = .ok (i, ma_ln pc i)) ∧ ma_lk cl ks mt G TK q.1.cls (q.1.name == "<init>") q.2.2.2.1 pc i o ∧ ma_ok cl ks mt G TK q (pc + ma_ln pc i) is
/-- texts, and the JDK's methods on them: what the walk asks of them -/
def ma_TX (D : va_G) (cl : List vw_C) (ks : Nat → List Nat) (ad : Nat → Nat) (base : Nat) (sc : Nat × (Nat → Int32)) (G : List Jvm.Cond) (TF : State → Heap → Prop) (TK : String → Instr → List Nat → Prop) (tx : Nat → Int32 → Option Int32) (l : Launch) : Prop :=
  ∀ {own : String} {ini : Bool} {p : Program} {e : Env} {R : Room} {s : State} {m : MethodId} {args : Array Value} {below : List Frame} {meth : Method} {c : Code} {cc : ByteArray} {nL pc : Nat} {Q : State → Prop} {H : Heap} {locs : List Loc} {ls : Array Slot} {cells slots : Nat} {i : Instr} {o : List Nat} {S S' : List Value},
    ma_X D cl ks ad base sc G own ini p s m args meth c cc nL → TF s s.heap → ma_F base s H locs → ls.size = nL → decode cc pc = .ok (i, ma_ln pc i) → TK own i o →
    ((∃ x v, i = .ldc x ∧ o = [1, v] ∧ S' = .ref (4097 + v) :: S) ∨ (10 ≤ R.frames ∧ 1000 ≤ R.locals ∧ ∃ x q h, i = .invokevirtual x ∧ (∀ r, o ≠ 0 :: r) ∧ ma_x tx i o S h = some (S', q))) →
    W p l e R s m args below meth c H locs cells slots Q (F0 m (pc + ma_ln pc i) ls (S'.map (ma_va ad))) → W p l e R s m args below meth c H locs cells slots Q (F0 m pc ls (S.map (ma_va ad)))
/-- the room for a run of depth d that makes so many cells -/
def ma_rm (d mc ms : Nat) : Room := { frames := d + 1, cells := mc, slots := ms, locals := 100 * (d + 1) }
section MM
variable {D : va_G} {cl : List vw_C} {ad : Nat → Nat} {base : Nat} {G : List Jvm.Cond} {l : Launch} {TF : State → Heap → Prop} {TK : String → Instr → List Nat → Prop} {mt : Nat → Option ma_M} {P : ma_P}
/-- a method's contract out of a run -/
def ma_Mt (D : va_G) (cl : List vw_C) (ad : Nat → Nat) (base : Nat) (G : List Jvm.Cond) (TF : State → Heap → Prop) (l : Launch) (P : ma_P) (q : ma_M) (d : Nat) (a : List Value) (h : List ma_C) (r : Option Value) (h' : List ma_C) : Prop :=
  Met l q.1 (Jvm.Cond.code q.1 q.2.1 q.2.2.1 q.2.2.2.1 :: G.filter ma_gw) (ma_rm d (h'.length - h.length) (ma_sl h' - ma_sl h)) (ma_Pc D cl ad base P.2.2.2.2 TF a h) (ma_Qc D cl ad base r h') (h'.length - h.length) (ma_sl h' - ma_sl h) (fun q => base ≤ q)
theorem ma_ret_int {D : va_G} {cl : List vw_C} {ad : Nat → Nat} {base : Nat} {p : Program} {l : Launch} {e : Env} {R : Room} {s : State} {m : MethodId} {args : Array Value} {below : List Frame} {meth : Method} {c : Code} {nL pc : Nat} {L : ma_L} {h : List ma_C} {cells slots : Nat} {i : Instr} {o : List Nat} {S : List Value} {r : Option Value} {cc : ByteArray} {ret : Option FieldType}
    (hx : p.tables.exec = Jvm.exec) (hb : c.code = cc) (hr : meth.sig.returnType = ret) (hlocks : meth.locks = false) (hdg : decode cc pc = .ok (i, ma_ln pc i)) (hlk : (o = [0] → i = .ireturn → ret = some .int) ∧ (o = [1] → i = .ireturn → ret = some .boolean) ∧ (i = .return_ → ret = none) ∧ (i = .lreturn → ret = some .long))
    (hs : ma_r i o S = some r) : ma_G D cl ad base p l e R s m args below meth c (MQ below (ma_Qc D cl ad base r h) args s cells slots (fun q => base ≤ q)) nL pc L S h cells slots := by
  intro H locs ls hH hF hl hn
  have hq : ∀ t : State, t.heap = H → s.WarmedH t.vm → ma_Qc D cl ad base r h args s (.returned (r.map (ma_va ad))) t := fun t ht hW => ⟨rfl, by rw [ht]; exact hH.moved hW.alike, fun q hq => by rw [ht]; exact hF.1 q hq⟩
  unfold ma_r at hs
  split at hs
  · cases hs
    exact W.iret hx hb (hr.trans (hlk.1 rfl rfl)) hq hF.2 hdg hlocks
  · split at hs
    next hz =>
      cases hs
      refine W.zret hx hb (hr.trans (hlk.2.1 rfl rfl)) ?_ hq hF.2 hdg hlocks
      rcases hz with rfl | rfl <;> decide +kernel
    next => cases hs
  · cases hs
    exact W.lret hx hb (hr.trans (hlk.2.2.2 rfl)) hq hF.2 hdg hlocks
  · cases hs
    exact W.vret hx hb (hr.trans (hlk.2.2.1 rfl)) hq hF.2 hdg hlocks
  · cases hs
end MM
