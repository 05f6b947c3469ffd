section
/-! ===== A machine of its own over lists: cells by number, locals and stack as lists. Its runs are pure; that the true machine follows them is proved once (part 03) ===== -/
abbrev ma_C : Type := (Nat × vp_A) ⊕ (Nat × List Value)
abbrev ma_I : Type := Instr × List Nat
abbrev ma_L : Type := List (Option Value)
/-- what an array holds, by a number -/
def ma_ty : Nat → FieldType
  | 0 => .int
  | 1 => .byte
  | 2 => .long
  | 3 => .object "LetHorizon$Line"
  | _ => .array .int
/-- what may be put into a field, by a number -/
def ma_fit : Nat → Value → Bool
  | 0, .int _ => true
  | 1, .int x => x == 0 || x == 1
  | 2, .ref _ => true
  | 2, .null => true
  | _, _ => false
/-- a new array's contents -/
def ma_new : Nat → ((Nat → Int32) ⊕ (Nat → Int64) ⊕ (Nat → UInt32) ⊕ (Nat → UInt64) ⊕ (Nat → Option Nat))
  | 0 => .inl (fun _ => 0)
  | 1 => .inl (fun _ => 0)
  | 2 => .inr (.inl (fun _ => 0))
  | _ => .inr (.inr (.inr (.inr (fun _ => none))))
/-- a new object's fields, by the kinds of its fields -/
def ma_df (ks : List Nat) : List Value := ks.map fun k => if k = 2 then .null else .int 0
def ma_atc : ArrayType → Option Nat
  | .int => some 0
  | .byte => some 1
  | .long => some 2
  | _ => none
/-- a cell by its number: the script stands at 4096 -/
def ma_g (sc : Nat × (Nat → Int32)) (h : List ma_C) (k : Nat) : Option ma_C := if k = 4096 then some (.inl (0, sc.1, .inl sc.2)) else h[k]?
def ma_ld (L : ma_L) (k : Nat) : Option Value := match L[k]? with
  | some (some v) => some v
  | _ => none
/-- the plain instructions -/
def ma_s (sc : Nat × (Nat → Int32)) (ks : Nat → List Nat) (i : Instr) (o : List Nat) (L : ma_L) (S : List Value) (h : List ma_C) : Option (ma_L × List Value × List ma_C) :=
  match i with
  | .iconst n => some (L, .int (Int32.ofInt n) :: S, h)
  | .bipush n => some (L, .int (Int32.ofInt n) :: S, h)
  | .sipush n => some (L, .int (Int32.ofInt n) :: S, h)
  | .lconst n => some (L, .long (Int64.ofNat n) :: S, h)
  | .aconst_null => some (L, .null :: S, h)
  | .ldc _ => match o with
    | [0, v] => some (L, .int (Int32.ofNat v) :: S, h)
    | [1, v] => some (L, .ref (4097 + v) :: S, h)
    | _ => none
  | .ldc_w _ => match o with
    | [0, v] => some (L, .int (Int32.ofNat v) :: S, h)
    | _ => none
  | .ldc2_w _ => match o with
    | [v] => some (L, .long (Int64.ofNat v) :: S, h)
    | _ => none
  | .iload k => match ma_ld L k with
    | some (.int x) => some (L, .int x :: S, h)
    | _ => none
  | .iload_n k => match ma_ld L k with
    | some (.int x) => some (L, .int x :: S, h)
    | _ => none
  | .lload k => match ma_ld L k, L[k + 1]? with
    | some (.long x), some none => some (L, .long x :: S, h)
    | _, _ => none
  | .lload_n k => match ma_ld L k, L[k.val + 1]? with
    | some (.long x), some none => some (L, .long x :: S, h)
    | _, _ => none
  | .aload k => match ma_ld L k with
    | some (.ref x) => some (L, .ref x :: S, h)
    | some .null => some (L, .null :: S, h)
    | _ => none
  | .aload_n k => match ma_ld L k with
    | some (.ref x) => some (L, .ref x :: S, h)
    | some .null => some (L, .null :: S, h)
    | _ => none
  | .istore k => match S with
    | .int x :: S => if k < L.length then some (L.set k (some (.int x)), S, h) else none
    | _ => none
  | .istore_n k => match S with
    | .int x :: S => if k.val < L.length then some (L.set k (some (.int x)), S, h) else none
    | _ => none
  | .lstore k => match S with
    | .long x :: S => if k + 1 < L.length then some ((L.set k (some (.long x))).set (k + 1) none, S, h) else none
    | _ => none
  | .lstore_n k => match S with
    | .long x :: S => if k.val + 1 < L.length then some ((L.set k (some (.long x))).set (k.val + 1) none, S, h) else none
    | _ => none
  | .astore k => match S with
    | .ref x :: S => if k < L.length then some (L.set k (some (.ref x)), S, h) else none
    | .null :: S => if k < L.length then some (L.set k (some .null), S, h) else none
    | _ => none
  | .astore_n k => match S with
    | .ref x :: S => if k.val < L.length then some (L.set k (some (.ref x)), S, h) else none
    | .null :: S => if k.val < L.length then some (L.set k (some .null), S, h) else none
    | _ => none
  | .iinc k n => match ma_ld L k with
    | some (.int x) => some (L.set k (some (.int (x + Int32.ofInt n))), S, h)
    | _ => none
  | .iadd => match S with
    | .int y :: .int x :: S => some (L, .int (x + y) :: S, h)
    | _ => none
  | .isub => match S with
    | .int y :: .int x :: S => some (L, .int (x - y) :: S, h)
    | _ => none
  | .imul => match S with
    | .int y :: .int x :: S => some (L, .int (x * y) :: S, h)
    | _ => none
  | .iand => match S with
    | .int y :: .int x :: S => some (L, .int (x &&& y) :: S, h)
    | _ => none
  | .ior => match S with
    | .int y :: .int x :: S => some (L, .int (x ||| y) :: S, h)
    | _ => none
  | .ixor => match S with
    | .int y :: .int x :: S => some (L, .int (x ^^^ y) :: S, h)
    | _ => none
  | .idiv => match S with
    | .int y :: .int x :: S => if y = 0 then none else some (L, .int (x / y) :: S, h)
    | _ => none
  | .irem => match S with
    | .int y :: .int x :: S => if y = 0 then none else some (L, .int (x - x / y * y) :: S, h)
    | _ => none
  | .ineg => match S with
    | .int x :: S => some (L, .int (-x) :: S, h)
    | _ => none
  | .ishl => match S with
    | .int y :: .int x :: S => some (L, .int (x <<< (y &&& 31)) :: S, h)
    | _ => none
  | .ishr => match S with
    | .int y :: .int x :: S => some (L, .int (x >>> (y &&& 31)) :: S, h)
    | _ => none
  | .iushr => match S with
    | .int y :: .int x :: S => some (L, .int ((x.toUInt32 >>> (y.toUInt32 &&& Int32.toUInt32 31)).toInt32) :: S, h)
    | _ => none
  | .ladd => match S with
    | .long y :: .long x :: S => some (L, .long (x + y) :: S, h)
    | _ => none
  | .land => match S with
    | .long y :: .long x :: S => some (L, .long (x &&& y) :: S, h)
    | _ => none
  | .lshl => match S with
    | .int y :: .long x :: S => some (L, .long (x <<< (y.toInt64 &&& 63)) :: S, h)
    | _ => none
  | .lshr => match S with
    | .int y :: .long x :: S => some (L, .long (x >>> (y.toInt64 &&& 63)) :: S, h)
    | _ => none
  | .lcmp => match S with
    | .long y :: .long x :: S => some (L, .int (lg_cmp x y) :: S, h)
    | _ => none
  | .i2l => match S with
    | .int x :: S => some (L, .long x.toInt64 :: S, h)
    | _ => none
  | .l2i => match S with
    | .long x :: S => some (L, .int x.toInt32 :: S, h)
    | _ => none
  | .i2b => match S with
    | .int x :: S => some (L, .int x.toInt8.toInt32 :: S, h)
    | _ => none
  | .i2c => match S with
    | .int x :: S => some (L, .int (x.toUInt32 % 65536).toInt32 :: S, h)
    | _ => none
  | .dup => match S with
    | .int x :: S => some (L, .int x :: .int x :: S, h)
    | .ref x :: S => some (L, .ref x :: .ref x :: S, h)
    | _ => none
  | .dup2 => match S with
    | .int y :: .ref x :: S => some (L, .int y :: .ref x :: .int y :: .ref x :: S, h)
    | .int y :: .int x :: S => some (L, .int y :: .int x :: .int y :: .int x :: S, h)
    | _ => none
  | .pop => match S with
    | .int _ :: S => some (L, S, h)
    | .ref _ :: S => some (L, S, h)
    | _ => none
  | .getfield _ => match o, S with
    | ci :: j :: _, .ref k :: S => match h[k]? with
      | some (.inr (c, fs)) => if c = ci then (match fs[j]? with
        | some v => some (L, v :: S, h)
        | none => none) else none
      | _ => none
    | _, _ => none
  | .putfield _ => match o, S with
    | ci :: j :: t :: _, v :: .ref k :: S => match h[k]? with
      | some (.inr (c, fs)) => if c = ci ∧ j < fs.length ∧ ma_fit t v = true then some (L, S, h.set k (.inr (c, fs.set j v))) else none
      | _ => none
    | _, _ => none
  | .arraylength => match S with
    | .ref k :: S => match ma_g sc h k with
      | some (.inl (_, n, _)) => some (L, .int (Int32.ofNat n) :: S, h)
      | _ => none
    | _ => none
  | .iaload => match S with
    | .int i :: .ref k :: S => match ma_g sc h k with
      | some (.inl (0, n, .inl f)) => if i < 0 ∨ n ≤ i.toNatClampNeg then none else some (L, .int (f i.toNatClampNeg) :: S, h)
      | _ => none
    | _ => none
  | .baload => match S with
    | .int i :: .ref k :: S => match h[k]? with
      | some (.inl (1, n, .inl f)) => if i < 0 ∨ n ≤ i.toNatClampNeg then none else some (L, .int (f i.toNatClampNeg) :: S, h)
      | _ => none
    | _ => none
  | .laload => match S with
    | .int i :: .ref k :: S => match h[k]? with
      | some (.inl (2, n, .inr (.inl f))) => if i < 0 ∨ n ≤ i.toNatClampNeg then none else some (L, .long (f i.toNatClampNeg) :: S, h)
      | _ => none
    | _ => none
  | .aaload => match S with
    | .int i :: .ref k :: S => match h[k]? with
      | some (.inl (t, n, .inr (.inr (.inr (.inr f))))) => if i < 0 ∨ n ≤ i.toNatClampNeg ∨ t < 3 then none else some (L, va_rf (f i.toNatClampNeg) :: S, h)
      | _ => none
    | _ => none
  | .iastore => match S with
    | .int x :: .int i :: .ref k :: S => match h[k]? with
      | some (.inl (0, n, .inl f)) => if i < 0 ∨ n ≤ i.toNatClampNeg then none else some (L, S, h.set k (.inl (0, n, .inl (upd f i.toNatClampNeg x))))
      | _ => none
    | _ => none
  | .bastore => match S with
    | .int x :: .int i :: .ref k :: S => match h[k]? with
      | some (.inl (1, n, .inl f)) => if i < 0 ∨ n ≤ i.toNatClampNeg then none else some (L, S, h.set k (.inl (1, n, .inl (upd f i.toNatClampNeg (vp_nar .byte x)))))
      | _ => none
    | _ => none
  | .lastore => match S with
    | .long x :: .int i :: .ref k :: S => match h[k]? with
      | some (.inl (2, n, .inr (.inl f))) => if i < 0 ∨ n ≤ i.toNatClampNeg then none else some (L, S, h.set k (.inl (2, n, .inr (.inl (vp_updL f i.toNatClampNeg x)))))
      | _ => none
    | _ => none
  | .aastore => match o, S with
    | ci :: _, .ref v :: .int i :: .ref k :: S => match h[k]?, h[v]? with
      | some (.inl (3, n, .inr (.inr (.inr (.inr f))))), some (.inr (c, _)) => if i < 0 ∨ n ≤ i.toNatClampNeg ∨ c ≠ ci then none else some (L, S, h.set k (.inl (3, n, .inr (.inr (.inr (.inr (va_up f i.toNatClampNeg (some v))))))))
      | _, _ => none
    | _, _ => none
  | .new _ => match o with
    | ci :: _ => if 4095 < h.length then none else some (L, .ref h.length :: S, h ++ [.inr (ci, ma_df (ks ci))])
    | _ => none
  | .newarray a => match ma_atc a, S with
    | some t, .int n :: S => if n < 0 ∨ 4095 < h.length ∨ 20000 < n.toNatClampNeg then none else some (L, .ref h.length :: S, h ++ [.inl (t, n.toNatClampNeg, ma_new t)])
    | _, _ => none
  | .anewarray _ => match S with
    | .int n :: S => if n < 0 ∨ 4095 < h.length ∨ 20000 < n.toNatClampNeg then none else some (L, .ref h.length :: S, h ++ [.inl (3, n.toNatClampNeg, ma_new 3)])
    | _ => none
  | .multianewarray _ 2 => match S with
    | .int k :: .int n :: S => if n < 0 ∨ k < 0 ∨ 3000 < h.length ∨ 1000 < n.toNatClampNeg ∨ 20000 < k.toNatClampNeg then none else
        some (L, .ref h.length :: S, h ++ .inl (4, n.toNatClampNeg, .inr (.inr (.inr (.inr (fun i => if i < n.toNatClampNeg then some (h.length + 1 + i) else none))))) :: List.replicate n.toNatClampNeg (.inl (0, k.toNatClampNeg, .inl (fun _ => 0))))
    | _ => none
  | _ => none
/-- the jumps: where to, or on -/
def ma_cmp : ClassFile.Cond → Int32 → Int32 → Bool
  | .eq, x, y => decide (x = y)
  | .ne, x, y => decide (¬ x = y)
  | .lt, x, y => decide (x < y)
  | .ge, x, y => decide (y ≤ x)
  | .gt, x, y => decide (y < x)
  | .le, x, y => decide (x ≤ y)
def ma_j (i : Instr) (o : List Nat) (S : List Value) : Option (Option Nat × List Value) :=
  match i with
  | .nop => match o with
    | [t] => some (some t, S)
    | _ => none
  | .goto _ => match o with
    | [t] => some (some t, S)
    | _ => none
  | .if_icmp c _ => match o, S with
    | [t], .int y :: .int x :: S => some (if ma_cmp c x y = true then some t else none, S)
    | _, _ => none
  | .ifCond c _ => match o, S with
    | [t], .int x :: S => some (if ma_cmp c x 0 = true then some t else none, S)
    | _, _ => none
  | .ifnull _ => match o, S with
    | [t], .null :: S => some (some t, S)
    | [_], .ref _ :: S => some (none, S)
    | _, _ => none
  | .ifnonnull _ => match o, S with
    | [_], .null :: S => some (none, S)
    | [t], .ref _ :: S => some (some t, S)
    | _, _ => none
  | .tableswitch _ lo hi _ => match o, S with
    | t0 :: ts, .int x :: S => if x.toInt < lo ∨ hi < x.toInt then some (some t0, S) else (match ts[(x.toInt - lo).toNat]? with
      | some t => some (some t, S)
      | none => none)
    | _, _ => none
  | _ => none
/-- the calls: whom (1: nobody, 2: the arrays' copier, 3 ..: texts; 0: a method of the table), with what, what stays -/
def ma_c (i : Instr) (o : List Nat) (S : List Value) (h : List ma_C) : Option (Nat × List Value × List Value) :=
  let go (m n ci : Nat) : Option (Nat × List Value × List Value) :=
    if S.length < n then none else
      let a := (S.take n).reverse
      match ci, a with
      | 0, a => some (m, a, S.drop n)
      | ci + 1, .ref k :: a => match h[k]? with
        | some (.inr (c, _)) => if c = ci then some (m, .ref k :: a, S.drop n) else none
        | _ => none
      | _, _ => none
  match i, o with
  | .invokevirtual _, [0, m, n, ci] => go m n (ci + 1)
  | .invokespecial _, [0, m, n, ci] => go m n (ci + 1)
  | .invokestatic _, [0, m, n] => go m n 0
  | _, _ => none
def ma_ent : List Value → ma_L
  | [] => []
  | v :: a => if v.category = 2 then some v :: none :: ma_ent a else some v :: ma_ent a
/-- a method's first locals -/
def ma_en (a : List Value) (n : Nat) : ma_L := ma_ent a ++ List.replicate (n - (ma_ent a).length) none
/-- what is done by the machine itself, or by a method that isn't of the table -/
def ma_x (tx : Nat → Int32 → Option Int32) (i : Instr) (o : List Nat) (S : List Value) (h : List ma_C) : Option (List Value × List ma_C) :=
  match i, o with
  | .invokespecial _, [1] => match S with
    | .ref _ :: S => some (S, h)
    | _ => none
  | .invokestatic _, [2] => match S with
    | .int n :: .int dp :: .ref b :: .int sp :: .ref a :: S => match h[a]?, h[b]? with
      | some (.inl (0, n0, .inl f)), some (.inl (0, n1, .inl g)) =>
        if n < 0 ∨ dp < 0 ∨ sp < 0 ∨ n0 < sp.toNatClampNeg + n.toNatClampNeg ∨ n1 < dp.toNatClampNeg + n.toNatClampNeg then none
        else some (S, h.set b (.inl (0, n1, .inl (va_cpy f g sp.toNatClampNeg dp.toNatClampNeg n.toNatClampNeg))))
      | _, _ => none
    | _ => none
  | .invokevirtual _, [3, k] => match S with
    | .ref a :: S => if a = 4097 + k then (match tx (3 * k) 0 with
      | some x => some (.int x :: S, h)
      | none => none) else none
    | _ => none
  | .invokevirtual _, [4, k] => match S with
    | .int j :: .ref a :: S => if a = 4097 + k then (match tx (3 * k + 1) j with
      | some x => some (.int x :: S, h)
      | none => none) else none
    | _ => none
  | .invokevirtual _, [5, k] => match S with
    | .int j :: .ref a :: S => if a = 4097 + k then (match tx (3 * k + 2) j with
      | some x => some (.int x :: S, h)
      | none => none) else none
    | _ => none
  | _, _ => none
def ma_r (i : Instr) (o : List Nat) (S : List Value) : Option (Option Value) :=
  match i, o, S with
  | .ireturn, [0], [.int x] => some (some (.int x))
  | .ireturn, [1], [.int x] => if x = 0 ∨ x = 1 then some (some (.int x)) else none
  | .lreturn, _, [.long x] => some (some (.long x))
  | .return_, _, [] => some none
  | _, _, _ => none
/-- of which kind an instruction is: 0 plain, 1 a jump, 2 a call, 3 an end, 4 what the machine does itself -/
def ma_k : Instr → List Nat → Nat
  | .nop, _ | .goto _, _ | .if_icmp _ _, _ | .ifCond _ _, _ | .ifnull _, _ | .ifnonnull _, _ | .tableswitch _ _ _ _, _ => 1
  | .invokevirtual _, 0 :: _ | .invokespecial _, 0 :: _ | .invokestatic _, 0 :: _ => 2
  | .invokevirtual _, _ | .invokespecial _, _ | .invokestatic _, _ => 4
  | .ireturn, _ | .lreturn, _ | .return_, _ => 3
  | _, _ => 0
/-- a program: the blocks of each method by their first places, the length of each method's locals, the kinds of each sort's fields, the texts, the script -/
abbrev ma_P : Type := (Nat → Nat → List ma_I) × (Nat → Nat) × (Nat → List Nat) × (Nat → Int32 → Option Int32) × (Nat × (Nat → Int32))
def ma_run (P : ma_P) : Nat → Nat → Nat → List ma_I → ma_L → List Value → List ma_C → Option (Option Value × List ma_C)
  | 0, _, _, _, _, _, _ => none
  | _ + 1, _, _, [], _, _, _ => none
  | n + 1, d, m, (i, o) :: is, L, S, h =>
    match ma_k i o with
    | 0 => match ma_s P.2.2.2.2 P.2.2.1 i o L S h with
      | some (L, S, h) => ma_run P n d m is L S h
      | none => none
    | 1 => match ma_j i o S with
      | some (some t, S) => ma_run P n d m (P.1 m t) L S h
      | some (none, S) => ma_run P n d m is L S h
      | none => none
    | 2 => match ma_c i o S h with
      | some (m', a, S) => match d with
        | 0 => none
        | d + 1 => match ma_run P n d m' (P.1 m' 0) (ma_en a (P.2.1 m')) [] h with
          | some (r, h) => ma_run P n (d + 1) m is L (r.toList ++ S) h
          | none => none
      | none => none
    | 3 => match ma_r i o S with
      | some r => some (r, h)
      | none => none
    | _ => match ma_x P.2.2.2.1 i o S h with
      | some (S, h) => ma_run P n d m is L S h
      | none => none
end
section
/-! ===== How the machine's lists stand for the true heap ===== -/
def ma_va (ad : Nat → Nat) : Value → Value
  | .ref k => .ref (ad k)
  | v => v
def ma_ac (ad : Nat → Nat) (x : vp_A) : vp_A := (x.1, match x.2 with
  | .inr (.inr (.inr (.inr f))) => .inr (.inr (.inr (.inr (fun j => (f j).map ad))))
  | y => y)
def ma_at (D : va_G) (cl : List vw_C) (ad : Nat → Nat) (s : State) (H : Heap) (a : Nat) (c : ma_C) : Prop := match c with
  | .inl q => ∃ cA : ClassId, ArrOfT s cA (ma_ty q.1) ∧ (q.1 = 3 → va_RA s cA (ma_ty 3)) ∧ H[a]? = some (vp_cell cA (ma_ac ad q.2))
  | .inr q => ∃ r : vw_C, cl[q.1]? = some r ∧ q.2.length = r.2.2 ∧ t_OB a (D.1 q.1) r.2.2 (D.2 q.1) H (vp_V (q.2.map (ma_va ad)))
def ma_H (D : va_G) (cl : List vw_C) (ad : Nat → Nat) (base : Nat) (s : State) (H : Heap) (h : List ma_C) : Prop :=
  H.size = base + h.length ∧ h.length ≤ 4096 ∧ ∀ (k : Nat) (c : ma_C), h[k]? = some c → ma_at D cl ad s H (base + k) c
def ma_F (base : Nat) (s : State) (H : Heap) (locs : List Loc) : Prop := (∀ q : Nat, q < base → H[q]? = s.heap[q]?) ∧ ∀ l ∈ locs, base ≤ l.base
theorem ma_va_cat (ad : Nat → Nat) (v : Value) : (ma_va ad v).category = v.category := by cases v <;> rfl
theorem ma_at.kept {D : va_G} {cl : List vw_C} {ad : Nat → Nat} {s : State} {H H1 : Heap} {a : Nat} {c : ma_C} (h : ma_at D cl ad s H a c) (e : H1[a]? = H[a]?) : ma_at D cl ad s H1 a c := by
  cases c with
  | inl q =>
    obtain ⟨cA, h1, h2, h3⟩ := h
    exact ⟨cA, h1, h2, e.trans h3⟩
  | inr q =>
    obtain ⟨r, h1, h2, h3⟩ := h
    exact ⟨r, h1, h2, h3.kept e⟩
theorem ma_at.moved {D : va_G} {cl : List vw_C} {ad : Nat → Nat} {u U : State} {H : Heap} {a : Nat} {c : ma_C} (hvm : u.vm.Alike U.vm) (h : ma_at D cl ad u H a c) : ma_at D cl ad U H a c := by
  cases c with
  | inl q =>
    obtain ⟨cA, h1, h2, h3⟩ := h
    exact ⟨cA, arrOfT_moved hvm h1, fun z => (h2 z).moved hvm, h3⟩
  | inr q => exact h
theorem ma_H.moved {D : va_G} {cl : List vw_C} {ad : Nat → Nat} {base : Nat} {u U : State} {H : Heap} {h : List ma_C} (hvm : u.vm.Alike U.vm) (hh : ma_H D cl ad base u H h) : ma_H D cl ad base U H h :=
  ⟨hh.1, hh.2.1, fun k c hk => (hh.2.2 k c hk).moved hvm⟩
theorem ma_H.set {D : va_G} {cl : List vw_C} {ad : Nat → Nat} {base : Nat} {s : State} {H H1 : Heap} {h : List ma_C} {k : Nat} {c : ma_C} (hh : ma_H D cl ad base s H h) (e1 : H1.size = H.size) (e2 : ∀ q, q ≠ base + k → H1[q]? = H[q]?) (e3 : ma_at D cl ad s H1 (base + k) c) : ma_H D cl ad base s H1 (h.set k c) := by
  refine ⟨by rw [e1, hh.1, List.length_set], by rw [List.length_set]; exact hh.2.1, fun j x hj => ?_⟩
  rw [List.getElem?_set] at hj
  split at hj
  next hkj =>
    subst hkj
    split at hj
    next => cases hj; exact e3
    next => cases hj
  next hkj => exact (hh.2.2 j x hj).kept (e2 _ (by omega))
theorem ma_H.push {D : va_G} {cl : List vw_C} {ad : Nat → Nat} {base : Nat} {s : State} {H H1 : Heap} {h : List ma_C} {c : ma_C} (hh : ma_H D cl ad base s H h) (hl : ¬ 4095 < h.length) (e1 : H1.size = H.size + 1) (e2 : ∀ q, q < H.size → H1[q]? = H[q]?) (e3 : ma_at D cl ad s H1 H.size c) : ma_H D cl ad base s H1 (h ++ [c]) := by
  refine ⟨by rw [e1, hh.1, List.length_append, List.length_singleton]; omega, by rw [List.length_append, List.length_singleton]; omega, fun j x hj => ?_⟩
  by_cases hjl : j < h.length
  · rw [List.getElem?_append_left hjl] at hj
    exact (hh.2.2 j x hj).kept (e2 _ (by rw [hh.1]; omega))
  · rw [List.getElem?_append_right (by omega)] at hj
    have h0 : j - h.length < 1 := (List.getElem?_eq_some_iff.mp hj).1
    have hz : j = h.length := by omega
    subst hz
    simp only [Nat.sub_self, List.getElem?_cons_zero, Option.some.injEq] at hj
    subst hj
    rw [← hh.1]
    exact e3
theorem ma_F.put {base : Nat} {s : State} {H H1 : Heap} {locs : List Loc} {a i : Nat} (hF : ma_F base s H locs) (ha : base ≤ a) (e2 : ∀ q, q ≠ a → H1[q]? = H[q]?) : ma_F base s H1 (locs ++ [⟨a, i⟩]) := by
  refine ⟨fun q hq => (e2 q (by omega)).trans (hF.1 q hq), fun l hl => ?_⟩
  rcases List.mem_append.mp hl with h | h
  · exact hF.2 l h
  · rw [List.mem_singleton] at h
    subst h
    exact ha
theorem ma_F.push {base : Nat} {s : State} {H H1 : Heap} {locs : List Loc} (hF : ma_F base s H locs) (hb : base ≤ H.size) (e2 : ∀ q, q < H.size → H1[q]? = H[q]?) : ma_F base s H1 locs :=
  ⟨fun q hq => (e2 q (by omega)).trans (hF.1 q hq), hF.2⟩
/-! the locals -/
def ma_lvo (ad : Nat → Nat) (L : ma_L) (i : Nat) : Option (Nat × Value) := match L[i]? with
  | some (some v) => if v.category = 1 ∨ L[i + 1]? = some none then some (i, ma_va ad v) else none
  | _ => none
def ma_lv (ad : Nat → Nat) (L : ma_L) : List (Nat × Value) := (List.range L.length).filterMap (ma_lvo ad L)
theorem ma_lv_mem {ad : Nat → Nat} {L : ma_L} {q : Nat × Value} : q ∈ ma_lv ad L ↔ ∃ v, L[q.1]? = some (some v) ∧ (v.category = 1 ∨ L[q.1 + 1]? = some none) ∧ q.2 = ma_va ad v := by
  unfold ma_lv
  rw [List.mem_filterMap]
  constructor
  · rintro ⟨i, -, hi⟩
    unfold ma_lvo at hi
    split at hi
    next v hv =>
      split at hi
      next hc => cases hi; exact ⟨v, hv, hc, rfl⟩
      next => cases hi
    next => cases hi
  · rintro ⟨v, h1, h2, h3⟩
    refine ⟨q.1, List.mem_range.mpr (List.getElem?_eq_some_iff.mp h1).1, ?_⟩
    unfold ma_lvo
    rw [h1]
    simp only [if_pos h2, ← h3]
theorem ma_ld_some {L : ma_L} {k : Nat} {v : Value} (h : ma_ld L k = some v) : L[k]? = some (some v) := by
  unfold ma_ld at h
  split at h
  next w hw => cases h; exact hw
  next => cases h
theorem ma_lv_get {ad : Nat → Nat} {L : ma_L} {ls : Array Slot} {nL k : Nat} {v : Value} (hl : lv_has ls nL (ma_lv ad L)) (h : ma_ld L k = some v) (hc : v.category = 1 ∨ L[k + 1]? = some none) : ls[k]? = some (.val (ma_va ad v)) :=
  hl.2.2 (k, ma_va ad v) (ma_lv_mem.mpr ⟨v, ma_ld_some h, hc, rfl⟩)
theorem ma_lv_set {ad : Nat → Nat} {L : ma_L} {ls : Array Slot} {nL k : Nat} {v : Value} (hc : v.category = 1) (hl : lv_has ls nL ((k, ma_va ad v) :: (ma_lv ad L).filter (fun q => !(q.1 == k) && !(q.1 + 1 == k && q.2.category == 2)))) : lv_has ls nL (ma_lv ad (L.set k (some v))) := by
  refine ⟨hl.1, hl.2.1, fun q hq => hl.2.2 q ?_⟩
  obtain ⟨w, h1, h2, h3⟩ := ma_lv_mem.mp hq
  by_cases hk : q.1 = k
  · refine List.mem_cons.mpr (Or.inl ?_)
    rw [hk, List.getElem?_set_self' ] at h1
    obtain ⟨a, b⟩ := q
    simp only at hk h3
    cases hL : L[k]? with
    | none => rw [hL] at h1; cases h1
    | some z =>
      rw [hL] at h1
      simp at h1
      rw [hk, h3, ← h1]
  · refine List.mem_cons.mpr (Or.inr (List.mem_filter.mpr ⟨ma_lv_mem.mpr ⟨w, ?_, ?_, h3⟩, ?_⟩))
    · rwa [List.getElem?_set_ne (Ne.symm hk)] at h1
    · rcases h2 with h2 | h2
      · exact Or.inl h2
      · by_cases hk1 : q.1 + 1 = k
        · exfalso
          rw [hk1, List.getElem?_set_self'] at h2
          cases hL : L[k]? with
          | none => rw [hL] at h2; cases h2
          | some z => rw [hL] at h2; simp at h2
        · rw [List.getElem?_set_ne (Ne.symm hk1)] at h2
          exact Or.inr h2
    · rw [h3, ma_va_cat]
      rcases h2 with h2 | h2
      · simp [hk, h2]
      · have hk1 : ¬ q.1 + 1 = k := by
          intro hk1
          rw [hk1, List.getElem?_set_self'] at h2
          cases hL : L[k]? with
          | none => rw [hL] at h2; cases h2
          | some z => rw [hL] at h2; simp at h2
        simp [hk, hk1]
theorem ma_lv_set2 {ad : Nat → Nat} {L : ma_L} {ls : Array Slot} {nL k : Nat} {x : Int64} (hl : lv_has ls nL ((k, Value.long x) :: (ma_lv ad L).filter (fun q => !(q.1 == k) && (!(q.1 == k + 1) && !(q.1 + 1 == k && q.2.category == 2))))) : lv_has ls nL (ma_lv ad ((L.set k (some (.long x))).set (k + 1) none)) := by
  refine ⟨hl.1, hl.2.1, fun q hq => hl.2.2 q ?_⟩
  obtain ⟨w, h1, h2, h3⟩ := ma_lv_mem.mp hq
  have hk1 : ¬ q.1 = k + 1 := by
    intro hk1
    rw [hk1, List.getElem?_set_self'] at h1
    cases hL : (L.set k (some (Value.long x)))[k + 1]? with
    | none => rw [hL] at h1; cases h1
    | some z => rw [hL] at h1; simp at h1
  rw [List.getElem?_set_ne (Ne.symm hk1)] at h1
  by_cases hk : q.1 = k
  · refine List.mem_cons.mpr (Or.inl ?_)
    rw [hk, List.getElem?_set_self'] at h1
    obtain ⟨a, b⟩ := q
    simp only at hk h3
    cases hL : L[k]? with
    | none => rw [hL] at h1; cases h1
    | some z =>
      rw [hL] at h1
      simp at h1
      rw [hk, h3, ← h1]
      rfl
  · refine List.mem_cons.mpr (Or.inr (List.mem_filter.mpr ⟨ma_lv_mem.mpr ⟨w, ?_, ?_, h3⟩, ?_⟩))
    · rwa [List.getElem?_set_ne (Ne.symm hk)] at h1
    · rcases h2 with h2 | h2
      · exact Or.inl h2
      · by_cases hk2 : q.1 + 1 = k
        · exfalso
          rw [List.getElem?_set_ne (by omega), hk2, List.getElem?_set_self'] at h2
          cases hL : L[k]? with
          | none => rw [hL] at h2; cases h2
          | some z => rw [hL] at h2; simp at h2
        · rw [List.getElem?_set_ne (by omega), List.getElem?_set_ne (Ne.symm hk2)] at h2
          exact Or.inr h2
    · rw [h3, ma_va_cat]
      rcases h2 with h2 | h2
      · simp [hk, hk1, h2]
      · have hk2 : ¬ q.1 + 1 = k := by
          intro hk2
          rw [List.getElem?_set_ne (by omega), hk2, List.getElem?_set_self'] at h2
          cases hL : L[k]? with
          | none => rw [hL] at h2; cases h2
          | some z => rw [hL] at h2; simp at h2
        simp [hk, hk1, hk2]
/-! what stays the same in a method's walk -/
def ma_kt : Nat → FieldType → Bool
  | 0, .int => true
  | 1, .boolean => true
  | 2, .object _ => true
  | 2, .array _ => true
  | _, _ => false
theorem ma_kt_fit {t : Nat} {ty : FieldType} {v : Value} {ad : Nat → Nat} (h : ma_kt t ty = true) (hv : ma_fit t v = true) : narrow ty (ma_va ad v) = ma_va ad v ∧ fits ty (ma_va ad v) = true := by
  unfold ma_kt at h
  split at h
  · cases v <;> first | (simp [ma_fit] at hv; done) | exact ⟨rfl, rfl⟩
  · cases v with
    | int x =>
      simp only [ma_fit, Bool.or_eq_true, beq_iff_eq] at hv
      rcases hv with rfl | rfl
      · show narrow .boolean (.int 0) = .int 0 ∧ fits .boolean (.int 0) = true
        exact ⟨by decide +kernel, by decide +kernel⟩
      · show narrow .boolean (.int 1) = .int 1 ∧ fits .boolean (.int 1) = true
        exact ⟨by decide +kernel, by decide +kernel⟩
    | _ => simp [ma_fit] at hv
  · cases v <;> first | (simp [ma_fit] at hv; done) | exact ⟨rfl, rfl⟩
  · cases v <;> first | (simp [ma_fit] at hv; done) | exact ⟨rfl, rfl⟩
  · cases h
/-- what is known of the sorts of objects: their words are among G, their fields' names differ, the kinds of their fields -/
def ma_cls (cl : List vw_C) (ks : Nat → List Nat) (G : List Jvm.Cond) : Prop :=
  ∀ (ci : Nat) (C : String) (T : u_T) (N : Nat), cl[ci]? = some (C, T, N) → (∀ w ∈ u_ws C T N, w ∈ G) ∧ (∀ a, a < N → ∀ b, b < N → a ≠ b → (T a).2.1 ≠ (T b).2.1) ∧ (ks ci).length = N ∧
    ∀ k, k < N → (T k).1 = C ∧ ∃ ty, parseFieldDescriptor (T k).2.2.1 = some ty ∧ ∃ t, (ks ci)[k]? = some t ∧ ma_kt t ty = true
def ma_fl (cl : List vw_C) (G : List Jvm.Cond) (own : String) (x ci j : Nat) : Prop :=
  ∃ (C : String) (T : u_T) (N : Nat), cl[ci]? = some (C, T, N) ∧ j < N ∧ (Jvm.Cond.fieldLink own x C (T j).2.1 (T j).2.2.1 ∈ G ∨ ∃ host, Jvm.Cond.fieldLinkNest own x C (T j).2.1 (T j).2.2.1 host ∈ G)
/-- a field that is put: it isn't final, or this is its own maker -/
def ma_fp (cl : List vw_C) (G : List Jvm.Cond) (own : String) (ini : Bool) (x ci j : Nat) : Prop :=
  ∃ (C : String) (T : u_T) (N : Nat), cl[ci]? = some (C, T, N) ∧ j < N ∧ (((T j).2.2.2 = false ∧ (Jvm.Cond.fieldLink own x C (T j).2.1 (T j).2.2.1 ∈ G ∨ ∃ host, Jvm.Cond.fieldLinkNest own x C (T j).2.1 (T j).2.2.1 host ∈ G)) ∨
    ((T j).2.2.2 = true ∧ ini = true ∧ C = own ∧ Jvm.Cond.fieldLink own x C (T j).2.1 (T j).2.2.1 ∈ G))
def ma_X (D : va_G) (cl : List vw_C) (ks : Nat → List Nat) (ad : Nat → Nat) (base : Nat) (sc : Nat × (Nat → Int32)) (G : List Jvm.Cond) (own : String) (ini : Bool) (p : Program) (s : State) (m : MethodId) (args : Array Value) (meth : Method) (c : Code) (cc : ByteArray) (nL : Nat) : Prop :=
  p.tables.exec = Jvm.exec ∧ c.code = cc ∧ c.maxLocals = nL ∧ s.vm.findClass own = some m.cls ∧ (∀ w ∈ G, w.before args s = true) ∧ (∀ (ci : Nat) (q : vw_C), cl[ci]? = some q → u_Kn s q.1 q.2.1 q.2.2 (D.1 ci) (D.2 ci)) ∧ (∀ k, k < 4096 → ad k = base + k) ∧ (ini = true → meth.name = "<init>") ∧ ma_cls cl ks G ∧ va_X (ad 4096) sc.1 sc.2 s s.heap ∧ ad 4096 < base
/-- the machine's state stands for the true one, from which the end is reached -/
def ma_G (D : va_G) (cl : List vw_C) (ad : Nat → Nat) (base : Nat) (p : Program) (l : Launch) (e : Env) (R : Room) (s : State) (m : MethodId) (args : Array Value) (below : List Frame) (meth : Method) (c : Code) (Q : State → Prop) (nL pc : Nat) (L : ma_L) (S : List Value) (h : List ma_C) (cells slots : Nat) : Prop :=
  ∀ (H : Heap) (locs : List Loc) (ls : Array Slot), ma_H D cl ad base s H h → ma_F base s H locs → lv_has ls nL (ma_lv ad L) → L.length = nL → W p l e R s m args below meth c H locs cells slots Q (F0 m pc ls (S.map (ma_va ad)))
end
section
section MS
variable {D : va_G} {cl : List vw_C} {ks : Nat → List Nat} {ad : Nat → Nat} {base : Nat} {G : List Jvm.Cond} {own : String} {ini : Bool} {p : Program} {l : Launch} {e : Env} {R : Room} {s : State} {m : MethodId} {args : Array Value} {below : List Frame} {meth : Method} {c : Code} {cc : ByteArray} {nL pc : Nat} {Q : State → Prop} {sc : Nat × (Nat → Int32)} {o : List Nat} {L L' : ma_L} {S S' : List Value} {h h' : List ma_C} {cells slots : Nat}

theorem ma_o_iconst {n : Int} (X : ma_X D cl ks ad base sc G own ini p s m args meth c cc nL) (hdg : decode cc pc = .ok (.iconst n, 1)) (hs : ma_s sc ks (.iconst n) o L S h = some (L', S', h')) (k : ma_G D cl ad base p l e R s m args below meth c Q nL (pc + 1) L' S' h' cells slots) : ma_G D cl ad base p l e R s m args below meth c Q nL pc L S h cells slots := by
  obtain ⟨hx, hb, hml, hown, hts, hkn, had, hini, hcls, hsx, hsb⟩ := X
  simp only [ma_s] at hs
  cases hs
  intro H locs ls hH hF hl hn
  exact lv_iconst hx hb hdg rfl (k H locs ls hH hF hl hn)

theorem ma_o_bipush {n : Int} (X : ma_X D cl ks ad base sc G own ini p s m args meth c cc nL) (hdg : decode cc pc = .ok (.bipush n, 2)) (hlk : (Int8.ofInt n).toInt32 = Int32.ofInt n) (hs : ma_s sc ks (.bipush n) o L S h = some (L', S', h')) (k : ma_G D cl ad base p l e R s m args below meth c Q nL (pc + 2) L' S' h' cells slots) : ma_G D cl ad base p l e R s m args below meth c Q nL pc L S h cells slots := by
  obtain ⟨hx, hb, hml, hown, hts, hkn, had, hini, hcls, hsx, hsb⟩ := X
  simp only [ma_s] at hs
  cases hs
  intro H locs ls hH hF hl hn
  exact lv_bipush hx hb hdg hlk (k H locs ls hH hF hl hn)

theorem ma_o_sipush {n : Int} (X : ma_X D cl ks ad base sc G own ini p s m args meth c cc nL) (hdg : decode cc pc = .ok (.sipush n, 3)) (hlk : (Int16.ofInt n).toInt32 = Int32.ofInt n) (hs : ma_s sc ks (.sipush n) o L S h = some (L', S', h')) (k : ma_G D cl ad base p l e R s m args below meth c Q nL (pc + 3) L' S' h' cells slots) : ma_G D cl ad base p l e R s m args below meth c Q nL pc L S h cells slots := by
  obtain ⟨hx, hb, hml, hown, hts, hkn, had, hini, hcls, hsx, hsb⟩ := X
  simp only [ma_s] at hs
  cases hs
  intro H locs ls hH hF hl hn
  exact lv_sipush hx hb hdg hlk (k H locs ls hH hF hl hn)

theorem ma_o_lconst {n : Fin 2} (X : ma_X D cl ks ad base sc G own ini p s m args meth c cc nL) (hdg : decode cc pc = .ok (.lconst n, 1)) (hs : ma_s sc ks (.lconst n) o L S h = some (L', S', h')) (k : ma_G D cl ad base p l e R s m args below meth c Q nL (pc + 1) L' S' h' cells slots) : ma_G D cl ad base p l e R s m args below meth c Q nL pc L S h cells slots := by
  obtain ⟨hx, hb, hml, hown, hts, hkn, had, hini, hcls, hsx, hsb⟩ := X
  simp only [ma_s] at hs
  cases hs
  intro H locs ls hH hF hl hn
  exact lv_lconst hx hb hdg rfl (k H locs ls hH hF hl hn)

theorem ma_o_null (X : ma_X D cl ks ad base sc G own ini p s m args meth c cc nL) (hdg : decode cc pc = .ok (.aconst_null, 1)) (hs : ma_s sc ks (.aconst_null) o L S h = some (L', S', h')) (k : ma_G D cl ad base p l e R s m args below meth c Q nL (pc + 1) L' S' h' cells slots) : ma_G D cl ad base p l e R s m args below meth c Q nL pc L S h cells slots := by
  obtain ⟨hx, hb, hml, hown, hts, hkn, had, hini, hcls, hsx, hsb⟩ := X
  simp only [ma_s] at hs
  cases hs
  intro H locs ls hH hF hl hn
  exact lv_null hx hb hdg (k H locs ls hH hF hl hn)

theorem ma_o_iadd (X : ma_X D cl ks ad base sc G own ini p s m args meth c cc nL) (hdg : decode cc pc = .ok (.iadd, 1)) (hs : ma_s sc ks (.iadd) o L S h = some (L', S', h')) (k : ma_G D cl ad base p l e R s m args below meth c Q nL (pc + 1) L' S' h' cells slots) : ma_G D cl ad base p l e R s m args below meth c Q nL pc L S h cells slots := by
  obtain ⟨hx, hb, hml, hown, hts, hkn, had, hini, hcls, hsx, hsb⟩ := X
  simp only [ma_s] at hs
  split at hs
  · cases hs
    intro H locs ls hH hF hl hn
    exact lv_iadd hx hb hdg (k H locs ls hH hF hl hn)
  · cases hs

theorem ma_o_isub (X : ma_X D cl ks ad base sc G own ini p s m args meth c cc nL) (hdg : decode cc pc = .ok (.isub, 1)) (hs : ma_s sc ks (.isub) o L S h = some (L', S', h')) (k : ma_G D cl ad base p l e R s m args below meth c Q nL (pc + 1) L' S' h' cells slots) : ma_G D cl ad base p l e R s m args below meth c Q nL pc L S h cells slots := by
  obtain ⟨hx, hb, hml, hown, hts, hkn, had, hini, hcls, hsx, hsb⟩ := X
  simp only [ma_s] at hs
  split at hs
  · cases hs
    intro H locs ls hH hF hl hn
    exact lv_isub hx hb hdg (k H locs ls hH hF hl hn)
  · cases hs

theorem ma_o_imul (X : ma_X D cl ks ad base sc G own ini p s m args meth c cc nL) (hdg : decode cc pc = .ok (.imul, 1)) (hs : ma_s sc ks (.imul) o L S h = some (L', S', h')) (k : ma_G D cl ad base p l e R s m args below meth c Q nL (pc + 1) L' S' h' cells slots) : ma_G D cl ad base p l e R s m args below meth c Q nL pc L S h cells slots := by
  obtain ⟨hx, hb, hml, hown, hts, hkn, had, hini, hcls, hsx, hsb⟩ := X
  simp only [ma_s] at hs
  split at hs
  · cases hs
    intro H locs ls hH hF hl hn
    exact lv_imul hx hb hdg (k H locs ls hH hF hl hn)
  · cases hs

theorem ma_o_iand (X : ma_X D cl ks ad base sc G own ini p s m args meth c cc nL) (hdg : decode cc pc = .ok (.iand, 1)) (hs : ma_s sc ks (.iand) o L S h = some (L', S', h')) (k : ma_G D cl ad base p l e R s m args below meth c Q nL (pc + 1) L' S' h' cells slots) : ma_G D cl ad base p l e R s m args below meth c Q nL pc L S h cells slots := by
  obtain ⟨hx, hb, hml, hown, hts, hkn, had, hini, hcls, hsx, hsb⟩ := X
  simp only [ma_s] at hs
  split at hs
  · cases hs
    intro H locs ls hH hF hl hn
    exact lv_iand hx hb hdg (k H locs ls hH hF hl hn)
  · cases hs

theorem ma_o_ior (X : ma_X D cl ks ad base sc G own ini p s m args meth c cc nL) (hdg : decode cc pc = .ok (.ior, 1)) (hs : ma_s sc ks (.ior) o L S h = some (L', S', h')) (k : ma_G D cl ad base p l e R s m args below meth c Q nL (pc + 1) L' S' h' cells slots) : ma_G D cl ad base p l e R s m args below meth c Q nL pc L S h cells slots := by
  obtain ⟨hx, hb, hml, hown, hts, hkn, had, hini, hcls, hsx, hsb⟩ := X
  simp only [ma_s] at hs
  split at hs
  · cases hs
    intro H locs ls hH hF hl hn
    exact lv_ior hx hb hdg (k H locs ls hH hF hl hn)
  · cases hs

theorem ma_o_ixor (X : ma_X D cl ks ad base sc G own ini p s m args meth c cc nL) (hdg : decode cc pc = .ok (.ixor, 1)) (hs : ma_s sc ks (.ixor) o L S h = some (L', S', h')) (k : ma_G D cl ad base p l e R s m args below meth c Q nL (pc + 1) L' S' h' cells slots) : ma_G D cl ad base p l e R s m args below meth c Q nL pc L S h cells slots := by
  obtain ⟨hx, hb, hml, hown, hts, hkn, had, hini, hcls, hsx, hsb⟩ := X
  simp only [ma_s] at hs
  split at hs
  · cases hs
    intro H locs ls hH hF hl hn
    exact lv_ixor hx hb hdg (k H locs ls hH hF hl hn)
  · cases hs

theorem ma_o_ineg (X : ma_X D cl ks ad base sc G own ini p s m args meth c cc nL) (hdg : decode cc pc = .ok (.ineg, 1)) (hs : ma_s sc ks (.ineg) o L S h = some (L', S', h')) (k : ma_G D cl ad base p l e R s m args below meth c Q nL (pc + 1) L' S' h' cells slots) : ma_G D cl ad base p l e R s m args below meth c Q nL pc L S h cells slots := by
  obtain ⟨hx, hb, hml, hown, hts, hkn, had, hini, hcls, hsx, hsb⟩ := X
  simp only [ma_s] at hs
  split at hs
  · cases hs
    intro H locs ls hH hF hl hn
    exact lv_ineg hx hb hdg (k H locs ls hH hF hl hn)
  · cases hs

theorem ma_o_ishl (X : ma_X D cl ks ad base sc G own ini p s m args meth c cc nL) (hdg : decode cc pc = .ok (.ishl, 1)) (hs : ma_s sc ks (.ishl) o L S h = some (L', S', h')) (k : ma_G D cl ad base p l e R s m args below meth c Q nL (pc + 1) L' S' h' cells slots) : ma_G D cl ad base p l e R s m args below meth c Q nL pc L S h cells slots := by
  obtain ⟨hx, hb, hml, hown, hts, hkn, had, hini, hcls, hsx, hsb⟩ := X
  simp only [ma_s] at hs
  split at hs
  · cases hs
    intro H locs ls hH hF hl hn
    exact lv_ishl hx hb hdg (k H locs ls hH hF hl hn)
  · cases hs

theorem ma_o_ishr (X : ma_X D cl ks ad base sc G own ini p s m args meth c cc nL) (hdg : decode cc pc = .ok (.ishr, 1)) (hs : ma_s sc ks (.ishr) o L S h = some (L', S', h')) (k : ma_G D cl ad base p l e R s m args below meth c Q nL (pc + 1) L' S' h' cells slots) : ma_G D cl ad base p l e R s m args below meth c Q nL pc L S h cells slots := by
  obtain ⟨hx, hb, hml, hown, hts, hkn, had, hini, hcls, hsx, hsb⟩ := X
  simp only [ma_s] at hs
  split at hs
  · cases hs
    intro H locs ls hH hF hl hn
    exact lv_ishr hx hb hdg (k H locs ls hH hF hl hn)
  · cases hs

theorem ma_o_ladd (X : ma_X D cl ks ad base sc G own ini p s m args meth c cc nL) (hdg : decode cc pc = .ok (.ladd, 1)) (hs : ma_s sc ks (.ladd) o L S h = some (L', S', h')) (k : ma_G D cl ad base p l e R s m args below meth c Q nL (pc + 1) L' S' h' cells slots) : ma_G D cl ad base p l e R s m args below meth c Q nL pc L S h cells slots := by
  obtain ⟨hx, hb, hml, hown, hts, hkn, had, hini, hcls, hsx, hsb⟩ := X
  simp only [ma_s] at hs
  split at hs
  · cases hs
    intro H locs ls hH hF hl hn
    exact lv_ladd hx hb hdg (k H locs ls hH hF hl hn)
  · cases hs

theorem ma_o_land (X : ma_X D cl ks ad base sc G own ini p s m args meth c cc nL) (hdg : decode cc pc = .ok (.land, 1)) (hs : ma_s sc ks (.land) o L S h = some (L', S', h')) (k : ma_G D cl ad base p l e R s m args below meth c Q nL (pc + 1) L' S' h' cells slots) : ma_G D cl ad base p l e R s m args below meth c Q nL pc L S h cells slots := by
  obtain ⟨hx, hb, hml, hown, hts, hkn, had, hini, hcls, hsx, hsb⟩ := X
  simp only [ma_s] at hs
  split at hs
  · cases hs
    intro H locs ls hH hF hl hn
    exact lv_land hx hb hdg (k H locs ls hH hF hl hn)
  · cases hs

theorem ma_o_iushr (X : ma_X D cl ks ad base sc G own ini p s m args meth c cc nL) (hdg : decode cc pc = .ok (.iushr, 1)) (hs : ma_s sc ks (.iushr) o L S h = some (L', S', h')) (k : ma_G D cl ad base p l e R s m args below meth c Q nL (pc + 1) L' S' h' cells slots) : ma_G D cl ad base p l e R s m args below meth c Q nL pc L S h cells slots := by
  obtain ⟨hx, hb, hml, hown, hts, hkn, had, hini, hcls, hsx, hsb⟩ := X
  simp only [ma_s] at hs
  split at hs
  · cases hs
    intro H locs ls hH hF hl hn
    exact lv_iushr hx hb hdg rfl (k H locs ls hH hF hl hn)
  · cases hs

theorem ma_o_lshl (X : ma_X D cl ks ad base sc G own ini p s m args meth c cc nL) (hdg : decode cc pc = .ok (.lshl, 1)) (hs : ma_s sc ks (.lshl) o L S h = some (L', S', h')) (k : ma_G D cl ad base p l e R s m args below meth c Q nL (pc + 1) L' S' h' cells slots) : ma_G D cl ad base p l e R s m args below meth c Q nL pc L S h cells slots := by
  obtain ⟨hx, hb, hml, hown, hts, hkn, had, hini, hcls, hsx, hsb⟩ := X
  simp only [ma_s] at hs
  split at hs
  · cases hs
    intro H locs ls hH hF hl hn
    exact lv_lshl hx hb hdg rfl (k H locs ls hH hF hl hn)
  · cases hs

theorem ma_o_lshr (X : ma_X D cl ks ad base sc G own ini p s m args meth c cc nL) (hdg : decode cc pc = .ok (.lshr, 1)) (hs : ma_s sc ks (.lshr) o L S h = some (L', S', h')) (k : ma_G D cl ad base p l e R s m args below meth c Q nL (pc + 1) L' S' h' cells slots) : ma_G D cl ad base p l e R s m args below meth c Q nL pc L S h cells slots := by
  obtain ⟨hx, hb, hml, hown, hts, hkn, had, hini, hcls, hsx, hsb⟩ := X
  simp only [ma_s] at hs
  split at hs
  · cases hs
    intro H locs ls hH hF hl hn
    exact lv_lshr hx hb hdg rfl (k H locs ls hH hF hl hn)
  · cases hs

theorem ma_o_i2l (X : ma_X D cl ks ad base sc G own ini p s m args meth c cc nL) (hdg : decode cc pc = .ok (.i2l, 1)) (hs : ma_s sc ks (.i2l) o L S h = some (L', S', h')) (k : ma_G D cl ad base p l e R s m args below meth c Q nL (pc + 1) L' S' h' cells slots) : ma_G D cl ad base p l e R s m args below meth c Q nL pc L S h cells slots := by
  obtain ⟨hx, hb, hml, hown, hts, hkn, had, hini, hcls, hsx, hsb⟩ := X
  simp only [ma_s] at hs
  split at hs
  · cases hs
    intro H locs ls hH hF hl hn
    exact lv_i2l hx hb hdg rfl (k H locs ls hH hF hl hn)
  · cases hs

theorem ma_o_l2i (X : ma_X D cl ks ad base sc G own ini p s m args meth c cc nL) (hdg : decode cc pc = .ok (.l2i, 1)) (hs : ma_s sc ks (.l2i) o L S h = some (L', S', h')) (k : ma_G D cl ad base p l e R s m args below meth c Q nL (pc + 1) L' S' h' cells slots) : ma_G D cl ad base p l e R s m args below meth c Q nL pc L S h cells slots := by
  obtain ⟨hx, hb, hml, hown, hts, hkn, had, hini, hcls, hsx, hsb⟩ := X
  simp only [ma_s] at hs
  split at hs
  · cases hs
    intro H locs ls hH hF hl hn
    exact lv_l2i hx hb hdg rfl (k H locs ls hH hF hl hn)
  · cases hs

theorem ma_o_i2b (X : ma_X D cl ks ad base sc G own ini p s m args meth c cc nL) (hdg : decode cc pc = .ok (.i2b, 1)) (hs : ma_s sc ks (.i2b) o L S h = some (L', S', h')) (k : ma_G D cl ad base p l e R s m args below meth c Q nL (pc + 1) L' S' h' cells slots) : ma_G D cl ad base p l e R s m args below meth c Q nL pc L S h cells slots := by
  obtain ⟨hx, hb, hml, hown, hts, hkn, had, hini, hcls, hsx, hsb⟩ := X
  simp only [ma_s] at hs
  split at hs
  · cases hs
    intro H locs ls hH hF hl hn
    exact lv_i2b hx hb hdg rfl (k H locs ls hH hF hl hn)
  · cases hs

theorem ma_o_i2c (X : ma_X D cl ks ad base sc G own ini p s m args meth c cc nL) (hdg : decode cc pc = .ok (.i2c, 1)) (hs : ma_s sc ks (.i2c) o L S h = some (L', S', h')) (k : ma_G D cl ad base p l e R s m args below meth c Q nL (pc + 1) L' S' h' cells slots) : ma_G D cl ad base p l e R s m args below meth c Q nL pc L S h cells slots := by
  obtain ⟨hx, hb, hml, hown, hts, hkn, had, hini, hcls, hsx, hsb⟩ := X
  simp only [ma_s] at hs
  split at hs
  · cases hs
    intro H locs ls hH hF hl hn
    exact lv_i2c hx hb hdg rfl (k H locs ls hH hF hl hn)
  · cases hs

theorem ma_o_lcmp (X : ma_X D cl ks ad base sc G own ini p s m args meth c cc nL) (hdg : decode cc pc = .ok (.lcmp, 1)) (hs : ma_s sc ks (.lcmp) o L S h = some (L', S', h')) (k : ma_G D cl ad base p l e R s m args below meth c Q nL (pc + 1) L' S' h' cells slots) : ma_G D cl ad base p l e R s m args below meth c Q nL pc L S h cells slots := by
  obtain ⟨hx, hb, hml, hown, hts, hkn, had, hini, hcls, hsx, hsb⟩ := X
  simp only [ma_s] at hs
  split at hs
  · cases hs
    intro H locs ls hH hF hl hn
    exact W.lcmp hx hb hdg (k H locs ls hH hF hl hn)
  · cases hs

theorem ma_o_idiv (X : ma_X D cl ks ad base sc G own ini p s m args meth c cc nL) (hdg : decode cc pc = .ok (.idiv, 1)) (hs : ma_s sc ks (.idiv) o L S h = some (L', S', h')) (k : ma_G D cl ad base p l e R s m args below meth c Q nL (pc + 1) L' S' h' cells slots) : ma_G D cl ad base p l e R s m args below meth c Q nL pc L S h cells slots := by
  obtain ⟨hx, hb, hml, hown, hts, hkn, had, hini, hcls, hsx, hsb⟩ := X
  simp only [ma_s] at hs
  split at hs
  · split at hs
    next => cases hs
    next hz =>
      cases hs
      intro H locs ls hH hF hl hn
      exact lv_idiv hx hb hdg hz (k H locs ls hH hF hl hn)
  · cases hs

theorem ma_o_irem (X : ma_X D cl ks ad base sc G own ini p s m args meth c cc nL) (hdg : decode cc pc = .ok (.irem, 1)) (hs : ma_s sc ks (.irem) o L S h = some (L', S', h')) (k : ma_G D cl ad base p l e R s m args below meth c Q nL (pc + 1) L' S' h' cells slots) : ma_G D cl ad base p l e R s m args below meth c Q nL pc L S h cells slots := by
  obtain ⟨hx, hb, hml, hown, hts, hkn, had, hini, hcls, hsx, hsb⟩ := X
  simp only [ma_s] at hs
  split at hs
  · split at hs
    next => cases hs
    next hz =>
      cases hs
      intro H locs ls hH hF hl hn
      exact lv_irem hx hb hdg hz (k H locs ls hH hF hl hn)
  · cases hs

theorem ma_o_dup (X : ma_X D cl ks ad base sc G own ini p s m args meth c cc nL) (hdg : decode cc pc = .ok (.dup, 1)) (hs : ma_s sc ks (.dup) o L S h = some (L', S', h')) (k : ma_G D cl ad base p l e R s m args below meth c Q nL (pc + 1) L' S' h' cells slots) : ma_G D cl ad base p l e R s m args below meth c Q nL pc L S h cells slots := by
  obtain ⟨hx, hb, hml, hown, hts, hkn, had, hini, hcls, hsx, hsb⟩ := X
  simp only [ma_s] at hs
  split at hs
  · cases hs
    intro H locs ls hH hF hl hn
    exact lv_dup hx hb hdg rfl (k H locs ls hH hF hl hn)
  · cases hs
    intro H locs ls hH hF hl hn
    exact lv_dup hx hb hdg rfl (k H locs ls hH hF hl hn)
  · cases hs

theorem ma_o_dup2 (X : ma_X D cl ks ad base sc G own ini p s m args meth c cc nL) (hdg : decode cc pc = .ok (.dup2, 1)) (hs : ma_s sc ks (.dup2) o L S h = some (L', S', h')) (k : ma_G D cl ad base p l e R s m args below meth c Q nL (pc + 1) L' S' h' cells slots) : ma_G D cl ad base p l e R s m args below meth c Q nL pc L S h cells slots := by
  obtain ⟨hx, hb, hml, hown, hts, hkn, had, hini, hcls, hsx, hsb⟩ := X
  simp only [ma_s] at hs
  split at hs
  · cases hs
    intro H locs ls hH hF hl hn
    exact lv_dup2_11 hx hb hdg rfl rfl (k H locs ls hH hF hl hn)
  · cases hs
    intro H locs ls hH hF hl hn
    exact lv_dup2_11 hx hb hdg rfl rfl (k H locs ls hH hF hl hn)
  · cases hs

theorem ma_o_pop (X : ma_X D cl ks ad base sc G own ini p s m args meth c cc nL) (hdg : decode cc pc = .ok (.pop, 1)) (hs : ma_s sc ks (.pop) o L S h = some (L', S', h')) (k : ma_G D cl ad base p l e R s m args below meth c Q nL (pc + 1) L' S' h' cells slots) : ma_G D cl ad base p l e R s m args below meth c Q nL pc L S h cells slots := by
  obtain ⟨hx, hb, hml, hown, hts, hkn, had, hini, hcls, hsx, hsb⟩ := X
  simp only [ma_s] at hs
  split at hs
  · cases hs
    intro H locs ls hH hF hl hn
    exact lv_pop (va := .int _) hx hb hdg rfl (k H locs ls hH hF hl hn)
  · cases hs
    intro H locs ls hH hF hl hn
    exact lv_pop (va := .ref _) hx hb hdg rfl (k H locs ls hH hF hl hn)
  · cases hs

theorem ma_o_iload {j : Nat} (X : ma_X D cl ks ad base sc G own ini p s m args meth c cc nL) (hdg : decode cc pc = .ok (.iload j, 2)) (hs : ma_s sc ks (.iload j) o L S h = some (L', S', h')) (k : ma_G D cl ad base p l e R s m args below meth c Q nL (pc + 2) L' S' h' cells slots) : ma_G D cl ad base p l e R s m args below meth c Q nL pc L S h cells slots := by
  obtain ⟨hx, hb, hml, hown, hts, hkn, had, hini, hcls, hsx, hsb⟩ := X
  simp only [ma_s] at hs
  split at hs
  next x hq =>
    cases hs
    intro H locs ls hH hF hl hn
    exact lv_iload hx hb hdg (ma_lv_get hl hq (Or.inl rfl)) (k H locs ls hH hF hl hn)
  next => cases hs

theorem ma_o_iload_n {j : Fin 4} (X : ma_X D cl ks ad base sc G own ini p s m args meth c cc nL) (hdg : decode cc pc = .ok (.iload_n j, 1)) (hs : ma_s sc ks (.iload_n j) o L S h = some (L', S', h')) (k : ma_G D cl ad base p l e R s m args below meth c Q nL (pc + 1) L' S' h' cells slots) : ma_G D cl ad base p l e R s m args below meth c Q nL pc L S h cells slots := by
  obtain ⟨hx, hb, hml, hown, hts, hkn, had, hini, hcls, hsx, hsb⟩ := X
  simp only [ma_s] at hs
  split at hs
  next x hq =>
    cases hs
    intro H locs ls hH hF hl hn
    exact lv_iload_n hx hb hdg rfl (ma_lv_get hl hq (Or.inl rfl)) (k H locs ls hH hF hl hn)
  next => cases hs

theorem ma_o_lload {j : Nat} (X : ma_X D cl ks ad base sc G own ini p s m args meth c cc nL) (hdg : decode cc pc = .ok (.lload j, 2)) (hs : ma_s sc ks (.lload j) o L S h = some (L', S', h')) (k : ma_G D cl ad base p l e R s m args below meth c Q nL (pc + 2) L' S' h' cells slots) : ma_G D cl ad base p l e R s m args below meth c Q nL pc L S h cells slots := by
  obtain ⟨hx, hb, hml, hown, hts, hkn, had, hini, hcls, hsx, hsb⟩ := X
  simp only [ma_s] at hs
  split at hs
  next x hq hq2 =>
    cases hs
    intro H locs ls hH hF hl hn
    exact lv_lload hx hb hdg (ma_lv_get hl hq (Or.inr hq2)) (k H locs ls hH hF hl hn)
  next => cases hs

theorem ma_o_lload_n {j : Fin 4} (X : ma_X D cl ks ad base sc G own ini p s m args meth c cc nL) (hdg : decode cc pc = .ok (.lload_n j, 1)) (hs : ma_s sc ks (.lload_n j) o L S h = some (L', S', h')) (k : ma_G D cl ad base p l e R s m args below meth c Q nL (pc + 1) L' S' h' cells slots) : ma_G D cl ad base p l e R s m args below meth c Q nL pc L S h cells slots := by
  obtain ⟨hx, hb, hml, hown, hts, hkn, had, hini, hcls, hsx, hsb⟩ := X
  simp only [ma_s] at hs
  split at hs
  next x hq hq2 =>
    cases hs
    intro H locs ls hH hF hl hn
    exact lv_lload_n hx hb hdg rfl (ma_lv_get hl hq (Or.inr hq2)) (k H locs ls hH hF hl hn)
  next => cases hs

theorem ma_o_aload {j : Nat} (X : ma_X D cl ks ad base sc G own ini p s m args meth c cc nL) (hdg : decode cc pc = .ok (.aload j, 2)) (hs : ma_s sc ks (.aload j) o L S h = some (L', S', h')) (k : ma_G D cl ad base p l e R s m args below meth c Q nL (pc + 2) L' S' h' cells slots) : ma_G D cl ad base p l e R s m args below meth c Q nL pc L S h cells slots := by
  obtain ⟨hx, hb, hml, hown, hts, hkn, had, hini, hcls, hsx, hsb⟩ := X
  simp only [ma_s] at hs
  split at hs
  next x hq =>
    cases hs
    intro H locs ls hH hF hl hn
    exact lv_aload hx hb hdg (ma_lv_get hl hq (Or.inl rfl)) (k H locs ls hH hF hl hn)
  next hq =>
    cases hs
    intro H locs ls hH hF hl hn
    exact lv_aloadN hx hb hdg (ma_lv_get hl hq (Or.inl rfl)) (k H locs ls hH hF hl hn)
  next => cases hs

theorem ma_o_aload_n {j : Fin 4} (X : ma_X D cl ks ad base sc G own ini p s m args meth c cc nL) (hdg : decode cc pc = .ok (.aload_n j, 1)) (hs : ma_s sc ks (.aload_n j) o L S h = some (L', S', h')) (k : ma_G D cl ad base p l e R s m args below meth c Q nL (pc + 1) L' S' h' cells slots) : ma_G D cl ad base p l e R s m args below meth c Q nL pc L S h cells slots := by
  obtain ⟨hx, hb, hml, hown, hts, hkn, had, hini, hcls, hsx, hsb⟩ := X
  simp only [ma_s] at hs
  split at hs
  next x hq =>
    cases hs
    intro H locs ls hH hF hl hn
    exact lv_aload_n hx hb hdg rfl (ma_lv_get hl hq (Or.inl rfl)) (k H locs ls hH hF hl hn)
  next hq =>
    cases hs
    intro H locs ls hH hF hl hn
    exact lv_aload_nN hx hb hdg rfl (ma_lv_get hl hq (Or.inl rfl)) (k H locs ls hH hF hl hn)
  next => cases hs

theorem ma_o_istore {j : Nat} (X : ma_X D cl ks ad base sc G own ini p s m args meth c cc nL) (hdg : decode cc pc = .ok (.istore j, 2)) (hs : ma_s sc ks (.istore j) o L S h = some (L', S', h')) (k : ma_G D cl ad base p l e R s m args below meth c Q nL (pc + 2) L' S' h' cells slots) : ma_G D cl ad base p l e R s m args below meth c Q nL pc L S h cells slots := by
  obtain ⟨hx, hb, hml, hown, hts, hkn, had, hini, hcls, hsx, hsb⟩ := X
  simp only [ma_s] at hs
  split at hs
  next =>
    split at hs
    next hlt =>
      cases hs
      intro H locs ls hH hF hl hn
      exact lv_istore hx hb hdg hl (by rw [← hn]; exact hlt) rfl (fun ls' hl' => k H locs ls' hH hF (ma_lv_set (v := .int _) rfl hl') (by simp [hn]))
    next => cases hs
  next => cases hs

theorem ma_o_istore_n {j : Fin 4} (X : ma_X D cl ks ad base sc G own ini p s m args meth c cc nL) (hdg : decode cc pc = .ok (.istore_n j, 1)) (hs : ma_s sc ks (.istore_n j) o L S h = some (L', S', h')) (k : ma_G D cl ad base p l e R s m args below meth c Q nL (pc + 1) L' S' h' cells slots) : ma_G D cl ad base p l e R s m args below meth c Q nL pc L S h cells slots := by
  obtain ⟨hx, hb, hml, hown, hts, hkn, had, hini, hcls, hsx, hsb⟩ := X
  simp only [ma_s] at hs
  split at hs
  next =>
    split at hs
    next hlt =>
      cases hs
      intro H locs ls hH hF hl hn
      exact lv_istore_n hx hb hdg rfl hl (by rw [← hn]; exact hlt) rfl (fun ls' hl' => k H locs ls' hH hF (ma_lv_set (v := .int _) rfl hl') (by simp [hn]))
    next => cases hs
  next => cases hs

theorem ma_o_lstore {j : Nat} (X : ma_X D cl ks ad base sc G own ini p s m args meth c cc nL) (hdg : decode cc pc = .ok (.lstore j, 2)) (hs : ma_s sc ks (.lstore j) o L S h = some (L', S', h')) (k : ma_G D cl ad base p l e R s m args below meth c Q nL (pc + 2) L' S' h' cells slots) : ma_G D cl ad base p l e R s m args below meth c Q nL pc L S h cells slots := by
  obtain ⟨hx, hb, hml, hown, hts, hkn, had, hini, hcls, hsx, hsb⟩ := X
  simp only [ma_s] at hs
  split at hs
  next =>
    split at hs
    next hlt =>
      cases hs
      intro H locs ls hH hF hl hn
      exact lv_lstore hx hb hdg hl (by rw [← hn]; exact hlt) rfl (fun ls' hl' => k H locs ls' hH hF (ma_lv_set2 hl') (by simp [hn]))
    next => cases hs
  next => cases hs

theorem ma_o_lstore_n {j : Fin 4} (X : ma_X D cl ks ad base sc G own ini p s m args meth c cc nL) (hdg : decode cc pc = .ok (.lstore_n j, 1)) (hs : ma_s sc ks (.lstore_n j) o L S h = some (L', S', h')) (k : ma_G D cl ad base p l e R s m args below meth c Q nL (pc + 1) L' S' h' cells slots) : ma_G D cl ad base p l e R s m args below meth c Q nL pc L S h cells slots := by
  obtain ⟨hx, hb, hml, hown, hts, hkn, had, hini, hcls, hsx, hsb⟩ := X
  simp only [ma_s] at hs
  split at hs
  next =>
    split at hs
    next hlt =>
      cases hs
      intro H locs ls hH hF hl hn
      exact lv_lstore_n hx hb hdg rfl hl (by rw [← hn]; exact hlt) rfl (fun ls' hl' => k H locs ls' hH hF (ma_lv_set2 hl') (by simp [hn]))
    next => cases hs
  next => cases hs

theorem ma_o_astore {j : Nat} (X : ma_X D cl ks ad base sc G own ini p s m args meth c cc nL) (hdg : decode cc pc = .ok (.astore j, 2)) (hs : ma_s sc ks (.astore j) o L S h = some (L', S', h')) (k : ma_G D cl ad base p l e R s m args below meth c Q nL (pc + 2) L' S' h' cells slots) : ma_G D cl ad base p l e R s m args below meth c Q nL pc L S h cells slots := by
  obtain ⟨hx, hb, hml, hown, hts, hkn, had, hini, hcls, hsx, hsb⟩ := X
  simp only [ma_s] at hs
  split at hs
  next =>
    split at hs
    next hlt =>
      cases hs
      intro H locs ls hH hF hl hn
      exact lv_astore hx hb hdg hl (by rw [← hn]; exact hlt) rfl (fun ls' hl' => k H locs ls' hH hF (ma_lv_set (v := .ref _) rfl hl') (by simp [hn]))
    next => cases hs
  next =>
    split at hs
    next hlt =>
      cases hs
      intro H locs ls hH hF hl hn
      exact lv_astoreN hx hb hdg hl (by rw [← hn]; exact hlt) rfl (fun ls' hl' => k H locs ls' hH hF (ma_lv_set (v := .null) rfl hl') (by simp [hn]))
    next => cases hs
  next => cases hs

theorem ma_o_astore_n {j : Fin 4} (X : ma_X D cl ks ad base sc G own ini p s m args meth c cc nL) (hdg : decode cc pc = .ok (.astore_n j, 1)) (hs : ma_s sc ks (.astore_n j) o L S h = some (L', S', h')) (k : ma_G D cl ad base p l e R s m args below meth c Q nL (pc + 1) L' S' h' cells slots) : ma_G D cl ad base p l e R s m args below meth c Q nL pc L S h cells slots := by
  obtain ⟨hx, hb, hml, hown, hts, hkn, had, hini, hcls, hsx, hsb⟩ := X
  simp only [ma_s] at hs
  split at hs
  next =>
    split at hs
    next hlt =>
      cases hs
      intro H locs ls hH hF hl hn
      exact lv_astore_n hx hb hdg rfl hl (by rw [← hn]; exact hlt) rfl (fun ls' hl' => k H locs ls' hH hF (ma_lv_set (v := .ref _) rfl hl') (by simp [hn]))
    next => cases hs
  next =>
    split at hs
    next hlt =>
      cases hs
      intro H locs ls hH hF hl hn
      exact lv_astore_nN hx hb hdg rfl hl (by rw [← hn]; exact hlt) rfl (fun ls' hl' => k H locs ls' hH hF (ma_lv_set (v := .null) rfl hl') (by simp [hn]))
    next => cases hs
  next => cases hs

theorem ma_o_iinc {j : Nat} {n : Int} (X : ma_X D cl ks ad base sc G own ini p s m args meth c cc nL) (hdg : decode cc pc = .ok (.iinc j n, 3)) (hs : ma_s sc ks (.iinc j n) o L S h = some (L', S', h')) (k : ma_G D cl ad base p l e R s m args below meth c Q nL (pc + 3) L' S' h' cells slots) : ma_G D cl ad base p l e R s m args below meth c Q nL pc L S h cells slots := by
  obtain ⟨hx, hb, hml, hown, hts, hkn, had, hini, hcls, hsx, hsb⟩ := X
  simp only [ma_s] at hs
  split at hs
  next x hq =>
    cases hs
    intro H locs ls hH hF hl hn
    obtain ⟨kq, hkq⟩ := List.mem_iff_getElem?.mp (ma_lv_mem (ad := ad) (q := (j, ma_va ad (.int x))).mpr ⟨_, ma_ld_some hq, Or.inl rfl, rfl⟩)
    exact lv_iinc hx hb hdg hl hkq rfl (by rw [← hn]; exact (List.getElem?_eq_some_iff.mp (ma_ld_some hq)).1) rfl (fun ls' hl' => k H locs ls' hH hF (ma_lv_set (v := .int _) rfl hl') (by simp [hn]))
  next => cases hs

theorem ma_o_ldc {x : Nat} (X : ma_X D cl ks ad base sc G own ini p s m args meth c cc nL) (hdg : decode cc pc = .ok (.ldc x, 2)) (hlk : ∀ v, o = [0, v] → Jvm.Cond.constant own x (Int32.ofNat v) ∈ G) (hlt : ∀ v, o = [1, v] → ∀ (H : Heap) (locs : List Loc) (ls : Array Slot), ma_H D cl ad base s H h → ma_F base s H locs → W p l e R s m args below meth c H locs cells slots Q (F0 m (pc + 2) ls (.ref (ad (4097 + v)) :: S.map (ma_va ad))) → W p l e R s m args below meth c H locs cells slots Q (F0 m pc ls (S.map (ma_va ad)))) (hs : ma_s sc ks (.ldc x) o L S h = some (L', S', h')) (k : ma_G D cl ad base p l e R s m args below meth c Q nL (pc + 2) L' S' h' cells slots) : ma_G D cl ad base p l e R s m args below meth c Q nL pc L S h cells slots := by
  obtain ⟨hx, hb, hml, hown, hts, hkn, had, hini, hcls, hsx, hsb⟩ := X
  simp only [ma_s] at hs
  split at hs
  next v =>
    cases hs
    intro H locs ls hH hF hl hn
    exact lv_ldc hx hb hown (hts _ (hlk v rfl)) hdg (k H locs ls hH hF hl hn)
  next v =>
    cases hs
    intro H locs ls hH hF hl hn
    exact hlt v rfl H locs ls hH hF (k H locs ls hH hF hl hn)
  next => cases hs

theorem ma_o_ldc_w {x : Nat} (X : ma_X D cl ks ad base sc G own ini p s m args meth c cc nL) (hdg : decode cc pc = .ok (.ldc_w x, 3)) (hlk : ∀ v, o = [0, v] → Jvm.Cond.constant own x (Int32.ofNat v) ∈ G) (hs : ma_s sc ks (.ldc_w x) o L S h = some (L', S', h')) (k : ma_G D cl ad base p l e R s m args below meth c Q nL (pc + 3) L' S' h' cells slots) : ma_G D cl ad base p l e R s m args below meth c Q nL pc L S h cells slots := by
  obtain ⟨hx, hb, hml, hown, hts, hkn, had, hini, hcls, hsx, hsb⟩ := X
  simp only [ma_s] at hs
  split at hs
  next v =>
    cases hs
    intro H locs ls hH hF hl hn
    exact lv_ldcw hx hb hown (hts _ (hlk v rfl)) hdg (k H locs ls hH hF hl hn)
  next => cases hs

theorem ma_o_ldc2_w {x : Nat} (X : ma_X D cl ks ad base sc G own ini p s m args meth c cc nL) (hdg : decode cc pc = .ok (.ldc2_w x, 3)) (hlk : ∀ v, o = [v] → Jvm.Cond.constantLong own x (Int64.ofNat v) ∈ G) (hs : ma_s sc ks (.ldc2_w x) o L S h = some (L', S', h')) (k : ma_G D cl ad base p l e R s m args below meth c Q nL (pc + 3) L' S' h' cells slots) : ma_G D cl ad base p l e R s m args below meth c Q nL pc L S h cells slots := by
  obtain ⟨hx, hb, hml, hown, hts, hkn, had, hini, hcls, hsx, hsb⟩ := X
  simp only [ma_s] at hs
  split at hs
  next v =>
    cases hs
    intro H locs ls hH hF hl hn
    exact lv_ldc2 hx hb hown (hts _ (hlk v rfl)) hdg (k H locs ls hH hF hl hn)
  next => cases hs

theorem ma_H.adr {H : Heap} (hH : ma_H D cl ad base s H h) (had : ∀ k, k < 4096 → ad k = base + k) {k : Nat} {x : ma_C} (hk : h[k]? = some x) : ad k = base + k := had k (by
  have h1 := (List.getElem?_eq_some_iff.mp hk).1
  have h2 := hH.2.1
  omega)
theorem ma_one {H : Heap} (hH : ma_H D cl ad base s H h) {k ci : Nat} {fs : List Value} (hk : h[k]? = some (.inr (ci, fs))) : va_P D cl [(base + k, .inr (ci, fs.map (ma_va ad)))] H := by
  intro k0 q hq
  have h0 : k0 < 1 := (List.getElem?_eq_some_iff.mp hq).1
  rw [show k0 = 0 by omega] at hq
  cases hq
  obtain ⟨r, h1, -, h3⟩ := hH.2.2 _ _ hk
  exact ⟨r, h1, h3⟩

theorem ma_o_getfield {x : Nat} (X : ma_X D cl ks ad base sc G own ini p s m args meth c cc nL) (hdg : decode cc pc = .ok (.getfield x, 3)) (hlk : ∀ ci j r, o = ci :: j :: r → ma_fl cl G own x ci j) (hs : ma_s sc ks (.getfield x) o L S h = some (L', S', h')) (k : ma_G D cl ad base p l e R s m args below meth c Q nL (pc + 3) L' S' h' cells slots) : ma_G D cl ad base p l e R s m args below meth c Q nL pc L S h cells slots := by
  obtain ⟨hx, hb, hml, hown, hts, hkn, had, hini, hcls, hsx, hsb⟩ := X
  simp only [ma_s] at hs
  split at hs
  next ci j r kk S2 =>
    split at hs
    next c2 fs hk =>
      split at hs
      next he =>
        subst he
        split at hs
        next v hv =>
          cases hs
          intro H locs ls hH hF hl hn
          obtain ⟨C, T, N, hc, hj, hlnk⟩ := hlk _ _ _ rfl
          have eA := hH.adr had hk
          have hP := ma_one hH hk
          have hK : va_K D cl [] s := ⟨hkn, fun _ _ z => by simp at z⟩
          have hT : (T j).1 = C := ((hcls _ _ _ _ hc).2.2.2 j hj).1
          have hv' : (fs.map (ma_va ad))[j]? = some (ma_va ad v) := by rw [List.getElem?_map, hv]; rfl
          show W p l e R s m args below meth c H locs cells slots Q (F0 m pc ls (.ref (ad kk) :: S2.map (ma_va ad)))
          rw [eA]
          rcases hlnk with hlnk | ⟨host, hlnk⟩
          · exact va_get hx hb hts (hcls _ _ _ _ hc).1 hown hK hP 0 rfl hc j hj (hts _ hlnk) (fun z hz => by rw [hT] at hz; exact hz) hv' hdg (k H locs ls hH hF hl hn)
          · exact va_getN hx hb hts (hcls _ _ _ _ hc).1 hown hK hP 0 rfl hc j hj (hts _ hlnk) (fun z hz => by rw [hT] at hz; exact hz) hv' hdg (k H locs ls hH hF hl hn)
        next => cases hs
      next => cases hs
    next => cases hs
  next => cases hs

theorem ma_o_putfield {x : Nat} (X : ma_X D cl ks ad base sc G own ini p s m args meth c cc nL) (hdg : decode cc pc = .ok (.putfield x, 3)) (hlk : ∀ ci j t r, o = ci :: j :: t :: r → ma_fp cl G own ini x ci j ∧ (ks ci)[j]? = some t) (hs : ma_s sc ks (.putfield x) o L S h = some (L', S', h')) (k : ma_G D cl ad base p l e R s m args below meth c Q nL (pc + 3) L' S' h' cells slots) : ma_G D cl ad base p l e R s m args below meth c Q nL pc L S h cells slots := by
  obtain ⟨hx, hb, hml, hown, hts, hkn, had, hini, hcls, hsx, hsb⟩ := X
  simp only [ma_s] at hs
  split at hs
  next ci j t r v kk S2 =>
    split at hs
    next c2 fs hk =>
      split at hs
      next he =>
        obtain ⟨he, hjl, hfit⟩ := he
        subst he
        cases hs
        intro H locs ls hH hF hl hn
        obtain ⟨⟨C, T, N, hc, hj, hlnk⟩, hkt⟩ := hlk _ _ _ _ rfl
        obtain ⟨hin, hnm, hklen, hty⟩ := hcls _ _ _ _ hc
        obtain ⟨hT, ty, hd, t2, ht2, hkt2⟩ := hty j hj
        rw [hkt] at ht2
        cases ht2
        obtain ⟨hna, hft⟩ := ma_kt_fit (ad := ad) hkt2 hfit
        have eA := hH.adr had hk
        have hK : va_K D cl [] s := ⟨hkn, fun _ _ z => by simp at z⟩
        obtain ⟨r2, hr2, hlen, cell, q1, q2, q3, q4⟩ := hH.2.2 _ _ hk
        cases hc.symm.trans hr2
        have hap := va_apart (own := own) hts hin (fun k => (parseFieldDescriptor (T k).2.2.1).getD .int) (fun k hk => by obtain ⟨-, ty, h1, -⟩ := hty k hk; rw [h1]; rfl) hnm hK hc
        obtain ⟨hS, hfc, kC, hkC, hkind⟩ := hkn _ _ hc
        obtain ⟨cf, kf, fi, f, hi, hsl⟩ := hS j hj
        have hi2 : s.fieldFound? C (T j).2.1 (T j).2.2.1 = some (cf, kf, fi, f) := by rw [← hT]; exact hi
        have hlay := hts _ (hin _ (u_in_lay hj))
        unfold u_lay at hlay
        have hst := (u_facts hfc hkC (u_lays hts hin hj) hi).1
        have fin : ∀ H1 : Heap, H1[base + kk]? = some (cell.setSlot f.slot (ma_va ad v)) → H1.size = H.size → (∀ q, q ≠ base + kk → H1[q]? = H[q]?) → W p l e R s m args below meth c H1 (locs ++ [⟨base + kk, f.slot⟩]) cells slots Q (F0 m (pc + 3) ls (S'.map (ma_va ad))) := by
          intro H1 e1 e2 e3
          rw [hsl] at e1
          refine k H1 _ ls (hH.set e2 e3 ⟨_, hc, by simp [hlen], t_OB.to (V := updV (vp_V (fs.map (ma_va ad))) j (ma_va ad v)) ⟨_, e1, q2, q3, t_set q4 hap hj (ma_va ad v)⟩ (fun i _ => ?_)⟩) (hF.put (by omega) e3) hl hn
          rw [vp_updV_set (by simpa using hjl), ← List.map_set]
        show W p l e R s m args below meth c H locs cells slots Q (F0 m pc ls (ma_va ad v :: .ref (ad kk) :: S'.map (ma_va ad)))
        rw [eA]
        rcases hlnk with ⟨hfi, hlnk⟩ | ⟨hfi, hi0, hCo, hlnk⟩
        · rw [if_neg (by rw [hfi]; decide)] at hlay
          have h6 := u_store hfc hkC hkind hlay hi hd hna hft
          rcases hlnk with hlnk | ⟨host, hlnk⟩
          · exact W.putK hx hb (f := f) ⟨hown, hts _ hlnk, ⟨_, _, _, hi2⟩, hst⟩ (by rw [q2]; exact h6) q1 q3 (by rw [hsl]; exact k2_hasslot (q4 j hj)) rfl rfl hdg fin
          · exact va_WputK hx hb (f := f) hown (hts _ hlnk) hi2 hst (by rw [q2]; exact h6) q1 q3 (by rw [hsl]; exact k2_hasslot (q4 j hj)) rfl rfl hdg fin
        · rw [if_pos hfi] at hlay
          have hcf : m.cls = cf := by
            have h9 : s.vm.findClass C = some cf := by
              obtain ⟨_, _, c', _, _, _, -, -, hf', -, -, -, hown2, -⟩ := Cond.laysFinal_spec hlay
              cases hi.symm.trans hf'
              rw [hT] at hown2
              exact hown2
            rw [hCo, hown] at h9
            exact Option.some.inj h9
          have h6 := u_fits hfc hkC hkind (Or.inr hlay) hi hd hna hft
          exact W.putFinK hx hb hown (hts _ hlnk) hi2 hst hcf (hini hi0) (by rw [q2]; exact h6) q1 q3 (by rw [hsl]; exact k2_hasslot (q4 j hj)) rfl rfl hdg fin
      next => cases hs
    next => cases hs
  next => cases hs

theorem ma_o_iaload (X : ma_X D cl ks ad base sc G own ini p s m args meth c cc nL) (hdg : decode cc pc = .ok (.iaload, 1)) (hs : ma_s sc ks (.iaload) o L S h = some (L', S', h')) (k : ma_G D cl ad base p l e R s m args below meth c Q nL (pc + 1) L' S' h' cells slots) : ma_G D cl ad base p l e R s m args below meth c Q nL pc L S h cells slots := by
  obtain ⟨hx, hb, hml, hown, hts, hkn, had, hini, hcls, hsx, hsb⟩ := X
  simp only [ma_s] at hs
  split at hs
  next i kk S2 =>
    split at hs
    next n f hk =>
      split at hs
      next => cases hs
      next hz =>
        cases hs
        intro H locs ls hH hF hl hn
        unfold ma_g at hk
        split at hk
        next he =>
          cases hk
          subst he
          obtain ⟨scr, z1, z2, z3, z4, z5⟩ := hsx
          have z1' : H[ad 4096]? = some scr := (hF.1 _ hsb).trans z1
          exact W.iald (v := .int (sc.2 i.toNatClampNeg)) hx hb z1' z2 z3 (by rw [z4]; exact hz) (z5 _ (Nat.not_le.mp fun q => hz (Or.inr q))) rfl rfl hdg (k H locs ls hH hF hl hn)
        next =>
          have eA := hH.adr had hk
          obtain ⟨cA, h1, h2, h3⟩ := hH.2.2 _ _ hk
          show W p l e R s m args below meth c H locs cells slots Q (F0 m pc ls (.int i :: .ref (ad kk) :: S2.map (ma_va ad)))
          rw [eA]
          have hlt : i.toNatClampNeg < n := Nat.not_le.mp fun q => hz (Or.inr q)
          have h3 : H[base + kk]? = some (arrV cA n (fun j => .int (f j))) := h3
          exact W.iald (v := .int (f i.toNatClampNeg)) hx hb h3 (h1 n (fun j => .int (f j))) (fun q => by cases q) (by show ¬ (i < 0 ∨ (arrV _ _ _).slots.size ≤ _); rw [arrV_size]; exact hz) (by show (arrV _ _ _).slots[_]? = _; rw [arrV_read _ _ hlt]) rfl rfl hdg (k H locs ls hH hF hl hn)
    next => cases hs
  next => cases hs

theorem ma_o_arraylength (X : ma_X D cl ks ad base sc G own ini p s m args meth c cc nL) (hdg : decode cc pc = .ok (.arraylength, 1)) (hs : ma_s sc ks (.arraylength) o L S h = some (L', S', h')) (k : ma_G D cl ad base p l e R s m args below meth c Q nL (pc + 1) L' S' h' cells slots) : ma_G D cl ad base p l e R s m args below meth c Q nL pc L S h cells slots := by
  obtain ⟨hx, hb, hml, hown, hts, hkn, had, hini, hcls, hsx, hsb⟩ := X
  simp only [ma_s] at hs
  split at hs
  next kk S2 =>
    split at hs
    next t n f hk =>
      cases hs
      intro H locs ls hH hF hl hn
      unfold ma_g at hk
      split at hk
      next he =>
        cases hk
        subst he
        obtain ⟨scr, z1, z2, z3, z4, z5⟩ := hsx
        have z1' : H[ad 4096]? = some scr := (hF.1 _ hsb).trans z1
        exact W.alen hx hb z1' z2 (by rw [z4]) rfl rfl hdg (k H locs ls hH hF hl hn)
      next =>
        have eA := hH.adr had hk
        obtain ⟨cA, h1, h2, h3⟩ := hH.2.2 _ _ hk
        show W p l e R s m args below meth c H locs cells slots Q (F0 m pc ls (.ref (ad kk) :: S2.map (ma_va ad)))
        rw [eA]
        have hP : va_P D cl [(base + kk, .inl (cA, ma_ac ad (n, f)))] H := by
          intro k0 q hq
          have h0 : k0 < 1 := (List.getElem?_eq_some_iff.mp hq).1
          rw [show k0 = 0 by omega] at hq
          cases hq
          exact h3
        obtain ⟨q0, q1⟩ : ∃ z : Nat → Value, vp_cell cA (ma_ac ad (n, f)) = arrV cA n z := by
          unfold vp_cell ma_ac
          dsimp only
          split <;> exact ⟨_, rfl⟩
        rw [q1] at h3
        exact W.alen hx hb h3 (h1 n q0) (by rw [arrV_size]) rfl rfl hdg (k H locs ls hH hF hl hn)
    next => cases hs
  next => cases hs

theorem ma_o_baload (X : ma_X D cl ks ad base sc G own ini p s m args meth c cc nL) (hdg : decode cc pc = .ok (.baload, 1)) (hs : ma_s sc ks (.baload) o L S h = some (L', S', h')) (k : ma_G D cl ad base p l e R s m args below meth c Q nL (pc + 1) L' S' h' cells slots) : ma_G D cl ad base p l e R s m args below meth c Q nL pc L S h cells slots := by
  obtain ⟨hx, hb, hml, hown, hts, hkn, had, hini, hcls, hsx, hsb⟩ := X
  simp only [ma_s] at hs
  split at hs
  next i kk S2 =>
    split at hs
    next n f hk =>
      split at hs
      next => cases hs
      next hz =>
        cases hs
        intro H locs ls hH hF hl hn
        have eA := hH.adr had hk
        obtain ⟨cA, h1, h2, h3⟩ := hH.2.2 _ _ hk
        show W p l e R s m args below meth c H locs cells slots Q (F0 m pc ls (.int i :: .ref (ad kk) :: S2.map (ma_va ad)))
        rw [eA]
        have hlt : i.toNatClampNeg < n := Nat.not_le.mp fun q => hz (Or.inr q)
        have h3 : H[base + kk]? = some (arrV cA n (fun j => .int (f j))) := h3
        exact W.bald (v := .int (f i.toNatClampNeg)) hx hb h3 (h1 n (fun j => .int (f j))) (fun q => by cases q) (by show ¬ (i < 0 ∨ (arrV _ _ _).slots.size ≤ _); rw [arrV_size]; exact hz) (by show (arrV _ _ _).slots[_]? = _; rw [arrV_read _ _ hlt]) rfl rfl hdg (k H locs ls hH hF hl hn)
    next => cases hs
  next => cases hs

theorem ma_o_laload (X : ma_X D cl ks ad base sc G own ini p s m args meth c cc nL) (hdg : decode cc pc = .ok (.laload, 1)) (hs : ma_s sc ks (.laload) o L S h = some (L', S', h')) (k : ma_G D cl ad base p l e R s m args below meth c Q nL (pc + 1) L' S' h' cells slots) : ma_G D cl ad base p l e R s m args below meth c Q nL pc L S h cells slots := by
  obtain ⟨hx, hb, hml, hown, hts, hkn, had, hini, hcls, hsx, hsb⟩ := X
  simp only [ma_s] at hs
  split at hs
  next i kk S2 =>
    split at hs
    next n f hk =>
      split at hs
      next => cases hs
      next hz =>
        cases hs
        intro H locs ls hH hF hl hn
        have eA := hH.adr had hk
        obtain ⟨cA, h1, h2, h3⟩ := hH.2.2 _ _ hk
        show W p l e R s m args below meth c H locs cells slots Q (F0 m pc ls (.int i :: .ref (ad kk) :: S2.map (ma_va ad)))
        rw [eA]
        have hlt : i.toNatClampNeg < n := Nat.not_le.mp fun q => hz (Or.inr q)
        have h3 : H[base + kk]? = some (arrV cA n (fun j => .long (f j))) := h3
        exact W.lald (v := .long (f i.toNatClampNeg)) hx hb h3 (h1 n (fun j => .long (f j))) (fun q => by cases q) (by show ¬ (i < 0 ∨ (arrV _ _ _).slots.size ≤ _); rw [arrV_size]; exact hz) (by show (arrV _ _ _).slots[_]? = _; rw [arrV_read _ _ hlt]) rfl rfl hdg (k H locs ls hH hF hl hn)
    next => cases hs
  next => cases hs

theorem ma_rfm (r : Option Nat) : ma_va ad (va_rf r) = va_rf (r.map ad) := by cases r <;> rfl
theorem ma_tyr {t : Nat} (h : ¬ t < 3) : (ma_ty t).isReference = true := by
  match t, h with
  | 3, _ => rfl
  | t + 4, _ => rfl

theorem ma_o_aaload (X : ma_X D cl ks ad base sc G own ini p s m args meth c cc nL) (hdg : decode cc pc = .ok (.aaload, 1)) (hs : ma_s sc ks (.aaload) o L S h = some (L', S', h')) (k : ma_G D cl ad base p l e R s m args below meth c Q nL (pc + 1) L' S' h' cells slots) : ma_G D cl ad base p l e R s m args below meth c Q nL pc L S h cells slots := by
  obtain ⟨hx, hb, hml, hown, hts, hkn, had, hini, hcls, hsx, hsb⟩ := X
  simp only [ma_s] at hs
  split at hs
  next i kk S2 =>
    split at hs
    next t n f hk =>
      split at hs
      next => cases hs
      next hz =>
        cases hs
        intro H locs ls hH hF hl hn
        have eA := hH.adr had hk
        obtain ⟨cA, h1, h2, h3⟩ := hH.2.2 _ _ hk
        show W p l e R s m args below meth c H locs cells slots Q (F0 m pc ls (.int i :: .ref (ad kk) :: S2.map (ma_va ad)))
        rw [eA]
        have hz1 : ¬ (i < 0 ∨ n ≤ i.toNatClampNeg) := fun q => hz (q.elim Or.inl (fun q => Or.inr (Or.inl q)))
        have hz2 : ¬ t < 3 := fun q => hz (Or.inr (Or.inr q))
        have hlt : i.toNatClampNeg < n := Nat.not_le.mp fun q => hz1 (Or.inr q)
        have kk2 := k H locs ls hH hF hl hn
        have h3 : H[base + kk]? = some (arrV cA n (fun j => va_rf ((f j).map ad))) := h3
        rw [List.map_cons, ma_rfm] at kk2
        exact W.aald (v := va_rf ((f i.toNatClampNeg).map ad)) (ty := ma_ty t) hx hb h3 (h1 n (fun j => va_rf ((f j).map ad))) (ma_tyr hz2) (fun q => by cases q) (by show ¬ (i < 0 ∨ (arrV _ _ _).slots.size ≤ _); rw [arrV_size]; exact hz1) (by show (arrV _ _ _).slots[_]? = _; rw [arrV_read _ _ hlt]) rfl rfl hdg kk2
    next => cases hs
  next => cases hs

theorem ma_o_iastore (X : ma_X D cl ks ad base sc G own ini p s m args meth c cc nL) (hdg : decode cc pc = .ok (.iastore, 1)) (hs : ma_s sc ks (.iastore) o L S h = some (L', S', h')) (k : ma_G D cl ad base p l e R s m args below meth c Q nL (pc + 1) L' S' h' cells slots) : ma_G D cl ad base p l e R s m args below meth c Q nL pc L S h cells slots := by
  obtain ⟨hx, hb, hml, hown, hts, hkn, had, hini, hcls, hsx, hsb⟩ := X
  simp only [ma_s] at hs
  split at hs
  next x i kk S2 =>
    split at hs
    next n f hk =>
      split at hs
      next => cases hs
      next hz =>
        cases hs
        intro H locs ls hH hF hl hn
        have eA := hH.adr had hk
        obtain ⟨cA, h1, h2, h3⟩ := hH.2.2 _ _ hk
        show W p l e R s m args below meth c H locs cells slots Q (F0 m pc ls (.int x :: .int i :: .ref (ad kk) :: S'.map (ma_va ad)))
        rw [eA]
        refine W.iast hx hb h3 (h1 n (fun j => .int (f j))) (fun q => by cases q) (by show ¬ (i < 0 ∨ (arrV _ _ _).slots.size ≤ _); rw [arrV_size]; exact hz) rfl rfl hdg fun H1 e1 e2 e3 => ?_
        refine k H1 _ ls (hH.set e2 e3 ⟨cA, h1, h2, ?_⟩) (hF.put (by omega) e3) hl hn
        rw [e1]
        show some ((arrV cA n (fun j => .int (f j))).setSlot i.toNatClampNeg (.int x)) = some (arrV cA n (fun j => .int ((upd f i.toNatClampNeg x) j)))
        rw [arrV_store]
        congr 2
        funext q
        by_cases hq : q = i.toNatClampNeg
        · subst hq
          simp [updV, upd, vp_updL]
          try rfl
        · simp [updV, upd, vp_updL, hq]
    next => cases hs
  next => cases hs

theorem ma_o_bastore (X : ma_X D cl ks ad base sc G own ini p s m args meth c cc nL) (hdg : decode cc pc = .ok (.bastore, 1)) (hs : ma_s sc ks (.bastore) o L S h = some (L', S', h')) (k : ma_G D cl ad base p l e R s m args below meth c Q nL (pc + 1) L' S' h' cells slots) : ma_G D cl ad base p l e R s m args below meth c Q nL pc L S h cells slots := by
  obtain ⟨hx, hb, hml, hown, hts, hkn, had, hini, hcls, hsx, hsb⟩ := X
  simp only [ma_s] at hs
  split at hs
  next x i kk S2 =>
    split at hs
    next n f hk =>
      split at hs
      next => cases hs
      next hz =>
        cases hs
        intro H locs ls hH hF hl hn
        have eA := hH.adr had hk
        obtain ⟨cA, h1, h2, h3⟩ := hH.2.2 _ _ hk
        show W p l e R s m args below meth c H locs cells slots Q (F0 m pc ls (.int x :: .int i :: .ref (ad kk) :: S'.map (ma_va ad)))
        rw [eA]
        refine W.bast hx hb h3 (h1 n (fun j => .int (f j))) (fun q => by cases q) (by show ¬ (i < 0 ∨ (arrV _ _ _).slots.size ≤ _); rw [arrV_size]; exact hz) rfl rfl hdg fun H1 e1 e2 e3 => ?_
        refine k H1 _ ls (hH.set e2 e3 ⟨cA, h1, h2, ?_⟩) (hF.put (by omega) e3) hl hn
        rw [e1]
        show some ((arrV cA n (fun j => .int (f j))).setSlot i.toNatClampNeg (narrow .byte (.int x))) = some (arrV cA n (fun j => .int ((upd f i.toNatClampNeg (vp_nar .byte x)) j)))
        rw [arrV_store]
        congr 2
        funext q
        by_cases hq : q = i.toNatClampNeg
        · subst hq
          simp [updV, upd, vp_updL, vp_nar]
          try rfl
        · simp [updV, upd, vp_updL, hq]
    next => cases hs
  next => cases hs

theorem ma_o_lastore (X : ma_X D cl ks ad base sc G own ini p s m args meth c cc nL) (hdg : decode cc pc = .ok (.lastore, 1)) (hs : ma_s sc ks (.lastore) o L S h = some (L', S', h')) (k : ma_G D cl ad base p l e R s m args below meth c Q nL (pc + 1) L' S' h' cells slots) : ma_G D cl ad base p l e R s m args below meth c Q nL pc L S h cells slots := by
  obtain ⟨hx, hb, hml, hown, hts, hkn, had, hini, hcls, hsx, hsb⟩ := X
  simp only [ma_s] at hs
  split at hs
  next x i kk S2 =>
    split at hs
    next n f hk =>
      split at hs
      next => cases hs
      next hz =>
        cases hs
        intro H locs ls hH hF hl hn
        have eA := hH.adr had hk
        obtain ⟨cA, h1, h2, h3⟩ := hH.2.2 _ _ hk
        show W p l e R s m args below meth c H locs cells slots Q (F0 m pc ls (.long x :: .int i :: .ref (ad kk) :: S'.map (ma_va ad)))
        rw [eA]
        refine W.last hx hb h3 (h1 n (fun j => .long (f j))) (fun q => by cases q) (by show ¬ (i < 0 ∨ (arrV _ _ _).slots.size ≤ _); rw [arrV_size]; exact hz) rfl rfl hdg fun H1 e1 e2 e3 => ?_
        refine k H1 _ ls (hH.set e2 e3 ⟨cA, h1, h2, ?_⟩) (hF.put (by omega) e3) hl hn
        rw [e1]
        show some ((arrV cA n (fun j => .long (f j))).setSlot i.toNatClampNeg (.long x)) = some (arrV cA n (fun j => .long ((vp_updL f i.toNatClampNeg x) j)))
        rw [arrV_store]
        congr 2
        funext q
        by_cases hq : q = i.toNatClampNeg
        · subst hq
          simp [updV, upd, vp_updL]
          try rfl
        · simp [updV, upd, vp_updL, hq]
    next => cases hs
  next => cases hs

theorem ma_o_aastore (X : ma_X D cl ks ad base sc G own ini p s m args meth c cc nL) (hdg : decode cc pc = .ok (.aastore, 1)) (hlk : ∀ ci r, o = ci :: r → ∃ T N, cl[ci]? = some ("LetHorizon$Line", T, N)) (hs : ma_s sc ks (.aastore) o L S h = some (L', S', h')) (k : ma_G D cl ad base p l e R s m args below meth c Q nL (pc + 1) L' S' h' cells slots) : ma_G D cl ad base p l e R s m args below meth c Q nL pc L S h cells slots := by
  obtain ⟨hx, hb, hml, hown, hts, hkn, had, hini, hcls, hsx, hsb⟩ := X
  simp only [ma_s] at hs
  split at hs
  next ci r v i kk S2 =>
    split at hs
    next n f c2 fs hk hv =>
      split at hs
      next => cases hs
      next hz =>
        cases hs
        intro H locs ls hH hF hl hn
        have eA := hH.adr had hk
        have eV := hH.adr had hv
        obtain ⟨cA, h1, h2, h3⟩ := hH.2.2 _ _ hk
        have hci : c2 = ci := Classical.byContradiction fun q => hz (Or.inr (Or.inr q))
        subst hci
        obtain ⟨T, N, hcl⟩ := hlk _ _ rfl
        obtain ⟨r', hr', -, cellV, g1, g2, g3, -⟩ := hH.2.2 _ _ hv
        have hz1 : ¬ (i < 0 ∨ n ≤ i.toNatClampNeg) := fun q => hz (q.elim Or.inl (fun q => Or.inr (Or.inl q)))
        have hlt : i.toNatClampNeg < n := Nat.not_le.mp fun q => hz1 (Or.inr q)
        have h0 : ¬ i < 0 := fun q => hz1 (Or.inl q)
        have hcls2 := (hkn _ _ hcl).2
        obtain ⟨kA, comp, k1, k2, k3, -⟩ := h2 rfl
        have hcomp : comp = D.1 c2 := Option.some.inj (k3.symm.trans hcls2.1)
        subst hcomp
        obtain ⟨kC, hkC, hkd⟩ := hcls2.2
        show W p l e R s m args below meth c H locs cells slots Q (F0 m pc ls (.ref (ad v) :: .int i :: .ref (ad kk) :: S'.map (ma_va ad)))
        rw [eA, eV]
        refine W.aast hx hb h3 (fun q h => by cases h) (fun h => by cases h) k1 k2 rfl hkC ⟨h0, by show _ < (arrV _ _ _).slots.size; rw [arrV_size]; exact hlt⟩ g1 (fun q h => by rw [g3] at h; cases h) (by rw [g2]; exact hkC) (by rw [g2]; exact va_assign hcls2) rfl rfl hdg fun H1 e1 e2 e3 => ?_
        refine k H1 _ ls (hH.set e2 e3 ⟨cA, h1, h2, ?_⟩) (hF.put (by omega) e3) hl hn
        rw [e1]
        show some ((arrV cA n (fun j => va_rf ((f j).map ad))).setSlot i.toNatClampNeg (.ref (base + v))) = some (arrV cA n (fun j => va_rf ((va_up f i.toNatClampNeg (some v) j).map ad)))
        rw [arrV_store]
        congr 2
        funext q
        by_cases hq : q = i.toNatClampNeg
        · subst hq
          simp [updV, va_up, va_rf, eV]
        · simp [updV, va_up, hq]
    next => cases hs
  next => cases hs

theorem ma_o_new {x sl' : Nat} (X : ma_X D cl ks ad base sc G own ini p s m args meth c cc nL) (hdg : decode cc pc = .ok (.new x, 3)) (hlk : ∀ ci r, o = ci :: r → ∃ C T N, cl[ci]? = some (C, T, N) ∧ Jvm.Cond.classLink own x C ∈ G ∧ Jvm.Cond.instantiable C N ∈ G ∧ Jvm.Cond.initialized C ∈ G) (hcells : cells + 1 ≤ R.cells) (hslots : ∀ ci r q, o = ci :: r → cl[ci]? = some q → slots + (ks ci).length ≤ R.slots) (hslEq : ∀ ci r, o = ci :: r → sl' = slots + (ks ci).length) (hs : ma_s sc ks (.new x) o L S h = some (L', S', h')) (k : ma_G D cl ad base p l e R s m args below meth c Q nL (pc + 3) L' S' h' (cells + 1) sl') : ma_G D cl ad base p l e R s m args below meth c Q nL pc L S h cells slots := by
  obtain ⟨hx, hb, hml, hown, hts, hkn, had, hini, hcls, hsx, hsb⟩ := X
  simp only [ma_s] at hs
  split at hs
  next ci r =>
    split at hs
    next => cases hs
    next hz =>
      cases hs
      intro H locs ls hH hF hl hn
      obtain ⟨C, T, N, hc, hl1, hl2, hl3⟩ := hlk _ _ rfl
      obtain ⟨hin, hnm, hklen, hty⟩ := hcls _ _ _ _ hc
      have hKn := hkn _ _ hc
      have hsz : H.size = ad h.length := by rw [had _ (by omega)]; exact hH.1
      refine W.newcK hx hb hown (hts _ hl1) (hts _ hl2) (hts _ hl3) rfl hdg hcells (by have := hslots _ _ _ rfl hc; rw [hklen] at this; exact this) hKn.2.1 rfl fun H1 kC hkC e1 z1 o1 => ?_
      have hk2 := k H1 locs ls (hH.push hz z1 o1 ⟨_, hc, by simp [ma_df, hklen], ?_⟩) (hF.push (by rw [hH.1]; omega) o1) hl hn
      · rw [List.map_cons] at hk2
        have e9 : (ma_va ad (.ref h.length)) = .ref H.size := by rw [hsz]; rfl
        rw [e9] at hk2
        rw [hslEq _ _ rfl, hklen] at hk2
        exact hk2
      · refine (u_born (fun k => (parseFieldDescriptor (T k).2.2.1).getD .int) hts hin hKn hkC e1 (fun k hk => by obtain ⟨-, ty, h1, -⟩ := hty k hk; rw [h1]; rfl)).to (fun j hj => ?_)
        obtain ⟨-, ty, h1, t, ht, hkt⟩ := hty j hj
        rw [h1]
        simp only [Option.getD_some, vp_V, List.getD_eq_getElem?_getD, List.getElem?_map, ma_df, ht, Option.map_some]
        unfold ma_kt at hkt
        split at hkt <;> first | rfl | cases hkt
  next => cases hs

theorem ma_o_newarray {a : ArrayType} {sl' : Nat} (X : ma_X D cl ks ad base sc G own ini p s m args meth c cc nL) (hdg : decode cc pc = .ok (.newarray a, 2)) (hlk : Jvm.Cond.arrayClass (newarray.typeOf a) ∈ G) (hcells : cells + 1 ≤ R.cells) (hslots : ∀ n S2, S = .int n :: S2 → slots + n.toNatClampNeg ≤ R.slots) (hslEq : ∀ n S2, S = .int n :: S2 → sl' = slots + n.toNatClampNeg) (hs : ma_s sc ks (.newarray a) o L S h = some (L', S', h')) (k : ma_G D cl ad base p l e R s m args below meth c Q nL (pc + 2) L' S' h' (cells + 1) sl') : ma_G D cl ad base p l e R s m args below meth c Q nL pc L S h cells slots := by
  obtain ⟨hx, hb, hml, hown, hts, hkn, had, hini, hcls, hsx, hsb⟩ := X
  simp only [ma_s] at hs
  split at hs
  next t n S2 hta =>
    split at hs
    next => cases hs
    next hz =>
      cases hs
      intro H locs ls hH hF hl hn
      have hz0 : ¬ n < 0 := fun q => hz (Or.inl q)
      have hz1 : ¬ 4095 < h.length := fun q => hz (Or.inr (Or.inl q))
      have hz2 : ¬ 20000 < n.toNatClampNeg := fun q => hz (Or.inr (Or.inr q))
      have hsz : H.size = ad h.length := by rw [had _ (by omega)]; exact hH.1
      have htyE : newarray.typeOf a = ma_ty t ∧ t < 3 ∧ componentBytes (ma_ty t) ≤ 8 ∧ ∀ cA N, arrV cA N (fun _ => defaultValue (ma_ty t)) = vp_cell cA (ma_ac ad (N, ma_new t)) := by
        unfold ma_atc at hta
        split at hta <;> cases hta <;> exact ⟨rfl, by decide, by decide, fun _ _ => rfl⟩
      obtain ⟨ht1, ht2, ht3, ht4⟩ := htyE
      refine W.newaK hx hb (hts _ hlk) rfl hdg rfl hz0 rfl (by rw [ht1]; have := Nat.mul_le_mul (Nat.le_of_not_lt hz2) ht3; omega) hcells (hslots n S2 rfl) rfl fun H1 cA e1 z1 o1 hAr => ?_
      have hk2 := k H1 locs ls (hH.push hz1 z1 o1 ⟨cA, by rw [← ht1]; exact hAr, fun z => by simp only at z; omega, by rw [e1, ht1]; rw [ht4]⟩) (hF.push (by rw [hH.1]; omega) o1) hl hn
      rw [List.map_cons] at hk2
      have e9 : (ma_va ad (.ref h.length)) = .ref H.size := by rw [hsz]; rfl
      rw [e9, hslEq n S2 rfl] at hk2
      exact hk2
  next => cases hs

theorem ma_o_anewarray {x sl' : Nat} (X : ma_X D cl ks ad base sc G own ini p s m args meth c cc nL) (hdg : decode cc pc = .ok (.anewarray x, 3)) (hlk : Jvm.Cond.classLink own x "LetHorizon$Line" ∈ G ∧ Jvm.Cond.arrayOver (.object "LetHorizon$Line") ∈ G) (hcells : cells + 1 ≤ R.cells) (hslots : ∀ n S2, S = .int n :: S2 → slots + n.toNatClampNeg ≤ R.slots) (hslEq : ∀ n S2, S = .int n :: S2 → sl' = slots + n.toNatClampNeg) (hs : ma_s sc ks (.anewarray x) o L S h = some (L', S', h')) (k : ma_G D cl ad base p l e R s m args below meth c Q nL (pc + 3) L' S' h' (cells + 1) sl') : ma_G D cl ad base p l e R s m args below meth c Q nL pc L S h cells slots := by
  obtain ⟨hx, hb, hml, hown, hts, hkn, had, hini, hcls, hsx, hsb⟩ := X
  simp only [ma_s] at hs
  split at hs
  next n S2 =>
    split at hs
    next => cases hs
    next hz =>
      cases hs
      intro H locs ls hH hF hl hn
      have hz0 : ¬ n < 0 := fun q => hz (Or.inl q)
      have hz1 : ¬ 4095 < h.length := fun q => hz (Or.inr (Or.inl q))
      have hz2 : ¬ 20000 < n.toNatClampNeg := fun q => hz (Or.inr (Or.inr q))
      have hsz : H.size = ad h.length := by rw [had _ (by omega)]; exact hH.1
      refine W.anew hx hb hown (hts _ hlk.1) (hts _ hlk.2) rfl hdg rfl hz0 (by omega) hcells (hslots n S2 rfl) fun cA kA comp h1 h2 h3 h4 => ?_
      have hk2 := k (H.push { cls := cA, slots := Array.replicate n.toNatClampNeg .null, vm := .none }) locs ls (hH.push hz1 (by simp) (fun q hq => by rw [Array.getElem?_push, if_neg (Nat.ne_of_lt hq)]) ⟨cA, fun n z => ⟨fun k h => (by cases h), kA, h2, comp, h3⟩, fun _ => ⟨kA, comp, h2, h3, h4, h1⟩, by rw [arrV_new]; simp; rfl⟩) (hF.push (by rw [hH.1]; omega) (fun q hq => by rw [Array.getElem?_push, if_neg (Nat.ne_of_lt hq)])) hl hn
      rw [List.map_cons] at hk2
      have e9 : (ma_va ad (.ref h.length)) = .ref H.size := by rw [hsz]; rfl
      rw [e9, hslEq n S2 rfl] at hk2
      exact hk2
  next => cases hs

end MS
end
