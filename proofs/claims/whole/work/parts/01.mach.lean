/-! ===== A machine of its own over lists: cells by number, locals and stack as lists. Its runs are pure; that the true machine follows them is proved once (part 03) ===== -/
abbrev ma_C : Type := (Nat × vp_A) ⊕ (Nat × List Value)
abbrev ma_I : Type := Instr × List Nat
abbrev ma_L : Type := List (Option Value)
/-- what an array holds, by a number -/
def ma_ty : Nat → FieldType
  | 0 => .int
  | 1 => .byte
  | 2 => .long
  | 3 => .object "LetHorizon$Line"
  | _ => .array .int
/-- what may be put into a field, by a number -/
def ma_fit : Nat → Value → Bool
  | 0, .int _ => true
  | 1, .int x => x == 0 || x == 1
  | 2, .ref _ => true
  | 2, .null => true
  | _, _ => false
/-- a new array's contents -/
def ma_new : Nat → ((Nat → Int32) ⊕ (Nat → Int64) ⊕ (Nat → UInt32) ⊕ (Nat → UInt64) ⊕ (Nat → Option Nat))
  | 0 => .inl (fun _ => 0)
  | 1 => .inl (fun _ => 0)
  | 2 => .inr (.inl (fun _ => 0))
  | _ => .inr (.inr (.inr (.inr (fun _ => none))))
/-- a new object's fields, by the kinds of its fields -/
def ma_df (ks : List Nat) : List Value := ks.map fun k => if k = 2 then .null else .int 0
def ma_atc : ArrayType → Option Nat
  | .int => some 0
  | .byte => some 1
  | .long => some 2
  | _ => none
/-- a cell by its number: the script stands at 4096 -/
def ma_g (sc : Nat × (Nat → Int32)) (h : List ma_C) (k : Nat) : Option ma_C := if k = 4096 then some (.inl (0, sc.1, .inl sc.2)) else h[k]?
def ma_ld (L : ma_L) (k : Nat) : Option Value := match L[k]? with
  | some (some v) => some v
  | _ => none
/-- the plain instructions -/
def ma_s (sc : Nat × (Nat → Int32)) (ks : Nat → List Nat) (i : Instr) (o : List Nat) (L : ma_L) (S : List Value) (h : List ma_C) : Option (ma_L × List Value × List ma_C) :=
  match i with
  | .iconst n => some (L, .int (Int32.ofInt n) :: S, h)
  | .bipush n => some (L, .int (Int32.ofInt n) :: S, h)
  | .sipush n => some (L, .int (Int32.ofInt n) :: S, h)
  | .lconst n => some (L, .long (Int64.ofNat n) :: S, h)
  | .aconst_null => some (L, .null :: S, h)
  | .ldc _ => match o with
    | [0, v] => some (L, .int (Int32.ofNat v) :: S, h)
    | [1, v] => some (L, .ref (4097 + v) :: S, h)
    | _ => none
  | .ldc_w _ => match o with
    | [0, v] => some (L, .int (Int32.ofNat v) :: S, h)
    | _ => none
  | .ldc2_w _ => match o with
    | [v] => some (L, .long (Int64.ofNat v) :: S, h)
    | _ => none
  | .iload k => match ma_ld L k with
    | some (.int x) => some (L, .int x :: S, h)
    | _ => none
  | .iload_n k => match ma_ld L k with
    | some (.int x) => some (L, .int x :: S, h)
    | _ => none
  | .lload k => match ma_ld L k, L[k + 1]? with
    | some (.long x), some none => some (L, .long x :: S, h)
    | _, _ => none
  | .lload_n k => match ma_ld L k, L[k.val + 1]? with
    | some (.long x), some none => some (L, .long x :: S, h)
    | _, _ => none
  | .aload k => match ma_ld L k with
    | some (.ref x) => some (L, .ref x :: S, h)
    | some .null => some (L, .null :: S, h)
    | _ => none
  | .aload_n k => match ma_ld L k with
    | some (.ref x) => some (L, .ref x :: S, h)
    | some .null => some (L, .null :: S, h)
    | _ => none
  | .istore k => match S with
    | .int x :: S => if k < L.length then some (L.set k (some (.int x)), S, h) else none
    | _ => none
  | .istore_n k => match S with
    | .int x :: S => if k.val < L.length then some (L.set k (some (.int x)), S, h) else none
    | _ => none
  | .lstore k => match S with
    | .long x :: S => if k + 1 < L.length then some ((L.set k (some (.long x))).set (k + 1) none, S, h) else none
    | _ => none
  | .lstore_n k => match S with
    | .long x :: S => if k.val + 1 < L.length then some ((L.set k (some (.long x))).set (k.val + 1) none, S, h) else none
    | _ => none
  | .astore k => match S with
    | .ref x :: S => if k < L.length then some (L.set k (some (.ref x)), S, h) else none
    | .null :: S => if k < L.length then some (L.set k (some .null), S, h) else none
    | _ => none
  | .astore_n k => match S with
    | .ref x :: S => if k.val < L.length then some (L.set k (some (.ref x)), S, h) else none
    | .null :: S => if k.val < L.length then some (L.set k (some .null), S, h) else none
    | _ => none
  | .iinc k n => match ma_ld L k with
    | some (.int x) => some (L.set k (some (.int (x + Int32.ofInt n))), S, h)
    | _ => none
  | .iadd => match S with
    | .int y :: .int x :: S => some (L, .int (x + y) :: S, h)
    | _ => none
  | .isub => match S with
    | .int y :: .int x :: S => some (L, .int (x - y) :: S, h)
    | _ => none
  | .imul => match S with
    | .int y :: .int x :: S => some (L, .int (x * y) :: S, h)
    | _ => none
  | .iand => match S with
    | .int y :: .int x :: S => some (L, .int (x &&& y) :: S, h)
    | _ => none
  | .ior => match S with
    | .int y :: .int x :: S => some (L, .int (x ||| y) :: S, h)
    | _ => none
  | .ixor => match S with
    | .int y :: .int x :: S => some (L, .int (x ^^^ y) :: S, h)
    | _ => none
  | .idiv => match S with
    | .int y :: .int x :: S => if y = 0 then none else some (L, .int (x / y) :: S, h)
    | _ => none
  | .irem => match S with
    | .int y :: .int x :: S => if y = 0 then none else some (L, .int (x - x / y * y) :: S, h)
    | _ => none
  | .ineg => match S with
    | .int x :: S => some (L, .int (-x) :: S, h)
    | _ => none
  | .ishl => match S with
    | .int y :: .int x :: S => some (L, .int (x <<< (y &&& 31)) :: S, h)
    | _ => none
  | .ishr => match S with
    | .int y :: .int x :: S => some (L, .int (x >>> (y &&& 31)) :: S, h)
    | _ => none
  | .iushr => match S with
    | .int y :: .int x :: S => some (L, .int ((x.toUInt32 >>> (y.toUInt32 &&& Int32.toUInt32 31)).toInt32) :: S, h)
    | _ => none
  | .ladd => match S with
    | .long y :: .long x :: S => some (L, .long (x + y) :: S, h)
    | _ => none
  | .land => match S with
    | .long y :: .long x :: S => some (L, .long (x &&& y) :: S, h)
    | _ => none
  | .lshl => match S with
    | .int y :: .long x :: S => some (L, .long (x <<< (y.toInt64 &&& 63)) :: S, h)
    | _ => none
  | .lshr => match S with
    | .int y :: .long x :: S => some (L, .long (x >>> (y.toInt64 &&& 63)) :: S, h)
    | _ => none
  | .lcmp => match S with
    | .long y :: .long x :: S => some (L, .int (lg_cmp x y) :: S, h)
    | _ => none
  | .i2l => match S with
    | .int x :: S => some (L, .long x.toInt64 :: S, h)
    | _ => none
  | .l2i => match S with
    | .long x :: S => some (L, .int x.toInt32 :: S, h)
    | _ => none
  | .i2b => match S with
    | .int x :: S => some (L, .int x.toInt8.toInt32 :: S, h)
    | _ => none
  | .i2c => match S with
    | .int x :: S => some (L, .int (x.toUInt32 % 65536).toInt32 :: S, h)
    | _ => none
  | .dup => match S with
    | .int x :: S => some (L, .int x :: .int x :: S, h)
    | .ref x :: S => some (L, .ref x :: .ref x :: S, h)
    | _ => none
  | .dup2 => match S with
    | .int y :: .ref x :: S => some (L, .int y :: .ref x :: .int y :: .ref x :: S, h)
    | .int y :: .int x :: S => some (L, .int y :: .int x :: .int y :: .int x :: S, h)
    | _ => none
  | .pop => match S with
    | .int _ :: S => some (L, S, h)
    | .ref _ :: S => some (L, S, h)
    | _ => none
  | .getfield _ => match o, S with
    | ci :: j :: _, .ref k :: S => match h[k]? with
      | some (.inr (c, fs)) => if c = ci then (match fs[j]? with
        | some v => some (L, v :: S, h)
        | none => none) else none
      | _ => none
    | _, _ => none
  | .putfield _ => match o, S with
    | ci :: j :: t :: _, v :: .ref k :: S => match h[k]? with
      | some (.inr (c, fs)) => if c = ci ∧ j < fs.length ∧ ma_fit t v = true then some (L, S, h.set k (.inr (c, fs.set j v))) else none
      | _ => none
    | _, _ => none
  | .arraylength => match S with
    | .ref k :: S => match ma_g sc h k with
      | some (.inl (_, n, _)) => some (L, .int (Int32.ofNat n) :: S, h)
      | _ => none
    | _ => none
  | .iaload => match S with
    | .int i :: .ref k :: S => match ma_g sc h k with
      | some (.inl (0, n, .inl f)) => if i < 0 ∨ n ≤ i.toNatClampNeg then none else some (L, .int (f i.toNatClampNeg) :: S, h)
      | _ => none
    | _ => none
  | .baload => match S with
    | .int i :: .ref k :: S => match h[k]? with
      | some (.inl (1, n, .inl f)) => if i < 0 ∨ n ≤ i.toNatClampNeg then none else some (L, .int (f i.toNatClampNeg) :: S, h)
      | _ => none
    | _ => none
  | .laload => match S with
    | .int i :: .ref k :: S => match h[k]? with
      | some (.inl (2, n, .inr (.inl f))) => if i < 0 ∨ n ≤ i.toNatClampNeg then none else some (L, .long (f i.toNatClampNeg) :: S, h)
      | _ => none
    | _ => none
  | .aaload => match S with
    | .int i :: .ref k :: S => match h[k]? with
      | some (.inl (t, n, .inr (.inr (.inr (.inr f))))) => if i < 0 ∨ n ≤ i.toNatClampNeg ∨ t < 3 then none else some (L, va_rf (f i.toNatClampNeg) :: S, h)
      | _ => none
    | _ => none
  | .iastore => match S with
    | .int x :: .int i :: .ref k :: S => match h[k]? with
      | some (.inl (0, n, .inl f)) => if i < 0 ∨ n ≤ i.toNatClampNeg then none else some (L, S, h.set k (.inl (0, n, .inl (upd f i.toNatClampNeg x))))
      | _ => none
    | _ => none
  | .bastore => match S with
    | .int x :: .int i :: .ref k :: S => match h[k]? with
      | some (.inl (1, n, .inl f)) => if i < 0 ∨ n ≤ i.toNatClampNeg then none else some (L, S, h.set k (.inl (1, n, .inl (upd f i.toNatClampNeg (vp_nar .byte x)))))
      | _ => none
    | _ => none
  | .lastore => match S with
    | .long x :: .int i :: .ref k :: S => match h[k]? with
      | some (.inl (2, n, .inr (.inl f))) => if i < 0 ∨ n ≤ i.toNatClampNeg then none else some (L, S, h.set k (.inl (2, n, .inr (.inl (vp_updL f i.toNatClampNeg x)))))
      | _ => none
    | _ => none
  | .aastore => match o, S with
    | ci :: _, .ref v :: .int i :: .ref k :: S => match h[k]?, h[v]? with
      | some (.inl (3, n, .inr (.inr (.inr (.inr f))))), some (.inr (c, _)) => if i < 0 ∨ n ≤ i.toNatClampNeg ∨ c ≠ ci then none else some (L, S, h.set k (.inl (3, n, .inr (.inr (.inr (.inr (va_up f i.toNatClampNeg (some v))))))))
      | _, _ => none
    | _, _ => none
  | .new _ => match o with
    | ci :: _ => if 4095 < h.length then none else some (L, .ref h.length :: S, h ++ [.inr (ci, ma_df (ks ci))])
    | _ => none
  | .newarray a => match ma_atc a, S with
    | some t, .int n :: S => if n < 0 ∨ 4095 < h.length ∨ 20000 < n.toNatClampNeg then none else some (L, .ref h.length :: S, h ++ [.inl (t, n.toNatClampNeg, ma_new t)])
    | _, _ => none
  | .anewarray _ => match S with
    | .int n :: S => if n < 0 ∨ 4095 < h.length ∨ 20000 < n.toNatClampNeg then none else some (L, .ref h.length :: S, h ++ [.inl (3, n.toNatClampNeg, ma_new 3)])
    | _ => none
  | .multianewarray _ 2 => match S with
    | .int k :: .int n :: S => if n < 0 ∨ k < 0 ∨ 3000 < h.length ∨ 1000 < n.toNatClampNeg ∨ 20000 < k.toNatClampNeg then none else
        some (L, .ref h.length :: S, h ++ .inl (4, n.toNatClampNeg, .inr (.inr (.inr (.inr (fun i => if i < n.toNatClampNeg then some (h.length + 1 + i) else none))))) :: List.replicate n.toNatClampNeg (.inl (0, k.toNatClampNeg, .inl (fun _ => 0))))
    | _ => none
  | _ => none
/-- the jumps: where to, or on -/
def ma_cmp : ClassFile.Cond → Int32 → Int32 → Bool
  | .eq, x, y => decide (x = y)
  | .ne, x, y => decide (¬ x = y)
  | .lt, x, y => decide (x < y)
  | .ge, x, y => decide (y ≤ x)
  | .gt, x, y => decide (y < x)
  | .le, x, y => decide (x ≤ y)
def ma_j (i : Instr) (o : List Nat) (S : List Value) : Option (Option Nat × List Value) :=
  match i with
  | .nop => match o with
    | [t] => some (some t, S)
    | _ => none
  | .goto _ => match o with
    | [t] => some (some t, S)
    | _ => none
  | .if_icmp c _ => match o, S with
    | [t], .int y :: .int x :: S => some (if ma_cmp c x y = true then some t else none, S)
    | _, _ => none
  | .ifCond c _ => match o, S with
    | [t], .int x :: S => some (if ma_cmp c x 0 = true then some t else none, S)
    | _, _ => none
  | .ifnull _ => match o, S with
    | [t], .null :: S => some (some t, S)
    | [_], .ref _ :: S => some (none, S)
    | _, _ => none
  | .ifnonnull _ => match o, S with
    | [_], .null :: S => some (none, S)
    | [t], .ref _ :: S => some (some t, S)
    | _, _ => none
  | .tableswitch _ lo hi _ => match o, S with
    | t0 :: ts, .int x :: S => if x.toInt < lo ∨ hi < x.toInt then some (some t0, S) else (match ts[(x.toInt - lo).toNat]? with
      | some t => some (some t, S)
      | none => none)
    | _, _ => none
  | _ => none
/-- the calls: whom (1: nobody, 2: the arrays' copier, 3 ..: texts; 0: a method of the table), with what, what stays -/
def ma_a (n : Nat) (S : List Value) : Option (List Value × List Value) := if S.length < n ∨ 8 < ((S.drop n).map fun v => v.category).sum then none else some ((S.take n).reverse, S.drop n)
def ma_cr (m ci : Nat) (q : Option (List Value × List Value)) (h : List ma_C) : Option (Nat × List Value × List Value) := match q with
  | some (.ref k :: a, S) => match h[k]? with
    | some (.inr (c, _)) => if c = ci then some (m, .ref k :: a, S) else none
    | _ => none
  | _ => none
def ma_c (i : Instr) (o : List Nat) (S : List Value) (h : List ma_C) : Option (Nat × List Value × List Value) :=
  match i, o with
  | .invokevirtual _, [0, m, n, ci] => ma_cr m ci (ma_a n S) h
  | .invokespecial _, [0, m, n, ci] => ma_cr m ci (ma_a n S) h
  | .invokestatic _, [0, m, n] => match ma_a n S with
    | some (a, S) => some (m, a, S)
    | none => none
  | _, _ => none
def ma_ent : List Value → ma_L
  | [] => []
  | v :: a => if v.category = 2 then some v :: none :: ma_ent a else some v :: ma_ent a
/-- a method's first locals -/
def ma_en (a : List Value) (n : Nat) : ma_L := ma_ent a ++ List.replicate (n - (ma_ent a).length) none
/-- what is done by the machine itself, or by a method that isn't of the table -/
def ma_x (tx : Nat → Int32 → Option Int32) (i : Instr) (o : List Nat) (S : List Value) (h : List ma_C) : Option (List Value × List ma_C) :=
  match i, o with
  | .invokespecial _, [1] => match S with
    | .ref _ :: S => if 8 < (S.map fun v => v.category).sum then none else some (S, h)
    | _ => none
  | .invokestatic _, [2] => match S with
    | .int n :: .int dp :: .ref b :: .int sp :: .ref a :: S => match h[a]?, h[b]? with
      | some (.inl (0, n0, .inl f)), some (.inl (0, n1, .inl g)) =>
        if 8 < (S.map fun v => v.category).sum ∨ n < 0 ∨ dp < 0 ∨ sp < 0 ∨ n0 < sp.toNatClampNeg + n.toNatClampNeg ∨ n1 < dp.toNatClampNeg + n.toNatClampNeg then none
        else some (S, h.set b (.inl (0, n1, .inl (va_cpy f g sp.toNatClampNeg dp.toNatClampNeg n.toNatClampNeg))))
      | _, _ => none
    | _ => none
  | .invokevirtual _, [3, k] => match S with
    | .ref a :: S => if a = 4097 + k ∧ ¬ 8 < (S.map fun v => v.category).sum then (match tx (3 * k) 0 with
      | some x => some (.int x :: S, h)
      | none => none) else none
    | _ => none
  | .invokevirtual _, [4, k] => match S with
    | .int j :: .ref a :: S => if a = 4097 + k ∧ ¬ 8 < (S.map fun v => v.category).sum then (match tx (3 * k + 1) j with
      | some x => some (.int x :: S, h)
      | none => none) else none
    | _ => none
  | .invokevirtual _, [5, k] => match S with
    | .int j :: .ref a :: S => if a = 4097 + k ∧ ¬ 8 < (S.map fun v => v.category).sum then (match tx (3 * k + 2) j with
      | some x => some (.int x :: S, h)
      | none => none) else none
    | _ => none
  | _, _ => none
def ma_r (i : Instr) (o : List Nat) (S : List Value) : Option (Option Value) :=
  match i, o, S with
  | .ireturn, [0], [.int x] => some (some (.int x))
  | .ireturn, [1], [.int x] => if x = 0 ∨ x = 1 then some (some (.int x)) else none
  | .lreturn, _, [.long x] => some (some (.long x))
  | .return_, _, [] => some none
  | _, _, _ => none
/-- of which kind an instruction is: 0 plain, 1 a jump, 2 a call, 3 an end, 4 what the machine does itself -/
def ma_k : Instr → List Nat → Nat
  | .nop, _ | .goto _, _ | .if_icmp _ _, _ | .ifCond _ _, _ | .ifnull _, _ | .ifnonnull _, _ | .tableswitch _ _ _ _, _ => 1
  | .invokevirtual _, 0 :: _ | .invokespecial _, 0 :: _ | .invokestatic _, 0 :: _ => 2
  | .invokevirtual _, _ | .invokespecial _, _ | .invokestatic _, _ => 4
  | .ireturn, _ | .lreturn, _ | .return_, _ => 3
  | _, _ => 0
/-- a program: the blocks of each method by their first places, the length of each method's locals, the kinds of each sort's fields, the texts, the script -/
abbrev ma_P : Type := (Nat → Nat → List ma_I) × (Nat → Nat) × (Nat → List Nat) × (Nat → Int32 → Option Int32) × (Nat × (Nat → Int32))
def ma_run (P : ma_P) : Nat → Nat → Nat → List ma_I → ma_L → List Value → List ma_C → Option (Option Value × List ma_C)
  | 0, _, _, _, _, _, _ => none
  | _ + 1, _, _, [], _, _, _ => none
  | n + 1, d, m, (i, o) :: is, L, S, h =>
    match ma_k i o with
    | 0 => match ma_s P.2.2.2.2 P.2.2.1 i o L S h with
      | some (L, S, h) => ma_run P n d m is L S h
      | none => none
    | 1 => match ma_j i o S with
      | some (some t, S) => ma_run P n d m (P.1 m t) L S h
      | some (none, S) => ma_run P n d m is L S h
      | none => none
    | 2 => match ma_c i o S h with
      | some (m', a, S) => if P.2.1 m' < (ma_ent a).length then none else match d with
        | 0 => none
        | d + 1 => match ma_run P n d m' (P.1 m' 0) (ma_en a (P.2.1 m')) [] h with
          | some (r, h) => ma_run P n (d + 1) m is L (r.toList ++ S) h
          | none => none
      | none => none
    | 3 => match ma_r i o S with
      | some r => some (r, h)
      | none => none
    | _ => match (if d < 9 then none else ma_x P.2.2.2.1 i o S h) with
      | some (S, h) => ma_run P n d m is L S h
      | none => none
