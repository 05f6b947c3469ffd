section
/-! ===== A machine of its own over lists: cells by number, locals and stack as lists. Its runs are pure; that the true machine follows them is proved once (part 03) ===== -/
abbrev ma_C : Type := (Nat × vp_A) ⊕ (Nat × List Value)
abbrev ma_I : Type := Instr × List Nat
abbrev ma_L : Type := List (Option Value)
/-- what an array holds, by a number -/
def ma_ty : Nat → FieldType
  | 0 => .int
  | 1 => .byte
  | 2 => .long
  | 3 => .object "LetHorizon$Line"
  | _ => .array .int
/-- what may be put into a field, by a number -/
def ma_fit : Nat → Value → Bool
  | 0, .int _ => true
  | 1, .int x => x == 0 || x == 1
  | 2, .ref _ => true
  | 2, .null => true
  | _, _ => false
/-- a new array's contents -/
def ma_new : Nat → ((Nat → Int32) ⊕ (Nat → Int64) ⊕ (Nat → UInt32) ⊕ (Nat → UInt64) ⊕ (Nat → Option Nat))
  | 0 => .inl (fun _ => 0)
  | 1 => .inl (fun _ => 0)
  | 2 => .inr (.inl (fun _ => 0))
  | _ => .inr (.inr (.inr (.inr (fun _ => none))))
/-- a new object's fields, by the kinds of its fields -/
def ma_df (ks : List Nat) : List Value := ks.map fun k => if k = 2 then .null else .int 0
def ma_atc : ArrayType → Option Nat
  | .int => some 0
  | .byte => some 1
  | .long => some 2
  | _ => none
/-- a cell by its number: the script stands at 4096 -/
def ma_g (sc : Nat × (Nat → Int32)) (h : List ma_C) (k : Nat) : Option ma_C := if k = 4096 then some (.inl (0, sc.1, .inl sc.2)) else h[k]?
def ma_ld (L : ma_L) (k : Nat) : Option Value := match L[k]? with
  | some (some v) => some v
  | _ => none
/-- the plain instructions -/
def ma_s (sc : Nat × (Nat → Int32)) (ks : Nat → List Nat) (i : Instr) (o : List Nat) (L : ma_L) (S : List Value) (h : List ma_C) : Option (ma_L × List Value × List ma_C) :=
  match i with
  | .iconst n => some (L, .int (Int32.ofInt n) :: S, h)
  | .bipush n => some (L, .int (Int32.ofInt n) :: S, h)
  | .sipush n => some (L, .int (Int32.ofInt n) :: S, h)
  | .lconst n => some (L, .long (Int64.ofNat n) :: S, h)
  | .aconst_null => some (L, .null :: S, h)
  | .ldc _ => match o with
    | [0, v] => some (L, .int (Int32.ofNat v) :: S, h)
    | [1, v] => some (L, .ref (4097 + v) :: S, h)
    | _ => none
  | .ldc_w _ => match o with
    | [0, v] => some (L, .int (Int32.ofNat v) :: S, h)
    | _ => none
  | .ldc2_w _ => match o with
    | [v] => some (L, .long (Int64.ofNat v) :: S, h)
    | _ => none
  | .iload k => match ma_ld L k with
    | some (.int x) => some (L, .int x :: S, h)
    | _ => none
  | .iload_n k => match ma_ld L k with
    | some (.int x) => some (L, .int x :: S, h)
    | _ => none
  | .lload k => match ma_ld L k, L[k + 1]? with
    | some (.long x), some none => some (L, .long x :: S, h)
    | _, _ => none
  | .lload_n k => match ma_ld L k, L[k.val + 1]? with
    | some (.long x), some none => some (L, .long x :: S, h)
    | _, _ => none
  | .aload k => match ma_ld L k with
    | some (.ref x) => some (L, .ref x :: S, h)
    | some .null => some (L, .null :: S, h)
    | _ => none
  | .aload_n k => match ma_ld L k with
    | some (.ref x) => some (L, .ref x :: S, h)
    | some .null => some (L, .null :: S, h)
    | _ => none
  | .istore k => match S with
    | .int x :: S => if k < L.length then some (L.set k (some (.int x)), S, h) else none
    | _ => none
  | .istore_n k => match S with
    | .int x :: S => if k.val < L.length then some (L.set k (some (.int x)), S, h) else none
    | _ => none
  | .lstore k => match S with
    | .long x :: S => if k + 1 < L.length then some ((L.set k (some (.long x))).set (k + 1) none, S, h) else none
    | _ => none
  | .lstore_n k => match S with
    | .long x :: S => if k.val + 1 < L.length then some ((L.set k (some (.long x))).set (k.val + 1) none, S, h) else none
    | _ => none
  | .astore k => match S with
    | .ref x :: S => if k < L.length then some (L.set k (some (.ref x)), S, h) else none
    | .null :: S => if k < L.length then some (L.set k (some .null), S, h) else none
    | _ => none
  | .astore_n k => match S with
    | .ref x :: S => if k.val < L.length then some (L.set k (some (.ref x)), S, h) else none
    | .null :: S => if k.val < L.length then some (L.set k (some .null), S, h) else none
    | _ => none
  | .iinc k n => match ma_ld L k with
    | some (.int x) => some (L.set k (some (.int (x + Int32.ofInt n))), S, h)
    | _ => none
  | .iadd => match S with
    | .int y :: .int x :: S => some (L, .int (x + y) :: S, h)
    | _ => none
  | .isub => match S with
    | .int y :: .int x :: S => some (L, .int (x - y) :: S, h)
    | _ => none
  | .imul => match S with
    | .int y :: .int x :: S => some (L, .int (x * y) :: S, h)
    | _ => none
  | .iand => match S with
    | .int y :: .int x :: S => some (L, .int (x &&& y) :: S, h)
    | _ => none
  | .ior => match S with
    | .int y :: .int x :: S => some (L, .int (x ||| y) :: S, h)
    | _ => none
  | .ixor => match S with
    | .int y :: .int x :: S => some (L, .int (x ^^^ y) :: S, h)
    | _ => none
  | .idiv => match S with
    | .int y :: .int x :: S => if y = 0 then none else some (L, .int (x / y) :: S, h)
    | _ => none
  | .irem => match S with
    | .int y :: .int x :: S => if y = 0 then none else some (L, .int (x - x / y * y) :: S, h)
    | _ => none
  | .ineg => match S with
    | .int x :: S => some (L, .int (-x) :: S, h)
    | _ => none
  | .ishl => match S with
    | .int y :: .int x :: S => some (L, .int (x <<< (y &&& 31)) :: S, h)
    | _ => none
  | .ishr => match S with
    | .int y :: .int x :: S => some (L, .int (x >>> (y &&& 31)) :: S, h)
    | _ => none
  | .iushr => match S with
    | .int y :: .int x :: S => some (L, .int ((x.toUInt32 >>> (y.toUInt32 &&& Int32.toUInt32 31)).toInt32) :: S, h)
    | _ => none
  | .ladd => match S with
    | .long y :: .long x :: S => some (L, .long (x + y) :: S, h)
    | _ => none
  | .land => match S with
    | .long y :: .long x :: S => some (L, .long (x &&& y) :: S, h)
    | _ => none
  | .lshl => match S with
    | .int y :: .long x :: S => some (L, .long (x <<< (y.toInt64 &&& 63)) :: S, h)
    | _ => none
  | .lshr => match S with
    | .int y :: .long x :: S => some (L, .long (x >>> (y.toInt64 &&& 63)) :: S, h)
    | _ => none
  | .lcmp => match S with
    | .long y :: .long x :: S => some (L, .int (lg_cmp x y) :: S, h)
    | _ => none
  | .i2l => match S with
    | .int x :: S => some (L, .long x.toInt64 :: S, h)
    | _ => none
  | .l2i => match S with
    | .long x :: S => some (L, .int x.toInt32 :: S, h)
    | _ => none
  | .i2b => match S with
    | .int x :: S => some (L, .int x.toInt8.toInt32 :: S, h)
    | _ => none
  | .i2c => match S with
    | .int x :: S => some (L, .int (x.toUInt32 % 65536).toInt32 :: S, h)
    | _ => none
  | .dup => match S with
    | .int x :: S => some (L, .int x :: .int x :: S, h)
    | .ref x :: S => some (L, .ref x :: .ref x :: S, h)
    | _ => none
  | .dup2 => match S with
    | .int y :: .ref x :: S => some (L, .int y :: .ref x :: .int y :: .ref x :: S, h)
    | .int y :: .int x :: S => some (L, .int y :: .int x :: .int y :: .int x :: S, h)
    | _ => none
  | .pop => match S with
    | .int _ :: S => some (L, S, h)
    | .ref _ :: S => some (L, S, h)
    | _ => none
  | .getfield _ => match o, S with
    | ci :: j :: _, .ref k :: S => match h[k]? with
      | some (.inr (c, fs)) => if c = ci then (match fs[j]? with
        | some v => some (L, v :: S, h)
        | none => none) else none
      | _ => none
    | _, _ => none
  | .putfield _ => match o, S with
    | ci :: j :: t :: _, v :: .ref k :: S => match h[k]? with
      | some (.inr (c, fs)) => if c = ci ∧ j < fs.length ∧ ma_fit t v = true then some (L, S, h.set k (.inr (c, fs.set j v))) else none
      | _ => none
    | _, _ => none
  | .arraylength => match S with
    | .ref k :: S => match ma_g sc h k with
      | some (.inl (_, n, _)) => some (L, .int (Int32.ofNat n) :: S, h)
      | _ => none
    | _ => none
  | .iaload => match S with
    | .int i :: .ref k :: S => match ma_g sc h k with
      | some (.inl (0, n, .inl f)) => if i < 0 ∨ n ≤ i.toNatClampNeg then none else some (L, .int (f i.toNatClampNeg) :: S, h)
      | _ => none
    | _ => none
  | .baload => match S with
    | .int i :: .ref k :: S => match h[k]? with
      | some (.inl (1, n, .inl f)) => if i < 0 ∨ n ≤ i.toNatClampNeg then none else some (L, .int (f i.toNatClampNeg) :: S, h)
      | _ => none
    | _ => none
  | .laload => match S with
    | .int i :: .ref k :: S => match h[k]? with
      | some (.inl (2, n, .inr (.inl f))) => if i < 0 ∨ n ≤ i.toNatClampNeg then none else some (L, .long (f i.toNatClampNeg) :: S, h)
      | _ => none
    | _ => none
  | .aaload => match S with
    | .int i :: .ref k :: S => match h[k]? with
      | some (.inl (t, n, .inr (.inr (.inr (.inr f))))) => if i < 0 ∨ n ≤ i.toNatClampNeg ∨ t < 3 then none else some (L, va_rf (f i.toNatClampNeg) :: S, h)
      | _ => none
    | _ => none
  | .iastore => match S with
    | .int x :: .int i :: .ref k :: S => match h[k]? with
      | some (.inl (0, n, .inl f)) => if i < 0 ∨ n ≤ i.toNatClampNeg then none else some (L, S, h.set k (.inl (0, n, .inl (upd f i.toNatClampNeg x))))
      | _ => none
    | _ => none
  | .bastore => match S with
    | .int x :: .int i :: .ref k :: S => match h[k]? with
      | some (.inl (1, n, .inl f)) => if i < 0 ∨ n ≤ i.toNatClampNeg then none else some (L, S, h.set k (.inl (1, n, .inl (upd f i.toNatClampNeg (vp_nar .byte x)))))
      | _ => none
    | _ => none
  | .lastore => match S with
    | .long x :: .int i :: .ref k :: S => match h[k]? with
      | some (.inl (2, n, .inr (.inl f))) => if i < 0 ∨ n ≤ i.toNatClampNeg then none else some (L, S, h.set k (.inl (2, n, .inr (.inl (vp_updL f i.toNatClampNeg x)))))
      | _ => none
    | _ => none
  | .aastore => match o, S with
    | ci :: _, .ref v :: .int i :: .ref k :: S => match h[k]?, h[v]? with
      | some (.inl (3, n, .inr (.inr (.inr (.inr f))))), some (.inr (c, _)) => if i < 0 ∨ n ≤ i.toNatClampNeg ∨ c ≠ ci then none else some (L, S, h.set k (.inl (3, n, .inr (.inr (.inr (.inr (va_up f i.toNatClampNeg (some v))))))))
      | _, _ => none
    | _, _ => none
  | .new _ => match o with
    | ci :: _ => if 4095 < h.length then none else some (L, .ref h.length :: S, h ++ [.inr (ci, ma_df (ks ci))])
    | _ => none
  | .newarray a => match ma_atc a, S with
    | some t, .int n :: S => if n < 0 ∨ 4095 < h.length ∨ 20000 < n.toNatClampNeg then none else some (L, .ref h.length :: S, h ++ [.inl (t, n.toNatClampNeg, ma_new t)])
    | _, _ => none
  | .anewarray _ => match S with
    | .int n :: S => if n < 0 ∨ 4095 < h.length ∨ 20000 < n.toNatClampNeg then none else some (L, .ref h.length :: S, h ++ [.inl (3, n.toNatClampNeg, ma_new 3)])
    | _ => none
  | .multianewarray _ 2 => match S with
    | .int k :: .int n :: S => if n < 0 ∨ k < 0 ∨ 3000 < h.length ∨ 1000 < n.toNatClampNeg ∨ 20000 < k.toNatClampNeg then none else
        some (L, .ref h.length :: S, h ++ .inl (4, n.toNatClampNeg, .inr (.inr (.inr (.inr (fun i => if i < n.toNatClampNeg then some (h.length + 1 + i) else none))))) :: List.replicate n.toNatClampNeg (.inl (0, k.toNatClampNeg, .inl (fun _ => 0))))
    | _ => none
  | _ => none
/-- the jumps: where to, or on -/
def ma_cmp : ClassFile.Cond → Int32 → Int32 → Bool
  | .eq, x, y => decide (x = y)
  | .ne, x, y => decide (¬ x = y)
  | .lt, x, y => decide (x < y)
  | .ge, x, y => decide (y ≤ x)
  | .gt, x, y => decide (y < x)
  | .le, x, y => decide (x ≤ y)
def ma_j (i : Instr) (o : List Nat) (S : List Value) : Option (Option Nat × List Value) :=
  match i with
  | .nop => match o with
    | [t] => some (some t, S)
    | _ => none
  | .goto _ => match o with
    | [t] => some (some t, S)
    | _ => none
  | .if_icmp c _ => match o, S with
    | [t], .int y :: .int x :: S => some (if ma_cmp c x y = true then some t else none, S)
    | _, _ => none
  | .ifCond c _ => match o, S with
    | [t], .int x :: S => some (if ma_cmp c x 0 = true then some t else none, S)
    | _, _ => none
  | .ifnull _ => match o, S with
    | [t], .null :: S => some (some t, S)
    | [_], .ref _ :: S => some (none, S)
    | _, _ => none
  | .ifnonnull _ => match o, S with
    | [_], .null :: S => some (none, S)
    | [t], .ref _ :: S => some (some t, S)
    | _, _ => none
  | .tableswitch _ lo hi _ => match o, S with
    | t0 :: ts, .int x :: S => if x.toInt < lo ∨ hi < x.toInt then some (some t0, S) else (match ts[(x.toInt - lo).toNat]? with
      | some t => some (some t, S)
      | none => none)
    | _, _ => none
  | _ => none
/-- the calls: whom (1: nobody, 2: the arrays' copier, 3 ..: texts; 0: a method of the table), with what, what stays -/
def ma_a (n : Nat) (S : List Value) : Option (List Value × List Value) := if S.length < n ∨ 8 < ((S.drop n).map fun v => v.category).sum then none else some ((S.take n).reverse, S.drop n)
def ma_cr (m ci : Nat) (q : Option (List Value × List Value)) (h : List ma_C) : Option (Nat × List Value × List Value) := match q with
  | some (.ref k :: a, S) => match h[k]? with
    | some (.inr (c, _)) => if c = ci then some (m, .ref k :: a, S) else none
    | _ => none
  | _ => none
def ma_c (i : Instr) (o : List Nat) (S : List Value) (h : List ma_C) : Option (Nat × List Value × List Value) :=
  match i, o with
  | .invokevirtual _, [0, m, n, ci] => ma_cr m ci (ma_a n S) h
  | .invokespecial _, [0, m, n, ci] => ma_cr m ci (ma_a n S) h
  | .invokestatic _, [0, m, n] => match ma_a n S with
    | some (a, S) => some (m, a, S)
    | none => none
  | _, _ => none
def ma_ent : List Value → ma_L
  | [] => []
  | v :: a => if v.category = 2 then some v :: none :: ma_ent a else some v :: ma_ent a
/-- a method's first locals -/
def ma_en (a : List Value) (n : Nat) : ma_L := ma_ent a ++ List.replicate (n - (ma_ent a).length) none
/-- what is done by the machine itself, or by a method that isn't of the table -/
def ma_x (tx : Nat → Int32 → Option Int32) (i : Instr) (o : List Nat) (S : List Value) (h : List ma_C) : Option (List Value × List ma_C) :=
  match i, o with
  | .invokespecial _, [1] => match S with
    | .ref _ :: S => if 8 < (S.map fun v => v.category).sum then none else some (S, h)
    | _ => none
  | .invokestatic _, [2] => match S with
    | .int n :: .int dp :: .ref b :: .int sp :: .ref a :: S => match h[a]?, h[b]? with
      | some (.inl (0, n0, .inl f)), some (.inl (0, n1, .inl g)) =>
        if 8 < (S.map fun v => v.category).sum ∨ n < 0 ∨ dp < 0 ∨ sp < 0 ∨ n0 < sp.toNatClampNeg + n.toNatClampNeg ∨ n1 < dp.toNatClampNeg + n.toNatClampNeg then none
        else some (S, h.set b (.inl (0, n1, .inl (va_cpy f g sp.toNatClampNeg dp.toNatClampNeg n.toNatClampNeg))))
      | _, _ => none
    | _ => none
  | .invokevirtual _, [3, k] => match S with
    | .ref a :: S => if a = 4097 + k then (match tx (3 * k) 0 with
      | some x => some (.int x :: S, h)
      | none => none) else none
    | _ => none
  | .invokevirtual _, [4, k] => match S with
    | .int j :: .ref a :: S => if a = 4097 + k then (match tx (3 * k + 1) j with
      | some x => some (.int x :: S, h)
      | none => none) else none
    | _ => none
  | .invokevirtual _, [5, k] => match S with
    | .int j :: .ref a :: S => if a = 4097 + k then (match tx (3 * k + 2) j with
      | some x => some (.int x :: S, h)
      | none => none) else none
    | _ => none
  | _, _ => none
def ma_r (i : Instr) (o : List Nat) (S : List Value) : Option (Option Value) :=
  match i, o, S with
  | .ireturn, [0], [.int x] => some (some (.int x))
  | .ireturn, [1], [.int x] => if x = 0 ∨ x = 1 then some (some (.int x)) else none
  | .lreturn, _, [.long x] => some (some (.long x))
  | .return_, _, [] => some none
  | _, _, _ => none
/-- of which kind an instruction is: 0 plain, 1 a jump, 2 a call, 3 an end, 4 what the machine does itself -/
def ma_k : Instr → List Nat → Nat
  | .nop, _ | .goto _, _ | .if_icmp _ _, _ | .ifCond _ _, _ | .ifnull _, _ | .ifnonnull _, _ | .tableswitch _ _ _ _, _ => 1
  | .invokevirtual _, 0 :: _ | .invokespecial _, 0 :: _ | .invokestatic _, 0 :: _ => 2
  | .invokevirtual _, _ | .invokespecial _, _ | .invokestatic _, _ => 4
  | .ireturn, _ | .lreturn, _ | .return_, _ => 3
  | _, _ => 0
/-- a program: the blocks of each method by their first places, the length of each method's locals, the kinds of each sort's fields, the texts, the script -/
abbrev ma_P : Type := (Nat → Nat → List ma_I) × (Nat → Nat) × (Nat → List Nat) × (Nat → Int32 → Option Int32) × (Nat × (Nat → Int32))
def ma_run (P : ma_P) : Nat → Nat → Nat → List ma_I → ma_L → List Value → List ma_C → Option (Option Value × List ma_C)
  | 0, _, _, _, _, _, _ => none
  | _ + 1, _, _, [], _, _, _ => none
  | n + 1, d, m, (i, o) :: is, L, S, h =>
    match ma_k i o with
    | 0 => match ma_s P.2.2.2.2 P.2.2.1 i o L S h with
      | some (L, S, h) => ma_run P n d m is L S h
      | none => none
    | 1 => match ma_j i o S with
      | some (some t, S) => ma_run P n d m (P.1 m t) L S h
      | some (none, S) => ma_run P n d m is L S h
      | none => none
    | 2 => match ma_c i o S h with
      | some (m', a, S) => if P.2.1 m' < (ma_ent a).length then none else match d with
        | 0 => none
        | d + 1 => match ma_run P n d m' (P.1 m' 0) (ma_en a (P.2.1 m')) [] h with
          | some (r, h) => ma_run P n (d + 1) m is L (r.toList ++ S) h
          | none => none
      | none => none
    | 3 => match ma_r i o S with
      | some r => some (r, h)
      | none => none
    | _ => match (if d < 9 then none else ma_x P.2.2.2.1 i o S h) with
      | some (S, h) => ma_run P n d m is L S h
      | none => none
end
section
/-! ===== How the machine's lists stand for the true heap ===== -/
def ma_va (ad : Nat → Nat) : Value → Value
  | .ref k => .ref (ad k)
  | v => v
def ma_ac (ad : Nat → Nat) (x : vp_A) : vp_A := (x.1, match x.2 with
  | .inr (.inr (.inr (.inr f))) => .inr (.inr (.inr (.inr (fun j => (f j).map ad))))
  | y => y)
def ma_at (D : va_G) (cl : List vw_C) (ad : Nat → Nat) (s : State) (H : Heap) (a : Nat) (c : ma_C) : Prop := match c with
  | .inl q => ∃ cA : ClassId, ArrOfT s cA (ma_ty q.1) ∧ (q.1 = 3 → va_RA s cA (ma_ty 3)) ∧ H[a]? = some (vp_cell cA (ma_ac ad q.2))
  | .inr q => ∃ r : vw_C, cl[q.1]? = some r ∧ q.2.length = r.2.2 ∧ t_OB a (D.1 q.1) r.2.2 (D.2 q.1) H (vp_V (q.2.map (ma_va ad)))
def ma_H (D : va_G) (cl : List vw_C) (ad : Nat → Nat) (base : Nat) (s : State) (H : Heap) (h : List ma_C) : Prop :=
  H.size = base + h.length ∧ h.length ≤ 4096 ∧ ∀ (k : Nat) (c : ma_C), h[k]? = some c → ma_at D cl ad s H (base + k) c
def ma_F (base : Nat) (s : State) (H : Heap) (locs : List Loc) : Prop := (∀ q : Nat, q < base → H[q]? = s.heap[q]?) ∧ ∀ l ∈ locs, base ≤ l.base
theorem ma_va_cat (ad : Nat → Nat) (v : Value) : (ma_va ad v).category = v.category := by cases v <;> rfl
theorem ma_at.kept {D : va_G} {cl : List vw_C} {ad : Nat → Nat} {s : State} {H H1 : Heap} {a : Nat} {c : ma_C} (h : ma_at D cl ad s H a c) (e : H1[a]? = H[a]?) : ma_at D cl ad s H1 a c := by
  cases c with
  | inl q =>
    obtain ⟨cA, h1, h2, h3⟩ := h
    exact ⟨cA, h1, h2, e.trans h3⟩
  | inr q =>
    obtain ⟨r, h1, h2, h3⟩ := h
    exact ⟨r, h1, h2, h3.kept e⟩
theorem ma_at.moved {D : va_G} {cl : List vw_C} {ad : Nat → Nat} {u U : State} {H : Heap} {a : Nat} {c : ma_C} (hvm : u.vm.Alike U.vm) (h : ma_at D cl ad u H a c) : ma_at D cl ad U H a c := by
  cases c with
  | inl q =>
    obtain ⟨cA, h1, h2, h3⟩ := h
    exact ⟨cA, arrOfT_moved hvm h1, fun z => (h2 z).moved hvm, h3⟩
  | inr q => exact h
theorem ma_H.moved {D : va_G} {cl : List vw_C} {ad : Nat → Nat} {base : Nat} {u U : State} {H : Heap} {h : List ma_C} (hvm : u.vm.Alike U.vm) (hh : ma_H D cl ad base u H h) : ma_H D cl ad base U H h :=
  ⟨hh.1, hh.2.1, fun k c hk => (hh.2.2 k c hk).moved hvm⟩
theorem ma_H.set {D : va_G} {cl : List vw_C} {ad : Nat → Nat} {base : Nat} {s : State} {H H1 : Heap} {h : List ma_C} {k : Nat} {c : ma_C} (hh : ma_H D cl ad base s H h) (e1 : H1.size = H.size) (e2 : ∀ q, q ≠ base + k → H1[q]? = H[q]?) (e3 : ma_at D cl ad s H1 (base + k) c) : ma_H D cl ad base s H1 (h.set k c) := by
  refine ⟨by rw [e1, hh.1, List.length_set], by rw [List.length_set]; exact hh.2.1, fun j x hj => ?_⟩
  rw [List.getElem?_set] at hj
  split at hj
  next hkj =>
    subst hkj
    split at hj
    next => cases hj; exact e3
    next => cases hj
  next hkj => exact (hh.2.2 j x hj).kept (e2 _ (by omega))
theorem ma_H.push {D : va_G} {cl : List vw_C} {ad : Nat → Nat} {base : Nat} {s : State} {H H1 : Heap} {h : List ma_C} {c : ma_C} (hh : ma_H D cl ad base s H h) (hl : ¬ 4095 < h.length) (e1 : H1.size = H.size + 1) (e2 : ∀ q, q < H.size → H1[q]? = H[q]?) (e3 : ma_at D cl ad s H1 H.size c) : ma_H D cl ad base s H1 (h ++ [c]) := by
  refine ⟨by rw [e1, hh.1, List.length_append, List.length_singleton]; omega, by rw [List.length_append, List.length_singleton]; omega, fun j x hj => ?_⟩
  by_cases hjl : j < h.length
  · rw [List.getElem?_append_left hjl] at hj
    exact (hh.2.2 j x hj).kept (e2 _ (by rw [hh.1]; omega))
  · rw [List.getElem?_append_right (by omega)] at hj
    have h0 : j - h.length < 1 := (List.getElem?_eq_some_iff.mp hj).1
    have hz : j = h.length := by omega
    subst hz
    simp only [Nat.sub_self, List.getElem?_cons_zero, Option.some.injEq] at hj
    subst hj
    rw [← hh.1]
    exact e3
theorem ma_F.put {base : Nat} {s : State} {H H1 : Heap} {locs : List Loc} {a i : Nat} (hF : ma_F base s H locs) (ha : base ≤ a) (e2 : ∀ q, q ≠ a → H1[q]? = H[q]?) : ma_F base s H1 (locs ++ [⟨a, i⟩]) := by
  refine ⟨fun q hq => (e2 q (by omega)).trans (hF.1 q hq), fun l hl => ?_⟩
  rcases List.mem_append.mp hl with h | h
  · exact hF.2 l h
  · rw [List.mem_singleton] at h
    subst h
    exact ha
theorem ma_F.push {base : Nat} {s : State} {H H1 : Heap} {locs : List Loc} (hF : ma_F base s H locs) (hb : base ≤ H.size) (e2 : ∀ q, q < H.size → H1[q]? = H[q]?) : ma_F base s H1 locs :=
  ⟨fun q hq => (e2 q (by omega)).trans (hF.1 q hq), hF.2⟩
/-! the locals -/
def ma_lvo (ad : Nat → Nat) (L : ma_L) (i : Nat) : Option (Nat × Value) := match L[i]? with
  | some (some v) => if v.category = 1 ∨ L[i + 1]? = some none then some (i, ma_va ad v) else none
  | _ => none
def ma_lv (ad : Nat → Nat) (L : ma_L) : List (Nat × Value) := (List.range L.length).filterMap (ma_lvo ad L)
theorem ma_lv_mem {ad : Nat → Nat} {L : ma_L} {q : Nat × Value} : q ∈ ma_lv ad L ↔ ∃ v, L[q.1]? = some (some v) ∧ (v.category = 1 ∨ L[q.1 + 1]? = some none) ∧ q.2 = ma_va ad v := by
  unfold ma_lv
  rw [List.mem_filterMap]
  constructor
  · rintro ⟨i, -, hi⟩
    unfold ma_lvo at hi
    split at hi
    next v hv =>
      split at hi
      next hc => cases hi; exact ⟨v, hv, hc, rfl⟩
      next => cases hi
    next => cases hi
  · rintro ⟨v, h1, h2, h3⟩
    refine ⟨q.1, List.mem_range.mpr (List.getElem?_eq_some_iff.mp h1).1, ?_⟩
    unfold ma_lvo
    rw [h1]
    simp only [if_pos h2, ← h3]
theorem ma_ld_some {L : ma_L} {k : Nat} {v : Value} (h : ma_ld L k = some v) : L[k]? = some (some v) := by
  unfold ma_ld at h
  split at h
  next w hw => cases h; exact hw
  next => cases h
theorem ma_lv_get {ad : Nat → Nat} {L : ma_L} {ls : Array Slot} {nL k : Nat} {v : Value} (hl : lv_has ls nL (ma_lv ad L)) (h : ma_ld L k = some v) (hc : v.category = 1 ∨ L[k + 1]? = some none) : ls[k]? = some (.val (ma_va ad v)) :=
  hl.2.2 (k, ma_va ad v) (ma_lv_mem.mpr ⟨v, ma_ld_some h, hc, rfl⟩)
theorem ma_lv_set {ad : Nat → Nat} {L : ma_L} {ls : Array Slot} {nL k : Nat} {v : Value} (hc : v.category = 1) (hl : lv_has ls nL ((k, ma_va ad v) :: (ma_lv ad L).filter (fun q => !(q.1 == k) && !(q.1 + 1 == k && q.2.category == 2)))) : lv_has ls nL (ma_lv ad (L.set k (some v))) := by
  refine ⟨hl.1, hl.2.1, fun q hq => hl.2.2 q ?_⟩
  obtain ⟨w, h1, h2, h3⟩ := ma_lv_mem.mp hq
  by_cases hk : q.1 = k
  · refine List.mem_cons.mpr (Or.inl ?_)
    rw [hk, List.getElem?_set_self' ] at h1
    obtain ⟨a, b⟩ := q
    simp only at hk h3
    cases hL : L[k]? with
    | none => rw [hL] at h1; cases h1
    | some z =>
      rw [hL] at h1
      simp at h1
      rw [hk, h3, ← h1]
  · refine List.mem_cons.mpr (Or.inr (List.mem_filter.mpr ⟨ma_lv_mem.mpr ⟨w, ?_, ?_, h3⟩, ?_⟩))
    · rwa [List.getElem?_set_ne (Ne.symm hk)] at h1
    · rcases h2 with h2 | h2
      · exact Or.inl h2
      · by_cases hk1 : q.1 + 1 = k
        · exfalso
          rw [hk1, List.getElem?_set_self'] at h2
          cases hL : L[k]? with
          | none => rw [hL] at h2; cases h2
          | some z => rw [hL] at h2; simp at h2
        · rw [List.getElem?_set_ne (Ne.symm hk1)] at h2
          exact Or.inr h2
    · rw [h3, ma_va_cat]
      rcases h2 with h2 | h2
      · simp [hk, h2]
      · have hk1 : ¬ q.1 + 1 = k := by
          intro hk1
          rw [hk1, List.getElem?_set_self'] at h2
          cases hL : L[k]? with
          | none => rw [hL] at h2; cases h2
          | some z => rw [hL] at h2; simp at h2
        simp [hk, hk1]
theorem ma_lv_set2 {ad : Nat → Nat} {L : ma_L} {ls : Array Slot} {nL k : Nat} {x : Int64} (hl : lv_has ls nL ((k, Value.long x) :: (ma_lv ad L).filter (fun q => !(q.1 == k) && (!(q.1 == k + 1) && !(q.1 + 1 == k && q.2.category == 2))))) : lv_has ls nL (ma_lv ad ((L.set k (some (.long x))).set (k + 1) none)) := by
  refine ⟨hl.1, hl.2.1, fun q hq => hl.2.2 q ?_⟩
  obtain ⟨w, h1, h2, h3⟩ := ma_lv_mem.mp hq
  have hk1 : ¬ q.1 = k + 1 := by
    intro hk1
    rw [hk1, List.getElem?_set_self'] at h1
    cases hL : (L.set k (some (Value.long x)))[k + 1]? with
    | none => rw [hL] at h1; cases h1
    | some z => rw [hL] at h1; simp at h1
  rw [List.getElem?_set_ne (Ne.symm hk1)] at h1
  by_cases hk : q.1 = k
  · refine List.mem_cons.mpr (Or.inl ?_)
    rw [hk, List.getElem?_set_self'] at h1
    obtain ⟨a, b⟩ := q
    simp only at hk h3
    cases hL : L[k]? with
    | none => rw [hL] at h1; cases h1
    | some z =>
      rw [hL] at h1
      simp at h1
      rw [hk, h3, ← h1]
      rfl
  · refine List.mem_cons.mpr (Or.inr (List.mem_filter.mpr ⟨ma_lv_mem.mpr ⟨w, ?_, ?_, h3⟩, ?_⟩))
    · rwa [List.getElem?_set_ne (Ne.symm hk)] at h1
    · rcases h2 with h2 | h2
      · exact Or.inl h2
      · by_cases hk2 : q.1 + 1 = k
        · exfalso
          rw [List.getElem?_set_ne (by omega), hk2, List.getElem?_set_self'] at h2
          cases hL : L[k]? with
          | none => rw [hL] at h2; cases h2
          | some z => rw [hL] at h2; simp at h2
        · rw [List.getElem?_set_ne (by omega), List.getElem?_set_ne (Ne.symm hk2)] at h2
          exact Or.inr h2
    · rw [h3, ma_va_cat]
      rcases h2 with h2 | h2
      · simp [hk, hk1, h2]
      · have hk2 : ¬ q.1 + 1 = k := by
          intro hk2
          rw [List.getElem?_set_ne (by omega), hk2, List.getElem?_set_self'] at h2
          cases hL : L[k]? with
          | none => rw [hL] at h2; cases h2
          | some z => rw [hL] at h2; simp at h2
        simp [hk, hk1, hk2]
/-! what stays the same in a method's walk -/
def ma_kt : Nat → FieldType → Bool
  | 0, .int => true
  | 1, .boolean => true
  | 2, .object _ => true
  | 2, .array _ => true
  | _, _ => false
theorem ma_kt_fit {t : Nat} {ty : FieldType} {v : Value} {ad : Nat → Nat} (h : ma_kt t ty = true) (hv : ma_fit t v = true) : narrow ty (ma_va ad v) = ma_va ad v ∧ fits ty (ma_va ad v) = true := by
  unfold ma_kt at h
  split at h
  · cases v <;> first | (simp [ma_fit] at hv; done) | exact ⟨rfl, rfl⟩
  · cases v with
    | int x =>
      simp only [ma_fit, Bool.or_eq_true, beq_iff_eq] at hv
      rcases hv with rfl | rfl
      · show narrow .boolean (.int 0) = .int 0 ∧ fits .boolean (.int 0) = true
        exact ⟨by decide +kernel, by decide +kernel⟩
      · show narrow .boolean (.int 1) = .int 1 ∧ fits .boolean (.int 1) = true
        exact ⟨by decide +kernel, by decide +kernel⟩
    | _ => simp [ma_fit] at hv
  · cases v <;> first | (simp [ma_fit] at hv; done) | exact ⟨rfl, rfl⟩
  · cases v <;> first | (simp [ma_fit] at hv; done) | exact ⟨rfl, rfl⟩
  · cases h
/-- what is known of the sorts of objects: their words are among G, their fields' names differ, the kinds of their fields -/
def ma_cls (cl : List vw_C) (ks : Nat → List Nat) (G : List Jvm.Cond) : Prop :=
  ∀ (ci : Nat) (C : String) (T : u_T) (N : Nat), cl[ci]? = some (C, T, N) → (∀ w ∈ u_ws C T N, w ∈ G) ∧ (∀ a, a < N → ∀ b, b < N → a ≠ b → (T a).2.1 ≠ (T b).2.1) ∧ (ks ci).length = N ∧
    ∀ k, k < N → (T k).1 = C ∧ ∃ ty, parseFieldDescriptor (T k).2.2.1 = some ty ∧ ∃ t, (ks ci)[k]? = some t ∧ ma_kt t ty = true
def ma_fl (cl : List vw_C) (G : List Jvm.Cond) (own : String) (x ci j : Nat) : Prop :=
  ∃ (C : String) (T : u_T) (N : Nat), cl[ci]? = some (C, T, N) ∧ j < N ∧ (Jvm.Cond.fieldLink own x C (T j).2.1 (T j).2.2.1 ∈ G ∨ ∃ host, Jvm.Cond.fieldLinkNest own x C (T j).2.1 (T j).2.2.1 host ∈ G)
/-- a field that is put: it isn't final, or this is its own maker -/
def ma_fp (cl : List vw_C) (G : List Jvm.Cond) (own : String) (ini : Bool) (x ci j : Nat) : Prop :=
  ∃ (C : String) (T : u_T) (N : Nat), cl[ci]? = some (C, T, N) ∧ j < N ∧ (((T j).2.2.2 = false ∧ (Jvm.Cond.fieldLink own x C (T j).2.1 (T j).2.2.1 ∈ G ∨ ∃ host, Jvm.Cond.fieldLinkNest own x C (T j).2.1 (T j).2.2.1 host ∈ G)) ∨
    ((T j).2.2.2 = true ∧ ini = true ∧ C = own ∧ Jvm.Cond.fieldLink own x C (T j).2.1 (T j).2.2.1 ∈ G))
def ma_X (D : va_G) (cl : List vw_C) (ks : Nat → List Nat) (ad : Nat → Nat) (base : Nat) (sc : Nat × (Nat → Int32)) (G : List Jvm.Cond) (own : String) (ini : Bool) (p : Program) (s : State) (m : MethodId) (args : Array Value) (meth : Method) (c : Code) (cc : ByteArray) (nL : Nat) : Prop :=
  p.tables.exec = Jvm.exec ∧ c.code = cc ∧ c.maxLocals = nL ∧ s.vm.findClass own = some m.cls ∧ (∀ w ∈ G, w.before args s = true) ∧ (∀ (ci : Nat) (q : vw_C), cl[ci]? = some q → u_Kn s q.1 q.2.1 q.2.2 (D.1 ci) (D.2 ci)) ∧ (∀ k, k < 4096 → ad k = base + k) ∧ (ini = true → meth.name = "<init>") ∧ ma_cls cl ks G ∧ va_X (ad 4096) sc.1 sc.2 s s.heap ∧ ad 4096 < base
/-- the machine's state stands for the true one, from which the end is reached -/
def ma_G (D : va_G) (cl : List vw_C) (ad : Nat → Nat) (base : Nat) (p : Program) (l : Launch) (e : Env) (R : Room) (s : State) (m : MethodId) (args : Array Value) (below : List Frame) (meth : Method) (c : Code) (Q : State → Prop) (nL pc : Nat) (L : ma_L) (S : List Value) (h : List ma_C) (cells slots : Nat) : Prop :=
  ∀ (H : Heap) (locs : List Loc) (ls : Array Slot), ma_H D cl ad base s H h → ma_F base s H locs → lv_has ls nL (ma_lv ad L) → L.length = nL → W p l e R s m args below meth c H locs cells slots Q (F0 m pc ls (S.map (ma_va ad)))
end
section
section MS
variable {D : va_G} {cl : List vw_C} {ks : Nat → List Nat} {ad : Nat → Nat} {base : Nat} {G : List Jvm.Cond} {own : String} {ini : Bool} {p : Program} {l : Launch} {e : Env} {R : Room} {s : State} {m : MethodId} {args : Array Value} {below : List Frame} {meth : Method} {c : Code} {cc : ByteArray} {nL pc : Nat} {Q : State → Prop} {sc : Nat × (Nat → Int32)} {o : List Nat} {L L' : ma_L} {S S' : List Value} {h h' : List ma_C} {cells slots : Nat}

theorem ma_o_iconst {n : Int} (X : ma_X D cl ks ad base sc G own ini p s m args meth c cc nL) (hdg : decode cc pc = .ok (.iconst n, 1)) (hs : ma_s sc ks (.iconst n) o L S h = some (L', S', h')) (k : ma_G D cl ad base p l e R s m args below meth c Q nL (pc + 1) L' S' h' cells slots) : ma_G D cl ad base p l e R s m args below meth c Q nL pc L S h cells slots := by
  obtain ⟨hx, hb, hml, hown, hts, hkn, had, hini, hcls, hsx, hsb⟩ := X
  simp only [ma_s] at hs
  cases hs
  intro H locs ls hH hF hl hn
  exact lv_iconst hx hb hdg rfl (k H locs ls hH hF hl hn)

theorem ma_o_bipush {n : Int} (X : ma_X D cl ks ad base sc G own ini p s m args meth c cc nL) (hdg : decode cc pc = .ok (.bipush n, 2)) (hlk : (Int8.ofInt n).toInt32 = Int32.ofInt n) (hs : ma_s sc ks (.bipush n) o L S h = some (L', S', h')) (k : ma_G D cl ad base p l e R s m args below meth c Q nL (pc + 2) L' S' h' cells slots) : ma_G D cl ad base p l e R s m args below meth c Q nL pc L S h cells slots := by
  obtain ⟨hx, hb, hml, hown, hts, hkn, had, hini, hcls, hsx, hsb⟩ := X
  simp only [ma_s] at hs
  cases hs
  intro H locs ls hH hF hl hn
  exact lv_bipush hx hb hdg hlk (k H locs ls hH hF hl hn)

theorem ma_o_sipush {n : Int} (X : ma_X D cl ks ad base sc G own ini p s m args meth c cc nL) (hdg : decode cc pc = .ok (.sipush n, 3)) (hlk : (Int16.ofInt n).toInt32 = Int32.ofInt n) (hs : ma_s sc ks (.sipush n) o L S h = some (L', S', h')) (k : ma_G D cl ad base p l e R s m args below meth c Q nL (pc + 3) L' S' h' cells slots) : ma_G D cl ad base p l e R s m args below meth c Q nL pc L S h cells slots := by
  obtain ⟨hx, hb, hml, hown, hts, hkn, had, hini, hcls, hsx, hsb⟩ := X
  simp only [ma_s] at hs
  cases hs
  intro H locs ls hH hF hl hn
  exact lv_sipush hx hb hdg hlk (k H locs ls hH hF hl hn)

theorem ma_o_lconst {n : Fin 2} (X : ma_X D cl ks ad base sc G own ini p s m args meth c cc nL) (hdg : decode cc pc = .ok (.lconst n, 1)) (hs : ma_s sc ks (.lconst n) o L S h = some (L', S', h')) (k : ma_G D cl ad base p l e R s m args below meth c Q nL (pc + 1) L' S' h' cells slots) : ma_G D cl ad base p l e R s m args below meth c Q nL pc L S h cells slots := by
  obtain ⟨hx, hb, hml, hown, hts, hkn, had, hini, hcls, hsx, hsb⟩ := X
  simp only [ma_s] at hs
  cases hs
  intro H locs ls hH hF hl hn
  exact lv_lconst hx hb hdg rfl (k H locs ls hH hF hl hn)

theorem ma_o_null (X : ma_X D cl ks ad base sc G own ini p s m args meth c cc nL) (hdg : decode cc pc = .ok (.aconst_null, 1)) (hs : ma_s sc ks (.aconst_null) o L S h = some (L', S', h')) (k : ma_G D cl ad base p l e R s m args below meth c Q nL (pc + 1) L' S' h' cells slots) : ma_G D cl ad base p l e R s m args below meth c Q nL pc L S h cells slots := by
  obtain ⟨hx, hb, hml, hown, hts, hkn, had, hini, hcls, hsx, hsb⟩ := X
  simp only [ma_s] at hs
  cases hs
  intro H locs ls hH hF hl hn
  exact lv_null hx hb hdg (k H locs ls hH hF hl hn)

theorem ma_o_iadd (X : ma_X D cl ks ad base sc G own ini p s m args meth c cc nL) (hdg : decode cc pc = .ok (.iadd, 1)) (hs : ma_s sc ks (.iadd) o L S h = some (L', S', h')) (k : ma_G D cl ad base p l e R s m args below meth c Q nL (pc + 1) L' S' h' cells slots) : ma_G D cl ad base p l e R s m args below meth c Q nL pc L S h cells slots := by
  obtain ⟨hx, hb, hml, hown, hts, hkn, had, hini, hcls, hsx, hsb⟩ := X
  simp only [ma_s] at hs
  split at hs
  · cases hs
    intro H locs ls hH hF hl hn
    exact lv_iadd hx hb hdg (k H locs ls hH hF hl hn)
  · cases hs

theorem ma_o_isub (X : ma_X D cl ks ad base sc G own ini p s m args meth c cc nL) (hdg : decode cc pc = .ok (.isub, 1)) (hs : ma_s sc ks (.isub) o L S h = some (L', S', h')) (k : ma_G D cl ad base p l e R s m args below meth c Q nL (pc + 1) L' S' h' cells slots) : ma_G D cl ad base p l e R s m args below meth c Q nL pc L S h cells slots := by
  obtain ⟨hx, hb, hml, hown, hts, hkn, had, hini, hcls, hsx, hsb⟩ := X
  simp only [ma_s] at hs
  split at hs
  · cases hs
    intro H locs ls hH hF hl hn
    exact lv_isub hx hb hdg (k H locs ls hH hF hl hn)
  · cases hs

theorem ma_o_imul (X : ma_X D cl ks ad base sc G own ini p s m args meth c cc nL) (hdg : decode cc pc = .ok (.imul, 1)) (hs : ma_s sc ks (.imul) o L S h = some (L', S', h')) (k : ma_G D cl ad base p l e R s m args below meth c Q nL (pc + 1) L' S' h' cells slots) : ma_G D cl ad base p l e R s m args below meth c Q nL pc L S h cells slots := by
  obtain ⟨hx, hb, hml, hown, hts, hkn, had, hini, hcls, hsx, hsb⟩ := X
  simp only [ma_s] at hs
  split at hs
  · cases hs
    intro H locs ls hH hF hl hn
    exact lv_imul hx hb hdg (k H locs ls hH hF hl hn)
  · cases hs

theorem ma_o_iand (X : ma_X D cl ks ad base sc G own ini p s m args meth c cc nL) (hdg : decode cc pc = .ok (.iand, 1)) (hs : ma_s sc ks (.iand) o L S h = some (L', S', h')) (k : ma_G D cl ad base p l e R s m args below meth c Q nL (pc + 1) L' S' h' cells slots) : ma_G D cl ad base p l e R s m args below meth c Q nL pc L S h cells slots := by
  obtain ⟨hx, hb, hml, hown, hts, hkn, had, hini, hcls, hsx, hsb⟩ := X
  simp only [ma_s] at hs
  split at hs
  · cases hs
    intro H locs ls hH hF hl hn
    exact lv_iand hx hb hdg (k H locs ls hH hF hl hn)
  · cases hs

theorem ma_o_ior (X : ma_X D cl ks ad base sc G own ini p s m args meth c cc nL) (hdg : decode cc pc = .ok (.ior, 1)) (hs : ma_s sc ks (.ior) o L S h = some (L', S', h')) (k : ma_G D cl ad base p l e R s m args below meth c Q nL (pc + 1) L' S' h' cells slots) : ma_G D cl ad base p l e R s m args below meth c Q nL pc L S h cells slots := by
  obtain ⟨hx, hb, hml, hown, hts, hkn, had, hini, hcls, hsx, hsb⟩ := X
  simp only [ma_s] at hs
  split at hs
  · cases hs
    intro H locs ls hH hF hl hn
    exact lv_ior hx hb hdg (k H locs ls hH hF hl hn)
  · cases hs

theorem ma_o_ixor (X : ma_X D cl ks ad base sc G own ini p s m args meth c cc nL) (hdg : decode cc pc = .ok (.ixor, 1)) (hs : ma_s sc ks (.ixor) o L S h = some (L', S', h')) (k : ma_G D cl ad base p l e R s m args below meth c Q nL (pc + 1) L' S' h' cells slots) : ma_G D cl ad base p l e R s m args below meth c Q nL pc L S h cells slots := by
  obtain ⟨hx, hb, hml, hown, hts, hkn, had, hini, hcls, hsx, hsb⟩ := X
  simp only [ma_s] at hs
  split at hs
  · cases hs
    intro H locs ls hH hF hl hn
    exact lv_ixor hx hb hdg (k H locs ls hH hF hl hn)
  · cases hs

theorem ma_o_ineg (X : ma_X D cl ks ad base sc G own ini p s m args meth c cc nL) (hdg : decode cc pc = .ok (.ineg, 1)) (hs : ma_s sc ks (.ineg) o L S h = some (L', S', h')) (k : ma_G D cl ad base p l e R s m args below meth c Q nL (pc + 1) L' S' h' cells slots) : ma_G D cl ad base p l e R s m args below meth c Q nL pc L S h cells slots := by
  obtain ⟨hx, hb, hml, hown, hts, hkn, had, hini, hcls, hsx, hsb⟩ := X
  simp only [ma_s] at hs
  split at hs
  · cases hs
    intro H locs ls hH hF hl hn
    exact lv_ineg hx hb hdg (k H locs ls hH hF hl hn)
  · cases hs

theorem ma_o_ishl (X : ma_X D cl ks ad base sc G own ini p s m args meth c cc nL) (hdg : decode cc pc = .ok (.ishl, 1)) (hs : ma_s sc ks (.ishl) o L S h = some (L', S', h')) (k : ma_G D cl ad base p l e R s m args below meth c Q nL (pc + 1) L' S' h' cells slots) : ma_G D cl ad base p l e R s m args below meth c Q nL pc L S h cells slots := by
  obtain ⟨hx, hb, hml, hown, hts, hkn, had, hini, hcls, hsx, hsb⟩ := X
  simp only [ma_s] at hs
  split at hs
  · cases hs
    intro H locs ls hH hF hl hn
    exact lv_ishl hx hb hdg (k H locs ls hH hF hl hn)
  · cases hs

theorem ma_o_ishr (X : ma_X D cl ks ad base sc G own ini p s m args meth c cc nL) (hdg : decode cc pc = .ok (.ishr, 1)) (hs : ma_s sc ks (.ishr) o L S h = some (L', S', h')) (k : ma_G D cl ad base p l e R s m args below meth c Q nL (pc + 1) L' S' h' cells slots) : ma_G D cl ad base p l e R s m args below meth c Q nL pc L S h cells slots := by
  obtain ⟨hx, hb, hml, hown, hts, hkn, had, hini, hcls, hsx, hsb⟩ := X
  simp only [ma_s] at hs
  split at hs
  · cases hs
    intro H locs ls hH hF hl hn
    exact lv_ishr hx hb hdg (k H locs ls hH hF hl hn)
  · cases hs

theorem ma_o_ladd (X : ma_X D cl ks ad base sc G own ini p s m args meth c cc nL) (hdg : decode cc pc = .ok (.ladd, 1)) (hs : ma_s sc ks (.ladd) o L S h = some (L', S', h')) (k : ma_G D cl ad base p l e R s m args below meth c Q nL (pc + 1) L' S' h' cells slots) : ma_G D cl ad base p l e R s m args below meth c Q nL pc L S h cells slots := by
  obtain ⟨hx, hb, hml, hown, hts, hkn, had, hini, hcls, hsx, hsb⟩ := X
  simp only [ma_s] at hs
  split at hs
  · cases hs
    intro H locs ls hH hF hl hn
    exact lv_ladd hx hb hdg (k H locs ls hH hF hl hn)
  · cases hs

theorem ma_o_land (X : ma_X D cl ks ad base sc G own ini p s m args meth c cc nL) (hdg : decode cc pc = .ok (.land, 1)) (hs : ma_s sc ks (.land) o L S h = some (L', S', h')) (k : ma_G D cl ad base p l e R s m args below meth c Q nL (pc + 1) L' S' h' cells slots) : ma_G D cl ad base p l e R s m args below meth c Q nL pc L S h cells slots := by
  obtain ⟨hx, hb, hml, hown, hts, hkn, had, hini, hcls, hsx, hsb⟩ := X
  simp only [ma_s] at hs
  split at hs
  · cases hs
    intro H locs ls hH hF hl hn
    exact lv_land hx hb hdg (k H locs ls hH hF hl hn)
  · cases hs

theorem ma_o_iushr (X : ma_X D cl ks ad base sc G own ini p s m args meth c cc nL) (hdg : decode cc pc = .ok (.iushr, 1)) (hs : ma_s sc ks (.iushr) o L S h = some (L', S', h')) (k : ma_G D cl ad base p l e R s m args below meth c Q nL (pc + 1) L' S' h' cells slots) : ma_G D cl ad base p l e R s m args below meth c Q nL pc L S h cells slots := by
  obtain ⟨hx, hb, hml, hown, hts, hkn, had, hini, hcls, hsx, hsb⟩ := X
  simp only [ma_s] at hs
  split at hs
  · cases hs
    intro H locs ls hH hF hl hn
    exact lv_iushr hx hb hdg rfl (k H locs ls hH hF hl hn)
  · cases hs

theorem ma_o_lshl (X : ma_X D cl ks ad base sc G own ini p s m args meth c cc nL) (hdg : decode cc pc = .ok (.lshl, 1)) (hs : ma_s sc ks (.lshl) o L S h = some (L', S', h')) (k : ma_G D cl ad base p l e R s m args below meth c Q nL (pc + 1) L' S' h' cells slots) : ma_G D cl ad base p l e R s m args below meth c Q nL pc L S h cells slots := by
  obtain ⟨hx, hb, hml, hown, hts, hkn, had, hini, hcls, hsx, hsb⟩ := X
  simp only [ma_s] at hs
  split at hs
  · cases hs
    intro H locs ls hH hF hl hn
    exact lv_lshl hx hb hdg rfl (k H locs ls hH hF hl hn)
  · cases hs

theorem ma_o_lshr (X : ma_X D cl ks ad base sc G own ini p s m args meth c cc nL) (hdg : decode cc pc = .ok (.lshr, 1)) (hs : ma_s sc ks (.lshr) o L S h = some (L', S', h')) (k : ma_G D cl ad base p l e R s m args below meth c Q nL (pc + 1) L' S' h' cells slots) : ma_G D cl ad base p l e R s m args below meth c Q nL pc L S h cells slots := by
  obtain ⟨hx, hb, hml, hown, hts, hkn, had, hini, hcls, hsx, hsb⟩ := X
  simp only [ma_s] at hs
  split at hs
  · cases hs
    intro H locs ls hH hF hl hn
    exact lv_lshr hx hb hdg rfl (k H locs ls hH hF hl hn)
  · cases hs

theorem ma_o_i2l (X : ma_X D cl ks ad base sc G own ini p s m args meth c cc nL) (hdg : decode cc pc = .ok (.i2l, 1)) (hs : ma_s sc ks (.i2l) o L S h = some (L', S', h')) (k : ma_G D cl ad base p l e R s m args below meth c Q nL (pc + 1) L' S' h' cells slots) : ma_G D cl ad base p l e R s m args below meth c Q nL pc L S h cells slots := by
  obtain ⟨hx, hb, hml, hown, hts, hkn, had, hini, hcls, hsx, hsb⟩ := X
  simp only [ma_s] at hs
  split at hs
  · cases hs
    intro H locs ls hH hF hl hn
    exact lv_i2l hx hb hdg rfl (k H locs ls hH hF hl hn)
  · cases hs

theorem ma_o_l2i (X : ma_X D cl ks ad base sc G own ini p s m args meth c cc nL) (hdg : decode cc pc = .ok (.l2i, 1)) (hs : ma_s sc ks (.l2i) o L S h = some (L', S', h')) (k : ma_G D cl ad base p l e R s m args below meth c Q nL (pc + 1) L' S' h' cells slots) : ma_G D cl ad base p l e R s m args below meth c Q nL pc L S h cells slots := by
  obtain ⟨hx, hb, hml, hown, hts, hkn, had, hini, hcls, hsx, hsb⟩ := X
  simp only [ma_s] at hs
  split at hs
  · cases hs
    intro H locs ls hH hF hl hn
    exact lv_l2i hx hb hdg rfl (k H locs ls hH hF hl hn)
  · cases hs

theorem ma_o_i2b (X : ma_X D cl ks ad base sc G own ini p s m args meth c cc nL) (hdg : decode cc pc = .ok (.i2b, 1)) (hs : ma_s sc ks (.i2b) o L S h = some (L', S', h')) (k : ma_G D cl ad base p l e R s m args below meth c Q nL (pc + 1) L' S' h' cells slots) : ma_G D cl ad base p l e R s m args below meth c Q nL pc L S h cells slots := by
  obtain ⟨hx, hb, hml, hown, hts, hkn, had, hini, hcls, hsx, hsb⟩ := X
  simp only [ma_s] at hs
  split at hs
  · cases hs
    intro H locs ls hH hF hl hn
    exact lv_i2b hx hb hdg rfl (k H locs ls hH hF hl hn)
  · cases hs

theorem ma_o_i2c (X : ma_X D cl ks ad base sc G own ini p s m args meth c cc nL) (hdg : decode cc pc = .ok (.i2c, 1)) (hs : ma_s sc ks (.i2c) o L S h = some (L', S', h')) (k : ma_G D cl ad base p l e R s m args below meth c Q nL (pc + 1) L' S' h' cells slots) : ma_G D cl ad base p l e R s m args below meth c Q nL pc L S h cells slots := by
  obtain ⟨hx, hb, hml, hown, hts, hkn, had, hini, hcls, hsx, hsb⟩ := X
  simp only [ma_s] at hs
  split at hs
  · cases hs
    intro H locs ls hH hF hl hn
    exact lv_i2c hx hb hdg rfl (k H locs ls hH hF hl hn)
  · cases hs

theorem ma_o_lcmp (X : ma_X D cl ks ad base sc G own ini p s m args meth c cc nL) (hdg : decode cc pc = .ok (.lcmp, 1)) (hs : ma_s sc ks (.lcmp) o L S h = some (L', S', h')) (k : ma_G D cl ad base p l e R s m args below meth c Q nL (pc + 1) L' S' h' cells slots) : ma_G D cl ad base p l e R s m args below meth c Q nL pc L S h cells slots := by
  obtain ⟨hx, hb, hml, hown, hts, hkn, had, hini, hcls, hsx, hsb⟩ := X
  simp only [ma_s] at hs
  split at hs
  · cases hs
    intro H locs ls hH hF hl hn
    exact W.lcmp hx hb hdg (k H locs ls hH hF hl hn)
  · cases hs

theorem ma_o_idiv (X : ma_X D cl ks ad base sc G own ini p s m args meth c cc nL) (hdg : decode cc pc = .ok (.idiv, 1)) (hs : ma_s sc ks (.idiv) o L S h = some (L', S', h')) (k : ma_G D cl ad base p l e R s m args below meth c Q nL (pc + 1) L' S' h' cells slots) : ma_G D cl ad base p l e R s m args below meth c Q nL pc L S h cells slots := by
  obtain ⟨hx, hb, hml, hown, hts, hkn, had, hini, hcls, hsx, hsb⟩ := X
  simp only [ma_s] at hs
  split at hs
  · split at hs
    next => cases hs
    next hz =>
      cases hs
      intro H locs ls hH hF hl hn
      exact lv_idiv hx hb hdg hz (k H locs ls hH hF hl hn)
  · cases hs

theorem ma_o_irem (X : ma_X D cl ks ad base sc G own ini p s m args meth c cc nL) (hdg : decode cc pc = .ok (.irem, 1)) (hs : ma_s sc ks (.irem) o L S h = some (L', S', h')) (k : ma_G D cl ad base p l e R s m args below meth c Q nL (pc + 1) L' S' h' cells slots) : ma_G D cl ad base p l e R s m args below meth c Q nL pc L S h cells slots := by
  obtain ⟨hx, hb, hml, hown, hts, hkn, had, hini, hcls, hsx, hsb⟩ := X
  simp only [ma_s] at hs
  split at hs
  · split at hs
    next => cases hs
    next hz =>
      cases hs
      intro H locs ls hH hF hl hn
      exact lv_irem hx hb hdg hz (k H locs ls hH hF hl hn)
  · cases hs

theorem ma_o_dup (X : ma_X D cl ks ad base sc G own ini p s m args meth c cc nL) (hdg : decode cc pc = .ok (.dup, 1)) (hs : ma_s sc ks (.dup) o L S h = some (L', S', h')) (k : ma_G D cl ad base p l e R s m args below meth c Q nL (pc + 1) L' S' h' cells slots) : ma_G D cl ad base p l e R s m args below meth c Q nL pc L S h cells slots := by
  obtain ⟨hx, hb, hml, hown, hts, hkn, had, hini, hcls, hsx, hsb⟩ := X
  simp only [ma_s] at hs
  split at hs
  · cases hs
    intro H locs ls hH hF hl hn
    exact lv_dup hx hb hdg rfl (k H locs ls hH hF hl hn)
  · cases hs
    intro H locs ls hH hF hl hn
    exact lv_dup hx hb hdg rfl (k H locs ls hH hF hl hn)
  · cases hs

theorem ma_o_dup2 (X : ma_X D cl ks ad base sc G own ini p s m args meth c cc nL) (hdg : decode cc pc = .ok (.dup2, 1)) (hs : ma_s sc ks (.dup2) o L S h = some (L', S', h')) (k : ma_G D cl ad base p l e R s m args below meth c Q nL (pc + 1) L' S' h' cells slots) : ma_G D cl ad base p l e R s m args below meth c Q nL pc L S h cells slots := by
  obtain ⟨hx, hb, hml, hown, hts, hkn, had, hini, hcls, hsx, hsb⟩ := X
  simp only [ma_s] at hs
  split at hs
  · cases hs
    intro H locs ls hH hF hl hn
    exact lv_dup2_11 hx hb hdg rfl rfl (k H locs ls hH hF hl hn)
  · cases hs
    intro H locs ls hH hF hl hn
    exact lv_dup2_11 hx hb hdg rfl rfl (k H locs ls hH hF hl hn)
  · cases hs

theorem ma_o_pop (X : ma_X D cl ks ad base sc G own ini p s m args meth c cc nL) (hdg : decode cc pc = .ok (.pop, 1)) (hs : ma_s sc ks (.pop) o L S h = some (L', S', h')) (k : ma_G D cl ad base p l e R s m args below meth c Q nL (pc + 1) L' S' h' cells slots) : ma_G D cl ad base p l e R s m args below meth c Q nL pc L S h cells slots := by
  obtain ⟨hx, hb, hml, hown, hts, hkn, had, hini, hcls, hsx, hsb⟩ := X
  simp only [ma_s] at hs
  split at hs
  · cases hs
    intro H locs ls hH hF hl hn
    exact lv_pop (va := .int _) hx hb hdg rfl (k H locs ls hH hF hl hn)
  · cases hs
    intro H locs ls hH hF hl hn
    exact lv_pop (va := .ref _) hx hb hdg rfl (k H locs ls hH hF hl hn)
  · cases hs

theorem ma_o_iload {j : Nat} (X : ma_X D cl ks ad base sc G own ini p s m args meth c cc nL) (hdg : decode cc pc = .ok (.iload j, 2)) (hs : ma_s sc ks (.iload j) o L S h = some (L', S', h')) (k : ma_G D cl ad base p l e R s m args below meth c Q nL (pc + 2) L' S' h' cells slots) : ma_G D cl ad base p l e R s m args below meth c Q nL pc L S h cells slots := by
  obtain ⟨hx, hb, hml, hown, hts, hkn, had, hini, hcls, hsx, hsb⟩ := X
  simp only [ma_s] at hs
  split at hs
  next x hq =>
    cases hs
    intro H locs ls hH hF hl hn
    exact lv_iload hx hb hdg (ma_lv_get hl hq (Or.inl rfl)) (k H locs ls hH hF hl hn)
  next => cases hs

theorem ma_o_iload_n {j : Fin 4} (X : ma_X D cl ks ad base sc G own ini p s m args meth c cc nL) (hdg : decode cc pc = .ok (.iload_n j, 1)) (hs : ma_s sc ks (.iload_n j) o L S h = some (L', S', h')) (k : ma_G D cl ad base p l e R s m args below meth c Q nL (pc + 1) L' S' h' cells slots) : ma_G D cl ad base p l e R s m args below meth c Q nL pc L S h cells slots := by
  obtain ⟨hx, hb, hml, hown, hts, hkn, had, hini, hcls, hsx, hsb⟩ := X
  simp only [ma_s] at hs
  split at hs
  next x hq =>
    cases hs
    intro H locs ls hH hF hl hn
    exact lv_iload_n hx hb hdg rfl (ma_lv_get hl hq (Or.inl rfl)) (k H locs ls hH hF hl hn)
  next => cases hs

theorem ma_o_lload {j : Nat} (X : ma_X D cl ks ad base sc G own ini p s m args meth c cc nL) (hdg : decode cc pc = .ok (.lload j, 2)) (hs : ma_s sc ks (.lload j) o L S h = some (L', S', h')) (k : ma_G D cl ad base p l e R s m args below meth c Q nL (pc + 2) L' S' h' cells slots) : ma_G D cl ad base p l e R s m args below meth c Q nL pc L S h cells slots := by
  obtain ⟨hx, hb, hml, hown, hts, hkn, had, hini, hcls, hsx, hsb⟩ := X
  simp only [ma_s] at hs
  split at hs
  next x hq hq2 =>
    cases hs
    intro H locs ls hH hF hl hn
    exact lv_lload hx hb hdg (ma_lv_get hl hq (Or.inr hq2)) (k H locs ls hH hF hl hn)
  next => cases hs

theorem ma_o_lload_n {j : Fin 4} (X : ma_X D cl ks ad base sc G own ini p s m args meth c cc nL) (hdg : decode cc pc = .ok (.lload_n j, 1)) (hs : ma_s sc ks (.lload_n j) o L S h = some (L', S', h')) (k : ma_G D cl ad base p l e R s m args below meth c Q nL (pc + 1) L' S' h' cells slots) : ma_G D cl ad base p l e R s m args below meth c Q nL pc L S h cells slots := by
  obtain ⟨hx, hb, hml, hown, hts, hkn, had, hini, hcls, hsx, hsb⟩ := X
  simp only [ma_s] at hs
  split at hs
  next x hq hq2 =>
    cases hs
    intro H locs ls hH hF hl hn
    exact lv_lload_n hx hb hdg rfl (ma_lv_get hl hq (Or.inr hq2)) (k H locs ls hH hF hl hn)
  next => cases hs

theorem ma_o_aload {j : Nat} (X : ma_X D cl ks ad base sc G own ini p s m args meth c cc nL) (hdg : decode cc pc = .ok (.aload j, 2)) (hs : ma_s sc ks (.aload j) o L S h = some (L', S', h')) (k : ma_G D cl ad base p l e R s m args below meth c Q nL (pc + 2) L' S' h' cells slots) : ma_G D cl ad base p l e R s m args below meth c Q nL pc L S h cells slots := by
  obtain ⟨hx, hb, hml, hown, hts, hkn, had, hini, hcls, hsx, hsb⟩ := X
  simp only [ma_s] at hs
  split at hs
  next x hq =>
    cases hs
    intro H locs ls hH hF hl hn
    exact lv_aload hx hb hdg (ma_lv_get hl hq (Or.inl rfl)) (k H locs ls hH hF hl hn)
  next hq =>
    cases hs
    intro H locs ls hH hF hl hn
    exact lv_aloadN hx hb hdg (ma_lv_get hl hq (Or.inl rfl)) (k H locs ls hH hF hl hn)
  next => cases hs

theorem ma_o_aload_n {j : Fin 4} (X : ma_X D cl ks ad base sc G own ini p s m args meth c cc nL) (hdg : decode cc pc = .ok (.aload_n j, 1)) (hs : ma_s sc ks (.aload_n j) o L S h = some (L', S', h')) (k : ma_G D cl ad base p l e R s m args below meth c Q nL (pc + 1) L' S' h' cells slots) : ma_G D cl ad base p l e R s m args below meth c Q nL pc L S h cells slots := by
  obtain ⟨hx, hb, hml, hown, hts, hkn, had, hini, hcls, hsx, hsb⟩ := X
  simp only [ma_s] at hs
  split at hs
  next x hq =>
    cases hs
    intro H locs ls hH hF hl hn
    exact lv_aload_n hx hb hdg rfl (ma_lv_get hl hq (Or.inl rfl)) (k H locs ls hH hF hl hn)
  next hq =>
    cases hs
    intro H locs ls hH hF hl hn
    exact lv_aload_nN hx hb hdg rfl (ma_lv_get hl hq (Or.inl rfl)) (k H locs ls hH hF hl hn)
  next => cases hs

theorem ma_o_istore {j : Nat} (X : ma_X D cl ks ad base sc G own ini p s m args meth c cc nL) (hdg : decode cc pc = .ok (.istore j, 2)) (hs : ma_s sc ks (.istore j) o L S h = some (L', S', h')) (k : ma_G D cl ad base p l e R s m args below meth c Q nL (pc + 2) L' S' h' cells slots) : ma_G D cl ad base p l e R s m args below meth c Q nL pc L S h cells slots := by
  obtain ⟨hx, hb, hml, hown, hts, hkn, had, hini, hcls, hsx, hsb⟩ := X
  simp only [ma_s] at hs
  split at hs
  next =>
    split at hs
    next hlt =>
      cases hs
      intro H locs ls hH hF hl hn
      exact lv_istore hx hb hdg hl (by rw [← hn]; exact hlt) rfl (fun ls' hl' => k H locs ls' hH hF (ma_lv_set (v := .int _) rfl hl') (by simp [hn]))
    next => cases hs
  next => cases hs

theorem ma_o_istore_n {j : Fin 4} (X : ma_X D cl ks ad base sc G own ini p s m args meth c cc nL) (hdg : decode cc pc = .ok (.istore_n j, 1)) (hs : ma_s sc ks (.istore_n j) o L S h = some (L', S', h')) (k : ma_G D cl ad base p l e R s m args below meth c Q nL (pc + 1) L' S' h' cells slots) : ma_G D cl ad base p l e R s m args below meth c Q nL pc L S h cells slots := by
  obtain ⟨hx, hb, hml, hown, hts, hkn, had, hini, hcls, hsx, hsb⟩ := X
  simp only [ma_s] at hs
  split at hs
  next =>
    split at hs
    next hlt =>
      cases hs
      intro H locs ls hH hF hl hn
      exact lv_istore_n hx hb hdg rfl hl (by rw [← hn]; exact hlt) rfl (fun ls' hl' => k H locs ls' hH hF (ma_lv_set (v := .int _) rfl hl') (by simp [hn]))
    next => cases hs
  next => cases hs

theorem ma_o_lstore {j : Nat} (X : ma_X D cl ks ad base sc G own ini p s m args meth c cc nL) (hdg : decode cc pc = .ok (.lstore j, 2)) (hs : ma_s sc ks (.lstore j) o L S h = some (L', S', h')) (k : ma_G D cl ad base p l e R s m args below meth c Q nL (pc + 2) L' S' h' cells slots) : ma_G D cl ad base p l e R s m args below meth c Q nL pc L S h cells slots := by
  obtain ⟨hx, hb, hml, hown, hts, hkn, had, hini, hcls, hsx, hsb⟩ := X
  simp only [ma_s] at hs
  split at hs
  next =>
    split at hs
    next hlt =>
      cases hs
      intro H locs ls hH hF hl hn
      exact lv_lstore hx hb hdg hl (by rw [← hn]; exact hlt) rfl (fun ls' hl' => k H locs ls' hH hF (ma_lv_set2 hl') (by simp [hn]))
    next => cases hs
  next => cases hs

theorem ma_o_lstore_n {j : Fin 4} (X : ma_X D cl ks ad base sc G own ini p s m args meth c cc nL) (hdg : decode cc pc = .ok (.lstore_n j, 1)) (hs : ma_s sc ks (.lstore_n j) o L S h = some (L', S', h')) (k : ma_G D cl ad base p l e R s m args below meth c Q nL (pc + 1) L' S' h' cells slots) : ma_G D cl ad base p l e R s m args below meth c Q nL pc L S h cells slots := by
  obtain ⟨hx, hb, hml, hown, hts, hkn, had, hini, hcls, hsx, hsb⟩ := X
  simp only [ma_s] at hs
  split at hs
  next =>
    split at hs
    next hlt =>
      cases hs
      intro H locs ls hH hF hl hn
      exact lv_lstore_n hx hb hdg rfl hl (by rw [← hn]; exact hlt) rfl (fun ls' hl' => k H locs ls' hH hF (ma_lv_set2 hl') (by simp [hn]))
    next => cases hs
  next => cases hs

theorem ma_o_astore {j : Nat} (X : ma_X D cl ks ad base sc G own ini p s m args meth c cc nL) (hdg : decode cc pc = .ok (.astore j, 2)) (hs : ma_s sc ks (.astore j) o L S h = some (L', S', h')) (k : ma_G D cl ad base p l e R s m args below meth c Q nL (pc + 2) L' S' h' cells slots) : ma_G D cl ad base p l e R s m args below meth c Q nL pc L S h cells slots := by
  obtain ⟨hx, hb, hml, hown, hts, hkn, had, hini, hcls, hsx, hsb⟩ := X
  simp only [ma_s] at hs
  split at hs
  next =>
    split at hs
    next hlt =>
      cases hs
      intro H locs ls hH hF hl hn
      exact lv_astore hx hb hdg hl (by rw [← hn]; exact hlt) rfl (fun ls' hl' => k H locs ls' hH hF (ma_lv_set (v := .ref _) rfl hl') (by simp [hn]))
    next => cases hs
  next =>
    split at hs
    next hlt =>
      cases hs
      intro H locs ls hH hF hl hn
      exact lv_astoreN hx hb hdg hl (by rw [← hn]; exact hlt) rfl (fun ls' hl' => k H locs ls' hH hF (ma_lv_set (v := .null) rfl hl') (by simp [hn]))
    next => cases hs
  next => cases hs

theorem ma_o_astore_n {j : Fin 4} (X : ma_X D cl ks ad base sc G own ini p s m args meth c cc nL) (hdg : decode cc pc = .ok (.astore_n j, 1)) (hs : ma_s sc ks (.astore_n j) o L S h = some (L', S', h')) (k : ma_G D cl ad base p l e R s m args below meth c Q nL (pc + 1) L' S' h' cells slots) : ma_G D cl ad base p l e R s m args below meth c Q nL pc L S h cells slots := by
  obtain ⟨hx, hb, hml, hown, hts, hkn, had, hini, hcls, hsx, hsb⟩ := X
  simp only [ma_s] at hs
  split at hs
  next =>
    split at hs
    next hlt =>
      cases hs
      intro H locs ls hH hF hl hn
      exact lv_astore_n hx hb hdg rfl hl (by rw [← hn]; exact hlt) rfl (fun ls' hl' => k H locs ls' hH hF (ma_lv_set (v := .ref _) rfl hl') (by simp [hn]))
    next => cases hs
  next =>
    split at hs
    next hlt =>
      cases hs
      intro H locs ls hH hF hl hn
      exact lv_astore_nN hx hb hdg rfl hl (by rw [← hn]; exact hlt) rfl (fun ls' hl' => k H locs ls' hH hF (ma_lv_set (v := .null) rfl hl') (by simp [hn]))
    next => cases hs
  next => cases hs

theorem ma_o_iinc {j : Nat} {n : Int} (X : ma_X D cl ks ad base sc G own ini p s m args meth c cc nL) (hdg : decode cc pc = .ok (.iinc j n, 3)) (hs : ma_s sc ks (.iinc j n) o L S h = some (L', S', h')) (k : ma_G D cl ad base p l e R s m args below meth c Q nL (pc + 3) L' S' h' cells slots) : ma_G D cl ad base p l e R s m args below meth c Q nL pc L S h cells slots := by
  obtain ⟨hx, hb, hml, hown, hts, hkn, had, hini, hcls, hsx, hsb⟩ := X
  simp only [ma_s] at hs
  split at hs
  next x hq =>
    cases hs
    intro H locs ls hH hF hl hn
    obtain ⟨kq, hkq⟩ := List.mem_iff_getElem?.mp (ma_lv_mem (ad := ad) (q := (j, ma_va ad (.int x))).mpr ⟨_, ma_ld_some hq, Or.inl rfl, rfl⟩)
    exact lv_iinc hx hb hdg hl hkq rfl (by rw [← hn]; exact (List.getElem?_eq_some_iff.mp (ma_ld_some hq)).1) rfl (fun ls' hl' => k H locs ls' hH hF (ma_lv_set (v := .int _) rfl hl') (by simp [hn]))
  next => cases hs

theorem ma_o_ldc {x : Nat} (X : ma_X D cl ks ad base sc G own ini p s m args meth c cc nL) (hdg : decode cc pc = .ok (.ldc x, 2)) (hlk : ∀ v, o = [0, v] → Jvm.Cond.constant own x (Int32.ofNat v) ∈ G) (hlt : ∀ v, o = [1, v] → ∀ (H : Heap) (locs : List Loc) (ls : Array Slot), ma_H D cl ad base s H h → ma_F base s H locs → ls.size = nL → W p l e R s m args below meth c H locs cells slots Q (F0 m (pc + 2) ls (.ref (ad (4097 + v)) :: S.map (ma_va ad))) → W p l e R s m args below meth c H locs cells slots Q (F0 m pc ls (S.map (ma_va ad)))) (hs : ma_s sc ks (.ldc x) o L S h = some (L', S', h')) (k : ma_G D cl ad base p l e R s m args below meth c Q nL (pc + 2) L' S' h' cells slots) : ma_G D cl ad base p l e R s m args below meth c Q nL pc L S h cells slots := by
  obtain ⟨hx, hb, hml, hown, hts, hkn, had, hini, hcls, hsx, hsb⟩ := X
  simp only [ma_s] at hs
  split at hs
  next v =>
    cases hs
    intro H locs ls hH hF hl hn
    exact lv_ldc hx hb hown (hts _ (hlk v rfl)) hdg (k H locs ls hH hF hl hn)
  next v =>
    cases hs
    intro H locs ls hH hF hl hn
    exact hlt v rfl H locs ls hH hF hl.1 (k H locs ls hH hF hl hn)
  next => cases hs

theorem ma_o_ldc_w {x : Nat} (X : ma_X D cl ks ad base sc G own ini p s m args meth c cc nL) (hdg : decode cc pc = .ok (.ldc_w x, 3)) (hlk : ∀ v, o = [0, v] → Jvm.Cond.constant own x (Int32.ofNat v) ∈ G) (hs : ma_s sc ks (.ldc_w x) o L S h = some (L', S', h')) (k : ma_G D cl ad base p l e R s m args below meth c Q nL (pc + 3) L' S' h' cells slots) : ma_G D cl ad base p l e R s m args below meth c Q nL pc L S h cells slots := by
  obtain ⟨hx, hb, hml, hown, hts, hkn, had, hini, hcls, hsx, hsb⟩ := X
  simp only [ma_s] at hs
  split at hs
  next v =>
    cases hs
    intro H locs ls hH hF hl hn
    exact lv_ldcw hx hb hown (hts _ (hlk v rfl)) hdg (k H locs ls hH hF hl hn)
  next => cases hs

theorem ma_o_ldc2_w {x : Nat} (X : ma_X D cl ks ad base sc G own ini p s m args meth c cc nL) (hdg : decode cc pc = .ok (.ldc2_w x, 3)) (hlk : ∀ v, o = [v] → Jvm.Cond.constantLong own x (Int64.ofNat v) ∈ G) (hs : ma_s sc ks (.ldc2_w x) o L S h = some (L', S', h')) (k : ma_G D cl ad base p l e R s m args below meth c Q nL (pc + 3) L' S' h' cells slots) : ma_G D cl ad base p l e R s m args below meth c Q nL pc L S h cells slots := by
  obtain ⟨hx, hb, hml, hown, hts, hkn, had, hini, hcls, hsx, hsb⟩ := X
  simp only [ma_s] at hs
  split at hs
  next v =>
    cases hs
    intro H locs ls hH hF hl hn
    exact lv_ldc2 hx hb hown (hts _ (hlk v rfl)) hdg (k H locs ls hH hF hl hn)
  next => cases hs

theorem ma_H.adr {H : Heap} (hH : ma_H D cl ad base s H h) (had : ∀ k, k < 4096 → ad k = base + k) {k : Nat} {x : ma_C} (hk : h[k]? = some x) : ad k = base + k := had k (by
  have h1 := (List.getElem?_eq_some_iff.mp hk).1
  have h2 := hH.2.1
  omega)
theorem ma_one {H : Heap} (hH : ma_H D cl ad base s H h) {k ci : Nat} {fs : List Value} (hk : h[k]? = some (.inr (ci, fs))) : va_P D cl [(base + k, .inr (ci, fs.map (ma_va ad)))] H := by
  intro k0 q hq
  have h0 : k0 < 1 := (List.getElem?_eq_some_iff.mp hq).1
  rw [show k0 = 0 by omega] at hq
  cases hq
  obtain ⟨r, h1, -, h3⟩ := hH.2.2 _ _ hk
  exact ⟨r, h1, h3⟩

theorem ma_o_getfield {x : Nat} (X : ma_X D cl ks ad base sc G own ini p s m args meth c cc nL) (hdg : decode cc pc = .ok (.getfield x, 3)) (hlk : ∀ ci j r, o = ci :: j :: r → ma_fl cl G own x ci j) (hs : ma_s sc ks (.getfield x) o L S h = some (L', S', h')) (k : ma_G D cl ad base p l e R s m args below meth c Q nL (pc + 3) L' S' h' cells slots) : ma_G D cl ad base p l e R s m args below meth c Q nL pc L S h cells slots := by
  obtain ⟨hx, hb, hml, hown, hts, hkn, had, hini, hcls, hsx, hsb⟩ := X
  simp only [ma_s] at hs
  split at hs
  next ci j r kk S2 =>
    split at hs
    next c2 fs hk =>
      split at hs
      next he =>
        subst he
        split at hs
        next v hv =>
          cases hs
          intro H locs ls hH hF hl hn
          obtain ⟨C, T, N, hc, hj, hlnk⟩ := hlk _ _ _ rfl
          have eA := hH.adr had hk
          have hP := ma_one hH hk
          have hK : va_K D cl [] s := ⟨hkn, fun _ _ z => by simp at z⟩
          have hT : (T j).1 = C := ((hcls _ _ _ _ hc).2.2.2 j hj).1
          have hv' : (fs.map (ma_va ad))[j]? = some (ma_va ad v) := by rw [List.getElem?_map, hv]; rfl
          show W p l e R s m args below meth c H locs cells slots Q (F0 m pc ls (.ref (ad kk) :: S2.map (ma_va ad)))
          rw [eA]
          rcases hlnk with hlnk | ⟨host, hlnk⟩
          · exact va_get hx hb hts (hcls _ _ _ _ hc).1 hown hK hP 0 rfl hc j hj (hts _ hlnk) (fun z hz => by rw [hT] at hz; exact hz) hv' hdg (k H locs ls hH hF hl hn)
          · exact va_getN hx hb hts (hcls _ _ _ _ hc).1 hown hK hP 0 rfl hc j hj (hts _ hlnk) (fun z hz => by rw [hT] at hz; exact hz) hv' hdg (k H locs ls hH hF hl hn)
        next => cases hs
      next => cases hs
    next => cases hs
  next => cases hs

theorem ma_o_putfield {x : Nat} (X : ma_X D cl ks ad base sc G own ini p s m args meth c cc nL) (hdg : decode cc pc = .ok (.putfield x, 3)) (hlk : ∀ ci j t r, o = ci :: j :: t :: r → ma_fp cl G own ini x ci j ∧ (ks ci)[j]? = some t) (hs : ma_s sc ks (.putfield x) o L S h = some (L', S', h')) (k : ma_G D cl ad base p l e R s m args below meth c Q nL (pc + 3) L' S' h' cells slots) : ma_G D cl ad base p l e R s m args below meth c Q nL pc L S h cells slots := by
  obtain ⟨hx, hb, hml, hown, hts, hkn, had, hini, hcls, hsx, hsb⟩ := X
  simp only [ma_s] at hs
  split at hs
  next ci j t r v kk S2 =>
    split at hs
    next c2 fs hk =>
      split at hs
      next he =>
        obtain ⟨he, hjl, hfit⟩ := he
        subst he
        cases hs
        intro H locs ls hH hF hl hn
        obtain ⟨⟨C, T, N, hc, hj, hlnk⟩, hkt⟩ := hlk _ _ _ _ rfl
        obtain ⟨hin, hnm, hklen, hty⟩ := hcls _ _ _ _ hc
        obtain ⟨hT, ty, hd, t2, ht2, hkt2⟩ := hty j hj
        rw [hkt] at ht2
        cases ht2
        obtain ⟨hna, hft⟩ := ma_kt_fit (ad := ad) hkt2 hfit
        have eA := hH.adr had hk
        have hK : va_K D cl [] s := ⟨hkn, fun _ _ z => by simp at z⟩
        obtain ⟨r2, hr2, hlen, cell, q1, q2, q3, q4⟩ := hH.2.2 _ _ hk
        cases hc.symm.trans hr2
        have hap := va_apart (own := own) hts hin (fun k => (parseFieldDescriptor (T k).2.2.1).getD .int) (fun k hk => by obtain ⟨-, ty, h1, -⟩ := hty k hk; rw [h1]; rfl) hnm hK hc
        obtain ⟨hS, hfc, kC, hkC, hkind⟩ := hkn _ _ hc
        obtain ⟨cf, kf, fi, f, hi, hsl⟩ := hS j hj
        have hi2 : s.fieldFound? C (T j).2.1 (T j).2.2.1 = some (cf, kf, fi, f) := by rw [← hT]; exact hi
        have hlay := hts _ (hin _ (u_in_lay hj))
        unfold u_lay at hlay
        have hst := (u_facts hfc hkC (u_lays hts hin hj) hi).1
        have fin : ∀ H1 : Heap, H1[base + kk]? = some (cell.setSlot f.slot (ma_va ad v)) → H1.size = H.size → (∀ q, q ≠ base + kk → H1[q]? = H[q]?) → W p l e R s m args below meth c H1 (locs ++ [⟨base + kk, f.slot⟩]) cells slots Q (F0 m (pc + 3) ls (S'.map (ma_va ad))) := by
          intro H1 e1 e2 e3
          rw [hsl] at e1
          refine k H1 _ ls (hH.set e2 e3 ⟨_, hc, by simp [hlen], t_OB.to (V := updV (vp_V (fs.map (ma_va ad))) j (ma_va ad v)) ⟨_, e1, q2, q3, t_set q4 hap hj (ma_va ad v)⟩ (fun i _ => ?_)⟩) (hF.put (by omega) e3) hl hn
          rw [vp_updV_set (by simpa using hjl), ← List.map_set]
        show W p l e R s m args below meth c H locs cells slots Q (F0 m pc ls (ma_va ad v :: .ref (ad kk) :: S'.map (ma_va ad)))
        rw [eA]
        rcases hlnk with ⟨hfi, hlnk⟩ | ⟨hfi, hi0, hCo, hlnk⟩
        · rw [if_neg (by rw [hfi]; decide)] at hlay
          have h6 := u_store hfc hkC hkind hlay hi hd hna hft
          rcases hlnk with hlnk | ⟨host, hlnk⟩
          · exact W.putK hx hb (f := f) ⟨hown, hts _ hlnk, ⟨_, _, _, hi2⟩, hst⟩ (by rw [q2]; exact h6) q1 q3 (by rw [hsl]; exact k2_hasslot (q4 j hj)) rfl rfl hdg fin
          · exact va_WputK hx hb (f := f) hown (hts _ hlnk) hi2 hst (by rw [q2]; exact h6) q1 q3 (by rw [hsl]; exact k2_hasslot (q4 j hj)) rfl rfl hdg fin
        · rw [if_pos hfi] at hlay
          have hcf : m.cls = cf := by
            have h9 : s.vm.findClass C = some cf := by
              obtain ⟨_, _, c', _, _, _, -, -, hf', -, -, -, hown2, -⟩ := Cond.laysFinal_spec hlay
              cases hi.symm.trans hf'
              rw [hT] at hown2
              exact hown2
            rw [hCo, hown] at h9
            exact Option.some.inj h9
          have h6 := u_fits hfc hkC hkind (Or.inr hlay) hi hd hna hft
          exact W.putFinK hx hb hown (hts _ hlnk) hi2 hst hcf (hini hi0) (by rw [q2]; exact h6) q1 q3 (by rw [hsl]; exact k2_hasslot (q4 j hj)) rfl rfl hdg fin
      next => cases hs
    next => cases hs
  next => cases hs

theorem ma_o_iaload (X : ma_X D cl ks ad base sc G own ini p s m args meth c cc nL) (hdg : decode cc pc = .ok (.iaload, 1)) (hs : ma_s sc ks (.iaload) o L S h = some (L', S', h')) (k : ma_G D cl ad base p l e R s m args below meth c Q nL (pc + 1) L' S' h' cells slots) : ma_G D cl ad base p l e R s m args below meth c Q nL pc L S h cells slots := by
  obtain ⟨hx, hb, hml, hown, hts, hkn, had, hini, hcls, hsx, hsb⟩ := X
  simp only [ma_s] at hs
  split at hs
  next i kk S2 =>
    split at hs
    next n f hk =>
      split at hs
      next => cases hs
      next hz =>
        cases hs
        intro H locs ls hH hF hl hn
        unfold ma_g at hk
        split at hk
        next he =>
          cases hk
          subst he
          obtain ⟨scr, z1, z2, z3, z4, z5⟩ := hsx
          have z1' : H[ad 4096]? = some scr := (hF.1 _ hsb).trans z1
          exact W.iald (v := .int (sc.2 i.toNatClampNeg)) hx hb z1' z2 z3 (by rw [z4]; exact hz) (z5 _ (Nat.not_le.mp fun q => hz (Or.inr q))) rfl rfl hdg (k H locs ls hH hF hl hn)
        next =>
          have eA := hH.adr had hk
          obtain ⟨cA, h1, h2, h3⟩ := hH.2.2 _ _ hk
          show W p l e R s m args below meth c H locs cells slots Q (F0 m pc ls (.int i :: .ref (ad kk) :: S2.map (ma_va ad)))
          rw [eA]
          have hlt : i.toNatClampNeg < n := Nat.not_le.mp fun q => hz (Or.inr q)
          have h3 : H[base + kk]? = some (arrV cA n (fun j => .int (f j))) := h3
          exact W.iald (v := .int (f i.toNatClampNeg)) hx hb h3 (h1 n (fun j => .int (f j))) (fun q => by cases q) (by show ¬ (i < 0 ∨ (arrV _ _ _).slots.size ≤ _); rw [arrV_size]; exact hz) (by show (arrV _ _ _).slots[_]? = _; rw [arrV_read _ _ hlt]) rfl rfl hdg (k H locs ls hH hF hl hn)
    next => cases hs
  next => cases hs

theorem ma_o_arraylength (X : ma_X D cl ks ad base sc G own ini p s m args meth c cc nL) (hdg : decode cc pc = .ok (.arraylength, 1)) (hs : ma_s sc ks (.arraylength) o L S h = some (L', S', h')) (k : ma_G D cl ad base p l e R s m args below meth c Q nL (pc + 1) L' S' h' cells slots) : ma_G D cl ad base p l e R s m args below meth c Q nL pc L S h cells slots := by
  obtain ⟨hx, hb, hml, hown, hts, hkn, had, hini, hcls, hsx, hsb⟩ := X
  simp only [ma_s] at hs
  split at hs
  next kk S2 =>
    split at hs
    next t n f hk =>
      cases hs
      intro H locs ls hH hF hl hn
      unfold ma_g at hk
      split at hk
      next he =>
        cases hk
        subst he
        obtain ⟨scr, z1, z2, z3, z4, z5⟩ := hsx
        have z1' : H[ad 4096]? = some scr := (hF.1 _ hsb).trans z1
        exact W.alen hx hb z1' z2 (by rw [z4]) rfl rfl hdg (k H locs ls hH hF hl hn)
      next =>
        have eA := hH.adr had hk
        obtain ⟨cA, h1, h2, h3⟩ := hH.2.2 _ _ hk
        show W p l e R s m args below meth c H locs cells slots Q (F0 m pc ls (.ref (ad kk) :: S2.map (ma_va ad)))
        rw [eA]
        have hP : va_P D cl [(base + kk, .inl (cA, ma_ac ad (n, f)))] H := by
          intro k0 q hq
          have h0 : k0 < 1 := (List.getElem?_eq_some_iff.mp hq).1
          rw [show k0 = 0 by omega] at hq
          cases hq
          exact h3
        obtain ⟨q0, q1⟩ : ∃ z : Nat → Value, vp_cell cA (ma_ac ad (n, f)) = arrV cA n z := by
          unfold vp_cell ma_ac
          dsimp only
          split <;> exact ⟨_, rfl⟩
        rw [q1] at h3
        exact W.alen hx hb h3 (h1 n q0) (by rw [arrV_size]) rfl rfl hdg (k H locs ls hH hF hl hn)
    next => cases hs
  next => cases hs

theorem ma_o_baload (X : ma_X D cl ks ad base sc G own ini p s m args meth c cc nL) (hdg : decode cc pc = .ok (.baload, 1)) (hs : ma_s sc ks (.baload) o L S h = some (L', S', h')) (k : ma_G D cl ad base p l e R s m args below meth c Q nL (pc + 1) L' S' h' cells slots) : ma_G D cl ad base p l e R s m args below meth c Q nL pc L S h cells slots := by
  obtain ⟨hx, hb, hml, hown, hts, hkn, had, hini, hcls, hsx, hsb⟩ := X
  simp only [ma_s] at hs
  split at hs
  next i kk S2 =>
    split at hs
    next n f hk =>
      split at hs
      next => cases hs
      next hz =>
        cases hs
        intro H locs ls hH hF hl hn
        have eA := hH.adr had hk
        obtain ⟨cA, h1, h2, h3⟩ := hH.2.2 _ _ hk
        show W p l e R s m args below meth c H locs cells slots Q (F0 m pc ls (.int i :: .ref (ad kk) :: S2.map (ma_va ad)))
        rw [eA]
        have hlt : i.toNatClampNeg < n := Nat.not_le.mp fun q => hz (Or.inr q)
        have h3 : H[base + kk]? = some (arrV cA n (fun j => .int (f j))) := h3
        exact W.bald (v := .int (f i.toNatClampNeg)) hx hb h3 (h1 n (fun j => .int (f j))) (fun q => by cases q) (by show ¬ (i < 0 ∨ (arrV _ _ _).slots.size ≤ _); rw [arrV_size]; exact hz) (by show (arrV _ _ _).slots[_]? = _; rw [arrV_read _ _ hlt]) rfl rfl hdg (k H locs ls hH hF hl hn)
    next => cases hs
  next => cases hs

theorem ma_o_laload (X : ma_X D cl ks ad base sc G own ini p s m args meth c cc nL) (hdg : decode cc pc = .ok (.laload, 1)) (hs : ma_s sc ks (.laload) o L S h = some (L', S', h')) (k : ma_G D cl ad base p l e R s m args below meth c Q nL (pc + 1) L' S' h' cells slots) : ma_G D cl ad base p l e R s m args below meth c Q nL pc L S h cells slots := by
  obtain ⟨hx, hb, hml, hown, hts, hkn, had, hini, hcls, hsx, hsb⟩ := X
  simp only [ma_s] at hs
  split at hs
  next i kk S2 =>
    split at hs
    next n f hk =>
      split at hs
      next => cases hs
      next hz =>
        cases hs
        intro H locs ls hH hF hl hn
        have eA := hH.adr had hk
        obtain ⟨cA, h1, h2, h3⟩ := hH.2.2 _ _ hk
        show W p l e R s m args below meth c H locs cells slots Q (F0 m pc ls (.int i :: .ref (ad kk) :: S2.map (ma_va ad)))
        rw [eA]
        have hlt : i.toNatClampNeg < n := Nat.not_le.mp fun q => hz (Or.inr q)
        have h3 : H[base + kk]? = some (arrV cA n (fun j => .long (f j))) := h3
        exact W.lald (v := .long (f i.toNatClampNeg)) hx hb h3 (h1 n (fun j => .long (f j))) (fun q => by cases q) (by show ¬ (i < 0 ∨ (arrV _ _ _).slots.size ≤ _); rw [arrV_size]; exact hz) (by show (arrV _ _ _).slots[_]? = _; rw [arrV_read _ _ hlt]) rfl rfl hdg (k H locs ls hH hF hl hn)
    next => cases hs
  next => cases hs

theorem ma_rfm (r : Option Nat) : ma_va ad (va_rf r) = va_rf (r.map ad) := by cases r <;> rfl
theorem ma_tyr {t : Nat} (h : ¬ t < 3) : (ma_ty t).isReference = true := by
  match t, h with
  | 3, _ => rfl
  | t + 4, _ => rfl

theorem ma_o_aaload (X : ma_X D cl ks ad base sc G own ini p s m args meth c cc nL) (hdg : decode cc pc = .ok (.aaload, 1)) (hs : ma_s sc ks (.aaload) o L S h = some (L', S', h')) (k : ma_G D cl ad base p l e R s m args below meth c Q nL (pc + 1) L' S' h' cells slots) : ma_G D cl ad base p l e R s m args below meth c Q nL pc L S h cells slots := by
  obtain ⟨hx, hb, hml, hown, hts, hkn, had, hini, hcls, hsx, hsb⟩ := X
  simp only [ma_s] at hs
  split at hs
  next i kk S2 =>
    split at hs
    next t n f hk =>
      split at hs
      next => cases hs
      next hz =>
        cases hs
        intro H locs ls hH hF hl hn
        have eA := hH.adr had hk
        obtain ⟨cA, h1, h2, h3⟩ := hH.2.2 _ _ hk
        show W p l e R s m args below meth c H locs cells slots Q (F0 m pc ls (.int i :: .ref (ad kk) :: S2.map (ma_va ad)))
        rw [eA]
        have hz1 : ¬ (i < 0 ∨ n ≤ i.toNatClampNeg) := fun q => hz (q.elim Or.inl (fun q => Or.inr (Or.inl q)))
        have hz2 : ¬ t < 3 := fun q => hz (Or.inr (Or.inr q))
        have hlt : i.toNatClampNeg < n := Nat.not_le.mp fun q => hz1 (Or.inr q)
        have kk2 := k H locs ls hH hF hl hn
        have h3 : H[base + kk]? = some (arrV cA n (fun j => va_rf ((f j).map ad))) := h3
        rw [List.map_cons, ma_rfm] at kk2
        exact W.aald (v := va_rf ((f i.toNatClampNeg).map ad)) (ty := ma_ty t) hx hb h3 (h1 n (fun j => va_rf ((f j).map ad))) (ma_tyr hz2) (fun q => by cases q) (by show ¬ (i < 0 ∨ (arrV _ _ _).slots.size ≤ _); rw [arrV_size]; exact hz1) (by show (arrV _ _ _).slots[_]? = _; rw [arrV_read _ _ hlt]) rfl rfl hdg kk2
    next => cases hs
  next => cases hs

theorem ma_o_iastore (X : ma_X D cl ks ad base sc G own ini p s m args meth c cc nL) (hdg : decode cc pc = .ok (.iastore, 1)) (hs : ma_s sc ks (.iastore) o L S h = some (L', S', h')) (k : ma_G D cl ad base p l e R s m args below meth c Q nL (pc + 1) L' S' h' cells slots) : ma_G D cl ad base p l e R s m args below meth c Q nL pc L S h cells slots := by
  obtain ⟨hx, hb, hml, hown, hts, hkn, had, hini, hcls, hsx, hsb⟩ := X
  simp only [ma_s] at hs
  split at hs
  next x i kk S2 =>
    split at hs
    next n f hk =>
      split at hs
      next => cases hs
      next hz =>
        cases hs
        intro H locs ls hH hF hl hn
        have eA := hH.adr had hk
        obtain ⟨cA, h1, h2, h3⟩ := hH.2.2 _ _ hk
        show W p l e R s m args below meth c H locs cells slots Q (F0 m pc ls (.int x :: .int i :: .ref (ad kk) :: S'.map (ma_va ad)))
        rw [eA]
        refine W.iast hx hb h3 (h1 n (fun j => .int (f j))) (fun q => by cases q) (by show ¬ (i < 0 ∨ (arrV _ _ _).slots.size ≤ _); rw [arrV_size]; exact hz) rfl rfl hdg fun H1 e1 e2 e3 => ?_
        refine k H1 _ ls (hH.set e2 e3 ⟨cA, h1, h2, ?_⟩) (hF.put (by omega) e3) hl hn
        rw [e1]
        show some ((arrV cA n (fun j => .int (f j))).setSlot i.toNatClampNeg (.int x)) = some (arrV cA n (fun j => .int ((upd f i.toNatClampNeg x) j)))
        rw [arrV_store]
        congr 2
        funext q
        by_cases hq : q = i.toNatClampNeg
        · subst hq
          simp [updV, upd, vp_updL]
          try rfl
        · simp [updV, upd, vp_updL, hq]
    next => cases hs
  next => cases hs

theorem ma_o_bastore (X : ma_X D cl ks ad base sc G own ini p s m args meth c cc nL) (hdg : decode cc pc = .ok (.bastore, 1)) (hs : ma_s sc ks (.bastore) o L S h = some (L', S', h')) (k : ma_G D cl ad base p l e R s m args below meth c Q nL (pc + 1) L' S' h' cells slots) : ma_G D cl ad base p l e R s m args below meth c Q nL pc L S h cells slots := by
  obtain ⟨hx, hb, hml, hown, hts, hkn, had, hini, hcls, hsx, hsb⟩ := X
  simp only [ma_s] at hs
  split at hs
  next x i kk S2 =>
    split at hs
    next n f hk =>
      split at hs
      next => cases hs
      next hz =>
        cases hs
        intro H locs ls hH hF hl hn
        have eA := hH.adr had hk
        obtain ⟨cA, h1, h2, h3⟩ := hH.2.2 _ _ hk
        show W p l e R s m args below meth c H locs cells slots Q (F0 m pc ls (.int x :: .int i :: .ref (ad kk) :: S'.map (ma_va ad)))
        rw [eA]
        refine W.bast hx hb h3 (h1 n (fun j => .int (f j))) (fun q => by cases q) (by show ¬ (i < 0 ∨ (arrV _ _ _).slots.size ≤ _); rw [arrV_size]; exact hz) rfl rfl hdg fun H1 e1 e2 e3 => ?_
        refine k H1 _ ls (hH.set e2 e3 ⟨cA, h1, h2, ?_⟩) (hF.put (by omega) e3) hl hn
        rw [e1]
        show some ((arrV cA n (fun j => .int (f j))).setSlot i.toNatClampNeg (narrow .byte (.int x))) = some (arrV cA n (fun j => .int ((upd f i.toNatClampNeg (vp_nar .byte x)) j)))
        rw [arrV_store]
        congr 2
        funext q
        by_cases hq : q = i.toNatClampNeg
        · subst hq
          simp [updV, upd, vp_updL, vp_nar]
          try rfl
        · simp [updV, upd, vp_updL, hq]
    next => cases hs
  next => cases hs

theorem ma_o_lastore (X : ma_X D cl ks ad base sc G own ini p s m args meth c cc nL) (hdg : decode cc pc = .ok (.lastore, 1)) (hs : ma_s sc ks (.lastore) o L S h = some (L', S', h')) (k : ma_G D cl ad base p l e R s m args below meth c Q nL (pc + 1) L' S' h' cells slots) : ma_G D cl ad base p l e R s m args below meth c Q nL pc L S h cells slots := by
  obtain ⟨hx, hb, hml, hown, hts, hkn, had, hini, hcls, hsx, hsb⟩ := X
  simp only [ma_s] at hs
  split at hs
  next x i kk S2 =>
    split at hs
    next n f hk =>
      split at hs
      next => cases hs
      next hz =>
        cases hs
        intro H locs ls hH hF hl hn
        have eA := hH.adr had hk
        obtain ⟨cA, h1, h2, h3⟩ := hH.2.2 _ _ hk
        show W p l e R s m args below meth c H locs cells slots Q (F0 m pc ls (.long x :: .int i :: .ref (ad kk) :: S'.map (ma_va ad)))
        rw [eA]
        refine W.last hx hb h3 (h1 n (fun j => .long (f j))) (fun q => by cases q) (by show ¬ (i < 0 ∨ (arrV _ _ _).slots.size ≤ _); rw [arrV_size]; exact hz) rfl rfl hdg fun H1 e1 e2 e3 => ?_
        refine k H1 _ ls (hH.set e2 e3 ⟨cA, h1, h2, ?_⟩) (hF.put (by omega) e3) hl hn
        rw [e1]
        show some ((arrV cA n (fun j => .long (f j))).setSlot i.toNatClampNeg (.long x)) = some (arrV cA n (fun j => .long ((vp_updL f i.toNatClampNeg x) j)))
        rw [arrV_store]
        congr 2
        funext q
        by_cases hq : q = i.toNatClampNeg
        · subst hq
          simp [updV, upd, vp_updL]
          try rfl
        · simp [updV, upd, vp_updL, hq]
    next => cases hs
  next => cases hs

theorem ma_o_aastore (X : ma_X D cl ks ad base sc G own ini p s m args meth c cc nL) (hdg : decode cc pc = .ok (.aastore, 1)) (hlk : ∀ ci r, o = ci :: r → ∃ T N, cl[ci]? = some ("LetHorizon$Line", T, N)) (hs : ma_s sc ks (.aastore) o L S h = some (L', S', h')) (k : ma_G D cl ad base p l e R s m args below meth c Q nL (pc + 1) L' S' h' cells slots) : ma_G D cl ad base p l e R s m args below meth c Q nL pc L S h cells slots := by
  obtain ⟨hx, hb, hml, hown, hts, hkn, had, hini, hcls, hsx, hsb⟩ := X
  simp only [ma_s] at hs
  split at hs
  next ci r v i kk S2 =>
    split at hs
    next n f c2 fs hk hv =>
      split at hs
      next => cases hs
      next hz =>
        cases hs
        intro H locs ls hH hF hl hn
        have eA := hH.adr had hk
        have eV := hH.adr had hv
        obtain ⟨cA, h1, h2, h3⟩ := hH.2.2 _ _ hk
        have hci : c2 = ci := Classical.byContradiction fun q => hz (Or.inr (Or.inr q))
        subst hci
        obtain ⟨T, N, hcl⟩ := hlk _ _ rfl
        obtain ⟨r', hr', -, cellV, g1, g2, g3, -⟩ := hH.2.2 _ _ hv
        have hz1 : ¬ (i < 0 ∨ n ≤ i.toNatClampNeg) := fun q => hz (q.elim Or.inl (fun q => Or.inr (Or.inl q)))
        have hlt : i.toNatClampNeg < n := Nat.not_le.mp fun q => hz1 (Or.inr q)
        have h0 : ¬ i < 0 := fun q => hz1 (Or.inl q)
        have hcls2 := (hkn _ _ hcl).2
        obtain ⟨kA, comp, k1, k2, k3, -⟩ := h2 rfl
        have hcomp : comp = D.1 c2 := Option.some.inj (k3.symm.trans hcls2.1)
        subst hcomp
        obtain ⟨kC, hkC, hkd⟩ := hcls2.2
        show W p l e R s m args below meth c H locs cells slots Q (F0 m pc ls (.ref (ad v) :: .int i :: .ref (ad kk) :: S'.map (ma_va ad)))
        rw [eA, eV]
        refine W.aast hx hb h3 (fun q h => by cases h) (fun h => by cases h) k1 k2 rfl hkC ⟨h0, by show _ < (arrV _ _ _).slots.size; rw [arrV_size]; exact hlt⟩ g1 (fun q h => by rw [g3] at h; cases h) (by rw [g2]; exact hkC) (by rw [g2]; exact va_assign hcls2) rfl rfl hdg fun H1 e1 e2 e3 => ?_
        refine k H1 _ ls (hH.set e2 e3 ⟨cA, h1, h2, ?_⟩) (hF.put (by omega) e3) hl hn
        rw [e1]
        show some ((arrV cA n (fun j => va_rf ((f j).map ad))).setSlot i.toNatClampNeg (.ref (base + v))) = some (arrV cA n (fun j => va_rf ((va_up f i.toNatClampNeg (some v) j).map ad)))
        rw [arrV_store]
        congr 2
        funext q
        by_cases hq : q = i.toNatClampNeg
        · subst hq
          simp [updV, va_up, va_rf, eV]
        · simp [updV, va_up, hq]
    next => cases hs
  next => cases hs

theorem ma_o_new {x sl' : Nat} (X : ma_X D cl ks ad base sc G own ini p s m args meth c cc nL) (hdg : decode cc pc = .ok (.new x, 3)) (hlk : ∀ ci r, o = ci :: r → ∃ C T N, cl[ci]? = some (C, T, N) ∧ Jvm.Cond.classLink own x C ∈ G ∧ Jvm.Cond.instantiable C N ∈ G ∧ Jvm.Cond.initialized C ∈ G) (hcells : cells + 1 ≤ R.cells) (hslots : ∀ ci r q, o = ci :: r → cl[ci]? = some q → slots + (ks ci).length ≤ R.slots) (hslEq : ∀ ci r, o = ci :: r → sl' = slots + (ks ci).length) (hs : ma_s sc ks (.new x) o L S h = some (L', S', h')) (k : ma_G D cl ad base p l e R s m args below meth c Q nL (pc + 3) L' S' h' (cells + 1) sl') : ma_G D cl ad base p l e R s m args below meth c Q nL pc L S h cells slots := by
  obtain ⟨hx, hb, hml, hown, hts, hkn, had, hini, hcls, hsx, hsb⟩ := X
  simp only [ma_s] at hs
  split at hs
  next ci r =>
    split at hs
    next => cases hs
    next hz =>
      cases hs
      intro H locs ls hH hF hl hn
      obtain ⟨C, T, N, hc, hl1, hl2, hl3⟩ := hlk _ _ rfl
      obtain ⟨hin, hnm, hklen, hty⟩ := hcls _ _ _ _ hc
      have hKn := hkn _ _ hc
      have hsz : H.size = ad h.length := by rw [had _ (by omega)]; exact hH.1
      refine W.newcK hx hb hown (hts _ hl1) (hts _ hl2) (hts _ hl3) rfl hdg hcells (by have := hslots _ _ _ rfl hc; rw [hklen] at this; exact this) hKn.2.1 rfl fun H1 kC hkC e1 z1 o1 => ?_
      have hk2 := k H1 locs ls (hH.push hz z1 o1 ⟨_, hc, by simp [ma_df, hklen], ?_⟩) (hF.push (by rw [hH.1]; omega) o1) hl hn
      · rw [List.map_cons] at hk2
        have e9 : (ma_va ad (.ref h.length)) = .ref H.size := by rw [hsz]; rfl
        rw [e9] at hk2
        rw [hslEq _ _ rfl, hklen] at hk2
        exact hk2
      · refine (u_born (fun k => (parseFieldDescriptor (T k).2.2.1).getD .int) hts hin hKn hkC e1 (fun k hk => by obtain ⟨-, ty, h1, -⟩ := hty k hk; rw [h1]; rfl)).to (fun j hj => ?_)
        obtain ⟨-, ty, h1, t, ht, hkt⟩ := hty j hj
        rw [h1]
        simp only [Option.getD_some, vp_V, List.getD_eq_getElem?_getD, List.getElem?_map, ma_df, ht, Option.map_some]
        unfold ma_kt at hkt
        split at hkt <;> first | rfl | cases hkt
  next => cases hs

theorem ma_o_newarray {a : ArrayType} {sl' : Nat} (X : ma_X D cl ks ad base sc G own ini p s m args meth c cc nL) (hdg : decode cc pc = .ok (.newarray a, 2)) (hlk : Jvm.Cond.arrayClass (newarray.typeOf a) ∈ G) (hcells : cells + 1 ≤ R.cells) (hslots : ∀ n S2, S = .int n :: S2 → slots + n.toNatClampNeg ≤ R.slots) (hslEq : ∀ n S2, S = .int n :: S2 → sl' = slots + n.toNatClampNeg) (hs : ma_s sc ks (.newarray a) o L S h = some (L', S', h')) (k : ma_G D cl ad base p l e R s m args below meth c Q nL (pc + 2) L' S' h' (cells + 1) sl') : ma_G D cl ad base p l e R s m args below meth c Q nL pc L S h cells slots := by
  obtain ⟨hx, hb, hml, hown, hts, hkn, had, hini, hcls, hsx, hsb⟩ := X
  simp only [ma_s] at hs
  split at hs
  next t n S2 hta =>
    split at hs
    next => cases hs
    next hz =>
      cases hs
      intro H locs ls hH hF hl hn
      have hz0 : ¬ n < 0 := fun q => hz (Or.inl q)
      have hz1 : ¬ 4095 < h.length := fun q => hz (Or.inr (Or.inl q))
      have hz2 : ¬ 20000 < n.toNatClampNeg := fun q => hz (Or.inr (Or.inr q))
      have hsz : H.size = ad h.length := by rw [had _ (by omega)]; exact hH.1
      have htyE : newarray.typeOf a = ma_ty t ∧ t < 3 ∧ componentBytes (ma_ty t) ≤ 8 ∧ ∀ cA N, arrV cA N (fun _ => defaultValue (ma_ty t)) = vp_cell cA (ma_ac ad (N, ma_new t)) := by
        unfold ma_atc at hta
        split at hta <;> cases hta <;> exact ⟨rfl, by decide, by decide, fun _ _ => rfl⟩
      obtain ⟨ht1, ht2, ht3, ht4⟩ := htyE
      refine W.newaK hx hb (hts _ hlk) rfl hdg rfl hz0 rfl (by rw [ht1]; have := Nat.mul_le_mul (Nat.le_of_not_lt hz2) ht3; omega) hcells (hslots n S2 rfl) rfl fun H1 cA e1 z1 o1 hAr => ?_
      have hk2 := k H1 locs ls (hH.push hz1 z1 o1 ⟨cA, by rw [← ht1]; exact hAr, fun z => by simp only at z; omega, by rw [e1, ht1]; rw [ht4]⟩) (hF.push (by rw [hH.1]; omega) o1) hl hn
      rw [List.map_cons] at hk2
      have e9 : (ma_va ad (.ref h.length)) = .ref H.size := by rw [hsz]; rfl
      rw [e9, hslEq n S2 rfl] at hk2
      exact hk2
  next => cases hs

theorem ma_o_anewarray {x sl' : Nat} (X : ma_X D cl ks ad base sc G own ini p s m args meth c cc nL) (hdg : decode cc pc = .ok (.anewarray x, 3)) (hlk : Jvm.Cond.classLink own x "LetHorizon$Line" ∈ G ∧ Jvm.Cond.arrayOver (.object "LetHorizon$Line") ∈ G) (hcells : cells + 1 ≤ R.cells) (hslots : ∀ n S2, S = .int n :: S2 → slots + n.toNatClampNeg ≤ R.slots) (hslEq : ∀ n S2, S = .int n :: S2 → sl' = slots + n.toNatClampNeg) (hs : ma_s sc ks (.anewarray x) o L S h = some (L', S', h')) (k : ma_G D cl ad base p l e R s m args below meth c Q nL (pc + 3) L' S' h' (cells + 1) sl') : ma_G D cl ad base p l e R s m args below meth c Q nL pc L S h cells slots := by
  obtain ⟨hx, hb, hml, hown, hts, hkn, had, hini, hcls, hsx, hsb⟩ := X
  simp only [ma_s] at hs
  split at hs
  next n S2 =>
    split at hs
    next => cases hs
    next hz =>
      cases hs
      intro H locs ls hH hF hl hn
      have hz0 : ¬ n < 0 := fun q => hz (Or.inl q)
      have hz1 : ¬ 4095 < h.length := fun q => hz (Or.inr (Or.inl q))
      have hz2 : ¬ 20000 < n.toNatClampNeg := fun q => hz (Or.inr (Or.inr q))
      have hsz : H.size = ad h.length := by rw [had _ (by omega)]; exact hH.1
      refine W.anew hx hb hown (hts _ hlk.1) (hts _ hlk.2) rfl hdg rfl hz0 (by omega) hcells (hslots n S2 rfl) fun cA kA comp h1 h2 h3 h4 => ?_
      have hk2 := k (H.push { cls := cA, slots := Array.replicate n.toNatClampNeg .null, vm := .none }) locs ls (hH.push hz1 (by simp) (fun q hq => by rw [Array.getElem?_push, if_neg (Nat.ne_of_lt hq)]) ⟨cA, fun n z => ⟨fun k h => (by cases h), kA, h2, comp, h3⟩, fun _ => ⟨kA, comp, h2, h3, h4, h1⟩, by rw [arrV_new]; simp; rfl⟩) (hF.push (by rw [hH.1]; omega) (fun q hq => by rw [Array.getElem?_push, if_neg (Nat.ne_of_lt hq)])) hl hn
      rw [List.map_cons] at hk2
      have e9 : (ma_va ad (.ref h.length)) = .ref H.size := by rw [hsz]; rfl
      rw [e9, hslEq n S2 rfl] at hk2
      exact hk2
  next => cases hs

end MS
end
section
/-! ===== jumps, calls, what the machine does itself ===== -/
def ma_cz : ma_C → Nat
  | .inl q => q.2.1
  | .inr q => q.2.length
def ma_sl (h : List ma_C) : Nat := (h.map ma_cz).sum
theorem ma_sl_set {h : List ma_C} {k : Nat} {x y : ma_C} (hk : h[k]? = some x) (e : ma_cz y = ma_cz x) : ma_sl (h.set k y) = ma_sl h := by
  induction h generalizing k with
  | nil => simp at hk
  | cons a t ih =>
    cases k with
    | zero =>
      simp only [List.getElem?_cons_zero, Option.some.injEq] at hk
      subst hk
      simp [ma_sl, e]
    | succ k =>
      rw [List.getElem?_cons_succ] at hk
      have := ih hk
      simp only [ma_sl, List.set_cons_succ, List.map_cons, List.sum_cons] at this ⊢
      omega
theorem ma_sl_app (a b : List ma_C) : ma_sl (a ++ b) = ma_sl a + ma_sl b := by simp [ma_sl]
/-- the numbers of cells and places never fall -/
def ma_le (h h' : List ma_C) : Prop := h.length ≤ h'.length ∧ ma_sl h ≤ ma_sl h'
theorem ma_le.rf {h : List ma_C} : ma_le h h := ⟨Nat.le_refl _, Nat.le_refl _⟩
theorem ma_le.tr {a b c : List ma_C} (h1 : ma_le a b) (h2 : ma_le b c) : ma_le a c := ⟨Nat.le_trans h1.1 h2.1, Nat.le_trans h1.2 h2.2⟩
theorem ma_le.set {h : List ma_C} {k : Nat} {x y : ma_C} (hk : h[k]? = some x) (e : ma_cz y = ma_cz x) : ma_le h (h.set k y) := ⟨by simp, by rw [ma_sl_set hk e]; exact Nat.le_refl _⟩
theorem ma_le.app {h t : List ma_C} : ma_le h (h ++ t) := ⟨by simp, by rw [ma_sl_app]; omega⟩
theorem ma_s_le {sc : Nat × (Nat → Int32)} {ks : Nat → List Nat} {i : Instr} {o : List Nat} {L L' : ma_L} {S S' : List Value} {h h' : List ma_C} (hs : ma_s sc ks i o L S h = some (L', S', h')) : ma_le h h' := by
  unfold ma_s at hs
  repeat' split at hs
  all_goals first
    | (cases hs; done)
    | (cases hs; exact ma_le.rf)
    | (cases hs; exact ma_le.app)
    | (cases hs; rename_i hk _; exact ma_le.set hk rfl)
    | (cases hs; rename_i hk _; exact ma_le.set hk (by simp [ma_cz]))
    | (cases hs; rename_i hk _ _; exact ma_le.set hk rfl)
theorem ma_x_le {tx : Nat → Int32 → Option Int32} {i : Instr} {o : List Nat} {S S' : List Value} {h h' : List ma_C} (hs : ma_x tx i o S h = some (S', h')) : ma_le h h' := by
  unfold ma_x at hs
  repeat' split at hs
  all_goals first
    | (cases hs; done)
    | (cases hs; exact ma_le.rf)
    | (cases hs; rename_i hk _; exact ma_le.set hk rfl)
theorem ma_run_le {P : ma_P} : ∀ (n d m : Nat) (is : List ma_I) (L : ma_L) (S : List Value) (h : List ma_C) (r : Option Value) (h' : List ma_C), ma_run P n d m is L S h = some (r, h') → ma_le h h'
  | 0, _, _, _, _, _, _, _, _, hr => by simp [ma_run] at hr
  | n + 1, d, m, [], L, S, h, r, h', hr => by simp [ma_run] at hr
  | n + 1, d, m, (i, o) :: is, L, S, h, r, h', hr => by
    unfold ma_run at hr
    split at hr
    · split at hr
      next L1 S1 h1 hs => exact (ma_s_le hs).tr (ma_run_le n _ _ _ _ _ _ _ _ hr)
      next => cases hr
    · split at hr
      · exact ma_run_le n _ _ _ _ _ _ _ _ hr
      · exact ma_run_le n _ _ _ _ _ _ _ _ hr
      · cases hr
    · split at hr
      · split at hr
        · cases hr
        split at hr
        · cases hr
        · split at hr
          next r1 h1 h2 => exact (ma_run_le n _ _ _ _ _ _ _ _ h2).tr (ma_run_le n _ _ _ _ _ _ _ _ hr)
          next => cases hr
      · cases hr
    · split at hr
      · cases hr; exact ma_le.rf
      · cases hr
    · split at hr
      next S1 h1 hs =>
        split at hs
        next => cases hs
        next => exact (ma_x_le hs).tr (ma_run_le n _ _ _ _ _ _ _ _ hr)
      next => cases hr
/-- how long an instruction is -/
def ma_ln (pc : Nat) : Instr → Nat
  | .bipush _ | .ldc _ | .iload _ | .lload _ | .aload _ | .istore _ | .lstore _ | .astore _ | .newarray _ => 2
  | .sipush _ | .ldc_w _ | .ldc2_w _ | .getfield _ | .putfield _ | .new _ | .anewarray _ | .iinc _ _ | .goto _ | .if_icmp _ _ | .ifCond _ _ | .ifnull _ | .ifnonnull _ | .invokevirtual _ | .invokespecial _ | .invokestatic _ => 3
  | .multianewarray _ _ => 4
  | .tableswitch _ _ _ offs => 1 + (4 - (pc + 1) % 4) % 4 + 12 + 4 * offs.size
  | _ => 1
def ma_jt (pc : Nat) : Instr → List Nat → Prop
  | .nop, [t] => pc = t
  | .goto off, [t] => (pc : Int) + off = (t : Int)
  | .if_icmp _ off, [t] => (pc : Int) + off = (t : Int)
  | .ifCond _ off, [t] => (pc : Int) + off = (t : Int)
  | .ifnull off, [t] => (pc : Int) + off = (t : Int)
  | .ifnonnull off, [t] => (pc : Int) + off = (t : Int)
  | .tableswitch d _ _ offs, t0 :: ts => (pc : Int) + d = (t0 : Int) ∧ offs.toList.map (fun off => (pc : Int) + off) = ts.map (fun (t : Nat) => (t : Int))
  | _, _ => False
section MJ
variable {D : va_G} {cl : List vw_C} {ks : Nat → List Nat} {ad : Nat → Nat} {base : Nat} {G : List Jvm.Cond} {own : String} {ini : Bool} {p : Program} {l : Launch} {e : Env} {R : Room} {s : State} {m : MethodId} {args : Array Value} {below : List Frame} {meth : Method} {c : Code} {cc : ByteArray} {nL pc : Nat} {Q : State → Prop} {sc : Nat × (Nat → Int32)} {o : List Nat} {L : ma_L} {S S' : List Value} {h h' : List ma_C} {cells slots : Nat}
theorem ma_o_j {i : Instr} {t : Option Nat} (X : ma_X D cl ks ad base sc G own ini p s m args meth c cc nL) (hdg : i = .nop ∨ decode cc pc = .ok (i, ma_ln pc i)) (hjt : ma_jt pc i o) (hs : ma_j i o S = some (t, S')) (k : ma_G D cl ad base p l e R s m args below meth c Q nL (t.getD (pc + ma_ln pc i)) L S' h cells slots) : ma_G D cl ad base p l e R s m args below meth c Q nL pc L S h cells slots := by
  obtain ⟨hx, hb, -⟩ := X
  intro H locs ls hH hF hl hn
  have kk := k H locs ls hH hF hl hn
  unfold ma_j at hs
  split at hs
  · split at hs
    · cases hs
      have hjt : pc = _ := hjt
      rw [hjt]
      exact kk
    · cases hs
  · replace hdg := hdg.resolve_left (fun z => by cases z)
    split at hs
    · cases hs
      exact lv_goto hx hb hdg hjt kk
    · cases hs
  · replace hdg := hdg.resolve_left (fun z => by cases z)
    rename_i cnd off
    split at hs
    · rename_i tt y x S2
      obtain ⟨e1, e2⟩ := Prod.mk.inj (Option.some.inj hs)
      subst e2
      have hjt : (pc : Int) + off = (tt : Int) := hjt
      have kT : ∀ b : Bool, ma_cmp cnd x y = b → (b = true → W p l e R s m args below meth c H locs cells slots Q (F0 m tt ls (S2.map (ma_va ad)))) ∧ (b = false → W p l e R s m args below meth c H locs cells slots Q (F0 m (pc + 3) ls (S2.map (ma_va ad)))) := by
        intro b hbb
        rw [← e1, hbb] at kk
        cases b
        · exact ⟨fun z => (by cases z), fun _ => kk⟩
        · exact ⟨fun _ => kk, fun z => by cases z⟩
      cases cnd with
      | eq => exact lv_icmp_eq hx hb hdg hjt (fun z => (kT true (decide_eq_true z)).1 rfl) (fun z => (kT false (decide_eq_false z)).2 rfl)
      | ne => exact lv_icmp_ne hx hb hdg hjt (fun z => (kT true (decide_eq_true z)).1 rfl) (fun z => (kT false (decide_eq_false (fun q => q z))).2 rfl)
      | lt => exact lv_icmp_lt hx hb hdg hjt (fun z => (kT true (decide_eq_true z)).1 rfl) (fun z => (kT false (decide_eq_false z)).2 rfl)
      | ge => exact lv_icmp_ge hx hb hdg hjt (fun z => (kT true (decide_eq_true z)).1 rfl) (fun z => (kT false (decide_eq_false z)).2 rfl)
      | gt => exact lv_icmp_gt hx hb hdg hjt (fun z => (kT true (decide_eq_true z)).1 rfl) (fun z => (kT false (decide_eq_false z)).2 rfl)
      | le => exact lv_icmp_le hx hb hdg hjt (fun z => (kT true (decide_eq_true z)).1 rfl) (fun z => (kT false (decide_eq_false z)).2 rfl)
    · cases hs
  · replace hdg := hdg.resolve_left (fun z => by cases z)
    rename_i cnd off
    split at hs
    · rename_i tt x S2
      obtain ⟨e1, e2⟩ := Prod.mk.inj (Option.some.inj hs)
      subst e2
      have hjt : (pc : Int) + off = (tt : Int) := hjt
      have kT : ∀ b : Bool, ma_cmp cnd x 0 = b → (b = true → W p l e R s m args below meth c H locs cells slots Q (F0 m tt ls (S2.map (ma_va ad)))) ∧ (b = false → W p l e R s m args below meth c H locs cells slots Q (F0 m (pc + 3) ls (S2.map (ma_va ad)))) := by
        intro b hbb
        rw [← e1, hbb] at kk
        cases b
        · exact ⟨fun z => (by cases z), fun _ => kk⟩
        · exact ⟨fun _ => kk, fun z => by cases z⟩
      cases cnd with
      | eq => exact lv_if_eq hx hb hdg hjt (fun z => (kT true (decide_eq_true z)).1 rfl) (fun z => (kT false (decide_eq_false z)).2 rfl)
      | ne => exact lv_if_ne hx hb hdg hjt (fun z => (kT true (decide_eq_true z)).1 rfl) (fun z => (kT false (decide_eq_false (fun q => q z))).2 rfl)
      | lt => exact lv_if_lt hx hb hdg hjt (fun z => (kT true (decide_eq_true z)).1 rfl) (fun z => (kT false (decide_eq_false z)).2 rfl)
      | ge => exact lv_if_ge hx hb hdg hjt (fun z => (kT true (decide_eq_true z)).1 rfl) (fun z => (kT false (decide_eq_false z)).2 rfl)
      | gt => exact lv_if_gt hx hb hdg hjt (fun z => (kT true (decide_eq_true z)).1 rfl) (fun z => (kT false (decide_eq_false z)).2 rfl)
      | le => exact lv_if_le hx hb hdg hjt (fun z => (kT true (decide_eq_true z)).1 rfl) (fun z => (kT false (decide_eq_false z)).2 rfl)
    · cases hs
  · replace hdg := hdg.resolve_left (fun z => by cases z)
    split at hs
    · cases hs
      exact lv_ifnullN hx hb hdg hjt kk
    · cases hs
      exact lv_ifnull hx hb hdg kk
    · cases hs
  · replace hdg := hdg.resolve_left (fun z => by cases z)
    split at hs
    · cases hs
      exact lv_ifnonnullN hx hb hdg kk
    · cases hs
      exact lv_ifnonnull hx hb hdg hjt kk
    · cases hs
  · replace hdg := hdg.resolve_left (fun z => by cases z)
    rename_i dfl lo hi offs
    split at hs
    · rename_i t0 ts x S2
      obtain ⟨j1, j2⟩ : (pc : Int) + dfl = (t0 : Int) ∧ offs.toList.map (fun off => (pc : Int) + off) = ts.map (fun (t : Nat) => (t : Int)) := hjt
      split at hs
      next hz =>
        cases hs
        exact lv_tableOut hx hb hdg hz j1 kk
      next hz =>
        split at hs
        next tt ht =>
          cases hs
          have h2 : (offs.toList.map (fun off => (pc : Int) + off))[(x.toInt - lo).toNat]? = some (tt : Int) := by rw [j2, List.getElem?_map, ht]; rfl
          rw [List.getElem?_map] at h2
          cases ho : offs.toList[(x.toInt - lo).toNat]? with
          | none => rw [ho] at h2; cases h2
          | some off =>
            rw [ho] at h2
            exact lv_tableIn hx hb hdg (fun z => hz (Or.inl z)) (fun z => hz (Or.inr z)) (by rw [← Array.getElem?_toList]; exact ho) (Option.some.inj h2) kk
        next => cases hs
    · cases hs
  · cases hs
end MJ
end
section
/-! ===== calls: contracts made of runs ===== -/
/-- a method of the table: its name, its bytes, its locals, what it gives back, whether it has no receiver -/
abbrev ma_M : Type := MethodName × ByteArray × Nat × Option FieldType × Bool
def ma_Pc (D : va_G) (cl : List vw_C) (ad : Nat → Nat) (base : Nat) (sc : Nat × (Nat → Int32)) (TF : State → Heap → Prop) (a : List Value) (h : List ma_C) : Array Value → State → Prop := fun v U =>
  v = (a.map (ma_va ad)).toArray ∧ ma_H D cl ad base U U.heap h ∧ (∀ (ci : Nat) (q : vw_C), cl[ci]? = some q → u_Kn U q.1 q.2.1 q.2.2 (D.1 ci) (D.2 ci)) ∧ va_X (ad 4096) sc.1 sc.2 U U.heap ∧ TF U U.heap
def ma_Qc (D : va_G) (cl : List vw_C) (ad : Nat → Nat) (base : Nat) (r : Option Value) (h : List ma_C) : Array Value → State → Outcome → State → Prop := fun _ st oc t =>
  oc = .returned (r.map (ma_va ad)) ∧ ma_H D cl ad base t t.heap h ∧ ∀ q : Nat, q < base → t.heap[q]? = st.heap[q]?
/-- what is asked of the old things: they stay when the tables grow warm, and when only new cells change -/
def ma_TF (base : Nat) (TF : State → Heap → Prop) : Prop :=
  (∀ (u U : State) (H : Heap), u.WarmedH U.vm → TF u H → TF U H) ∧ (∀ (u U : State) (H : Heap), u.vm = U.vm → TF u H → TF U H) ∧ ∀ (U : State) (H H1 : Heap), (∀ q : Nat, q < base → H1[q]? = H[q]?) → TF U H → TF U H1
section MC
variable {D : va_G} {cl : List vw_C} {ks : Nat → List Nat} {ad : Nat → Nat} {base : Nat} {G : List Jvm.Cond} {own : String} {ini : Bool} {p : Program} {l : Launch} {e : Env} {R : Room} {s : State} {m : MethodId} {args : Array Value} {below : List Frame} {meth : Method} {c : Code} {cc : ByteArray} {nL pc : Nat} {Q : State → Prop} {sc : Nat × (Nat → Int32)} {o : List Nat} {L : ma_L} {S S' : List Value} {h h' : List ma_C} {cells slots : Nat} {TF : State → Heap → Prop}
theorem ma_after {H : Heap} {locs : List Loc} {ls : Array Slot} {st0 rest : List Value} {av : Array Value} {r : Option Value} {mc ms : Nat} (hr : va_Run p l e R s m args below meth c H locs cells slots mc ms (F0 m pc ls st0) rest (ma_Qc D cl ad base r h' av) (fun q => base ≤ q)) (hF : ma_F base s H locs)
    (kk : ∀ (H1 : Heap) (locs1 : List Loc), ma_H D cl ad base s H1 h' → ma_F base s H1 locs1 → W p l e R s m args below meth c H1 locs1 (cells + mc) (slots + ms) Q (F0 m (pc + 3) ls ((r.map (ma_va ad)).toList ++ rest))) : W p l e R s m args below meth c H locs cells slots Q (F0 m pc ls st0) := by
  intro T hT X
  obtain ⟨v, st₀, t, T', L, h0, X', hL, e1, e2, ⟨hv, hH1, hk⟩, st⟩ := hr T hT X
  cases hv
  have hvm : t.vm.Alike s.vm := by rw [← e2]; exact X'.warmed.alike.symm
  rw [h0] at hk
  obtain ⟨t2, a1, b1⟩ := kk T'.heap (locs ++ L) (by rw [e1]; exact hH1.moved hvm) ⟨fun q hq => by rw [e1, hk q hq]; exact hF.1 q hq, fun q hq => by
      rcases List.mem_append.mp hq with z | z
      · exact hF.2 q z
      · exact hL q z⟩ T' rfl X'
  exact ⟨t2, st t2 a1, b1⟩
theorem ma_Pc.blind (hTF : ma_TF base TF) {a : List Value} : FrameBlind (ma_Pc D cl ad base sc TF a h) := by
  intro v U g mk q
  obtain ⟨q1, q2, q3, q4, q5⟩ := q
  exact ⟨q1, q2.moved (Vm.Alike.refl U.vm), fun ci z hz => u_Kn_moved (Vm.Alike.refl U.vm) (q3 ci z hz), q4.moved (Vm.Alike.refl U.vm), hTF.2.1 U _ _ rfl q5⟩
theorem ma_pre (hTF : ma_TF base TF) (X : ma_X D cl ks ad base sc G own ini p s m args meth c cc nL) (hT : TF s s.heap) {H : Heap} {locs : List Loc} (hH : ma_H D cl ad base s H h) (hF : ma_F base s H locs) (a : List Value) : PreS s H (ma_Pc D cl ad base sc TF a h) (a.map (ma_va ad)) := by
  obtain ⟨hx, hb, hml, hown, hts, hkn, had, hini, hcls, hsx, hsb⟩ := X
  refine ⟨ma_Pc.blind hTF, fun U hU hW => ⟨rfl, by rw [hU]; exact hH.moved hW.alike, fun ci z hz => u_Kn_moved hW.alike (hkn ci z hz), ?_, ?_⟩⟩
  · rw [hU]
    exact (hsx.kept (hF.1 _ hsb)).moved hW.alike
  · rw [hU]
    exact hTF.1 s U H hW (hTF.2.2 s _ _ hF.1 hT)
def ma_ml (mt : Nat → Option ma_M) (G : List Jvm.Cond) (cl : List vw_C) (own : String) (i : Instr) (o : List Nat) : Prop :=
  match i, o with
  | .invokevirtual x, [0, m', n, ci] => ∃ y bytes maxL ret, mt m' = some (y, bytes, maxL, ret, false) ∧ (Jvm.Cond.methodLink own x y ∈ G ∨ ∃ host, Jvm.Cond.methodLinkNest own x y host ∈ G) ∧ Jvm.Cond.instanceMethod y ∈ G ∧ Jvm.Cond.selects y.cls y y ∈ G ∧ Jvm.Cond.initialized y.cls ∈ G ∧ Jvm.Cond.code y bytes maxL ret ∈ G ∧
      (y.cls ≠ "java/lang/invoke/MethodHandle" ∧ y.cls ≠ "java/lang/invoke/VarHandle") ∧ (parseMethodDescriptor y.desc).map (fun d => d.parameters.length) = some (n - 1) ∧ 0 < n ∧ ∃ T N, cl[ci]? = some (y.cls, T, N)
  | .invokespecial x, [0, m', n, _] => ∃ y bytes maxL, mt m' = some (y, bytes, maxL, none, false) ∧ y.name = "<init>" ∧ (Jvm.Cond.methodLink own x y ∈ G ∨ ∃ host, Jvm.Cond.methodLinkNest own x y host ∈ G) ∧ Jvm.Cond.instanceMethod y ∈ G ∧ Jvm.Cond.initialized y.cls ∈ G ∧ Jvm.Cond.code y bytes maxL none ∈ G ∧
      (y.cls ≠ "java/lang/invoke/MethodHandle" ∧ y.cls ≠ "java/lang/invoke/VarHandle") ∧ (parseMethodDescriptor y.desc).map (fun d => d.parameters.length) = some (n - 1) ∧ 0 < n
  | .invokestatic x, [0, m', n] => ∃ y bytes maxL ret, mt m' = some (y, bytes, maxL, ret, true) ∧ (Jvm.Cond.methodLink own x y ∈ G ∨ ∃ host, Jvm.Cond.methodLinkNest own x y host ∈ G) ∧ Jvm.Cond.static y ∈ G ∧ Jvm.Cond.initialized y.cls ∈ G ∧ Jvm.Cond.code y bytes maxL ret ∈ G ∧
      (y.cls ≠ "java/lang/invoke/MethodHandle" ∧ y.cls ≠ "java/lang/invoke/VarHandle") ∧ (parseMethodDescriptor y.desc).map (fun d => d.parameters.length) = some n
  | _, _ => False
theorem ma_a_some {n : Nat} {a S2 : List Value} (h : ma_a n S = some (a, S2)) : S = a.reverse ++ S2 ∧ a.length = n ∧ (S2.map fun v => v.category).sum ≤ 8 := by
  unfold ma_a at h
  split at h
  next => cases h
  next hz =>
    cases h
    refine ⟨by rw [List.reverse_reverse, List.take_append_drop], ?_, Nat.le_of_not_lt fun q => hz (Or.inr q)⟩
    rw [List.length_reverse, List.length_take]
    have : ¬ S.length < n := fun q => hz (Or.inl q)
    omega
theorem ma_cr_some {m' ci m2 : Nat} {q : Option (List Value × List Value)} {a S2 : List Value} (hc : ma_cr m' ci q h = some (m2, a, S2)) : m2 = m' ∧ ∃ k a2 fs, a = .ref k :: a2 ∧ q = some (a, S2) ∧ h[k]? = some (.inr (ci, fs)) := by
  unfold ma_cr at hc
  split at hc
  next k a2 S3 =>
    split at hc
    next c2 fs hk =>
      split at hc
      next he => cases hc; subst he; exact ⟨rfl, k, a2, fs, rfl, rfl, hk⟩
      next => cases hc
    next => cases hc
  next => cases hc
theorem ma_drop {n : Nat} (h : ¬ S.length < n) : S = ((S.take n).reverse).reverse ++ S.drop n := by rw [List.reverse_reverse, List.take_append_drop]
theorem ma_o_call {mt : Nat → Option ma_M} {i : Instr} {m' : Nat} {a S2 : List Value} {r : Option Value} {mc ms : Nat} {rm : Room} (hTF : ma_TF base TF) (hGood : ∀ w ∈ G, ((w.onTables && w.keeps) = true ∨ ∃ ty, w = .arrayClass ty)) (X : ma_X D cl ks ad base sc G own ini p s m args meth c cc nL) (hT : TF s s.heap) (hdg : decode cc pc = .ok (i, ma_ln pc i)) (hlk : ma_ml mt G cl own i o) (hc : ma_c i o S h = some (m', a, S2))
    (hM : ∀ y bytes maxL ret st, mt m' = some (y, bytes, maxL, ret, st) → Met l y (Jvm.Cond.code y bytes maxL ret :: G) rm (ma_Pc D cl ad base sc TF a h) (ma_Qc D cl ad base r h') mc ms (fun q => base ≤ q) ∧ rm.cells = mc ∧ rm.slots = ms ∧ rm.frames + 1 ≤ R.frames ∧ 8 + (maxL + 11) + rm.locals ≤ R.locals)
    (hce : cells + mc ≤ R.cells) (hsl : slots + ms ≤ R.slots) (k : ma_G D cl ad base p l e R s m args below meth c Q nL (pc + 3) L (r.toList ++ S2) h' (cells + mc) (slots + ms)) : ma_G D cl ad base p l e R s m args below meth c Q nL pc L S h cells slots := by
  intro H locs ls hH hF hl hn
  have hpre := ma_pre hTF X hT hH hF a
  obtain ⟨hx, hb, hml, hown, hts, hkn, had, hini, hcls, hsx, hsb⟩ := X
  have hfix : CallFix p m c cc nL s args G own := ⟨hx, hb, hml, hown, hts⟩
  have hgi : ∀ y bytes maxL ret, Jvm.Cond.code y bytes maxL ret ∈ G → GoodIn G (Jvm.Cond.code y bytes maxL ret :: G) := fun y bytes maxL ret hin w hw => by
    rcases List.mem_cons.mp hw with rfl | hw
    · exact ⟨hin, hGood _ hin⟩
    · exact ⟨hw, hGood _ hw⟩
  have hend : ∀ (H1 : Heap) (locs1 : List Loc), ma_H D cl ad base s H1 h' → ma_F base s H1 locs1 → W p l e R s m args below meth c H1 locs1 (cells + mc) (slots + ms) Q (F0 m (pc + 3) ls ((r.map (ma_va ad)).toList ++ S2.map (ma_va ad))) := by
    intro H1 locs1 hH1 hF1
    have := k H1 locs1 ls hH1 hF1 hl hn
    rw [List.map_append] at this
    cases r <;> exact this
  have hsumOf : ∀ S3 : List Value, (S3.map fun v => v.category).sum ≤ 8 → 2 * (F0 m pc ls (S.map (ma_va ad))).monitorRoom + ((S3.map (ma_va ad)).map fun v => v.category).sum ≤ 8 := by
    intro S3 h3
    rw [List.map_map, show ((fun v => Value.category v) ∘ ma_va ad) = (fun v => v.category) from funext fun v => ma_va_cat ad v]
    show 2 * 0 + _ ≤ 8
    omega
  unfold ma_c at hc
  split at hc
  · rename_i x m2 n ci
    obtain ⟨y, bytes, maxL, ret, hmt, hlnk, w1, w2, w3, w4, hno, hpd, hn0, T, N, hci⟩ := hlk
    obtain ⟨rfl, kk, a2, fs, rfl, hq, hk⟩ := ma_cr_some hc
    obtain ⟨hS, hlen, hsum⟩ := ma_a_some hq
    obtain ⟨hMet, hrc, hrs, hfr, hlo⟩ := hM _ _ _ _ _ hmt
    have hst : S.map (ma_va ad) = (a2.map (ma_va ad)).reverse ++ .ref (ad kk) :: S2.map (ma_va ad) := by
      rw [hS]
      simp [ma_va]
    have hlen : (a2.map (ma_va ad)).length = n - 1 := by
      rw [List.length_map]
      simp only [List.length_cons] at hlen
      omega
    obtain ⟨r', hr', -, cell, q1, q2, q3, -⟩ := hH.2.2 _ _ hk
    have hcell : ∃ cellB : Cell, H[ad kk]? = some cellB ∧ cellB.vm.isStatics = false ∧ s.vm.findClass y.cls = some cellB.cls := ⟨cell, by rw [hH.adr had hk]; exact q1, by rw [q3]; rfl, by rw [q2]; exact (hkn _ _ hci).2.1⟩
    rcases hlnk with hlnk | ⟨host, hlnk⟩
    · exact ma_after (va_runV (As := a2.map (ma_va ad)) (rest := S2.map (ma_va ad)) (C := y.cls) (b := ad kk) hfix hMet ⟨callB_of (n - 1) hts (hgi _ _ _ _ w4) rfl hrc hrs (hts _ w3) (hts _ hlnk) ⟨hno.1, hno.2, hpd⟩ ⟨hfr, hlo⟩, hts _ w1, hts _ w2⟩ ⟨hpre.1, hcell, hpre.2⟩ rfl hlen hl.1 hst (hsumOf _ hsum) hdg ⟨hce, hsl⟩) hF hend
    · exact ma_after (va_runVN (As := a2.map (ma_va ad)) (rest := S2.map (ma_va ad)) (C := y.cls) (b := ad kk) hfix hMet ⟨va_cnB (n - 1) hts (hgi _ _ _ _ w4) rfl hrc hrs (va_Nw.of rfl (hts _ hlnk)) (hts _ w3) ⟨hno.1, hno.2, hpd⟩ ⟨hfr, hlo⟩, hts _ w1, hts _ w2⟩ ⟨hpre.1, hcell, hpre.2⟩ rfl hlen hl.1 hst (hsumOf _ hsum) hdg ⟨hce, hsl⟩) hF hend
  · rename_i x m2 n ci
    obtain ⟨y, bytes, maxL, hmt, hnm, hlnk, w1, w3, w4, hno, hpd, hn0⟩ := hlk
    obtain ⟨rfl, kk, a2, fs, rfl, hq, hk⟩ := ma_cr_some hc
    obtain ⟨hS, hlen, hsum⟩ := ma_a_some hq
    obtain ⟨hMet, hrc, hrs, hfr, hlo⟩ := hM _ _ _ _ _ hmt
    have hst : S.map (ma_va ad) = (a2.map (ma_va ad)).reverse ++ .ref (ad kk) :: S2.map (ma_va ad) := by
      rw [hS]
      simp [ma_va]
    have hlen : (a2.map (ma_va ad)).length = n - 1 := by
      rw [List.length_map]
      simp only [List.length_cons] at hlen
      omega
    rcases hlnk with hlnk | ⟨host, hlnk⟩
    · exact ma_after (va_runI (As := a2.map (ma_va ad)) (rest := S2.map (ma_va ad)) (b := ad kk) hfix hMet ⟨callB_of (n - 1) hts (hgi _ _ _ _ w4) rfl hrc hrs (hts _ w3) (hts _ hlnk) ⟨hno.1, hno.2, hpd⟩ ⟨hfr, hlo⟩, hnm, hts _ w1⟩ hpre rfl hlen hl.1 hst (hsumOf _ hsum) hdg ⟨hce, hsl⟩) hF hend
    · exact ma_after (va_runIN (As := a2.map (ma_va ad)) (rest := S2.map (ma_va ad)) (b := ad kk) hfix hMet ⟨va_cnB (n - 1) hts (hgi _ _ _ _ w4) rfl hrc hrs (va_Nw.of rfl (hts _ hlnk)) (hts _ w3) ⟨hno.1, hno.2, hpd⟩ ⟨hfr, hlo⟩, hnm, hts _ w1⟩ hpre rfl hlen hl.1 hst (hsumOf _ hsum) hdg ⟨hce, hsl⟩) hF hend
  · rename_i x m2 n
    obtain ⟨y, bytes, maxL, ret, hmt, hlnk, w1, w3, w4, hno, hpd⟩ := hlk
    split at hc
    next a3 S3 hq =>
      cases hc
      obtain ⟨hS, hlen, hsum⟩ := ma_a_some hq
      obtain ⟨hMet, hrc, hrs, hfr, hlo⟩ := hM _ _ _ _ _ hmt
      have hst : S.map (ma_va ad) = (a.map (ma_va ad)).reverse ++ S2.map (ma_va ad) := by
        rw [hS]
        simp
      have hlen : (a.map (ma_va ad)).length = n := by rw [List.length_map]; exact hlen
      rcases hlnk with hlnk | ⟨host, hlnk⟩
      · exact ma_after (va_runS (As := a.map (ma_va ad)) (rest := S2.map (ma_va ad)) hfix hMet ⟨callB_of n hts (hgi _ _ _ _ w4) rfl hrc hrs (hts _ w3) (hts _ hlnk) ⟨hno.1, hno.2, hpd⟩ ⟨hfr, hlo⟩, hts _ w1⟩ hpre rfl hlen hl.1 hst (hsumOf _ hsum) hdg ⟨hce, hsl⟩) hF hend
      · exact ma_after (va_runSN (As := a.map (ma_va ad)) (rest := S2.map (ma_va ad)) hfix hMet ⟨va_cnB n hts (hgi _ _ _ _ w4) rfl hrc hrs (va_Nw.of rfl (hts _ hlnk)) (hts _ w3) ⟨hno.1, hno.2, hpd⟩ ⟨hfr, hlo⟩, hts _ w1, trivial⟩ hpre rfl hlen hl.1 hst (hsumOf _ hsum) hdg ⟨hce, hsl⟩) hF hend
    next => cases hc
  · cases hc
end MC
end
section
/-! ===== what the machine does itself, ends, and that the true machine follows ===== -/
section MX
variable {D : va_G} {cl : List vw_C} {ks : Nat → List Nat} {ad : Nat → Nat} {base : Nat} {G : List Jvm.Cond} {own : String} {ini : Bool} {p : Program} {l : Launch} {e : Env} {R : Room} {s : State} {m : MethodId} {args : Array Value} {below : List Frame} {meth : Method} {c : Code} {cc : ByteArray} {nL pc : Nat} {Q : State → Prop} {sc : Nat × (Nat → Int32)} {o : List Nat} {L : ma_L} {S S' : List Value} {h h' : List ma_C} {cells slots : Nat} {TF : State → Heap → Prop}
theorem ma_sumv (ad : Nat → Nat) (S : List Value) : ((S.map (ma_va ad)).map fun v => v.category).sum = (S.map fun v => v.category).sum := by
  rw [List.map_map, show ((fun v => Value.category v) ∘ ma_va ad) = (fun v => v.category) from funext fun v => ma_va_cat ad v]
theorem ma_o_obj {tx : Nat → Int32 → Option Int32} {x : Nat} (X : ma_X D cl ks ad base sc G own ini p s m args meth c cc nL) (hdg : decode cc pc = .ok (.invokespecial x, 3)) (hlk : Jvm.Cond.methodLink own x Lib.objectInit ∈ G ∧ Jvm.Cond.instanceMethod Lib.objectInit ∈ G ∧ Jvm.Cond.code Lib.objectInit ⟨#[0xb1]⟩ 1 none ∈ G) (hR : 1 ≤ R.frames ∧ 100 ≤ R.locals) (hs : ma_x tx (.invokespecial x) [1] S h = some (S', h')) (k : ma_G D cl ad base p l e R s m args below meth c Q nL (pc + 3) L S' h' cells slots) : ma_G D cl ad base p l e R s m args below meth c Q nL pc L S h cells slots := by
  obtain ⟨hx, hb, hml, hown, hts, hkn, had, hini, hcls, hsx, hsb⟩ := X
  simp only [ma_x] at hs
  split at hs
  · split at hs
    next => cases hs
    next hz =>
      cases hs
      intro H locs ls hH hF hl hn
      refine W.objInit hx hb hown (hts _ hlk.1) (hts _ hlk.2.1) (hts _ hlk.2.2) rfl (hl.1.trans hml.symm) rfl hdg hR.1 ?_ (k H locs ls hH hF hl hn)
      rw [ma_sumv]
      show 2 * 0 + _ + 12 ≤ _
      omega
  · cases hs
theorem ma_nfw : nativeFrameWords "java/lang/System" "arraycopy" 5 ≤ 60 := by decide +kernel
theorem ma_o_copy {tx : Nat → Int32 → Option Int32} {x : Nat} (X : ma_X D cl ks ad base sc G own ini p s m args meth c cc nL) (hdg : decode cc pc = .ok (.invokestatic x, 3)) (hlk : Jvm.Cond.methodLink own x arraycopyName ∈ G ∧ Jvm.Cond.native arraycopyName ∈ G ∧ Jvm.Cond.static arraycopyName ∈ G ∧ Jvm.Cond.initialized "java/lang/System" ∈ G) (hR : 1 ≤ R.frames ∧ 100 ≤ R.locals) (hs : ma_x tx (.invokestatic x) [2] S h = some (S', h')) (k : ma_G D cl ad base p l e R s m args below meth c Q nL (pc + 3) L S' h' cells slots) : ma_G D cl ad base p l e R s m args below meth c Q nL pc L S h cells slots := by
  obtain ⟨hx, hb, hml, hown, hts, hkn, had, hini, hcls, hsx, hsb⟩ := X
  simp only [ma_x] at hs
  split at hs
  next n dp b sp a S2 =>
    split at hs
    next n0 f n1 g ha hb1 =>
      split at hs
      next => cases hs
      next hz =>
        cases hs
        intro H locs ls hH hF hl hn
        have hz0 : (S'.map fun v => v.category).sum ≤ 8 := Nat.le_of_not_lt fun q => hz (Or.inl q)
        have hz1 : ¬ n < 0 := fun q => hz (Or.inr (Or.inl q))
        have hz2 : ¬ dp < 0 := fun q => hz (Or.inr (Or.inr (Or.inl q)))
        have hz3 : ¬ sp < 0 := fun q => hz (Or.inr (Or.inr (Or.inr (Or.inl q))))
        have hz4 : sp.toNatClampNeg + n.toNatClampNeg ≤ n0 := Nat.le_of_not_lt fun q => hz (Or.inr (Or.inr (Or.inr (Or.inr (Or.inl q)))))
        have hz5 : dp.toNatClampNeg + n.toNatClampNeg ≤ n1 := Nat.le_of_not_lt fun q => hz (Or.inr (Or.inr (Or.inr (Or.inr (Or.inr q)))))
        have eA := hH.adr had ha
        have eB := hH.adr had hb1
        obtain ⟨c0, p1, p2, hc0⟩ := hH.2.2 _ _ ha
        obtain ⟨c1, q1, q2, hc1⟩ := hH.2.2 _ _ hb1
        have nn : ∀ z : Int32, ¬ z < 0 → z.toInt = (z.toNatClampNeg : Int) := by
          intro z hz
          have hz0 : (0 : Int) ≤ z.toInt := by
            have := Int32.not_lt.mp hz
            simpa using Int32.le_iff_toInt_le.mp this
          show z.toInt = ((z.toInt.toNat : Nat) : Int)
          omega
        show W p l e R s m args below meth c H locs cells slots Q (F0 m pc ls (.int n :: .int dp :: .ref (ad b) :: .int sp :: .ref (ad a) :: S'.map (ma_va ad)))
        rw [eA, eB]
        intro T hT Xs
        have hc0 : H[base + a]? = some (arrV c0 n0 (fun j => .int (f j))) := hc0
        have hc1 : H[base + b]? = some (arrV c1 n1 (fun j => .int (g j))) := hc1
        obtain ⟨-, k0, hk0, cm0, hkk0⟩ := p1 n0 (fun j => .int (f j))
        obtain ⟨-, k1, hk1, cm1, hkk1⟩ := q1 n1 (fun j => .int (g j))
        have hnf := ma_nfw
        obtain ⟨vm', X', step⟩ := Xs.arraycopy hx hown (hts _ hlk.1) (hts _ hlk.2.1) (hts _ hlk.2.2.1) (hts _ hlk.2.2.2) (src := base + a) (dst := base + b) (cs := arrV c0 n0 (fun j => .int (f j))) (cd := arrV c1 n1 (fun j => .int (g j))) (srcPos := sp) (destPos := dp) (n := n) (by rw [hT]; exact hc0) (by rw [hT]; exact hc1)
          (fun _ h => by cases h) (fun _ h => by cases h) (fun h => by cases h) (fun h => by cases h) hk0 hk1 hkk0 hkk1 (by simp [ma_ty, refKind]) hz3 hz2 hz1
          (by rw [nn sp hz3, nn n hz1, arrV_size]; omega)
          (by rw [nn dp hz2, nn n hz1, arrV_size]; omega)
          (fun vm₁ _ i hi => by
            have e9 : (arrV c0 n0 (fun j => Value.int (f j))).slots.getD (sp.toNatClampNeg + i) .null = .int (f (sp.toNatClampNeg + i)) := by
              rw [Array.getD_eq_getD_getElem?, arrV_read _ _ (by omega)]
              rfl
            refine ⟨?_, ?_⟩
            · rw [e9]
              rfl
            · rw [e9]
              exact trivial)
          (g := F0 m pc ls (.int n :: .int dp :: .ref (base + b) :: .int sp :: .ref (base + a) :: S'.map (ma_va ad))) rfl (hl.1.trans hml.symm) (rest := S'.map (ma_va ad)) rfl (by rw [hb]; exact hdg) hR.1 (by rw [ma_sumv]; show 2 * 0 + _ + _ ≤ _; omega)
        have e1 : copied (arrV c0 n0 (fun j => .int (f j))) (arrV c1 n1 (fun j => .int (g j))) sp dp n = arrV c1 n1 (fun j => .int (va_cpy f g sp.toNatClampNeg dp.toNatClampNeg n.toNatClampNeg j)) := va_copied (fun z => .int z) c0 c1 f g hz4
        rw [e1] at X' step
        have hlt : base + b < H.size := (Array.getElem?_eq_some_iff.mp hc1).1
        have hheap : ((T.setVm vm').setCell (base + b) (arrV c1 n1 (fun j => .int (va_cpy f g sp.toNatClampNeg dp.toNatClampNeg n.toNatClampNeg j)))).heap = H.setIfInBounds (base + b) (arrV c1 n1 (fun j => .int (va_cpy f g sp.toNatClampNeg dp.toNatClampNeg n.toNatClampNeg j))) := by rw [← hT]; rfl
        have oq : ∀ q : Nat, q ≠ base + b → (H.setIfInBounds (base + b) (arrV c1 n1 (fun j => .int (va_cpy f g sp.toNatClampNeg dp.toNatClampNeg n.toNatClampNeg j))))[q]? = H[q]? := fun q hq => by simp [Array.getElem?_setIfInBounds, Ne.symm hq]
        obtain ⟨t, a1, b1⟩ := k _ _ ls (hH.set (by simp) oq ⟨c1, q1, q2, show (H.setIfInBounds (base + b) _)[base + b]? = some _ by simp [Array.getElem?_setIfInBounds, hlt]; rfl⟩) ⟨fun q g1 => (oq q (by omega)).trans (hF.1 q g1), fun q hq => by
            rcases List.mem_append.mp hq with h | h
            · exact hF.2 q h
            · obtain ⟨z, -, hz⟩ := List.mem_map.mp h
              rw [← hz]
              show base ≤ base + b
              omega⟩ hl hn _ hheap X'
        exact ⟨t, step t a1, b1⟩
    next => cases hs
  next => cases hs
end MX
end
section
/-! ===== an array of arrays ===== -/
section MY
variable {D : va_G} {cl : List vw_C} {ks : Nat → List Nat} {ad : Nat → Nat} {base : Nat} {G : List Jvm.Cond} {own : String} {ini : Bool} {p : Program} {l : Launch} {e : Env} {R : Room} {s : State} {m : MethodId} {args : Array Value} {below : List Frame} {meth : Method} {c : Code} {cc : ByteArray} {nL pc : Nat} {Q : State → Prop} {sc : Nat × (Nat → Int32)} {o : List Nat} {L : ma_L} {S S' : List Value} {h h' : List ma_C} {cells slots : Nat} {TF : State → Heap → Prop}
theorem ma_o_multi {x : Nat} {L' : ma_L} (X : ma_X D cl ks ad base sc G own ini p s m args meth c cc nL) (hdg : decode cc pc = .ok (.multianewarray x 2, 4)) (hlk : Jvm.Cond.classLink own x ("[" ++ (FieldType.array .int).toString) ∈ G ∧ Jvm.Cond.arrayOver (.array .int) ∈ G ∧ Jvm.Cond.arrayClass .int ∈ G)
    (hs : ma_s sc ks (.multianewarray x 2) o L S h = some (L', S', h')) (hce : cells + (h'.length - h.length) ≤ R.cells) (hsl : slots + (ma_sl h' - ma_sl h) ≤ R.slots) (k : ma_G D cl ad base p l e R s m args below meth c Q nL (pc + 4) L' S' h' (cells + (h'.length - h.length)) (slots + (ma_sl h' - ma_sl h))) : ma_G D cl ad base p l e R s m args below meth c Q nL pc L S h cells slots := by
  sorry
end MY
end
section
/-! ===== THE TRUE MACHINE FOLLOWS: every run of the list machine is one of the true machine ===== -/
/-- what an instruction needs of the tables -/
def ma_lk (cl : List vw_C) (ks : Nat → List Nat) (mt : Nat → Option ma_M) (G : List Jvm.Cond) (TK : String → Instr → List Nat → Prop) (own : String) (ini : Bool) (ret : Option FieldType) (pc : Nat) (i : Instr) (o : List Nat) : Prop :=
  match i with
  | .bipush n => (Int8.ofInt n).toInt32 = Int32.ofInt n
  | .sipush n => (Int16.ofInt n).toInt32 = Int32.ofInt n
  | .ldc x => (∀ v, o = [0, v] → Jvm.Cond.constant own x (Int32.ofNat v) ∈ G) ∧ ∀ v, o = [1, v] → TK own i o
  | .ldc_w x => ∀ v, o = [0, v] → Jvm.Cond.constant own x (Int32.ofNat v) ∈ G
  | .ldc2_w x => ∀ v, o = [v] → Jvm.Cond.constantLong own x (Int64.ofNat v) ∈ G
  | .getfield x => ∀ ci j r, o = ci :: j :: r → ma_fl cl G own x ci j
  | .putfield x => ∀ ci j t r, o = ci :: j :: t :: r → ma_fp cl G own ini x ci j ∧ (ks ci)[j]? = some t
  | .aastore => ∀ ci r, o = ci :: r → ∃ T N, cl[ci]? = some ("LetHorizon$Line", T, N)
  | .new x => ∀ ci r, o = ci :: r → ∃ C T N, cl[ci]? = some (C, T, N) ∧ Jvm.Cond.classLink own x C ∈ G ∧ Jvm.Cond.instantiable C N ∈ G ∧ Jvm.Cond.initialized C ∈ G
  | .newarray a => Jvm.Cond.arrayClass (newarray.typeOf a) ∈ G
  | .anewarray x => Jvm.Cond.classLink own x "LetHorizon$Line" ∈ G ∧ Jvm.Cond.arrayOver (.object "LetHorizon$Line") ∈ G
  | .multianewarray x _ => Jvm.Cond.classLink own x ("[" ++ (FieldType.array .int).toString) ∈ G ∧ Jvm.Cond.arrayOver (.array .int) ∈ G ∧ Jvm.Cond.arrayClass .int ∈ G
  | .nop => ma_jt pc i o
  | .goto _ => ma_jt pc i o
  | .if_icmp _ _ => ma_jt pc i o
  | .ifCond _ _ => ma_jt pc i o
  | .ifnull _ => ma_jt pc i o
  | .ifnonnull _ => ma_jt pc i o
  | .tableswitch _ _ _ _ => ma_jt pc i o
  | .invokevirtual _ => match o with
    | 0 :: _ => ma_ml mt G cl own i o
    | _ => TK own i o
  | .invokespecial x => match o with
    | 0 :: _ => ma_ml mt G cl own i o
    | _ => Jvm.Cond.methodLink own x Lib.objectInit ∈ G ∧ Jvm.Cond.instanceMethod Lib.objectInit ∈ G ∧ Jvm.Cond.code Lib.objectInit ⟨#[0xb1]⟩ 1 none ∈ G
  | .invokestatic x => match o with
    | 0 :: _ => ma_ml mt G cl own i o
    | _ => Jvm.Cond.methodLink own x arraycopyName ∈ G ∧ Jvm.Cond.native arraycopyName ∈ G ∧ Jvm.Cond.static arraycopyName ∈ G ∧ Jvm.Cond.initialized "java/lang/System" ∈ G
  | .ireturn => (o = [0] → ret = some .int) ∧ (o = [1] → ret = some .boolean)
  | .return_ => ret = none
  | .lreturn => ret = some .long
  | _ => True
def ma_ok (cl : List vw_C) (ks : Nat → List Nat) (mt : Nat → Option ma_M) (G : List Jvm.Cond) (TK : String → Instr → List Nat → Prop) (q : ma_M) : Nat → List ma_I → Prop
  | _, [] => True
  | pc, (i, o) :: is => (i = .nop ∨ decode q.2.1 pc = .ok (i, ma_ln pc i)) ∧ ma_lk cl ks mt G TK q.1.cls (q.1.name == "<init>") q.2.2.2.1 pc i o ∧ ma_ok cl ks mt G TK q (pc + ma_ln pc i) is
/-- texts, and the JDK's methods on them: what the walk asks of them -/
def ma_TX (D : va_G) (cl : List vw_C) (ks : Nat → List Nat) (ad : Nat → Nat) (base : Nat) (sc : Nat × (Nat → Int32)) (G : List Jvm.Cond) (TF : State → Heap → Prop) (TK : String → Instr → List Nat → Prop) (tx : Nat → Int32 → Option Int32) (l : Launch) : Prop :=
  ∀ {own : String} {ini : Bool} {p : Program} {e : Env} {R : Room} {s : State} {m : MethodId} {args : Array Value} {below : List Frame} {meth : Method} {c : Code} {cc : ByteArray} {nL pc : Nat} {Q : State → Prop} {H : Heap} {locs : List Loc} {ls : Array Slot} {cells slots : Nat} {i : Instr} {o : List Nat} {S S' : List Value},
    ma_X D cl ks ad base sc G own ini p s m args meth c cc nL → TF s s.heap → ma_F base s H locs → ls.size = nL → decode cc pc = .ok (i, ma_ln pc i) → TK own i o →
    ((∃ x v, i = .ldc x ∧ o = [1, v] ∧ S' = .ref (4097 + v) :: S) ∨ (10 ≤ R.frames ∧ 1000 ≤ R.locals ∧ ∃ x q h, i = .invokevirtual x ∧ (∀ r, o ≠ 0 :: r) ∧ ma_x tx i o S h = some (S', q))) →
    W p l e R s m args below meth c H locs cells slots Q (F0 m (pc + ma_ln pc i) ls (S'.map (ma_va ad))) → W p l e R s m args below meth c H locs cells slots Q (F0 m pc ls (S.map (ma_va ad)))
/-- the room for a run of depth d that makes so many cells -/
def ma_rm (d mc ms : Nat) : Room := { frames := d + 1, cells := mc, slots := ms, locals := 100 * (d + 1) }
section MM
variable {D : va_G} {cl : List vw_C} {ad : Nat → Nat} {base : Nat} {G : List Jvm.Cond} {l : Launch} {TF : State → Heap → Prop} {TK : String → Instr → List Nat → Prop} {mt : Nat → Option ma_M} {P : ma_P}
/-- a method's contract out of a run -/
def ma_Mt (D : va_G) (cl : List vw_C) (ad : Nat → Nat) (base : Nat) (G : List Jvm.Cond) (TF : State → Heap → Prop) (l : Launch) (P : ma_P) (q : ma_M) (d : Nat) (a : List Value) (h : List ma_C) (r : Option Value) (h' : List ma_C) : Prop :=
  Met l q.1 (Jvm.Cond.code q.1 q.2.1 q.2.2.1 q.2.2.2.1 :: G) (ma_rm d (h'.length - h.length) (ma_sl h' - ma_sl h)) (ma_Pc D cl ad base P.2.2.2.2 TF a h) (ma_Qc D cl ad base r h') (h'.length - h.length) (ma_sl h' - ma_sl h) (fun q => base ≤ q)
theorem ma_ret_int {D : va_G} {cl : List vw_C} {ad : Nat → Nat} {base : Nat} {p : Program} {l : Launch} {e : Env} {R : Room} {s : State} {m : MethodId} {args : Array Value} {below : List Frame} {meth : Method} {c : Code} {nL pc : Nat} {L : ma_L} {h : List ma_C} {cells slots : Nat} {i : Instr} {o : List Nat} {S : List Value} {r : Option Value} {cc : ByteArray} {ret : Option FieldType}
    (hx : p.tables.exec = Jvm.exec) (hb : c.code = cc) (hr : meth.sig.returnType = ret) (hlocks : meth.locks = false) (hdg : decode cc pc = .ok (i, ma_ln pc i)) (hlk : (o = [0] → i = .ireturn → ret = some .int) ∧ (o = [1] → i = .ireturn → ret = some .boolean) ∧ (i = .return_ → ret = none) ∧ (i = .lreturn → ret = some .long))
    (hs : ma_r i o S = some r) : ma_G D cl ad base p l e R s m args below meth c (MQ below (ma_Qc D cl ad base r h) args s cells slots (fun q => base ≤ q)) nL pc L S h cells slots := by
  intro H locs ls hH hF hl hn
  have hq : ∀ t : State, t.heap = H → s.WarmedH t.vm → ma_Qc D cl ad base r h args s (.returned (r.map (ma_va ad))) t := fun t ht hW => ⟨rfl, by rw [ht]; exact hH.moved hW.alike, fun q hq => by rw [ht]; exact hF.1 q hq⟩
  unfold ma_r at hs
  split at hs
  · cases hs
    exact W.iret hx hb (hr.trans (hlk.1 rfl rfl)) hq hF.2 hdg hlocks
  · split at hs
    next hz =>
      cases hs
      refine W.zret hx hb (hr.trans (hlk.2.1 rfl rfl)) ?_ hq hF.2 hdg hlocks
      rcases hz with rfl | rfl <;> decide +kernel
    next => cases hs
  · cases hs
    exact W.lret hx hb (hr.trans (hlk.2.2.2 rfl)) hq hF.2 hdg hlocks
  · cases hs
    exact W.vret hx hb (hr.trans (hlk.2.2.1 rfl)) hq hF.2 hdg hlocks
  · cases hs
end MM
end
section
/-! ===== all plain instructions together, and the induction ===== -/
def ma_al : Instr → Bool
  | .new _ | .newarray _ | .anewarray _ | .multianewarray _ _ => true
  | _ => false
theorem ma_s_eq {sc : Nat × (Nat → Int32)} {ks : Nat → List Nat} {i : Instr} {o : List Nat} {L L' : ma_L} {S S' : List Value} {h h' : List ma_C} (ha : ma_al i = false) (hs : ma_s sc ks i o L S h = some (L', S', h')) : h'.length = h.length ∧ ma_sl h' = ma_sl h := by
  unfold ma_s at hs
  repeat' split at hs
  all_goals first
    | (cases hs; done)
    | (cases ha; done)
    | (cases hs; exact ⟨rfl, rfl⟩)
    | (cases hs; rename_i hk _; exact ⟨by simp, ma_sl_set hk rfl⟩)
    | (cases hs; rename_i hk _; exact ⟨by simp, ma_sl_set hk (by simp [ma_cz])⟩)
    | (cases hs; rename_i hk _ _; exact ⟨by simp, ma_sl_set hk rfl⟩)
section MA
variable {D : va_G} {cl : List vw_C} {ks : Nat → List Nat} {ad : Nat → Nat} {base : Nat} {G : List Jvm.Cond} {own : String} {ini : Bool} {p : Program} {l : Launch} {e : Env} {R : Room} {s : State} {m : MethodId} {args : Array Value} {below : List Frame} {meth : Method} {c : Code} {cc : ByteArray} {nL pc : Nat} {Q : State → Prop} {sc : Nat × (Nat → Int32)} {o : List Nat} {L L' : ma_L} {S S' : List Value} {h h' : List ma_C} {cells slots : Nat} {TF : State → Heap → Prop} {TK : String → Instr → List Nat → Prop} {mt : Nat → Option ma_M} {tx : Nat → Int32 → Option Int32} {ret : Option FieldType}
theorem ma_s_all {i : Instr} (X : ma_X D cl ks ad base sc G own ini p s m args meth c cc nL) (hT : TF s s.heap) (hTX : ma_TX D cl ks ad base sc G TF TK tx l) (hdg : decode cc pc = .ok (i, ma_ln pc i)) (hlk : ma_lk cl ks mt G TK own ini ret pc i o) (hs : ma_s sc ks i o L S h = some (L', S', h')) (hce : cells + (h'.length - h.length) ≤ R.cells) (hsl : slots + (ma_sl h' - ma_sl h) ≤ R.slots)
    (k : ma_G D cl ad base p l e R s m args below meth c Q nL (pc + ma_ln pc i) L' S' h' (cells + (h'.length - h.length)) (slots + (ma_sl h' - ma_sl h))) : ma_G D cl ad base p l e R s m args below meth c Q nL pc L S h cells slots := by
  have kE : ma_al i = false → ma_G D cl ad base p l e R s m args below meth c Q nL (pc + ma_ln pc i) L' S' h' cells slots := by
    intro ha
    obtain ⟨e1, e2⟩ := ma_s_eq ha hs
    rw [e1, e2, Nat.sub_self, Nat.sub_self] at k
    exact k
  cases i with
  | lconst _ => exact ma_o_lconst X hdg hs (kE rfl)
  | aconst_null => exact ma_o_null X hdg hs (kE rfl)
  | iload _ => exact ma_o_iload X hdg hs (kE rfl)
  | iload_n _ => exact ma_o_iload_n X hdg hs (kE rfl)
  | lload _ => exact ma_o_lload X hdg hs (kE rfl)
  | lload_n _ => exact ma_o_lload_n X hdg hs (kE rfl)
  | aload _ => exact ma_o_aload X hdg hs (kE rfl)
  | aload_n _ => exact ma_o_aload_n X hdg hs (kE rfl)
  | istore _ => exact ma_o_istore X hdg hs (kE rfl)
  | istore_n _ => exact ma_o_istore_n X hdg hs (kE rfl)
  | lstore _ => exact ma_o_lstore X hdg hs (kE rfl)
  | lstore_n _ => exact ma_o_lstore_n X hdg hs (kE rfl)
  | astore _ => exact ma_o_astore X hdg hs (kE rfl)
  | astore_n _ => exact ma_o_astore_n X hdg hs (kE rfl)
  | iinc _ _ => exact ma_o_iinc X hdg hs (kE rfl)
  | iadd => exact ma_o_iadd X hdg hs (kE rfl)
  | isub => exact ma_o_isub X hdg hs (kE rfl)
  | imul => exact ma_o_imul X hdg hs (kE rfl)
  | iand => exact ma_o_iand X hdg hs (kE rfl)
  | ior => exact ma_o_ior X hdg hs (kE rfl)
  | ixor => exact ma_o_ixor X hdg hs (kE rfl)
  | idiv => exact ma_o_idiv X hdg hs (kE rfl)
  | irem => exact ma_o_irem X hdg hs (kE rfl)
  | ineg => exact ma_o_ineg X hdg hs (kE rfl)
  | ishl => exact ma_o_ishl X hdg hs (kE rfl)
  | ishr => exact ma_o_ishr X hdg hs (kE rfl)
  | iushr => exact ma_o_iushr X hdg hs (kE rfl)
  | ladd => exact ma_o_ladd X hdg hs (kE rfl)
  | land => exact ma_o_land X hdg hs (kE rfl)
  | lshl => exact ma_o_lshl X hdg hs (kE rfl)
  | lshr => exact ma_o_lshr X hdg hs (kE rfl)
  | lcmp => exact ma_o_lcmp X hdg hs (kE rfl)
  | i2l => exact ma_o_i2l X hdg hs (kE rfl)
  | l2i => exact ma_o_l2i X hdg hs (kE rfl)
  | i2b => exact ma_o_i2b X hdg hs (kE rfl)
  | i2c => exact ma_o_i2c X hdg hs (kE rfl)
  | dup => exact ma_o_dup X hdg hs (kE rfl)
  | dup2 => exact ma_o_dup2 X hdg hs (kE rfl)
  | pop => exact ma_o_pop X hdg hs (kE rfl)
  | arraylength => exact ma_o_arraylength X hdg hs (kE rfl)
  | iaload => exact ma_o_iaload X hdg hs (kE rfl)
  | baload => exact ma_o_baload X hdg hs (kE rfl)
  | laload => exact ma_o_laload X hdg hs (kE rfl)
  | aaload => exact ma_o_aaload X hdg hs (kE rfl)
  | iastore => exact ma_o_iastore X hdg hs (kE rfl)
  | bastore => exact ma_o_bastore X hdg hs (kE rfl)
  | lastore => exact ma_o_lastore X hdg hs (kE rfl)
  | iconst _ => exact ma_o_iconst X hdg hs (kE rfl)
  | bipush n => exact ma_o_bipush X hdg hlk hs (kE rfl)
  | sipush n => exact ma_o_sipush X hdg hlk hs (kE rfl)
  | ldc x => exact ma_o_ldc X hdg hlk.1 (fun v hv H locs ls hH hF hsz kk => hTX X hT hF hsz hdg (hlk.2 v hv) (Or.inl ⟨x, v, rfl, hv, rfl⟩) kk) hs (kE rfl)
  | ldc_w x => exact ma_o_ldc_w X hdg hlk hs (kE rfl)
  | ldc2_w x => exact ma_o_ldc2_w X hdg hlk hs (kE rfl)
  | getfield x => exact ma_o_getfield X hdg hlk hs (kE rfl)
  | putfield x => exact ma_o_putfield X hdg hlk hs (kE rfl)
  | aastore => exact ma_o_aastore X hdg hlk hs (kE rfl)
  | new x =>
    have hq : ∃ ci r, o = ci :: r ∧ h' = h ++ [.inr (ci, ma_df (ks ci))] := by
      simp only [ma_s] at hs
      split at hs
      next ci r =>
        split at hs
        next => cases hs
        next => cases hs; exact ⟨ci, r, rfl, rfl⟩
      next => cases hs
    obtain ⟨ci, r, rfl, rfl⟩ := hq
    have e1 : (h ++ [Sum.inr (ci, ma_df (ks ci))] : List ma_C).length - h.length = 1 := by simp
    have e2 : ma_sl (h ++ [Sum.inr (ci, ma_df (ks ci))]) - ma_sl h = (ks ci).length := by rw [ma_sl_app]; simp [ma_sl, ma_cz, ma_df]
    rw [e1] at hce k
    rw [e2] at hsl k
    exact ma_o_new X hdg hlk hce (fun ci' r' q hq _ => by cases hq; exact hsl) (fun ci' r' hq => by cases hq; rfl) hs k
  | newarray a =>
    have hq : ∃ t n S2, S = .int n :: S2 ∧ h' = h ++ [.inl (t, n.toNatClampNeg, ma_new t)] := by
      simp only [ma_s] at hs
      split at hs
      next t n S2 _ =>
        split at hs
        next => cases hs
        next => cases hs; exact ⟨t, n, _, rfl, rfl⟩
      next => cases hs
    obtain ⟨t, n, S2, rfl, rfl⟩ := hq
    have e1 : (h ++ [Sum.inl (t, n.toNatClampNeg, ma_new t)] : List ma_C).length - h.length = 1 := by simp
    have e2 : ma_sl (h ++ [Sum.inl (t, n.toNatClampNeg, ma_new t)]) - ma_sl h = n.toNatClampNeg := by rw [ma_sl_app]; simp [ma_sl, ma_cz]
    rw [e1] at hce k
    rw [e2] at hsl k
    exact ma_o_newarray X hdg hlk hce (fun n' S' hq => by cases hq; exact hsl) (fun n' S' hq => by cases hq; rfl) hs k
  | anewarray x =>
    have hq : ∃ n S2, S = .int n :: S2 ∧ h' = h ++ [.inl (3, n.toNatClampNeg, ma_new 3)] := by
      simp only [ma_s] at hs
      split at hs
      next n S2 =>
        split at hs
        next => cases hs
        next => cases hs; exact ⟨n, _, rfl, rfl⟩
      next => cases hs
    obtain ⟨n, S2, rfl, rfl⟩ := hq
    have e1 : (h ++ [Sum.inl (3, n.toNatClampNeg, ma_new 3)] : List ma_C).length - h.length = 1 := by simp
    have e2 : ma_sl (h ++ [Sum.inl (3, n.toNatClampNeg, ma_new 3)]) - ma_sl h = n.toNatClampNeg := by rw [ma_sl_app]; simp [ma_sl, ma_cz]
    rw [e1] at hce k
    rw [e2] at hsl k
    exact ma_o_anewarray X hdg hlk hce (fun n' S' hq => by cases hq; exact hsl) (fun n' S' hq => by cases hq; rfl) hs k
  | multianewarray x dd =>
    by_cases hd : dd = 2
    · subst hd
      exact ma_o_multi X hdg hlk hs hce hsl k
    · exfalso
      unfold ma_s at hs
      split at hs <;> first | (cases hs; done) | (rename_i hq; cases hq; done) | (rename_i hq; cases hq; exact absurd rfl hd)
  | _ => exact absurd hs (by simp [ma_s])
end MA
end
section
/-! ===== the induction over runs ===== -/
theorem ma_ent_lv {ad : Nat → Nat} : ∀ (a : List Value) (i0 i : Nat) (v : Value), (ma_ent a)[i]? = some (some v) → (i0 + i, ma_va ad v) ∈ lv_args i0 (a.map (ma_va ad))
  | [], i0, i, v, h => by simp [ma_ent] at h
  | x :: a, i0, i, v, h => by
    simp only [List.map_cons, lv_args, ma_va_cat]
    unfold ma_ent at h
    split at h
    next hc =>
      rw [if_pos hc]
      match i, h with
      | 0, h => simp at h; subst h; exact List.mem_cons_self
      | 1, h => simp at h
      | i + 2, h =>
        have := ma_ent_lv (ad := ad) a (i0 + 2) i v (by simpa using h)
        rw [show i0 + (i + 2) = i0 + 2 + i by omega]
        exact List.mem_cons_of_mem _ this
    next hc =>
      rw [if_neg hc]
      match i, h with
      | 0, h => simp at h; subst h; exact List.mem_cons_self
      | i + 1, h =>
        have := ma_ent_lv (ad := ad) a (i0 + 1) i v (by simpa using h)
        rw [show i0 + (i + 1) = i0 + 1 + i by omega]
        exact List.mem_cons_of_mem _ this
theorem ma_ent_len (ad : Nat → Nat) : ∀ (a : List Value), (lg_sl (a.map (ma_va ad))).length = (ma_ent a).length
  | [] => rfl
  | x :: a => by
    have ih := ma_ent_len ad a
    simp only [List.map_cons, lg_sl, List.flatMap_cons, ma_va_cat, ma_ent, List.length_append] at ih ⊢
    split <;> simp [ih] <;> omega
theorem ma_en_lv {ad : Nat → Nat} {a : List Value} {n : Nat} (h : (ma_ent a).length ≤ n) : lv_has ((lg_sl (a.map (ma_va ad)) ++ List.replicate (n - (lg_sl (a.map (ma_va ad))).length) Slot.unset).toArray) n (ma_lv ad (ma_en a n)) := by
  have h1 := lv_entry (a.map (ma_va ad)) (n := n) (by rw [ma_ent_len]; exact h)
  refine ⟨h1.1, h1.2.1, fun q hq => h1.2.2 q ?_⟩
  obtain ⟨v, g1, -, g3⟩ := ma_lv_mem.mp hq
  unfold ma_en at g1
  have hlt : q.1 < (ma_ent a).length := by
    rcases Nat.lt_or_ge q.1 (ma_ent a).length with z | z
    · exact z
    · rw [List.getElem?_append_right z] at g1
      have := List.eq_of_mem_replicate (List.mem_of_getElem? g1)
      cases this
  rw [List.getElem?_append_left hlt] at g1
  have := ma_ent_lv (ad := ad) a 0 q.1 v g1
  rw [Nat.zero_add, ← g3] at this
  exact this
theorem ma_en_len {a : List Value} {n : Nat} (h : (ma_ent a).length ≤ n) : (ma_en a n).length = n := by
  unfold ma_en
  rw [List.length_append, List.length_replicate]
  omega
/-- what is asked of a program and of the tables, once -/
def ma_All (D : va_G) (cl : List vw_C) (ad : Nat → Nat) (base : Nat) (G : List Jvm.Cond) (TF : State → Heap → Prop) (TK : String → Instr → List Nat → Prop) (l : Launch) (mt : Nat → Option ma_M) (P : ma_P) : Prop :=
  ma_TF base TF ∧ (∀ w ∈ G, ((w.onTables && w.keeps) = true ∨ ∃ ty, w = Jvm.Cond.arrayClass ty)) ∧ ma_TX D cl P.2.2.1 ad base P.2.2.2.2 G TF TK P.2.2.2.1 l ∧ (∀ k, k < 4096 → ad k = base + k) ∧ ma_cls cl P.2.2.1 G ∧ ad 4096 < base ∧
  ∀ (m : Nat) (q : ma_M), mt m = some q → plainName q.1.cls = true ∧ P.2.1 m = q.2.2.1 ∧ q.2.2.1 ≤ 80 ∧ ∀ t, ma_ok cl P.2.2.1 mt G TK q t (P.1 m t)
section MZ
variable {D : va_G} {cl : List vw_C} {ad : Nat → Nat} {base : Nat} {G : List Jvm.Cond} {l : Launch} {TF : State → Heap → Prop} {TK : String → Instr → List Nat → Prop} {mt : Nat → Option ma_M} {P : ma_P}
/-- the walk of a frame, from a state of the list machine on -/
def ma_Wk (D : va_G) (cl : List vw_C) (ad : Nat → Nat) (base : Nat) (G : List Jvm.Cond) (TF : State → Heap → Prop) (TK : String → Instr → List Nat → Prop) (l : Launch) (mt : Nat → Option ma_M) (P : ma_P) (d m' : Nat) (is : List ma_I) (L : ma_L) (S : List Value) (h : List ma_C) (r : Option Value) (hE : List ma_C) : Prop :=
  ∀ (q : ma_M) (p : Program) (e : Env) (R : Room) (s : State) (m : MethodId) (args : Array Value) (below : List Frame) (meth : Method) (c : Code) (Q : State → Prop) (pc : Nat) (h0 : List ma_C), mt m' = some q →
    ma_X D cl P.2.2.1 ad base P.2.2.2.2 G q.1.cls (q.1.name == "<init>") p s m args meth c q.2.1 q.2.2.1 → TF s s.heap → ma_ok cl P.2.2.1 mt G TK q pc is → d + 1 ≤ R.frames → 100 * (d + 1) ≤ R.locals → ma_le h0 h → hE.length - h0.length ≤ R.cells → ma_sl hE - ma_sl h0 ≤ R.slots →
    (∀ (i : Instr) (o : List Nat) (S2 : List Value) (L2 : ma_L) (pc2 : Nat), ma_r i o S2 = some r → decode q.2.1 pc2 = .ok (i, ma_ln pc2 i) → ma_lk cl P.2.2.1 mt G TK q.1.cls (q.1.name == "<init>") q.2.2.2.1 pc2 i o → ma_G D cl ad base p l e R s m args below meth c Q q.2.2.1 pc2 L2 S2 hE (hE.length - h0.length) (ma_sl hE - ma_sl h0)) →
    ma_G D cl ad base p l e R s m args below meth c Q q.2.2.1 pc L S h (h.length - h0.length) (ma_sl h - ma_sl h0)
theorem ma_Wk.met (A : ma_All D cl ad base G TF TK l mt P) {d m' : Nat} {q : ma_M} {a : List Value} {h : List ma_C} {r : Option Value} {hE : List ma_C} (hq : mt m' = some q) (hlen : (ma_ent a).length ≤ q.2.2.1)
    (w : ma_Wk D cl ad base G TF TK l mt P d m' (P.1 m' 0) (ma_en a q.2.2.1) [] h r hE) : ma_Mt D cl ad base G TF l P q d a h r hE := by
  obtain ⟨hTF, hGood, hTX, had, hcls, hsb, hB⟩ := A
  obtain ⟨hpl, hmx, hmx2, hbl⟩ := hB _ _ hq
  refine Met.ofW (cc := q.2.1) (maxL := q.2.2.1) (ret := q.2.2.2.1) hpl rfl ?_
  intro p e s m args below meth c s₁ B hml hv
  obtain ⟨rfl, hH, hkn, hsx, hT⟩ := hv
  have hts0 := atoms_spec (ws := Jvm.Cond.code q.1 q.2.1 q.2.2.1 q.2.2.2.1 :: G) B.pre
  have X : ma_X D cl P.2.2.1 ad base P.2.2.2.2 G q.1.cls (q.1.name == "<init>") p s m (a.map (ma_va ad)).toArray meth c q.2.1 q.2.2.1 := ⟨B.exec, B.bytes, hml, findClass_of_methodNamed B.named, fun w hw => hts0 w (List.mem_cons_of_mem _ hw), hkn, had, fun hi => (name_of_methodNamed B.named B.method).1.trans (eq_of_beq hi), hcls, hsx, hsb⟩
  have g := w q p e (headSpec (Jvm.Cond.code q.1 q.2.1 q.2.2.1 q.2.2.2.1 :: G) (ma_rm d (hE.length - h.length) (ma_sl hE - ma_sl h))).room s m _ below meth c (MQ below (ma_Qc D cl ad base r hE) (a.map (ma_va ad)).toArray s (hE.length - h.length) (ma_sl hE - ma_sl h) (fun q => base ≤ q)) 0 h hq X hT (hbl 0) (Nat.le_refl _) (Nat.le_refl _) ma_le.rf (Nat.le_refl _) (Nat.le_refl _) (fun i o S2 L2 pc2 z1 z2 z3 => ?_)
  · rw [Nat.sub_self, Nat.sub_self] at g
    rw [lg_entry_eq]
    exact g s.heap [] _ hH ⟨fun _ _ => rfl, fun _ z => by cases z⟩ (ma_en_lv hlen) (ma_en_len hlen)
  · refine ma_ret_int B.exec B.bytes B.returns B.notSynchronized z2 ⟨fun e1 e2 => ?_, fun e1 e2 => ?_, fun e2 => ?_, fun e2 => ?_⟩ z1
    · subst e2; exact z3.1 e1
    · subst e2; exact z3.2 e1
    · subst e2; exact z3
    · subst e2; exact z3
theorem ma_xv_same {tx : Nat → Int32 → Option Int32} {x : Nat} {o : List Nat} {S S' : List Value} {h h' : List ma_C} (hs : ma_x tx (.invokevirtual x) o S h = some (S', h')) : h' = h := by
  unfold ma_x at hs
  repeat' split at hs
  all_goals first
    | (cases hs; done)
    | contradiction
    | (cases hs; rfl)
set_option maxHeartbeats 4000000 in
theorem ma_sound (A : ma_All D cl ad base G TF TK l mt P) : ∀ (n d m' : Nat) (is : List ma_I) (L : ma_L) (S : List Value) (h : List ma_C) (r : Option Value) (hE : List ma_C), ma_run P n d m' is L S h = some (r, hE) → ma_Wk D cl ad base G TF TK l mt P d m' is L S h r hE
  | 0, _, _, _, _, _, _, _, _, hr => by simp [ma_run] at hr
  | n + 1, d, m', [], L, S, h, r, hE, hr => by simp [ma_run] at hr
  | n + 1, d, m', (i, o) :: is, L, S, h, r, hE, hr => by
    intro q p e R s m args below meth c Q pc h0 hq X hT hok hfr hlo hle hce hsl hend
    obtain ⟨hTF, hGood, hTX, had, hcls, hsb, hB⟩ := id A
    obtain ⟨hpl, hmx, hmx2, hbl⟩ := hB _ _ hq
    obtain ⟨hdg, hlk, hok2⟩ := hok
    unfold ma_run at hr
    split at hr
    next hk =>
      have hdg : decode q.2.1 pc = .ok (i, ma_ln pc i) := hdg.resolve_left (fun z => by subst z; cases hk)
      split at hr
      next L1 S1 h1 hs =>
        have l1 := ma_s_le hs
        have l2 := ma_run_le _ _ _ _ _ _ _ _ _ hr
        have g := ma_sound A n d m' is L1 S1 h1 r hE hr q p e R s m args below meth c Q (pc + ma_ln pc i) h0 hq X hT hok2 hfr hlo (hle.tr l1) hce hsl hend
        refine ma_s_all (cells := h.length - h0.length) (slots := ma_sl h - ma_sl h0) X hT hTX hdg hlk hs ?_ ?_ ?_
        · have := l1.1; have := l2.1; have := hle.1; omega
        · have := l1.2; have := l2.2; have := hle.2; omega
        · rw [show h.length - h0.length + (h1.length - h.length) = h1.length - h0.length by have := l1.1; have := hle.1; omega, show ma_sl h - ma_sl h0 + (ma_sl h1 - ma_sl h) = ma_sl h1 - ma_sl h0 by have := l1.2; have := hle.2; omega]
          exact g
      next => cases hr
    next hk =>
      have hjt : ma_jt pc i o := by
        unfold ma_k at hk
        split at hk <;> first | exact hlk | cases hk
      split at hr
      next t S1 hs =>
        exact ma_o_j X hdg hjt hs (ma_sound A n d m' _ L S1 h r hE hr q p e R s m args below meth c Q t h0 hq X hT (hbl t) hfr hlo hle hce hsl hend)
      next S1 hs =>
        exact ma_o_j X hdg hjt hs (ma_sound A n d m' _ L S1 h r hE hr q p e R s m args below meth c Q (pc + ma_ln pc i) h0 hq X hT hok2 hfr hlo hle hce hsl hend)
      next => cases hr
    next hk =>
      have hdg : decode q.2.1 pc = .ok (i, ma_ln pc i) := hdg.resolve_left (fun z => by subst z; cases hk)
      have hml : ma_ml mt G cl q.1.cls i o ∧ ma_ln pc i = 3 := by
        unfold ma_k at hk
        split at hk <;> first | exact ⟨hlk, rfl⟩ | cases hk
      split at hr
      next m2 a S1 hc =>
        split at hr
        next => cases hr
        next hlen =>
          split at hr
          next => cases hr
          next d1 =>
            split at hr
            next r1 h1 hs =>
              have l1 := ma_run_le _ _ _ _ _ _ _ _ _ hs
              have l2 := ma_run_le _ _ _ _ _ _ _ _ _ hr
              have g := ma_sound A n (d1 + 1) m' is L _ h1 r hE hr q p e R s m args below meth c Q (pc + ma_ln pc i) h0 hq X hT hok2 hfr hlo (hle.tr l1) hce hsl hend
              have w := ma_sound A n d1 m2 _ _ _ h r1 h1 hs
              refine ma_o_call (mt := mt) (h' := h1) (r := r1) (mc := h1.length - h.length) (ms := ma_sl h1 - ma_sl h) (rm := ma_rm d1 (h1.length - h.length) (ma_sl h1 - ma_sl h)) hTF hGood X hT hdg hml.1 hc (fun y bytes maxL ret st hmt => ?_) ?_ ?_ ?_
              · obtain ⟨-, hmx', hmx2', -⟩ := hB _ _ hmt
                have hmt' : P.2.1 m2 = maxL := hmx'
                have hle80 : maxL ≤ 80 := hmx2'
                rw [hmt'] at hlen w
                have hmet : ma_Mt D cl ad base G TF l P (y, bytes, maxL, ret, st) d1 a h r1 h1 := ma_Wk.met A hmt (Nat.le_of_not_lt hlen) w
                have hlo' : 100 * (d1 + 1 + 1) ≤ R.locals := hlo
                exact ⟨hmet, rfl, rfl, hfr, by show 8 + (maxL + 11) + 100 * (d1 + 1) ≤ R.locals; omega⟩
              · have := l1.1; have := l2.1; have := hle.1; omega
              · have := l1.2; have := l2.2; have := hle.2; omega
              · rw [show h.length - h0.length + (h1.length - h.length) = h1.length - h0.length by have := l1.1; have := hle.1; omega, show ma_sl h - ma_sl h0 + (ma_sl h1 - ma_sl h) = ma_sl h1 - ma_sl h0 by have := l1.2; have := hle.2; omega]
                rw [hml.2] at g
                exact g
            next => cases hr
      next => cases hr
    next hk =>
      have hdg : decode q.2.1 pc = .ok (i, ma_ln pc i) := hdg.resolve_left (fun z => by subst z; cases hk)
      split at hr
      next r1 hs =>
        cases hr
        exact hend i o S L pc hs hdg hlk
      next => cases hr
    next hk0 hk1 hk2 hk3 =>
      have hdg : decode q.2.1 pc = .ok (i, ma_ln pc i) := hdg.resolve_left (fun z => by subst z; exact hk1 rfl)
      split at hr
      next S1 h1 hs =>
        split at hs
        next => cases hs
        next hd9 =>
          have l1 := ma_x_le hs
          have l2 := ma_run_le _ _ _ _ _ _ _ _ _ hr
          have g := ma_sound A n d m' is L S1 h1 r hE hr q p e R s m args below meth c Q (pc + ma_ln pc i) h0 hq X hT hok2 hfr hlo (hle.tr l1) hce hsl hend
          have hR : 1 ≤ R.frames ∧ 100 ≤ R.locals := ⟨by omega, by omega⟩
          cases i with
          | invokevirtual x =>
            have e1 := ma_xv_same hs
            subst e1
            have hTK : TK q.1.cls (.invokevirtual x) o ∧ ∀ r, o ≠ 0 :: r := by
              cases o with
              | nil => exact ⟨hlk, fun r z => by cases z⟩
              | cons a o =>
                cases a with
                | zero => exact absurd rfl hk2
                | succ a => exact ⟨hlk, fun r z => by cases z⟩
            intro H locs ls hH hF hl hn
            exact hTX X hT hF hl.1 hdg hTK.1 (Or.inr ⟨by omega, by omega, x, _, _, rfl, hTK.2, hs⟩) (g H locs ls hH hF hl hn)
          | invokespecial x =>
            have ho : o = [1] := by
              unfold ma_x at hs
              split at hs <;> first | rfl | (cases hs; done) | (rename_i z; cases z; done) | (rename_i z _; cases z; rfl) | (rename_i z _ _; cases z; done)
            subst ho
            have hh : h1 = h := by
              simp only [ma_x] at hs
              split at hs
              · split at hs
                · cases hs
                · cases hs; rfl
              · cases hs
            subst hh
            exact ma_o_obj X hdg hlk hR hs g
          | invokestatic x =>
            have ho : o = [2] := by
              unfold ma_x at hs
              split at hs <;> first | rfl | (cases hs; done) | (rename_i z; cases z; done) | (rename_i z _; cases z; rfl) | (rename_i z _ _; cases z; done)
            subst ho
            have hh : h1.length = h.length ∧ ma_sl h1 = ma_sl h := by
              simp only [ma_x] at hs
              split at hs
              · split at hs
                next n0 f n1 g2 ha hb1 =>
                  split at hs
                  · cases hs
                  · cases hs
                    exact ⟨by simp, ma_sl_set hb1 rfl⟩
                next => cases hs
              · cases hs
            rw [hh.1, hh.2] at g
            exact ma_o_copy X hdg hlk hR hs g
          | _ => exact absurd rfl (by first | exact hk0 | exact hk1 | exact hk3)
      next => cases hr
end MZ
end
section
/-! ===== the value of a run, without counting steps: equations ===== -/
theorem ma_mono {P : ma_P} : ∀ (n d m : Nat) (is : List ma_I) (L : ma_L) (S : List Value) (h : List ma_C) (v : Option Value × List ma_C), ma_run P n d m is L S h = some v → ma_run P (n + 1) d m is L S h = some v
  | 0, _, _, _, _, _, _, _, hr => by simp [ma_run] at hr
  | n + 1, d, m, [], L, S, h, v, hr => by simp [ma_run] at hr
  | n + 1, d, m, (i, o) :: is, L, S, h, v, hr => by
    unfold ma_run at hr ⊢
    split at hr
    next hk =>
      split at hr
      next L1 S1 h1 hs => exact ma_mono n _ _ _ _ _ _ _ hr
      next => cases hr
    next hk =>
      split at hr
      next t S1 hs => exact ma_mono n _ _ _ _ _ _ _ hr
      next S1 hs => exact ma_mono n _ _ _ _ _ _ _ hr
      next => cases hr
    next hk =>
      split at hr
      next m2 a S1 hs =>
        split at hr
        next => cases hr
        next hz =>
          rw [if_neg hz]
          split at hr
          next => cases hr
          next d1 =>
            split at hr
            next r1 h1 h2 =>
              have := ma_mono n _ _ _ _ _ _ _ h2
              simp only [this]
              exact ma_mono n _ _ _ _ _ _ _ hr
            next => cases hr
      next => cases hr
    next hk =>
      exact hr
    next h0 h1 h2 h3 =>
      split at hr
      next S1 h1 hs => exact ma_mono n _ _ _ _ _ _ _ hr
      next => cases hr
theorem ma_mono2 {P : ma_P} {n k d m : Nat} {is : List ma_I} {L : ma_L} {S : List Value} {h : List ma_C} {v : Option Value × List ma_C} (hr : ma_run P n d m is L S h = some v) (hk : n ≤ k) : ma_run P k d m is L S h = some v := by
  obtain ⟨j, rfl⟩ : ∃ j, k = n + j := ⟨k - n, by omega⟩
  clear hk
  induction j with
  | zero => exact hr
  | succ j ih => exact ma_mono _ _ _ _ _ _ _ _ ih
theorem rv_ex (P : ma_P) (d m : Nat) (is : List ma_I) (L : ma_L) (S : List Value) (h : List ma_C) : ∃ r : Option (Option Value × List ma_C), ∀ v, r = some v ↔ ∃ n, ma_run P n d m is L S h = some v := by
  by_cases hh : ∃ v n, ma_run P n d m is L S h = some v
  · obtain ⟨v, n, hn⟩ := hh
    refine ⟨some v, fun w => ⟨fun e => ?_, fun ⟨k, hk⟩ => ?_⟩⟩
    · cases e; exact ⟨n, hn⟩
    · have a := ma_mono2 hn (Nat.le_max_left n k)
      have b := ma_mono2 hk (Nat.le_max_right n k)
      exact a.symm.trans b
  · refine ⟨none, fun w => ⟨fun e => (by cases e), fun ⟨k, hk⟩ => absurd ⟨w, k, hk⟩ hh⟩⟩
noncomputable def rv (P : ma_P) (d m : Nat) (is : List ma_I) (L : ma_L) (S : List Value) (h : List ma_C) : Option (Option Value × List ma_C) := Classical.choose (rv_ex P d m is L S h)
theorem rv_iff {P : ma_P} {d m : Nat} {is : List ma_I} {L : ma_L} {S : List Value} {h : List ma_C} {v : Option Value × List ma_C} : rv P d m is L S h = some v ↔ ∃ n, ma_run P n d m is L S h = some v := Classical.choose_spec (rv_ex P d m is L S h) v
/-- a call's value -/
noncomputable def cv (P : ma_P) (d m : Nat) (a : List Value) (h : List ma_C) : Option (Option Value × List ma_C) := rv P d m (P.1 m 0) (ma_en a (P.2.1 m)) [] h
section RV
variable {P : ma_P} {d m : Nat} {is : List ma_I} {L L' : ma_L} {S S' : List Value} {h h' : List ma_C} {i : Instr} {o : List Nat}
theorem rv_step {d' m' : Nat} {is' : List ma_I} (e : ∀ n, ma_run P (n + 1) d m is L S h = ma_run P n d' m' is' L' S' h') : rv P d m is L S h = rv P d' m' is' L' S' h' := by
  apply Option.ext
  intro v
  rw [rv_iff, rv_iff]
  constructor
  · rintro ⟨n, hn⟩
    cases n with
    | zero => simp [ma_run] at hn
    | succ n => exact ⟨n, (e n).symm.trans hn⟩
  · rintro ⟨n, hn⟩
    exact ⟨n + 1, (e n).trans hn⟩
theorem rv_s (hk : ma_k i o = 0) (hs : ma_s P.2.2.2.2 P.2.2.1 i o L S h = some (L', S', h')) : rv P d m ((i, o) :: is) L S h = rv P d m is L' S' h' :=
  rv_step fun n => by rw [ma_run, hk]; simp only [hs]
theorem rv_none (hr : ∀ n, ma_run P n d m is L S h = none) : rv P d m is L S h = none := by
  cases e : rv P d m is L S h with
  | none => rfl
  | some v =>
    obtain ⟨n, hn⟩ := rv_iff.mp e
    rw [hr n] at hn
    cases hn
theorem rv_sn (hk : ma_k i o = 0) (hs : ma_s P.2.2.2.2 P.2.2.1 i o L S h = none) : rv P d m ((i, o) :: is) L S h = none :=
  rv_none fun n => by
    cases n with
    | zero => rfl
    | succ n => rw [ma_run, hk]; simp only [hs]
theorem rv_j {t : Nat} (hk : ma_k i o = 1) (hs : ma_j i o S = some (some t, S')) : rv P d m ((i, o) :: is) L S h = rv P d m (P.1 m t) L S' h :=
  rv_step fun n => by rw [ma_run, hk]; simp only [hs]
theorem rv_jn (hk : ma_k i o = 1) (hs : ma_j i o S = some (none, S')) : rv P d m ((i, o) :: is) L S h = rv P d m is L S' h :=
  rv_step fun n => by rw [ma_run, hk]; simp only [hs]
theorem rv_x (hk : ma_k i o = 4) (hd : ¬ d < 9) (hs : ma_x P.2.2.2.1 i o S h = some (S', h')) : rv P d m ((i, o) :: is) L S h = rv P d m is L S' h' :=
  rv_step fun n => by rw [ma_run, hk]; simp only [if_neg hd, hs]
theorem rv_r {r : Option Value} (hk : ma_k i o = 3) (hs : ma_r i o S = some r) : rv P d m ((i, o) :: is) L S h = some (r, h) :=
  rv_iff.mpr ⟨1, by rw [ma_run, hk]; simp only [hs]⟩
theorem rv_c {m' : Nat} {a : List Value} (hk : ma_k i o = 2) (hs : ma_c i o S h = some (m', a, S')) (hl : (ma_ent a).length ≤ P.2.1 m') : rv P (d + 1) m ((i, o) :: is) L S h = (cv P d m' a h).bind (fun q => rv P (d + 1) m is L (q.1.toList ++ S') q.2) := by
  apply Option.ext
  intro v
  have hz : ¬ P.2.1 m' < (ma_ent a).length := Nat.not_lt.mpr hl
  rw [rv_iff, Option.bind_eq_some_iff]
  constructor
  · rintro ⟨n, hn⟩
    cases n with
    | zero => simp [ma_run] at hn
    | succ n =>
      rw [ma_run, hk] at hn
      simp only [hs, if_neg hz] at hn
      split at hn
      next r1 h1 h2 => exact ⟨(r1, h1), rv_iff.mpr ⟨n, h2⟩, rv_iff.mpr ⟨n, hn⟩⟩
      next => cases hn
  · rintro ⟨⟨r1, h1⟩, e1, e2⟩
    obtain ⟨n1, e1⟩ := rv_iff.mp e1
    obtain ⟨n2, e2⟩ := rv_iff.mp e2
    refine ⟨max n1 n2 + 1, ?_⟩
    rw [ma_run, hk]
    simp only [hs, if_neg hz, ma_mono2 e1 (Nat.le_max_left n1 n2)]
    exact ma_mono2 e2 (Nat.le_max_right n1 n2)
end RV
end
