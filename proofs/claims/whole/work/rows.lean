section
/-! ===== A machine of its own over lists: cells by number, locals and stack as lists. Its runs are pure; that the true machine follows them is proved once (part 03) ===== -/
abbrev ma_C : Type := (Nat × vp_A) ⊕ (Nat × List Value)
abbrev ma_I : Type := Instr × List Nat
abbrev ma_L : Type := List (Option Value)
/-- what an array holds, by a number -/
def ma_ty : Nat → FieldType
  | 0 => .int
  | 1 => .byte
  | 2 => .long
  | 3 => .object "LetHorizon$Line"
  | _ => .array .int
/-- what may be put into a field, by a number -/
def ma_fit : Nat → Value → Bool
  | 0, .int _ => true
  | 1, .int x => x == 0 || x == 1
  | 2, .ref _ => true
  | 2, .null => true
  | _, _ => false
/-- a new array's contents -/
def ma_new : Nat → ((Nat → Int32) ⊕ (Nat → Int64) ⊕ (Nat → UInt32) ⊕ (Nat → UInt64) ⊕ (Nat → Option Nat))
  | 0 => .inl (fun _ => 0)
  | 1 => .inl (fun _ => 0)
  | 2 => .inr (.inl (fun _ => 0))
  | _ => .inr (.inr (.inr (.inr (fun _ => none))))
/-- a new object's fields, by the kinds of its fields -/
def ma_df (ks : List Nat) : List Value := ks.map fun k => if k = 2 then .null else .int 0
def ma_atc : ArrayType → Option Nat
  | .int => some 0
  | .byte => some 1
  | .long => some 2
  | _ => none
/-- a cell by its number: the script stands at 4096 -/
def ma_g (sc : Nat × (Nat → Int32)) (h : List ma_C) (k : Nat) : Option ma_C := if k = 4096 then some (.inl (0, sc.1, .inl sc.2)) else h[k]?
def ma_ld (L : ma_L) (k : Nat) : Option Value := match L[k]? with
  | some (some v) => some v
  | _ => none
/-- the plain instructions -/
def ma_s (sc : Nat × (Nat → Int32)) (ks : Nat → List Nat) (i : Instr) (o : List Nat) (L : ma_L) (S : List Value) (h : List ma_C) : Option (ma_L × List Value × List ma_C) :=
  match i with
  | .iconst n => some (L, .int (Int32.ofInt n) :: S, h)
  | .bipush n => some (L, .int (Int32.ofInt n) :: S, h)
  | .sipush n => some (L, .int (Int32.ofInt n) :: S, h)
  | .lconst n => some (L, .long (Int64.ofNat n) :: S, h)
  | .aconst_null => some (L, .null :: S, h)
  | .ldc _ => match o with
    | [0, v] => some (L, .int (Int32.ofNat v) :: S, h)
    | [1, v] => some (L, .ref (4097 + v) :: S, h)
    | _ => none
  | .ldc_w _ => match o with
    | [0, v] => some (L, .int (Int32.ofNat v) :: S, h)
    | _ => none
  | .ldc2_w _ => match o with
    | [v] => some (L, .long (Int64.ofNat v) :: S, h)
    | _ => none
  | .iload k => match ma_ld L k with
    | some (.int x) => some (L, .int x :: S, h)
    | _ => none
  | .iload_n k => match ma_ld L k with
    | some (.int x) => some (L, .int x :: S, h)
    | _ => none
  | .lload k => match ma_ld L k, L[k + 1]? with
    | some (.long x), some none => some (L, .long x :: S, h)
    | _, _ => none
  | .lload_n k => match ma_ld L k, L[k.val + 1]? with
    | some (.long x), some none => some (L, .long x :: S, h)
    | _, _ => none
  | .aload k => match ma_ld L k with
    | some (.ref x) => some (L, .ref x :: S, h)
    | some .null => some (L, .null :: S, h)
    | _ => none
  | .aload_n k => match ma_ld L k with
    | some (.ref x) => some (L, .ref x :: S, h)
    | some .null => some (L, .null :: S, h)
    | _ => none
  | .istore k => match S with
    | .int x :: S => if k < L.length then some (L.set k (some (.int x)), S, h) else none
    | _ => none
  | .istore_n k => match S with
    | .int x :: S => if k.val < L.length then some (L.set k (some (.int x)), S, h) else none
    | _ => none
  | .lstore k => match S with
    | .long x :: S => if k + 1 < L.length then some ((L.set k (some (.long x))).set (k + 1) none, S, h) else none
    | _ => none
  | .lstore_n k => match S with
    | .long x :: S => if k.val + 1 < L.length then some ((L.set k (some (.long x))).set (k.val + 1) none, S, h) else none
    | _ => none
  | .astore k => match S with
    | .ref x :: S => if k < L.length then some (L.set k (some (.ref x)), S, h) else none
    | .null :: S => if k < L.length then some (L.set k (some .null), S, h) else none
    | _ => none
  | .astore_n k => match S with
    | .ref x :: S => if k.val < L.length then some (L.set k (some (.ref x)), S, h) else none
    | .null :: S => if k.val < L.length then some (L.set k (some .null), S, h) else none
    | _ => none
  | .iinc k n => match ma_ld L k with
    | some (.int x) => some (L.set k (some (.int (x + Int32.ofInt n))), S, h)
    | _ => none
  | .iadd => match S with
    | .int y :: .int x :: S => some (L, .int (x + y) :: S, h)
    | _ => none
  | .isub => match S with
    | .int y :: .int x :: S => some (L, .int (x - y) :: S, h)
    | _ => none
  | .imul => match S with
    | .int y :: .int x :: S => some (L, .int (x * y) :: S, h)
    | _ => none
  | .iand => match S with
    | .int y :: .int x :: S => some (L, .int (x &&& y) :: S, h)
    | _ => none
  | .ior => match S with
    | .int y :: .int x :: S => some (L, .int (x ||| y) :: S, h)
    | _ => none
  | .ixor => match S with
    | .int y :: .int x :: S => some (L, .int (x ^^^ y) :: S, h)
    | _ => none
  | .idiv => match S with
    | .int y :: .int x :: S => if y = 0 then none else some (L, .int (x / y) :: S, h)
    | _ => none
  | .irem => match S with
    | .int y :: .int x :: S => if y = 0 then none else some (L, .int (x - x / y * y) :: S, h)
    | _ => none
  | .ineg => match S with
    | .int x :: S => some (L, .int (-x) :: S, h)
    | _ => none
  | .ishl => match S with
    | .int y :: .int x :: S => some (L, .int (x <<< (y &&& 31)) :: S, h)
    | _ => none
  | .ishr => match S with
    | .int y :: .int x :: S => some (L, .int (x >>> (y &&& 31)) :: S, h)
    | _ => none
  | .iushr => match S with
    | .int y :: .int x :: S => some (L, .int ((x.toUInt32 >>> (y.toUInt32 &&& Int32.toUInt32 31)).toInt32) :: S, h)
    | _ => none
  | .ladd => match S with
    | .long y :: .long x :: S => some (L, .long (x + y) :: S, h)
    | _ => none
  | .land => match S with
    | .long y :: .long x :: S => some (L, .long (x &&& y) :: S, h)
    | _ => none
  | .lshl => match S with
    | .int y :: .long x :: S => some (L, .long (x <<< (y.toInt64 &&& 63)) :: S, h)
    | _ => none
  | .lshr => match S with
    | .int y :: .long x :: S => some (L, .long (x >>> (y.toInt64 &&& 63)) :: S, h)
    | _ => none
  | .lcmp => match S with
    | .long y :: .long x :: S => some (L, .int (lg_cmp x y) :: S, h)
    | _ => none
  | .i2l => match S with
    | .int x :: S => some (L, .long x.toInt64 :: S, h)
    | _ => none
  | .l2i => match S with
    | .long x :: S => some (L, .int x.toInt32 :: S, h)
    | _ => none
  | .i2b => match S with
    | .int x :: S => some (L, .int x.toInt8.toInt32 :: S, h)
    | _ => none
  | .i2c => match S with
    | .int x :: S => some (L, .int (x.toUInt32 % 65536).toInt32 :: S, h)
    | _ => none
  | .dup => match S with
    | .int x :: S => some (L, .int x :: .int x :: S, h)
    | .ref x :: S => some (L, .ref x :: .ref x :: S, h)
    | _ => none
  | .dup2 => match S with
    | .int y :: .ref x :: S => some (L, .int y :: .ref x :: .int y :: .ref x :: S, h)
    | .int y :: .int x :: S => some (L, .int y :: .int x :: .int y :: .int x :: S, h)
    | _ => none
  | .pop => match S with
    | .int _ :: S => some (L, S, h)
    | .ref _ :: S => some (L, S, h)
    | _ => none
  | .getfield _ => match o, S with
    | ci :: j :: _, .ref k :: S => match h[k]? with
      | some (.inr (c, fs)) => if c = ci then (match fs[j]? with
        | some v => some (L, v :: S, h)
        | none => none) else none
      | _ => none
    | _, _ => none
  | .putfield _ => match o, S with
    | ci :: j :: t :: _, v :: .ref k :: S => match h[k]? with
      | some (.inr (c, fs)) => if c = ci ∧ j < fs.length ∧ ma_fit t v = true then some (L, S, h.set k (.inr (c, fs.set j v))) else none
      | _ => none
    | _, _ => none
  | .arraylength => match S with
    | .ref k :: S => match ma_g sc h k with
      | some (.inl (_, n, _)) => some (L, .int (Int32.ofNat n) :: S, h)
      | _ => none
    | _ => none
  | .iaload => match S with
    | .int i :: .ref k :: S => match ma_g sc h k with
      | some (.inl (0, n, .inl f)) => if i < 0 ∨ n ≤ i.toNatClampNeg then none else some (L, .int (f i.toNatClampNeg) :: S, h)
      | _ => none
    | _ => none
  | .baload => match S with
    | .int i :: .ref k :: S => match h[k]? with
      | some (.inl (1, n, .inl f)) => if i < 0 ∨ n ≤ i.toNatClampNeg then none else some (L, .int (f i.toNatClampNeg) :: S, h)
      | _ => none
    | _ => none
  | .laload => match S with
    | .int i :: .ref k :: S => match h[k]? with
      | some (.inl (2, n, .inr (.inl f))) => if i < 0 ∨ n ≤ i.toNatClampNeg then none else some (L, .long (f i.toNatClampNeg) :: S, h)
      | _ => none
    | _ => none
  | .aaload => match S with
    | .int i :: .ref k :: S => match h[k]? with
      | some (.inl (t, n, .inr (.inr (.inr (.inr f))))) => if i < 0 ∨ n ≤ i.toNatClampNeg ∨ t < 3 then none else some (L, va_rf (f i.toNatClampNeg) :: S, h)
      | _ => none
    | _ => none
  | .iastore => match S with
    | .int x :: .int i :: .ref k :: S => match h[k]? with
      | some (.inl (0, n, .inl f)) => if i < 0 ∨ n ≤ i.toNatClampNeg then none else some (L, S, h.set k (.inl (0, n, .inl (upd f i.toNatClampNeg x))))
      | _ => none
    | _ => none
  | .bastore => match S with
    | .int x :: .int i :: .ref k :: S => match h[k]? with
      | some (.inl (1, n, .inl f)) => if i < 0 ∨ n ≤ i.toNatClampNeg then none else some (L, S, h.set k (.inl (1, n, .inl (upd f i.toNatClampNeg (vp_nar .byte x)))))
      | _ => none
    | _ => none
  | .lastore => match S with
    | .long x :: .int i :: .ref k :: S => match h[k]? with
      | some (.inl (2, n, .inr (.inl f))) => if i < 0 ∨ n ≤ i.toNatClampNeg then none else some (L, S, h.set k (.inl (2, n, .inr (.inl (vp_updL f i.toNatClampNeg x)))))
      | _ => none
    | _ => none
  | .aastore => match o, S with
    | ci :: _, .ref v :: .int i :: .ref k :: S => match h[k]?, h[v]? with
      | some (.inl (3, n, .inr (.inr (.inr (.inr f))))), some (.inr (c, _)) => if i < 0 ∨ n ≤ i.toNatClampNeg ∨ c ≠ ci then none else some (L, S, h.set k (.inl (3, n, .inr (.inr (.inr (.inr (va_up f i.toNatClampNeg (some v))))))))
      | _, _ => none
    | _, _ => none
  | .new _ => match o with
    | ci :: _ => if 4095 < h.length then none else some (L, .ref h.length :: S, h ++ [.inr (ci, ma_df (ks ci))])
    | _ => none
  | .newarray a => match ma_atc a, S with
    | some t, .int n :: S => if n < 0 ∨ 4095 < h.length ∨ 20000 < n.toNatClampNeg then none else some (L, .ref h.length :: S, h ++ [.inl (t, n.toNatClampNeg, ma_new t)])
    | _, _ => none
  | .anewarray _ => match S with
    | .int n :: S => if n < 0 ∨ 4095 < h.length ∨ 20000 < n.toNatClampNeg then none else some (L, .ref h.length :: S, h ++ [.inl (3, n.toNatClampNeg, ma_new 3)])
    | _ => none
  | .multianewarray _ 2 => match S with
    | .int k :: .int n :: S => if n < 0 ∨ k < 0 ∨ 3000 < h.length ∨ 1000 < n.toNatClampNeg ∨ 20000 < k.toNatClampNeg then none else
        some (L, .ref h.length :: S, h ++ .inl (4, n.toNatClampNeg, .inr (.inr (.inr (.inr (fun i => if i < n.toNatClampNeg then some (h.length + 1 + i) else none))))) :: List.replicate n.toNatClampNeg (.inl (0, k.toNatClampNeg, .inl (fun _ => 0))))
    | _ => none
  | _ => none
/-- the jumps: where to, or on -/
def ma_cmp : ClassFile.Cond → Int32 → Int32 → Bool
  | .eq, x, y => decide (x = y)
  | .ne, x, y => decide (¬ x = y)
  | .lt, x, y => decide (x < y)
  | .ge, x, y => decide (y ≤ x)
  | .gt, x, y => decide (y < x)
  | .le, x, y => decide (x ≤ y)
def ma_j (i : Instr) (o : List Nat) (S : List Value) : Option (Option Nat × List Value) :=
  match i with
  | .nop => match o with
    | [t] => some (some t, S)
    | _ => none
  | .goto _ => match o with
    | [t] => some (some t, S)
    | _ => none
  | .if_icmp c _ => match o, S with
    | [t], .int y :: .int x :: S => some (if ma_cmp c x y = true then some t else none, S)
    | _, _ => none
  | .ifCond c _ => match o, S with
    | [t], .int x :: S => some (if ma_cmp c x 0 = true then some t else none, S)
    | _, _ => none
  | .ifnull _ => match o, S with
    | [t], .null :: S => some (some t, S)
    | [_], .ref _ :: S => some (none, S)
    | _, _ => none
  | .ifnonnull _ => match o, S with
    | [_], .null :: S => some (none, S)
    | [t], .ref _ :: S => some (some t, S)
    | _, _ => none
  | .tableswitch _ lo hi _ => match o, S with
    | t0 :: ts, .int x :: S => if x.toInt < lo ∨ hi < x.toInt then some (some t0, S) else (match ts[(x.toInt - lo).toNat]? with
      | some t => some (some t, S)
      | none => none)
    | _, _ => none
  | _ => none
/-- the calls: whom (1: nobody, 2: the arrays' copier, 3 ..: texts; 0: a method of the table), with what, what stays -/
def ma_a (n : Nat) (S : List Value) : Option (List Value × List Value) := if S.length < n ∨ 8 < ((S.drop n).map fun v => v.category).sum then none else some ((S.take n).reverse, S.drop n)
def ma_cr (m ci : Nat) (q : Option (List Value × List Value)) (h : List ma_C) : Option (Nat × List Value × List Value) := match q with
  | some (.ref k :: a, S) => match h[k]? with
    | some (.inr (c, _)) => if c = ci then some (m, .ref k :: a, S) else none
    | _ => none
  | _ => none
def ma_c (i : Instr) (o : List Nat) (S : List Value) (h : List ma_C) : Option (Nat × List Value × List Value) :=
  match i, o with
  | .invokevirtual _, [0, m, n, ci] => ma_cr m ci (ma_a n S) h
  | .invokespecial _, [0, m, n, ci] => ma_cr m ci (ma_a n S) h
  | .invokestatic _, [0, m, n] => match ma_a n S with
    | some (a, S) => some (m, a, S)
    | none => none
  | _, _ => none
def ma_ent : List Value → ma_L
  | [] => []
  | v :: a => if v.category = 2 then some v :: none :: ma_ent a else some v :: ma_ent a
/-- a method's first locals -/
def ma_en (a : List Value) (n : Nat) : ma_L := ma_ent a ++ List.replicate (n - (ma_ent a).length) none
/-- what is done by the machine itself, or by a method that isn't of the table -/
def ma_x (tx : Nat → Int32 → Option Int32) (i : Instr) (o : List Nat) (S : List Value) (h : List ma_C) : Option (List Value × List ma_C) :=
  match i, o with
  | .invokespecial _, [1] => match S with
    | .ref _ :: S => if 8 < (S.map fun v => v.category).sum then none else some (S, h)
    | _ => none
  | .invokestatic _, [2] => match S with
    | .int n :: .int dp :: .ref b :: .int sp :: .ref a :: S => match h[a]?, h[b]? with
      | some (.inl (0, n0, .inl f)), some (.inl (0, n1, .inl g)) =>
        if 8 < (S.map fun v => v.category).sum ∨ n < 0 ∨ dp < 0 ∨ sp < 0 ∨ n0 < sp.toNatClampNeg + n.toNatClampNeg ∨ n1 < dp.toNatClampNeg + n.toNatClampNeg then none
        else some (S, h.set b (.inl (0, n1, .inl (va_cpy f g sp.toNatClampNeg dp.toNatClampNeg n.toNatClampNeg))))
      | _, _ => none
    | _ => none
  | .invokevirtual _, [3, k] => match S with
    | .ref a :: S => if a = 4097 + k then (match tx (3 * k) 0 with
      | some x => some (.int x :: S, h)
      | none => none) else none
    | _ => none
  | .invokevirtual _, [4, k] => match S with
    | .int j :: .ref a :: S => if a = 4097 + k then (match tx (3 * k + 1) j with
      | some x => some (.int x :: S, h)
      | none => none) else none
    | _ => none
  | .invokevirtual _, [5, k] => match S with
    | .int j :: .ref a :: S => if a = 4097 + k then (match tx (3 * k + 2) j with
      | some x => some (.int x :: S, h)
      | none => none) else none
    | _ => none
  | _, _ => none
def ma_r (i : Instr) (o : List Nat) (S : List Value) : Option (Option Value) :=
  match i, o, S with
  | .ireturn, [0], [.int x] => some (some (.int x))
  | .ireturn, [1], [.int x] => if x = 0 ∨ x = 1 then some (some (.int x)) else none
  | .lreturn, _, [.long x] => some (some (.long x))
  | .return_, _, [] => some none
  | _, _, _ => none
/-- of which kind an instruction is: 0 plain, 1 a jump, 2 a call, 3 an end, 4 what the machine does itself -/
def ma_k : Instr → List Nat → Nat
  | .nop, _ | .goto _, _ | .if_icmp _ _, _ | .ifCond _ _, _ | .ifnull _, _ | .ifnonnull _, _ | .tableswitch _ _ _ _, _ => 1
  | .invokevirtual _, 0 :: _ | .invokespecial _, 0 :: _ | .invokestatic _, 0 :: _ => 2
  | .invokevirtual _, _ | .invokespecial _, _ | .invokestatic _, _ => 4
  | .ireturn, _ | .lreturn, _ | .return_, _ => 3
  | _, _ => 0
/-- a program: the blocks of each method by their first places, the length of each method's locals, the kinds of each sort's fields, the texts, the script -/
abbrev ma_P : Type := (Nat → Nat → List ma_I) × (Nat → Nat) × (Nat → List Nat) × (Nat → Int32 → Option Int32) × (Nat × (Nat → Int32))
def ma_run (P : ma_P) : Nat → Nat → Nat → List ma_I → ma_L → List Value → List ma_C → Option (Option Value × List ma_C)
  | 0, _, _, _, _, _, _ => none
  | _ + 1, _, _, [], _, _, _ => none
  | n + 1, d, m, (i, o) :: is, L, S, h =>
    match ma_k i o with
    | 0 => match ma_s P.2.2.2.2 P.2.2.1 i o L S h with
      | some (L, S, h) => ma_run P n d m is L S h
      | none => none
    | 1 => match ma_j i o S with
      | some (some t, S) => ma_run P n d m (P.1 m t) L S h
      | some (none, S) => ma_run P n d m is L S h
      | none => none
    | 2 => match ma_c i o S h with
      | some (m', a, S) => if P.2.1 m' < (ma_ent a).length then none else match d with
        | 0 => none
        | d + 1 => match ma_run P n d m' (P.1 m' 0) (ma_en a (P.2.1 m')) [] h with
          | some (r, h) => ma_run P n (d + 1) m is L (r.toList ++ S) h
          | none => none
      | none => none
    | 3 => match ma_r i o S with
      | some r => some (r, h)
      | none => none
    | _ => match (if d < 9 then none else ma_x P.2.2.2.1 i o S h) with
      | some (S, h) => ma_run P n d m is L S h
      | none => none
end
section
/-! ===== How the machine's lists stand for the true heap ===== -/
def ma_va (ad : Nat → Nat) : Value → Value
  | .ref k => .ref (ad k)
  | v => v
def ma_ac (ad : Nat → Nat) (x : vp_A) : vp_A := (x.1, match x.2 with
  | .inr (.inr (.inr (.inr f))) => .inr (.inr (.inr (.inr (fun j => (f j).map ad))))
  | y => y)
def ma_at (D : va_G) (cl : List vw_C) (ad : Nat → Nat) (s : State) (H : Heap) (a : Nat) (c : ma_C) : Prop := match c with
  | .inl q => ∃ cA : ClassId, ArrOfT s cA (ma_ty q.1) ∧ (q.1 = 3 → va_RA s cA (ma_ty 3)) ∧ H[a]? = some (vp_cell cA (ma_ac ad q.2))
  | .inr q => ∃ r : vw_C, cl[q.1]? = some r ∧ q.2.length = r.2.2 ∧ t_OB a (D.1 q.1) r.2.2 (D.2 q.1) H (vp_V (q.2.map (ma_va ad)))
def ma_H (D : va_G) (cl : List vw_C) (ad : Nat → Nat) (base : Nat) (s : State) (H : Heap) (h : List ma_C) : Prop :=
  H.size = base + h.length ∧ h.length ≤ 4096 ∧ ∀ (k : Nat) (c : ma_C), h[k]? = some c → ma_at D cl ad s H (base + k) c
def ma_F (base : Nat) (s : State) (H : Heap) (locs : List Loc) : Prop := (∀ q : Nat, q < base → H[q]? = s.heap[q]?) ∧ ∀ l ∈ locs, base ≤ l.base
theorem ma_va_cat (ad : Nat → Nat) (v : Value) : (ma_va ad v).category = v.category := by cases v <;> rfl
theorem ma_at.kept {D : va_G} {cl : List vw_C} {ad : Nat → Nat} {s : State} {H H1 : Heap} {a : Nat} {c : ma_C} (h : ma_at D cl ad s H a c) (e : H1[a]? = H[a]?) : ma_at D cl ad s H1 a c := by
  cases c with
  | inl q =>
    obtain ⟨cA, h1, h2, h3⟩ := h
    exact ⟨cA, h1, h2, e.trans h3⟩
  | inr q =>
    obtain ⟨r, h1, h2, h3⟩ := h
    exact ⟨r, h1, h2, h3.kept e⟩
theorem ma_at.moved {D : va_G} {cl : List vw_C} {ad : Nat → Nat} {u U : State} {H : Heap} {a : Nat} {c : ma_C} (hvm : u.vm.Alike U.vm) (h : ma_at D cl ad u H a c) : ma_at D cl ad U H a c := by
  cases c with
  | inl q =>
    obtain ⟨cA, h1, h2, h3⟩ := h
    exact ⟨cA, arrOfT_moved hvm h1, fun z => (h2 z).moved hvm, h3⟩
  | inr q => exact h
theorem ma_H.moved {D : va_G} {cl : List vw_C} {ad : Nat → Nat} {base : Nat} {u U : State} {H : Heap} {h : List ma_C} (hvm : u.vm.Alike U.vm) (hh : ma_H D cl ad base u H h) : ma_H D cl ad base U H h :=
  ⟨hh.1, hh.2.1, fun k c hk => (hh.2.2 k c hk).moved hvm⟩
theorem ma_H.set {D : va_G} {cl : List vw_C} {ad : Nat → Nat} {base : Nat} {s : State} {H H1 : Heap} {h : List ma_C} {k : Nat} {c : ma_C} (hh : ma_H D cl ad base s H h) (e1 : H1.size = H.size) (e2 : ∀ q, q ≠ base + k → H1[q]? = H[q]?) (e3 : ma_at D cl ad s H1 (base + k) c) : ma_H D cl ad base s H1 (h.set k c) := by
  refine ⟨by rw [e1, hh.1, List.length_set], by rw [List.length_set]; exact hh.2.1, fun j x hj => ?_⟩
  rw [List.getElem?_set] at hj
  split at hj
  next hkj =>
    subst hkj
    split at hj
    next => cases hj; exact e3
    next => cases hj
  next hkj => exact (hh.2.2 j x hj).kept (e2 _ (by omega))
theorem ma_H.push {D : va_G} {cl : List vw_C} {ad : Nat → Nat} {base : Nat} {s : State} {H H1 : Heap} {h : List ma_C} {c : ma_C} (hh : ma_H D cl ad base s H h) (hl : ¬ 4095 < h.length) (e1 : H1.size = H.size + 1) (e2 : ∀ q, q < H.size → H1[q]? = H[q]?) (e3 : ma_at D cl ad s H1 H.size c) : ma_H D cl ad base s H1 (h ++ [c]) := by
  refine ⟨by rw [e1, hh.1, List.length_append, List.length_singleton]; omega, by rw [List.length_append, List.length_singleton]; omega, fun j x hj => ?_⟩
  by_cases hjl : j < h.length
  · rw [List.getElem?_append_left hjl] at hj
    exact (hh.2.2 j x hj).kept (e2 _ (by rw [hh.1]; omega))
  · rw [List.getElem?_append_right (by omega)] at hj
    have h0 : j - h.length < 1 := (List.getElem?_eq_some_iff.mp hj).1
    have hz : j = h.length := by omega
    subst hz
    simp only [Nat.sub_self, List.getElem?_cons_zero, Option.some.injEq] at hj
    subst hj
    rw [← hh.1]
    exact e3
theorem ma_F.put {base : Nat} {s : State} {H H1 : Heap} {locs : List Loc} {a i : Nat} (hF : ma_F base s H locs) (ha : base ≤ a) (e2 : ∀ q, q ≠ a → H1[q]? = H[q]?) : ma_F base s H1 (locs ++ [⟨a, i⟩]) := by
  refine ⟨fun q hq => (e2 q (by omega)).trans (hF.1 q hq), fun l hl => ?_⟩
  rcases List.mem_append.mp hl with h | h
  · exact hF.2 l h
  · rw [List.mem_singleton] at h
    subst h
    exact ha
theorem ma_F.push {base : Nat} {s : State} {H H1 : Heap} {locs : List Loc} (hF : ma_F base s H locs) (hb : base ≤ H.size) (e2 : ∀ q, q < H.size → H1[q]? = H[q]?) : ma_F base s H1 locs :=
  ⟨fun q hq => (e2 q (by omega)).trans (hF.1 q hq), hF.2⟩
/-! the locals -/
def ma_lvo (ad : Nat → Nat) (L : ma_L) (i : Nat) : Option (Nat × Value) := match L[i]? with
  | some (some v) => if v.category = 1 ∨ L[i + 1]? = some none then some (i, ma_va ad v) else none
  | _ => none
def ma_lv (ad : Nat → Nat) (L : ma_L) : List (Nat × Value) := (List.range L.length).filterMap (ma_lvo ad L)
theorem ma_lv_mem {ad : Nat → Nat} {L : ma_L} {q : Nat × Value} : q ∈ ma_lv ad L ↔ ∃ v, L[q.1]? = some (some v) ∧ (v.category = 1 ∨ L[q.1 + 1]? = some none) ∧ q.2 = ma_va ad v := by
  unfold ma_lv
  rw [List.mem_filterMap]
  constructor
  · rintro ⟨i, -, hi⟩
    unfold ma_lvo at hi
    split at hi
    next v hv =>
      split at hi
      next hc => cases hi; exact ⟨v, hv, hc, rfl⟩
      next => cases hi
    next => cases hi
  · rintro ⟨v, h1, h2, h3⟩
    refine ⟨q.1, List.mem_range.mpr (List.getElem?_eq_some_iff.mp h1).1, ?_⟩
    unfold ma_lvo
    rw [h1]
    simp only [if_pos h2, ← h3]
theorem ma_ld_some {L : ma_L} {k : Nat} {v : Value} (h : ma_ld L k = some v) : L[k]? = some (some v) := by
  unfold ma_ld at h
  split at h
  next w hw => cases h; exact hw
  next => cases h
theorem ma_lv_get {ad : Nat → Nat} {L : ma_L} {ls : Array Slot} {nL k : Nat} {v : Value} (hl : lv_has ls nL (ma_lv ad L)) (h : ma_ld L k = some v) (hc : v.category = 1 ∨ L[k + 1]? = some none) : ls[k]? = some (.val (ma_va ad v)) :=
  hl.2.2 (k, ma_va ad v) (ma_lv_mem.mpr ⟨v, ma_ld_some h, hc, rfl⟩)
theorem ma_lv_set {ad : Nat → Nat} {L : ma_L} {ls : Array Slot} {nL k : Nat} {v : Value} (hc : v.category = 1) (hl : lv_has ls nL ((k, ma_va ad v) :: (ma_lv ad L).filter (fun q => !(q.1 == k) && !(q.1 + 1 == k && q.2.category == 2)))) : lv_has ls nL (ma_lv ad (L.set k (some v))) := by
  refine ⟨hl.1, hl.2.1, fun q hq => hl.2.2 q ?_⟩
  obtain ⟨w, h1, h2, h3⟩ := ma_lv_mem.mp hq
  by_cases hk : q.1 = k
  · refine List.mem_cons.mpr (Or.inl ?_)
    rw [hk, List.getElem?_set_self' ] at h1
    obtain ⟨a, b⟩ := q
    simp only at hk h3
    cases hL : L[k]? with
    | none => rw [hL] at h1; cases h1
    | some z =>
      rw [hL] at h1
      simp at h1
      rw [hk, h3, ← h1]
  · refine List.mem_cons.mpr (Or.inr (List.mem_filter.mpr ⟨ma_lv_mem.mpr ⟨w, ?_, ?_, h3⟩, ?_⟩))
    · rwa [List.getElem?_set_ne (Ne.symm hk)] at h1
    · rcases h2 with h2 | h2
      · exact Or.inl h2
      · by_cases hk1 : q.1 + 1 = k
        · exfalso
          rw [hk1, List.getElem?_set_self'] at h2
          cases hL : L[k]? with
          | none => rw [hL] at h2; cases h2
          | some z => rw [hL] at h2; simp at h2
        · rw [List.getElem?_set_ne (Ne.symm hk1)] at h2
          exact Or.inr h2
    · rw [h3, ma_va_cat]
      rcases h2 with h2 | h2
      · simp [hk, h2]
      · have hk1 : ¬ q.1 + 1 = k := by
          intro hk1
          rw [hk1, List.getElem?_set_self'] at h2
          cases hL : L[k]? with
          | none => rw [hL] at h2; cases h2
          | some z => rw [hL] at h2; simp at h2
        simp [hk, hk1]
theorem ma_lv_set2 {ad : Nat → Nat} {L : ma_L} {ls : Array Slot} {nL k : Nat} {x : Int64} (hl : lv_has ls nL ((k, Value.long x) :: (ma_lv ad L).filter (fun q => !(q.1 == k) && (!(q.1 == k + 1) && !(q.1 + 1 == k && q.2.category == 2))))) : lv_has ls nL (ma_lv ad ((L.set k (some (.long x))).set (k + 1) none)) := by
  refine ⟨hl.1, hl.2.1, fun q hq => hl.2.2 q ?_⟩
  obtain ⟨w, h1, h2, h3⟩ := ma_lv_mem.mp hq
  have hk1 : ¬ q.1 = k + 1 := by
    intro hk1
    rw [hk1, List.getElem?_set_self'] at h1
    cases hL : (L.set k (some (Value.long x)))[k + 1]? with
    | none => rw [hL] at h1; cases h1
    | some z => rw [hL] at h1; simp at h1
  rw [List.getElem?_set_ne (Ne.symm hk1)] at h1
  by_cases hk : q.1 = k
  · refine List.mem_cons.mpr (Or.inl ?_)
    rw [hk, List.getElem?_set_self'] at h1
    obtain ⟨a, b⟩ := q
    simp only at hk h3
    cases hL : L[k]? with
    | none => rw [hL] at h1; cases h1
    | some z =>
      rw [hL] at h1
      simp at h1
      rw [hk, h3, ← h1]
      rfl
  · refine List.mem_cons.mpr (Or.inr (List.mem_filter.mpr ⟨ma_lv_mem.mpr ⟨w, ?_, ?_, h3⟩, ?_⟩))
    · rwa [List.getElem?_set_ne (Ne.symm hk)] at h1
    · rcases h2 with h2 | h2
      · exact Or.inl h2
      · by_cases hk2 : q.1 + 1 = k
        · exfalso
          rw [List.getElem?_set_ne (by omega), hk2, List.getElem?_set_self'] at h2
          cases hL : L[k]? with
          | none => rw [hL] at h2; cases h2
          | some z => rw [hL] at h2; simp at h2
        · rw [List.getElem?_set_ne (by omega), List.getElem?_set_ne (Ne.symm hk2)] at h2
          exact Or.inr h2
    · rw [h3, ma_va_cat]
      rcases h2 with h2 | h2
      · simp [hk, hk1, h2]
      · have hk2 : ¬ q.1 + 1 = k := by
          intro hk2
          rw [List.getElem?_set_ne (by omega), hk2, List.getElem?_set_self'] at h2
          cases hL : L[k]? with
          | none => rw [hL] at h2; cases h2
          | some z => rw [hL] at h2; simp at h2
        simp [hk, hk1, hk2]
/-! what stays the same in a method's walk -/
def ma_kt : Nat → FieldType → Bool
  | 0, .int => true
  | 1, .boolean => true
  | 2, .object _ => true
  | 2, .array _ => true
  | _, _ => false
theorem ma_kt_fit {t : Nat} {ty : FieldType} {v : Value} {ad : Nat → Nat} (h : ma_kt t ty = true) (hv : ma_fit t v = true) : narrow ty (ma_va ad v) = ma_va ad v ∧ fits ty (ma_va ad v) = true := by
  unfold ma_kt at h
  split at h
  · cases v <;> first | (simp [ma_fit] at hv; done) | exact ⟨rfl, rfl⟩
  · cases v with
    | int x =>
      simp only [ma_fit, Bool.or_eq_true, beq_iff_eq] at hv
      rcases hv with rfl | rfl
      · show narrow .boolean (.int 0) = .int 0 ∧ fits .boolean (.int 0) = true
        exact ⟨by decide +kernel, by decide +kernel⟩
      · show narrow .boolean (.int 1) = .int 1 ∧ fits .boolean (.int 1) = true
        exact ⟨by decide +kernel, by decide +kernel⟩
    | _ => simp [ma_fit] at hv
  · cases v <;> first | (simp [ma_fit] at hv; done) | exact ⟨rfl, rfl⟩
  · cases v <;> first | (simp [ma_fit] at hv; done) | exact ⟨rfl, rfl⟩
  · cases h
/-- what is known of the sorts of objects: their words are among G, their fields' names differ, the kinds of their fields -/
def ma_cls (cl : List vw_C) (ks : Nat → List Nat) (G : List Jvm.Cond) : Prop :=
  ∀ (ci : Nat) (C : String) (T : u_T) (N : Nat), cl[ci]? = some (C, T, N) → (∀ w ∈ u_ws C T N, w ∈ G) ∧ (∀ a, a < N → ∀ b, b < N → a ≠ b → (T a).2.1 ≠ (T b).2.1) ∧ (ks ci).length = N ∧
    ∀ k, k < N → (T k).1 = C ∧ ∃ ty, parseFieldDescriptor (T k).2.2.1 = some ty ∧ ∃ t, (ks ci)[k]? = some t ∧ ma_kt t ty = true
def ma_fl (cl : List vw_C) (G : List Jvm.Cond) (own : String) (x ci j : Nat) : Prop :=
  ∃ (C : String) (T : u_T) (N : Nat), cl[ci]? = some (C, T, N) ∧ j < N ∧ (Jvm.Cond.fieldLink own x C (T j).2.1 (T j).2.2.1 ∈ G ∨ ∃ host, Jvm.Cond.fieldLinkNest own x C (T j).2.1 (T j).2.2.1 host ∈ G)
/-- a field that is put: it isn't final, or this is its own maker -/
def ma_fp (cl : List vw_C) (G : List Jvm.Cond) (own : String) (ini : Bool) (x ci j : Nat) : Prop :=
  ∃ (C : String) (T : u_T) (N : Nat), cl[ci]? = some (C, T, N) ∧ j < N ∧ (((T j).2.2.2 = false ∧ (Jvm.Cond.fieldLink own x C (T j).2.1 (T j).2.2.1 ∈ G ∨ ∃ host, Jvm.Cond.fieldLinkNest own x C (T j).2.1 (T j).2.2.1 host ∈ G)) ∨
    ((T j).2.2.2 = true ∧ ini = true ∧ C = own ∧ Jvm.Cond.fieldLink own x C (T j).2.1 (T j).2.2.1 ∈ G))
def ma_X (D : va_G) (cl : List vw_C) (ks : Nat → List Nat) (ad : Nat → Nat) (base : Nat) (sc : Nat × (Nat → Int32)) (G : List Jvm.Cond) (own : String) (ini : Bool) (p : Program) (s : State) (m : MethodId) (args : Array Value) (meth : Method) (c : Code) (cc : ByteArray) (nL : Nat) : Prop :=
  p.tables.exec = Jvm.exec ∧ c.code = cc ∧ c.maxLocals = nL ∧ s.vm.findClass own = some m.cls ∧ (∀ w ∈ G, w.before args s = true) ∧ (∀ (ci : Nat) (q : vw_C), cl[ci]? = some q → u_Kn s q.1 q.2.1 q.2.2 (D.1 ci) (D.2 ci)) ∧ (∀ k, k < 4096 → ad k = base + k) ∧ (ini = true → meth.name = "<init>") ∧ ma_cls cl ks G ∧ va_X (ad 4096) sc.1 sc.2 s s.heap ∧ ad 4096 < base
/-- the machine's state stands for the true one, from which the end is reached -/
def ma_G (D : va_G) (cl : List vw_C) (ad : Nat → Nat) (base : Nat) (p : Program) (l : Launch) (e : Env) (R : Room) (s : State) (m : MethodId) (args : Array Value) (below : List Frame) (meth : Method) (c : Code) (Q : State → Prop) (nL pc : Nat) (L : ma_L) (S : List Value) (h : List ma_C) (cells slots : Nat) : Prop :=
  ∀ (H : Heap) (locs : List Loc) (ls : Array Slot), ma_H D cl ad base s H h → ma_F base s H locs → lv_has ls nL (ma_lv ad L) → L.length = nL → W p l e R s m args below meth c H locs cells slots Q (F0 m pc ls (S.map (ma_va ad)))
end
section
section MS
variable {D : va_G} {cl : List vw_C} {ks : Nat → List Nat} {ad : Nat → Nat} {base : Nat} {G : List Jvm.Cond} {own : String} {ini : Bool} {p : Program} {l : Launch} {e : Env} {R : Room} {s : State} {m : MethodId} {args : Array Value} {below : List Frame} {meth : Method} {c : Code} {cc : ByteArray} {nL pc : Nat} {Q : State → Prop} {sc : Nat × (Nat → Int32)} {o : List Nat} {L L' : ma_L} {S S' : List Value} {h h' : List ma_C} {cells slots : Nat}

theorem ma_o_iconst {n : Int} (X : ma_X D cl ks ad base sc G own ini p s m args meth c cc nL) (hdg : decode cc pc = .ok (.iconst n, 1)) (hs : ma_s sc ks (.iconst n) o L S h = some (L', S', h')) (k : ma_G D cl ad base p l e R s m args below meth c Q nL (pc + 1) L' S' h' cells slots) : ma_G D cl ad base p l e R s m args below meth c Q nL pc L S h cells slots := by
  obtain ⟨hx, hb, hml, hown, hts, hkn, had, hini, hcls, hsx, hsb⟩ := X
  simp only [ma_s] at hs
  cases hs
  intro H locs ls hH hF hl hn
  exact lv_iconst hx hb hdg rfl (k H locs ls hH hF hl hn)

theorem ma_o_bipush {n : Int} (X : ma_X D cl ks ad base sc G own ini p s m args meth c cc nL) (hdg : decode cc pc = .ok (.bipush n, 2)) (hlk : (Int8.ofInt n).toInt32 = Int32.ofInt n) (hs : ma_s sc ks (.bipush n) o L S h = some (L', S', h')) (k : ma_G D cl ad base p l e R s m args below meth c Q nL (pc + 2) L' S' h' cells slots) : ma_G D cl ad base p l e R s m args below meth c Q nL pc L S h cells slots := by
  obtain ⟨hx, hb, hml, hown, hts, hkn, had, hini, hcls, hsx, hsb⟩ := X
  simp only [ma_s] at hs
  cases hs
  intro H locs ls hH hF hl hn
  exact lv_bipush hx hb hdg hlk (k H locs ls hH hF hl hn)

theorem ma_o_sipush {n : Int} (X : ma_X D cl ks ad base sc G own ini p s m args meth c cc nL) (hdg : decode cc pc = .ok (.sipush n, 3)) (hlk : (Int16.ofInt n).toInt32 = Int32.ofInt n) (hs : ma_s sc ks (.sipush n) o L S h = some (L', S', h')) (k : ma_G D cl ad base p l e R s m args below meth c Q nL (pc + 3) L' S' h' cells slots) : ma_G D cl ad base p l e R s m args below meth c Q nL pc L S h cells slots := by
  obtain ⟨hx, hb, hml, hown, hts, hkn, had, hini, hcls, hsx, hsb⟩ := X
  simp only [ma_s] at hs
  cases hs
  intro H locs ls hH hF hl hn
  exact lv_sipush hx hb hdg hlk (k H locs ls hH hF hl hn)

theorem ma_o_lconst {n : Fin 2} (X : ma_X D cl ks ad base sc G own ini p s m args meth c cc nL) (hdg : decode cc pc = .ok (.lconst n, 1)) (hs : ma_s sc ks (.lconst n) o L S h = some (L', S', h')) (k : ma_G D cl ad base p l e R s m args below meth c Q nL (pc + 1) L' S' h' cells slots) : ma_G D cl ad base p l e R s m args below meth c Q nL pc L S h cells slots := by
  obtain ⟨hx, hb, hml, hown, hts, hkn, had, hini, hcls, hsx, hsb⟩ := X
  simp only [ma_s] at hs
  cases hs
  intro H locs ls hH hF hl hn
  exact lv_lconst hx hb hdg rfl (k H locs ls hH hF hl hn)

theorem ma_o_null (X : ma_X D cl ks ad base sc G own ini p s m args meth c cc nL) (hdg : decode cc pc = .ok (.aconst_null, 1)) (hs : ma_s sc ks (.aconst_null) o L S h = some (L', S', h')) (k : ma_G D cl ad base p l e R s m args below meth c Q nL (pc + 1) L' S' h' cells slots) : ma_G D cl ad base p l e R s m args below meth c Q nL pc L S h cells slots := by
  obtain ⟨hx, hb, hml, hown, hts, hkn, had, hini, hcls, hsx, hsb⟩ := X
  simp only [ma_s] at hs
  cases hs
  intro H locs ls hH hF hl hn
  exact lv_null hx hb hdg (k H locs ls hH hF hl hn)

theorem ma_o_iadd (X : ma_X D cl ks ad base sc G own ini p s m args meth c cc nL) (hdg : decode cc pc = .ok (.iadd, 1)) (hs : ma_s sc ks (.iadd) o L S h = some (L', S', h')) (k : ma_G D cl ad base p l e R s m args below meth c Q nL (pc + 1) L' S' h' cells slots) : ma_G D cl ad base p l e R s m args below meth c Q nL pc L S h cells slots := by
  obtain ⟨hx, hb, hml, hown, hts, hkn, had, hini, hcls, hsx, hsb⟩ := X
  simp only [ma_s] at hs
  split at hs
  · cases hs
    intro H locs ls hH hF hl hn
    exact lv_iadd hx hb hdg (k H locs ls hH hF hl hn)
  · cases hs

theorem ma_o_isub (X : ma_X D cl ks ad base sc G own ini p s m args meth c cc nL) (hdg : decode cc pc = .ok (.isub, 1)) (hs : ma_s sc ks (.isub) o L S h = some (L', S', h')) (k : ma_G D cl ad base p l e R s m args below meth c Q nL (pc + 1) L' S' h' cells slots) : ma_G D cl ad base p l e R s m args below meth c Q nL pc L S h cells slots := by
  obtain ⟨hx, hb, hml, hown, hts, hkn, had, hini, hcls, hsx, hsb⟩ := X
  simp only [ma_s] at hs
  split at hs
  · cases hs
    intro H locs ls hH hF hl hn
    exact lv_isub hx hb hdg (k H locs ls hH hF hl hn)
  · cases hs

theorem ma_o_imul (X : ma_X D cl ks ad base sc G own ini p s m args meth c cc nL) (hdg : decode cc pc = .ok (.imul, 1)) (hs : ma_s sc ks (.imul) o L S h = some (L', S', h')) (k : ma_G D cl ad base p l e R s m args below meth c Q nL (pc + 1) L' S' h' cells slots) : ma_G D cl ad base p l e R s m args below meth c Q nL pc L S h cells slots := by
  obtain ⟨hx, hb, hml, hown, hts, hkn, had, hini, hcls, hsx, hsb⟩ := X
  simp only [ma_s] at hs
  split at hs
  · cases hs
    intro H locs ls hH hF hl hn
    exact lv_imul hx hb hdg (k H locs ls hH hF hl hn)
  · cases hs

theorem ma_o_iand (X : ma_X D cl ks ad base sc G own ini p s m args meth c cc nL) (hdg : decode cc pc = .ok (.iand, 1)) (hs : ma_s sc ks (.iand) o L S h = some (L', S', h')) (k : ma_G D cl ad base p l e R s m args below meth c Q nL (pc + 1) L' S' h' cells slots) : ma_G D cl ad base p l e R s m args below meth c Q nL pc L S h cells slots := by
  obtain ⟨hx, hb, hml, hown, hts, hkn, had, hini, hcls, hsx, hsb⟩ := X
  simp only [ma_s] at hs
  split at hs
  · cases hs
    intro H locs ls hH hF hl hn
    exact lv_iand hx hb hdg (k H locs ls hH hF hl hn)
  · cases hs

theorem ma_o_ior (X : ma_X D cl ks ad base sc G own ini p s m args meth c cc nL) (hdg : decode cc pc = .ok (.ior, 1)) (hs : ma_s sc ks (.ior) o L S h = some (L', S', h')) (k : ma_G D cl ad base p l e R s m args below meth c Q nL (pc + 1) L' S' h' cells slots) : ma_G D cl ad base p l e R s m args below meth c Q nL pc L S h cells slots := by
  obtain ⟨hx, hb, hml, hown, hts, hkn, had, hini, hcls, hsx, hsb⟩ := X
  simp only [ma_s] at hs
  split at hs
  · cases hs
    intro H locs ls hH hF hl hn
    exact lv_ior hx hb hdg (k H locs ls hH hF hl hn)
  · cases hs

theorem ma_o_ixor (X : ma_X D cl ks ad base sc G own ini p s m args meth c cc nL) (hdg : decode cc pc = .ok (.ixor, 1)) (hs : ma_s sc ks (.ixor) o L S h = some (L', S', h')) (k : ma_G D cl ad base p l e R s m args below meth c Q nL (pc + 1) L' S' h' cells slots) : ma_G D cl ad base p l e R s m args below meth c Q nL pc L S h cells slots := by
  obtain ⟨hx, hb, hml, hown, hts, hkn, had, hini, hcls, hsx, hsb⟩ := X
  simp only [ma_s] at hs
  split at hs
  · cases hs
    intro H locs ls hH hF hl hn
    exact lv_ixor hx hb hdg (k H locs ls hH hF hl hn)
  · cases hs

theorem ma_o_ineg (X : ma_X D cl ks ad base sc G own ini p s m args meth c cc nL) (hdg : decode cc pc = .ok (.ineg, 1)) (hs : ma_s sc ks (.ineg) o L S h = some (L', S', h')) (k : ma_G D cl ad base p l e R s m args below meth c Q nL (pc + 1) L' S' h' cells slots) : ma_G D cl ad base p l e R s m args below meth c Q nL pc L S h cells slots := by
  obtain ⟨hx, hb, hml, hown, hts, hkn, had, hini, hcls, hsx, hsb⟩ := X
  simp only [ma_s] at hs
  split at hs
  · cases hs
    intro H locs ls hH hF hl hn
    exact lv_ineg hx hb hdg (k H locs ls hH hF hl hn)
  · cases hs

theorem ma_o_ishl (X : ma_X D cl ks ad base sc G own ini p s m args meth c cc nL) (hdg : decode cc pc = .ok (.ishl, 1)) (hs : ma_s sc ks (.ishl) o L S h = some (L', S', h')) (k : ma_G D cl ad base p l e R s m args below meth c Q nL (pc + 1) L' S' h' cells slots) : ma_G D cl ad base p l e R s m args below meth c Q nL pc L S h cells slots := by
  obtain ⟨hx, hb, hml, hown, hts, hkn, had, hini, hcls, hsx, hsb⟩ := X
  simp only [ma_s] at hs
  split at hs
  · cases hs
    intro H locs ls hH hF hl hn
    exact lv_ishl hx hb hdg (k H locs ls hH hF hl hn)
  · cases hs

theorem ma_o_ishr (X : ma_X D cl ks ad base sc G own ini p s m args meth c cc nL) (hdg : decode cc pc = .ok (.ishr, 1)) (hs : ma_s sc ks (.ishr) o L S h = some (L', S', h')) (k : ma_G D cl ad base p l e R s m args below meth c Q nL (pc + 1) L' S' h' cells slots) : ma_G D cl ad base p l e R s m args below meth c Q nL pc L S h cells slots := by
  obtain ⟨hx, hb, hml, hown, hts, hkn, had, hini, hcls, hsx, hsb⟩ := X
  simp only [ma_s] at hs
  split at hs
  · cases hs
    intro H locs ls hH hF hl hn
    exact lv_ishr hx hb hdg (k H locs ls hH hF hl hn)
  · cases hs

theorem ma_o_ladd (X : ma_X D cl ks ad base sc G own ini p s m args meth c cc nL) (hdg : decode cc pc = .ok (.ladd, 1)) (hs : ma_s sc ks (.ladd) o L S h = some (L', S', h')) (k : ma_G D cl ad base p l e R s m args below meth c Q nL (pc + 1) L' S' h' cells slots) : ma_G D cl ad base p l e R s m args below meth c Q nL pc L S h cells slots := by
  obtain ⟨hx, hb, hml, hown, hts, hkn, had, hini, hcls, hsx, hsb⟩ := X
  simp only [ma_s] at hs
  split at hs
  · cases hs
    intro H locs ls hH hF hl hn
    exact lv_ladd hx hb hdg (k H locs ls hH hF hl hn)
  · cases hs

theorem ma_o_land (X : ma_X D cl ks ad base sc G own ini p s m args meth c cc nL) (hdg : decode cc pc = .ok (.land, 1)) (hs : ma_s sc ks (.land) o L S h = some (L', S', h')) (k : ma_G D cl ad base p l e R s m args below meth c Q nL (pc + 1) L' S' h' cells slots) : ma_G D cl ad base p l e R s m args below meth c Q nL pc L S h cells slots := by
  obtain ⟨hx, hb, hml, hown, hts, hkn, had, hini, hcls, hsx, hsb⟩ := X
  simp only [ma_s] at hs
  split at hs
  · cases hs
    intro H locs ls hH hF hl hn
    exact lv_land hx hb hdg (k H locs ls hH hF hl hn)
  · cases hs

theorem ma_o_iushr (X : ma_X D cl ks ad base sc G own ini p s m args meth c cc nL) (hdg : decode cc pc = .ok (.iushr, 1)) (hs : ma_s sc ks (.iushr) o L S h = some (L', S', h')) (k : ma_G D cl ad base p l e R s m args below meth c Q nL (pc + 1) L' S' h' cells slots) : ma_G D cl ad base p l e R s m args below meth c Q nL pc L S h cells slots := by
  obtain ⟨hx, hb, hml, hown, hts, hkn, had, hini, hcls, hsx, hsb⟩ := X
  simp only [ma_s] at hs
  split at hs
  · cases hs
    intro H locs ls hH hF hl hn
    exact lv_iushr hx hb hdg rfl (k H locs ls hH hF hl hn)
  · cases hs

theorem ma_o_lshl (X : ma_X D cl ks ad base sc G own ini p s m args meth c cc nL) (hdg : decode cc pc = .ok (.lshl, 1)) (hs : ma_s sc ks (.lshl) o L S h = some (L', S', h')) (k : ma_G D cl ad base p l e R s m args below meth c Q nL (pc + 1) L' S' h' cells slots) : ma_G D cl ad base p l e R s m args below meth c Q nL pc L S h cells slots := by
  obtain ⟨hx, hb, hml, hown, hts, hkn, had, hini, hcls, hsx, hsb⟩ := X
  simp only [ma_s] at hs
  split at hs
  · cases hs
    intro H locs ls hH hF hl hn
    exact lv_lshl hx hb hdg rfl (k H locs ls hH hF hl hn)
  · cases hs

theorem ma_o_lshr (X : ma_X D cl ks ad base sc G own ini p s m args meth c cc nL) (hdg : decode cc pc = .ok (.lshr, 1)) (hs : ma_s sc ks (.lshr) o L S h = some (L', S', h')) (k : ma_G D cl ad base p l e R s m args below meth c Q nL (pc + 1) L' S' h' cells slots) : ma_G D cl ad base p l e R s m args below meth c Q nL pc L S h cells slots := by
  obtain ⟨hx, hb, hml, hown, hts, hkn, had, hini, hcls, hsx, hsb⟩ := X
  simp only [ma_s] at hs
  split at hs
  · cases hs
    intro H locs ls hH hF hl hn
    exact lv_lshr hx hb hdg rfl (k H locs ls hH hF hl hn)
  · cases hs

theorem ma_o_i2l (X : ma_X D cl ks ad base sc G own ini p s m args meth c cc nL) (hdg : decode cc pc = .ok (.i2l, 1)) (hs : ma_s sc ks (.i2l) o L S h = some (L', S', h')) (k : ma_G D cl ad base p l e R s m args below meth c Q nL (pc + 1) L' S' h' cells slots) : ma_G D cl ad base p l e R s m args below meth c Q nL pc L S h cells slots := by
  obtain ⟨hx, hb, hml, hown, hts, hkn, had, hini, hcls, hsx, hsb⟩ := X
  simp only [ma_s] at hs
  split at hs
  · cases hs
    intro H locs ls hH hF hl hn
    exact lv_i2l hx hb hdg rfl (k H locs ls hH hF hl hn)
  · cases hs

theorem ma_o_l2i (X : ma_X D cl ks ad base sc G own ini p s m args meth c cc nL) (hdg : decode cc pc = .ok (.l2i, 1)) (hs : ma_s sc ks (.l2i) o L S h = some (L', S', h')) (k : ma_G D cl ad base p l e R s m args below meth c Q nL (pc + 1) L' S' h' cells slots) : ma_G D cl ad base p l e R s m args below meth c Q nL pc L S h cells slots := by
  obtain ⟨hx, hb, hml, hown, hts, hkn, had, hini, hcls, hsx, hsb⟩ := X
  simp only [ma_s] at hs
  split at hs
  · cases hs
    intro H locs ls hH hF hl hn
    exact lv_l2i hx hb hdg rfl (k H locs ls hH hF hl hn)
  · cases hs

theorem ma_o_i2b (X : ma_X D cl ks ad base sc G own ini p s m args meth c cc nL) (hdg : decode cc pc = .ok (.i2b, 1)) (hs : ma_s sc ks (.i2b) o L S h = some (L', S', h')) (k : ma_G D cl ad base p l e R s m args below meth c Q nL (pc + 1) L' S' h' cells slots) : ma_G D cl ad base p l e R s m args below meth c Q nL pc L S h cells slots := by
  obtain ⟨hx, hb, hml, hown, hts, hkn, had, hini, hcls, hsx, hsb⟩ := X
  simp only [ma_s] at hs
  split at hs
  · cases hs
    intro H locs ls hH hF hl hn
    exact lv_i2b hx hb hdg rfl (k H locs ls hH hF hl hn)
  · cases hs

theorem ma_o_i2c (X : ma_X D cl ks ad base sc G own ini p s m args meth c cc nL) (hdg : decode cc pc = .ok (.i2c, 1)) (hs : ma_s sc ks (.i2c) o L S h = some (L', S', h')) (k : ma_G D cl ad base p l e R s m args below meth c Q nL (pc + 1) L' S' h' cells slots) : ma_G D cl ad base p l e R s m args below meth c Q nL pc L S h cells slots := by
  obtain ⟨hx, hb, hml, hown, hts, hkn, had, hini, hcls, hsx, hsb⟩ := X
  simp only [ma_s] at hs
  split at hs
  · cases hs
    intro H locs ls hH hF hl hn
    exact lv_i2c hx hb hdg rfl (k H locs ls hH hF hl hn)
  · cases hs

theorem ma_o_lcmp (X : ma_X D cl ks ad base sc G own ini p s m args meth c cc nL) (hdg : decode cc pc = .ok (.lcmp, 1)) (hs : ma_s sc ks (.lcmp) o L S h = some (L', S', h')) (k : ma_G D cl ad base p l e R s m args below meth c Q nL (pc + 1) L' S' h' cells slots) : ma_G D cl ad base p l e R s m args below meth c Q nL pc L S h cells slots := by
  obtain ⟨hx, hb, hml, hown, hts, hkn, had, hini, hcls, hsx, hsb⟩ := X
  simp only [ma_s] at hs
  split at hs
  · cases hs
    intro H locs ls hH hF hl hn
    exact W.lcmp hx hb hdg (k H locs ls hH hF hl hn)
  · cases hs

theorem ma_o_idiv (X : ma_X D cl ks ad base sc G own ini p s m args meth c cc nL) (hdg : decode cc pc = .ok (.idiv, 1)) (hs : ma_s sc ks (.idiv) o L S h = some (L', S', h')) (k : ma_G D cl ad base p l e R s m args below meth c Q nL (pc + 1) L' S' h' cells slots) : ma_G D cl ad base p l e R s m args below meth c Q nL pc L S h cells slots := by
  obtain ⟨hx, hb, hml, hown, hts, hkn, had, hini, hcls, hsx, hsb⟩ := X
  simp only [ma_s] at hs
  split at hs
  · split at hs
    next => cases hs
    next hz =>
      cases hs
      intro H locs ls hH hF hl hn
      exact lv_idiv hx hb hdg hz (k H locs ls hH hF hl hn)
  · cases hs

theorem ma_o_irem (X : ma_X D cl ks ad base sc G own ini p s m args meth c cc nL) (hdg : decode cc pc = .ok (.irem, 1)) (hs : ma_s sc ks (.irem) o L S h = some (L', S', h')) (k : ma_G D cl ad base p l e R s m args below meth c Q nL (pc + 1) L' S' h' cells slots) : ma_G D cl ad base p l e R s m args below meth c Q nL pc L S h cells slots := by
  obtain ⟨hx, hb, hml, hown, hts, hkn, had, hini, hcls, hsx, hsb⟩ := X
  simp only [ma_s] at hs
  split at hs
  · split at hs
    next => cases hs
    next hz =>
      cases hs
      intro H locs ls hH hF hl hn
      exact lv_irem hx hb hdg hz (k H locs ls hH hF hl hn)
  · cases hs

theorem ma_o_dup (X : ma_X D cl ks ad base sc G own ini p s m args meth c cc nL) (hdg : decode cc pc = .ok (.dup, 1)) (hs : ma_s sc ks (.dup) o L S h = some (L', S', h')) (k : ma_G D cl ad base p l e R s m args below meth c Q nL (pc + 1) L' S' h' cells slots) : ma_G D cl ad base p l e R s m args below meth c Q nL pc L S h cells slots := by
  obtain ⟨hx, hb, hml, hown, hts, hkn, had, hini, hcls, hsx, hsb⟩ := X
  simp only [ma_s] at hs
  split at hs
  · cases hs
    intro H locs ls hH hF hl hn
    exact lv_dup hx hb hdg rfl (k H locs ls hH hF hl hn)
  · cases hs
    intro H locs ls hH hF hl hn
    exact lv_dup hx hb hdg rfl (k H locs ls hH hF hl hn)
  · cases hs

theorem ma_o_dup2 (X : ma_X D cl ks ad base sc G own ini p s m args meth c cc nL) (hdg : decode cc pc = .ok (.dup2, 1)) (hs : ma_s sc ks (.dup2) o L S h = some (L', S', h')) (k : ma_G D cl ad base p l e R s m args below meth c Q nL (pc + 1) L' S' h' cells slots) : ma_G D cl ad base p l e R s m args below meth c Q nL pc L S h cells slots := by
  obtain ⟨hx, hb, hml, hown, hts, hkn, had, hini, hcls, hsx, hsb⟩ := X
  simp only [ma_s] at hs
  split at hs
  · cases hs
    intro H locs ls hH hF hl hn
    exact lv_dup2_11 hx hb hdg rfl rfl (k H locs ls hH hF hl hn)
  · cases hs
    intro H locs ls hH hF hl hn
    exact lv_dup2_11 hx hb hdg rfl rfl (k H locs ls hH hF hl hn)
  · cases hs

theorem ma_o_pop (X : ma_X D cl ks ad base sc G own ini p s m args meth c cc nL) (hdg : decode cc pc = .ok (.pop, 1)) (hs : ma_s sc ks (.pop) o L S h = some (L', S', h')) (k : ma_G D cl ad base p l e R s m args below meth c Q nL (pc + 1) L' S' h' cells slots) : ma_G D cl ad base p l e R s m args below meth c Q nL pc L S h cells slots := by
  obtain ⟨hx, hb, hml, hown, hts, hkn, had, hini, hcls, hsx, hsb⟩ := X
  simp only [ma_s] at hs
  split at hs
  · cases hs
    intro H locs ls hH hF hl hn
    exact lv_pop (va := .int _) hx hb hdg rfl (k H locs ls hH hF hl hn)
  · cases hs
    intro H locs ls hH hF hl hn
    exact lv_pop (va := .ref _) hx hb hdg rfl (k H locs ls hH hF hl hn)
  · cases hs

theorem ma_o_iload {j : Nat} (X : ma_X D cl ks ad base sc G own ini p s m args meth c cc nL) (hdg : decode cc pc = .ok (.iload j, 2)) (hs : ma_s sc ks (.iload j) o L S h = some (L', S', h')) (k : ma_G D cl ad base p l e R s m args below meth c Q nL (pc + 2) L' S' h' cells slots) : ma_G D cl ad base p l e R s m args below meth c Q nL pc L S h cells slots := by
  obtain ⟨hx, hb, hml, hown, hts, hkn, had, hini, hcls, hsx, hsb⟩ := X
  simp only [ma_s] at hs
  split at hs
  next x hq =>
    cases hs
    intro H locs ls hH hF hl hn
    exact lv_iload hx hb hdg (ma_lv_get hl hq (Or.inl rfl)) (k H locs ls hH hF hl hn)
  next => cases hs

theorem ma_o_iload_n {j : Fin 4} (X : ma_X D cl ks ad base sc G own ini p s m args meth c cc nL) (hdg : decode cc pc = .ok (.iload_n j, 1)) (hs : ma_s sc ks (.iload_n j) o L S h = some (L', S', h')) (k : ma_G D cl ad base p l e R s m args below meth c Q nL (pc + 1) L' S' h' cells slots) : ma_G D cl ad base p l e R s m args below meth c Q nL pc L S h cells slots := by
  obtain ⟨hx, hb, hml, hown, hts, hkn, had, hini, hcls, hsx, hsb⟩ := X
  simp only [ma_s] at hs
  split at hs
  next x hq =>
    cases hs
    intro H locs ls hH hF hl hn
    exact lv_iload_n hx hb hdg rfl (ma_lv_get hl hq (Or.inl rfl)) (k H locs ls hH hF hl hn)
  next => cases hs

theorem ma_o_lload {j : Nat} (X : ma_X D cl ks ad base sc G own ini p s m args meth c cc nL) (hdg : decode cc pc = .ok (.lload j, 2)) (hs : ma_s sc ks (.lload j) o L S h = some (L', S', h')) (k : ma_G D cl ad base p l e R s m args below meth c Q nL (pc + 2) L' S' h' cells slots) : ma_G D cl ad base p l e R s m args below meth c Q nL pc L S h cells slots := by
  obtain ⟨hx, hb, hml, hown, hts, hkn, had, hini, hcls, hsx, hsb⟩ := X
  simp only [ma_s] at hs
  split at hs
  next x hq hq2 =>
    cases hs
    intro H locs ls hH hF hl hn
    exact lv_lload hx hb hdg (ma_lv_get hl hq (Or.inr hq2)) (k H locs ls hH hF hl hn)
  next => cases hs

theorem ma_o_lload_n {j : Fin 4} (X : ma_X D cl ks ad base sc G own ini p s m args meth c cc nL) (hdg : decode cc pc = .ok (.lload_n j, 1)) (hs : ma_s sc ks (.lload_n j) o L S h = some (L', S', h')) (k : ma_G D cl ad base p l e R s m args below meth c Q nL (pc + 1) L' S' h' cells slots) : ma_G D cl ad base p l e R s m args below meth c Q nL pc L S h cells slots := by
  obtain ⟨hx, hb, hml, hown, hts, hkn, had, hini, hcls, hsx, hsb⟩ := X
  simp only [ma_s] at hs
  split at hs
  next x hq hq2 =>
    cases hs
    intro H locs ls hH hF hl hn
    exact lv_lload_n hx hb hdg rfl (ma_lv_get hl hq (Or.inr hq2)) (k H locs ls hH hF hl hn)
  next => cases hs

theorem ma_o_aload {j : Nat} (X : ma_X D cl ks ad base sc G own ini p s m args meth c cc nL) (hdg : decode cc pc = .ok (.aload j, 2)) (hs : ma_s sc ks (.aload j) o L S h = some (L', S', h')) (k : ma_G D cl ad base p l e R s m args below meth c Q nL (pc + 2) L' S' h' cells slots) : ma_G D cl ad base p l e R s m args below meth c Q nL pc L S h cells slots := by
  obtain ⟨hx, hb, hml, hown, hts, hkn, had, hini, hcls, hsx, hsb⟩ := X
  simp only [ma_s] at hs
  split at hs
  next x hq =>
    cases hs
    intro H locs ls hH hF hl hn
    exact lv_aload hx hb hdg (ma_lv_get hl hq (Or.inl rfl)) (k H locs ls hH hF hl hn)
  next hq =>
    cases hs
    intro H locs ls hH hF hl hn
    exact lv_aloadN hx hb hdg (ma_lv_get hl hq (Or.inl rfl)) (k H locs ls hH hF hl hn)
  next => cases hs

theorem ma_o_aload_n {j : Fin 4} (X : ma_X D cl ks ad base sc G own ini p s m args meth c cc nL) (hdg : decode cc pc = .ok (.aload_n j, 1)) (hs : ma_s sc ks (.aload_n j) o L S h = some (L', S', h')) (k : ma_G D cl ad base p l e R s m args below meth c Q nL (pc + 1) L' S' h' cells slots) : ma_G D cl ad base p l e R s m args below meth c Q nL pc L S h cells slots := by
  obtain ⟨hx, hb, hml, hown, hts, hkn, had, hini, hcls, hsx, hsb⟩ := X
  simp only [ma_s] at hs
  split at hs
  next x hq =>
    cases hs
    intro H locs ls hH hF hl hn
    exact lv_aload_n hx hb hdg rfl (ma_lv_get hl hq (Or.inl rfl)) (k H locs ls hH hF hl hn)
  next hq =>
    cases hs
    intro H locs ls hH hF hl hn
    exact lv_aload_nN hx hb hdg rfl (ma_lv_get hl hq (Or.inl rfl)) (k H locs ls hH hF hl hn)
  next => cases hs

theorem ma_o_istore {j : Nat} (X : ma_X D cl ks ad base sc G own ini p s m args meth c cc nL) (hdg : decode cc pc = .ok (.istore j, 2)) (hs : ma_s sc ks (.istore j) o L S h = some (L', S', h')) (k : ma_G D cl ad base p l e R s m args below meth c Q nL (pc + 2) L' S' h' cells slots) : ma_G D cl ad base p l e R s m args below meth c Q nL pc L S h cells slots := by
  obtain ⟨hx, hb, hml, hown, hts, hkn, had, hini, hcls, hsx, hsb⟩ := X
  simp only [ma_s] at hs
  split at hs
  next =>
    split at hs
    next hlt =>
      cases hs
      intro H locs ls hH hF hl hn
      exact lv_istore hx hb hdg hl (by rw [← hn]; exact hlt) rfl (fun ls' hl' => k H locs ls' hH hF (ma_lv_set (v := .int _) rfl hl') (by simp [hn]))
    next => cases hs
  next => cases hs

theorem ma_o_istore_n {j : Fin 4} (X : ma_X D cl ks ad base sc G own ini p s m args meth c cc nL) (hdg : decode cc pc = .ok (.istore_n j, 1)) (hs : ma_s sc ks (.istore_n j) o L S h = some (L', S', h')) (k : ma_G D cl ad base p l e R s m args below meth c Q nL (pc + 1) L' S' h' cells slots) : ma_G D cl ad base p l e R s m args below meth c Q nL pc L S h cells slots := by
  obtain ⟨hx, hb, hml, hown, hts, hkn, had, hini, hcls, hsx, hsb⟩ := X
  simp only [ma_s] at hs
  split at hs
  next =>
    split at hs
    next hlt =>
      cases hs
      intro H locs ls hH hF hl hn
      exact lv_istore_n hx hb hdg rfl hl (by rw [← hn]; exact hlt) rfl (fun ls' hl' => k H locs ls' hH hF (ma_lv_set (v := .int _) rfl hl') (by simp [hn]))
    next => cases hs
  next => cases hs

theorem ma_o_lstore {j : Nat} (X : ma_X D cl ks ad base sc G own ini p s m args meth c cc nL) (hdg : decode cc pc = .ok (.lstore j, 2)) (hs : ma_s sc ks (.lstore j) o L S h = some (L', S', h')) (k : ma_G D cl ad base p l e R s m args below meth c Q nL (pc + 2) L' S' h' cells slots) : ma_G D cl ad base p l e R s m args below meth c Q nL pc L S h cells slots := by
  obtain ⟨hx, hb, hml, hown, hts, hkn, had, hini, hcls, hsx, hsb⟩ := X
  simp only [ma_s] at hs
  split at hs
  next =>
    split at hs
    next hlt =>
      cases hs
      intro H locs ls hH hF hl hn
      exact lv_lstore hx hb hdg hl (by rw [← hn]; exact hlt) rfl (fun ls' hl' => k H locs ls' hH hF (ma_lv_set2 hl') (by simp [hn]))
    next => cases hs
  next => cases hs

theorem ma_o_lstore_n {j : Fin 4} (X : ma_X D cl ks ad base sc G own ini p s m args meth c cc nL) (hdg : decode cc pc = .ok (.lstore_n j, 1)) (hs : ma_s sc ks (.lstore_n j) o L S h = some (L', S', h')) (k : ma_G D cl ad base p l e R s m args below meth c Q nL (pc + 1) L' S' h' cells slots) : ma_G D cl ad base p l e R s m args below meth c Q nL pc L S h cells slots := by
  obtain ⟨hx, hb, hml, hown, hts, hkn, had, hini, hcls, hsx, hsb⟩ := X
  simp only [ma_s] at hs
  split at hs
  next =>
    split at hs
    next hlt =>
      cases hs
      intro H locs ls hH hF hl hn
      exact lv_lstore_n hx hb hdg rfl hl (by rw [← hn]; exact hlt) rfl (fun ls' hl' => k H locs ls' hH hF (ma_lv_set2 hl') (by simp [hn]))
    next => cases hs
  next => cases hs

theorem ma_o_astore {j : Nat} (X : ma_X D cl ks ad base sc G own ini p s m args meth c cc nL) (hdg : decode cc pc = .ok (.astore j, 2)) (hs : ma_s sc ks (.astore j) o L S h = some (L', S', h')) (k : ma_G D cl ad base p l e R s m args below meth c Q nL (pc + 2) L' S' h' cells slots) : ma_G D cl ad base p l e R s m args below meth c Q nL pc L S h cells slots := by
  obtain ⟨hx, hb, hml, hown, hts, hkn, had, hini, hcls, hsx, hsb⟩ := X
  simp only [ma_s] at hs
  split at hs
  next =>
    split at hs
    next hlt =>
      cases hs
      intro H locs ls hH hF hl hn
      exact lv_astore hx hb hdg hl (by rw [← hn]; exact hlt) rfl (fun ls' hl' => k H locs ls' hH hF (ma_lv_set (v := .ref _) rfl hl') (by simp [hn]))
    next => cases hs
  next =>
    split at hs
    next hlt =>
      cases hs
      intro H locs ls hH hF hl hn
      exact lv_astoreN hx hb hdg hl (by rw [← hn]; exact hlt) rfl (fun ls' hl' => k H locs ls' hH hF (ma_lv_set (v := .null) rfl hl') (by simp [hn]))
    next => cases hs
  next => cases hs

theorem ma_o_astore_n {j : Fin 4} (X : ma_X D cl ks ad base sc G own ini p s m args meth c cc nL) (hdg : decode cc pc = .ok (.astore_n j, 1)) (hs : ma_s sc ks (.astore_n j) o L S h = some (L', S', h')) (k : ma_G D cl ad base p l e R s m args below meth c Q nL (pc + 1) L' S' h' cells slots) : ma_G D cl ad base p l e R s m args below meth c Q nL pc L S h cells slots := by
  obtain ⟨hx, hb, hml, hown, hts, hkn, had, hini, hcls, hsx, hsb⟩ := X
  simp only [ma_s] at hs
  split at hs
  next =>
    split at hs
    next hlt =>
      cases hs
      intro H locs ls hH hF hl hn
      exact lv_astore_n hx hb hdg rfl hl (by rw [← hn]; exact hlt) rfl (fun ls' hl' => k H locs ls' hH hF (ma_lv_set (v := .ref _) rfl hl') (by simp [hn]))
    next => cases hs
  next =>
    split at hs
    next hlt =>
      cases hs
      intro H locs ls hH hF hl hn
      exact lv_astore_nN hx hb hdg rfl hl (by rw [← hn]; exact hlt) rfl (fun ls' hl' => k H locs ls' hH hF (ma_lv_set (v := .null) rfl hl') (by simp [hn]))
    next => cases hs
  next => cases hs

theorem ma_o_iinc {j : Nat} {n : Int} (X : ma_X D cl ks ad base sc G own ini p s m args meth c cc nL) (hdg : decode cc pc = .ok (.iinc j n, 3)) (hs : ma_s sc ks (.iinc j n) o L S h = some (L', S', h')) (k : ma_G D cl ad base p l e R s m args below meth c Q nL (pc + 3) L' S' h' cells slots) : ma_G D cl ad base p l e R s m args below meth c Q nL pc L S h cells slots := by
  obtain ⟨hx, hb, hml, hown, hts, hkn, had, hini, hcls, hsx, hsb⟩ := X
  simp only [ma_s] at hs
  split at hs
  next x hq =>
    cases hs
    intro H locs ls hH hF hl hn
    obtain ⟨kq, hkq⟩ := List.mem_iff_getElem?.mp (ma_lv_mem (ad := ad) (q := (j, ma_va ad (.int x))).mpr ⟨_, ma_ld_some hq, Or.inl rfl, rfl⟩)
    exact lv_iinc hx hb hdg hl hkq rfl (by rw [← hn]; exact (List.getElem?_eq_some_iff.mp (ma_ld_some hq)).1) rfl (fun ls' hl' => k H locs ls' hH hF (ma_lv_set (v := .int _) rfl hl') (by simp [hn]))
  next => cases hs

theorem ma_o_ldc {x : Nat} (X : ma_X D cl ks ad base sc G own ini p s m args meth c cc nL) (hdg : decode cc pc = .ok (.ldc x, 2)) (hlk : ∀ v, o = [0, v] → Jvm.Cond.constant own x (Int32.ofNat v) ∈ G) (hlt : ∀ v, o = [1, v] → ∀ (H : Heap) (locs : List Loc) (ls : Array Slot), ma_H D cl ad base s H h → ma_F base s H locs → ls.size = nL → W p l e R s m args below meth c H locs cells slots Q (F0 m (pc + 2) ls (.ref (ad (4097 + v)) :: S.map (ma_va ad))) → W p l e R s m args below meth c H locs cells slots Q (F0 m pc ls (S.map (ma_va ad)))) (hs : ma_s sc ks (.ldc x) o L S h = some (L', S', h')) (k : ma_G D cl ad base p l e R s m args below meth c Q nL (pc + 2) L' S' h' cells slots) : ma_G D cl ad base p l e R s m args below meth c Q nL pc L S h cells slots := by
  obtain ⟨hx, hb, hml, hown, hts, hkn, had, hini, hcls, hsx, hsb⟩ := X
  simp only [ma_s] at hs
  split at hs
  next v =>
    cases hs
    intro H locs ls hH hF hl hn
    exact lv_ldc hx hb hown (hts _ (hlk v rfl)) hdg (k H locs ls hH hF hl hn)
  next v =>
    cases hs
    intro H locs ls hH hF hl hn
    exact hlt v rfl H locs ls hH hF hl.1 (k H locs ls hH hF hl hn)
  next => cases hs

theorem ma_o_ldc_w {x : Nat} (X : ma_X D cl ks ad base sc G own ini p s m args meth c cc nL) (hdg : decode cc pc = .ok (.ldc_w x, 3)) (hlk : ∀ v, o = [0, v] → Jvm.Cond.constant own x (Int32.ofNat v) ∈ G) (hs : ma_s sc ks (.ldc_w x) o L S h = some (L', S', h')) (k : ma_G D cl ad base p l e R s m args below meth c Q nL (pc + 3) L' S' h' cells slots) : ma_G D cl ad base p l e R s m args below meth c Q nL pc L S h cells slots := by
  obtain ⟨hx, hb, hml, hown, hts, hkn, had, hini, hcls, hsx, hsb⟩ := X
  simp only [ma_s] at hs
  split at hs
  next v =>
    cases hs
    intro H locs ls hH hF hl hn
    exact lv_ldcw hx hb hown (hts _ (hlk v rfl)) hdg (k H locs ls hH hF hl hn)
  next => cases hs

theorem ma_o_ldc2_w {x : Nat} (X : ma_X D cl ks ad base sc G own ini p s m args meth c cc nL) (hdg : decode cc pc = .ok (.ldc2_w x, 3)) (hlk : ∀ v, o = [v] → Jvm.Cond.constantLong own x (Int64.ofNat v) ∈ G) (hs : ma_s sc ks (.ldc2_w x) o L S h = some (L', S', h')) (k : ma_G D cl ad base p l e R s m args below meth c Q nL (pc + 3) L' S' h' cells slots) : ma_G D cl ad base p l e R s m args below meth c Q nL pc L S h cells slots := by
  obtain ⟨hx, hb, hml, hown, hts, hkn, had, hini, hcls, hsx, hsb⟩ := X
  simp only [ma_s] at hs
  split at hs
  next v =>
    cases hs
    intro H locs ls hH hF hl hn
    exact lv_ldc2 hx hb hown (hts _ (hlk v rfl)) hdg (k H locs ls hH hF hl hn)
  next => cases hs

theorem ma_H.adr {H : Heap} (hH : ma_H D cl ad base s H h) (had : ∀ k, k < 4096 → ad k = base + k) {k : Nat} {x : ma_C} (hk : h[k]? = some x) : ad k = base + k := had k (by
  have h1 := (List.getElem?_eq_some_iff.mp hk).1
  have h2 := hH.2.1
  omega)
theorem ma_one {H : Heap} (hH : ma_H D cl ad base s H h) {k ci : Nat} {fs : List Value} (hk : h[k]? = some (.inr (ci, fs))) : va_P D cl [(base + k, .inr (ci, fs.map (ma_va ad)))] H := by
  intro k0 q hq
  have h0 : k0 < 1 := (List.getElem?_eq_some_iff.mp hq).1
  rw [show k0 = 0 by omega] at hq
  cases hq
  obtain ⟨r, h1, -, h3⟩ := hH.2.2 _ _ hk
  exact ⟨r, h1, h3⟩

theorem ma_o_getfield {x : Nat} (X : ma_X D cl ks ad base sc G own ini p s m args meth c cc nL) (hdg : decode cc pc = .ok (.getfield x, 3)) (hlk : ∀ ci j r, o = ci :: j :: r → ma_fl cl G own x ci j) (hs : ma_s sc ks (.getfield x) o L S h = some (L', S', h')) (k : ma_G D cl ad base p l e R s m args below meth c Q nL (pc + 3) L' S' h' cells slots) : ma_G D cl ad base p l e R s m args below meth c Q nL pc L S h cells slots := by
  obtain ⟨hx, hb, hml, hown, hts, hkn, had, hini, hcls, hsx, hsb⟩ := X
  simp only [ma_s] at hs
  split at hs
  next ci j r kk S2 =>
    split at hs
    next c2 fs hk =>
      split at hs
      next he =>
        subst he
        split at hs
        next v hv =>
          cases hs
          intro H locs ls hH hF hl hn
          obtain ⟨C, T, N, hc, hj, hlnk⟩ := hlk _ _ _ rfl
          have eA := hH.adr had hk
          have hP := ma_one hH hk
          have hK : va_K D cl [] s := ⟨hkn, fun _ _ z => by simp at z⟩
          have hT : (T j).1 = C := ((hcls _ _ _ _ hc).2.2.2 j hj).1
          have hv' : (fs.map (ma_va ad))[j]? = some (ma_va ad v) := by rw [List.getElem?_map, hv]; rfl
          show W p l e R s m args below meth c H locs cells slots Q (F0 m pc ls (.ref (ad kk) :: S2.map (ma_va ad)))
          rw [eA]
          rcases hlnk with hlnk | ⟨host, hlnk⟩
          · exact va_get hx hb hts (hcls _ _ _ _ hc).1 hown hK hP 0 rfl hc j hj (hts _ hlnk) (fun z hz => by rw [hT] at hz; exact hz) hv' hdg (k H locs ls hH hF hl hn)
          · exact va_getN hx hb hts (hcls _ _ _ _ hc).1 hown hK hP 0 rfl hc j hj (hts _ hlnk) (fun z hz => by rw [hT] at hz; exact hz) hv' hdg (k H locs ls hH hF hl hn)
        next => cases hs
      next => cases hs
    next => cases hs
  next => cases hs

theorem ma_o_putfield {x : Nat} (X : ma_X D cl ks ad base sc G own ini p s m args meth c cc nL) (hdg : decode cc pc = .ok (.putfield x, 3)) (hlk : ∀ ci j t r, o = ci :: j :: t :: r → ma_fp cl G own ini x ci j ∧ (ks ci)[j]? = some t) (hs : ma_s sc ks (.putfield x) o L S h = some (L', S', h')) (k : ma_G D cl ad base p l e R s m args below meth c Q nL (pc + 3) L' S' h' cells slots) : ma_G D cl ad base p l e R s m args below meth c Q nL pc L S h cells slots := by
  obtain ⟨hx, hb, hml, hown, hts, hkn, had, hini, hcls, hsx, hsb⟩ := X
  simp only [ma_s] at hs
  split at hs
  next ci j t r v kk S2 =>
    split at hs
    next c2 fs hk =>
      split at hs
      next he =>
        obtain ⟨he, hjl, hfit⟩ := he
        subst he
        cases hs
        intro H locs ls hH hF hl hn
        obtain ⟨⟨C, T, N, hc, hj, hlnk⟩, hkt⟩ := hlk _ _ _ _ rfl
        obtain ⟨hin, hnm, hklen, hty⟩ := hcls _ _ _ _ hc
        obtain ⟨hT, ty, hd, t2, ht2, hkt2⟩ := hty j hj
        rw [hkt] at ht2
        cases ht2
        obtain ⟨hna, hft⟩ := ma_kt_fit (ad := ad) hkt2 hfit
        have eA := hH.adr had hk
        have hK : va_K D cl [] s := ⟨hkn, fun _ _ z => by simp at z⟩
        obtain ⟨r2, hr2, hlen, cell, q1, q2, q3, q4⟩ := hH.2.2 _ _ hk
        cases hc.symm.trans hr2
        have hap := va_apart (own := own) hts hin (fun k => (parseFieldDescriptor (T k).2.2.1).getD .int) (fun k hk => by obtain ⟨-, ty, h1, -⟩ := hty k hk; rw [h1]; rfl) hnm hK hc
        obtain ⟨hS, hfc, kC, hkC, hkind⟩ := hkn _ _ hc
        obtain ⟨cf, kf, fi, f, hi, hsl⟩ := hS j hj
        have hi2 : s.fieldFound? C (T j).2.1 (T j).2.2.1 = some (cf, kf, fi, f) := by rw [← hT]; exact hi
        have hlay := hts _ (hin _ (u_in_lay hj))
        unfold u_lay at hlay
        have hst := (u_facts hfc hkC (u_lays hts hin hj) hi).1
        have fin : ∀ H1 : Heap, H1[base + kk]? = some (cell.setSlot f.slot (ma_va ad v)) → H1.size = H.size → (∀ q, q ≠ base + kk → H1[q]? = H[q]?) → W p l e R s m args below meth c H1 (locs ++ [⟨base + kk, f.slot⟩]) cells slots Q (F0 m (pc + 3) ls (S'.map (ma_va ad))) := by
          intro H1 e1 e2 e3
          rw [hsl] at e1
          refine k H1 _ ls (hH.set e2 e3 ⟨_, hc, by simp [hlen], t_OB.to (V := updV (vp_V (fs.map (ma_va ad))) j (ma_va ad v)) ⟨_, e1, q2, q3, t_set q4 hap hj (ma_va ad v)⟩ (fun i _ => ?_)⟩) (hF.put (by omega) e3) hl hn
          rw [vp_updV_set (by simpa using hjl), ← List.map_set]
        show W p l e R s m args below meth c H locs cells slots Q (F0 m pc ls (ma_va ad v :: .ref (ad kk) :: S'.map (ma_va ad)))
        rw [eA]
        rcases hlnk with ⟨hfi, hlnk⟩ | ⟨hfi, hi0, hCo, hlnk⟩
        · rw [if_neg (by rw [hfi]; decide)] at hlay
          have h6 := u_store hfc hkC hkind hlay hi hd hna hft
          rcases hlnk with hlnk | ⟨host, hlnk⟩
          · exact W.putK hx hb (f := f) ⟨hown, hts _ hlnk, ⟨_, _, _, hi2⟩, hst⟩ (by rw [q2]; exact h6) q1 q3 (by rw [hsl]; exact k2_hasslot (q4 j hj)) rfl rfl hdg fin
          · exact va_WputK hx hb (f := f) hown (hts _ hlnk) hi2 hst (by rw [q2]; exact h6) q1 q3 (by rw [hsl]; exact k2_hasslot (q4 j hj)) rfl rfl hdg fin
        · rw [if_pos hfi] at hlay
          have hcf : m.cls = cf := by
            have h9 : s.vm.findClass C = some cf := by
              obtain ⟨_, _, c', _, _, _, -, -, hf', -, -, -, hown2, -⟩ := Cond.laysFinal_spec hlay
              cases hi.symm.trans hf'
              rw [hT] at hown2
              exact hown2
            rw [hCo, hown] at h9
            exact Option.some.inj h9
          have h6 := u_fits hfc hkC hkind (Or.inr hlay) hi hd hna hft
          exact W.putFinK hx hb hown (hts _ hlnk) hi2 hst hcf (hini hi0) (by rw [q2]; exact h6) q1 q3 (by rw [hsl]; exact k2_hasslot (q4 j hj)) rfl rfl hdg fin
      next => cases hs
    next => cases hs
  next => cases hs

theorem ma_o_iaload (X : ma_X D cl ks ad base sc G own ini p s m args meth c cc nL) (hdg : decode cc pc = .ok (.iaload, 1)) (hs : ma_s sc ks (.iaload) o L S h = some (L', S', h')) (k : ma_G D cl ad base p l e R s m args below meth c Q nL (pc + 1) L' S' h' cells slots) : ma_G D cl ad base p l e R s m args below meth c Q nL pc L S h cells slots := by
  obtain ⟨hx, hb, hml, hown, hts, hkn, had, hini, hcls, hsx, hsb⟩ := X
  simp only [ma_s] at hs
  split at hs
  next i kk S2 =>
    split at hs
    next n f hk =>
      split at hs
      next => cases hs
      next hz =>
        cases hs
        intro H locs ls hH hF hl hn
        unfold ma_g at hk
        split at hk
        next he =>
          cases hk
          subst he
          obtain ⟨scr, z1, z2, z3, z4, z5⟩ := hsx
          have z1' : H[ad 4096]? = some scr := (hF.1 _ hsb).trans z1
          exact W.iald (v := .int (sc.2 i.toNatClampNeg)) hx hb z1' z2 z3 (by rw [z4]; exact hz) (z5 _ (Nat.not_le.mp fun q => hz (Or.inr q))) rfl rfl hdg (k H locs ls hH hF hl hn)
        next =>
          have eA := hH.adr had hk
          obtain ⟨cA, h1, h2, h3⟩ := hH.2.2 _ _ hk
          show W p l e R s m args below meth c H locs cells slots Q (F0 m pc ls (.int i :: .ref (ad kk) :: S2.map (ma_va ad)))
          rw [eA]
          have hlt : i.toNatClampNeg < n := Nat.not_le.mp fun q => hz (Or.inr q)
          have h3 : H[base + kk]? = some (arrV cA n (fun j => .int (f j))) := h3
          exact W.iald (v := .int (f i.toNatClampNeg)) hx hb h3 (h1 n (fun j => .int (f j))) (fun q => by cases q) (by show ¬ (i < 0 ∨ (arrV _ _ _).slots.size ≤ _); rw [arrV_size]; exact hz) (by show (arrV _ _ _).slots[_]? = _; rw [arrV_read _ _ hlt]) rfl rfl hdg (k H locs ls hH hF hl hn)
    next => cases hs
  next => cases hs

theorem ma_o_arraylength (X : ma_X D cl ks ad base sc G own ini p s m args meth c cc nL) (hdg : decode cc pc = .ok (.arraylength, 1)) (hs : ma_s sc ks (.arraylength) o L S h = some (L', S', h')) (k : ma_G D cl ad base p l e R s m args below meth c Q nL (pc + 1) L' S' h' cells slots) : ma_G D cl ad base p l e R s m args below meth c Q nL pc L S h cells slots := by
  obtain ⟨hx, hb, hml, hown, hts, hkn, had, hini, hcls, hsx, hsb⟩ := X
  simp only [ma_s] at hs
  split at hs
  next kk S2 =>
    split at hs
    next t n f hk =>
      cases hs
      intro H locs ls hH hF hl hn
      unfold ma_g at hk
      split at hk
      next he =>
        cases hk
        subst he
        obtain ⟨scr, z1, z2, z3, z4, z5⟩ := hsx
        have z1' : H[ad 4096]? = some scr := (hF.1 _ hsb).trans z1
        exact W.alen hx hb z1' z2 (by rw [z4]) rfl rfl hdg (k H locs ls hH hF hl hn)
      next =>
        have eA := hH.adr had hk
        obtain ⟨cA, h1, h2, h3⟩ := hH.2.2 _ _ hk
        show W p l e R s m args below meth c H locs cells slots Q (F0 m pc ls (.ref (ad kk) :: S2.map (ma_va ad)))
        rw [eA]
        have hP : va_P D cl [(base + kk, .inl (cA, ma_ac ad (n, f)))] H := by
          intro k0 q hq
          have h0 : k0 < 1 := (List.getElem?_eq_some_iff.mp hq).1
          rw [show k0 = 0 by omega] at hq
          cases hq
          exact h3
        obtain ⟨q0, q1⟩ : ∃ z : Nat → Value, vp_cell cA (ma_ac ad (n, f)) = arrV cA n z := by
          unfold vp_cell ma_ac
          dsimp only
          split <;> exact ⟨_, rfl⟩
        rw [q1] at h3
        exact W.alen hx hb h3 (h1 n q0) (by rw [arrV_size]) rfl rfl hdg (k H locs ls hH hF hl hn)
    next => cases hs
  next => cases hs

theorem ma_o_baload (X : ma_X D cl ks ad base sc G own ini p s m args meth c cc nL) (hdg : decode cc pc = .ok (.baload, 1)) (hs : ma_s sc ks (.baload) o L S h = some (L', S', h')) (k : ma_G D cl ad base p l e R s m args below meth c Q nL (pc + 1) L' S' h' cells slots) : ma_G D cl ad base p l e R s m args below meth c Q nL pc L S h cells slots := by
  obtain ⟨hx, hb, hml, hown, hts, hkn, had, hini, hcls, hsx, hsb⟩ := X
  simp only [ma_s] at hs
  split at hs
  next i kk S2 =>
    split at hs
    next n f hk =>
      split at hs
      next => cases hs
      next hz =>
        cases hs
        intro H locs ls hH hF hl hn
        have eA := hH.adr had hk
        obtain ⟨cA, h1, h2, h3⟩ := hH.2.2 _ _ hk
        show W p l e R s m args below meth c H locs cells slots Q (F0 m pc ls (.int i :: .ref (ad kk) :: S2.map (ma_va ad)))
        rw [eA]
        have hlt : i.toNatClampNeg < n := Nat.not_le.mp fun q => hz (Or.inr q)
        have h3 : H[base + kk]? = some (arrV cA n (fun j => .int (f j))) := h3
        exact W.bald (v := .int (f i.toNatClampNeg)) hx hb h3 (h1 n (fun j => .int (f j))) (fun q => by cases q) (by show ¬ (i < 0 ∨ (arrV _ _ _).slots.size ≤ _); rw [arrV_size]; exact hz) (by show (arrV _ _ _).slots[_]? = _; rw [arrV_read _ _ hlt]) rfl rfl hdg (k H locs ls hH hF hl hn)
    next => cases hs
  next => cases hs

theorem ma_o_laload (X : ma_X D cl ks ad base sc G own ini p s m args meth c cc nL) (hdg : decode cc pc = .ok (.laload, 1)) (hs : ma_s sc ks (.laload) o L S h = some (L', S', h')) (k : ma_G D cl ad base p l e R s m args below meth c Q nL (pc + 1) L' S' h' cells slots) : ma_G D cl ad base p l e R s m args below meth c Q nL pc L S h cells slots := by
  obtain ⟨hx, hb, hml, hown, hts, hkn, had, hini, hcls, hsx, hsb⟩ := X
  simp only [ma_s] at hs
  split at hs
  next i kk S2 =>
    split at hs
    next n f hk =>
      split at hs
      next => cases hs
      next hz =>
        cases hs
        intro H locs ls hH hF hl hn
        have eA := hH.adr had hk
        obtain ⟨cA, h1, h2, h3⟩ := hH.2.2 _ _ hk
        show W p l e R s m args below meth c H locs cells slots Q (F0 m pc ls (.int i :: .ref (ad kk) :: S2.map (ma_va ad)))
        rw [eA]
        have hlt : i.toNatClampNeg < n := Nat.not_le.mp fun q => hz (Or.inr q)
        have h3 : H[base + kk]? = some (arrV cA n (fun j => .long (f j))) := h3
        exact W.lald (v := .long (f i.toNatClampNeg)) hx hb h3 (h1 n (fun j => .long (f j))) (fun q => by cases q) (by show ¬ (i < 0 ∨ (arrV _ _ _).slots.size ≤ _); rw [arrV_size]; exact hz) (by show (arrV _ _ _).slots[_]? = _; rw [arrV_read _ _ hlt]) rfl rfl hdg (k H locs ls hH hF hl hn)
    next => cases hs
  next => cases hs

theorem ma_rfm (r : Option Nat) : ma_va ad (va_rf r) = va_rf (r.map ad) := by cases r <;> rfl
theorem ma_tyr {t : Nat} (h : ¬ t < 3) : (ma_ty t).isReference = true := by
  match t, h with
  | 3, _ => rfl
  | t + 4, _ => rfl

theorem ma_o_aaload (X : ma_X D cl ks ad base sc G own ini p s m args meth c cc nL) (hdg : decode cc pc = .ok (.aaload, 1)) (hs : ma_s sc ks (.aaload) o L S h = some (L', S', h')) (k : ma_G D cl ad base p l e R s m args below meth c Q nL (pc + 1) L' S' h' cells slots) : ma_G D cl ad base p l e R s m args below meth c Q nL pc L S h cells slots := by
  obtain ⟨hx, hb, hml, hown, hts, hkn, had, hini, hcls, hsx, hsb⟩ := X
  simp only [ma_s] at hs
  split at hs
  next i kk S2 =>
    split at hs
    next t n f hk =>
      split at hs
      next => cases hs
      next hz =>
        cases hs
        intro H locs ls hH hF hl hn
        have eA := hH.adr had hk
        obtain ⟨cA, h1, h2, h3⟩ := hH.2.2 _ _ hk
        show W p l e R s m args below meth c H locs cells slots Q (F0 m pc ls (.int i :: .ref (ad kk) :: S2.map (ma_va ad)))
        rw [eA]
        have hz1 : ¬ (i < 0 ∨ n ≤ i.toNatClampNeg) := fun q => hz (q.elim Or.inl (fun q => Or.inr (Or.inl q)))
        have hz2 : ¬ t < 3 := fun q => hz (Or.inr (Or.inr q))
        have hlt : i.toNatClampNeg < n := Nat.not_le.mp fun q => hz1 (Or.inr q)
        have kk2 := k H locs ls hH hF hl hn
        have h3 : H[base + kk]? = some (arrV cA n (fun j => va_rf ((f j).map ad))) := h3
        rw [List.map_cons, ma_rfm] at kk2
        exact W.aald (v := va_rf ((f i.toNatClampNeg).map ad)) (ty := ma_ty t) hx hb h3 (h1 n (fun j => va_rf ((f j).map ad))) (ma_tyr hz2) (fun q => by cases q) (by show ¬ (i < 0 ∨ (arrV _ _ _).slots.size ≤ _); rw [arrV_size]; exact hz1) (by show (arrV _ _ _).slots[_]? = _; rw [arrV_read _ _ hlt]) rfl rfl hdg kk2
    next => cases hs
  next => cases hs

theorem ma_o_iastore (X : ma_X D cl ks ad base sc G own ini p s m args meth c cc nL) (hdg : decode cc pc = .ok (.iastore, 1)) (hs : ma_s sc ks (.iastore) o L S h = some (L', S', h')) (k : ma_G D cl ad base p l e R s m args below meth c Q nL (pc + 1) L' S' h' cells slots) : ma_G D cl ad base p l e R s m args below meth c Q nL pc L S h cells slots := by
  obtain ⟨hx, hb, hml, hown, hts, hkn, had, hini, hcls, hsx, hsb⟩ := X
  simp only [ma_s] at hs
  split at hs
  next x i kk S2 =>
    split at hs
    next n f hk =>
      split at hs
      next => cases hs
      next hz =>
        cases hs
        intro H locs ls hH hF hl hn
        have eA := hH.adr had hk
        obtain ⟨cA, h1, h2, h3⟩ := hH.2.2 _ _ hk
        show W p l e R s m args below meth c H locs cells slots Q (F0 m pc ls (.int x :: .int i :: .ref (ad kk) :: S'.map (ma_va ad)))
        rw [eA]
        refine W.iast hx hb h3 (h1 n (fun j => .int (f j))) (fun q => by cases q) (by show ¬ (i < 0 ∨ (arrV _ _ _).slots.size ≤ _); rw [arrV_size]; exact hz) rfl rfl hdg fun H1 e1 e2 e3 => ?_
        refine k H1 _ ls (hH.set e2 e3 ⟨cA, h1, h2, ?_⟩) (hF.put (by omega) e3) hl hn
        rw [e1]
        show some ((arrV cA n (fun j => .int (f j))).setSlot i.toNatClampNeg (.int x)) = some (arrV cA n (fun j => .int ((upd f i.toNatClampNeg x) j)))
        rw [arrV_store]
        congr 2
        funext q
        by_cases hq : q = i.toNatClampNeg
        · subst hq
          simp [updV, upd, vp_updL]
          try rfl
        · simp [updV, upd, vp_updL, hq]
    next => cases hs
  next => cases hs

theorem ma_o_bastore (X : ma_X D cl ks ad base sc G own ini p s m args meth c cc nL) (hdg : decode cc pc = .ok (.bastore, 1)) (hs : ma_s sc ks (.bastore) o L S h = some (L', S', h')) (k : ma_G D cl ad base p l e R s m args below meth c Q nL (pc + 1) L' S' h' cells slots) : ma_G D cl ad base p l e R s m args below meth c Q nL pc L S h cells slots := by
  obtain ⟨hx, hb, hml, hown, hts, hkn, had, hini, hcls, hsx, hsb⟩ := X
  simp only [ma_s] at hs
  split at hs
  next x i kk S2 =>
    split at hs
    next n f hk =>
      split at hs
      next => cases hs
      next hz =>
        cases hs
        intro H locs ls hH hF hl hn
        have eA := hH.adr had hk
        obtain ⟨cA, h1, h2, h3⟩ := hH.2.2 _ _ hk
        show W p l e R s m args below meth c H locs cells slots Q (F0 m pc ls (.int x :: .int i :: .ref (ad kk) :: S'.map (ma_va ad)))
        rw [eA]
        refine W.bast hx hb h3 (h1 n (fun j => .int (f j))) (fun q => by cases q) (by show ¬ (i < 0 ∨ (arrV _ _ _).slots.size ≤ _); rw [arrV_size]; exact hz) rfl rfl hdg fun H1 e1 e2 e3 => ?_
        refine k H1 _ ls (hH.set e2 e3 ⟨cA, h1, h2, ?_⟩) (hF.put (by omega) e3) hl hn
        rw [e1]
        show some ((arrV cA n (fun j => .int (f j))).setSlot i.toNatClampNeg (narrow .byte (.int x))) = some (arrV cA n (fun j => .int ((upd f i.toNatClampNeg (vp_nar .byte x)) j)))
        rw [arrV_store]
        congr 2
        funext q
        by_cases hq : q = i.toNatClampNeg
        · subst hq
          simp [updV, upd, vp_updL, vp_nar]
          try rfl
        · simp [updV, upd, vp_updL, hq]
    next => cases hs
  next => cases hs

theorem ma_o_lastore (X : ma_X D cl ks ad base sc G own ini p s m args meth c cc nL) (hdg : decode cc pc = .ok (.lastore, 1)) (hs : ma_s sc ks (.lastore) o L S h = some (L', S', h')) (k : ma_G D cl ad base p l e R s m args below meth c Q nL (pc + 1) L' S' h' cells slots) : ma_G D cl ad base p l e R s m args below meth c Q nL pc L S h cells slots := by
  obtain ⟨hx, hb, hml, hown, hts, hkn, had, hini, hcls, hsx, hsb⟩ := X
  simp only [ma_s] at hs
  split at hs
  next x i kk S2 =>
    split at hs
    next n f hk =>
      split at hs
      next => cases hs
      next hz =>
        cases hs
        intro H locs ls hH hF hl hn
        have eA := hH.adr had hk
        obtain ⟨cA, h1, h2, h3⟩ := hH.2.2 _ _ hk
        show W p l e R s m args below meth c H locs cells slots Q (F0 m pc ls (.long x :: .int i :: .ref (ad kk) :: S'.map (ma_va ad)))
        rw [eA]
        refine W.last hx hb h3 (h1 n (fun j => .long (f j))) (fun q => by cases q) (by show ¬ (i < 0 ∨ (arrV _ _ _).slots.size ≤ _); rw [arrV_size]; exact hz) rfl rfl hdg fun H1 e1 e2 e3 => ?_
        refine k H1 _ ls (hH.set e2 e3 ⟨cA, h1, h2, ?_⟩) (hF.put (by omega) e3) hl hn
        rw [e1]
        show some ((arrV cA n (fun j => .long (f j))).setSlot i.toNatClampNeg (.long x)) = some (arrV cA n (fun j => .long ((vp_updL f i.toNatClampNeg x) j)))
        rw [arrV_store]
        congr 2
        funext q
        by_cases hq : q = i.toNatClampNeg
        · subst hq
          simp [updV, upd, vp_updL]
          try rfl
        · simp [updV, upd, vp_updL, hq]
    next => cases hs
  next => cases hs

theorem ma_o_aastore (X : ma_X D cl ks ad base sc G own ini p s m args meth c cc nL) (hdg : decode cc pc = .ok (.aastore, 1)) (hlk : ∀ ci r, o = ci :: r → ∃ T N, cl[ci]? = some ("LetHorizon$Line", T, N)) (hs : ma_s sc ks (.aastore) o L S h = some (L', S', h')) (k : ma_G D cl ad base p l e R s m args below meth c Q nL (pc + 1) L' S' h' cells slots) : ma_G D cl ad base p l e R s m args below meth c Q nL pc L S h cells slots := by
  obtain ⟨hx, hb, hml, hown, hts, hkn, had, hini, hcls, hsx, hsb⟩ := X
  simp only [ma_s] at hs
  split at hs
  next ci r v i kk S2 =>
    split at hs
    next n f c2 fs hk hv =>
      split at hs
      next => cases hs
      next hz =>
        cases hs
        intro H locs ls hH hF hl hn
        have eA := hH.adr had hk
        have eV := hH.adr had hv
        obtain ⟨cA, h1, h2, h3⟩ := hH.2.2 _ _ hk
        have hci : c2 = ci := Classical.byContradiction fun q => hz (Or.inr (Or.inr q))
        subst hci
        obtain ⟨T, N, hcl⟩ := hlk _ _ rfl
        obtain ⟨r', hr', -, cellV, g1, g2, g3, -⟩ := hH.2.2 _ _ hv
        have hz1 : ¬ (i < 0 ∨ n ≤ i.toNatClampNeg) := fun q => hz (q.elim Or.inl (fun q => Or.inr (Or.inl q)))
        have hlt : i.toNatClampNeg < n := Nat.not_le.mp fun q => hz1 (Or.inr q)
        have h0 : ¬ i < 0 := fun q => hz1 (Or.inl q)
        have hcls2 := (hkn _ _ hcl).2
        obtain ⟨kA, comp, k1, k2, k3, -⟩ := h2 rfl
        have hcomp : comp = D.1 c2 := Option.some.inj (k3.symm.trans hcls2.1)
        subst hcomp
        obtain ⟨kC, hkC, hkd⟩ := hcls2.2
        show W p l e R s m args below meth c H locs cells slots Q (F0 m pc ls (.ref (ad v) :: .int i :: .ref (ad kk) :: S'.map (ma_va ad)))
        rw [eA, eV]
        refine W.aast hx hb h3 (fun q h => by cases h) (fun h => by cases h) k1 k2 rfl hkC ⟨h0, by show _ < (arrV _ _ _).slots.size; rw [arrV_size]; exact hlt⟩ g1 (fun q h => by rw [g3] at h; cases h) (by rw [g2]; exact hkC) (by rw [g2]; exact va_assign hcls2) rfl rfl hdg fun H1 e1 e2 e3 => ?_
        refine k H1 _ ls (hH.set e2 e3 ⟨cA, h1, h2, ?_⟩) (hF.put (by omega) e3) hl hn
        rw [e1]
        show some ((arrV cA n (fun j => va_rf ((f j).map ad))).setSlot i.toNatClampNeg (.ref (base + v))) = some (arrV cA n (fun j => va_rf ((va_up f i.toNatClampNeg (some v) j).map ad)))
        rw [arrV_store]
        congr 2
        funext q
        by_cases hq : q = i.toNatClampNeg
        · subst hq
          simp [updV, va_up, va_rf, eV]
        · simp [updV, va_up, hq]
    next => cases hs
  next => cases hs

theorem ma_o_new {x sl' : Nat} (X : ma_X D cl ks ad base sc G own ini p s m args meth c cc nL) (hdg : decode cc pc = .ok (.new x, 3)) (hlk : ∀ ci r, o = ci :: r → ∃ C T N, cl[ci]? = some (C, T, N) ∧ Jvm.Cond.classLink own x C ∈ G ∧ Jvm.Cond.instantiable C N ∈ G ∧ Jvm.Cond.initialized C ∈ G) (hcells : cells + 1 ≤ R.cells) (hslots : ∀ ci r q, o = ci :: r → cl[ci]? = some q → slots + (ks ci).length ≤ R.slots) (hslEq : ∀ ci r, o = ci :: r → sl' = slots + (ks ci).length) (hs : ma_s sc ks (.new x) o L S h = some (L', S', h')) (k : ma_G D cl ad base p l e R s m args below meth c Q nL (pc + 3) L' S' h' (cells + 1) sl') : ma_G D cl ad base p l e R s m args below meth c Q nL pc L S h cells slots := by
  obtain ⟨hx, hb, hml, hown, hts, hkn, had, hini, hcls, hsx, hsb⟩ := X
  simp only [ma_s] at hs
  split at hs
  next ci r =>
    split at hs
    next => cases hs
    next hz =>
      cases hs
      intro H locs ls hH hF hl hn
      obtain ⟨C, T, N, hc, hl1, hl2, hl3⟩ := hlk _ _ rfl
      obtain ⟨hin, hnm, hklen, hty⟩ := hcls _ _ _ _ hc
      have hKn := hkn _ _ hc
      have hsz : H.size = ad h.length := by rw [had _ (by omega)]; exact hH.1
      refine W.newcK hx hb hown (hts _ hl1) (hts _ hl2) (hts _ hl3) rfl hdg hcells (by have := hslots _ _ _ rfl hc; rw [hklen] at this; exact this) hKn.2.1 rfl fun H1 kC hkC e1 z1 o1 => ?_
      have hk2 := k H1 locs ls (hH.push hz z1 o1 ⟨_, hc, by simp [ma_df, hklen], ?_⟩) (hF.push (by rw [hH.1]; omega) o1) hl hn
      · rw [List.map_cons] at hk2
        have e9 : (ma_va ad (.ref h.length)) = .ref H.size := by rw [hsz]; rfl
        rw [e9] at hk2
        rw [hslEq _ _ rfl, hklen] at hk2
        exact hk2
      · refine (u_born (fun k => (parseFieldDescriptor (T k).2.2.1).getD .int) hts hin hKn hkC e1 (fun k hk => by obtain ⟨-, ty, h1, -⟩ := hty k hk; rw [h1]; rfl)).to (fun j hj => ?_)
        obtain ⟨-, ty, h1, t, ht, hkt⟩ := hty j hj
        rw [h1]
        simp only [Option.getD_some, vp_V, List.getD_eq_getElem?_getD, List.getElem?_map, ma_df, ht, Option.map_some]
        unfold ma_kt at hkt
        split at hkt <;> first | rfl | cases hkt
  next => cases hs

theorem ma_o_newarray {a : ArrayType} {sl' : Nat} (X : ma_X D cl ks ad base sc G own ini p s m args meth c cc nL) (hdg : decode cc pc = .ok (.newarray a, 2)) (hlk : Jvm.Cond.arrayClass (newarray.typeOf a) ∈ G) (hcells : cells + 1 ≤ R.cells) (hslots : ∀ n S2, S = .int n :: S2 → slots + n.toNatClampNeg ≤ R.slots) (hslEq : ∀ n S2, S = .int n :: S2 → sl' = slots + n.toNatClampNeg) (hs : ma_s sc ks (.newarray a) o L S h = some (L', S', h')) (k : ma_G D cl ad base p l e R s m args below meth c Q nL (pc + 2) L' S' h' (cells + 1) sl') : ma_G D cl ad base p l e R s m args below meth c Q nL pc L S h cells slots := by
  obtain ⟨hx, hb, hml, hown, hts, hkn, had, hini, hcls, hsx, hsb⟩ := X
  simp only [ma_s] at hs
  split at hs
  next t n S2 hta =>
    split at hs
    next => cases hs
    next hz =>
      cases hs
      intro H locs ls hH hF hl hn
      have hz0 : ¬ n < 0 := fun q => hz (Or.inl q)
      have hz1 : ¬ 4095 < h.length := fun q => hz (Or.inr (Or.inl q))
      have hz2 : ¬ 20000 < n.toNatClampNeg := fun q => hz (Or.inr (Or.inr q))
      have hsz : H.size = ad h.length := by rw [had _ (by omega)]; exact hH.1
      have htyE : newarray.typeOf a = ma_ty t ∧ t < 3 ∧ componentBytes (ma_ty t) ≤ 8 ∧ ∀ cA N, arrV cA N (fun _ => defaultValue (ma_ty t)) = vp_cell cA (ma_ac ad (N, ma_new t)) := by
        unfold ma_atc at hta
        split at hta <;> cases hta <;> exact ⟨rfl, by decide, by decide, fun _ _ => rfl⟩
      obtain ⟨ht1, ht2, ht3, ht4⟩ := htyE
      refine W.newaK hx hb (hts _ hlk) rfl hdg rfl hz0 rfl (by rw [ht1]; have := Nat.mul_le_mul (Nat.le_of_not_lt hz2) ht3; omega) hcells (hslots n S2 rfl) rfl fun H1 cA e1 z1 o1 hAr => ?_
      have hk2 := k H1 locs ls (hH.push hz1 z1 o1 ⟨cA, by rw [← ht1]; exact hAr, fun z => by simp only at z; omega, by rw [e1, ht1]; rw [ht4]⟩) (hF.push (by rw [hH.1]; omega) o1) hl hn
      rw [List.map_cons] at hk2
      have e9 : (ma_va ad (.ref h.length)) = .ref H.size := by rw [hsz]; rfl
      rw [e9, hslEq n S2 rfl] at hk2
      exact hk2
  next => cases hs

theorem ma_o_anewarray {x sl' : Nat} (X : ma_X D cl ks ad base sc G own ini p s m args meth c cc nL) (hdg : decode cc pc = .ok (.anewarray x, 3)) (hlk : Jvm.Cond.classLink own x "LetHorizon$Line" ∈ G ∧ Jvm.Cond.arrayOver (.object "LetHorizon$Line") ∈ G) (hcells : cells + 1 ≤ R.cells) (hslots : ∀ n S2, S = .int n :: S2 → slots + n.toNatClampNeg ≤ R.slots) (hslEq : ∀ n S2, S = .int n :: S2 → sl' = slots + n.toNatClampNeg) (hs : ma_s sc ks (.anewarray x) o L S h = some (L', S', h')) (k : ma_G D cl ad base p l e R s m args below meth c Q nL (pc + 3) L' S' h' (cells + 1) sl') : ma_G D cl ad base p l e R s m args below meth c Q nL pc L S h cells slots := by
  obtain ⟨hx, hb, hml, hown, hts, hkn, had, hini, hcls, hsx, hsb⟩ := X
  simp only [ma_s] at hs
  split at hs
  next n S2 =>
    split at hs
    next => cases hs
    next hz =>
      cases hs
      intro H locs ls hH hF hl hn
      have hz0 : ¬ n < 0 := fun q => hz (Or.inl q)
      have hz1 : ¬ 4095 < h.length := fun q => hz (Or.inr (Or.inl q))
      have hz2 : ¬ 20000 < n.toNatClampNeg := fun q => hz (Or.inr (Or.inr q))
      have hsz : H.size = ad h.length := by rw [had _ (by omega)]; exact hH.1
      refine W.anew hx hb hown (hts _ hlk.1) (hts _ hlk.2) rfl hdg rfl hz0 (by omega) hcells (hslots n S2 rfl) fun cA kA comp h1 h2 h3 h4 => ?_
      have hk2 := k (H.push { cls := cA, slots := Array.replicate n.toNatClampNeg .null, vm := .none }) locs ls (hH.push hz1 (by simp) (fun q hq => by rw [Array.getElem?_push, if_neg (Nat.ne_of_lt hq)]) ⟨cA, fun n z => ⟨fun k h => (by cases h), kA, h2, comp, h3⟩, fun _ => ⟨kA, comp, h2, h3, h4, h1⟩, by rw [arrV_new]; simp; rfl⟩) (hF.push (by rw [hH.1]; omega) (fun q hq => by rw [Array.getElem?_push, if_neg (Nat.ne_of_lt hq)])) hl hn
      rw [List.map_cons] at hk2
      have e9 : (ma_va ad (.ref h.length)) = .ref H.size := by rw [hsz]; rfl
      rw [e9, hslEq n S2 rfl] at hk2
      exact hk2
  next => cases hs

end MS
end
section
/-! ===== jumps, calls, what the machine does itself ===== -/
def ma_cz : ma_C → Nat
  | .inl q => q.2.1
  | .inr q => q.2.length
def ma_sl (h : List ma_C) : Nat := (h.map ma_cz).sum
theorem ma_sl_set {h : List ma_C} {k : Nat} {x y : ma_C} (hk : h[k]? = some x) (e : ma_cz y = ma_cz x) : ma_sl (h.set k y) = ma_sl h := by
  induction h generalizing k with
  | nil => simp at hk
  | cons a t ih =>
    cases k with
    | zero =>
      simp only [List.getElem?_cons_zero, Option.some.injEq] at hk
      subst hk
      simp [ma_sl, e]
    | succ k =>
      rw [List.getElem?_cons_succ] at hk
      have := ih hk
      simp only [ma_sl, List.set_cons_succ, List.map_cons, List.sum_cons] at this ⊢
      omega
theorem ma_sl_app (a b : List ma_C) : ma_sl (a ++ b) = ma_sl a + ma_sl b := by simp [ma_sl]
/-- the numbers of cells and places never fall -/
def ma_le (h h' : List ma_C) : Prop := h.length ≤ h'.length ∧ ma_sl h ≤ ma_sl h'
theorem ma_le.rf {h : List ma_C} : ma_le h h := ⟨Nat.le_refl _, Nat.le_refl _⟩
theorem ma_le.tr {a b c : List ma_C} (h1 : ma_le a b) (h2 : ma_le b c) : ma_le a c := ⟨Nat.le_trans h1.1 h2.1, Nat.le_trans h1.2 h2.2⟩
theorem ma_le.set {h : List ma_C} {k : Nat} {x y : ma_C} (hk : h[k]? = some x) (e : ma_cz y = ma_cz x) : ma_le h (h.set k y) := ⟨by simp, by rw [ma_sl_set hk e]; exact Nat.le_refl _⟩
theorem ma_le.app {h t : List ma_C} : ma_le h (h ++ t) := ⟨by simp, by rw [ma_sl_app]; omega⟩
theorem ma_s_le {sc : Nat × (Nat → Int32)} {ks : Nat → List Nat} {i : Instr} {o : List Nat} {L L' : ma_L} {S S' : List Value} {h h' : List ma_C} (hs : ma_s sc ks i o L S h = some (L', S', h')) : ma_le h h' := by
  unfold ma_s at hs
  repeat' split at hs
  all_goals first
    | (cases hs; done)
    | (cases hs; exact ma_le.rf)
    | (cases hs; exact ma_le.app)
    | (cases hs; rename_i hk _; exact ma_le.set hk rfl)
    | (cases hs; rename_i hk _; exact ma_le.set hk (by simp [ma_cz]))
    | (cases hs; rename_i hk _ _; exact ma_le.set hk rfl)
theorem ma_x_le {tx : Nat → Int32 → Option Int32} {i : Instr} {o : List Nat} {S S' : List Value} {h h' : List ma_C} (hs : ma_x tx i o S h = some (S', h')) : ma_le h h' := by
  unfold ma_x at hs
  repeat' split at hs
  all_goals first
    | (cases hs; done)
    | (cases hs; exact ma_le.rf)
    | (cases hs; rename_i hk _; exact ma_le.set hk rfl)
theorem ma_run_le {P : ma_P} : ∀ (n d m : Nat) (is : List ma_I) (L : ma_L) (S : List Value) (h : List ma_C) (r : Option Value) (h' : List ma_C), ma_run P n d m is L S h = some (r, h') → ma_le h h'
  | 0, _, _, _, _, _, _, _, _, hr => by simp [ma_run] at hr
  | n + 1, d, m, [], L, S, h, r, h', hr => by simp [ma_run] at hr
  | n + 1, d, m, (i, o) :: is, L, S, h, r, h', hr => by
    unfold ma_run at hr
    split at hr
    · split at hr
      next L1 S1 h1 hs => exact (ma_s_le hs).tr (ma_run_le n _ _ _ _ _ _ _ _ hr)
      next => cases hr
    · split at hr
      · exact ma_run_le n _ _ _ _ _ _ _ _ hr
      · exact ma_run_le n _ _ _ _ _ _ _ _ hr
      · cases hr
    · split at hr
      · split at hr
        · cases hr
        split at hr
        · cases hr
        · split at hr
          next r1 h1 h2 => exact (ma_run_le n _ _ _ _ _ _ _ _ h2).tr (ma_run_le n _ _ _ _ _ _ _ _ hr)
          next => cases hr
      · cases hr
    · split at hr
      · cases hr; exact ma_le.rf
      · cases hr
    · split at hr
      next S1 h1 hs =>
        split at hs
        next => cases hs
        next => exact (ma_x_le hs).tr (ma_run_le n _ _ _ _ _ _ _ _ hr)
      next => cases hr
/-- how long an instruction is -/
def ma_ln (pc : Nat) : Instr → Nat
  | .bipush _ | .ldc _ | .iload _ | .lload _ | .aload _ | .istore _ | .lstore _ | .astore _ | .newarray _ => 2
  | .sipush _ | .ldc_w _ | .ldc2_w _ | .getfield _ | .putfield _ | .new _ | .anewarray _ | .iinc _ _ | .goto _ | .if_icmp _ _ | .ifCond _ _ | .ifnull _ | .ifnonnull _ | .invokevirtual _ | .invokespecial _ | .invokestatic _ => 3
  | .multianewarray _ _ => 4
  | .tableswitch _ _ _ offs => 1 + (4 - (pc + 1) % 4) % 4 + 12 + 4 * offs.size
  | _ => 1
def ma_jt (pc : Nat) : Instr → List Nat → Prop
  | .nop, [t] => pc = t
  | .goto off, [t] => (pc : Int) + off = (t : Int)
  | .if_icmp _ off, [t] => (pc : Int) + off = (t : Int)
  | .ifCond _ off, [t] => (pc : Int) + off = (t : Int)
  | .ifnull off, [t] => (pc : Int) + off = (t : Int)
  | .ifnonnull off, [t] => (pc : Int) + off = (t : Int)
  | .tableswitch d _ _ offs, t0 :: ts => (pc : Int) + d = (t0 : Int) ∧ offs.toList.map (fun off => (pc : Int) + off) = ts.map (fun (t : Nat) => (t : Int))
  | _, _ => False
section MJ
variable {D : va_G} {cl : List vw_C} {ks : Nat → List Nat} {ad : Nat → Nat} {base : Nat} {G : List Jvm.Cond} {own : String} {ini : Bool} {p : Program} {l : Launch} {e : Env} {R : Room} {s : State} {m : MethodId} {args : Array Value} {below : List Frame} {meth : Method} {c : Code} {cc : ByteArray} {nL pc : Nat} {Q : State → Prop} {sc : Nat × (Nat → Int32)} {o : List Nat} {L : ma_L} {S S' : List Value} {h h' : List ma_C} {cells slots : Nat}
theorem ma_o_j {i : Instr} {t : Option Nat} (X : ma_X D cl ks ad base sc G own ini p s m args meth c cc nL) (hdg : i = .nop ∨ decode cc pc = .ok (i, ma_ln pc i)) (hjt : ma_jt pc i o) (hs : ma_j i o S = some (t, S')) (k : ma_G D cl ad base p l e R s m args below meth c Q nL (t.getD (pc + ma_ln pc i)) L S' h cells slots) : ma_G D cl ad base p l e R s m args below meth c Q nL pc L S h cells slots := by
  obtain ⟨hx, hb, -⟩ := X
  intro H locs ls hH hF hl hn
  have kk := k H locs ls hH hF hl hn
  unfold ma_j at hs
  split at hs
  · split at hs
    · cases hs
      have hjt : pc = _ := hjt
      rw [hjt]
      exact kk
    · cases hs
  · replace hdg := hdg.resolve_left (fun z => by cases z)
    split at hs
    · cases hs
      exact lv_goto hx hb hdg hjt kk
    · cases hs
  · replace hdg := hdg.resolve_left (fun z => by cases z)
    rename_i cnd off
    split at hs
    · rename_i tt y x S2
      obtain ⟨e1, e2⟩ := Prod.mk.inj (Option.some.inj hs)
      subst e2
      have hjt : (pc : Int) + off = (tt : Int) := hjt
      have kT : ∀ b : Bool, ma_cmp cnd x y = b → (b = true → W p l e R s m args below meth c H locs cells slots Q (F0 m tt ls (S2.map (ma_va ad)))) ∧ (b = false → W p l e R s m args below meth c H locs cells slots Q (F0 m (pc + 3) ls (S2.map (ma_va ad)))) := by
        intro b hbb
        rw [← e1, hbb] at kk
        cases b
        · exact ⟨fun z => (by cases z), fun _ => kk⟩
        · exact ⟨fun _ => kk, fun z => by cases z⟩
      cases cnd with
      | eq => exact lv_icmp_eq hx hb hdg hjt (fun z => (kT true (decide_eq_true z)).1 rfl) (fun z => (kT false (decide_eq_false z)).2 rfl)
      | ne => exact lv_icmp_ne hx hb hdg hjt (fun z => (kT true (decide_eq_true z)).1 rfl) (fun z => (kT false (decide_eq_false (fun q => q z))).2 rfl)
      | lt => exact lv_icmp_lt hx hb hdg hjt (fun z => (kT true (decide_eq_true z)).1 rfl) (fun z => (kT false (decide_eq_false z)).2 rfl)
      | ge => exact lv_icmp_ge hx hb hdg hjt (fun z => (kT true (decide_eq_true z)).1 rfl) (fun z => (kT false (decide_eq_false z)).2 rfl)
      | gt => exact lv_icmp_gt hx hb hdg hjt (fun z => (kT true (decide_eq_true z)).1 rfl) (fun z => (kT false (decide_eq_false z)).2 rfl)
      | le => exact lv_icmp_le hx hb hdg hjt (fun z => (kT true (decide_eq_true z)).1 rfl) (fun z => (kT false (decide_eq_false z)).2 rfl)
    · cases hs
  · replace hdg := hdg.resolve_left (fun z => by cases z)
    rename_i cnd off
    split at hs
    · rename_i tt x S2
      obtain ⟨e1, e2⟩ := Prod.mk.inj (Option.some.inj hs)
      subst e2
      have hjt : (pc : Int) + off = (tt : Int) := hjt
      have kT : ∀ b : Bool, ma_cmp cnd x 0 = b → (b = true → W p l e R s m args below meth c H locs cells slots Q (F0 m tt ls (S2.map (ma_va ad)))) ∧ (b = false → W p l e R s m args below meth c H locs cells slots Q (F0 m (pc + 3) ls (S2.map (ma_va ad)))) := by
        intro b hbb
        rw [← e1, hbb] at kk
        cases b
        · exact ⟨fun z => (by cases z), fun _ => kk⟩
        · exact ⟨fun _ => kk, fun z => by cases z⟩
      cases cnd with
      | eq => exact lv_if_eq hx hb hdg hjt (fun z => (kT true (decide_eq_true z)).1 rfl) (fun z => (kT false (decide_eq_false z)).2 rfl)
      | ne => exact lv_if_ne hx hb hdg hjt (fun z => (kT true (decide_eq_true z)).1 rfl) (fun z => (kT false (decide_eq_false (fun q => q z))).2 rfl)
      | lt => exact lv_if_lt hx hb hdg hjt (fun z => (kT true (decide_eq_true z)).1 rfl) (fun z => (kT false (decide_eq_false z)).2 rfl)
      | ge => exact lv_if_ge hx hb hdg hjt (fun z => (kT true (decide_eq_true z)).1 rfl) (fun z => (kT false (decide_eq_false z)).2 rfl)
      | gt => exact lv_if_gt hx hb hdg hjt (fun z => (kT true (decide_eq_true z)).1 rfl) (fun z => (kT false (decide_eq_false z)).2 rfl)
      | le => exact lv_if_le hx hb hdg hjt (fun z => (kT true (decide_eq_true z)).1 rfl) (fun z => (kT false (decide_eq_false z)).2 rfl)
    · cases hs
  · replace hdg := hdg.resolve_left (fun z => by cases z)
    split at hs
    · cases hs
      exact lv_ifnullN hx hb hdg hjt kk
    · cases hs
      exact lv_ifnull hx hb hdg kk
    · cases hs
  · replace hdg := hdg.resolve_left (fun z => by cases z)
    split at hs
    · cases hs
      exact lv_ifnonnullN hx hb hdg kk
    · cases hs
      exact lv_ifnonnull hx hb hdg hjt kk
    · cases hs
  · replace hdg := hdg.resolve_left (fun z => by cases z)
    rename_i dfl lo hi offs
    split at hs
    · rename_i t0 ts x S2
      obtain ⟨j1, j2⟩ : (pc : Int) + dfl = (t0 : Int) ∧ offs.toList.map (fun off => (pc : Int) + off) = ts.map (fun (t : Nat) => (t : Int)) := hjt
      split at hs
      next hz =>
        cases hs
        exact lv_tableOut hx hb hdg hz j1 kk
      next hz =>
        split at hs
        next tt ht =>
          cases hs
          have h2 : (offs.toList.map (fun off => (pc : Int) + off))[(x.toInt - lo).toNat]? = some (tt : Int) := by rw [j2, List.getElem?_map, ht]; rfl
          rw [List.getElem?_map] at h2
          cases ho : offs.toList[(x.toInt - lo).toNat]? with
          | none => rw [ho] at h2; cases h2
          | some off =>
            rw [ho] at h2
            exact lv_tableIn hx hb hdg (fun z => hz (Or.inl z)) (fun z => hz (Or.inr z)) (by rw [← Array.getElem?_toList]; exact ho) (Option.some.inj h2) kk
        next => cases hs
    · cases hs
  · cases hs
end MJ
end
section
/-! ===== calls: contracts made of runs ===== -/
/-- a method of the table: its name, its bytes, its locals, what it gives back, whether it has no receiver -/
abbrev ma_M : Type := MethodName × ByteArray × Nat × Option FieldType × Bool
def ma_Pc (D : va_G) (cl : List vw_C) (ad : Nat → Nat) (base : Nat) (sc : Nat × (Nat → Int32)) (TF : State → Heap → Prop) (a : List Value) (h : List ma_C) : Array Value → State → Prop := fun v U =>
  v = (a.map (ma_va ad)).toArray ∧ ma_H D cl ad base U U.heap h ∧ (∀ (ci : Nat) (q : vw_C), cl[ci]? = some q → u_Kn U q.1 q.2.1 q.2.2 (D.1 ci) (D.2 ci)) ∧ va_X (ad 4096) sc.1 sc.2 U U.heap ∧ TF U U.heap
def ma_Qc (D : va_G) (cl : List vw_C) (ad : Nat → Nat) (base : Nat) (r : Option Value) (h : List ma_C) : Array Value → State → Outcome → State → Prop := fun _ st oc t =>
  oc = .returned (r.map (ma_va ad)) ∧ ma_H D cl ad base t t.heap h ∧ ∀ q : Nat, q < base → t.heap[q]? = st.heap[q]?
/-- what is asked of the old things: they stay when the tables grow warm, and when only new cells change -/
def ma_TF (base : Nat) (TF : State → Heap → Prop) : Prop :=
  (∀ (u U : State) (H : Heap), u.WarmedH U.vm → TF u H → TF U H) ∧ (∀ (u U : State) (H : Heap), u.vm = U.vm → TF u H → TF U H) ∧ ∀ (U : State) (H H1 : Heap), (∀ q : Nat, q < base → H1[q]? = H[q]?) → TF U H → TF U H1
section MC
variable {D : va_G} {cl : List vw_C} {ks : Nat → List Nat} {ad : Nat → Nat} {base : Nat} {G : List Jvm.Cond} {own : String} {ini : Bool} {p : Program} {l : Launch} {e : Env} {R : Room} {s : State} {m : MethodId} {args : Array Value} {below : List Frame} {meth : Method} {c : Code} {cc : ByteArray} {nL pc : Nat} {Q : State → Prop} {sc : Nat × (Nat → Int32)} {o : List Nat} {L : ma_L} {S S' : List Value} {h h' : List ma_C} {cells slots : Nat} {TF : State → Heap → Prop}
theorem ma_after {H : Heap} {locs : List Loc} {ls : Array Slot} {st0 rest : List Value} {av : Array Value} {r : Option Value} {mc ms : Nat} (hr : va_Run p l e R s m args below meth c H locs cells slots mc ms (F0 m pc ls st0) rest (ma_Qc D cl ad base r h' av) (fun q => base ≤ q)) (hF : ma_F base s H locs)
    (kk : ∀ (H1 : Heap) (locs1 : List Loc), ma_H D cl ad base s H1 h' → ma_F base s H1 locs1 → W p l e R s m args below meth c H1 locs1 (cells + mc) (slots + ms) Q (F0 m (pc + 3) ls ((r.map (ma_va ad)).toList ++ rest))) : W p l e R s m args below meth c H locs cells slots Q (F0 m pc ls st0) := by
  intro T hT X
  obtain ⟨v, st₀, t, T', L, h0, X', hL, e1, e2, ⟨hv, hH1, hk⟩, st⟩ := hr T hT X
  cases hv
  have hvm : t.vm.Alike s.vm := by rw [← e2]; exact X'.warmed.alike.symm
  rw [h0] at hk
  obtain ⟨t2, a1, b1⟩ := kk T'.heap (locs ++ L) (by rw [e1]; exact hH1.moved hvm) ⟨fun q hq => by rw [e1, hk q hq]; exact hF.1 q hq, fun q hq => by
      rcases List.mem_append.mp hq with z | z
      · exact hF.2 q z
      · exact hL q z⟩ T' rfl X'
  exact ⟨t2, st t2 a1, b1⟩
theorem ma_Pc.blind (hTF : ma_TF base TF) {a : List Value} : FrameBlind (ma_Pc D cl ad base sc TF a h) := by
  intro v U g mk q
  obtain ⟨q1, q2, q3, q4, q5⟩ := q
  exact ⟨q1, q2.moved (Vm.Alike.refl U.vm), fun ci z hz => u_Kn_moved (Vm.Alike.refl U.vm) (q3 ci z hz), q4.moved (Vm.Alike.refl U.vm), hTF.2.1 U _ _ rfl q5⟩
theorem ma_pre (hTF : ma_TF base TF) (X : ma_X D cl ks ad base sc G own ini p s m args meth c cc nL) (hT : TF s s.heap) {H : Heap} {locs : List Loc} (hH : ma_H D cl ad base s H h) (hF : ma_F base s H locs) (a : List Value) : PreS s H (ma_Pc D cl ad base sc TF a h) (a.map (ma_va ad)) := by
  obtain ⟨hx, hb, hml, hown, hts, hkn, had, hini, hcls, hsx, hsb⟩ := X
  refine ⟨ma_Pc.blind hTF, fun U hU hW => ⟨rfl, by rw [hU]; exact hH.moved hW.alike, fun ci z hz => u_Kn_moved hW.alike (hkn ci z hz), ?_, ?_⟩⟩
  · rw [hU]
    exact (hsx.kept (hF.1 _ hsb)).moved hW.alike
  · rw [hU]
    exact hTF.1 s U H hW (hTF.2.2 s _ _ hF.1 hT)
def ma_ml (mt : Nat → Option ma_M) (G : List Jvm.Cond) (cl : List vw_C) (own : String) (i : Instr) (o : List Nat) : Prop :=
  match i, o with
  | .invokevirtual x, [0, m', n, ci] => ∃ y bytes maxL ret, mt m' = some (y, bytes, maxL, ret, false) ∧ (Jvm.Cond.methodLink own x y ∈ G ∨ ∃ host, Jvm.Cond.methodLinkNest own x y host ∈ G) ∧ Jvm.Cond.instanceMethod y ∈ G ∧ Jvm.Cond.selects y.cls y y ∈ G ∧ Jvm.Cond.initialized y.cls ∈ G ∧ Jvm.Cond.code y bytes maxL ret ∈ G ∧
      (y.cls ≠ "java/lang/invoke/MethodHandle" ∧ y.cls ≠ "java/lang/invoke/VarHandle") ∧ (parseMethodDescriptor y.desc).map (fun d => d.parameters.length) = some (n - 1) ∧ 0 < n ∧ ∃ T N, cl[ci]? = some (y.cls, T, N)
  | .invokespecial x, [0, m', n, _] => ∃ y bytes maxL, mt m' = some (y, bytes, maxL, none, false) ∧ y.name = "<init>" ∧ (Jvm.Cond.methodLink own x y ∈ G ∨ ∃ host, Jvm.Cond.methodLinkNest own x y host ∈ G) ∧ Jvm.Cond.instanceMethod y ∈ G ∧ Jvm.Cond.initialized y.cls ∈ G ∧ Jvm.Cond.code y bytes maxL none ∈ G ∧
      (y.cls ≠ "java/lang/invoke/MethodHandle" ∧ y.cls ≠ "java/lang/invoke/VarHandle") ∧ (parseMethodDescriptor y.desc).map (fun d => d.parameters.length) = some (n - 1) ∧ 0 < n
  | .invokestatic x, [0, m', n] => ∃ y bytes maxL ret, mt m' = some (y, bytes, maxL, ret, true) ∧ (Jvm.Cond.methodLink own x y ∈ G ∨ ∃ host, Jvm.Cond.methodLinkNest own x y host ∈ G) ∧ Jvm.Cond.static y ∈ G ∧ Jvm.Cond.initialized y.cls ∈ G ∧ Jvm.Cond.code y bytes maxL ret ∈ G ∧
      (y.cls ≠ "java/lang/invoke/MethodHandle" ∧ y.cls ≠ "java/lang/invoke/VarHandle") ∧ (parseMethodDescriptor y.desc).map (fun d => d.parameters.length) = some n
  | _, _ => False
theorem ma_a_some {n : Nat} {a S2 : List Value} (h : ma_a n S = some (a, S2)) : S = a.reverse ++ S2 ∧ a.length = n ∧ (S2.map fun v => v.category).sum ≤ 8 := by
  unfold ma_a at h
  split at h
  next => cases h
  next hz =>
    cases h
    refine ⟨by rw [List.reverse_reverse, List.take_append_drop], ?_, Nat.le_of_not_lt fun q => hz (Or.inr q)⟩
    rw [List.length_reverse, List.length_take]
    have : ¬ S.length < n := fun q => hz (Or.inl q)
    omega
theorem ma_cr_some {m' ci m2 : Nat} {q : Option (List Value × List Value)} {a S2 : List Value} (hc : ma_cr m' ci q h = some (m2, a, S2)) : m2 = m' ∧ ∃ k a2 fs, a = .ref k :: a2 ∧ q = some (a, S2) ∧ h[k]? = some (.inr (ci, fs)) := by
  unfold ma_cr at hc
  split at hc
  next k a2 S3 =>
    split at hc
    next c2 fs hk =>
      split at hc
      next he => cases hc; subst he; exact ⟨rfl, k, a2, fs, rfl, rfl, hk⟩
      next => cases hc
    next => cases hc
  next => cases hc
theorem ma_drop {n : Nat} (h : ¬ S.length < n) : S = ((S.take n).reverse).reverse ++ S.drop n := by rw [List.reverse_reverse, List.take_append_drop]
theorem ma_o_call {mt : Nat → Option ma_M} {i : Instr} {m' : Nat} {a S2 : List Value} {r : Option Value} {mc ms : Nat} {rm : Room} (hTF : ma_TF base TF) (hGood : ∀ w ∈ G, ((w.onTables && w.keeps) = true ∨ ∃ ty, w = .arrayClass ty)) (X : ma_X D cl ks ad base sc G own ini p s m args meth c cc nL) (hT : TF s s.heap) (hdg : decode cc pc = .ok (i, ma_ln pc i)) (hlk : ma_ml mt G cl own i o) (hc : ma_c i o S h = some (m', a, S2))
    (hM : ∀ y bytes maxL ret st, mt m' = some (y, bytes, maxL, ret, st) → Met l y (Jvm.Cond.code y bytes maxL ret :: G) rm (ma_Pc D cl ad base sc TF a h) (ma_Qc D cl ad base r h') mc ms (fun q => base ≤ q) ∧ rm.cells = mc ∧ rm.slots = ms ∧ rm.frames + 1 ≤ R.frames ∧ 8 + (maxL + 11) + rm.locals ≤ R.locals)
    (hce : cells + mc ≤ R.cells) (hsl : slots + ms ≤ R.slots) (k : ma_G D cl ad base p l e R s m args below meth c Q nL (pc + 3) L (r.toList ++ S2) h' (cells + mc) (slots + ms)) : ma_G D cl ad base p l e R s m args below meth c Q nL pc L S h cells slots := by
  intro H locs ls hH hF hl hn
  have hpre := ma_pre hTF X hT hH hF a
  obtain ⟨hx, hb, hml, hown, hts, hkn, had, hini, hcls, hsx, hsb⟩ := X
  have hfix : CallFix p m c cc nL s args G own := ⟨hx, hb, hml, hown, hts⟩
  have hgi : ∀ y bytes maxL ret, Jvm.Cond.code y bytes maxL ret ∈ G → GoodIn G (Jvm.Cond.code y bytes maxL ret :: G) := fun y bytes maxL ret hin w hw => by
    rcases List.mem_cons.mp hw with rfl | hw
    · exact ⟨hin, hGood _ hin⟩
    · exact ⟨hw, hGood _ hw⟩
  have hend : ∀ (H1 : Heap) (locs1 : List Loc), ma_H D cl ad base s H1 h' → ma_F base s H1 locs1 → W p l e R s m args below meth c H1 locs1 (cells + mc) (slots + ms) Q (F0 m (pc + 3) ls ((r.map (ma_va ad)).toList ++ S2.map (ma_va ad))) := by
    intro H1 locs1 hH1 hF1
    have := k H1 locs1 ls hH1 hF1 hl hn
    rw [List.map_append] at this
    cases r <;> exact this
  have hsumOf : ∀ S3 : List Value, (S3.map fun v => v.category).sum ≤ 8 → 2 * (F0 m pc ls (S.map (ma_va ad))).monitorRoom + ((S3.map (ma_va ad)).map fun v => v.category).sum ≤ 8 := by
    intro S3 h3
    rw [List.map_map, show ((fun v => Value.category v) ∘ ma_va ad) = (fun v => v.category) from funext fun v => ma_va_cat ad v]
    show 2 * 0 + _ ≤ 8
    omega
  unfold ma_c at hc
  split at hc
  · rename_i x m2 n ci
    obtain ⟨y, bytes, maxL, ret, hmt, hlnk, w1, w2, w3, w4, hno, hpd, hn0, T, N, hci⟩ := hlk
    obtain ⟨rfl, kk, a2, fs, rfl, hq, hk⟩ := ma_cr_some hc
    obtain ⟨hS, hlen, hsum⟩ := ma_a_some hq
    obtain ⟨hMet, hrc, hrs, hfr, hlo⟩ := hM _ _ _ _ _ hmt
    have hst : S.map (ma_va ad) = (a2.map (ma_va ad)).reverse ++ .ref (ad kk) :: S2.map (ma_va ad) := by
      rw [hS]
      simp [ma_va]
    have hlen : (a2.map (ma_va ad)).length = n - 1 := by
      rw [List.length_map]
      simp only [List.length_cons] at hlen
      omega
    obtain ⟨r', hr', -, cell, q1, q2, q3, -⟩ := hH.2.2 _ _ hk
    have hcell : ∃ cellB : Cell, H[ad kk]? = some cellB ∧ cellB.vm.isStatics = false ∧ s.vm.findClass y.cls = some cellB.cls := ⟨cell, by rw [hH.adr had hk]; exact q1, by rw [q3]; rfl, by rw [q2]; exact (hkn _ _ hci).2.1⟩
    rcases hlnk with hlnk | ⟨host, hlnk⟩
    · exact ma_after (va_runV (As := a2.map (ma_va ad)) (rest := S2.map (ma_va ad)) (C := y.cls) (b := ad kk) hfix hMet ⟨callB_of (n - 1) hts (hgi _ _ _ _ w4) rfl hrc hrs (hts _ w3) (hts _ hlnk) ⟨hno.1, hno.2, hpd⟩ ⟨hfr, hlo⟩, hts _ w1, hts _ w2⟩ ⟨hpre.1, hcell, hpre.2⟩ rfl hlen hl.1 hst (hsumOf _ hsum) hdg ⟨hce, hsl⟩) hF hend
    · exact ma_after (va_runVN (As := a2.map (ma_va ad)) (rest := S2.map (ma_va ad)) (C := y.cls) (b := ad kk) hfix hMet ⟨va_cnB (n - 1) hts (hgi _ _ _ _ w4) rfl hrc hrs (va_Nw.of rfl (hts _ hlnk)) (hts _ w3) ⟨hno.1, hno.2, hpd⟩ ⟨hfr, hlo⟩, hts _ w1, hts _ w2⟩ ⟨hpre.1, hcell, hpre.2⟩ rfl hlen hl.1 hst (hsumOf _ hsum) hdg ⟨hce, hsl⟩) hF hend
  · rename_i x m2 n ci
    obtain ⟨y, bytes, maxL, hmt, hnm, hlnk, w1, w3, w4, hno, hpd, hn0⟩ := hlk
    obtain ⟨rfl, kk, a2, fs, rfl, hq, hk⟩ := ma_cr_some hc
    obtain ⟨hS, hlen, hsum⟩ := ma_a_some hq
    obtain ⟨hMet, hrc, hrs, hfr, hlo⟩ := hM _ _ _ _ _ hmt
    have hst : S.map (ma_va ad) = (a2.map (ma_va ad)).reverse ++ .ref (ad kk) :: S2.map (ma_va ad) := by
      rw [hS]
      simp [ma_va]
    have hlen : (a2.map (ma_va ad)).length = n - 1 := by
      rw [List.length_map]
      simp only [List.length_cons] at hlen
      omega
    rcases hlnk with hlnk | ⟨host, hlnk⟩
    · exact ma_after (va_runI (As := a2.map (ma_va ad)) (rest := S2.map (ma_va ad)) (b := ad kk) hfix hMet ⟨callB_of (n - 1) hts (hgi _ _ _ _ w4) rfl hrc hrs (hts _ w3) (hts _ hlnk) ⟨hno.1, hno.2, hpd⟩ ⟨hfr, hlo⟩, hnm, hts _ w1⟩ hpre rfl hlen hl.1 hst (hsumOf _ hsum) hdg ⟨hce, hsl⟩) hF hend
    · exact ma_after (va_runIN (As := a2.map (ma_va ad)) (rest := S2.map (ma_va ad)) (b := ad kk) hfix hMet ⟨va_cnB (n - 1) hts (hgi _ _ _ _ w4) rfl hrc hrs (va_Nw.of rfl (hts _ hlnk)) (hts _ w3) ⟨hno.1, hno.2, hpd⟩ ⟨hfr, hlo⟩, hnm, hts _ w1⟩ hpre rfl hlen hl.1 hst (hsumOf _ hsum) hdg ⟨hce, hsl⟩) hF hend
  · rename_i x m2 n
    obtain ⟨y, bytes, maxL, ret, hmt, hlnk, w1, w3, w4, hno, hpd⟩ := hlk
    split at hc
    next a3 S3 hq =>
      cases hc
      obtain ⟨hS, hlen, hsum⟩ := ma_a_some hq
      obtain ⟨hMet, hrc, hrs, hfr, hlo⟩ := hM _ _ _ _ _ hmt
      have hst : S.map (ma_va ad) = (a.map (ma_va ad)).reverse ++ S2.map (ma_va ad) := by
        rw [hS]
        simp
      have hlen : (a.map (ma_va ad)).length = n := by rw [List.length_map]; exact hlen
      rcases hlnk with hlnk | ⟨host, hlnk⟩
      · exact ma_after (va_runS (As := a.map (ma_va ad)) (rest := S2.map (ma_va ad)) hfix hMet ⟨callB_of n hts (hgi _ _ _ _ w4) rfl hrc hrs (hts _ w3) (hts _ hlnk) ⟨hno.1, hno.2, hpd⟩ ⟨hfr, hlo⟩, hts _ w1⟩ hpre rfl hlen hl.1 hst (hsumOf _ hsum) hdg ⟨hce, hsl⟩) hF hend
      · exact ma_after (va_runSN (As := a.map (ma_va ad)) (rest := S2.map (ma_va ad)) hfix hMet ⟨va_cnB n hts (hgi _ _ _ _ w4) rfl hrc hrs (va_Nw.of rfl (hts _ hlnk)) (hts _ w3) ⟨hno.1, hno.2, hpd⟩ ⟨hfr, hlo⟩, hts _ w1, trivial⟩ hpre rfl hlen hl.1 hst (hsumOf _ hsum) hdg ⟨hce, hsl⟩) hF hend
    next => cases hc
  · cases hc
end MC
end
section
/-! ===== what the machine does itself, ends, and that the true machine follows ===== -/
section MX
variable {D : va_G} {cl : List vw_C} {ks : Nat → List Nat} {ad : Nat → Nat} {base : Nat} {G : List Jvm.Cond} {own : String} {ini : Bool} {p : Program} {l : Launch} {e : Env} {R : Room} {s : State} {m : MethodId} {args : Array Value} {below : List Frame} {meth : Method} {c : Code} {cc : ByteArray} {nL pc : Nat} {Q : State → Prop} {sc : Nat × (Nat → Int32)} {o : List Nat} {L : ma_L} {S S' : List Value} {h h' : List ma_C} {cells slots : Nat} {TF : State → Heap → Prop}
theorem ma_sumv (ad : Nat → Nat) (S : List Value) : ((S.map (ma_va ad)).map fun v => v.category).sum = (S.map fun v => v.category).sum := by
  rw [List.map_map, show ((fun v => Value.category v) ∘ ma_va ad) = (fun v => v.category) from funext fun v => ma_va_cat ad v]
theorem ma_o_obj {tx : Nat → Int32 → Option Int32} {x : Nat} (X : ma_X D cl ks ad base sc G own ini p s m args meth c cc nL) (hdg : decode cc pc = .ok (.invokespecial x, 3)) (hlk : Jvm.Cond.methodLink own x Lib.objectInit ∈ G ∧ Jvm.Cond.instanceMethod Lib.objectInit ∈ G ∧ Jvm.Cond.code Lib.objectInit ⟨#[0xb1]⟩ 1 none ∈ G) (hR : 1 ≤ R.frames ∧ 100 ≤ R.locals) (hs : ma_x tx (.invokespecial x) [1] S h = some (S', h')) (k : ma_G D cl ad base p l e R s m args below meth c Q nL (pc + 3) L S' h' cells slots) : ma_G D cl ad base p l e R s m args below meth c Q nL pc L S h cells slots := by
  obtain ⟨hx, hb, hml, hown, hts, hkn, had, hini, hcls, hsx, hsb⟩ := X
  simp only [ma_x] at hs
  split at hs
  · split at hs
    next => cases hs
    next hz =>
      cases hs
      intro H locs ls hH hF hl hn
      refine W.objInit hx hb hown (hts _ hlk.1) (hts _ hlk.2.1) (hts _ hlk.2.2) rfl (hl.1.trans hml.symm) rfl hdg hR.1 ?_ (k H locs ls hH hF hl hn)
      rw [ma_sumv]
      show 2 * 0 + _ + 12 ≤ _
      omega
  · cases hs
theorem ma_nfw : nativeFrameWords "java/lang/System" "arraycopy" 5 ≤ 60 := by decide +kernel
theorem ma_o_copy {tx : Nat → Int32 → Option Int32} {x : Nat} (X : ma_X D cl ks ad base sc G own ini p s m args meth c cc nL) (hdg : decode cc pc = .ok (.invokestatic x, 3)) (hlk : Jvm.Cond.methodLink own x arraycopyName ∈ G ∧ Jvm.Cond.native arraycopyName ∈ G ∧ Jvm.Cond.static arraycopyName ∈ G ∧ Jvm.Cond.initialized "java/lang/System" ∈ G) (hR : 1 ≤ R.frames ∧ 100 ≤ R.locals) (hs : ma_x tx (.invokestatic x) [2] S h = some (S', h')) (k : ma_G D cl ad base p l e R s m args below meth c Q nL (pc + 3) L S' h' cells slots) : ma_G D cl ad base p l e R s m args below meth c Q nL pc L S h cells slots := by
  obtain ⟨hx, hb, hml, hown, hts, hkn, had, hini, hcls, hsx, hsb⟩ := X
  simp only [ma_x] at hs
  split at hs
  next n dp b sp a S2 =>
    split at hs
    next n0 f n1 g ha hb1 =>
      split at hs
      next => cases hs
      next hz =>
        cases hs
        intro H locs ls hH hF hl hn
        have hz0 : (S'.map fun v => v.category).sum ≤ 8 := Nat.le_of_not_lt fun q => hz (Or.inl q)
        have hz1 : ¬ n < 0 := fun q => hz (Or.inr (Or.inl q))
        have hz2 : ¬ dp < 0 := fun q => hz (Or.inr (Or.inr (Or.inl q)))
        have hz3 : ¬ sp < 0 := fun q => hz (Or.inr (Or.inr (Or.inr (Or.inl q))))
        have hz4 : sp.toNatClampNeg + n.toNatClampNeg ≤ n0 := Nat.le_of_not_lt fun q => hz (Or.inr (Or.inr (Or.inr (Or.inr (Or.inl q)))))
        have hz5 : dp.toNatClampNeg + n.toNatClampNeg ≤ n1 := Nat.le_of_not_lt fun q => hz (Or.inr (Or.inr (Or.inr (Or.inr (Or.inr q)))))
        have eA := hH.adr had ha
        have eB := hH.adr had hb1
        obtain ⟨c0, p1, p2, hc0⟩ := hH.2.2 _ _ ha
        obtain ⟨c1, q1, q2, hc1⟩ := hH.2.2 _ _ hb1
        have nn : ∀ z : Int32, ¬ z < 0 → z.toInt = (z.toNatClampNeg : Int) := by
          intro z hz
          have hz0 : (0 : Int) ≤ z.toInt := by
            have := Int32.not_lt.mp hz
            simpa using Int32.le_iff_toInt_le.mp this
          show z.toInt = ((z.toInt.toNat : Nat) : Int)
          omega
        show W p l e R s m args below meth c H locs cells slots Q (F0 m pc ls (.int n :: .int dp :: .ref (ad b) :: .int sp :: .ref (ad a) :: S'.map (ma_va ad)))
        rw [eA, eB]
        intro T hT Xs
        have hc0 : H[base + a]? = some (arrV c0 n0 (fun j => .int (f j))) := hc0
        have hc1 : H[base + b]? = some (arrV c1 n1 (fun j => .int (g j))) := hc1
        obtain ⟨-, k0, hk0, cm0, hkk0⟩ := p1 n0 (fun j => .int (f j))
        obtain ⟨-, k1, hk1, cm1, hkk1⟩ := q1 n1 (fun j => .int (g j))
        have hnf := ma_nfw
        obtain ⟨vm', X', step⟩ := Xs.arraycopy hx hown (hts _ hlk.1) (hts _ hlk.2.1) (hts _ hlk.2.2.1) (hts _ hlk.2.2.2) (src := base + a) (dst := base + b) (cs := arrV c0 n0 (fun j => .int (f j))) (cd := arrV c1 n1 (fun j => .int (g j))) (srcPos := sp) (destPos := dp) (n := n) (by rw [hT]; exact hc0) (by rw [hT]; exact hc1)
          (fun _ h => by cases h) (fun _ h => by cases h) (fun h => by cases h) (fun h => by cases h) hk0 hk1 hkk0 hkk1 (by simp [ma_ty, refKind]) hz3 hz2 hz1
          (by rw [nn sp hz3, nn n hz1, arrV_size]; omega)
          (by rw [nn dp hz2, nn n hz1, arrV_size]; omega)
          (fun vm₁ _ i hi => by
            have e9 : (arrV c0 n0 (fun j => Value.int (f j))).slots.getD (sp.toNatClampNeg + i) .null = .int (f (sp.toNatClampNeg + i)) := by
              rw [Array.getD_eq_getD_getElem?, arrV_read _ _ (by omega)]
              rfl
            refine ⟨?_, ?_⟩
            · rw [e9]
              rfl
            · rw [e9]
              exact trivial)
          (g := F0 m pc ls (.int n :: .int dp :: .ref (base + b) :: .int sp :: .ref (base + a) :: S'.map (ma_va ad))) rfl (hl.1.trans hml.symm) (rest := S'.map (ma_va ad)) rfl (by rw [hb]; exact hdg) hR.1 (by rw [ma_sumv]; show 2 * 0 + _ + _ ≤ _; omega)
        have e1 : copied (arrV c0 n0 (fun j => .int (f j))) (arrV c1 n1 (fun j => .int (g j))) sp dp n = arrV c1 n1 (fun j => .int (va_cpy f g sp.toNatClampNeg dp.toNatClampNeg n.toNatClampNeg j)) := va_copied (fun z => .int z) c0 c1 f g hz4
        rw [e1] at X' step
        have hlt : base + b < H.size := (Array.getElem?_eq_some_iff.mp hc1).1
        have hheap : ((T.setVm vm').setCell (base + b) (arrV c1 n1 (fun j => .int (va_cpy f g sp.toNatClampNeg dp.toNatClampNeg n.toNatClampNeg j)))).heap = H.setIfInBounds (base + b) (arrV c1 n1 (fun j => .int (va_cpy f g sp.toNatClampNeg dp.toNatClampNeg n.toNatClampNeg j))) := by rw [← hT]; rfl
        have oq : ∀ q : Nat, q ≠ base + b → (H.setIfInBounds (base + b) (arrV c1 n1 (fun j => .int (va_cpy f g sp.toNatClampNeg dp.toNatClampNeg n.toNatClampNeg j))))[q]? = H[q]? := fun q hq => by simp [Array.getElem?_setIfInBounds, Ne.symm hq]
        obtain ⟨t, a1, b1⟩ := k _ _ ls (hH.set (by simp) oq ⟨c1, q1, q2, show (H.setIfInBounds (base + b) _)[base + b]? = some _ by simp [Array.getElem?_setIfInBounds, hlt]; rfl⟩) ⟨fun q g1 => (oq q (by omega)).trans (hF.1 q g1), fun q hq => by
            rcases List.mem_append.mp hq with h | h
            · exact hF.2 q h
            · obtain ⟨z, -, hz⟩ := List.mem_map.mp h
              rw [← hz]
              show base ≤ base + b
              omega⟩ hl hn _ hheap X'
        exact ⟨t, step t a1, b1⟩
    next => cases hs
  next => cases hs
end MX
end
section
/-! ===== an array of arrays ===== -/
section MY
variable {D : va_G} {cl : List vw_C} {ks : Nat → List Nat} {ad : Nat → Nat} {base : Nat} {G : List Jvm.Cond} {own : String} {ini : Bool} {p : Program} {l : Launch} {e : Env} {R : Room} {s : State} {m : MethodId} {args : Array Value} {below : List Frame} {meth : Method} {c : Code} {cc : ByteArray} {nL pc : Nat} {Q : State → Prop} {sc : Nat × (Nat → Int32)} {o : List Nat} {L : ma_L} {S S' : List Value} {h h' : List ma_C} {cells slots : Nat} {TF : State → Heap → Prop}
theorem ma_o_multi {x : Nat} {L' : ma_L} (X : ma_X D cl ks ad base sc G own ini p s m args meth c cc nL) (hdg : decode cc pc = .ok (.multianewarray x 2, 4)) (hlk : Jvm.Cond.classLink own x ("[" ++ (FieldType.array .int).toString) ∈ G ∧ Jvm.Cond.arrayOver (.array .int) ∈ G ∧ Jvm.Cond.arrayClass .int ∈ G)
    (hs : ma_s sc ks (.multianewarray x 2) o L S h = some (L', S', h')) (hce : cells + (h'.length - h.length) ≤ R.cells) (hsl : slots + (ma_sl h' - ma_sl h) ≤ R.slots) (k : ma_G D cl ad base p l e R s m args below meth c Q nL (pc + 4) L' S' h' (cells + (h'.length - h.length)) (slots + (ma_sl h' - ma_sl h))) : ma_G D cl ad base p l e R s m args below meth c Q nL pc L S h cells slots := by
  sorry
end MY
end
section
/-! ===== THE TRUE MACHINE FOLLOWS: every run of the list machine is one of the true machine ===== -/
/-- what an instruction needs of the tables -/
def ma_lk (cl : List vw_C) (ks : Nat → List Nat) (mt : Nat → Option ma_M) (G : List Jvm.Cond) (TK : String → Instr → List Nat → Prop) (own : String) (ini : Bool) (ret : Option FieldType) (pc : Nat) (i : Instr) (o : List Nat) : Prop :=
  match i with
  | .bipush n => (Int8.ofInt n).toInt32 = Int32.ofInt n
  | .sipush n => (Int16.ofInt n).toInt32 = Int32.ofInt n
  | .ldc x => (∀ v, o = [0, v] → Jvm.Cond.constant own x (Int32.ofNat v) ∈ G) ∧ ∀ v, o = [1, v] → TK own i o
  | .ldc_w x => ∀ v, o = [0, v] → Jvm.Cond.constant own x (Int32.ofNat v) ∈ G
  | .ldc2_w x => ∀ v, o = [v] → Jvm.Cond.constantLong own x (Int64.ofNat v) ∈ G
  | .getfield x => ∀ ci j r, o = ci :: j :: r → ma_fl cl G own x ci j
  | .putfield x => ∀ ci j t r, o = ci :: j :: t :: r → ma_fp cl G own ini x ci j ∧ (ks ci)[j]? = some t
  | .aastore => ∀ ci r, o = ci :: r → ∃ T N, cl[ci]? = some ("LetHorizon$Line", T, N)
  | .new x => ∀ ci r, o = ci :: r → ∃ C T N, cl[ci]? = some (C, T, N) ∧ Jvm.Cond.classLink own x C ∈ G ∧ Jvm.Cond.instantiable C N ∈ G ∧ Jvm.Cond.initialized C ∈ G
  | .newarray a => Jvm.Cond.arrayClass (newarray.typeOf a) ∈ G
  | .anewarray x => Jvm.Cond.classLink own x "LetHorizon$Line" ∈ G ∧ Jvm.Cond.arrayOver (.object "LetHorizon$Line") ∈ G
  | .multianewarray x _ => Jvm.Cond.classLink own x ("[" ++ (FieldType.array .int).toString) ∈ G ∧ Jvm.Cond.arrayOver (.array .int) ∈ G ∧ Jvm.Cond.arrayClass .int ∈ G
  | .nop => ma_jt pc i o
  | .goto _ => ma_jt pc i o
  | .if_icmp _ _ => ma_jt pc i o
  | .ifCond _ _ => ma_jt pc i o
  | .ifnull _ => ma_jt pc i o
  | .ifnonnull _ => ma_jt pc i o
  | .tableswitch _ _ _ _ => ma_jt pc i o
  | .invokevirtual _ => match o with
    | 0 :: _ => ma_ml mt G cl own i o
    | _ => TK own i o
  | .invokespecial x => match o with
    | 0 :: _ => ma_ml mt G cl own i o
    | _ => Jvm.Cond.methodLink own x Lib.objectInit ∈ G ∧ Jvm.Cond.instanceMethod Lib.objectInit ∈ G ∧ Jvm.Cond.code Lib.objectInit ⟨#[0xb1]⟩ 1 none ∈ G
  | .invokestatic x => match o with
    | 0 :: _ => ma_ml mt G cl own i o
    | _ => Jvm.Cond.methodLink own x arraycopyName ∈ G ∧ Jvm.Cond.native arraycopyName ∈ G ∧ Jvm.Cond.static arraycopyName ∈ G ∧ Jvm.Cond.initialized "java/lang/System" ∈ G
  | .ireturn => (o = [0] → ret = some .int) ∧ (o = [1] → ret = some .boolean)
  | .return_ => ret = none
  | .lreturn => ret = some .long
  | _ => True
def ma_ok (cl : List vw_C) (ks : Nat → List Nat) (mt : Nat → Option ma_M) (G : List Jvm.Cond) (TK : String → Instr → List Nat → Prop) (q : ma_M) : Nat → List ma_I → Prop
  | _, [] => True
  | pc, (i, o) :: is => (i = .nop ∨ decode q.2.1 pc = .ok (i, ma_ln pc i)) ∧ ma_lk cl ks mt G TK q.1.cls (q.1.name == "<init>") q.2.2.2.1 pc i o ∧ ma_ok cl ks mt G TK q (pc + ma_ln pc i) is
/-- texts, and the JDK's methods on them: what the walk asks of them -/
def ma_TX (D : va_G) (cl : List vw_C) (ks : Nat → List Nat) (ad : Nat → Nat) (base : Nat) (sc : Nat × (Nat → Int32)) (G : List Jvm.Cond) (TF : State → Heap → Prop) (TK : String → Instr → List Nat → Prop) (tx : Nat → Int32 → Option Int32) (l : Launch) : Prop :=
  ∀ {own : String} {ini : Bool} {p : Program} {e : Env} {R : Room} {s : State} {m : MethodId} {args : Array Value} {below : List Frame} {meth : Method} {c : Code} {cc : ByteArray} {nL pc : Nat} {Q : State → Prop} {H : Heap} {locs : List Loc} {ls : Array Slot} {cells slots : Nat} {i : Instr} {o : List Nat} {S S' : List Value},
    ma_X D cl ks ad base sc G own ini p s m args meth c cc nL → TF s s.heap → ma_F base s H locs → ls.size = nL → decode cc pc = .ok (i, ma_ln pc i) → TK own i o →
    ((∃ x v, i = .ldc x ∧ o = [1, v] ∧ S' = .ref (4097 + v) :: S) ∨ (10 ≤ R.frames ∧ 1000 ≤ R.locals ∧ ∃ x q h, i = .invokevirtual x ∧ (∀ r, o ≠ 0 :: r) ∧ ma_x tx i o S h = some (S', q))) →
    W p l e R s m args below meth c H locs cells slots Q (F0 m (pc + ma_ln pc i) ls (S'.map (ma_va ad))) → W p l e R s m args below meth c H locs cells slots Q (F0 m pc ls (S.map (ma_va ad)))
/-- the room for a run of depth d that makes so many cells -/
def ma_rm (d mc ms : Nat) : Room := { frames := d + 1, cells := mc, slots := ms, locals := 100 * (d + 1) }
section MM
variable {D : va_G} {cl : List vw_C} {ad : Nat → Nat} {base : Nat} {G : List Jvm.Cond} {l : Launch} {TF : State → Heap → Prop} {TK : String → Instr → List Nat → Prop} {mt : Nat → Option ma_M} {P : ma_P}
/-- a method's contract out of a run -/
def ma_Mt (D : va_G) (cl : List vw_C) (ad : Nat → Nat) (base : Nat) (G : List Jvm.Cond) (TF : State → Heap → Prop) (l : Launch) (P : ma_P) (q : ma_M) (d : Nat) (a : List Value) (h : List ma_C) (r : Option Value) (h' : List ma_C) : Prop :=
  Met l q.1 (Jvm.Cond.code q.1 q.2.1 q.2.2.1 q.2.2.2.1 :: G) (ma_rm d (h'.length - h.length) (ma_sl h' - ma_sl h)) (ma_Pc D cl ad base P.2.2.2.2 TF a h) (ma_Qc D cl ad base r h') (h'.length - h.length) (ma_sl h' - ma_sl h) (fun q => base ≤ q)
theorem ma_ret_int {D : va_G} {cl : List vw_C} {ad : Nat → Nat} {base : Nat} {p : Program} {l : Launch} {e : Env} {R : Room} {s : State} {m : MethodId} {args : Array Value} {below : List Frame} {meth : Method} {c : Code} {nL pc : Nat} {L : ma_L} {h : List ma_C} {cells slots : Nat} {i : Instr} {o : List Nat} {S : List Value} {r : Option Value} {cc : ByteArray} {ret : Option FieldType}
    (hx : p.tables.exec = Jvm.exec) (hb : c.code = cc) (hr : meth.sig.returnType = ret) (hlocks : meth.locks = false) (hdg : decode cc pc = .ok (i, ma_ln pc i)) (hlk : (o = [0] → i = .ireturn → ret = some .int) ∧ (o = [1] → i = .ireturn → ret = some .boolean) ∧ (i = .return_ → ret = none) ∧ (i = .lreturn → ret = some .long))
    (hs : ma_r i o S = some r) : ma_G D cl ad base p l e R s m args below meth c (MQ below (ma_Qc D cl ad base r h) args s cells slots (fun q => base ≤ q)) nL pc L S h cells slots := by
  intro H locs ls hH hF hl hn
  have hq : ∀ t : State, t.heap = H → s.WarmedH t.vm → ma_Qc D cl ad base r h args s (.returned (r.map (ma_va ad))) t := fun t ht hW => ⟨rfl, by rw [ht]; exact hH.moved hW.alike, fun q hq => by rw [ht]; exact hF.1 q hq⟩
  unfold ma_r at hs
  split at hs
  · cases hs
    exact W.iret hx hb (hr.trans (hlk.1 rfl rfl)) hq hF.2 hdg hlocks
  · split at hs
    next hz =>
      cases hs
      refine W.zret hx hb (hr.trans (hlk.2.1 rfl rfl)) ?_ hq hF.2 hdg hlocks
      rcases hz with rfl | rfl <;> decide +kernel
    next => cases hs
  · cases hs
    exact W.lret hx hb (hr.trans (hlk.2.2.2 rfl)) hq hF.2 hdg hlocks
  · cases hs
    exact W.vret hx hb (hr.trans (hlk.2.2.1 rfl)) hq hF.2 hdg hlocks
  · cases hs
end MM
end
section
/-! ===== all plain instructions together, and the induction ===== -/
def ma_al : Instr → Bool
  | .new _ | .newarray _ | .anewarray _ | .multianewarray _ _ => true
  | _ => false
theorem ma_s_eq {sc : Nat × (Nat → Int32)} {ks : Nat → List Nat} {i : Instr} {o : List Nat} {L L' : ma_L} {S S' : List Value} {h h' : List ma_C} (ha : ma_al i = false) (hs : ma_s sc ks i o L S h = some (L', S', h')) : h'.length = h.length ∧ ma_sl h' = ma_sl h := by
  unfold ma_s at hs
  repeat' split at hs
  all_goals first
    | (cases hs; done)
    | (cases ha; done)
    | (cases hs; exact ⟨rfl, rfl⟩)
    | (cases hs; rename_i hk _; exact ⟨by simp, ma_sl_set hk rfl⟩)
    | (cases hs; rename_i hk _; exact ⟨by simp, ma_sl_set hk (by simp [ma_cz])⟩)
    | (cases hs; rename_i hk _ _; exact ⟨by simp, ma_sl_set hk rfl⟩)
section MA
variable {D : va_G} {cl : List vw_C} {ks : Nat → List Nat} {ad : Nat → Nat} {base : Nat} {G : List Jvm.Cond} {own : String} {ini : Bool} {p : Program} {l : Launch} {e : Env} {R : Room} {s : State} {m : MethodId} {args : Array Value} {below : List Frame} {meth : Method} {c : Code} {cc : ByteArray} {nL pc : Nat} {Q : State → Prop} {sc : Nat × (Nat → Int32)} {o : List Nat} {L L' : ma_L} {S S' : List Value} {h h' : List ma_C} {cells slots : Nat} {TF : State → Heap → Prop} {TK : String → Instr → List Nat → Prop} {mt : Nat → Option ma_M} {tx : Nat → Int32 → Option Int32} {ret : Option FieldType}
theorem ma_s_all {i : Instr} (X : ma_X D cl ks ad base sc G own ini p s m args meth c cc nL) (hT : TF s s.heap) (hTX : ma_TX D cl ks ad base sc G TF TK tx l) (hdg : decode cc pc = .ok (i, ma_ln pc i)) (hlk : ma_lk cl ks mt G TK own ini ret pc i o) (hs : ma_s sc ks i o L S h = some (L', S', h')) (hce : cells + (h'.length - h.length) ≤ R.cells) (hsl : slots + (ma_sl h' - ma_sl h) ≤ R.slots)
    (k : ma_G D cl ad base p l e R s m args below meth c Q nL (pc + ma_ln pc i) L' S' h' (cells + (h'.length - h.length)) (slots + (ma_sl h' - ma_sl h))) : ma_G D cl ad base p l e R s m args below meth c Q nL pc L S h cells slots := by
  have kE : ma_al i = false → ma_G D cl ad base p l e R s m args below meth c Q nL (pc + ma_ln pc i) L' S' h' cells slots := by
    intro ha
    obtain ⟨e1, e2⟩ := ma_s_eq ha hs
    rw [e1, e2, Nat.sub_self, Nat.sub_self] at k
    exact k
  cases i with
  | lconst _ => exact ma_o_lconst X hdg hs (kE rfl)
  | aconst_null => exact ma_o_null X hdg hs (kE rfl)
  | iload _ => exact ma_o_iload X hdg hs (kE rfl)
  | iload_n _ => exact ma_o_iload_n X hdg hs (kE rfl)
  | lload _ => exact ma_o_lload X hdg hs (kE rfl)
  | lload_n _ => exact ma_o_lload_n X hdg hs (kE rfl)
  | aload _ => exact ma_o_aload X hdg hs (kE rfl)
  | aload_n _ => exact ma_o_aload_n X hdg hs (kE rfl)
  | istore _ => exact ma_o_istore X hdg hs (kE rfl)
  | istore_n _ => exact ma_o_istore_n X hdg hs (kE rfl)
  | lstore _ => exact ma_o_lstore X hdg hs (kE rfl)
  | lstore_n _ => exact ma_o_lstore_n X hdg hs (kE rfl)
  | astore _ => exact ma_o_astore X hdg hs (kE rfl)
  | astore_n _ => exact ma_o_astore_n X hdg hs (kE rfl)
  | iinc _ _ => exact ma_o_iinc X hdg hs (kE rfl)
  | iadd => exact ma_o_iadd X hdg hs (kE rfl)
  | isub => exact ma_o_isub X hdg hs (kE rfl)
  | imul => exact ma_o_imul X hdg hs (kE rfl)
  | iand => exact ma_o_iand X hdg hs (kE rfl)
  | ior => exact ma_o_ior X hdg hs (kE rfl)
  | ixor => exact ma_o_ixor X hdg hs (kE rfl)
  | idiv => exact ma_o_idiv X hdg hs (kE rfl)
  | irem => exact ma_o_irem X hdg hs (kE rfl)
  | ineg => exact ma_o_ineg X hdg hs (kE rfl)
  | ishl => exact ma_o_ishl X hdg hs (kE rfl)
  | ishr => exact ma_o_ishr X hdg hs (kE rfl)
  | iushr => exact ma_o_iushr X hdg hs (kE rfl)
  | ladd => exact ma_o_ladd X hdg hs (kE rfl)
  | land => exact ma_o_land X hdg hs (kE rfl)
  | lshl => exact ma_o_lshl X hdg hs (kE rfl)
  | lshr => exact ma_o_lshr X hdg hs (kE rfl)
  | lcmp => exact ma_o_lcmp X hdg hs (kE rfl)
  | i2l => exact ma_o_i2l X hdg hs (kE rfl)
  | l2i => exact ma_o_l2i X hdg hs (kE rfl)
  | i2b => exact ma_o_i2b X hdg hs (kE rfl)
  | i2c => exact ma_o_i2c X hdg hs (kE rfl)
  | dup => exact ma_o_dup X hdg hs (kE rfl)
  | dup2 => exact ma_o_dup2 X hdg hs (kE rfl)
  | pop => exact ma_o_pop X hdg hs (kE rfl)
  | arraylength => exact ma_o_arraylength X hdg hs (kE rfl)
  | iaload => exact ma_o_iaload X hdg hs (kE rfl)
  | baload => exact ma_o_baload X hdg hs (kE rfl)
  | laload => exact ma_o_laload X hdg hs (kE rfl)
  | aaload => exact ma_o_aaload X hdg hs (kE rfl)
  | iastore => exact ma_o_iastore X hdg hs (kE rfl)
  | bastore => exact ma_o_bastore X hdg hs (kE rfl)
  | lastore => exact ma_o_lastore X hdg hs (kE rfl)
  | iconst _ => exact ma_o_iconst X hdg hs (kE rfl)
  | bipush n => exact ma_o_bipush X hdg hlk hs (kE rfl)
  | sipush n => exact ma_o_sipush X hdg hlk hs (kE rfl)
  | ldc x => exact ma_o_ldc X hdg hlk.1 (fun v hv H locs ls hH hF hsz kk => hTX X hT hF hsz hdg (hlk.2 v hv) (Or.inl ⟨x, v, rfl, hv, rfl⟩) kk) hs (kE rfl)
  | ldc_w x => exact ma_o_ldc_w X hdg hlk hs (kE rfl)
  | ldc2_w x => exact ma_o_ldc2_w X hdg hlk hs (kE rfl)
  | getfield x => exact ma_o_getfield X hdg hlk hs (kE rfl)
  | putfield x => exact ma_o_putfield X hdg hlk hs (kE rfl)
  | aastore => exact ma_o_aastore X hdg hlk hs (kE rfl)
  | new x =>
    have hq : ∃ ci r, o = ci :: r ∧ h' = h ++ [.inr (ci, ma_df (ks ci))] := by
      simp only [ma_s] at hs
      split at hs
      next ci r =>
        split at hs
        next => cases hs
        next => cases hs; exact ⟨ci, r, rfl, rfl⟩
      next => cases hs
    obtain ⟨ci, r, rfl, rfl⟩ := hq
    have e1 : (h ++ [Sum.inr (ci, ma_df (ks ci))] : List ma_C).length - h.length = 1 := by simp
    have e2 : ma_sl (h ++ [Sum.inr (ci, ma_df (ks ci))]) - ma_sl h = (ks ci).length := by rw [ma_sl_app]; simp [ma_sl, ma_cz, ma_df]
    rw [e1] at hce k
    rw [e2] at hsl k
    exact ma_o_new X hdg hlk hce (fun ci' r' q hq _ => by cases hq; exact hsl) (fun ci' r' hq => by cases hq; rfl) hs k
  | newarray a =>
    have hq : ∃ t n S2, S = .int n :: S2 ∧ h' = h ++ [.inl (t, n.toNatClampNeg, ma_new t)] := by
      simp only [ma_s] at hs
      split at hs
      next t n S2 _ =>
        split at hs
        next => cases hs
        next => cases hs; exact ⟨t, n, _, rfl, rfl⟩
      next => cases hs
    obtain ⟨t, n, S2, rfl, rfl⟩ := hq
    have e1 : (h ++ [Sum.inl (t, n.toNatClampNeg, ma_new t)] : List ma_C).length - h.length = 1 := by simp
    have e2 : ma_sl (h ++ [Sum.inl (t, n.toNatClampNeg, ma_new t)]) - ma_sl h = n.toNatClampNeg := by rw [ma_sl_app]; simp [ma_sl, ma_cz]
    rw [e1] at hce k
    rw [e2] at hsl k
    exact ma_o_newarray X hdg hlk hce (fun n' S' hq => by cases hq; exact hsl) (fun n' S' hq => by cases hq; rfl) hs k
  | anewarray x =>
    have hq : ∃ n S2, S = .int n :: S2 ∧ h' = h ++ [.inl (3, n.toNatClampNeg, ma_new 3)] := by
      simp only [ma_s] at hs
      split at hs
      next n S2 =>
        split at hs
        next => cases hs
        next => cases hs; exact ⟨n, _, rfl, rfl⟩
      next => cases hs
    obtain ⟨n, S2, rfl, rfl⟩ := hq
    have e1 : (h ++ [Sum.inl (3, n.toNatClampNeg, ma_new 3)] : List ma_C).length - h.length = 1 := by simp
    have e2 : ma_sl (h ++ [Sum.inl (3, n.toNatClampNeg, ma_new 3)]) - ma_sl h = n.toNatClampNeg := by rw [ma_sl_app]; simp [ma_sl, ma_cz]
    rw [e1] at hce k
    rw [e2] at hsl k
    exact ma_o_anewarray X hdg hlk hce (fun n' S' hq => by cases hq; exact hsl) (fun n' S' hq => by cases hq; rfl) hs k
  | multianewarray x dd =>
    by_cases hd : dd = 2
    · subst hd
      exact ma_o_multi X hdg hlk hs hce hsl k
    · exfalso
      unfold ma_s at hs
      split at hs <;> first | (cases hs; done) | (rename_i hq; cases hq; done) | (rename_i hq; cases hq; exact absurd rfl hd)
  | _ => exact absurd hs (by simp [ma_s])
end MA
end
section
/-! ===== the induction over runs ===== -/
theorem ma_ent_lv {ad : Nat → Nat} : ∀ (a : List Value) (i0 i : Nat) (v : Value), (ma_ent a)[i]? = some (some v) → (i0 + i, ma_va ad v) ∈ lv_args i0 (a.map (ma_va ad))
  | [], i0, i, v, h => by simp [ma_ent] at h
  | x :: a, i0, i, v, h => by
    simp only [List.map_cons, lv_args, ma_va_cat]
    unfold ma_ent at h
    split at h
    next hc =>
      rw [if_pos hc]
      match i, h with
      | 0, h => simp at h; subst h; exact List.mem_cons_self
      | 1, h => simp at h
      | i + 2, h =>
        have := ma_ent_lv (ad := ad) a (i0 + 2) i v (by simpa using h)
        rw [show i0 + (i + 2) = i0 + 2 + i by omega]
        exact List.mem_cons_of_mem _ this
    next hc =>
      rw [if_neg hc]
      match i, h with
      | 0, h => simp at h; subst h; exact List.mem_cons_self
      | i + 1, h =>
        have := ma_ent_lv (ad := ad) a (i0 + 1) i v (by simpa using h)
        rw [show i0 + (i + 1) = i0 + 1 + i by omega]
        exact List.mem_cons_of_mem _ this
theorem ma_ent_len (ad : Nat → Nat) : ∀ (a : List Value), (lg_sl (a.map (ma_va ad))).length = (ma_ent a).length
  | [] => rfl
  | x :: a => by
    have ih := ma_ent_len ad a
    simp only [List.map_cons, lg_sl, List.flatMap_cons, ma_va_cat, ma_ent, List.length_append] at ih ⊢
    split <;> simp [ih] <;> omega
theorem ma_en_lv {ad : Nat → Nat} {a : List Value} {n : Nat} (h : (ma_ent a).length ≤ n) : lv_has ((lg_sl (a.map (ma_va ad)) ++ List.replicate (n - (lg_sl (a.map (ma_va ad))).length) Slot.unset).toArray) n (ma_lv ad (ma_en a n)) := by
  have h1 := lv_entry (a.map (ma_va ad)) (n := n) (by rw [ma_ent_len]; exact h)
  refine ⟨h1.1, h1.2.1, fun q hq => h1.2.2 q ?_⟩
  obtain ⟨v, g1, -, g3⟩ := ma_lv_mem.mp hq
  unfold ma_en at g1
  have hlt : q.1 < (ma_ent a).length := by
    rcases Nat.lt_or_ge q.1 (ma_ent a).length with z | z
    · exact z
    · rw [List.getElem?_append_right z] at g1
      have := List.eq_of_mem_replicate (List.mem_of_getElem? g1)
      cases this
  rw [List.getElem?_append_left hlt] at g1
  have := ma_ent_lv (ad := ad) a 0 q.1 v g1
  rw [Nat.zero_add, ← g3] at this
  exact this
theorem ma_en_len {a : List Value} {n : Nat} (h : (ma_ent a).length ≤ n) : (ma_en a n).length = n := by
  unfold ma_en
  rw [List.length_append, List.length_replicate]
  omega
/-- what is asked of a program and of the tables, once -/
def ma_All (D : va_G) (cl : List vw_C) (ad : Nat → Nat) (base : Nat) (G : List Jvm.Cond) (TF : State → Heap → Prop) (TK : String → Instr → List Nat → Prop) (l : Launch) (mt : Nat → Option ma_M) (P : ma_P) : Prop :=
  ma_TF base TF ∧ (∀ w ∈ G, ((w.onTables && w.keeps) = true ∨ ∃ ty, w = Jvm.Cond.arrayClass ty)) ∧ ma_TX D cl P.2.2.1 ad base P.2.2.2.2 G TF TK P.2.2.2.1 l ∧ (∀ k, k < 4096 → ad k = base + k) ∧ ma_cls cl P.2.2.1 G ∧ ad 4096 < base ∧
  ∀ (m : Nat) (q : ma_M), mt m = some q → plainName q.1.cls = true ∧ P.2.1 m = q.2.2.1 ∧ q.2.2.1 ≤ 80 ∧ ∀ t, ma_ok cl P.2.2.1 mt G TK q t (P.1 m t)
section MZ
variable {D : va_G} {cl : List vw_C} {ad : Nat → Nat} {base : Nat} {G : List Jvm.Cond} {l : Launch} {TF : State → Heap → Prop} {TK : String → Instr → List Nat → Prop} {mt : Nat → Option ma_M} {P : ma_P}
/-- the walk of a frame, from a state of the list machine on -/
def ma_Wk (D : va_G) (cl : List vw_C) (ad : Nat → Nat) (base : Nat) (G : List Jvm.Cond) (TF : State → Heap → Prop) (TK : String → Instr → List Nat → Prop) (l : Launch) (mt : Nat → Option ma_M) (P : ma_P) (d m' : Nat) (is : List ma_I) (L : ma_L) (S : List Value) (h : List ma_C) (r : Option Value) (hE : List ma_C) : Prop :=
  ∀ (q : ma_M) (p : Program) (e : Env) (R : Room) (s : State) (m : MethodId) (args : Array Value) (below : List Frame) (meth : Method) (c : Code) (Q : State → Prop) (pc : Nat) (h0 : List ma_C), mt m' = some q →
    ma_X D cl P.2.2.1 ad base P.2.2.2.2 G q.1.cls (q.1.name == "<init>") p s m args meth c q.2.1 q.2.2.1 → TF s s.heap → ma_ok cl P.2.2.1 mt G TK q pc is → d + 1 ≤ R.frames → 100 * (d + 1) ≤ R.locals → ma_le h0 h → hE.length - h0.length ≤ R.cells → ma_sl hE - ma_sl h0 ≤ R.slots →
    (∀ (i : Instr) (o : List Nat) (S2 : List Value) (L2 : ma_L) (pc2 : Nat), ma_r i o S2 = some r → decode q.2.1 pc2 = .ok (i, ma_ln pc2 i) → ma_lk cl P.2.2.1 mt G TK q.1.cls (q.1.name == "<init>") q.2.2.2.1 pc2 i o → ma_G D cl ad base p l e R s m args below meth c Q q.2.2.1 pc2 L2 S2 hE (hE.length - h0.length) (ma_sl hE - ma_sl h0)) →
    ma_G D cl ad base p l e R s m args below meth c Q q.2.2.1 pc L S h (h.length - h0.length) (ma_sl h - ma_sl h0)
theorem ma_Wk.met (A : ma_All D cl ad base G TF TK l mt P) {d m' : Nat} {q : ma_M} {a : List Value} {h : List ma_C} {r : Option Value} {hE : List ma_C} (hq : mt m' = some q) (hlen : (ma_ent a).length ≤ q.2.2.1)
    (w : ma_Wk D cl ad base G TF TK l mt P d m' (P.1 m' 0) (ma_en a q.2.2.1) [] h r hE) : ma_Mt D cl ad base G TF l P q d a h r hE := by
  obtain ⟨hTF, hGood, hTX, had, hcls, hsb, hB⟩ := A
  obtain ⟨hpl, hmx, hmx2, hbl⟩ := hB _ _ hq
  refine Met.ofW (cc := q.2.1) (maxL := q.2.2.1) (ret := q.2.2.2.1) hpl rfl ?_
  intro p e s m args below meth c s₁ B hml hv
  obtain ⟨rfl, hH, hkn, hsx, hT⟩ := hv
  have hts0 := atoms_spec (ws := Jvm.Cond.code q.1 q.2.1 q.2.2.1 q.2.2.2.1 :: G) B.pre
  have X : ma_X D cl P.2.2.1 ad base P.2.2.2.2 G q.1.cls (q.1.name == "<init>") p s m (a.map (ma_va ad)).toArray meth c q.2.1 q.2.2.1 := ⟨B.exec, B.bytes, hml, findClass_of_methodNamed B.named, fun w hw => hts0 w (List.mem_cons_of_mem _ hw), hkn, had, fun hi => (name_of_methodNamed B.named B.method).1.trans (eq_of_beq hi), hcls, hsx, hsb⟩
  have g := w q p e (headSpec (Jvm.Cond.code q.1 q.2.1 q.2.2.1 q.2.2.2.1 :: G) (ma_rm d (hE.length - h.length) (ma_sl hE - ma_sl h))).room s m _ below meth c (MQ below (ma_Qc D cl ad base r hE) (a.map (ma_va ad)).toArray s (hE.length - h.length) (ma_sl hE - ma_sl h) (fun q => base ≤ q)) 0 h hq X hT (hbl 0) (Nat.le_refl _) (Nat.le_refl _) ma_le.rf (Nat.le_refl _) (Nat.le_refl _) (fun i o S2 L2 pc2 z1 z2 z3 => ?_)
  · rw [Nat.sub_self, Nat.sub_self] at g
    rw [lg_entry_eq]
    exact g s.heap [] _ hH ⟨fun _ _ => rfl, fun _ z => by cases z⟩ (ma_en_lv hlen) (ma_en_len hlen)
  · refine ma_ret_int B.exec B.bytes B.returns B.notSynchronized z2 ⟨fun e1 e2 => ?_, fun e1 e2 => ?_, fun e2 => ?_, fun e2 => ?_⟩ z1
    · subst e2; exact z3.1 e1
    · subst e2; exact z3.2 e1
    · subst e2; exact z3
    · subst e2; exact z3
theorem ma_xv_same {tx : Nat → Int32 → Option Int32} {x : Nat} {o : List Nat} {S S' : List Value} {h h' : List ma_C} (hs : ma_x tx (.invokevirtual x) o S h = some (S', h')) : h' = h := by
  unfold ma_x at hs
  repeat' split at hs
  all_goals first
    | (cases hs; done)
    | contradiction
    | (cases hs; rfl)
set_option maxHeartbeats 4000000 in
theorem ma_sound (A : ma_All D cl ad base G TF TK l mt P) : ∀ (n d m' : Nat) (is : List ma_I) (L : ma_L) (S : List Value) (h : List ma_C) (r : Option Value) (hE : List ma_C), ma_run P n d m' is L S h = some (r, hE) → ma_Wk D cl ad base G TF TK l mt P d m' is L S h r hE
  | 0, _, _, _, _, _, _, _, _, hr => by simp [ma_run] at hr
  | n + 1, d, m', [], L, S, h, r, hE, hr => by simp [ma_run] at hr
  | n + 1, d, m', (i, o) :: is, L, S, h, r, hE, hr => by
    intro q p e R s m args below meth c Q pc h0 hq X hT hok hfr hlo hle hce hsl hend
    obtain ⟨hTF, hGood, hTX, had, hcls, hsb, hB⟩ := id A
    obtain ⟨hpl, hmx, hmx2, hbl⟩ := hB _ _ hq
    obtain ⟨hdg, hlk, hok2⟩ := hok
    unfold ma_run at hr
    split at hr
    next hk =>
      have hdg : decode q.2.1 pc = .ok (i, ma_ln pc i) := hdg.resolve_left (fun z => by subst z; cases hk)
      split at hr
      next L1 S1 h1 hs =>
        have l1 := ma_s_le hs
        have l2 := ma_run_le _ _ _ _ _ _ _ _ _ hr
        have g := ma_sound A n d m' is L1 S1 h1 r hE hr q p e R s m args below meth c Q (pc + ma_ln pc i) h0 hq X hT hok2 hfr hlo (hle.tr l1) hce hsl hend
        refine ma_s_all (cells := h.length - h0.length) (slots := ma_sl h - ma_sl h0) X hT hTX hdg hlk hs ?_ ?_ ?_
        · have := l1.1; have := l2.1; have := hle.1; omega
        · have := l1.2; have := l2.2; have := hle.2; omega
        · rw [show h.length - h0.length + (h1.length - h.length) = h1.length - h0.length by have := l1.1; have := hle.1; omega, show ma_sl h - ma_sl h0 + (ma_sl h1 - ma_sl h) = ma_sl h1 - ma_sl h0 by have := l1.2; have := hle.2; omega]
          exact g
      next => cases hr
    next hk =>
      have hjt : ma_jt pc i o := by
        unfold ma_k at hk
        split at hk <;> first | exact hlk | cases hk
      split at hr
      next t S1 hs =>
        exact ma_o_j X hdg hjt hs (ma_sound A n d m' _ L S1 h r hE hr q p e R s m args below meth c Q t h0 hq X hT (hbl t) hfr hlo hle hce hsl hend)
      next S1 hs =>
        exact ma_o_j X hdg hjt hs (ma_sound A n d m' _ L S1 h r hE hr q p e R s m args below meth c Q (pc + ma_ln pc i) h0 hq X hT hok2 hfr hlo hle hce hsl hend)
      next => cases hr
    next hk =>
      have hdg : decode q.2.1 pc = .ok (i, ma_ln pc i) := hdg.resolve_left (fun z => by subst z; cases hk)
      have hml : ma_ml mt G cl q.1.cls i o ∧ ma_ln pc i = 3 := by
        unfold ma_k at hk
        split at hk <;> first | exact ⟨hlk, rfl⟩ | cases hk
      split at hr
      next m2 a S1 hc =>
        split at hr
        next => cases hr
        next hlen =>
          split at hr
          next => cases hr
          next d1 =>
            split at hr
            next r1 h1 hs =>
              have l1 := ma_run_le _ _ _ _ _ _ _ _ _ hs
              have l2 := ma_run_le _ _ _ _ _ _ _ _ _ hr
              have g := ma_sound A n (d1 + 1) m' is L _ h1 r hE hr q p e R s m args below meth c Q (pc + ma_ln pc i) h0 hq X hT hok2 hfr hlo (hle.tr l1) hce hsl hend
              have w := ma_sound A n d1 m2 _ _ _ h r1 h1 hs
              refine ma_o_call (mt := mt) (h' := h1) (r := r1) (mc := h1.length - h.length) (ms := ma_sl h1 - ma_sl h) (rm := ma_rm d1 (h1.length - h.length) (ma_sl h1 - ma_sl h)) hTF hGood X hT hdg hml.1 hc (fun y bytes maxL ret st hmt => ?_) ?_ ?_ ?_
              · obtain ⟨-, hmx', hmx2', -⟩ := hB _ _ hmt
                have hmt' : P.2.1 m2 = maxL := hmx'
                have hle80 : maxL ≤ 80 := hmx2'
                rw [hmt'] at hlen w
                have hmet : ma_Mt D cl ad base G TF l P (y, bytes, maxL, ret, st) d1 a h r1 h1 := ma_Wk.met A hmt (Nat.le_of_not_lt hlen) w
                have hlo' : 100 * (d1 + 1 + 1) ≤ R.locals := hlo
                exact ⟨hmet, rfl, rfl, hfr, by show 8 + (maxL + 11) + 100 * (d1 + 1) ≤ R.locals; omega⟩
              · have := l1.1; have := l2.1; have := hle.1; omega
              · have := l1.2; have := l2.2; have := hle.2; omega
              · rw [show h.length - h0.length + (h1.length - h.length) = h1.length - h0.length by have := l1.1; have := hle.1; omega, show ma_sl h - ma_sl h0 + (ma_sl h1 - ma_sl h) = ma_sl h1 - ma_sl h0 by have := l1.2; have := hle.2; omega]
                rw [hml.2] at g
                exact g
            next => cases hr
      next => cases hr
    next hk =>
      have hdg : decode q.2.1 pc = .ok (i, ma_ln pc i) := hdg.resolve_left (fun z => by subst z; cases hk)
      split at hr
      next r1 hs =>
        cases hr
        exact hend i o S L pc hs hdg hlk
      next => cases hr
    next hk0 hk1 hk2 hk3 =>
      have hdg : decode q.2.1 pc = .ok (i, ma_ln pc i) := hdg.resolve_left (fun z => by subst z; exact hk1 rfl)
      split at hr
      next S1 h1 hs =>
        split at hs
        next => cases hs
        next hd9 =>
          have l1 := ma_x_le hs
          have l2 := ma_run_le _ _ _ _ _ _ _ _ _ hr
          have g := ma_sound A n d m' is L S1 h1 r hE hr q p e R s m args below meth c Q (pc + ma_ln pc i) h0 hq X hT hok2 hfr hlo (hle.tr l1) hce hsl hend
          have hR : 1 ≤ R.frames ∧ 100 ≤ R.locals := ⟨by omega, by omega⟩
          cases i with
          | invokevirtual x =>
            have e1 := ma_xv_same hs
            subst e1
            have hTK : TK q.1.cls (.invokevirtual x) o ∧ ∀ r, o ≠ 0 :: r := by
              cases o with
              | nil => exact ⟨hlk, fun r z => by cases z⟩
              | cons a o =>
                cases a with
                | zero => exact absurd rfl hk2
                | succ a => exact ⟨hlk, fun r z => by cases z⟩
            intro H locs ls hH hF hl hn
            exact hTX X hT hF hl.1 hdg hTK.1 (Or.inr ⟨by omega, by omega, x, _, _, rfl, hTK.2, hs⟩) (g H locs ls hH hF hl hn)
          | invokespecial x =>
            have ho : o = [1] := by
              unfold ma_x at hs
              split at hs <;> first | rfl | (cases hs; done) | (rename_i z; cases z; done) | (rename_i z _; cases z; rfl) | (rename_i z _ _; cases z; done)
            subst ho
            have hh : h1 = h := by
              simp only [ma_x] at hs
              split at hs
              · split at hs
                · cases hs
                · cases hs; rfl
              · cases hs
            subst hh
            exact ma_o_obj X hdg hlk hR hs g
          | invokestatic x =>
            have ho : o = [2] := by
              unfold ma_x at hs
              split at hs <;> first | rfl | (cases hs; done) | (rename_i z; cases z; done) | (rename_i z _; cases z; rfl) | (rename_i z _ _; cases z; done)
            subst ho
            have hh : h1.length = h.length ∧ ma_sl h1 = ma_sl h := by
              simp only [ma_x] at hs
              split at hs
              · split at hs
                next n0 f n1 g2 ha hb1 =>
                  split at hs
                  · cases hs
                  · cases hs
                    exact ⟨by simp, ma_sl_set hb1 rfl⟩
                next => cases hs
              · cases hs
            rw [hh.1, hh.2] at g
            exact ma_o_copy X hdg hlk hR hs g
          | _ => exact absurd rfl (by first | exact hk0 | exact hk1 | exact hk3)
      next => cases hr
end MZ
end
section
/-! ===== the program as blocks (printed by a program of ours out of the Statement's bytes and tables) ===== -/
def pm_LH_init : List (Nat × List ma_I) := [(0, [(.aload_n 0, []), (.invokespecial 1, [1]), (.aload_n 0, []), (.new 7, [10]), (.dup, []), (.invokespecial 9, [0, 135, 1, 10]), (.putfield 10, [0, 0, 2]), (.aload_n 0, []), (.new 16, [4]), (.dup, []), (.invokespecial 18, [0, 63, 1, 4]), (.putfield 19, [0, 1, 2]), (.aload_n 0, []), (.new 23, [2]), (.dup, []), (.invokespecial 25, [0, 53, 1, 2]), (.putfield 26, [0, 2, 2]), (.aload_n 0, []), (.new 7, [10]), (.dup, []), (.invokespecial 9, [0, 135, 1, 10]), (.putfield 30, [0, 3, 2]), (.aload_n 0, []), (.new 16, [4]), (.dup, []), (.invokespecial 18, [0, 63, 1, 4]), (.putfield 33, [0, 4, 2]), (.aload_n 0, []), (.new 23, [2]), (.dup, []), (.invokespecial 25, [0, 53, 1, 2]), (.putfield 36, [0, 5, 2]), (.aload_n 0, []), (.new 39, [5]), (.dup, []), (.invokespecial 41, [0, 67, 1, 5]), (.putfield 42, [0, 7, 2]), (.aload_n 0, []), (.new 46, [9]), (.dup, []), (.invokespecial 48, [0, 120, 1, 9]), (.putfield 49, [0, 8, 2]), (.aload_n 0, []), (.new 53, [6]), (.dup, []), (.aload_n 0, []), (.getfield 49, [0, 8]), (.aload_n 0, []), (.getfield 10, [0, 0]), (.invokespecial 55, [0, 72, 3, 6]), (.putfield 58, [0, 9, 2]), (.aload_n 0, []), (.new 62, [1]), (.dup, []), (.aload_n 0, []), (.getfield 10, [0, 0]), (.invokespecial 64, [0, 42, 2, 1]), (.putfield 67, [0, 10, 2]), (.aload_n 0, []), (.new 71, [11]), (.dup, []), (.aload_n 0, []), (.getfield 10, [0, 0]), (.aload_n 0, []), (.getfield 67, [0, 10]), (.aload_n 0, []), (.getfield 26, [0, 2]), (.invokespecial 73, [0, 144, 4, 11]), (.putfield 76, [0, 11, 2]), (.aload_n 0, []), (.new 16, [4]), (.dup, []), (.invokespecial 18, [0, 63, 1, 4]), (.putfield 80, [0, 12, 2]), (.aload_n 0, []), (.new 71, [11]), (.dup, []), (.aload_n 0, []), (.getfield 10, [0, 0]), (.aload_n 0, []), (.getfield 67, [0, 10]), (.aconst_null, []), (.invokespecial 73, [0, 144, 4, 11]), (.putfield 83, [0, 13, 2]), (.aload_n 0, []), (.new 86, [8]), (.dup, []), (.aload_n 0, []), (.getfield 10, [0, 0]), (.aload_n 0, []), (.getfield 19, [0, 1]), (.aload_n 0, []), (.getfield 67, [0, 10]), (.aload_n 0, []), (.getfield 80, [0, 12]), (.invokespecial 88, [0, 90, 5, 8]), (.putfield 91, [0, 14, 2]), (.aload_n 0, []), (.getfield 10, [0, 0]), (.bipush 10, []), (.invokevirtual 95, [0, 136, 2, 10]), (.aload_n 0, []), (.getfield 19, [0, 1]), (.invokevirtual 99, [0, 64, 1, 4]), (.return_, [])])]
def pm_LH_state : List (Nat × List ma_I) := [(0, [(.aload_n 0, []), (.getfield 19, [0, 1]), (.getfield 101, [4, 7]), (.istore_n 2, []), (.aload_n 0, []), (.getfield 19, [0, 1]), (.iload_n 1, []), (.putfield 101, [4, 7, 0]), (.aload_n 0, []), (.getfield 42, [0, 7]), (.invokevirtual 105, [0, 68, 1, 5]), (.iload_n 2, []), (.ireturn, [0])])]
def pm_LH_sea : List (Nat × List ma_I) := [(0, [(.iload_n 1, []), (.iconst 3, []), (.bipush 14, []), (.invokestatic 108, [0, 3, 3]), (.ifCond .ne 5, [12]), (.iconst 0, []), (.ireturn, [1])]), (12, [(.aload_n 0, []), (.getfield 10, [0, 0]), (.iload_n 1, []), (.invokevirtual 95, [0, 136, 2, 10]), (.aload_n 0, []), (.getfield 19, [0, 1]), (.invokevirtual 99, [0, 64, 1, 4]), (.aload_n 0, []), (.getfield 42, [0, 7]), (.invokevirtual 105, [0, 68, 1, 5]), (.iconst 1, []), (.ireturn, [1])])]
def pm_LH_within : List (Nat × List ma_I) := [(0, [(.iload_n 0, []), (.iload_n 1, []), (.if_icmp .lt 12, [14]), (.iload_n 0, []), (.iload_n 2, []), (.if_icmp .gt 7, [14]), (.iconst 1, []), (.goto 4, [15])]), (14, [(.iconst 0, []), (.nop, [15])]), (15, [(.ireturn, [1])])]
def pm_LH_ship : List (Nat × List ma_I) := [(0, [(.aload_n 0, []), (.getfield 10, [0, 0]), (.getfield 112, [10, 3]), (.istore_n 3, []), (.aload_n 0, []), (.getfield 10, [0, 0]), (.iload_n 1, []), (.invokevirtual 115, [0, 137, 2, 10]), (.ifCond .eq 19, [35]), (.iload_n 2, []), (.iconst 0, []), (.bipush 40, []), (.invokestatic 108, [0, 3, 3]), (.ifCond .eq 9, [35]), (.iload_n 3, []), (.bipush 8, []), (.if_icmp .lt 5, [37]), (.nop, [35])]), (35, [(.iconst (-1), []), (.ireturn, [0])]), (37, [(.aload_n 0, []), (.getfield 10, [0, 0]), (.getfield 119, [10, 4]), (.iload_n 3, []), (.iload_n 2, []), (.iastore, []), (.aload_n 0, []), (.getfield 19, [0, 1]), (.getfield 123, [4, 2]), (.iload_n 3, []), (.iload_n 1, []), (.iastore, []), (.aload_n 0, []), (.getfield 19, [0, 1]), (.getfield 126, [4, 3]), (.iload_n 3, []), (.iconst 0, []), (.iastore, []), (.aload_n 0, []), (.getfield 10, [0, 0]), (.iload_n 3, []), (.iconst 1, []), (.iadd, []), (.putfield 112, [10, 3, 0]), (.aload_n 0, []), (.getfield 42, [0, 7]), (.invokevirtual 105, [0, 68, 1, 5]), (.iload_n 3, []), (.ireturn, [0])])]
def pm_LH_pier : List (Nat × List ma_I) := [(0, [(.aload_n 0, []), (.getfield 10, [0, 0]), (.getfield 129, [10, 5]), (.istore_n 3, []), (.aload_n 0, []), (.getfield 10, [0, 0]), (.iload_n 1, []), (.invokevirtual 115, [0, 137, 2, 10]), (.ifCond .eq 19, [35]), (.iload_n 2, []), (.iconst 0, []), (.bipush 20, []), (.invokestatic 108, [0, 3, 3]), (.ifCond .eq 9, [35]), (.iload_n 3, []), (.bipush 6, []), (.if_icmp .lt 5, [37]), (.nop, [35])]), (35, [(.iconst (-1), []), (.ireturn, [0])]), (37, [(.aload_n 0, []), (.getfield 10, [0, 0]), (.getfield 132, [10, 6]), (.iload_n 3, []), (.iload_n 1, []), (.iastore, []), (.aload_n 0, []), (.getfield 10, [0, 0]), (.getfield 135, [10, 7]), (.iload_n 3, []), (.iload_n 2, []), (.iastore, []), (.aload_n 0, []), (.getfield 10, [0, 0]), (.iload_n 3, []), (.iconst 1, []), (.iadd, []), (.putfield 129, [10, 5, 0]), (.aload_n 0, []), (.getfield 42, [0, 7]), (.invokevirtual 105, [0, 68, 1, 5]), (.iload_n 3, []), (.ireturn, [0])])]
def pm_LH_set : List (Nat × List ma_I) := [(0, [(.iload_n 1, []), (.iconst 2, []), (.if_icmp .ge 12, [14]), (.aload_n 0, []), (.iload_n 1, []), (.iload_n 3, []), (.invokevirtual 138, [0, 7, 3, 0]), (.goto 10, [21])]), (14, [(.aload_n 0, []), (.iload_n 1, []), (.iload_n 2, []), (.iload_n 3, []), (.invokevirtual 142, [0, 8, 4, 0]), (.nop, [21])]), (21, [(.istore 4, []), (.iload 4, []), (.ifCond .eq 10, [35]), (.aload_n 0, []), (.getfield 42, [0, 7]), (.invokevirtual 105, [0, 68, 1, 5]), (.nop, [35])]), (35, [(.iload 4, []), (.ireturn, [1])])]
def pm_LH_changeRule : List (Nat × List ma_I) := [(0, [(.iload_n 1, []), (.ifCond .ne 23, [24]), (.iload_n 2, []), (.iconst 1, []), (.bipush 9, []), (.invokestatic 108, [0, 3, 3]), (.ifCond .eq 13, [24]), (.aload_n 0, []), (.getfield 10, [0, 0]), (.iload_n 2, []), (.putfield 145, [10, 1, 0]), (.iconst 1, []), (.ireturn, [1])]), (24, [(.iload_n 1, []), (.iconst 1, []), (.if_icmp .ne 24, [50]), (.iload_n 2, []), (.iconst 0, []), (.sipush 1000, []), (.invokestatic 108, [0, 3, 3]), (.ifCond .eq 13, [50]), (.aload_n 0, []), (.getfield 10, [0, 0]), (.iload_n 2, []), (.putfield 148, [10, 2, 0]), (.iconst 1, []), (.ireturn, [1])]), (50, [(.iconst 0, []), (.ireturn, [1])])]
def pm_LH_changeOne : List (Nat × List ma_I) := [(0, [(.iload_n 1, []), (.iconst 2, []), (.if_icmp .ne 36, [38]), (.aload_n 0, []), (.getfield 10, [0, 0]), (.iload_n 2, []), (.invokevirtual 115, [0, 137, 2, 10]), (.ifCond .eq 25, [38]), (.iload_n 3, []), (.iconst 0, []), (.bipush 99, []), (.invokestatic 108, [0, 3, 3]), (.ifCond .eq 15, [38]), (.aload_n 0, []), (.getfield 19, [0, 1]), (.getfield 151, [4, 1]), (.iload_n 2, []), (.iload_n 3, []), (.iastore, []), (.iconst 1, []), (.ireturn, [1])]), (38, [(.iload_n 1, []), (.iconst 3, []), (.if_icmp .ne 37, [77]), (.aload_n 0, []), (.getfield 10, [0, 0]), (.iload_n 2, []), (.invokevirtual 154, [0, 138, 2, 10]), (.ifCond .eq 26, [77]), (.aload_n 0, []), (.getfield 10, [0, 0]), (.iload_n 3, []), (.invokevirtual 115, [0, 137, 2, 10]), (.ifCond .eq 15, [77]), (.aload_n 0, []), (.getfield 19, [0, 1]), (.getfield 123, [4, 2]), (.iload_n 2, []), (.iload_n 3, []), (.iastore, []), (.iconst 1, []), (.ireturn, [1])]), (77, [(.iload_n 1, []), (.iconst 4, []), (.if_icmp .ne 37, [116]), (.aload_n 0, []), (.getfield 10, [0, 0]), (.iload_n 2, []), (.invokevirtual 157, [0, 139, 2, 10]), (.ifCond .eq 26, [116]), (.aload_n 0, []), (.getfield 10, [0, 0]), (.iload_n 3, []), (.invokevirtual 115, [0, 137, 2, 10]), (.ifCond .eq 15, [116]), (.aload_n 0, []), (.getfield 10, [0, 0]), (.getfield 132, [10, 6]), (.iload_n 2, []), (.iload_n 3, []), (.iastore, []), (.iconst 1, []), (.ireturn, [1])]), (116, [(.iconst 0, []), (.ireturn, [1])])]
def pm_LH_raise : List (Nat × List ma_I) := [(0, [(.aload_n 0, []), (.getfield 10, [0, 0]), (.iload_n 1, []), (.invokevirtual 115, [0, 137, 2, 10]), (.ifCond .eq 13, [21]), (.iload_n 2, []), (.iconst 0, []), (.bipush 40, []), (.invokestatic 108, [0, 3, 3]), (.ifCond .ne 5, [23]), (.nop, [21])]), (21, [(.iconst (-1), []), (.ireturn, [0])]), (23, [(.aload_n 0, []), (.getfield 42, [0, 7]), (.aload_n 0, []), (.getfield 19, [0, 1]), (.invokevirtual 160, [0, 69, 2, 5]), (.aload_n 0, []), (.getfield 76, [0, 11]), (.aload_n 0, []), (.getfield 19, [0, 1]), (.iload_n 1, []), (.iload_n 2, []), (.invokevirtual 164, [0, 145, 4, 11]), (.pop, []), (.aload_n 0, []), (.getfield 19, [0, 1]), (.getfield 168, [4, 0]), (.iload_n 1, []), (.iaload, []), (.ireturn, [0])])]
def pm_LH_hold : List (Nat × List ma_I) := [(0, [(.iload_n 0, []), (.iload_n 1, []), (.if_icmp .ge 5, [7]), (.iload_n 1, []), (.ireturn, [0])]), (7, [(.iload_n 0, []), (.iload_n 2, []), (.if_icmp .le 7, [16]), (.iload_n 2, []), (.goto 4, [17])]), (16, [(.iload_n 0, []), (.nop, [17])]), (17, [(.ireturn, [0])])]
def pm_LH_lift : List (Nat × List ma_I) := [(0, [(.iload_n 1, []), (.ifCond .eq 14, [15]), (.iload_n 1, []), (.bipush (-20), []), (.bipush 20, []), (.invokestatic 108, [0, 3, 3]), (.ifCond .ne 5, [17]), (.nop, [15])]), (15, [(.iconst (-1), []), (.ireturn, [0])]), (17, [(.aload_n 0, []), (.getfield 42, [0, 7]), (.aload_n 0, []), (.getfield 19, [0, 1]), (.invokevirtual 160, [0, 69, 2, 5]), (.aload_n 0, []), (.getfield 76, [0, 11]), (.aload_n 0, []), (.getfield 19, [0, 1]), (.iload_n 1, []), (.invokevirtual 171, [0, 147, 3, 11]), (.ireturn, [0])])]
def pm_LH_mend : List (Nat × List ma_I) := [(0, [(.aload_n 0, []), (.getfield 10, [0, 0]), (.iload_n 1, []), (.invokevirtual 115, [0, 137, 2, 10]), (.ifCond .ne 5, [13]), (.iconst (-1), []), (.ireturn, [0])]), (13, [(.aload_n 0, []), (.getfield 42, [0, 7]), (.aload_n 0, []), (.getfield 19, [0, 1]), (.invokevirtual 160, [0, 69, 2, 5]), (.aload_n 0, []), (.getfield 76, [0, 11]), (.aload_n 0, []), (.getfield 19, [0, 1]), (.iload_n 1, []), (.invokevirtual 175, [0, 148, 3, 11]), (.ireturn, [0])])]
def pm_LH_hours : List (Nat × List ma_I) := [(0, [(.iload_n 1, []), (.iconst 1, []), (.bipush 60, []), (.invokestatic 108, [0, 3, 3]), (.ifCond .eq 18, [25]), (.aload_n 0, []), (.getfield 19, [0, 1]), (.getfield 178, [4, 6]), (.iload_n 1, []), (.iadd, []), (.sipush 9999, []), (.if_icmp .le 5, [27]), (.nop, [25])]), (25, [(.iconst (-1), []), (.ireturn, [0])]), (27, [(.aload_n 0, []), (.getfield 76, [0, 11]), (.invokevirtual 181, [0, 149, 1, 11]), (.iconst 0, []), (.istore_n 2, []), (.nop, [36])]), (36, [(.iload_n 2, []), (.iload_n 1, []), (.if_icmp .ge 31, [69]), (.aload_n 0, []), (.getfield 42, [0, 7]), (.aload_n 0, []), (.getfield 19, [0, 1]), (.invokevirtual 160, [0, 69, 2, 5]), (.aload_n 0, []), (.getfield 76, [0, 11]), (.aload_n 0, []), (.getfield 19, [0, 1]), (.invokevirtual 184, [0, 150, 2, 11]), (.iinc 2 1, []), (.goto (-30), [36])]), (69, [(.aload_n 0, []), (.getfield 76, [0, 11]), (.getfield 187, [11, 3]), (.ireturn, [0])])]
def pm_LH_feed : List (Nat × List ma_I) := [(0, [(.aload_n 0, []), (.getfield 49, [0, 8]), (.getfield 190, [9, 1]), (.bipush 20, []), (.iadd, []), (.sipush 400, []), (.if_icmp .le 5, [18]), (.iconst (-1), []), (.ireturn, [0])]), (18, [(.aload_n 0, []), (.getfield 49, [0, 8]), (.iload_n 1, []), (.invokevirtual 193, [0, 121, 2, 9]), (.aload_n 0, []), (.getfield 49, [0, 8]), (.iload_n 2, []), (.invokevirtual 193, [0, 121, 2, 9]), (.aload_n 0, []), (.getfield 49, [0, 8]), (.iload_n 3, []), (.invokevirtual 193, [0, 121, 2, 9]), (.aload_n 0, []), (.getfield 49, [0, 8]), (.iload 4, []), (.invokevirtual 193, [0, 121, 2, 9]), (.aload_n 0, []), (.getfield 49, [0, 8]), (.iload 5, []), (.invokevirtual 193, [0, 121, 2, 9]), (.aload_n 0, []), (.getfield 49, [0, 8]), (.getfield 190, [9, 1]), (.ireturn, [0])])]
def pm_LH_end : List (Nat × List ma_I) := [(0, [(.iload_n 1, []), (.iconst 0, []), (.aload_n 0, []), (.getfield 49, [0, 8]), (.getfield 190, [9, 1]), (.invokestatic 108, [0, 3, 3]), (.ifCond .ne 5, [17]), (.iconst 0, []), (.ireturn, [1])]), (17, [(.aload_n 0, []), (.getfield 49, [0, 8]), (.iload_n 1, []), (.putfield 190, [9, 1, 0]), (.iconst 1, []), (.ireturn, [1])])]
def pm_LH_text : List (Nat × List ma_I) := [(0, [(.aload_n 0, []), (.getfield 49, [0, 8]), (.invokevirtual 196, [0, 122, 1, 9]), (.aload_n 0, []), (.getfield 49, [0, 8]), (.iconst 0, []), (.putfield 190, [9, 1, 0]), (.iload_n 1, []), (.tableswitch 49 0 2 #[28, 36, 41], [65, 44, 52, 57])]), (44, [(.aload_n 0, []), (.getfield 58, [0, 9]), (.invokevirtual 199, [0, 73, 1, 6]), (.ireturn, [0])]), (52, [(.aload_n 0, []), (.invokevirtual 203, [0, 17, 1, 0]), (.ireturn, [0])]), (57, [(.aload_n 0, []), (.getfield 58, [0, 9]), (.invokevirtual 206, [0, 85, 1, 6]), (.ireturn, [0])]), (65, [(.iconst (-1), []), (.ireturn, [0])])]
def pm_LH_newRoster : List (Nat × List ma_I) := [(0, [(.aload_n 0, []), (.getfield 58, [0, 9]), (.invokevirtual 209, [0, 80, 1, 6]), (.istore_n 1, []), (.iload_n 1, []), (.iconst (-1), []), (.if_icmp .eq 10, [20]), (.aload_n 0, []), (.getfield 42, [0, 7]), (.invokevirtual 105, [0, 68, 1, 5]), (.nop, [20])]), (20, [(.iload_n 1, []), (.ireturn, [0])])]
def pm_LH_fault : List (Nat × List ma_I) := [(0, [(.iload_n 1, []), (.ifCond .ne 11, [12]), (.aload_n 0, []), (.getfield 49, [0, 8]), (.getfield 212, [9, 7]), (.ireturn, [0])]), (12, [(.iload_n 1, []), (.iconst 1, []), (.if_icmp .ne 13, [27]), (.aload_n 0, []), (.getfield 49, [0, 8]), (.getfield 215, [9, 8]), (.goto 4, [28])]), (27, [(.iconst (-1), []), (.nop, [28])]), (28, [(.ireturn, [0])])]
def pm_LH_of : List (Nat × List ma_I) := [(0, [(.aload_n 0, []), (.getfield 10, [0, 0]), (.iload_n 1, []), (.invokevirtual 115, [0, 137, 2, 10]), (.ifCond .ne 6, [14]), (.bipush (-2), []), (.ireturn, [0])]), (14, [(.iload_n 2, []), (.tableswitch 109 0 5 #[37, 47, 57, 70, 83, 96], [124, 52, 62, 72, 85, 98, 111])]), (52, [(.aload_n 0, []), (.getfield 19, [0, 1]), (.getfield 168, [4, 0]), (.iload_n 1, []), (.iaload, []), (.ireturn, [0])]), (62, [(.aload_n 0, []), (.getfield 19, [0, 1]), (.getfield 151, [4, 1]), (.iload_n 1, []), (.iaload, []), (.ireturn, [0])]), (72, [(.aload_n 0, []), (.getfield 67, [0, 10]), (.aload_n 0, []), (.getfield 19, [0, 1]), (.iload_n 1, []), (.invokevirtual 218, [0, 50, 3, 1]), (.ireturn, [0])]), (85, [(.aload_n 0, []), (.getfield 67, [0, 10]), (.aload_n 0, []), (.getfield 19, [0, 1]), (.iload_n 1, []), (.invokevirtual 221, [0, 49, 3, 1]), (.ireturn, [0])]), (98, [(.aload_n 0, []), (.getfield 67, [0, 10]), (.aload_n 0, []), (.getfield 19, [0, 1]), (.iload_n 1, []), (.invokevirtual 224, [0, 51, 3, 1]), (.ireturn, [0])]), (111, [(.aload_n 0, []), (.getfield 67, [0, 10]), (.aload_n 0, []), (.getfield 19, [0, 1]), (.iload_n 1, []), (.invokevirtual 227, [0, 45, 3, 1]), (.ireturn, [0])]), (124, [(.bipush (-2), []), (.ireturn, [0])])]
def pm_LH_sun : List (Nat × List ma_I) := [(0, [(.aload_n 0, []), (.getfield 10, [0, 0]), (.iload_n 1, []), (.invokevirtual 115, [0, 137, 2, 10]), (.ifCond .eq 13, [21]), (.iload_n 2, []), (.iconst 0, []), (.bipush 23, []), (.invokestatic 108, [0, 3, 3]), (.ifCond .ne 5, [23]), (.nop, [21])]), (21, [(.iconst (-1), []), (.ireturn, [0])]), (23, [(.aload_n 0, []), (.getfield 67, [0, 10]), (.aload_n 0, []), (.getfield 19, [0, 1]), (.iload_n 1, []), (.iload_n 2, []), (.invokevirtual 230, [0, 52, 4, 1]), (.ireturn, [0])])]
def pm_LH_costs : List (Nat × List ma_I) := [(0, [(.aload_n 0, []), (.getfield 10, [0, 0]), (.iload_n 1, []), (.invokevirtual 115, [0, 137, 2, 10]), (.ifCond .eq 13, [21]), (.iload_n 2, []), (.iconst 0, []), (.bipush 40, []), (.invokestatic 108, [0, 3, 3]), (.ifCond .ne 5, [23]), (.nop, [21])]), (21, [(.iconst (-1), []), (.ireturn, [0])]), (23, [(.aload_n 0, []), (.getfield 67, [0, 10]), (.aload_n 0, []), (.getfield 19, [0, 1]), (.iload_n 1, []), (.iload_n 2, []), (.invokevirtual 233, [0, 43, 4, 1]), (.ireturn, [0])])]
def pm_LH_shipOf : List (Nat × List ma_I) := [(0, [(.aload_n 0, []), (.getfield 10, [0, 0]), (.iload_n 1, []), (.invokevirtual 154, [0, 138, 2, 10]), (.ifCond .ne 5, [13]), (.iconst (-1), []), (.ireturn, [0])]), (13, [(.iload_n 2, []), (.tableswitch 56 0 2 #[26, 36, 46], [70, 40, 50, 60])]), (40, [(.aload_n 0, []), (.getfield 19, [0, 1]), (.getfield 123, [4, 2]), (.iload_n 1, []), (.iaload, []), (.ireturn, [0])]), (50, [(.aload_n 0, []), (.getfield 10, [0, 0]), (.getfield 119, [10, 4]), (.iload_n 1, []), (.iaload, []), (.ireturn, [0])]), (60, [(.aload_n 0, []), (.getfield 19, [0, 1]), (.getfield 126, [4, 3]), (.iload_n 1, []), (.iaload, []), (.ireturn, [0])]), (70, [(.iconst (-1), []), (.ireturn, [0])])]
def pm_LH_pierOf : List (Nat × List ma_I) := [(0, [(.aload_n 0, []), (.getfield 10, [0, 0]), (.iload_n 1, []), (.invokevirtual 157, [0, 139, 2, 10]), (.ifCond .ne 5, [13]), (.iconst (-1), []), (.ireturn, [0])]), (13, [(.iload_n 2, []), (.tableswitch 55 0 2 #[26, 36, 46], [69, 40, 50, 60])]), (40, [(.aload_n 0, []), (.getfield 10, [0, 0]), (.getfield 132, [10, 6]), (.iload_n 1, []), (.iaload, []), (.ireturn, [0])]), (50, [(.aload_n 0, []), (.getfield 10, [0, 0]), (.getfield 135, [10, 7]), (.iload_n 1, []), (.iaload, []), (.ireturn, [0])]), (60, [(.aload_n 0, []), (.getfield 91, [0, 14]), (.iload_n 1, []), (.invokevirtual 236, [0, 91, 2, 8]), (.ireturn, [0])]), (69, [(.iconst (-1), []), (.ireturn, [0])])]
def pm_LH_book : List (Nat × List ma_I) := [(0, [(.iload_n 1, []), (.iconst 0, []), (.aload_n 0, []), (.getfield 19, [0, 1]), (.getfield 240, [4, 8]), (.iconst 1, []), (.isub, []), (.invokestatic 108, [0, 3, 3]), (.ifCond .eq 12, [26]), (.iload_n 2, []), (.iconst 0, []), (.iconst 3, []), (.invokestatic 108, [0, 3, 3]), (.ifCond .ne 5, [28]), (.nop, [26])]), (26, [(.iconst (-1), []), (.ireturn, [0])]), (28, [(.aload_n 0, []), (.getfield 26, [0, 2]), (.iload_n 1, []), (.iload_n 2, []), (.invokevirtual 243, [0, 55, 3, 2]), (.ireturn, [0])])]
def pm_LH_goes : List (Nat × List ma_I) := [(0, [(.iload_n 1, []), (.iconst 1, []), (.bipush 99, []), (.invokestatic 108, [0, 3, 3]), (.ifCond .eq 12, [19]), (.iload_n 2, []), (.iconst 0, []), (.iconst 4, []), (.invokestatic 108, [0, 3, 3]), (.ifCond .ne 6, [22]), (.nop, [19])]), (19, [(.ldc 247, [0, 4294867296]), (.ireturn, [0])]), (22, [(.aload_n 0, []), (.getfield 80, [0, 12]), (.aload_n 0, []), (.getfield 19, [0, 1]), (.invokevirtual 248, [0, 65, 2, 4]), (.aload_n 0, []), (.getfield 83, [0, 13]), (.invokevirtual 181, [0, 149, 1, 11]), (.iconst 0, []), (.istore_n 3, []), (.nop, [42])]), (42, [(.iload_n 3, []), (.iload_n 1, []), (.if_icmp .ge 20, [64]), (.aload_n 0, []), (.getfield 83, [0, 13]), (.aload_n 0, []), (.getfield 80, [0, 12]), (.invokevirtual 184, [0, 150, 2, 11]), (.iinc 3 1, []), (.goto (-19), [42])]), (64, [(.iload_n 2, []), (.tableswitch 67 0 3 #[31, 39, 51, 59], [132, 96, 104, 116, 124])]), (96, [(.aload_n 0, []), (.getfield 80, [0, 12]), (.getfield 251, [4, 4]), (.ireturn, [0])]), (104, [(.aload_n 0, []), (.getfield 91, [0, 14]), (.aload_n 0, []), (.getfield 80, [0, 12]), (.invokevirtual 254, [0, 92, 2, 8]), (.ireturn, [0])]), (116, [(.aload_n 0, []), (.getfield 80, [0, 12]), (.getfield 258, [4, 5]), (.ireturn, [0])]), (124, [(.aload_n 0, []), (.getfield 83, [0, 13]), (.getfield 261, [11, 4]), (.ireturn, [0])]), (132, [(.aload_n 0, []), (.getfield 83, [0, 13]), (.getfield 264, [11, 5]), (.ireturn, [0])])]
def pm_LH_meets : List (Nat × List ma_I) := [(0, [(.iload_n 1, []), (.iconst 0, []), (.bipush 23, []), (.invokestatic 108, [0, 3, 3]), (.ifCond .eq 12, [19]), (.iload_n 2, []), (.iconst 0, []), (.iconst 3, []), (.invokestatic 108, [0, 3, 3]), (.ifCond .ne 5, [21]), (.nop, [19])]), (19, [(.iconst (-1), []), (.ireturn, [0])]), (21, [(.aload_n 0, []), (.getfield 91, [0, 14]), (.iload_n 1, []), (.iload_n 2, []), (.invokevirtual 267, [0, 93, 3, 8]), (.ireturn, [0])])]
def pm_LH_smooth : List (Nat × List ma_I) := [(0, [(.iload_n 1, []), (.ifCond .eq 19, [20]), (.aload_n 0, []), (.getfield 10, [0, 0]), (.iload_n 1, []), (.invokestatic 270, [0, 28, 1]), (.invokevirtual 115, [0, 137, 2, 10]), (.ifCond .ne 5, [20]), (.iconst (-1), []), (.ireturn, [0])]), (20, [(.aload_n 0, []), (.getfield 91, [0, 14]), (.iload_n 1, []), (.ifCond .ne 7, [32]), (.iconst (-1), []), (.goto 7, [36])]), (32, [(.iload_n 1, []), (.invokestatic 270, [0, 28, 1]), (.nop, [36])]), (36, [(.invokevirtual 273, [0, 99, 2, 8]), (.ireturn, [0])])]
def pm_LH_numbered : List (Nat × List ma_I) := [(0, [(.iload_n 0, []), (.bipush 10, []), (.if_icmp .ge 7, [10]), (.iconst (-1), []), (.goto 7, [14])]), (10, [(.iload_n 0, []), (.bipush 10, []), (.isub, []), (.nop, [14])]), (14, [(.ireturn, [0])])]
def pm_LH_folds : List (Nat × List ma_I) := [(0, [(.aload_n 0, []), (.getfield 91, [0, 14]), (.invokevirtual 276, [0, 101, 1, 8]), (.ireturn, [0])])]
def pm_LH_sunset : List (Nat × List ma_I) := [(0, [(.iload_n 1, []), (.iconst (-1), []), (.if_icmp .ne 13, [15]), (.aload_n 0, []), (.getfield 10, [0, 0]), (.iconst 0, []), (.putfield 279, [10, 8, 0]), (.iconst 0, []), (.ireturn, [0])]), (15, [(.aload_n 0, []), (.getfield 10, [0, 0]), (.getfield 279, [10, 8]), (.istore_n 3, []), (.aload_n 0, []), (.getfield 10, [0, 0]), (.iload_n 1, []), (.invokevirtual 115, [0, 137, 2, 10]), (.ifCond .eq 19, [50]), (.iload_n 2, []), (.iconst 0, []), (.bipush 23, []), (.invokestatic 108, [0, 3, 3]), (.ifCond .eq 9, [50]), (.iload_n 3, []), (.bipush 8, []), (.if_icmp .lt 5, [52]), (.nop, [50])]), (50, [(.iconst (-1), []), (.ireturn, [0])]), (52, [(.aload_n 0, []), (.getfield 10, [0, 0]), (.getfield 282, [10, 9]), (.iload_n 3, []), (.iload_n 1, []), (.iastore, []), (.aload_n 0, []), (.getfield 10, [0, 0]), (.getfield 285, [10, 10]), (.iload_n 3, []), (.iload_n 2, []), (.iastore, []), (.aload_n 0, []), (.getfield 10, [0, 0]), (.iload_n 3, []), (.iconst 1, []), (.iadd, []), (.putfield 279, [10, 8, 0]), (.aload_n 0, []), (.getfield 10, [0, 0]), (.getfield 279, [10, 8]), (.ireturn, [0])])]
def pm_LH_lifted : List (Nat × List ma_I) := [(0, [(.iload_n 1, []), (.iconst 0, []), (.iconst 2, []), (.invokestatic 108, [0, 3, 3]), (.ifCond .ne 6, [12]), (.bipush (-100), []), (.ireturn, [0])]), (12, [(.aload_n 0, []), (.getfield 91, [0, 14]), (.iload_n 1, []), (.invokevirtual 288, [0, 103, 2, 8]), (.ireturn, [0])])]
def pm_LH_over : List (Nat × List ma_I) := [(0, [(.iload_n 1, []), (.aload_n 0, []), (.getfield 10, [0, 0]), (.invokevirtual 291, [0, 142, 1, 10]), (.iconst (-1), []), (.ixor, []), (.iand, []), (.ifCond .eq 5, [16]), (.iconst (-1), []), (.ireturn, [0])]), (16, [(.aload_n 0, []), (.getfield 91, [0, 14]), (.iload_n 1, []), (.invokevirtual 294, [0, 111, 2, 8]), (.ireturn, [0])])]
def pm_LH_watch : List (Nat × List ma_I) := [(0, [(.iload_n 1, []), (.iconst 0, []), (.iconst 1, []), (.invokestatic 108, [0, 3, 3]), (.ifCond .ne 5, [11]), (.iconst (-1), []), (.ireturn, [0])]), (11, [(.aload_n 0, []), (.getfield 91, [0, 14]), (.invokevirtual 297, [0, 112, 1, 8]), (.istore_n 2, []), (.iload_n 1, []), (.ifCond .ne 15, [35]), (.iload_n 2, []), (.iconst (-1), []), (.if_icmp .eq 10, [35]), (.iload_n 2, []), (.invokestatic 300, [0, 293, 1]), (.goto 4, [36])]), (35, [(.iload_n 2, []), (.nop, [36])]), (36, [(.ireturn, [0])])]
def pm_LH_coils : List (Nat × List ma_I) := [(0, [(.iload_n 1, []), (.iconst 1, []), (.sipush 200, []), (.invokestatic 108, [0, 3, 3]), (.ifCond .eq 14, [22]), (.iload_n 2, []), (.ifCond .eq 12, [24]), (.iload_n 2, []), (.invokestatic 270, [0, 28, 1]), (.ifCond .ge 5, [24]), (.nop, [22])]), (22, [(.iconst (-1), []), (.ireturn, [0])]), (24, [(.aload_n 0, []), (.getfield 91, [0, 14]), (.iload_n 1, []), (.iload_n 2, []), (.ifCond .ne 7, [37]), (.iconst (-1), []), (.goto 7, [41])]), (37, [(.iload_n 2, []), (.invokestatic 270, [0, 28, 1]), (.nop, [41])]), (41, [(.invokevirtual 305, [0, 114, 3, 8]), (.ireturn, [0])])]
def pm_LH_moors : List (Nat × List ma_I) := [(0, [(.iload_n 1, []), (.ifCond .eq 19, [20]), (.aload_n 0, []), (.getfield 10, [0, 0]), (.iload_n 1, []), (.invokestatic 270, [0, 28, 1]), (.invokevirtual 154, [0, 138, 2, 10]), (.ifCond .ne 5, [20]), (.iconst (-1), []), (.ireturn, [0])]), (20, [(.aload_n 0, []), (.getfield 91, [0, 14]), (.iload_n 1, []), (.ifCond .ne 7, [32]), (.iconst (-1), []), (.goto 7, [36])]), (32, [(.iload_n 1, []), (.invokestatic 270, [0, 28, 1]), (.nop, [36])]), (36, [(.invokevirtual 308, [0, 115, 2, 8]), (.ireturn, [0])])]
def pm_LH_fee : List (Nat × List ma_I) := [(0, [(.iload_n 1, []), (.iconst 0, []), (.sipush 9999, []), (.invokestatic 108, [0, 3, 3]), (.ifCond .eq 14, [22]), (.iload_n 2, []), (.iconst 0, []), (.sipush 999, []), (.invokestatic 108, [0, 3, 3]), (.ifCond .ne 5, [24]), (.nop, [22])]), (22, [(.iconst (-1), []), (.ireturn, [0])]), (24, [(.sipush 1000, []), (.iload_n 2, []), (.isub, []), (.istore_n 3, []), (.iload_n 3, []), (.iconst 1, []), (.if_icmp .ge 7, [39]), (.iconst (-1), []), (.goto 14, [50])]), (39, [(.iload_n 1, []), (.sipush 1000, []), (.imul, []), (.iload_n 3, []), (.iadd, []), (.iconst 1, []), (.isub, []), (.iload_n 3, []), (.idiv, []), (.nop, [50])]), (50, [(.ireturn, [0])])]
def pm_LH_part : List (Nat × List ma_I) := [(0, [(.iload_n 1, []), (.iconst 0, []), (.sipush 9999, []), (.invokestatic 108, [0, 3, 3]), (.ifCond .eq 14, [22]), (.aload_n 0, []), (.getfield 10, [0, 0]), (.iload_n 2, []), (.invokevirtual 157, [0, 139, 2, 10]), (.ifCond .ne 5, [24]), (.nop, [22])]), (22, [(.iconst (-1), []), (.ireturn, [0])]), (24, [(.aload_n 0, []), (.getfield 91, [0, 14]), (.iload_n 1, []), (.iload_n 2, []), (.invokevirtual 311, [0, 118, 3, 8]), (.ireturn, [0])])]
def pm_LH_game : List (Nat × List ma_I) := [(0, [(.iload_n 1, []), (.iconst 0, []), (.iconst 1, []), (.invokestatic 108, [0, 3, 3]), (.ifCond .ne 5, [11]), (.iconst (-1), []), (.ireturn, [0])]), (11, [(.aload_n 0, []), (.getfield 91, [0, 14]), (.iload_n 1, []), (.invokevirtual 314, [0, 119, 2, 8]), (.ireturn, [0])])]
def pm_LH_undo : List (Nat × List ma_I) := [(0, [(.aload_n 0, []), (.getfield 42, [0, 7]), (.aload_n 0, []), (.getfield 19, [0, 1]), (.invokevirtual 317, [0, 71, 2, 5]), (.ireturn, [1])])]
def pm_LH_image : List (Nat × List ma_I) := [(0, [(.iload_n 1, []), (.ifCond .eq 44, [45]), (.aload_n 0, []), (.getfield 30, [0, 3]), (.aload_n 0, []), (.getfield 10, [0, 0]), (.invokevirtual 321, [0, 143, 2, 10]), (.aload_n 0, []), (.getfield 33, [0, 4]), (.aload_n 0, []), (.getfield 19, [0, 1]), (.invokevirtual 248, [0, 65, 2, 4]), (.aload_n 0, []), (.getfield 36, [0, 5]), (.aload_n 0, []), (.getfield 26, [0, 2]), (.invokevirtual 323, [0, 56, 2, 2]), (.aload_n 0, []), (.iconst 1, []), (.putfield 326, [0, 6, 1]), (.goto 50, [92])]), (45, [(.aload_n 0, []), (.getfield 326, [0, 6]), (.ifCond .eq 43, [92]), (.aload_n 0, []), (.getfield 10, [0, 0]), (.aload_n 0, []), (.getfield 30, [0, 3]), (.invokevirtual 321, [0, 143, 2, 10]), (.aload_n 0, []), (.getfield 19, [0, 1]), (.aload_n 0, []), (.getfield 33, [0, 4]), (.invokevirtual 248, [0, 65, 2, 4]), (.aload_n 0, []), (.getfield 26, [0, 2]), (.aload_n 0, []), (.getfield 36, [0, 5]), (.invokevirtual 323, [0, 56, 2, 2]), (.aload_n 0, []), (.getfield 42, [0, 7]), (.invokevirtual 105, [0, 68, 1, 5]), (.nop, [92])]), (92, [(.aload_n 0, []), (.getfield 326, [0, 6]), (.ireturn, [1])])]
def pm_LH_look : List (Nat × List ma_I) := [(0, [(.iload_n 1, []), (.tableswitch 204 0 14 #[75, 83, 91, 99, 107, 115, 123, 131, 139, 147, 155, 166, 177, 188, 196], [205, 76, 84, 92, 100, 108, 116, 124, 132, 140, 148, 156, 167, 178, 189, 197])]), (76, [(.aload_n 0, []), (.getfield 10, [0, 0]), (.getfield 330, [10, 0]), (.ireturn, [0])]), (84, [(.aload_n 0, []), (.getfield 10, [0, 0]), (.getfield 112, [10, 3]), (.ireturn, [0])]), (92, [(.aload_n 0, []), (.getfield 10, [0, 0]), (.getfield 129, [10, 5]), (.ireturn, [0])]), (100, [(.aload_n 0, []), (.getfield 19, [0, 1]), (.getfield 178, [4, 6]), (.ireturn, [0])]), (108, [(.aload_n 0, []), (.getfield 10, [0, 0]), (.getfield 145, [10, 1]), (.ireturn, [0])]), (116, [(.aload_n 0, []), (.getfield 10, [0, 0]), (.getfield 148, [10, 2]), (.ireturn, [0])]), (124, [(.aload_n 0, []), (.getfield 19, [0, 1]), (.getfield 251, [4, 4]), (.ireturn, [0])]), (132, [(.aload_n 0, []), (.getfield 19, [0, 1]), (.getfield 258, [4, 5]), (.ireturn, [0])]), (140, [(.aload_n 0, []), (.getfield 19, [0, 1]), (.getfield 240, [4, 8]), (.ireturn, [0])]), (148, [(.aload_n 0, []), (.getfield 19, [0, 1]), (.getfield 101, [4, 7]), (.ireturn, [0])]), (156, [(.aload_n 0, []), (.getfield 10, [0, 0]), (.getfield 333, [10, 11]), (.getfield 337, [3, 0]), (.ireturn, [0])]), (167, [(.aload_n 0, []), (.getfield 10, [0, 0]), (.getfield 342, [10, 12]), (.getfield 346, [7, 0]), (.ireturn, [0])]), (178, [(.aload_n 0, []), (.getfield 10, [0, 0]), (.getfield 349, [10, 13]), (.getfield 346, [7, 0]), (.ireturn, [0])]), (189, [(.aload_n 0, []), (.getfield 10, [0, 0]), (.getfield 279, [10, 8]), (.ireturn, [0])]), (197, [(.aload_n 0, []), (.getfield 42, [0, 7]), (.getfield 352, [5, 1]), (.ireturn, [0])]), (205, [(.ldc 247, [0, 4294867296]), (.ireturn, [0])])]
def pm_Asker_init : List (Nat × List ma_I) := [(0, [(.aload_n 0, []), (.invokespecial 3, [1]), (.aload_n 0, []), (.bipush 7, []), (.newarray .int, []), (.putfield 11, [1, 1, 2]), (.aload_n 0, []), (.bipush 32, []), (.newarray .int, []), (.putfield 15, [1, 2, 2]), (.aload_n 0, []), (.aload_n 1, []), (.putfield 18, [1, 0, 2]), (.return_, [])])]
def pm_Asker_cost : List (Nat × List ma_I) := [(0, [(.aload_n 0, []), (.aload_n 1, []), (.iload_n 2, []), (.invokevirtual 22, [0, 44, 3, 1]), (.aload_n 0, []), (.getfield 11, [1, 1]), (.bipush 6, []), (.iload_n 3, []), (.aload_n 1, []), (.getfield 36, [4, 0]), (.iload_n 2, []), (.iaload, []), (.if_icmp .le 14, [33]), (.iload_n 3, []), (.aload_n 1, []), (.getfield 36, [4, 0]), (.iload_n 2, []), (.iaload, []), (.isub, []), (.goto 4, [34])]), (33, [(.iconst 0, []), (.nop, [34])]), (34, [(.iastore, []), (.aload_n 0, []), (.iconst 2, []), (.invokevirtual 28, [0, 46, 2, 1]), (.iconst 0, []), (.sipush 999, []), (.invokestatic 32, [0, 10, 3]), (.ireturn, [0])])]
def pm_Asker_name : List (Nat × List ma_I) := [(0, [(.aload_n 0, []), (.getfield 11, [1, 1]), (.iconst 0, []), (.iload_n 2, []), (.iastore, []), (.aload_n 0, []), (.getfield 11, [1, 1]), (.iconst 1, []), (.aload_n 1, []), (.getfield 36, [4, 0]), (.iload_n 2, []), (.iaload, []), (.iastore, []), (.aload_n 0, []), (.getfield 11, [1, 1]), (.iconst 2, []), (.aload_n 1, []), (.getfield 47, [4, 1]), (.iload_n 2, []), (.iaload, []), (.iastore, []), (.aload_n 0, []), (.getfield 11, [1, 1]), (.iconst 3, []), (.aload_n 1, []), (.getfield 50, [4, 6]), (.bipush 24, []), (.irem, []), (.iastore, []), (.aload_n 0, []), (.getfield 11, [1, 1]), (.iconst 4, []), (.aload_n 1, []), (.getfield 50, [4, 6]), (.bipush 24, []), (.idiv, []), (.iastore, []), (.aload_n 0, []), (.getfield 11, [1, 1]), (.iconst 5, []), (.aload_n 0, []), (.aload_n 1, []), (.iload_n 2, []), (.invokevirtual 53, [0, 45, 3, 1]), (.iastore, []), (.aload_n 0, []), (.getfield 11, [1, 1]), (.bipush 6, []), (.iconst 0, []), (.iastore, []), (.return_, [])])]
def pm_Asker_leans : List (Nat × List ma_I) := [(0, [(.aload_n 1, []), (.getfield 36, [4, 0]), (.iload_n 2, []), (.iaload, []), (.istore_n 3, []), (.iload_n 2, []), (.ifCond .le 14, [22]), (.aload_n 1, []), (.getfield 36, [4, 0]), (.iload_n 2, []), (.iconst 1, []), (.isub, []), (.iaload, []), (.goto 4, [23])]), (22, [(.iload_n 3, []), (.nop, [23])]), (23, [(.istore 4, []), (.iload_n 2, []), (.iconst 1, []), (.iadd, []), (.aload_n 0, []), (.getfield 18, [1, 0]), (.getfield 41, [10, 0]), (.if_icmp .ge 14, [49]), (.aload_n 1, []), (.getfield 36, [4, 0]), (.iload_n 2, []), (.iconst 1, []), (.iadd, []), (.iaload, []), (.goto 4, [50])]), (49, [(.iload_n 3, []), (.nop, [50])]), (50, [(.istore 5, []), (.iload 4, []), (.iload 5, []), (.if_icmp .ge 8, [64]), (.iload 4, []), (.goto 5, [66])]), (64, [(.iload 5, []), (.nop, [66])]), (66, [(.istore 6, []), (.iload 4, []), (.iload 5, []), (.if_icmp .ge 8, [80]), (.iload 5, []), (.goto 5, [82])]), (80, [(.iload 4, []), (.nop, [82])]), (82, [(.istore 7, []), (.iload_n 3, []), (.iload 6, []), (.isub, []), (.iload 7, []), (.iload_n 3, []), (.isub, []), (.if_icmp .le 10, [102]), (.iload_n 3, []), (.iload 6, []), (.isub, []), (.goto 7, [106])]), (102, [(.iload 7, []), (.iload_n 3, []), (.isub, []), (.nop, [106])]), (106, [(.ireturn, [0])])]
def pm_Asker_tell : List (Nat × List ma_I) := [(0, [(.aload_n 0, []), (.getfield 18, [1, 0]), (.getfield 57, [10, 11]), (.astore_n 2, []), (.iconst 0, []), (.istore_n 3, []), (.nop, [10])]), (10, [(.iload_n 3, []), (.aload_n 2, []), (.getfield 61, [3, 0]), (.if_icmp .ge 70, [85]), (.aload_n 2, []), (.getfield 64, [3, 2]), (.iload_n 3, []), (.iaload, []), (.iload_n 1, []), (.if_icmp .ne 54, [79]), (.aload_n 2, []), (.getfield 67, [3, 4]), (.iload_n 3, []), (.iaload, []), (.aload_n 2, []), (.getfield 70, [3, 5]), (.iload_n 3, []), (.iaload, []), (.if_icmp .eq 22, [62]), (.aload_n 0, []), (.aload_n 2, []), (.getfield 67, [3, 4]), (.iload_n 3, []), (.iaload, []), (.aload_n 2, []), (.getfield 70, [3, 5]), (.iload_n 3, []), (.iaload, []), (.invokevirtual 73, [0, 47, 3, 1]), (.ifCond .eq 20, [79]), (.nop, [62])]), (62, [(.aload_n 0, []), (.aload_n 2, []), (.getfield 77, [3, 3]), (.iload_n 3, []), (.iaload, []), (.aload_n 2, []), (.getfield 67, [3, 4]), (.iload_n 3, []), (.iaload, []), (.invokevirtual 73, [0, 47, 3, 1]), (.ireturn, [0])]), (79, [(.iinc 3 1, []), (.goto (-72), [10])]), (85, [(.aload_n 0, []), (.iload_n 1, []), (.invokevirtual 80, [0, 48, 2, 1]), (.ireturn, [0])])]
def pm_Asker_work : List (Nat × List ma_I) := [(0, [(.aload_n 0, []), (.getfield 18, [1, 0]), (.getfield 57, [10, 11]), (.getfield 83, [3, 6]), (.astore_n 3, []), (.iconst 0, []), (.istore 4, []), (.iload_n 1, []), (.istore 5, []), (.nop, [17])]), (17, [(.iload 5, []), (.iload_n 2, []), (.if_icmp .ge 418, [438]), (.iload 5, []), (.aload_n 3, []), (.arraylength, []), (.if_icmp .ge 411, [438]), (.aload_n 3, []), (.iload 5, []), (.iaload, []), (.bipush 16, []), (.irem, []), (.istore 6, []), (.aload_n 3, []), (.iload 5, []), (.iaload, []), (.bipush 16, []), (.idiv, []), (.istore 7, []), (.iload 4, []), (.ifCond .le 15, [65]), (.aload_n 0, []), (.getfield 15, [1, 2]), (.iload 4, []), (.iconst 1, []), (.isub, []), (.iaload, []), (.goto 4, [66])]), (65, [(.iconst 0, []), (.nop, [66])]), (66, [(.istore 8, []), (.iload 4, []), (.iconst 1, []), (.if_icmp .le 15, [86]), (.aload_n 0, []), (.getfield 15, [1, 2]), (.iload 4, []), (.iconst 2, []), (.isub, []), (.iaload, []), (.goto 4, [87])]), (86, [(.iconst 0, []), (.nop, [87])]), (87, [(.istore 9, []), (.iload 4, []), (.iconst 3, []), (.iload 6, []), (.if_icmp .ge 7, [101]), (.iconst (-1), []), (.goto 14, [112])]), (101, [(.iload 6, []), (.iconst 2, []), (.if_icmp .ge 7, [111]), (.iconst 1, []), (.goto 4, [112])]), (111, [(.iconst 0, []), (.nop, [112])]), (112, [(.iadd, []), (.istore 4, []), (.iload 4, []), (.iconst 1, []), (.if_icmp .lt 10, [128]), (.iload 4, []), (.bipush 32, []), (.if_icmp .le 5, [130]), (.nop, [128])]), (128, [(.iconst 0, []), (.ireturn, [0])]), (130, [(.iload 6, []), (.tableswitch 286 0 10 #[60, 74, 104, 130, 146, 163, 180, 197, 221, 245, 269], [418, 192, 206, 236, 262, 278, 295, 312, 329, 353, 377, 401])]), (192, [(.aload_n 0, []), (.getfield 15, [1, 2]), (.iload 4, []), (.iconst 1, []), (.isub, []), (.iload 7, []), (.iastore, []), (.goto 229, [432])]), (206, [(.aload_n 0, []), (.getfield 15, [1, 2]), (.iload 4, []), (.iconst 1, []), (.isub, []), (.iload 7, []), (.bipush 7, []), (.if_icmp .ge 13, [231]), (.aload_n 0, []), (.getfield 11, [1, 1]), (.iload 7, []), (.iaload, []), (.goto 4, [232])]), (231, [(.iconst 0, []), (.nop, [232])]), (232, [(.iastore, []), (.goto 199, [432])]), (236, [(.aload_n 0, []), (.getfield 15, [1, 2]), (.iload 4, []), (.iconst 1, []), (.isub, []), (.iload 7, []), (.ifCond .le 11, [257]), (.iload 8, []), (.iload 7, []), (.idiv, []), (.goto 4, [258])]), (257, [(.iconst 0, []), (.nop, [258])]), (258, [(.iastore, []), (.goto 173, [432])]), (262, [(.aload_n 0, []), (.getfield 15, [1, 2]), (.iload 4, []), (.iconst 1, []), (.isub, []), (.iconst 1, []), (.iload 8, []), (.isub, []), (.iastore, []), (.goto 157, [432])]), (278, [(.aload_n 0, []), (.getfield 15, [1, 2]), (.iload 4, []), (.iconst 1, []), (.isub, []), (.iload 9, []), (.iload 8, []), (.iadd, []), (.iastore, []), (.goto 140, [432])]), (295, [(.aload_n 0, []), (.getfield 15, [1, 2]), (.iload 4, []), (.iconst 1, []), (.isub, []), (.iload 9, []), (.iload 8, []), (.isub, []), (.iastore, []), (.goto 123, [432])]), (312, [(.aload_n 0, []), (.getfield 15, [1, 2]), (.iload 4, []), (.iconst 1, []), (.isub, []), (.iload 9, []), (.iload 8, []), (.imul, []), (.iastore, []), (.goto 106, [432])]), (329, [(.aload_n 0, []), (.getfield 15, [1, 2]), (.iload 4, []), (.iconst 1, []), (.isub, []), (.iload 9, []), (.iload 8, []), (.if_icmp .ge 7, [348]), (.iconst 1, []), (.goto 4, [349])]), (348, [(.iconst 0, []), (.nop, [349])]), (349, [(.iastore, []), (.goto 82, [432])]), (353, [(.aload_n 0, []), (.getfield 15, [1, 2]), (.iload 4, []), (.iconst 1, []), (.isub, []), (.iload 9, []), (.iload 8, []), (.if_icmp .ne 7, [372]), (.iconst 1, []), (.goto 4, [373])]), (372, [(.iconst 0, []), (.nop, [373])]), (373, [(.iastore, []), (.goto 58, [432])]), (377, [(.aload_n 0, []), (.getfield 15, [1, 2]), (.iload 4, []), (.iconst 1, []), (.isub, []), (.iload 9, []), (.iload 8, []), (.if_icmp .le 7, [396]), (.iconst 1, []), (.goto 4, [397])]), (396, [(.iconst 0, []), (.nop, [397])]), (397, [(.iastore, []), (.goto 34, [432])]), (401, [(.aload_n 0, []), (.getfield 15, [1, 2]), (.iload 4, []), (.iconst 1, []), (.isub, []), (.iload 9, []), (.iload 8, []), (.iand, []), (.iastore, []), (.goto 17, [432])]), (418, [(.aload_n 0, []), (.getfield 15, [1, 2]), (.iload 4, []), (.iconst 1, []), (.isub, []), (.iload 9, []), (.iload 8, []), (.ior, []), (.iastore, []), (.nop, [432])]), (432, [(.iinc 5 1, []), (.goto (-418), [17])]), (438, [(.iload 4, []), (.iconst 1, []), (.if_icmp .ge 7, [448]), (.iconst 0, []), (.goto 12, [457])]), (448, [(.aload_n 0, []), (.getfield 15, [1, 2]), (.iload 4, []), (.iconst 1, []), (.isub, []), (.iaload, []), (.nop, [457])]), (457, [(.ireturn, [0])])]
def pm_Asker_unlessTold : List (Nat × List ma_I) := [(0, [(.iload_n 1, []), (.tableswitch 44 0 2 #[27, 34, 36], [45, 28, 35, 37])]), (28, [(.aload_n 0, []), (.getfield 11, [1, 1]), (.iconst 5, []), (.iaload, []), (.ireturn, [0])]), (35, [(.iconst 2, []), (.ireturn, [0])]), (37, [(.aload_n 0, []), (.getfield 11, [1, 1]), (.bipush 6, []), (.iaload, []), (.ireturn, [0])]), (45, [(.bipush 60, []), (.iconst 3, []), (.aload_n 0, []), (.getfield 11, [1, 1]), (.iconst 3, []), (.iaload, []), (.imul, []), (.isub, []), (.ireturn, [0])])]
def pm_Asker_slide : List (Nat × List ma_I) := [(0, [(.aload_n 0, []), (.aload_n 1, []), (.iload_n 2, []), (.invokevirtual 22, [0, 44, 3, 1]), (.aload_n 0, []), (.iconst 1, []), (.invokevirtual 28, [0, 46, 2, 1]), (.iconst 0, []), (.bipush 40, []), (.invokestatic 32, [0, 10, 3]), (.ireturn, [0])])]
def pm_Asker_wear : List (Nat × List ma_I) := [(0, [(.aload_n 0, []), (.aload_n 1, []), (.iload_n 2, []), (.invokevirtual 22, [0, 44, 3, 1]), (.aload_n 0, []), (.iconst 0, []), (.invokevirtual 28, [0, 46, 2, 1]), (.iconst 0, []), (.bipush 99, []), (.invokestatic 32, [0, 10, 3]), (.ireturn, [0])])]
def pm_Asker_dusk : List (Nat × List ma_I) := [(0, [(.aload_n 0, []), (.aload_n 1, []), (.iload_n 2, []), (.invokevirtual 22, [0, 44, 3, 1]), (.iconst 0, []), (.istore_n 3, []), (.nop, [8])]), (8, [(.iload_n 3, []), (.bipush 24, []), (.if_icmp .ge 38, [49]), (.aload_n 0, []), (.getfield 11, [1, 1]), (.iconst 3, []), (.iload_n 3, []), (.iastore, []), (.aload_n 0, []), (.iconst 3, []), (.invokevirtual 28, [0, 46, 2, 1]), (.iconst 0, []), (.bipush 99, []), (.invokestatic 32, [0, 10, 3]), (.aload_n 1, []), (.getfield 36, [4, 0]), (.iload_n 2, []), (.iaload, []), (.if_icmp .gt 5, [43]), (.iload_n 3, []), (.ireturn, [0])]), (43, [(.iinc 3 1, []), (.goto (-38), [8])]), (49, [(.iconst (-1), []), (.ireturn, [0])])]
def pm_Asker_sunAt : List (Nat × List ma_I) := [(0, [(.aload_n 0, []), (.aload_n 1, []), (.iload_n 2, []), (.invokevirtual 22, [0, 44, 3, 1]), (.aload_n 0, []), (.getfield 11, [1, 1]), (.iconst 3, []), (.iload_n 3, []), (.iastore, []), (.aload_n 0, []), (.iconst 3, []), (.invokevirtual 28, [0, 46, 2, 1]), (.iconst 0, []), (.bipush 99, []), (.invokestatic 32, [0, 10, 3]), (.ireturn, [0])])]
def pm_Book_init : List (Nat × List ma_I) := [(0, [(.aload_n 0, []), (.invokespecial 3, [1]), (.aload_n 0, []), (.sipush 600, []), (.newarray .int, []), (.putfield 11, [2, 0, 2]), (.return_, [])])]
def pm_Book_write : List (Nat × List ma_I) := [(0, [(.aload_n 1, []), (.getfield 19, [4, 8]), (.iconst 0, []), (.sipush 149, []), (.invokestatic 15, [0, 3, 3]), (.ifCond .ne 4, [15]), (.return_, [])]), (15, [(.aload_n 1, []), (.getfield 19, [4, 8]), (.iconst 4, []), (.imul, []), (.istore 5, []), (.aload_n 0, []), (.getfield 11, [2, 0]), (.iload 5, []), (.aload_n 1, []), (.getfield 25, [4, 6]), (.iastore, []), (.aload_n 0, []), (.getfield 11, [2, 0]), (.iload 5, []), (.iconst 1, []), (.iadd, []), (.iload_n 2, []), (.iastore, []), (.aload_n 0, []), (.getfield 11, [2, 0]), (.iload 5, []), (.iconst 2, []), (.iadd, []), (.iload_n 3, []), (.iastore, []), (.aload_n 0, []), (.getfield 11, [2, 0]), (.iload 5, []), (.iconst 3, []), (.iadd, []), (.iload 4, []), (.iastore, []), (.aload_n 1, []), (.dup, []), (.getfield 19, [4, 8]), (.iconst 1, []), (.iadd, []), (.putfield 19, [4, 8, 0]), (.return_, [])])]
def pm_Book_cell : List (Nat × List ma_I) := [(0, [(.iload_n 1, []), (.iconst 4, []), (.imul, []), (.iload_n 2, []), (.iadd, []), (.istore_n 3, []), (.iload_n 3, []), (.iconst 0, []), (.aload_n 0, []), (.getfield 11, [2, 0]), (.arraylength, []), (.iconst 1, []), (.isub, []), (.invokestatic 15, [0, 3, 3]), (.ifCond .eq 12, [30]), (.aload_n 0, []), (.getfield 11, [2, 0]), (.iload_n 3, []), (.iaload, []), (.goto 4, [31])]), (30, [(.iconst (-1), []), (.nop, [31])]), (31, [(.ireturn, [0])])]
def pm_Book_copy : List (Nat × List ma_I) := [(0, [(.aload_n 1, []), (.getfield 11, [2, 0]), (.iconst 0, []), (.aload_n 0, []), (.getfield 11, [2, 0]), (.iconst 0, []), (.aload_n 0, []), (.getfield 11, [2, 0]), (.arraylength, []), (.invokestatic 28, [2]), (.return_, [])])]
def pm_Law_init : List (Nat × List ma_I) := [(0, [(.aload_n 0, []), (.invokespecial 3, [1]), (.aload_n 0, []), (.bipush 16, []), (.newarray .int, []), (.putfield 9, [3, 2, 2]), (.aload_n 0, []), (.bipush 16, []), (.newarray .int, []), (.putfield 15, [3, 3, 2]), (.aload_n 0, []), (.bipush 16, []), (.newarray .int, []), (.putfield 18, [3, 4, 2]), (.aload_n 0, []), (.bipush 16, []), (.newarray .int, []), (.putfield 21, [3, 5, 2]), (.aload_n 0, []), (.sipush 400, []), (.newarray .int, []), (.putfield 24, [3, 6, 2]), (.return_, [])])]
def pm_Law_empty : List (Nat × List ma_I) := [(0, [(.aload_n 0, []), (.iconst 0, []), (.putfield 27, [3, 0, 0]), (.aload_n 0, []), (.iconst 0, []), (.putfield 31, [3, 1, 0]), (.return_, [])])]
def pm_Law_put : List (Nat × List ma_I) := [(0, [(.aload_n 0, []), (.getfield 31, [3, 1]), (.sipush 400, []), (.if_icmp .ge 28, [35]), (.aload_n 0, []), (.getfield 24, [3, 6]), (.aload_n 0, []), (.getfield 31, [3, 1]), (.iload_n 2, []), (.bipush 16, []), (.imul, []), (.iload_n 1, []), (.iadd, []), (.iastore, []), (.aload_n 0, []), (.dup, []), (.getfield 31, [3, 1]), (.iconst 1, []), (.iadd, []), (.putfield 31, [3, 1, 0]), (.nop, [35])]), (35, [(.return_, [])])]
def pm_Law_putIfAny : List (Nat × List ma_I) := [(0, [(.iload_n 1, []), (.iconst (-1), []), (.if_icmp .eq 9, [11]), (.aload_n 0, []), (.iload_n 1, []), (.iconst 0, []), (.invokevirtual 34, [0, 59, 3, 3]), (.nop, [11])]), (11, [(.return_, [])])]
def pm_Law_addLine : List (Nat × List ma_I) := [(0, [(.aload_n 0, []), (.getfield 27, [3, 0]), (.bipush 16, []), (.if_icmp .ge 56, [62]), (.aload_n 0, []), (.getfield 9, [3, 2]), (.aload_n 0, []), (.getfield 27, [3, 0]), (.iload_n 1, []), (.iastore, []), (.aload_n 0, []), (.getfield 15, [3, 3]), (.aload_n 0, []), (.getfield 27, [3, 0]), (.iload_n 2, []), (.iastore, []), (.aload_n 0, []), (.getfield 18, [3, 4]), (.aload_n 0, []), (.getfield 27, [3, 0]), (.iload_n 3, []), (.iastore, []), (.aload_n 0, []), (.getfield 21, [3, 5]), (.aload_n 0, []), (.getfield 27, [3, 0]), (.aload_n 0, []), (.getfield 31, [3, 1]), (.iastore, []), (.aload_n 0, []), (.dup, []), (.getfield 27, [3, 0]), (.iconst 1, []), (.iadd, []), (.putfield 27, [3, 0, 0]), (.nop, [62])]), (62, [(.return_, [])])]
def pm_Law_copy : List (Nat × List ma_I) := [(0, [(.aload_n 0, []), (.aload_n 1, []), (.getfield 27, [3, 0]), (.putfield 27, [3, 0, 0]), (.aload_n 0, []), (.aload_n 1, []), (.getfield 31, [3, 1]), (.putfield 31, [3, 1, 0]), (.aload_n 1, []), (.getfield 9, [3, 2]), (.iconst 0, []), (.aload_n 0, []), (.getfield 9, [3, 2]), (.iconst 0, []), (.bipush 16, []), (.invokestatic 38, [2]), (.aload_n 1, []), (.getfield 15, [3, 3]), (.iconst 0, []), (.aload_n 0, []), (.getfield 15, [3, 3]), (.iconst 0, []), (.bipush 16, []), (.invokestatic 38, [2]), (.aload_n 1, []), (.getfield 18, [3, 4]), (.iconst 0, []), (.aload_n 0, []), (.getfield 18, [3, 4]), (.iconst 0, []), (.bipush 16, []), (.invokestatic 38, [2]), (.aload_n 1, []), (.getfield 21, [3, 5]), (.iconst 0, []), (.aload_n 0, []), (.getfield 21, [3, 5]), (.iconst 0, []), (.bipush 16, []), (.invokestatic 38, [2]), (.aload_n 1, []), (.getfield 24, [3, 6]), (.iconst 0, []), (.aload_n 0, []), (.getfield 24, [3, 6]), (.iconst 0, []), (.sipush 400, []), (.invokestatic 38, [2]), (.return_, [])])]
def pm_Line_init : List (Nat × List ma_I) := [(0, [(.aload_n 0, []), (.invokespecial 3, [1]), (.aload_n 0, []), (.bipush 14, []), (.newarray .int, []), (.putfield 9, [4, 0, 2]), (.aload_n 0, []), (.bipush 14, []), (.newarray .int, []), (.putfield 15, [4, 1, 2]), (.aload_n 0, []), (.bipush 8, []), (.newarray .int, []), (.putfield 18, [4, 2, 2]), (.aload_n 0, []), (.bipush 8, []), (.newarray .int, []), (.putfield 21, [4, 3, 2]), (.return_, [])])]
def pm_Line_begin : List (Nat × List ma_I) := [(0, [(.iconst 0, []), (.istore_n 1, []), (.nop, [2])]), (2, [(.iload_n 1, []), (.bipush 14, []), (.if_icmp .ge 24, [29]), (.aload_n 0, []), (.getfield 9, [4, 0]), (.iload_n 1, []), (.bipush 10, []), (.iastore, []), (.aload_n 0, []), (.getfield 15, [4, 1]), (.iload_n 1, []), (.iconst 0, []), (.iastore, []), (.iinc 1 1, []), (.goto (-24), [2])]), (29, [(.aload_n 0, []), (.iconst 0, []), (.putfield 24, [4, 4, 0]), (.aload_n 0, []), (.iconst 0, []), (.putfield 28, [4, 5, 0]), (.aload_n 0, []), (.iconst 0, []), (.putfield 31, [4, 6, 0]), (.aload_n 0, []), (.iconst 0, []), (.putfield 34, [4, 8, 0]), (.return_, [])])]
def pm_Line_copy : List (Nat × List ma_I) := [(0, [(.aload_n 1, []), (.getfield 9, [4, 0]), (.iconst 0, []), (.aload_n 0, []), (.getfield 9, [4, 0]), (.iconst 0, []), (.bipush 14, []), (.invokestatic 37, [2]), (.aload_n 1, []), (.getfield 15, [4, 1]), (.iconst 0, []), (.aload_n 0, []), (.getfield 15, [4, 1]), (.iconst 0, []), (.bipush 14, []), (.invokestatic 37, [2]), (.aload_n 1, []), (.getfield 18, [4, 2]), (.iconst 0, []), (.aload_n 0, []), (.getfield 18, [4, 2]), (.iconst 0, []), (.bipush 8, []), (.invokestatic 37, [2]), (.aload_n 1, []), (.getfield 21, [4, 3]), (.iconst 0, []), (.aload_n 0, []), (.getfield 21, [4, 3]), (.iconst 0, []), (.bipush 8, []), (.invokestatic 37, [2]), (.aload_n 0, []), (.aload_n 1, []), (.getfield 24, [4, 4]), (.putfield 24, [4, 4, 0]), (.aload_n 0, []), (.aload_n 1, []), (.getfield 28, [4, 5]), (.putfield 28, [4, 5, 0]), (.aload_n 0, []), (.aload_n 1, []), (.getfield 31, [4, 6]), (.putfield 31, [4, 6, 0]), (.aload_n 0, []), (.aload_n 1, []), (.getfield 43, [4, 7]), (.putfield 43, [4, 7, 0]), (.aload_n 0, []), (.aload_n 1, []), (.getfield 34, [4, 8]), (.putfield 34, [4, 8, 0]), (.return_, [])])]
def pm_Line_draw : List (Nat × List ma_I) := [(0, [(.aload_n 0, []), (.ldc 46, [0, 1664525]), (.aload_n 0, []), (.getfield 43, [4, 7]), (.imul, []), (.ldc 47, [0, 1013904223]), (.iadd, []), (.putfield 43, [4, 7, 0]), (.iload_n 1, []), (.iconst 1, []), (.if_icmp .ge 7, [23]), (.iconst 0, []), (.goto 12, [32])]), (23, [(.aload_n 0, []), (.getfield 43, [4, 7]), (.bipush 8, []), (.iushr, []), (.iload_n 1, []), (.irem, []), (.nop, [32])]), (32, [(.ireturn, [0])])]
def pm_Past_init : List (Nat × List ma_I) := [(0, [(.aload_n 0, []), (.invokespecial 1, [1]), (.aload_n 0, []), (.bipush 6, []), (.anewarray 9, []), (.putfield 11, [5, 0, 2]), (.iconst 0, []), (.istore_n 1, []), (.nop, [15])]), (15, [(.iload_n 1, []), (.bipush 6, []), (.if_icmp .ge 22, [40]), (.aload_n 0, []), (.getfield 11, [5, 0]), (.iload_n 1, []), (.new 9, [4]), (.dup, []), (.invokespecial 15, [0, 63, 1, 4]), (.aastore, [4]), (.iinc 1 1, []), (.goto (-22), [15])]), (40, [(.return_, [])])]
def pm_Past_forget : List (Nat × List ma_I) := [(0, [(.aload_n 0, []), (.iconst 0, []), (.putfield 16, [5, 1, 0]), (.return_, [])])]
def pm_Past_keep : List (Nat × List ma_I) := [(0, [(.aload_n 0, []), (.getfield 16, [5, 1]), (.bipush 6, []), (.if_icmp .lt 7, [13]), (.aload_n 0, []), (.invokevirtual 20, [0, 70, 1, 5]), (.nop, [13])]), (13, [(.aload_n 0, []), (.getfield 11, [5, 0]), (.aload_n 0, []), (.getfield 16, [5, 1]), (.aaload, []), (.astore_n 2, []), (.aload_n 2, []), (.ifnull 18, [42]), (.aload_n 2, []), (.aload_n 1, []), (.invokevirtual 23, [0, 65, 2, 4]), (.aload_n 0, []), (.dup, []), (.getfield 16, [5, 1]), (.iconst 1, []), (.iadd, []), (.putfield 16, [5, 1, 0]), (.nop, [42])]), (42, [(.return_, [])])]
def pm_Past_dropOldest : List (Nat × List ma_I) := [(0, [(.aload_n 0, []), (.getfield 11, [5, 0]), (.iconst 0, []), (.aaload, []), (.astore_n 1, []), (.iconst 1, []), (.istore_n 2, []), (.nop, [9])]), (9, [(.iload_n 2, []), (.bipush 6, []), (.if_icmp .ge 23, [35]), (.aload_n 0, []), (.getfield 11, [5, 0]), (.iload_n 2, []), (.iconst 1, []), (.isub, []), (.aload_n 0, []), (.getfield 11, [5, 0]), (.iload_n 2, []), (.aaload, []), (.aastore, [4]), (.iinc 2 1, []), (.goto (-23), [9])]), (35, [(.aload_n 0, []), (.getfield 11, [5, 0]), (.iconst 5, []), (.aload_n 1, []), (.aastore, [4]), (.aload_n 0, []), (.iconst 5, []), (.putfield 16, [5, 1, 0]), (.return_, [])])]
def pm_Past_goBack : List (Nat × List ma_I) := [(0, [(.aload_n 0, []), (.getfield 16, [5, 1]), (.iconst 1, []), (.if_icmp .ge 7, [12]), (.aconst_null, []), (.goto 14, [23])]), (12, [(.aload_n 0, []), (.getfield 11, [5, 0]), (.aload_n 0, []), (.getfield 16, [5, 1]), (.iconst 1, []), (.isub, []), (.aaload, []), (.nop, [23])]), (23, [(.astore_n 2, []), (.aload_n 2, []), (.ifnonnull 5, [30]), (.iconst 0, []), (.ireturn, [1])]), (30, [(.aload_n 1, []), (.aload_n 2, []), (.invokevirtual 23, [0, 65, 2, 4]), (.aload_n 0, []), (.dup, []), (.getfield 16, [5, 1]), (.iconst 1, []), (.isub, []), (.putfield 16, [5, 1, 0]), (.iconst 1, []), (.ireturn, [1])])]
def pm_Reader_init : List (Nat × List ma_I) := [(0, [(.aload_n 0, []), (.invokespecial 3, [1]), (.aload_n 0, []), (.new 9, [3]), (.dup, []), (.invokespecial 11, [0, 57, 1, 3]), (.putfield 12, [6, 2, 2]), (.aload_n 0, []), (.new 18, [7]), (.dup, []), (.invokespecial 20, [0, 86, 1, 7]), (.putfield 21, [6, 3, 2]), (.aload_n 0, []), (.aload_n 1, []), (.putfield 25, [6, 0, 2]), (.aload_n 0, []), (.aload_n 2, []), (.putfield 29, [6, 1, 2]), (.return_, [])])]
def pm_Reader_readLaw : List (Nat × List ma_I) := [(0, [(.aload_n 0, []), (.getfield 12, [6, 2]), (.invokevirtual 33, [0, 58, 1, 3]), (.iconst 0, []), (.istore_n 1, []), (.nop, [9])]), (9, [(.iload_n 1, []), (.bipush 16, []), (.if_icmp .gt 28, [40]), (.aload_n 0, []), (.getfield 25, [6, 0]), (.invokevirtual 36, [0, 130, 1, 9]), (.ifCond .eq 18, [40]), (.aload_n 0, []), (.invokevirtual 42, [0, 74, 1, 6]), (.ifCond .ne 5, [34]), (.iconst (-1), []), (.ireturn, [0])]), (34, [(.iinc 1 1, []), (.goto (-28), [9])]), (40, [(.aload_n 0, []), (.getfield 29, [6, 1]), (.getfield 46, [10, 11]), (.aload_n 0, []), (.getfield 12, [6, 2]), (.invokevirtual 49, [0, 62, 2, 3]), (.aload_n 0, []), (.getfield 12, [6, 2]), (.getfield 53, [3, 0]), (.ireturn, [0])])]
def pm_Reader_readLawLine : List (Nat × List ma_I) := [(0, [(.aload_n 0, []), (.getfield 25, [6, 0]), (.invokevirtual 36, [0, 130, 1, 9]), (.istore_n 1, []), (.iload_n 1, []), (.sipush 256, []), (.sipush 259, []), (.invokestatic 71, [0, 3, 3]), (.ifCond .ne 12, [30]), (.aload_n 0, []), (.getfield 25, [6, 0]), (.iconst 1, []), (.invokevirtual 75, [0, 131, 2, 9]), (.ireturn, [1])]), (30, [(.aload_n 0, []), (.getfield 12, [6, 2]), (.getfield 53, [3, 0]), (.bipush 16, []), (.if_icmp .lt 12, [51]), (.aload_n 0, []), (.getfield 25, [6, 0]), (.iconst 3, []), (.invokevirtual 75, [0, 131, 2, 9]), (.ireturn, [1])]), (51, [(.aload_n 0, []), (.getfield 25, [6, 0]), (.invokevirtual 79, [0, 132, 1, 9]), (.aload_n 0, []), (.getfield 12, [6, 2]), (.getfield 82, [3, 1]), (.istore_n 2, []), (.aload_n 0, []), (.invokevirtual 85, [0, 75, 1, 6]), (.ifCond .ne 5, [75]), (.iconst 0, []), (.ireturn, [1])]), (75, [(.aload_n 0, []), (.getfield 12, [6, 2]), (.getfield 82, [3, 1]), (.istore_n 3, []), (.aload_n 0, []), (.getfield 25, [6, 0]), (.invokevirtual 36, [0, 130, 1, 9]), (.sipush 267, []), (.if_icmp .ne 20, [113]), (.aload_n 0, []), (.getfield 25, [6, 0]), (.invokevirtual 79, [0, 132, 1, 9]), (.aload_n 0, []), (.iconst 0, []), (.invokevirtual 88, [0, 78, 2, 6]), (.ifCond .ne 5, [113]), (.iconst 0, []), (.ireturn, [1])]), (113, [(.aload_n 0, []), (.getfield 12, [6, 2]), (.iload_n 1, []), (.sipush 256, []), (.isub, []), (.iload_n 2, []), (.iload_n 3, []), (.invokevirtual 91, [0, 61, 4, 3]), (.aload_n 0, []), (.getfield 25, [6, 0]), (.bipush 59, []), (.invokevirtual 95, [0, 134, 2, 9]), (.ireturn, [1])])]
def pm_Reader_readSum : List (Nat × List ma_I) := [(0, [(.iconst (-1), []), (.istore_n 1, []), (.aload_n 0, []), (.invokevirtual 105, [0, 76, 1, 6]), (.istore_n 2, []), (.iconst 0, []), (.istore_n 3, []), (.nop, [9])]), (9, [(.iload_n 2, []), (.ifCond .eq 126, [136]), (.iload_n 3, []), (.sipush 400, []), (.if_icmp .ge 119, [136]), (.aload_n 0, []), (.getfield 25, [6, 0]), (.invokevirtual 36, [0, 130, 1, 9]), (.istore 4, []), (.iload 4, []), (.bipush 42, []), (.if_icmp .ne 28, [61]), (.aload_n 0, []), (.getfield 25, [6, 0]), (.invokevirtual 79, [0, 132, 1, 9]), (.aload_n 0, []), (.invokevirtual 105, [0, 76, 1, 6]), (.istore_n 2, []), (.aload_n 0, []), (.getfield 12, [6, 2]), (.bipush 6, []), (.iconst 0, []), (.invokevirtual 101, [0, 59, 3, 3]), (.goto 72, [130])]), (61, [(.iload 4, []), (.bipush 47, []), (.if_icmp .ne 18, [83]), (.aload_n 0, []), (.getfield 25, [6, 0]), (.invokevirtual 79, [0, 132, 1, 9]), (.aload_n 0, []), (.invokevirtual 108, [0, 77, 1, 6]), (.istore_n 2, []), (.goto 50, [130])]), (83, [(.iload 4, []), (.bipush 43, []), (.if_icmp .eq 10, [97]), (.iload 4, []), (.bipush 45, []), (.if_icmp .ne 42, [136]), (.nop, [97])]), (97, [(.aload_n 0, []), (.getfield 25, [6, 0]), (.invokevirtual 79, [0, 132, 1, 9]), (.aload_n 0, []), (.getfield 12, [6, 2]), (.iload_n 1, []), (.invokevirtual 111, [0, 60, 2, 3]), (.iload 4, []), (.bipush 43, []), (.if_icmp .ne 7, [123]), (.iconst 4, []), (.goto 4, [124])]), (123, [(.iconst 5, []), (.nop, [124])]), (124, [(.istore_n 1, []), (.aload_n 0, []), (.invokevirtual 105, [0, 76, 1, 6]), (.istore_n 2, []), (.nop, [130])]), (130, [(.iinc 3 1, []), (.goto (-124), [9])]), (136, [(.aload_n 0, []), (.getfield 12, [6, 2]), (.iload_n 1, []), (.invokevirtual 111, [0, 60, 2, 3]), (.iload_n 2, []), (.ireturn, [1])])]
def pm_Reader_readOperand : List (Nat × List ma_I) := [(0, [(.aload_n 0, []), (.getfield 25, [6, 0]), (.invokevirtual 36, [0, 130, 1, 9]), (.istore_n 1, []), (.iload_n 1, []), (.iconst 1, []), (.if_icmp .ne 21, [31]), (.aload_n 0, []), (.getfield 12, [6, 2]), (.iconst 0, []), (.aload_n 0, []), (.getfield 25, [6, 0]), (.invokevirtual 115, [0, 133, 1, 9]), (.invokevirtual 101, [0, 59, 3, 3]), (.goto 41, [69])]), (31, [(.iload_n 1, []), (.sipush 260, []), (.sipush 266, []), (.invokestatic 71, [0, 3, 3]), (.ifCond .eq 19, [60]), (.aload_n 0, []), (.getfield 12, [6, 2]), (.iconst 1, []), (.iload_n 1, []), (.sipush 260, []), (.isub, []), (.invokevirtual 101, [0, 59, 3, 3]), (.goto 12, [69])]), (60, [(.aload_n 0, []), (.getfield 25, [6, 0]), (.iconst 1, []), (.invokevirtual 75, [0, 131, 2, 9]), (.ireturn, [1])]), (69, [(.aload_n 0, []), (.getfield 25, [6, 0]), (.invokevirtual 79, [0, 132, 1, 9]), (.iconst 1, []), (.ireturn, [1])])]
def pm_Reader_readDivisor : List (Nat × List ma_I) := [(0, [(.aload_n 0, []), (.getfield 25, [6, 0]), (.invokevirtual 36, [0, 130, 1, 9]), (.iconst 1, []), (.if_icmp .eq 12, [20]), (.aload_n 0, []), (.getfield 25, [6, 0]), (.iconst 1, []), (.invokevirtual 75, [0, 131, 2, 9]), (.ireturn, [1])]), (20, [(.aload_n 0, []), (.getfield 25, [6, 0]), (.invokevirtual 115, [0, 133, 1, 9]), (.iconst 1, []), (.if_icmp .ge 12, [40]), (.aload_n 0, []), (.getfield 25, [6, 0]), (.iconst 2, []), (.invokevirtual 75, [0, 131, 2, 9]), (.ireturn, [1])]), (40, [(.aload_n 0, []), (.getfield 12, [6, 2]), (.iconst 2, []), (.aload_n 0, []), (.getfield 25, [6, 0]), (.invokevirtual 115, [0, 133, 1, 9]), (.invokevirtual 101, [0, 59, 3, 3]), (.aload_n 0, []), (.getfield 25, [6, 0]), (.invokevirtual 79, [0, 132, 1, 9]), (.iconst 1, []), (.ireturn, [1])])]
def pm_Reader_readCondition : List (Nat × List ma_I) := [(0, [(.iconst 0, []), (.istore_n 2, []), (.aload_n 0, []), (.iload_n 1, []), (.invokevirtual 98, [0, 79, 2, 6]), (.istore_n 3, []), (.iconst 0, []), (.istore 4, []), (.nop, [11])]), (11, [(.iload_n 3, []), (.ifCond .eq 114, [126]), (.iload 4, []), (.sipush 400, []), (.if_icmp .ge 106, [126]), (.aload_n 0, []), (.getfield 25, [6, 0]), (.invokevirtual 36, [0, 130, 1, 9]), (.istore 5, []), (.iload 5, []), (.sipush 268, []), (.if_icmp .eq 14, [51]), (.iload 5, []), (.sipush 269, []), (.if_icmp .eq 6, [51]), (.goto 78, [126])]), (51, [(.aload_n 0, []), (.getfield 25, [6, 0]), (.invokevirtual 79, [0, 132, 1, 9]), (.iload 5, []), (.sipush 268, []), (.if_icmp .ne 17, [80]), (.iload_n 2, []), (.ifCond .eq 13, [80]), (.aload_n 0, []), (.getfield 12, [6, 2]), (.bipush 11, []), (.iconst 0, []), (.invokevirtual 101, [0, 59, 3, 3]), (.nop, [80])]), (80, [(.iload_n 2, []), (.iload 5, []), (.sipush 268, []), (.if_icmp .ne 7, [93]), (.iconst 1, []), (.goto 4, [94])]), (93, [(.iconst 0, []), (.nop, [94])]), (94, [(.ior, []), (.istore_n 2, []), (.aload_n 0, []), (.iload_n 1, []), (.invokevirtual 98, [0, 79, 2, 6]), (.istore_n 3, []), (.iload 5, []), (.sipush 269, []), (.if_icmp .ne 13, [120]), (.aload_n 0, []), (.getfield 12, [6, 2]), (.bipush 10, []), (.iconst 0, []), (.invokevirtual 101, [0, 59, 3, 3]), (.nop, [120])]), (120, [(.iinc 4 1, []), (.goto (-112), [11])]), (126, [(.iload_n 2, []), (.ifCond .eq 13, [140]), (.aload_n 0, []), (.getfield 12, [6, 2]), (.bipush 11, []), (.iconst 0, []), (.invokevirtual 101, [0, 59, 3, 3]), (.nop, [140])]), (140, [(.iload_n 3, []), (.ireturn, [1])])]
def pm_Reader_readOne : List (Nat × List ma_I) := [(0, [(.aload_n 0, []), (.getfield 25, [6, 0]), (.invokevirtual 36, [0, 130, 1, 9]), (.istore_n 2, []), (.iload_n 2, []), (.sipush 270, []), (.if_icmp .eq 9, [21]), (.iload_n 2, []), (.bipush 40, []), (.if_icmp .ne 78, [96]), (.nop, [21])]), (21, [(.iload_n 1, []), (.bipush 8, []), (.if_icmp .lt 12, [36]), (.aload_n 0, []), (.getfield 25, [6, 0]), (.iconst 3, []), (.invokevirtual 75, [0, 131, 2, 9]), (.ireturn, [1])]), (36, [(.aload_n 0, []), (.getfield 25, [6, 0]), (.invokevirtual 79, [0, 132, 1, 9]), (.iload_n 2, []), (.bipush 40, []), (.if_icmp .ne 31, [77]), (.aload_n 0, []), (.iload_n 1, []), (.iconst 1, []), (.iadd, []), (.invokevirtual 88, [0, 78, 2, 6]), (.ifCond .eq 19, [75]), (.aload_n 0, []), (.getfield 25, [6, 0]), (.bipush 41, []), (.invokevirtual 95, [0, 134, 2, 9]), (.ifCond .eq 7, [75]), (.iconst 1, []), (.goto 4, [76])]), (75, [(.iconst 0, []), (.nop, [76])]), (76, [(.ireturn, [1])]), (77, [(.aload_n 0, []), (.iload_n 1, []), (.iconst 1, []), (.iadd, []), (.invokevirtual 98, [0, 79, 2, 6]), (.istore_n 3, []), (.aload_n 0, []), (.getfield 12, [6, 2]), (.iconst 3, []), (.iconst 0, []), (.invokevirtual 101, [0, 59, 3, 3]), (.iload_n 3, []), (.ireturn, [1])]), (96, [(.aload_n 0, []), (.invokevirtual 85, [0, 75, 1, 6]), (.ifCond .ne 5, [105]), (.iconst 0, []), (.ireturn, [1])]), (105, [(.aload_n 0, []), (.getfield 25, [6, 0]), (.invokevirtual 36, [0, 130, 1, 9]), (.istore_n 3, []), (.iload_n 3, []), (.bipush 60, []), (.bipush 62, []), (.invokestatic 71, [0, 3, 3]), (.ifCond .ne 12, [133]), (.aload_n 0, []), (.getfield 25, [6, 0]), (.iconst 1, []), (.invokevirtual 75, [0, 131, 2, 9]), (.ireturn, [1])]), (133, [(.aload_n 0, []), (.getfield 25, [6, 0]), (.invokevirtual 79, [0, 132, 1, 9]), (.aload_n 0, []), (.invokevirtual 85, [0, 75, 1, 6]), (.ifCond .ne 5, [149]), (.iconst 0, []), (.ireturn, [1])]), (149, [(.aload_n 0, []), (.getfield 12, [6, 2]), (.bipush 7, []), (.iload_n 3, []), (.iadd, []), (.bipush 60, []), (.isub, []), (.iconst 0, []), (.invokevirtual 101, [0, 59, 3, 3]), (.iconst 1, []), (.ireturn, [1])])]
def pm_Reader_readRoster : List (Nat × List ma_I) := [(0, [(.aload_n 0, []), (.sipush 271, []), (.bipush 16, []), (.invokevirtual 57, [0, 81, 3, 6]), (.ifCond .ne 5, [14]), (.iconst (-1), []), (.ireturn, [0])]), (14, [(.aload_n 0, []), (.getfield 29, [6, 1]), (.getfield 61, [10, 12]), (.aload_n 0, []), (.getfield 21, [6, 3]), (.invokevirtual 64, [0, 89, 2, 7]), (.aload_n 0, []), (.getfield 21, [6, 3]), (.getfield 67, [7, 0]), (.ireturn, [0])])]
def pm_Reader_readRows : List (Nat × List ma_I) := [(0, [(.aload_n 0, []), (.getfield 21, [6, 3]), (.iconst 0, []), (.putfield 67, [7, 0, 0]), (.iconst 0, []), (.istore_n 3, []), (.nop, [10])]), (10, [(.iload_n 3, []), (.iload_n 2, []), (.if_icmp .gt 114, [126]), (.aload_n 0, []), (.getfield 25, [6, 0]), (.invokevirtual 36, [0, 130, 1, 9]), (.ifCond .eq 104, [126]), (.aload_n 0, []), (.getfield 25, [6, 0]), (.invokevirtual 36, [0, 130, 1, 9]), (.iload_n 1, []), (.if_icmp .ne 23, [56]), (.aload_n 0, []), (.getfield 21, [6, 3]), (.getfield 67, [7, 0]), (.iload_n 2, []), (.if_icmp .lt 12, [56]), (.aload_n 0, []), (.getfield 25, [6, 0]), (.iconst 3, []), (.invokevirtual 75, [0, 131, 2, 9]), (.ireturn, [1])]), (56, [(.aload_n 0, []), (.getfield 25, [6, 0]), (.iload_n 1, []), (.invokevirtual 95, [0, 134, 2, 9]), (.ifCond .ne 5, [69]), (.iconst 0, []), (.ireturn, [1])]), (69, [(.iload_n 1, []), (.sipush 271, []), (.if_icmp .ne 13, [86]), (.aload_n 0, []), (.invokevirtual 118, [0, 82, 1, 6]), (.ifCond .eq 25, [105]), (.goto 10, [93])]), (86, [(.aload_n 0, []), (.invokevirtual 121, [0, 84, 1, 6]), (.ifCond .eq 15, [105]), (.nop, [93])]), (93, [(.aload_n 0, []), (.getfield 25, [6, 0]), (.bipush 59, []), (.invokevirtual 95, [0, 134, 2, 9]), (.ifCond .ne 5, [107]), (.nop, [105])]), (105, [(.iconst 0, []), (.ireturn, [1])]), (107, [(.aload_n 0, []), (.getfield 21, [6, 3]), (.dup, []), (.getfield 67, [7, 0]), (.iconst 1, []), (.iadd, []), (.putfield 67, [7, 0, 0]), (.iinc 3 1, []), (.goto (-113), [10])]), (126, [(.iconst 1, []), (.ireturn, [1])])]
def pm_Reader_readTask : List (Nat × List ma_I) := [(0, [(.aload_n 0, []), (.iconst 0, []), (.iconst 0, []), (.sipush 999, []), (.invokevirtual 124, [0, 83, 4, 6]), (.ifCond .ne 5, [14]), (.iconst 0, []), (.ireturn, [1])]), (14, [(.aload_n 0, []), (.getfield 25, [6, 0]), (.invokevirtual 36, [0, 130, 1, 9]), (.sipush 272, []), (.isub, []), (.istore_n 1, []), (.iload_n 1, []), (.iconst 0, []), (.iconst 3, []), (.invokestatic 71, [0, 3, 3]), (.ifCond .ne 12, [44]), (.aload_n 0, []), (.getfield 25, [6, 0]), (.iconst 1, []), (.invokevirtual 75, [0, 131, 2, 9]), (.ireturn, [1])]), (44, [(.aload_n 0, []), (.getfield 25, [6, 0]), (.invokevirtual 79, [0, 132, 1, 9]), (.aload_n 0, []), (.getfield 21, [6, 3]), (.iconst 1, []), (.iload_n 1, []), (.invokevirtual 127, [0, 88, 3, 7]), (.iload_n 1, []), (.iconst 1, []), (.if_icmp .eq 8, [70]), (.iload_n 1, []), (.iconst 2, []), (.if_icmp .ne 12, [79]), (.nop, [70])]), (70, [(.aload_n 0, []), (.iconst 2, []), (.iconst 1, []), (.bipush 20, []), (.invokevirtual 124, [0, 83, 4, 6]), (.ireturn, [1])]), (79, [(.aload_n 0, []), (.iconst 2, []), (.iconst 0, []), (.aload_n 0, []), (.getfield 29, [6, 1]), (.getfield 128, [10, 0]), (.iconst 1, []), (.isub, []), (.invokevirtual 124, [0, 83, 4, 6]), (.ifCond .ne 5, [99]), (.iconst 0, []), (.ireturn, [1])]), (99, [(.iload_n 1, []), (.iconst 3, []), (.if_icmp .eq 27, [128]), (.aload_n 0, []), (.getfield 25, [6, 0]), (.sipush 276, []), (.invokevirtual 95, [0, 134, 2, 9]), (.ifCond .eq 18, [132]), (.aload_n 0, []), (.iconst 3, []), (.iconst 0, []), (.bipush 40, []), (.invokevirtual 124, [0, 83, 4, 6]), (.ifCond .eq 7, [132]), (.nop, [128])]), (128, [(.iconst 1, []), (.goto 4, [133])]), (132, [(.iconst 0, []), (.nop, [133])]), (133, [(.ireturn, [1])])]
def pm_Reader_readCell : List (Nat × List ma_I) := [(0, [(.aload_n 0, []), (.getfield 25, [6, 0]), (.invokevirtual 36, [0, 130, 1, 9]), (.iconst 1, []), (.if_icmp .eq 12, [20]), (.aload_n 0, []), (.getfield 25, [6, 0]), (.iconst 1, []), (.invokevirtual 75, [0, 131, 2, 9]), (.ireturn, [1])]), (20, [(.aload_n 0, []), (.getfield 25, [6, 0]), (.invokevirtual 115, [0, 133, 1, 9]), (.iload_n 2, []), (.iload_n 3, []), (.invokestatic 71, [0, 3, 3]), (.ifCond .ne 12, [44]), (.aload_n 0, []), (.getfield 25, [6, 0]), (.iconst 2, []), (.invokevirtual 75, [0, 131, 2, 9]), (.ireturn, [1])]), (44, [(.aload_n 0, []), (.getfield 21, [6, 3]), (.iload_n 1, []), (.aload_n 0, []), (.getfield 25, [6, 0]), (.invokevirtual 115, [0, 133, 1, 9]), (.invokevirtual 127, [0, 88, 3, 7]), (.aload_n 0, []), (.getfield 25, [6, 0]), (.invokevirtual 79, [0, 132, 1, 9]), (.iconst 1, []), (.ireturn, [1])])]
def pm_Reader_readWant : List (Nat × List ma_I) := [(0, [(.aload_n 0, []), (.iconst 0, []), (.iconst 0, []), (.aload_n 0, []), (.getfield 29, [6, 1]), (.getfield 131, [10, 5]), (.iconst 1, []), (.isub, []), (.invokevirtual 124, [0, 83, 4, 6]), (.ifCond .eq 117, [132]), (.aload_n 0, []), (.getfield 25, [6, 0]), (.sipush 278, []), (.invokevirtual 95, [0, 134, 2, 9]), (.ifCond .eq 104, [132]), (.aload_n 0, []), (.iconst 1, []), (.iconst 0, []), (.bipush 40, []), (.invokevirtual 124, [0, 83, 4, 6]), (.ifCond .eq 93, [132]), (.aload_n 0, []), (.getfield 25, [6, 0]), (.sipush 279, []), (.invokevirtual 95, [0, 134, 2, 9]), (.ifCond .eq 80, [132]), (.aload_n 0, []), (.iconst 2, []), (.iconst 0, []), (.bipush 23, []), (.invokevirtual 124, [0, 83, 4, 6]), (.ifCond .eq 69, [132]), (.aload_n 0, []), (.getfield 25, [6, 0]), (.sipush 276, []), (.invokevirtual 95, [0, 134, 2, 9]), (.ifCond .eq 56, [132]), (.aload_n 0, []), (.iconst 3, []), (.aload_n 0, []), (.getfield 21, [6, 3]), (.aload_n 0, []), (.getfield 21, [6, 3]), (.getfield 67, [7, 0]), (.iconst 2, []), (.invokevirtual 134, [0, 87, 3, 7]), (.bipush 23, []), (.invokevirtual 124, [0, 83, 4, 6]), (.ifCond .eq 31, [132]), (.aload_n 0, []), (.getfield 25, [6, 0]), (.sipush 280, []), (.invokevirtual 95, [0, 134, 2, 9]), (.ifCond .eq 18, [132]), (.aload_n 0, []), (.iconst 4, []), (.iconst 0, []), (.bipush 99, []), (.invokevirtual 124, [0, 83, 4, 6]), (.ifCond .eq 7, [132]), (.iconst 1, []), (.goto 4, [133])]), (132, [(.iconst 0, []), (.nop, [133])]), (133, [(.ireturn, [1])])]
def pm_Reader_readWants : List (Nat × List ma_I) := [(0, [(.aload_n 0, []), (.sipush 277, []), (.bipush 12, []), (.invokevirtual 57, [0, 81, 3, 6]), (.ifCond .ne 5, [14]), (.iconst (-1), []), (.ireturn, [0])]), (14, [(.aload_n 0, []), (.getfield 29, [6, 1]), (.getfield 68, [10, 13]), (.aload_n 0, []), (.getfield 21, [6, 3]), (.invokevirtual 64, [0, 89, 2, 7]), (.aload_n 0, []), (.getfield 21, [6, 3]), (.getfield 67, [7, 0]), (.ireturn, [0])])]
def pm_Rows_init : List (Nat × List ma_I) := [(0, [(.aload_n 0, []), (.invokespecial 3, [1]), (.aload_n 0, []), (.bipush 80, []), (.newarray .int, []), (.putfield 11, [7, 1, 2]), (.return_, [])])]
def pm_Rows_cell : List (Nat × List ma_I) := [(0, [(.iload_n 1, []), (.iconst 5, []), (.imul, []), (.iload_n 2, []), (.iadd, []), (.istore_n 3, []), (.iload_n 3, []), (.iconst 0, []), (.aload_n 0, []), (.getfield 11, [7, 1]), (.arraylength, []), (.iconst 1, []), (.isub, []), (.invokestatic 15, [0, 3, 3]), (.ifCond .eq 12, [30]), (.aload_n 0, []), (.getfield 11, [7, 1]), (.iload_n 3, []), (.iaload, []), (.goto 4, [31])]), (30, [(.iconst 0, []), (.nop, [31])]), (31, [(.ireturn, [0])])]
def pm_Rows_put : List (Nat × List ma_I) := [(0, [(.aload_n 0, []), (.getfield 19, [7, 0]), (.iconst 5, []), (.imul, []), (.iload_n 1, []), (.iadd, []), (.istore_n 3, []), (.iload_n 3, []), (.iconst 0, []), (.aload_n 0, []), (.getfield 11, [7, 1]), (.arraylength, []), (.iconst 1, []), (.isub, []), (.invokestatic 15, [0, 3, 3]), (.ifCond .eq 10, [31]), (.aload_n 0, []), (.getfield 11, [7, 1]), (.iload_n 3, []), (.iload_n 2, []), (.iastore, []), (.nop, [31])]), (31, [(.return_, [])])]
def pm_Rows_copy : List (Nat × List ma_I) := [(0, [(.aload_n 0, []), (.aload_n 1, []), (.getfield 19, [7, 0]), (.putfield 19, [7, 0, 0]), (.aload_n 1, []), (.getfield 11, [7, 1]), (.iconst 0, []), (.aload_n 0, []), (.getfield 11, [7, 1]), (.iconst 0, []), (.aload_n 0, []), (.getfield 11, [7, 1]), (.arraylength, []), (.invokestatic 23, [2]), (.return_, [])])]
def pm_Thought_init : List (Nat × List ma_I) := [(0, [(.aload_n 0, []), (.invokespecial 3, [1]), (.aload_n 0, []), (.bipush 12, []), (.newarray .int, []), (.putfield 9, [8, 4, 2]), (.aload_n 0, []), (.bipush 12, []), (.newarray .int, []), (.putfield 15, [8, 5, 2]), (.aload_n 0, []), (.bipush 14, []), (.bipush 41, []), (.multianewarray 18 2, []), (.putfield 20, [8, 6, 2]), (.aload_n 0, []), (.bipush 14, []), (.bipush 25, []), (.multianewarray 18 2, []), (.putfield 23, [8, 7, 2]), (.aload_n 0, []), (.sipush 256, []), (.newarray .long, []), (.putfield 26, [8, 8, 2]), (.aload_n 0, []), (.bipush 6, []), (.newarray .int, []), (.putfield 30, [8, 9, 2]), (.aload_n 0, []), (.aload_n 1, []), (.putfield 33, [8, 0, 2]), (.aload_n 0, []), (.aload_n 2, []), (.putfield 37, [8, 1, 2]), (.aload_n 0, []), (.aload_n 3, []), (.putfield 41, [8, 2, 2]), (.aload_n 0, []), (.aload 4, []), (.putfield 45, [8, 3, 2]), (.return_, [])])]
def pm_Thought_sees : List (Nat × List ma_I) := [(0, [(.aload_n 0, []), (.getfield 33, [8, 0]), (.getfield 174, [10, 6]), (.iload_n 1, []), (.iaload, []), (.istore_n 2, []), (.aload_n 0, []), (.getfield 37, [8, 1]), (.getfield 111, [4, 0]), (.iload_n 2, []), (.iaload, []), (.aload_n 0, []), (.getfield 33, [8, 0]), (.getfield 177, [10, 7]), (.iload_n 1, []), (.iaload, []), (.iadd, []), (.istore_n 3, []), (.iconst 1, []), (.iload_n 2, []), (.ishl, []), (.istore 4, []), (.iload_n 2, []), (.iconst 1, []), (.isub, []), (.istore 5, []), (.nop, [40])]), (40, [(.iload 5, []), (.ifCond .lt 35, [77]), (.iload 4, []), (.iconst 1, []), (.iload 5, []), (.ishl, []), (.ior, []), (.istore 4, []), (.aload_n 0, []), (.getfield 37, [8, 1]), (.getfield 111, [4, 0]), (.iload 5, []), (.iaload, []), (.iload_n 3, []), (.if_icmp .le 6, [71]), (.goto 9, [77])]), (71, [(.iinc 5 (-1), []), (.goto (-34), [40])]), (77, [(.iload_n 2, []), (.iconst 1, []), (.iadd, []), (.istore 5, []), (.nop, [82])]), (82, [(.iload 5, []), (.aload_n 0, []), (.getfield 33, [8, 0]), (.getfield 108, [10, 0]), (.if_icmp .ge 35, [126]), (.iload 4, []), (.iconst 1, []), (.iload 5, []), (.ishl, []), (.ior, []), (.istore 4, []), (.aload_n 0, []), (.getfield 37, [8, 1]), (.getfield 111, [4, 0]), (.iload 5, []), (.iaload, []), (.iload_n 3, []), (.if_icmp .le 6, [120]), (.goto 9, [126])]), (120, [(.iinc 5 1, []), (.goto (-41), [82])]), (126, [(.iload 4, []), (.ireturn, [0])])]
def pm_Thought_allScraped : List (Nat × List ma_I) := [(0, [(.iconst 0, []), (.istore_n 2, []), (.iconst 0, []), (.istore_n 3, []), (.nop, [4])]), (4, [(.iload_n 3, []), (.aload_n 0, []), (.getfield 33, [8, 0]), (.getfield 48, [10, 3]), (.if_icmp .ge 18, [30]), (.iload_n 2, []), (.aload_n 1, []), (.getfield 54, [4, 3]), (.iload_n 3, []), (.iaload, []), (.iadd, []), (.istore_n 2, []), (.iinc 3 1, []), (.goto (-23), [4])]), (30, [(.iload_n 2, []), (.ireturn, [0])])]
def pm_Thought_meetable : List (Nat × List ma_I) := [(0, [(.aload_n 0, []), (.iload_n 1, []), (.invokevirtual 59, [0, 94, 2, 8]), (.istore_n 3, []), (.iload_n 2, []), (.iconst 2, []), (.if_icmp .lt 19, [27]), (.aload_n 0, []), (.iload_n 3, []), (.iload_n 2, []), (.iconst 2, []), (.if_icmp .ne 7, [22]), (.iconst 1, []), (.goto 4, [23])]), (22, [(.iconst 0, []), (.nop, [23])]), (23, [(.invokevirtual 63, [0, 96, 3, 8]), (.ireturn, [0])]), (27, [(.aload_n 0, []), (.getfield 9, [8, 4]), (.aload_n 0, []), (.getfield 15, [8, 5]), (.aload_n 0, []), (.getfield 33, [8, 0]), (.getfield 67, [10, 13]), (.getfield 71, [7, 0]), (.iconst 1, []), (.isub, []), (.iload_n 3, []), (.invokestatic 76, [0, 98, 4]), (.istore 4, []), (.iload_n 2, []), (.ifCond .ne 12, [66]), (.iload 4, []), (.sipush 4096, []), (.idiv, []), (.goto 13, [76])]), (66, [(.sipush 4095, []), (.iload 4, []), (.sipush 4096, []), (.irem, []), (.isub, []), (.nop, [76])]), (76, [(.ireturn, [0])])]
def pm_Thought_wantedSet : List (Nat × List ma_I) := [(0, [(.iconst 0, []), (.istore_n 2, []), (.iconst 0, []), (.istore_n 3, []), (.nop, [4])]), (4, [(.iload_n 3, []), (.aload_n 0, []), (.getfield 33, [8, 0]), (.getfield 67, [10, 13]), (.getfield 71, [7, 0]), (.if_icmp .ge 60, [75]), (.aload_n 0, []), (.getfield 15, [8, 5]), (.iload_n 3, []), (.aload_n 0, []), (.getfield 33, [8, 0]), (.getfield 67, [10, 13]), (.iload_n 3, []), (.iconst 4, []), (.invokevirtual 80, [0, 87, 3, 7]), (.iastore, []), (.aload_n 0, []), (.getfield 9, [8, 4]), (.iload_n 3, []), (.aload_n 0, []), (.iload_n 3, []), (.invokevirtual 84, [0, 95, 2, 8]), (.iastore, []), (.iload_n 2, []), (.aload_n 0, []), (.getfield 33, [8, 0]), (.iload_n 3, []), (.iload_n 1, []), (.invokevirtual 87, [0, 140, 3, 10]), (.ifCond .eq 9, [66]), (.iconst 1, []), (.iload_n 3, []), (.ishl, []), (.goto 4, [67])]), (66, [(.iconst 0, []), (.nop, [67])]), (67, [(.ior, []), (.istore_n 2, []), (.iinc 3 1, []), (.goto (-68), [4])]), (75, [(.iload_n 2, []), (.ireturn, [0])])]
def pm_Thought_clashesOf : List (Nat × List ma_I) := [(0, [(.iconst 0, []), (.istore_n 2, []), (.iconst 0, []), (.istore_n 3, []), (.nop, [4])]), (4, [(.iload_n 3, []), (.aload_n 0, []), (.getfield 33, [8, 0]), (.getfield 67, [10, 13]), (.getfield 71, [7, 0]), (.if_icmp .ge 86, [101]), (.aload_n 0, []), (.getfield 33, [8, 0]), (.getfield 67, [10, 13]), (.iload_n 1, []), (.iconst 1, []), (.invokevirtual 80, [0, 87, 3, 7]), (.aload_n 0, []), (.getfield 33, [8, 0]), (.getfield 67, [10, 13]), (.iload_n 3, []), (.iconst 1, []), (.invokevirtual 80, [0, 87, 3, 7]), (.isub, []), (.invokestatic 91, [0, 292, 1]), (.istore 4, []), (.aload_n 0, []), (.getfield 33, [8, 0]), (.iload_n 1, []), (.invokevirtual 96, [0, 141, 2, 10]), (.aload_n 0, []), (.getfield 33, [8, 0]), (.iload_n 3, []), (.invokevirtual 96, [0, 141, 2, 10]), (.isub, []), (.invokestatic 91, [0, 292, 1]), (.istore 5, []), (.iload_n 2, []), (.iload 4, []), (.iload 5, []), (.aload_n 0, []), (.getfield 33, [8, 0]), (.getfield 99, [10, 1]), (.imul, []), (.if_icmp .le 9, [92]), (.iconst 1, []), (.iload_n 3, []), (.ishl, []), (.goto 4, [93])]), (92, [(.iconst 0, []), (.nop, [93])]), (93, [(.ior, []), (.istore_n 2, []), (.iinc 3 1, []), (.goto (-94), [4])]), (101, [(.iload_n 2, []), (.ireturn, [0])])]
def pm_Thought_firstClash : List (Nat × List ma_I) := [(0, [(.iconst 0, []), (.istore_n 3, []), (.nop, [2])]), (2, [(.iload_n 3, []), (.aload_n 0, []), (.getfield 33, [8, 0]), (.getfield 67, [10, 13]), (.getfield 71, [7, 0]), (.if_icmp .ge 47, [60]), (.aload_n 0, []), (.getfield 9, [8, 4]), (.iload_n 3, []), (.iaload, []), (.iload_n 1, []), (.iand, []), (.istore 4, []), (.iload_n 1, []), (.iload_n 3, []), (.ishr, []), (.iconst 1, []), (.iand, []), (.iconst 1, []), (.if_icmp .ne 22, [54]), (.iload 4, []), (.ifCond .eq 17, [54]), (.iload_n 2, []), (.ifCond .eq 7, [48]), (.iload_n 3, []), (.goto 8, [53])]), (48, [(.iload 4, []), (.invokestatic 102, [0, 97, 1]), (.nop, [53])]), (53, [(.ireturn, [0])]), (54, [(.iinc 3 1, []), (.goto (-55), [2])]), (60, [(.iconst (-1), []), (.ireturn, [0])])]
def pm_Thought_lowest : List (Nat × List ma_I) := [(0, [(.iconst 0, []), (.istore_n 1, []), (.nop, [2])]), (2, [(.iload_n 1, []), (.bipush 12, []), (.if_icmp .ge 20, [25]), (.iload_n 0, []), (.iload_n 1, []), (.ishr, []), (.iconst 1, []), (.iand, []), (.iconst 1, []), (.if_icmp .ne 5, [19]), (.iload_n 1, []), (.ireturn, [0])]), (19, [(.iinc 1 1, []), (.goto (-20), [2])]), (25, [(.iconst (-1), []), (.ireturn, [0])])]
def pm_Thought_bestMet : List (Nat × List ma_I) := [(0, [(.iload_n 2, []), (.ifCond .lt 9, [10]), (.iload_n 2, []), (.aload_n 0, []), (.arraylength, []), (.if_icmp .lt 7, [14]), (.nop, [10])]), (10, [(.sipush 4095, []), (.ireturn, [0])]), (14, [(.iload_n 3, []), (.iconst 1, []), (.iload_n 2, []), (.ishl, []), (.iconst (-1), []), (.ixor, []), (.iand, []), (.istore 4, []), (.iload 4, []), (.iload_n 3, []), (.if_icmp .ne 14, [40]), (.aload_n 0, []), (.aload_n 1, []), (.iload_n 2, []), (.iconst 1, []), (.isub, []), (.iload 4, []), (.invokestatic 76, [0, 98, 4]), (.ireturn, [0])]), (40, [(.aload_n 0, []), (.aload_n 1, []), (.iload_n 2, []), (.iconst 1, []), (.isub, []), (.iload 4, []), (.aload_n 0, []), (.iload_n 2, []), (.iaload, []), (.iconst (-1), []), (.ixor, []), (.iand, []), (.invokestatic 76, [0, 98, 4]), (.aload_n 1, []), (.iload_n 2, []), (.iaload, []), (.sipush 4096, []), (.imul, []), (.iadd, []), (.iconst 1, []), (.iload_n 2, []), (.ishl, []), (.isub, []), (.istore 5, []), (.aload_n 1, []), (.iload_n 2, []), (.iaload, []), (.ifCond .le 15, [88]), (.iload 4, []), (.aload_n 0, []), (.iload_n 2, []), (.iaload, []), (.iand, []), (.ifCond .ne 6, [88]), (.iload 5, []), (.ireturn, [0])]), (88, [(.iload 5, []), (.aload_n 0, []), (.aload_n 1, []), (.iload_n 2, []), (.iconst 1, []), (.isub, []), (.iload 4, []), (.invokestatic 76, [0, 98, 4]), (.invokestatic 105, [0, 291, 2]), (.ireturn, [0])])]
def pm_Thought_smoothed : List (Nat × List ma_I) := [(0, [(.aload_n 0, []), (.getfield 33, [8, 0]), (.getfield 108, [10, 0]), (.iconst 1, []), (.isub, []), (.istore_n 2, []), (.nop, [10])]), (10, [(.iload_n 2, []), (.ifCond .lt 97, [108]), (.iconst 0, []), (.istore_n 3, []), (.nop, [16])]), (16, [(.iload_n 3, []), (.bipush 40, []), (.if_icmp .gt 83, [102]), (.aload_n 0, []), (.getfield 20, [8, 6]), (.iload_n 2, []), (.aaload, []), (.iload_n 3, []), (.iload_n 3, []), (.aload_n 0, []), (.getfield 37, [8, 1]), (.getfield 111, [4, 0]), (.iload_n 2, []), (.iaload, []), (.isub, []), (.invokestatic 91, [0, 292, 1]), (.iload_n 2, []), (.iconst 1, []), (.iadd, []), (.aload_n 0, []), (.getfield 33, [8, 0]), (.getfield 108, [10, 0]), (.if_icmp .ge 40, [93]), (.aload_n 0, []), (.getfield 20, [8, 6]), (.iload_n 2, []), (.iconst 1, []), (.iadd, []), (.aaload, []), (.aload_n 0, []), (.iload_n 2, []), (.iconst 1, []), (.iadd, []), (.iload_n 3, []), (.aload_n 0, []), (.getfield 33, [8, 0]), (.getfield 99, [10, 1]), (.isub, []), (.iload_n 3, []), (.aload_n 0, []), (.getfield 33, [8, 0]), (.getfield 99, [10, 1]), (.iadd, []), (.invokevirtual 114, [0, 100, 4, 8]), (.iaload, []), (.goto 4, [94])]), (93, [(.iconst 0, []), (.nop, [94])]), (94, [(.iadd, []), (.iastore, []), (.iinc 3 1, []), (.goto (-83), [16])]), (102, [(.iinc 2 (-1), []), (.goto (-95), [10])]), (108, [(.aload_n 0, []), (.iconst 0, []), (.iconst 0, []), (.bipush 40, []), (.invokevirtual 114, [0, 100, 4, 8]), (.istore_n 2, []), (.iload_n 1, []), (.iconst (-1), []), (.if_icmp .ne 12, [131]), (.aload_n 0, []), (.getfield 20, [8, 6]), (.iconst 0, []), (.aaload, []), (.iload_n 2, []), (.iaload, []), (.ireturn, [0])]), (131, [(.iconst 1, []), (.istore_n 3, []), (.nop, [133])]), (133, [(.iload_n 3, []), (.iload_n 1, []), (.if_icmp .gt 44, [179]), (.iload_n 3, []), (.aload_n 0, []), (.getfield 33, [8, 0]), (.getfield 108, [10, 0]), (.if_icmp .ge 33, [179]), (.aload_n 0, []), (.iload_n 3, []), (.iload_n 2, []), (.aload_n 0, []), (.getfield 33, [8, 0]), (.getfield 99, [10, 1]), (.isub, []), (.iload_n 2, []), (.aload_n 0, []), (.getfield 33, [8, 0]), (.getfield 99, [10, 1]), (.iadd, []), (.invokevirtual 114, [0, 100, 4, 8]), (.istore_n 2, []), (.iinc 3 1, []), (.goto (-43), [133])]), (179, [(.iload_n 2, []), (.ireturn, [0])])]
def pm_Thought_leastNear : List (Nat × List ma_I) := [(0, [(.iconst 0, []), (.iload_n 2, []), (.invokestatic 105, [0, 291, 2]), (.istore 4, []), (.iload 4, []), (.iconst 1, []), (.iadd, []), (.istore 5, []), (.nop, [13])]), (13, [(.iload 5, []), (.iload_n 3, []), (.if_icmp .gt 41, [57]), (.iload 5, []), (.bipush 40, []), (.if_icmp .gt 34, [57]), (.aload_n 0, []), (.getfield 20, [8, 6]), (.iload_n 1, []), (.aaload, []), (.iload 5, []), (.iaload, []), (.aload_n 0, []), (.getfield 20, [8, 6]), (.iload_n 1, []), (.aaload, []), (.iload 4, []), (.iaload, []), (.if_icmp .ge 7, [51]), (.iload 5, []), (.istore 4, []), (.nop, [51])]), (51, [(.iinc 5 1, []), (.goto (-41), [13])]), (57, [(.iload 4, []), (.ireturn, [0])])]
def pm_Thought_foldSet : List (Nat × List ma_I) := [(0, [(.iconst 0, []), (.istore_n 1, []), (.iconst 0, []), (.istore_n 2, []), (.nop, [4])]), (4, [(.iload_n 2, []), (.aload_n 0, []), (.getfield 33, [8, 0]), (.getfield 108, [10, 0]), (.if_icmp .ge 37, [49]), (.aload_n 0, []), (.iload_n 2, []), (.iconst 1, []), (.isub, []), (.iload_n 2, []), (.invokevirtual 118, [0, 102, 3, 8]), (.ifCond .eq 20, [43]), (.aload_n 0, []), (.iload_n 2, []), (.iconst 1, []), (.iadd, []), (.iload_n 2, []), (.invokevirtual 118, [0, 102, 3, 8]), (.ifCond .eq 9, [43]), (.iload_n 1, []), (.iconst 1, []), (.iload_n 2, []), (.ishl, []), (.ior, []), (.istore_n 1, []), (.nop, [43])]), (43, [(.iinc 2 1, []), (.goto (-42), [4])]), (49, [(.iload_n 1, []), (.ireturn, [0])])]
def pm_Thought_slidesInto : List (Nat × List ma_I) := [(0, [(.aload_n 0, []), (.getfield 33, [8, 0]), (.iload_n 1, []), (.invokevirtual 121, [0, 137, 2, 10]), (.ifCond .eq 37, [45]), (.aload_n 0, []), (.getfield 37, [8, 1]), (.getfield 111, [4, 0]), (.iload_n 1, []), (.iaload, []), (.aload_n 0, []), (.getfield 37, [8, 1]), (.getfield 111, [4, 0]), (.iload_n 2, []), (.iaload, []), (.isub, []), (.aload_n 0, []), (.getfield 41, [8, 2]), (.aload_n 0, []), (.getfield 37, [8, 1]), (.iload_n 1, []), (.invokevirtual 125, [0, 49, 3, 1]), (.if_icmp .le 7, [49]), (.nop, [45])]), (45, [(.iconst 1, []), (.goto 4, [50])]), (49, [(.iconst 0, []), (.nop, [50])]), (50, [(.ireturn, [1])])]
def pm_Thought_lifts : List (Nat × List ma_I) := [(0, [(.iconst 0, []), (.istore_n 2, []), (.bipush (-100), []), (.istore_n 3, []), (.aload_n 0, []), (.invokevirtual 131, [0, 104, 1, 8]), (.bipush (-20), []), (.istore 4, []), (.nop, [13])]), (13, [(.iload 4, []), (.bipush 20, []), (.if_icmp .gt 45, [62]), (.aload_n 0, []), (.iload 4, []), (.invokevirtual 134, [0, 105, 2, 8]), (.aload_n 0, []), (.invokevirtual 138, [0, 106, 1, 8]), (.ifCond .eq 26, [56]), (.iload_n 2, []), (.ifCond .ne 8, [42]), (.iload 4, []), (.goto 4, [43])]), (42, [(.iload_n 3, []), (.nop, [43])]), (43, [(.istore_n 3, []), (.iinc 2 1, []), (.iload_n 1, []), (.iconst 2, []), (.if_icmp .ne 7, [56]), (.aload_n 0, []), (.invokevirtual 142, [0, 107, 1, 8]), (.nop, [56])]), (56, [(.iinc 4 1, []), (.goto (-46), [13])]), (62, [(.iload_n 1, []), (.iconst 2, []), (.if_icmp .ne 17, [81]), (.iload_n 2, []), (.iconst 2, []), (.if_icmp .ge 7, [76]), (.iconst (-1), []), (.goto 7, [80])]), (76, [(.aload_n 0, []), (.invokevirtual 145, [0, 109, 1, 8]), (.nop, [80])]), (80, [(.ireturn, [0])]), (81, [(.iload_n 1, []), (.ifCond .ne 7, [89]), (.iload_n 2, []), (.goto 4, [90])]), (89, [(.iload_n 3, []), (.nop, [90])]), (90, [(.ireturn, [0])])]
def pm_Thought_emptyDusks : List (Nat × List ma_I) := [(0, [(.iconst 0, []), (.istore_n 1, []), (.nop, [2])]), (2, [(.iload_n 1, []), (.aload_n 0, []), (.getfield 33, [8, 0]), (.getfield 108, [10, 0]), (.if_icmp .ge 32, [42]), (.iconst 0, []), (.istore_n 2, []), (.nop, [15])]), (15, [(.iload_n 2, []), (.bipush 24, []), (.if_icmp .gt 18, [36]), (.aload_n 0, []), (.getfield 23, [8, 7]), (.iload_n 1, []), (.aaload, []), (.iload_n 2, []), (.iconst 0, []), (.iastore, []), (.iinc 2 1, []), (.goto (-18), [15])]), (36, [(.iinc 1 1, []), (.goto (-37), [2])]), (42, [(.return_, [])])]
def pm_Thought_liftSpare : List (Nat × List ma_I) := [(0, [(.aload_n 0, []), (.getfield 45, [8, 3]), (.aload_n 0, []), (.getfield 37, [8, 1]), (.invokevirtual 149, [0, 65, 2, 4]), (.iconst 0, []), (.istore_n 2, []), (.nop, [13])]), (13, [(.iload_n 2, []), (.aload_n 0, []), (.getfield 33, [8, 0]), (.getfield 108, [10, 0]), (.if_icmp .ge 35, [56]), (.aload_n 0, []), (.getfield 45, [8, 3]), (.getfield 111, [4, 0]), (.iload_n 2, []), (.aload_n 0, []), (.getfield 37, [8, 1]), (.getfield 111, [4, 0]), (.iload_n 2, []), (.iaload, []), (.iload_n 1, []), (.iadd, []), (.iconst 0, []), (.bipush 40, []), (.invokestatic 153, [0, 10, 3]), (.iastore, []), (.iinc 2 1, []), (.goto (-40), [13])]), (56, [(.return_, [])])]
def pm_Thought_fitsSunsets : List (Nat × List ma_I) := [(0, [(.iconst 0, []), (.istore_n 1, []), (.nop, [2])]), (2, [(.iload_n 1, []), (.aload_n 0, []), (.getfield 33, [8, 0]), (.getfield 156, [10, 8]), (.if_icmp .ge 43, [53]), (.aload_n 0, []), (.getfield 41, [8, 2]), (.aload_n 0, []), (.getfield 45, [8, 3]), (.aload_n 0, []), (.getfield 33, [8, 0]), (.getfield 159, [10, 9]), (.iload_n 1, []), (.iaload, []), (.invokevirtual 162, [0, 51, 3, 1]), (.aload_n 0, []), (.getfield 33, [8, 0]), (.getfield 165, [10, 10]), (.iload_n 1, []), (.iaload, []), (.if_icmp .eq 5, [47]), (.iconst 0, []), (.ireturn, [1])]), (47, [(.iinc 1 1, []), (.goto (-48), [2])]), (53, [(.iconst 1, []), (.ireturn, [1])])]
def pm_Thought_countDusks : List (Nat × List ma_I) := [(0, [(.iconst 0, []), (.istore_n 1, []), (.nop, [2])]), (2, [(.iload_n 1, []), (.aload_n 0, []), (.getfield 33, [8, 0]), (.getfield 108, [10, 0]), (.if_icmp .ge 29, [39]), (.aload_n 0, []), (.getfield 23, [8, 7]), (.iload_n 1, []), (.aaload, []), (.aload_n 0, []), (.aload_n 0, []), (.getfield 45, [8, 3]), (.iload_n 1, []), (.invokevirtual 168, [0, 108, 3, 8]), (.dup2, []), (.iaload, []), (.iconst 1, []), (.iadd, []), (.iastore, []), (.iinc 1 1, []), (.goto (-34), [2])]), (39, [(.return_, [])])]
def pm_Thought_duskOr24 : List (Nat × List ma_I) := [(0, [(.aload_n 0, []), (.getfield 41, [8, 2]), (.aload_n 1, []), (.iload_n 2, []), (.invokevirtual 162, [0, 51, 3, 1]), (.istore_n 3, []), (.iload_n 3, []), (.iconst (-1), []), (.if_icmp .ne 8, [20]), (.bipush 24, []), (.goto 4, [21])]), (20, [(.iload_n 3, []), (.nop, [21])]), (21, [(.ireturn, [0])])]
def pm_Thought_bestLook : List (Nat × List ma_I) := [(0, [(.iconst 0, []), (.istore_n 1, []), (.iconst 1, []), (.istore_n 2, []), (.nop, [4])]), (4, [(.iload_n 2, []), (.aload_n 0, []), (.getfield 33, [8, 0]), (.getfield 108, [10, 0]), (.if_icmp .ge 24, [36]), (.aload_n 0, []), (.iload_n 2, []), (.invokevirtual 171, [0, 110, 2, 8]), (.aload_n 0, []), (.iload_n 1, []), (.invokevirtual 171, [0, 110, 2, 8]), (.if_icmp .ge 5, [30]), (.iload_n 2, []), (.istore_n 1, []), (.nop, [30])]), (30, [(.iinc 2 1, []), (.goto (-29), [4])]), (36, [(.iload_n 1, []), (.ireturn, [0])])]
def pm_Thought_greatestGroup : List (Nat × List ma_I) := [(0, [(.iconst 0, []), (.istore_n 2, []), (.iconst 0, []), (.istore_n 3, []), (.nop, [4])]), (4, [(.iload_n 3, []), (.bipush 24, []), (.if_icmp .gt 22, [29]), (.iload_n 2, []), (.aload_n 0, []), (.getfield 23, [8, 7]), (.iload_n 1, []), (.aaload, []), (.iload_n 3, []), (.iaload, []), (.invokestatic 105, [0, 291, 2]), (.istore_n 2, []), (.iinc 3 1, []), (.goto (-22), [4])]), (29, [(.iload_n 2, []), (.ireturn, [0])])]
def pm_Thought_seers : List (Nat × List ma_I) := [(0, [(.iconst 0, []), (.istore_n 2, []), (.iconst 0, []), (.istore_n 3, []), (.nop, [4])]), (4, [(.iload_n 3, []), (.aload_n 0, []), (.getfield 33, [8, 0]), (.getfield 180, [10, 5]), (.if_icmp .ge 31, [43]), (.iload_n 2, []), (.iload_n 1, []), (.aload_n 0, []), (.iload_n 3, []), (.invokevirtual 183, [0, 91, 2, 8]), (.iconst (-1), []), (.ixor, []), (.iand, []), (.ifCond .ne 9, [34]), (.iconst 1, []), (.iload_n 3, []), (.ishl, []), (.goto 4, [35])]), (34, [(.iconst 0, []), (.nop, [35])]), (35, [(.ior, []), (.istore_n 2, []), (.iinc 3 1, []), (.goto (-36), [4])]), (43, [(.iload_n 2, []), (.ireturn, [0])])]
def pm_Thought_fewestSeers : List (Nat × List ma_I) := [(0, [(.iconst (-1), []), (.istore_n 1, []), (.iconst 1, []), (.istore_n 2, []), (.nop, [4])]), (4, [(.iload_n 2, []), (.iconst 1, []), (.aload_n 0, []), (.getfield 33, [8, 0]), (.getfield 180, [10, 5]), (.ishl, []), (.if_icmp .ge 52, [66]), (.iload_n 1, []), (.iconst (-1), []), (.if_icmp .eq 14, [33]), (.iload_n 2, []), (.invokestatic 186, [0, 293, 1]), (.iload_n 1, []), (.invokestatic 186, [0, 293, 1]), (.if_icmp .ge 7, [37]), (.nop, [33])]), (33, [(.iconst 1, []), (.goto 4, [38])]), (37, [(.iconst 0, []), (.nop, [38])]), (38, [(.istore_n 3, []), (.iload_n 3, []), (.ifCond .eq 20, [60]), (.aload_n 0, []), (.iload_n 2, []), (.invokevirtual 191, [0, 113, 2, 8]), (.aload_n 0, []), (.getfield 33, [8, 0]), (.invokevirtual 194, [0, 142, 1, 10]), (.if_icmp .ne 5, [60]), (.iload_n 2, []), (.istore_n 1, []), (.nop, [60])]), (60, [(.iinc 2 1, []), (.goto (-59), [4])]), (66, [(.iload_n 1, []), (.ireturn, [0])])]
def pm_Thought_seenBy : List (Nat × List ma_I) := [(0, [(.iconst 0, []), (.istore_n 2, []), (.iconst 0, []), (.istore_n 3, []), (.nop, [4])]), (4, [(.iload_n 3, []), (.aload_n 0, []), (.getfield 33, [8, 0]), (.getfield 180, [10, 5]), (.if_icmp .ge 30, [42]), (.iload_n 2, []), (.iload_n 1, []), (.iload_n 3, []), (.ishr, []), (.iconst 1, []), (.iand, []), (.iconst 1, []), (.if_icmp .ne 11, [33]), (.aload_n 0, []), (.iload_n 3, []), (.invokevirtual 183, [0, 91, 2, 8]), (.goto 4, [34])]), (33, [(.iconst 0, []), (.nop, [34])]), (34, [(.ior, []), (.istore_n 2, []), (.iinc 3 1, []), (.goto (-35), [4])]), (42, [(.iload_n 2, []), (.ireturn, [0])])]
def pm_Thought_coiled : List (Nat × List ma_I) := [(0, [(.iconst 0, []), (.istore_n 3, []), (.iconst 0, []), (.istore 4, []), (.iconst 0, []), (.istore 5, []), (.iconst (-1), []), (.istore 6, []), (.iconst 0, []), (.istore 7, []), (.nop, [14])]), (14, [(.iload 7, []), (.aload_n 0, []), (.getfield 33, [8, 0]), (.getfield 108, [10, 0]), (.if_icmp .ge 83, [106]), (.aload_n 0, []), (.getfield 37, [8, 1]), (.getfield 111, [4, 0]), (.iload 7, []), (.iaload, []), (.iload_n 1, []), (.if_icmp .le 5, [42]), (.iconst (-1), []), (.ireturn, [0])]), (42, [(.iload 5, []), (.aload_n 0, []), (.getfield 37, [8, 1]), (.getfield 111, [4, 0]), (.iload 7, []), (.iaload, []), (.iadd, []), (.iload_n 1, []), (.if_icmp .le 26, [82]), (.iload_n 3, []), (.iload_n 2, []), (.if_icmp .ne 8, [69]), (.iload 4, []), (.goto 5, [71])]), (69, [(.iload 6, []), (.nop, [71])]), (71, [(.istore 6, []), (.iinc 3 1, []), (.iconst 0, []), (.istore 4, []), (.iconst 0, []), (.istore 5, []), (.nop, [82])]), (82, [(.iinc 4 1, []), (.iload 5, []), (.aload_n 0, []), (.getfield 37, [8, 1]), (.getfield 111, [4, 0]), (.iload 7, []), (.iaload, []), (.iadd, []), (.istore 5, []), (.iinc 7 1, []), (.goto (-89), [14])]), (106, [(.iload_n 3, []), (.iload_n 2, []), (.if_icmp .ne 8, [116]), (.iload 4, []), (.goto 5, [118])]), (116, [(.iload 6, []), (.nop, [118])]), (118, [(.istore 6, []), (.iload_n 2, []), (.iconst (-1), []), (.if_icmp .ne 9, [131]), (.iload_n 3, []), (.iconst 1, []), (.iadd, []), (.goto 5, [133])]), (131, [(.iload 6, []), (.nop, [133])]), (133, [(.ireturn, [0])])]
def pm_Thought_moored : List (Nat × List ma_I) := [(0, [(.iconst 1, []), (.aload_n 0, []), (.getfield 33, [8, 0]), (.getfield 48, [10, 3]), (.ishl, []), (.iconst 1, []), (.isub, []), (.istore_n 2, []), (.iconst 0, []), (.istore_n 3, []), (.nop, [14])]), (14, [(.iload_n 3, []), (.iload_n 2, []), (.if_icmp .gt 26, [42]), (.aload_n 0, []), (.getfield 26, [8, 8]), (.iload_n 3, []), (.iload_n 3, []), (.ifCond .ne 7, [32]), (.lconst 0, []), (.goto 6, [35])]), (32, [(.ldc2_w 197, [4611686018427387904]), (.nop, [35])]), (35, [(.lastore, []), (.iinc 3 1, []), (.goto (-25), [14])]), (42, [(.iconst 0, []), (.istore_n 3, []), (.nop, [44])]), (44, [(.iload_n 3, []), (.aload_n 0, []), (.getfield 33, [8, 0]), (.getfield 108, [10, 0]), (.if_icmp .ge 47, [99]), (.iload_n 2, []), (.istore 4, []), (.nop, [58])]), (58, [(.iload 4, []), (.ifCond .le 33, [93]), (.aload_n 0, []), (.getfield 26, [8, 8]), (.iload 4, []), (.aload_n 0, []), (.getfield 26, [8, 8]), (.iload 4, []), (.laload, []), (.aload_n 0, []), (.iload 4, []), (.iload_n 3, []), (.invokevirtual 199, [0, 116, 3, 8]), (.invokestatic 203, [0, 294, 2]), (.lastore, []), (.iinc 4 (-1), []), (.goto (-32), [58])]), (93, [(.iinc 3 1, []), (.goto (-52), [44])]), (99, [(.aload_n 0, []), (.getfield 26, [8, 8]), (.iload_n 2, []), (.laload, []), (.ldc2_w 197, [4611686018427387904]), (.lcmp, []), (.ifCond .ne 5, [114]), (.iconst (-1), []), (.ireturn, [0])]), (114, [(.iload_n 1, []), (.iconst (-1), []), (.if_icmp .ne 16, [132]), (.aload_n 0, []), (.getfield 26, [8, 8]), (.iload_n 2, []), (.laload, []), (.bipush 32, []), (.lshr, []), (.l2i, []), (.goto 19, [148])]), (132, [(.aload_n 0, []), (.getfield 26, [8, 8]), (.iload_n 2, []), (.laload, []), (.iload_n 1, []), (.invokestatic 207, [0, 117, 1]), (.lshr, []), (.ldc2_w 210, [15]), (.land, []), (.l2i, []), (.nop, [148])]), (148, [(.ireturn, [0])])]
def pm_Thought_wayWith : List (Nat × List ma_I) := [(0, [(.ldc2_w 197, [4611686018427387904]), (.lstore_n 3, []), (.iconst 0, []), (.istore 5, []), (.nop, [7])]), (7, [(.iload 5, []), (.aload_n 0, []), (.getfield 33, [8, 0]), (.getfield 48, [10, 3]), (.if_icmp .ge 112, [128]), (.iload_n 1, []), (.iload 5, []), (.ishr, []), (.iconst 1, []), (.iand, []), (.iconst 1, []), (.if_icmp .ne 96, [122]), (.aload_n 0, []), (.getfield 37, [8, 1]), (.getfield 111, [4, 0]), (.iload_n 2, []), (.iaload, []), (.aload_n 0, []), (.getfield 33, [8, 0]), (.getfield 212, [10, 4]), (.iload 5, []), (.iaload, []), (.if_icmp .lt 74, [122]), (.aload_n 0, []), (.getfield 26, [8, 8]), (.iload_n 1, []), (.iconst 1, []), (.iload 5, []), (.ishl, []), (.iconst (-1), []), (.ixor, []), (.iand, []), (.laload, []), (.ldc2_w 197, [4611686018427387904]), (.lcmp, []), (.ifCond .eq 54, [122]), (.aload_n 0, []), (.getfield 37, [8, 1]), (.getfield 215, [4, 2]), (.iload 5, []), (.iaload, []), (.iload_n 2, []), (.isub, []), (.invokestatic 91, [0, 292, 1]), (.i2l, []), (.lstore 6, []), (.lload_n 3, []), (.aload_n 0, []), (.getfield 26, [8, 8]), (.iload_n 1, []), (.iconst 1, []), (.iload 5, []), (.ishl, []), (.iconst (-1), []), (.ixor, []), (.iand, []), (.laload, []), (.lload 6, []), (.bipush 32, []), (.lshl, []), (.ladd, []), (.iload_n 2, []), (.i2l, []), (.iload 5, []), (.invokestatic 207, [0, 117, 1]), (.lshl, []), (.ladd, []), (.invokestatic 203, [0, 294, 2]), (.lstore_n 3, []), (.nop, [122])]), (122, [(.iinc 5 1, []), (.goto (-118), [7])]), (128, [(.lload_n 3, []), (.lreturn, [])])]
def pm_Thought_shiftOf : List (Nat × List ma_I) := [(0, [(.iconst 4, []), (.bipush 7, []), (.iload_n 0, []), (.isub, []), (.imul, []), (.ireturn, [0])])]
def pm_Thought_shareOf : List (Nat × List ma_I) := [(0, [(.iconst 0, []), (.istore_n 3, []), (.iconst 0, []), (.istore 4, []), (.nop, [5])]), (5, [(.iload 4, []), (.aload_n 0, []), (.getfield 33, [8, 0]), (.getfield 180, [10, 5]), (.if_icmp .ge 46, [60]), (.aload_n 0, []), (.getfield 30, [8, 9]), (.iload 4, []), (.aload_n 0, []), (.aload_n 0, []), (.getfield 37, [8, 1]), (.aload_n 0, []), (.getfield 33, [8, 0]), (.getfield 174, [10, 6]), (.iload 4, []), (.iaload, []), (.invokevirtual 168, [0, 108, 3, 8]), (.iconst 1, []), (.iadd, []), (.iastore, []), (.iload_n 3, []), (.aload_n 0, []), (.getfield 30, [8, 9]), (.iload 4, []), (.iaload, []), (.iadd, []), (.istore_n 3, []), (.iinc 4 1, []), (.goto (-52), [5])]), (60, [(.iload_n 3, []), (.iconst 1, []), (.if_icmp .ge 5, [67]), (.iconst (-1), []), (.ireturn, [0])]), (67, [(.iload_n 1, []), (.istore 4, []), (.iconst 0, []), (.istore 5, []), (.iload_n 1, []), (.aload_n 0, []), (.getfield 30, [8, 9]), (.iload_n 2, []), (.iaload, []), (.imul, []), (.iload_n 3, []), (.irem, []), (.istore 6, []), (.iconst 0, []), (.istore 7, []), (.nop, [88])]), (88, [(.iload 7, []), (.aload_n 0, []), (.getfield 33, [8, 0]), (.getfield 180, [10, 5]), (.if_icmp .ge 68, [165]), (.iload_n 1, []), (.aload_n 0, []), (.getfield 30, [8, 9]), (.iload 7, []), (.iaload, []), (.imul, []), (.iload_n 3, []), (.irem, []), (.istore 8, []), (.iload 4, []), (.iload_n 1, []), (.aload_n 0, []), (.getfield 30, [8, 9]), (.iload 7, []), (.iaload, []), (.imul, []), (.iload_n 3, []), (.idiv, []), (.isub, []), (.istore 4, []), (.iload 5, []), (.iload 8, []), (.iload 6, []), (.if_icmp .gt 16, [151]), (.iload 8, []), (.iload 6, []), (.if_icmp .ne 13, [155]), (.iload 7, []), (.iload_n 2, []), (.if_icmp .ge 7, [155]), (.nop, [151])]), (151, [(.iconst 1, []), (.goto 4, [156])]), (155, [(.iconst 0, []), (.nop, [156])]), (156, [(.iadd, []), (.istore 5, []), (.iinc 7 1, []), (.goto (-74), [88])]), (165, [(.iload_n 1, []), (.aload_n 0, []), (.getfield 30, [8, 9]), (.iload_n 2, []), (.iaload, []), (.imul, []), (.iload_n 3, []), (.idiv, []), (.iload 5, []), (.iload 4, []), (.if_icmp .ge 7, [186]), (.iconst 1, []), (.goto 4, [187])]), (186, [(.iconst 0, []), (.nop, [187])]), (187, [(.iadd, []), (.ireturn, [0])])]
def pm_Thought_goodMove : List (Nat × List ma_I) := [(0, [(.iconst 0, []), (.istore_n 2, []), (.iconst 0, []), (.istore_n 3, []), (.nop, [4])]), (4, [(.iload_n 3, []), (.aload_n 0, []), (.getfield 33, [8, 0]), (.getfield 108, [10, 0]), (.if_icmp .ge 23, [35]), (.iload_n 2, []), (.aload_n 0, []), (.getfield 37, [8, 1]), (.getfield 111, [4, 0]), (.iload_n 3, []), (.iaload, []), (.iconst 3, []), (.iand, []), (.ixor, []), (.istore_n 2, []), (.iinc 3 1, []), (.goto (-28), [4])]), (35, [(.iconst 0, []), (.istore_n 3, []), (.nop, [37])]), (37, [(.iload_n 3, []), (.aload_n 0, []), (.getfield 33, [8, 0]), (.getfield 108, [10, 0]), (.if_icmp .ge 57, [102]), (.iload_n 2, []), (.ifCond .eq 53, [102]), (.aload_n 0, []), (.getfield 37, [8, 1]), (.getfield 111, [4, 0]), (.iload_n 3, []), (.iaload, []), (.istore 4, []), (.iload 4, []), (.iconst 3, []), (.iand, []), (.iload 4, []), (.iconst 3, []), (.iand, []), (.iload_n 2, []), (.ixor, []), (.isub, []), (.iconst 3, []), (.iand, []), (.istore 5, []), (.iload 5, []), (.iload 4, []), (.if_icmp .gt 14, [96]), (.iload_n 1, []), (.ifCond .ne 7, [93]), (.iload_n 3, []), (.goto 5, [95])]), (93, [(.iload 5, []), (.nop, [95])]), (95, [(.ireturn, [0])]), (96, [(.iinc 3 1, []), (.goto (-62), [37])]), (102, [(.iconst (-1), []), (.ireturn, [0])])]
def pm_Tokens_init : List (Nat × List ma_I) := [(0, [(.aload_n 0, []), (.invokespecial 5, [1]), (.aload_n 0, []), (.sipush 400, []), (.newarray .byte, []), (.putfield 11, [9, 0, 2]), (.aload_n 0, []), (.sipush 401, []), (.newarray .int, []), (.putfield 15, [9, 2, 2]), (.aload_n 0, []), (.sipush 401, []), (.newarray .int, []), (.putfield 19, [9, 3, 2]), (.aload_n 0, []), (.sipush 401, []), (.newarray .int, []), (.putfield 22, [9, 4, 2]), (.aload_n 0, []), (.iconst (-1), []), (.putfield 25, [9, 8, 0]), (.return_, [])])]
def pm_Tokens_append : List (Nat × List ma_I) := [(0, [(.bipush 24, []), (.istore_n 2, []), (.nop, [3])]), (3, [(.iload_n 2, []), (.ifCond .lt 42, [46]), (.aload_n 0, []), (.getfield 29, [9, 1]), (.sipush 400, []), (.if_icmp .ge 32, [46]), (.aload_n 0, []), (.getfield 11, [9, 0]), (.aload_n 0, []), (.getfield 29, [9, 1]), (.iload_n 1, []), (.iload_n 2, []), (.ishr, []), (.i2b, []), (.bastore, []), (.aload_n 0, []), (.dup, []), (.getfield 29, [9, 1]), (.iconst 1, []), (.iadd, []), (.putfield 29, [9, 1, 0]), (.iinc 2 (-8), []), (.goto (-40), [3])]), (46, [(.return_, [])])]
def pm_Tokens_cut : List (Nat × List ma_I) := [(0, [(.aload_n 0, []), (.iconst 0, []), (.putfield 32, [9, 7, 0]), (.aload_n 0, []), (.iconst (-1), []), (.putfield 25, [9, 8, 0]), (.aload_n 0, []), (.iconst 0, []), (.putfield 35, [9, 5, 0]), (.aload_n 0, []), (.iconst 0, []), (.putfield 38, [9, 6, 0]), (.iconst 0, []), (.istore_n 1, []), (.iconst 0, []), (.istore_n 2, []), (.nop, [24])]), (24, [(.iload_n 2, []), (.sipush 400, []), (.if_icmp .ge 41, [69]), (.iload_n 1, []), (.aload_n 0, []), (.getfield 29, [9, 1]), (.if_icmp .ge 33, [69]), (.aload_n 0, []), (.getfield 11, [9, 0]), (.iload_n 1, []), (.baload, []), (.invokestatic 41, [0, 123, 1]), (.ifCond .eq 9, [57]), (.iload_n 1, []), (.iconst 1, []), (.iadd, []), (.goto 8, [62])]), (57, [(.aload_n 0, []), (.iload_n 1, []), (.invokevirtual 45, [0, 124, 2, 9]), (.nop, [62])]), (62, [(.istore_n 1, []), (.iinc 2 1, []), (.goto (-42), [24])]), (69, [(.aload_n 0, []), (.iconst 0, []), (.aload_n 0, []), (.getfield 29, [9, 1]), (.iconst 0, []), (.invokevirtual 49, [0, 127, 4, 9]), (.return_, [])])]
def pm_Tokens_isBlank : List (Nat × List ma_I) := [(0, [(.iload_n 0, []), (.bipush 32, []), (.if_icmp .eq 9, [12]), (.iload_n 0, []), (.bipush 10, []), (.if_icmp .ne 7, [16]), (.nop, [12])]), (12, [(.iconst 1, []), (.goto 4, [17])]), (16, [(.iconst 0, []), (.nop, [17])]), (17, [(.ireturn, [1])])]
def pm_Tokens_cutOne : List (Nat × List ma_I) := [(0, [(.iload_n 1, []), (.iconst 1, []), (.iadd, []), (.istore_n 2, []), (.aload_n 0, []), (.getfield 11, [9, 0]), (.iload_n 1, []), (.baload, []), (.invokestatic 53, [0, 125, 1]), (.ifCond .eq 44, [57]), (.nop, [16])]), (16, [(.iload_n 2, []), (.aload_n 0, []), (.getfield 29, [9, 1]), (.if_icmp .ge 21, [42]), (.aload_n 0, []), (.getfield 11, [9, 0]), (.iload_n 2, []), (.baload, []), (.invokestatic 53, [0, 125, 1]), (.ifCond .eq 9, [42]), (.iinc 2 1, []), (.goto (-23), [16])]), (42, [(.aload_n 0, []), (.aload_n 0, []), (.iload_n 1, []), (.iload_n 2, []), (.invokevirtual 56, [0, 126, 3, 9]), (.iload_n 1, []), (.iconst 0, []), (.invokevirtual 49, [0, 127, 4, 9]), (.goto 99, [153])]), (57, [(.aload_n 0, []), (.getfield 11, [9, 0]), (.iload_n 1, []), (.baload, []), (.invokestatic 60, [0, 128, 1]), (.ifCond .eq 55, [121]), (.nop, [69])]), (69, [(.iload_n 2, []), (.aload_n 0, []), (.getfield 29, [9, 1]), (.if_icmp .ge 21, [95]), (.aload_n 0, []), (.getfield 11, [9, 0]), (.iload_n 2, []), (.baload, []), (.invokestatic 60, [0, 128, 1]), (.ifCond .eq 9, [95]), (.iinc 2 1, []), (.goto (-23), [69])]), (95, [(.aload_n 0, []), (.iload_n 2, []), (.iload_n 1, []), (.isub, []), (.iconst 4, []), (.if_icmp .le 7, [107]), (.iconst 2, []), (.goto 4, [108])]), (107, [(.iconst 1, []), (.nop, [108])]), (108, [(.iload_n 1, []), (.aload_n 0, []), (.iload_n 1, []), (.iload_n 2, []), (.invokevirtual 63, [0, 129, 3, 9]), (.invokevirtual 49, [0, 127, 4, 9]), (.goto 35, [153])]), (121, [(.aload_n 0, []), (.getfield 11, [9, 0]), (.iload_n 1, []), (.baload, []), (.sipush 255, []), (.iand, []), (.i2c, []), (.istore_n 3, []), (.aload_n 0, []), (.ldc 66, [1, 1]), (.iload_n 3, []), (.invokevirtual 68, [5, 1]), (.ifCond .ge 7, [147]), (.iconst 2, []), (.goto 4, [148])]), (147, [(.iload_n 3, []), (.nop, [148])]), (148, [(.iload_n 1, []), (.iconst 0, []), (.invokevirtual 49, [0, 127, 4, 9]), (.nop, [153])]), (153, [(.iload_n 2, []), (.ireturn, [0])])]
def pm_Tokens_isLetter : List (Nat × List ma_I) := [(0, [(.iload_n 0, []), (.bipush 97, []), (.if_icmp .lt 9, [12]), (.iload_n 0, []), (.bipush 122, []), (.if_icmp .le 15, [24]), (.nop, [12])]), (12, [(.iload_n 0, []), (.bipush 65, []), (.if_icmp .lt 13, [28]), (.iload_n 0, []), (.bipush 90, []), (.if_icmp .gt 7, [28]), (.nop, [24])]), (24, [(.iconst 1, []), (.goto 4, [29])]), (28, [(.iconst 0, []), (.nop, [29])]), (29, [(.ireturn, [1])])]
def pm_Tokens_keyword : List (Nat × List ma_I) := [(0, [(.sipush 256, []), (.istore_n 3, []), (.iload_n 1, []), (.istore 4, []), (.iconst 0, []), (.istore 5, []), (.nop, [10])]), (10, [(.iload 5, []), (.ldc 73, [1, 0]), (.invokevirtual 75, [3, 0]), (.if_icmp .ge 76, [93]), (.ldc 73, [1, 0]), (.iload 5, []), (.invokevirtual 78, [4, 0]), (.istore 6, []), (.iload 6, []), (.bipush 32, []), (.if_icmp .eq 40, [73]), (.iload 4, []), (.iload_n 1, []), (.if_icmp .lt 28, [67]), (.iload 4, []), (.iload_n 2, []), (.if_icmp .ge 22, [67]), (.aload_n 0, []), (.getfield 11, [9, 0]), (.iload 4, []), (.baload, []), (.iload 6, []), (.if_icmp .ne 10, [67]), (.iload 4, []), (.iconst 1, []), (.iadd, []), (.goto 4, [68])]), (67, [(.iconst (-1), []), (.nop, [68])]), (68, [(.istore 4, []), (.goto 17, [87])]), (73, [(.iload 4, []), (.iload_n 2, []), (.if_icmp .ne 5, [81]), (.iload_n 3, []), (.ireturn, [0])]), (81, [(.iinc 3 1, []), (.iload_n 1, []), (.istore 4, []), (.nop, [87])]), (87, [(.iinc 5 1, []), (.goto (-80), [10])]), (93, [(.iconst 2, []), (.ireturn, [0])])]
def pm_Tokens_add : List (Nat × List ma_I) := [(0, [(.aload_n 0, []), (.getfield 35, [9, 5]), (.aload_n 0, []), (.getfield 15, [9, 2]), (.arraylength, []), (.if_icmp .ge 43, [52]), (.aload_n 0, []), (.getfield 15, [9, 2]), (.aload_n 0, []), (.getfield 35, [9, 5]), (.iload_n 1, []), (.iastore, []), (.aload_n 0, []), (.getfield 19, [9, 3]), (.aload_n 0, []), (.getfield 35, [9, 5]), (.iload_n 2, []), (.iastore, []), (.aload_n 0, []), (.getfield 22, [9, 4]), (.aload_n 0, []), (.getfield 35, [9, 5]), (.iload_n 3, []), (.iastore, []), (.aload_n 0, []), (.dup, []), (.getfield 35, [9, 5]), (.iconst 1, []), (.iadd, []), (.putfield 35, [9, 5, 0]), (.nop, [52])]), (52, [(.return_, [])])]
def pm_Tokens_isDigit : List (Nat × List ma_I) := [(0, [(.iload_n 0, []), (.bipush 48, []), (.if_icmp .lt 13, [16]), (.iload_n 0, []), (.bipush 57, []), (.if_icmp .gt 7, [16]), (.iconst 1, []), (.goto 4, [17])]), (16, [(.iconst 0, []), (.nop, [17])]), (17, [(.ireturn, [1])])]
def pm_Tokens_number : List (Nat × List ma_I) := [(0, [(.iconst 0, []), (.istore_n 3, []), (.iload_n 1, []), (.istore 4, []), (.nop, [5])]), (5, [(.iload 4, []), (.iload_n 2, []), (.if_icmp .ge 33, [41]), (.iload 4, []), (.iload_n 1, []), (.iconst 4, []), (.iadd, []), (.if_icmp .ge 25, [41]), (.iload_n 3, []), (.bipush 10, []), (.imul, []), (.aload_n 0, []), (.getfield 11, [9, 0]), (.iload 4, []), (.baload, []), (.iadd, []), (.bipush 48, []), (.isub, []), (.istore_n 3, []), (.iinc 4 1, []), (.goto (-33), [5])]), (41, [(.iload_n 3, []), (.ireturn, [0])])]
def pm_Tokens_now : List (Nat × List ma_I) := [(0, [(.aload_n 0, []), (.getfield 38, [9, 6]), (.aload_n 0, []), (.getfield 35, [9, 5]), (.if_icmp .ge 15, [23]), (.aload_n 0, []), (.getfield 15, [9, 2]), (.aload_n 0, []), (.getfield 38, [9, 6]), (.iaload, []), (.goto 4, [24])]), (23, [(.iconst 0, []), (.nop, [24])]), (24, [(.ireturn, [0])])]
def pm_Tokens_fail : List (Nat × List ma_I) := [(0, [(.aload_n 0, []), (.iload_n 1, []), (.putfield 32, [9, 7, 0]), (.aload_n 0, []), (.aload_n 0, []), (.getfield 38, [9, 6]), (.aload_n 0, []), (.getfield 35, [9, 5]), (.if_icmp .ge 15, [29]), (.aload_n 0, []), (.getfield 19, [9, 3]), (.aload_n 0, []), (.getfield 38, [9, 6]), (.iaload, []), (.goto 7, [33])]), (29, [(.aload_n 0, []), (.getfield 29, [9, 1]), (.nop, [33])]), (33, [(.putfield 25, [9, 8, 0]), (.iconst 0, []), (.ireturn, [1])])]
def pm_Tokens_skip : List (Nat × List ma_I) := [(0, [(.aload_n 0, []), (.dup, []), (.getfield 38, [9, 6]), (.iconst 1, []), (.iadd, []), (.putfield 38, [9, 6, 0]), (.return_, [])])]
def pm_Tokens_amount : List (Nat × List ma_I) := [(0, [(.aload_n 0, []), (.getfield 38, [9, 6]), (.aload_n 0, []), (.getfield 35, [9, 5]), (.if_icmp .ge 15, [23]), (.aload_n 0, []), (.getfield 22, [9, 4]), (.aload_n 0, []), (.getfield 38, [9, 6]), (.iaload, []), (.goto 4, [24])]), (23, [(.iconst 0, []), (.nop, [24])]), (24, [(.ireturn, [0])])]
def pm_Tokens_take : List (Nat × List ma_I) := [(0, [(.aload_n 0, []), (.invokevirtual 82, [0, 130, 1, 9]), (.iload_n 1, []), (.if_icmp .eq 9, [14]), (.aload_n 0, []), (.iconst 1, []), (.invokevirtual 85, [0, 131, 2, 9]), (.ireturn, [1])]), (14, [(.aload_n 0, []), (.dup, []), (.getfield 38, [9, 6]), (.iconst 1, []), (.iadd, []), (.putfield 38, [9, 6, 0]), (.iconst 1, []), (.ireturn, [1])])]
def pm_Told_init : List (Nat × List ma_I) := [(0, [(.aload_n 0, []), (.invokespecial 3, [1]), (.aload_n 0, []), (.bipush 10, []), (.putfield 9, [10, 0, 0]), (.aload_n 0, []), (.bipush 8, []), (.newarray .int, []), (.putfield 15, [10, 4, 2]), (.aload_n 0, []), (.bipush 6, []), (.newarray .int, []), (.putfield 19, [10, 6, 2]), (.aload_n 0, []), (.bipush 6, []), (.newarray .int, []), (.putfield 22, [10, 7, 2]), (.aload_n 0, []), (.bipush 8, []), (.newarray .int, []), (.putfield 25, [10, 9, 2]), (.aload_n 0, []), (.bipush 8, []), (.newarray .int, []), (.putfield 28, [10, 10, 2]), (.aload_n 0, []), (.new 31, [3]), (.dup, []), (.invokespecial 33, [0, 57, 1, 3]), (.putfield 34, [10, 11, 2]), (.aload_n 0, []), (.new 38, [7]), (.dup, []), (.invokespecial 40, [0, 86, 1, 7]), (.putfield 41, [10, 12, 2]), (.aload_n 0, []), (.new 38, [7]), (.dup, []), (.invokespecial 40, [0, 86, 1, 7]), (.putfield 45, [10, 13, 2]), (.return_, [])])]
def pm_Told_begin : List (Nat × List ma_I) := [(0, [(.aload_n 0, []), (.iload_n 1, []), (.putfield 9, [10, 0, 0]), (.aload_n 0, []), (.iconst 3, []), (.putfield 48, [10, 1, 0]), (.aload_n 0, []), (.iconst 0, []), (.putfield 51, [10, 2, 0]), (.aload_n 0, []), (.iconst 0, []), (.putfield 54, [10, 3, 0]), (.aload_n 0, []), (.iconst 0, []), (.putfield 57, [10, 5, 0]), (.aload_n 0, []), (.iconst 0, []), (.putfield 60, [10, 8, 0]), (.aload_n 0, []), (.getfield 34, [10, 11]), (.invokevirtual 63, [0, 58, 1, 3]), (.aload_n 0, []), (.getfield 41, [10, 12]), (.iconst 0, []), (.putfield 66, [7, 0, 0]), (.aload_n 0, []), (.getfield 45, [10, 13]), (.iconst 0, []), (.putfield 66, [7, 0, 0]), (.return_, [])])]
def pm_Told_isColumn : List (Nat × List ma_I) := [(0, [(.iload_n 1, []), (.ifCond .lt 15, [16]), (.iload_n 1, []), (.aload_n 0, []), (.getfield 9, [10, 0]), (.if_icmp .ge 7, [16]), (.iconst 1, []), (.goto 4, [17])]), (16, [(.iconst 0, []), (.nop, [17])]), (17, [(.ireturn, [1])])]
def pm_Told_isShip : List (Nat × List ma_I) := [(0, [(.iload_n 1, []), (.ifCond .lt 15, [16]), (.iload_n 1, []), (.aload_n 0, []), (.getfield 54, [10, 3]), (.if_icmp .ge 7, [16]), (.iconst 1, []), (.goto 4, [17])]), (16, [(.iconst 0, []), (.nop, [17])]), (17, [(.ireturn, [1])])]
def pm_Told_isPier : List (Nat × List ma_I) := [(0, [(.iload_n 1, []), (.ifCond .lt 15, [16]), (.iload_n 1, []), (.aload_n 0, []), (.getfield 57, [10, 5]), (.if_icmp .ge 7, [16]), (.iconst 1, []), (.goto 4, [17])]), (16, [(.iconst 0, []), (.nop, [17])]), (17, [(.ireturn, [1])])]
def pm_Told_isWanted : List (Nat × List ma_I) := [(0, [(.iload_n 2, []), (.aload_n 0, []), (.getfield 45, [10, 13]), (.iload_n 1, []), (.iconst 2, []), (.invokevirtual 82, [0, 87, 3, 7]), (.aload_n 0, []), (.getfield 45, [10, 13]), (.iload_n 1, []), (.iconst 3, []), (.invokevirtual 82, [0, 87, 3, 7]), (.invokestatic 86, [0, 3, 3]), (.ireturn, [1])])]
def pm_Told_wantedColumn : List (Nat × List ma_I) := [(0, [(.aload_n 0, []), (.getfield 45, [10, 13]), (.iload_n 1, []), (.iconst 0, []), (.invokevirtual 82, [0, 87, 3, 7]), (.istore_n 2, []), (.aload_n 0, []), (.iload_n 2, []), (.invokevirtual 90, [0, 139, 2, 10]), (.ifCond .eq 12, [27]), (.aload_n 0, []), (.getfield 19, [10, 6]), (.iload_n 2, []), (.iaload, []), (.goto 4, [28])]), (27, [(.iconst 0, []), (.nop, [28])]), (28, [(.ireturn, [0])])]
def pm_Told_allColumns : List (Nat × List ma_I) := [(0, [(.iconst 1, []), (.aload_n 0, []), (.getfield 9, [10, 0]), (.ishl, []), (.iconst 1, []), (.isub, []), (.ireturn, [0])])]
def pm_Told_copy : List (Nat × List ma_I) := [(0, [(.aload_n 0, []), (.aload_n 1, []), (.getfield 9, [10, 0]), (.putfield 9, [10, 0, 0]), (.aload_n 0, []), (.aload_n 1, []), (.getfield 48, [10, 1]), (.putfield 48, [10, 1, 0]), (.aload_n 0, []), (.aload_n 1, []), (.getfield 51, [10, 2]), (.putfield 51, [10, 2, 0]), (.aload_n 0, []), (.aload_n 1, []), (.getfield 54, [10, 3]), (.putfield 54, [10, 3, 0]), (.aload_n 1, []), (.getfield 15, [10, 4]), (.iconst 0, []), (.aload_n 0, []), (.getfield 15, [10, 4]), (.iconst 0, []), (.bipush 8, []), (.invokestatic 69, [2]), (.aload_n 0, []), (.aload_n 1, []), (.getfield 57, [10, 5]), (.putfield 57, [10, 5, 0]), (.aload_n 1, []), (.getfield 19, [10, 6]), (.iconst 0, []), (.aload_n 0, []), (.getfield 19, [10, 6]), (.iconst 0, []), (.bipush 6, []), (.invokestatic 69, [2]), (.aload_n 1, []), (.getfield 22, [10, 7]), (.iconst 0, []), (.aload_n 0, []), (.getfield 22, [10, 7]), (.iconst 0, []), (.bipush 6, []), (.invokestatic 69, [2]), (.aload_n 0, []), (.aload_n 1, []), (.getfield 60, [10, 8]), (.putfield 60, [10, 8, 0]), (.aload_n 1, []), (.getfield 25, [10, 9]), (.iconst 0, []), (.aload_n 0, []), (.getfield 25, [10, 9]), (.iconst 0, []), (.bipush 8, []), (.invokestatic 69, [2]), (.aload_n 1, []), (.getfield 28, [10, 10]), (.iconst 0, []), (.aload_n 0, []), (.getfield 28, [10, 10]), (.iconst 0, []), (.bipush 8, []), (.invokestatic 69, [2]), (.aload_n 0, []), (.getfield 34, [10, 11]), (.aload_n 1, []), (.getfield 34, [10, 11]), (.invokevirtual 75, [0, 62, 2, 3]), (.aload_n 0, []), (.getfield 41, [10, 12]), (.aload_n 1, []), (.getfield 41, [10, 12]), (.invokevirtual 79, [0, 89, 2, 7]), (.aload_n 0, []), (.getfield 45, [10, 13]), (.aload_n 1, []), (.getfield 45, [10, 13]), (.invokevirtual 79, [0, 89, 2, 7]), (.return_, [])])]
def pm_Works_init : List (Nat × List ma_I) := [(0, [(.aload_n 0, []), (.invokespecial 3, [1]), (.aload_n 0, []), (.aload_n 1, []), (.putfield 9, [11, 0, 2]), (.aload_n 0, []), (.aload_n 2, []), (.putfield 15, [11, 1, 2]), (.aload_n 0, []), (.aload_n 3, []), (.putfield 19, [11, 2, 2]), (.return_, [])])]
def pm_Works_setColumn : List (Nat × List ma_I) := [(0, [(.aload_n 0, []), (.getfield 15, [11, 1]), (.aload_n 1, []), (.iload_n 2, []), (.iload_n 3, []), (.invokevirtual 39, [0, 43, 4, 1]), (.istore 4, []), (.aload_n 1, []), (.dup, []), (.getfield 45, [4, 4]), (.iload 4, []), (.isub, []), (.putfield 45, [4, 4, 0]), (.aload_n 1, []), (.getfield 50, [4, 0]), (.iload_n 2, []), (.iload_n 3, []), (.bipush 40, []), (.aload_n 1, []), (.getfield 54, [4, 1]), (.iload_n 2, []), (.iaload, []), (.iconst 4, []), (.idiv, []), (.isub, []), (.invokestatic 57, [0, 290, 2]), (.iastore, []), (.aload_n 0, []), (.aload_n 1, []), (.iconst 0, []), (.iload_n 2, []), (.aload_n 1, []), (.getfield 50, [4, 0]), (.iload_n 2, []), (.iaload, []), (.invokevirtual 63, [0, 146, 5, 11]), (.iload 4, []), (.ireturn, [0])])]
def pm_Works_note : List (Nat × List ma_I) := [(0, [(.aload_n 0, []), (.getfield 19, [11, 2]), (.ifnull 15, [19]), (.aload_n 0, []), (.getfield 19, [11, 2]), (.aload_n 1, []), (.iload_n 2, []), (.iload_n 3, []), (.iload 4, []), (.invokevirtual 33, [0, 54, 5, 2]), (.nop, [19])]), (19, [(.return_, [])])]
def pm_Works_moveAll : List (Nat × List ma_I) := [(0, [(.iconst 0, []), (.istore_n 3, []), (.iconst 0, []), (.istore 4, []), (.nop, [5])]), (5, [(.iload 4, []), (.aload_n 0, []), (.getfield 9, [11, 0]), (.getfield 66, [10, 0]), (.if_icmp .ge 34, [48]), (.iload_n 3, []), (.aload_n 0, []), (.aload_n 1, []), (.iload 4, []), (.aload_n 1, []), (.getfield 50, [4, 0]), (.iload 4, []), (.iaload, []), (.iload_n 2, []), (.iadd, []), (.iconst 0, []), (.bipush 40, []), (.invokestatic 71, [0, 10, 3]), (.invokevirtual 75, [0, 145, 4, 11]), (.iadd, []), (.istore_n 3, []), (.iinc 4 1, []), (.goto (-40), [5])]), (48, [(.iload_n 3, []), (.ireturn, [0])])]
def pm_Works_mendColumn : List (Nat × List ma_I) := [(0, [(.aload_n 1, []), (.getfield 54, [4, 1]), (.iload_n 2, []), (.iaload, []), (.istore_n 3, []), (.aload_n 1, []), (.getfield 54, [4, 1]), (.iload_n 2, []), (.iconst 0, []), (.iastore, []), (.aload_n 1, []), (.dup, []), (.getfield 45, [4, 4]), (.iload_n 3, []), (.isub, []), (.putfield 45, [4, 4, 0]), (.aload_n 0, []), (.aload_n 1, []), (.iconst 1, []), (.iload_n 2, []), (.iload_n 3, []), (.invokevirtual 63, [0, 146, 5, 11]), (.iload_n 3, []), (.ireturn, [0])])]
def pm_Works_beginCounts : List (Nat × List ma_I) := [(0, [(.aload_n 0, []), (.iconst 0, []), (.putfield 23, [11, 3, 0]), (.aload_n 0, []), (.iconst (-1), []), (.putfield 27, [11, 4, 0]), (.aload_n 0, []), (.iconst (-1), []), (.putfield 30, [11, 5, 0]), (.return_, [])])]
def pm_Works_passHour : List (Nat × List ma_I) := [(0, [(.iconst 0, []), (.istore_n 2, []), (.nop, [2])]), (2, [(.iload_n 2, []), (.aload_n 0, []), (.getfield 9, [11, 0]), (.getfield 78, [10, 12]), (.getfield 82, [7, 0]), (.if_icmp .ge 34, [47]), (.aload_n 0, []), (.getfield 9, [11, 0]), (.getfield 78, [10, 12]), (.iload_n 2, []), (.iconst 0, []), (.invokevirtual 87, [0, 87, 3, 7]), (.aload_n 1, []), (.getfield 90, [4, 6]), (.if_icmp .ne 9, [41]), (.aload_n 0, []), (.aload_n 1, []), (.iload_n 2, []), (.invokevirtual 93, [0, 151, 3, 11]), (.nop, [41])]), (41, [(.iinc 2 1, []), (.goto (-42), [2])]), (47, [(.aload_n 0, []), (.aload_n 1, []), (.invokevirtual 97, [0, 152, 2, 11]), (.aload_n 0, []), (.aload_n 1, []), (.invokevirtual 101, [0, 154, 2, 11]), (.aload_n 0, []), (.aload_n 1, []), (.invokevirtual 104, [0, 155, 2, 11]), (.aload_n 0, []), (.aload_n 1, []), (.invokevirtual 107, [0, 156, 2, 11]), (.aload_n 0, []), (.getfield 19, [11, 2]), (.ifnull 18, [89]), (.aload_n 0, []), (.getfield 9, [11, 0]), (.getfield 110, [10, 2]), (.ifCond .le 8, [89]), (.aload_n 0, []), (.aload_n 1, []), (.invokevirtual 113, [0, 158, 2, 11]), (.nop, [89])]), (89, [(.aload_n 1, []), (.dup, []), (.getfield 90, [4, 6]), (.iconst 1, []), (.iadd, []), (.putfield 90, [4, 6, 0]), (.return_, [])])]
def pm_Works_doTask : List (Nat × List ma_I) := [(0, [(.aload_n 0, []), (.getfield 9, [11, 0]), (.getfield 78, [10, 12]), (.iload_n 2, []), (.iconst 1, []), (.invokevirtual 87, [0, 87, 3, 7]), (.istore_n 3, []), (.aload_n 0, []), (.getfield 9, [11, 0]), (.getfield 78, [10, 12]), (.iload_n 2, []), (.iconst 2, []), (.invokevirtual 87, [0, 87, 3, 7]), (.istore 4, []), (.iload_n 3, []), (.iconst 1, []), (.if_icmp .ne 14, [43]), (.aload_n 0, []), (.aload_n 1, []), (.iload 4, []), (.invokevirtual 116, [0, 147, 3, 11]), (.pop, []), (.goto 80, [120])]), (43, [(.iload_n 3, []), (.iconst 2, []), (.if_icmp .ne 15, [60]), (.aload_n 0, []), (.aload_n 1, []), (.iload 4, []), (.ineg, []), (.invokevirtual 116, [0, 147, 3, 11]), (.pop, []), (.goto 63, [120])]), (60, [(.aload_n 0, []), (.getfield 9, [11, 0]), (.iload 4, []), (.invokevirtual 120, [0, 137, 2, 10]), (.ifCond .eq 19, [88]), (.iload_n 3, []), (.iconst 3, []), (.if_icmp .ne 14, [88]), (.aload_n 0, []), (.aload_n 1, []), (.iload 4, []), (.invokevirtual 124, [0, 148, 3, 11]), (.pop, []), (.goto 35, [120])]), (88, [(.aload_n 0, []), (.getfield 9, [11, 0]), (.iload 4, []), (.invokevirtual 120, [0, 137, 2, 10]), (.ifCond .eq 23, [120]), (.aload_n 0, []), (.aload_n 1, []), (.iload 4, []), (.aload_n 0, []), (.getfield 9, [11, 0]), (.getfield 78, [10, 12]), (.iload_n 2, []), (.iconst 3, []), (.invokevirtual 87, [0, 87, 3, 7]), (.invokevirtual 75, [0, 145, 4, 11]), (.pop, []), (.nop, [120])]), (120, [(.return_, [])])]
def pm_Works_slideShips : List (Nat × List ma_I) := [(0, [(.iconst 0, []), (.istore_n 2, []), (.nop, [2])]), (2, [(.iload_n 2, []), (.aload_n 0, []), (.getfield 9, [11, 0]), (.getfield 127, [10, 3]), (.if_icmp .ge 67, [77]), (.aload_n 1, []), (.getfield 130, [4, 2]), (.iload_n 2, []), (.iaload, []), (.istore_n 3, []), (.aload_n 0, []), (.aload_n 1, []), (.iload_n 3, []), (.invokevirtual 133, [0, 153, 3, 11]), (.istore 4, []), (.aload_n 1, []), (.getfield 50, [4, 0]), (.iload_n 3, []), (.iaload, []), (.aload_n 1, []), (.getfield 50, [4, 0]), (.iload 4, []), (.iaload, []), (.isub, []), (.aload_n 0, []), (.getfield 15, [11, 1]), (.aload_n 1, []), (.iload_n 3, []), (.invokevirtual 136, [0, 49, 3, 1]), (.if_icmp .le 20, [71]), (.aload_n 1, []), (.getfield 130, [4, 2]), (.iload_n 2, []), (.iload 4, []), (.iastore, []), (.aload_n 0, []), (.aload_n 1, []), (.iconst 2, []), (.iload_n 2, []), (.iload 4, []), (.invokevirtual 63, [0, 146, 5, 11]), (.nop, [71])]), (71, [(.iinc 2 1, []), (.goto (-72), [2])]), (77, [(.return_, [])])]
def pm_Works_lowerBeside : List (Nat × List ma_I) := [(0, [(.iload_n 2, []), (.iconst 1, []), (.if_icmp .ge 7, [9]), (.iload_n 2, []), (.iconst 1, []), (.iadd, []), (.ireturn, [0])]), (9, [(.iload_n 2, []), (.iconst 1, []), (.iadd, []), (.aload_n 0, []), (.getfield 9, [11, 0]), (.getfield 66, [10, 0]), (.if_icmp .lt 7, [26]), (.iload_n 2, []), (.iconst 1, []), (.isub, []), (.ireturn, [0])]), (26, [(.aload_n 1, []), (.getfield 50, [4, 0]), (.iload_n 2, []), (.iconst 1, []), (.iadd, []), (.iaload, []), (.aload_n 1, []), (.getfield 50, [4, 0]), (.iload_n 2, []), (.iconst 1, []), (.isub, []), (.iaload, []), (.if_icmp .ge 9, [51]), (.iload_n 2, []), (.iconst 1, []), (.iadd, []), (.goto 6, [54])]), (51, [(.iload_n 2, []), (.iconst 1, []), (.isub, []), (.nop, [54])]), (54, [(.ireturn, [0])])]
def pm_Works_scrapeShips : List (Nat × List ma_I) := [(0, [(.iconst 0, []), (.istore_n 2, []), (.nop, [2])]), (2, [(.iload_n 2, []), (.aload_n 0, []), (.getfield 9, [11, 0]), (.getfield 127, [10, 3]), (.if_icmp .ge 73, [83]), (.aload_n 0, []), (.getfield 9, [11, 0]), (.getfield 139, [10, 4]), (.iload_n 2, []), (.iaload, []), (.aload_n 1, []), (.getfield 50, [4, 0]), (.aload_n 1, []), (.getfield 130, [4, 2]), (.iload_n 2, []), (.iaload, []), (.iaload, []), (.isub, []), (.istore_n 3, []), (.iload_n 3, []), (.ifCond .le 41, [77]), (.aload_n 1, []), (.getfield 142, [4, 3]), (.iload_n 2, []), (.dup2, []), (.iaload, []), (.iconst 1, []), (.iadd, []), (.iastore, []), (.aload_n 0, []), (.aload_n 0, []), (.getfield 27, [11, 4]), (.iconst (-1), []), (.if_icmp .ne 7, [62]), (.iload_n 2, []), (.goto 7, [66])]), (62, [(.aload_n 0, []), (.getfield 27, [11, 4]), (.nop, [66])]), (66, [(.putfield 27, [11, 4, 0]), (.aload_n 0, []), (.aload_n 1, []), (.iconst 3, []), (.iload_n 2, []), (.iload_n 3, []), (.invokevirtual 63, [0, 146, 5, 11]), (.nop, [77])]), (77, [(.iinc 2 1, []), (.goto (-78), [2])]), (83, [(.return_, [])])]
def pm_Works_payWants : List (Nat × List ma_I) := [(0, [(.iconst 0, []), (.istore_n 2, []), (.nop, [2])]), (2, [(.iload_n 2, []), (.aload_n 0, []), (.getfield 9, [11, 0]), (.getfield 145, [10, 13]), (.getfield 82, [7, 0]), (.if_icmp .ge 96, [109]), (.aload_n 0, []), (.getfield 9, [11, 0]), (.iload_n 2, []), (.aload_n 1, []), (.getfield 90, [4, 6]), (.bipush 24, []), (.irem, []), (.invokevirtual 148, [0, 140, 3, 10]), (.ifCond .eq 72, [103]), (.aload_n 1, []), (.getfield 50, [4, 0]), (.aload_n 0, []), (.getfield 9, [11, 0]), (.iload_n 2, []), (.invokevirtual 152, [0, 141, 2, 10]), (.iaload, []), (.aload_n 0, []), (.getfield 9, [11, 0]), (.getfield 145, [10, 13]), (.iload_n 2, []), (.iconst 1, []), (.invokevirtual 87, [0, 87, 3, 7]), (.if_icmp .ne 44, [103]), (.aload_n 0, []), (.getfield 9, [11, 0]), (.getfield 145, [10, 13]), (.iload_n 2, []), (.iconst 4, []), (.invokevirtual 87, [0, 87, 3, 7]), (.istore_n 3, []), (.aload_n 1, []), (.dup, []), (.getfield 45, [4, 4]), (.iload_n 3, []), (.iadd, []), (.putfield 45, [4, 4, 0]), (.aload_n 0, []), (.dup, []), (.getfield 23, [11, 3]), (.iconst 1, []), (.iadd, []), (.putfield 23, [11, 3, 0]), (.aload_n 0, []), (.aload_n 1, []), (.iconst 4, []), (.iload_n 2, []), (.iload_n 3, []), (.invokevirtual 63, [0, 146, 5, 11]), (.nop, [103])]), (103, [(.iinc 2 1, []), (.goto (-104), [2])]), (109, [(.return_, [])])]
def pm_Works_wearColumns : List (Nat × List ma_I) := [(0, [(.iconst 0, []), (.istore_n 2, []), (.nop, [2])]), (2, [(.iload_n 2, []), (.aload_n 0, []), (.getfield 9, [11, 0]), (.getfield 66, [10, 0]), (.if_icmp .ge 62, [72]), (.aload_n 1, []), (.getfield 50, [4, 0]), (.iload_n 2, []), (.iaload, []), (.ifCond .le 47, [66]), (.aload_n 1, []), (.getfield 54, [4, 1]), (.iload_n 2, []), (.bipush 99, []), (.aload_n 1, []), (.getfield 54, [4, 1]), (.iload_n 2, []), (.iaload, []), (.aload_n 0, []), (.getfield 15, [11, 1]), (.aload_n 1, []), (.iload_n 2, []), (.invokevirtual 156, [0, 50, 3, 1]), (.iadd, []), (.invokestatic 57, [0, 290, 2]), (.iastore, []), (.aload_n 1, []), (.getfield 54, [4, 1]), (.iload_n 2, []), (.iaload, []), (.bipush 99, []), (.if_icmp .lt 9, [66]), (.aload_n 0, []), (.aload_n 1, []), (.iload_n 2, []), (.invokevirtual 159, [0, 157, 3, 11]), (.nop, [66])]), (66, [(.iinc 2 1, []), (.goto (-67), [2])]), (72, [(.return_, [])])]
def pm_Works_breakColumn : List (Nat × List ma_I) := [(0, [(.aload_n 1, []), (.getfield 50, [4, 0]), (.iload_n 2, []), (.iaload, []), (.istore_n 3, []), (.aload_n 1, []), (.getfield 50, [4, 0]), (.iload_n 2, []), (.iconst 0, []), (.iastore, []), (.aload_n 1, []), (.getfield 54, [4, 1]), (.iload_n 2, []), (.iconst 0, []), (.iastore, []), (.aload_n 1, []), (.dup, []), (.getfield 162, [4, 5]), (.iconst 1, []), (.iadd, []), (.putfield 162, [4, 5, 0]), (.aload_n 0, []), (.aload_n 0, []), (.getfield 30, [11, 5]), (.iconst (-1), []), (.if_icmp .ne 7, [44]), (.iload_n 2, []), (.goto 7, [48])]), (44, [(.aload_n 0, []), (.getfield 30, [11, 5]), (.nop, [48])]), (48, [(.putfield 30, [11, 5, 0]), (.aload_n 0, []), (.aload_n 1, []), (.iconst 5, []), (.iload_n 2, []), (.iload_n 3, []), (.invokevirtual 63, [0, 146, 5, 11]), (.return_, [])])]
def pm_Works_drawGust : List (Nat × List ma_I) := [(0, [(.aload_n 1, []), (.sipush 1000, []), (.invokevirtual 165, [0, 66, 2, 4]), (.aload_n 0, []), (.getfield 9, [11, 0]), (.getfield 110, [10, 2]), (.if_icmp .ge 47, [61]), (.aload_n 1, []), (.aload_n 0, []), (.getfield 9, [11, 0]), (.getfield 66, [10, 0]), (.invokevirtual 165, [0, 66, 2, 4]), (.istore_n 2, []), (.aload_n 1, []), (.getfield 50, [4, 0]), (.iload_n 2, []), (.iconst 0, []), (.aload_n 1, []), (.getfield 50, [4, 0]), (.iload_n 2, []), (.iaload, []), (.iconst 1, []), (.isub, []), (.invokestatic 168, [0, 291, 2]), (.iastore, []), (.aload_n 0, []), (.aload_n 1, []), (.bipush 6, []), (.iload_n 2, []), (.aload_n 1, []), (.getfield 50, [4, 0]), (.iload_n 2, []), (.iaload, []), (.invokevirtual 63, [0, 146, 5, 11]), (.nop, [61])]), (61, [(.return_, [])])]
def pm_MO_init : List (Nat × List ma_I) := [(0, [(.aload_n 0, []), (.invokespecial 1, [1]), (.aload_n 0, []), (.bipush 49, []), (.newarray .int, []), (.putfield 7, [12, 1, 2]), (.aload_n 0, []), (.sipush 294, []), (.newarray .int, []), (.putfield 13, [12, 2, 2]), (.aload_n 0, []), (.bipush 49, []), (.newarray .int, []), (.putfield 16, [12, 4, 2]), (.aload_n 0, []), (.bipush 8, []), (.newarray .int, []), (.putfield 19, [12, 11, 2]), (.aload_n 0, []), (.bipush 6, []), (.newarray .int, []), (.putfield 22, [12, 12, 2]), (.aload_n 0, []), (.bipush 6, []), (.newarray .int, []), (.putfield 25, [12, 13, 2]), (.aload_n 0, []), (.sipush 600, []), (.newarray .int, []), (.putfield 28, [12, 14, 2]), (.aload_n 0, []), (.sipush 400, []), (.newarray .int, []), (.putfield 31, [12, 15, 2]), (.aload_n 0, []), (.bipush 120, []), (.newarray .int, []), (.dup, []), (.iconst 0, []), (.bipush 32, []), (.iastore, []), (.dup, []), (.iconst 1, []), (.bipush 119, []), (.iastore, []), (.dup, []), (.iconst 2, []), (.bipush 101, []), (.iastore, []), (.dup, []), (.iconst 3, []), (.bipush 97, []), (.iastore, []), (.dup, []), (.iconst 4, []), (.bipush 114, []), (.iastore, []), (.dup, []), (.iconst 5, []), (.bipush 32, []), (.iastore, []), (.dup, []), (.bipush 6, []), (.bipush 115, []), (.iastore, []), (.dup, []), (.bipush 7, []), (.bipush 108, []), (.iastore, []), (.dup, []), (.bipush 8, []), (.bipush 105, []), (.iastore, []), (.dup, []), (.bipush 9, []), (.bipush 100, []), (.iastore, []), (.dup, []), (.bipush 10, []), (.bipush 101, []), (.iastore, []), (.dup, []), (.bipush 11, []), (.bipush 32, []), (.iastore, []), (.dup, []), (.bipush 12, []), (.bipush 99, []), (.iastore, []), (.dup, []), (.bipush 13, []), (.bipush 111, []), (.iastore, []), (.dup, []), (.bipush 14, []), (.bipush 115, []), (.iastore, []), (.dup, []), (.bipush 15, []), (.bipush 116, []), (.iastore, []), (.dup, []), (.bipush 16, []), (.bipush 32, []), (.iastore, []), (.dup, []), (.bipush 17, []), (.bipush 115, []), (.iastore, []), (.dup, []), (.bipush 18, []), (.bipush 117, []), (.iastore, []), (.dup, []), (.bipush 19, []), (.bipush 110, []), (.iastore, []), (.dup, []), (.bipush 20, []), (.bipush 32, []), (.iastore, []), (.dup, []), (.bipush 21, []), (.bipush 119, []), (.iastore, []), (.dup, []), (.bipush 22, []), (.bipush 104, []), (.iastore, []), (.dup, []), (.bipush 23, []), (.bipush 101, []), (.iastore, []), (.dup, []), (.bipush 24, []), (.bipush 110, []), (.iastore, []), (.dup, []), (.bipush 25, []), (.bipush 32, []), (.iastore, []), (.dup, []), (.bipush 26, []), (.bipush 111, []), (.iastore, []), (.dup, []), (.bipush 27, []), (.bipush 114, []), (.iastore, []), (.dup, []), (.bipush 28, []), (.bipush 32, []), (.iastore, []), (.dup, []), (.bipush 29, []), (.bipush 97, []), (.iastore, []), (.dup, []), (.bipush 30, []), (.bipush 110, []), (.iastore, []), (.dup, []), (.bipush 31, []), (.bipush 100, []), (.iastore, []), (.dup, []), (.bipush 32, []), (.bipush 32, []), (.iastore, []), (.dup, []), (.bipush 33, []), (.bipush 110, []), (.iastore, []), (.dup, []), (.bipush 34, []), (.bipush 111, []), (.iastore, []), (.dup, []), (.bipush 35, []), (.bipush 116, []), (.iastore, []), (.dup, []), (.bipush 36, []), (.bipush 32, []), (.iastore, []), (.dup, []), (.bipush 37, []), (.bipush 99, []), (.iastore, []), (.dup, []), (.bipush 38, []), (.bipush 111, []), (.iastore, []), (.dup, []), (.bipush 39, []), (.bipush 108, []), (.iastore, []), (.dup, []), (.bipush 40, []), (.bipush 117, []), (.iastore, []), (.dup, []), (.bipush 41, []), (.bipush 109, []), (.iastore, []), (.dup, []), (.bipush 42, []), (.bipush 110, []), (.iastore, []), (.dup, []), (.bipush 43, []), (.bipush 32, []), (.iastore, []), (.dup, []), (.bipush 44, []), (.bipush 104, []), (.iastore, []), (.dup, []), (.bipush 45, []), (.bipush 101, []), (.iastore, []), (.dup, []), (.bipush 46, []), (.bipush 105, []), (.iastore, []), (.dup, []), (.bipush 47, []), (.bipush 103, []), (.iastore, []), (.dup, []), (.bipush 48, []), (.bipush 104, []), (.iastore, []), (.dup, []), (.bipush 49, []), (.bipush 116, []), (.iastore, []), (.dup, []), (.bipush 50, []), (.bipush 32, []), (.iastore, []), (.dup, []), (.bipush 51, []), (.bipush 119, []), (.iastore, []), (.dup, []), (.bipush 52, []), (.bipush 111, []), (.iastore, []), (.dup, []), (.bipush 53, []), (.bipush 114, []), (.iastore, []), (.dup, []), (.bipush 54, []), (.bipush 110, []), (.iastore, []), (.dup, []), (.bipush 55, []), (.bipush 32, []), (.iastore, []), (.dup, []), (.bipush 56, []), (.bipush 104, []), (.iastore, []), (.dup, []), (.bipush 57, []), (.bipush 111, []), (.iastore, []), (.dup, []), (.bipush 58, []), (.bipush 117, []), (.iastore, []), (.dup, []), (.bipush 59, []), (.bipush 114, []), (.iastore, []), (.dup, []), (.bipush 60, []), (.bipush 32, []), (.iastore, []), (.dup, []), (.bipush 61, []), (.bipush 100, []), (.iastore, []), (.dup, []), (.bipush 62, []), (.bipush 97, []), (.iastore, []), (.dup, []), (.bipush 63, []), (.bipush 121, []), (.iastore, []), (.dup, []), (.bipush 64, []), (.bipush 32, []), (.iastore, []), (.dup, []), (.bipush 65, []), (.bipush 108, []), (.iastore, []), (.dup, []), (.bipush 66, []), (.bipush 101, []), (.iastore, []), (.dup, []), (.bipush 67, []), (.bipush 97, []), (.iastore, []), (.dup, []), (.bipush 68, []), (.bipush 110, []), (.iastore, []), (.dup, []), (.bipush 69, []), (.bipush 115, []), (.iastore, []), (.dup, []), (.bipush 70, []), (.bipush 32, []), (.iastore, []), (.dup, []), (.bipush 71, []), (.bipush 98, []), (.iastore, []), (.dup, []), (.bipush 72, []), (.bipush 121, []), (.iastore, []), (.dup, []), (.bipush 73, []), (.bipush 32, []), (.iastore, []), (.dup, []), (.bipush 74, []), (.bipush 97, []), (.iastore, []), (.dup, []), (.bipush 75, []), (.bipush 116, []), (.iastore, []), (.dup, []), (.bipush 76, []), (.bipush 32, []), (.iastore, []), (.dup, []), (.bipush 77, []), (.bipush 115, []), (.iastore, []), (.dup, []), (.bipush 78, []), (.bipush 101, []), (.iastore, []), (.dup, []), (.bipush 79, []), (.bipush 116, []), (.iastore, []), (.dup, []), (.bipush 80, []), (.bipush 32, []), (.iastore, []), (.dup, []), (.bipush 81, []), (.bipush 116, []), (.iastore, []), (.dup, []), (.bipush 82, []), (.bipush 111, []), (.iastore, []), (.dup, []), (.bipush 83, []), (.bipush 32, []), (.iastore, []), (.dup, []), (.bipush 84, []), (.bipush 108, []), (.iastore, []), (.dup, []), (.bipush 85, []), (.bipush 105, []), (.iastore, []), (.dup, []), (.bipush 86, []), (.bipush 102, []), (.iastore, []), (.dup, []), (.bipush 87, []), (.bipush 116, []), (.iastore, []), (.dup, []), (.bipush 88, []), (.bipush 32, []), (.iastore, []), (.dup, []), (.bipush 89, []), (.bipush 100, []), (.iastore, []), (.dup, []), (.bipush 90, []), (.bipush 114, []), (.iastore, []), (.dup, []), (.bipush 91, []), (.bipush 111, []), (.iastore, []), (.dup, []), (.bipush 92, []), (.bipush 112, []), (.iastore, []), (.dup, []), (.bipush 93, []), (.bipush 32, []), (.iastore, []), (.dup, []), (.bipush 94, []), (.bipush 109, []), (.iastore, []), (.dup, []), (.bipush 95, []), (.bipush 101, []), (.iastore, []), (.dup, []), (.bipush 96, []), (.bipush 110, []), (.iastore, []), (.dup, []), (.bipush 97, []), (.bipush 100, []), (.iastore, []), (.dup, []), (.bipush 98, []), (.bipush 32, []), (.iastore, []), (.dup, []), (.bipush 99, []), (.bipush 112, []), (.iastore, []), (.dup, []), (.bipush 100, []), (.bipush 105, []), (.iastore, []), (.dup, []), (.bipush 101, []), (.bipush 101, []), (.iastore, []), (.dup, []), (.bipush 102, []), (.bipush 114, []), (.iastore, []), (.dup, []), (.bipush 103, []), (.bipush 32, []), (.iastore, []), (.dup, []), (.bipush 104, []), (.bipush 119, []), (.iastore, []), (.dup, []), (.bipush 105, []), (.bipush 97, []), (.iastore, []), (.dup, []), (.bipush 106, []), (.bipush 110, []), (.iastore, []), (.dup, []), (.bipush 107, []), (.bipush 116, []), (.iastore, []), (.dup, []), (.bipush 108, []), (.bipush 115, []), (.iastore, []), (.dup, []), (.bipush 109, []), (.bipush 32, []), (.iastore, []), (.dup, []), (.bipush 110, []), (.bipush 102, []), (.iastore, []), (.dup, []), (.bipush 111, []), (.bipush 114, []), (.iastore, []), (.dup, []), (.bipush 112, []), (.bipush 111, []), (.iastore, []), (.dup, []), (.bipush 113, []), (.bipush 109, []), (.iastore, []), (.dup, []), (.bipush 114, []), (.bipush 32, []), (.iastore, []), (.dup, []), (.bipush 115, []), (.bipush 112, []), (.iastore, []), (.dup, []), (.bipush 116, []), (.bipush 97, []), (.iastore, []), (.dup, []), (.bipush 117, []), (.bipush 121, []), (.iastore, []), (.dup, []), (.bipush 118, []), (.bipush 115, []), (.iastore, []), (.dup, []), (.bipush 119, []), (.bipush 32, []), (.iastore, []), (.putfield 34, [12, 21, 2]), (.aload_n 0, []), (.iconst 2, []), (.newarray .int, []), (.putfield 37, [12, 22, 2]), (.aload_n 0, []), (.bipush 48, []), (.newarray .int, []), (.putfield 40, [12, 23, 2]), (.aload_n 0, []), (.bipush 48, []), (.newarray .int, []), (.putfield 43, [12, 24, 2]), (.aload_n 0, []), (.bipush 48, []), (.newarray .int, []), (.putfield 46, [12, 25, 2]), (.aload_n 0, []), (.bipush 48, []), (.newarray .int, []), (.putfield 49, [12, 26, 2]), (.aload_n 0, []), (.sipush 1200, []), (.newarray .int, []), (.putfield 52, [12, 27, 2]), (.aload_n 0, []), (.sipush 1200, []), (.newarray .int, []), (.putfield 55, [12, 28, 2]), (.aload_n 0, []), (.bipush 40, []), (.newarray .int, []), (.putfield 58, [12, 32, 2]), (.aload_n 0, []), (.iconst (-1), []), (.putfield 61, [12, 37, 0]), (.aload_n 0, []), (.sipush 128, []), (.newarray .int, []), (.putfield 65, [12, 39, 2]), (.aload_n 0, []), (.bipush 120, []), (.newarray .int, []), (.putfield 68, [12, 41, 2]), (.aload_n 0, []), (.bipush 7, []), (.newarray .int, []), (.putfield 71, [12, 42, 2]), (.aload_n 0, []), (.sipush 420, []), (.newarray .int, []), (.putfield 74, [12, 43, 2]), (.aload_n 0, []), (.sipush 574, []), (.newarray .int, []), (.putfield 77, [12, 46, 2]), (.aload_n 0, []), (.bipush 16, []), (.newarray .int, []), (.putfield 80, [12, 48, 2]), (.aload_n 0, []), (.bipush 41, []), (.newarray .int, []), (.putfield 83, [12, 49, 2]), (.aload_n 0, []), (.bipush 25, []), (.newarray .int, []), (.putfield 86, [12, 51, 2]), (.aload_n 0, []), (.bipush 14, []), (.newarray .int, []), (.putfield 89, [12, 52, 2]), (.aload_n 0, []), (.sipush 16384, []), (.newarray .int, []), (.putfield 92, [12, 53, 2]), (.aload_n 0, []), (.sipush 1700, []), (.newarray .int, []), (.putfield 95, [12, 57, 2]), (.return_, [])])]
def pm_MO_undo : List (Nat × List ma_I) := [(0, [(.aload_n 0, []), (.iconst 0, []), (.putfield 98, [12, 0, 0]), (.aload_n 0, []), (.getfield 101, [12, 3]), (.ifCond .ne 5, [14]), (.iconst 0, []), (.ireturn, [1])]), (14, [(.aload_n 0, []), (.aload_n 0, []), (.getfield 101, [12, 3]), (.iconst 1, []), (.isub, []), (.putfield 101, [12, 3, 0]), (.iconst 0, []), (.istore_n 1, []), (.nop, [26])]), (26, [(.iload_n 1, []), (.bipush 49, []), (.if_icmp .ge 29, [58]), (.aload_n 0, []), (.getfield 7, [12, 1]), (.iload_n 1, []), (.aload_n 0, []), (.getfield 13, [12, 2]), (.bipush 49, []), (.aload_n 0, []), (.getfield 101, [12, 3]), (.imul, []), (.iload_n 1, []), (.iadd, []), (.iaload, []), (.iastore, []), (.iinc 1 1, []), (.goto (-29), [26])]), (58, [(.iconst 1, []), (.ireturn, [1])])]
def pm_MO_state : List (Nat × List ma_I) := [(0, [(.aload_n 0, []), (.iconst 0, []), (.putfield 98, [12, 0, 0]), (.aload_n 0, []), (.getfield 7, [12, 1]), (.iconst 1, []), (.iaload, []), (.istore_n 2, []), (.aload_n 0, []), (.getfield 7, [12, 1]), (.iconst 1, []), (.iload_n 1, []), (.iastore, []), (.aload_n 0, []), (.iconst 0, []), (.putfield 101, [12, 3, 0]), (.iload_n 2, []), (.ireturn, [0])])]
def pm_MO_sea : List (Nat × List ma_I) := [(0, [(.aload_n 0, []), (.iconst 0, []), (.putfield 98, [12, 0, 0]), (.aload_n 0, []), (.iload_n 1, []), (.iconst 3, []), (.bipush 14, []), (.invokevirtual 132, [0, 163, 4, 12]), (.ifCond .ne 5, [18]), (.iconst 0, []), (.ireturn, [1])]), (18, [(.aload_n 0, []), (.iload_n 1, []), (.bipush 10, []), (.isub, []), (.putfield 116, [12, 6, 0]), (.aload_n 0, []), (.iconst 0, []), (.putfield 119, [12, 7, 0]), (.aload_n 0, []), (.iconst 0, []), (.putfield 136, [12, 8, 0]), (.aload_n 0, []), (.iconst 0, []), (.putfield 126, [12, 9, 0]), (.aload_n 0, []), (.iconst 0, []), (.putfield 129, [12, 10, 0]), (.aload_n 0, []), (.getfield 37, [12, 22]), (.iconst 0, []), (.iconst 0, []), (.iastore, []), (.aload_n 0, []), (.iconst 0, []), (.putfield 139, [12, 38, 0]), (.aload_n 0, []), (.iconst 0, []), (.putfield 142, [12, 40, 0]), (.aload_n 0, []), (.iconst 0, []), (.putfield 145, [12, 47, 0]), (.iconst 0, []), (.istore_n 2, []), (.nop, [70])]), (70, [(.iload_n 2, []), (.bipush 49, []), (.if_icmp .ge 21, [94]), (.iload_n 2, []), (.iconst 1, []), (.if_icmp .eq 10, [88]), (.aload_n 0, []), (.getfield 7, [12, 1]), (.iload_n 2, []), (.iconst 0, []), (.iastore, []), (.nop, [88])]), (88, [(.iinc 2 1, []), (.goto (-21), [70])]), (94, [(.aload_n 0, []), (.iconst 0, []), (.putfield 101, [12, 3, 0]), (.iconst 1, []), (.ireturn, [1])])]
def pm_MO_isIn : List (Nat × List ma_I) := [(0, [(.iload_n 1, []), (.iload_n 2, []), (.if_icmp .lt 12, [14]), (.iload_n 1, []), (.iload_n 3, []), (.if_icmp .gt 7, [14]), (.iconst 1, []), (.goto 4, [15])]), (14, [(.iconst 0, []), (.nop, [15])]), (15, [(.ireturn, [1])])]
def pm_MO_ship : List (Nat × List ma_I) := [(0, [(.aload_n 0, []), (.iconst 0, []), (.putfield 98, [12, 0, 0]), (.aload_n 0, []), (.iload_n 1, []), (.invokevirtual 148, [0, 165, 2, 12]), (.ifCond .eq 23, [33]), (.aload_n 0, []), (.iload_n 2, []), (.iconst 0, []), (.bipush 40, []), (.invokevirtual 132, [0, 163, 4, 12]), (.ifCond .eq 12, [33]), (.aload_n 0, []), (.getfield 126, [12, 9]), (.bipush 8, []), (.if_icmp .ne 5, [35]), (.nop, [33])]), (33, [(.iconst (-1), []), (.ireturn, [0])]), (35, [(.aload_n 0, []), (.getfield 7, [12, 1]), (.bipush 33, []), (.aload_n 0, []), (.getfield 126, [12, 9]), (.iadd, []), (.iload_n 1, []), (.iastore, []), (.aload_n 0, []), (.getfield 7, [12, 1]), (.bipush 41, []), (.aload_n 0, []), (.getfield 126, [12, 9]), (.iadd, []), (.iconst 0, []), (.iastore, []), (.aload_n 0, []), (.getfield 19, [12, 11]), (.aload_n 0, []), (.getfield 126, [12, 9]), (.iload_n 2, []), (.iastore, []), (.aload_n 0, []), (.aload_n 0, []), (.getfield 126, [12, 9]), (.iconst 1, []), (.iadd, []), (.putfield 126, [12, 9, 0]), (.aload_n 0, []), (.iconst 0, []), (.putfield 101, [12, 3, 0]), (.aload_n 0, []), (.getfield 126, [12, 9]), (.iconst 1, []), (.isub, []), (.ireturn, [0])])]
def pm_MO_isColumn : List (Nat × List ma_I) := [(0, [(.iload_n 1, []), (.ifCond .lt 15, [16]), (.iload_n 1, []), (.aload_n 0, []), (.invokevirtual 122, [0, 166, 1, 12]), (.if_icmp .ge 7, [16]), (.iconst 1, []), (.goto 4, [17])]), (16, [(.iconst 0, []), (.nop, [17])]), (17, [(.ireturn, [1])])]
def pm_MO_wide : List (Nat × List ma_I) := [(0, [(.aload_n 0, []), (.getfield 116, [12, 6]), (.bipush 10, []), (.iadd, []), (.ireturn, [0])])]
def pm_MO_pier : List (Nat × List ma_I) := [(0, [(.aload_n 0, []), (.iconst 0, []), (.putfield 98, [12, 0, 0]), (.aload_n 0, []), (.iload_n 1, []), (.invokevirtual 148, [0, 165, 2, 12]), (.ifCond .eq 23, [33]), (.aload_n 0, []), (.iload_n 2, []), (.iconst 0, []), (.bipush 20, []), (.invokevirtual 132, [0, 163, 4, 12]), (.ifCond .eq 12, [33]), (.aload_n 0, []), (.getfield 129, [12, 10]), (.bipush 6, []), (.if_icmp .ne 5, [35]), (.nop, [33])]), (33, [(.iconst (-1), []), (.ireturn, [0])]), (35, [(.aload_n 0, []), (.getfield 22, [12, 12]), (.aload_n 0, []), (.getfield 129, [12, 10]), (.iload_n 1, []), (.iastore, []), (.aload_n 0, []), (.getfield 25, [12, 13]), (.aload_n 0, []), (.getfield 129, [12, 10]), (.iload_n 2, []), (.iastore, []), (.aload_n 0, []), (.aload_n 0, []), (.getfield 129, [12, 10]), (.iconst 1, []), (.iadd, []), (.putfield 129, [12, 10, 0]), (.aload_n 0, []), (.iconst 0, []), (.putfield 101, [12, 3, 0]), (.aload_n 0, []), (.getfield 129, [12, 10]), (.iconst 1, []), (.isub, []), (.ireturn, [0])])]
def pm_MO_set : List (Nat × List ma_I) := [(0, [(.aload_n 0, []), (.iconst 0, []), (.putfield 98, [12, 0, 0]), (.aload_n 0, []), (.iload_n 1, []), (.iload_n 2, []), (.iload_n 3, []), (.invokevirtual 158, [0, 169, 4, 12]), (.ifCond .ne 5, [17]), (.iconst 0, []), (.ireturn, [1])]), (17, [(.iload_n 1, []), (.ifCond .ne 10, [28]), (.aload_n 0, []), (.iload_n 3, []), (.iconst 3, []), (.isub, []), (.putfield 119, [12, 7, 0]), (.nop, [28])]), (28, [(.iload_n 1, []), (.iconst 1, []), (.if_icmp .ne 8, [38]), (.aload_n 0, []), (.iload_n 3, []), (.putfield 136, [12, 8, 0]), (.nop, [38])]), (38, [(.iload_n 1, []), (.iconst 2, []), (.if_icmp .ne 13, [53]), (.aload_n 0, []), (.getfield 7, [12, 1]), (.bipush 19, []), (.iload_n 2, []), (.iadd, []), (.iload_n 3, []), (.iastore, []), (.nop, [53])]), (53, [(.iload_n 1, []), (.iconst 3, []), (.if_icmp .ne 13, [68]), (.aload_n 0, []), (.getfield 7, [12, 1]), (.bipush 33, []), (.iload_n 2, []), (.iadd, []), (.iload_n 3, []), (.iastore, []), (.nop, [68])]), (68, [(.iload_n 1, []), (.iconst 4, []), (.if_icmp .ne 10, [80]), (.aload_n 0, []), (.getfield 22, [12, 12]), (.iload_n 2, []), (.iload_n 3, []), (.iastore, []), (.nop, [80])]), (80, [(.aload_n 0, []), (.iconst 0, []), (.putfield 101, [12, 3, 0]), (.iconst 1, []), (.ireturn, [1])])]
def pm_MO_canSet : List (Nat × List ma_I) := [(0, [(.iload_n 1, []), (.ifCond .ne 12, [13]), (.aload_n 0, []), (.iload_n 3, []), (.iconst 1, []), (.bipush 9, []), (.invokevirtual 132, [0, 163, 4, 12]), (.ireturn, [1])]), (13, [(.iload_n 1, []), (.iconst 1, []), (.if_icmp .ne 13, [28]), (.aload_n 0, []), (.iload_n 3, []), (.iconst 0, []), (.sipush 1000, []), (.invokevirtual 132, [0, 163, 4, 12]), (.ireturn, [1])]), (28, [(.iload_n 1, []), (.iconst 2, []), (.if_icmp .ne 28, [58]), (.aload_n 0, []), (.iload_n 2, []), (.invokevirtual 148, [0, 165, 2, 12]), (.ifCond .eq 18, [56]), (.aload_n 0, []), (.iload_n 3, []), (.iconst 0, []), (.bipush 99, []), (.invokevirtual 132, [0, 163, 4, 12]), (.ifCond .eq 7, [56]), (.iconst 1, []), (.goto 4, [57])]), (56, [(.iconst 0, []), (.nop, [57])]), (57, [(.ireturn, [1])]), (58, [(.iload_n 1, []), (.iconst 3, []), (.if_icmp .ne 25, [85]), (.aload_n 0, []), (.iload_n 2, []), (.invokevirtual 152, [0, 170, 2, 12]), (.ifCond .eq 15, [83]), (.aload_n 0, []), (.iload_n 3, []), (.invokevirtual 148, [0, 165, 2, 12]), (.ifCond .eq 7, [83]), (.iconst 1, []), (.goto 4, [84])]), (83, [(.iconst 0, []), (.nop, [84])]), (84, [(.ireturn, [1])]), (85, [(.iload_n 1, []), (.iconst 4, []), (.if_icmp .ne 23, [110]), (.aload_n 0, []), (.iload_n 2, []), (.invokevirtual 155, [0, 171, 2, 12]), (.ifCond .eq 15, [110]), (.aload_n 0, []), (.iload_n 3, []), (.invokevirtual 148, [0, 165, 2, 12]), (.ifCond .eq 7, [110]), (.iconst 1, []), (.goto 4, [111])]), (110, [(.iconst 0, []), (.nop, [111])]), (111, [(.ireturn, [1])])]
def pm_MO_isShip : List (Nat × List ma_I) := [(0, [(.iload_n 1, []), (.ifCond .lt 15, [16]), (.iload_n 1, []), (.aload_n 0, []), (.getfield 126, [12, 9]), (.if_icmp .ge 7, [16]), (.iconst 1, []), (.goto 4, [17])]), (16, [(.iconst 0, []), (.nop, [17])]), (17, [(.ireturn, [1])])]
def pm_MO_isPier : List (Nat × List ma_I) := [(0, [(.iload_n 1, []), (.ifCond .lt 15, [16]), (.iload_n 1, []), (.aload_n 0, []), (.getfield 129, [12, 10]), (.if_icmp .ge 7, [16]), (.iconst 1, []), (.goto 4, [17])]), (16, [(.iconst 0, []), (.nop, [17])]), (17, [(.ireturn, [1])])]
def pm_MO_feed : List (Nat × List ma_I) := [(0, [(.aload_n 0, []), (.iconst 0, []), (.putfield 98, [12, 0, 0]), (.aload_n 0, []), (.getfield 161, [12, 16]), (.sipush 380, []), (.if_icmp .le 5, [17]), (.iconst (-1), []), (.ireturn, [0])]), (17, [(.aload_n 0, []), (.iload_n 1, []), (.invokevirtual 164, [0, 173, 2, 12]), (.aload_n 0, []), (.iload_n 2, []), (.invokevirtual 164, [0, 173, 2, 12]), (.aload_n 0, []), (.iload_n 3, []), (.invokevirtual 164, [0, 173, 2, 12]), (.aload_n 0, []), (.iload 4, []), (.invokevirtual 164, [0, 173, 2, 12]), (.aload_n 0, []), (.iload 5, []), (.invokevirtual 164, [0, 173, 2, 12]), (.aload_n 0, []), (.getfield 161, [12, 16]), (.ireturn, [0])])]
def pm_MO_types : List (Nat × List ma_I) := [(0, [(.bipush 24, []), (.istore_n 2, []), (.nop, [3])]), (3, [(.iload_n 2, []), (.ifCond .lt 35, [39]), (.aload_n 0, []), (.getfield 31, [12, 15]), (.aload_n 0, []), (.getfield 161, [12, 16]), (.iload_n 1, []), (.iload_n 2, []), (.ishr, []), (.sipush 255, []), (.iand, []), (.iastore, []), (.aload_n 0, []), (.aload_n 0, []), (.getfield 161, [12, 16]), (.iconst 1, []), (.iadd, []), (.putfield 161, [12, 16, 0]), (.iinc 2 (-8), []), (.goto (-33), [3])]), (39, [(.return_, [])])]
def pm_MO_end : List (Nat × List ma_I) := [(0, [(.aload_n 0, []), (.iconst 0, []), (.putfield 98, [12, 0, 0]), (.aload_n 0, []), (.iload_n 1, []), (.iconst 0, []), (.aload_n 0, []), (.getfield 161, [12, 16]), (.invokevirtual 132, [0, 163, 4, 12]), (.ifCond .ne 5, [20]), (.iconst 0, []), (.ireturn, [1])]), (20, [(.aload_n 0, []), (.iload_n 1, []), (.putfield 161, [12, 16, 0]), (.iconst 1, []), (.ireturn, [1])])]
def pm_MO_text : List (Nat × List ma_I) := [(0, [(.aload_n 0, []), (.iconst 0, []), (.putfield 98, [12, 0, 0]), (.aload_n 0, []), (.iconst 0, []), (.putfield 284, [12, 36, 0]), (.aload_n 0, []), (.iconst (-1), []), (.putfield 61, [12, 37, 0]), (.aload_n 0, []), (.iconst 0, []), (.putfield 168, [12, 17, 0]), (.aload_n 0, []), (.iconst 0, []), (.putfield 203, [12, 30, 0]), (.aload_n 0, []), (.iconst 0, []), (.putfield 234, [12, 31, 0]), (.iconst (-1), []), (.istore_n 2, []), (.aload_n 0, []), (.iload_n 1, []), (.iconst 0, []), (.iconst 2, []), (.invokevirtual 132, [0, 163, 4, 12]), (.ifCond .eq 30, [69]), (.aload_n 0, []), (.iload_n 1, []), (.invokevirtual 287, [0, 176, 2, 12]), (.istore_n 2, []), (.iload_n 2, []), (.iconst (-1), []), (.if_icmp .ne 19, [69]), (.aload_n 0, []), (.aload_n 0, []), (.getfield 197, [12, 34]), (.putfield 284, [12, 36, 0]), (.aload_n 0, []), (.aload_n 0, []), (.getfield 200, [12, 35]), (.putfield 61, [12, 37, 0]), (.nop, [69])]), (69, [(.aload_n 0, []), (.iconst 0, []), (.putfield 161, [12, 16, 0]), (.iload_n 2, []), (.iconst (-1), []), (.if_icmp .ne 5, [81]), (.iconst (-1), []), (.ireturn, [0])]), (81, [(.iload_n 1, []), (.ifCond .ne 11, [93]), (.aload_n 0, []), (.iload_n 2, []), (.invokevirtual 290, [0, 204, 2, 12]), (.goto 9, [99])]), (93, [(.aload_n 0, []), (.iload_n 1, []), (.iload_n 2, []), (.invokevirtual 293, [0, 205, 3, 12]), (.nop, [99])]), (99, [(.iload_n 2, []), (.ireturn, [0])])]
def pm_MO_readsText : List (Nat × List ma_I) := [(0, [(.aload_n 0, []), (.iconst 0, []), (.putfield 256, [12, 29, 0]), (.aload_n 0, []), (.invokevirtual 216, [0, 177, 1, 12]), (.iload_n 1, []), (.iconst 1, []), (.if_icmp .ne 8, [19]), (.aload_n 0, []), (.invokevirtual 275, [0, 183, 1, 12]), (.ireturn, [0])]), (19, [(.iload_n 1, []), (.iconst 2, []), (.if_icmp .ne 10, [31]), (.aload_n 0, []), (.invokevirtual 278, [0, 191, 1, 12]), (.goto 7, [35])]), (31, [(.aload_n 0, []), (.invokevirtual 281, [0, 193, 1, 12]), (.nop, [35])]), (35, [(.ireturn, [0])])]
def pm_MO_reads : List (Nat × List ma_I) := [(0, [(.aload_n 0, []), (.aload_n 0, []), (.getfield 168, [12, 17]), (.invokevirtual 171, [0, 178, 2, 12]), (.bipush 32, []), (.if_icmp .eq 16, [26]), (.aload_n 0, []), (.aload_n 0, []), (.getfield 168, [12, 17]), (.invokevirtual 171, [0, 178, 2, 12]), (.bipush 10, []), (.if_icmp .ne 16, [39]), (.nop, [26])]), (26, [(.aload_n 0, []), (.aload_n 0, []), (.getfield 168, [12, 17]), (.iconst 1, []), (.iadd, []), (.putfield 168, [12, 17, 0]), (.goto (-36), [0])]), (39, [(.aload_n 0, []), (.aload_n 0, []), (.getfield 168, [12, 17]), (.putfield 175, [12, 18, 0]), (.aload_n 0, []), (.iconst 1, []), (.putfield 178, [12, 19, 0]), (.aload_n 0, []), (.aload_n 0, []), (.getfield 168, [12, 17]), (.invokevirtual 171, [0, 178, 2, 12]), (.istore_n 1, []), (.iload_n 1, []), (.iconst (-1), []), (.if_icmp .ne 9, [72]), (.aload_n 0, []), (.iconst 0, []), (.putfield 178, [12, 19, 0]), (.return_, [])]), (72, [(.aload_n 0, []), (.aload_n 0, []), (.getfield 168, [12, 17]), (.iconst 1, []), (.iadd, []), (.putfield 168, [12, 17, 0]), (.aload_n 0, []), (.iload_n 1, []), (.putfield 181, [12, 20, 0]), (.aload_n 0, []), (.iload_n 1, []), (.invokevirtual 184, [0, 179, 2, 12]), (.ifCond .eq 63, [155]), (.nop, [95])]), (95, [(.aload_n 0, []), (.aload_n 0, []), (.aload_n 0, []), (.getfield 168, [12, 17]), (.invokevirtual 171, [0, 178, 2, 12]), (.invokevirtual 184, [0, 179, 2, 12]), (.ifCond .eq 16, [123]), (.aload_n 0, []), (.aload_n 0, []), (.getfield 168, [12, 17]), (.iconst 1, []), (.iadd, []), (.putfield 168, [12, 17, 0]), (.goto (-25), [95])]), (123, [(.aload_n 0, []), (.aload_n 0, []), (.aload_n 0, []), (.getfield 175, [12, 18]), (.aload_n 0, []), (.getfield 168, [12, 17]), (.invokevirtual 187, [0, 180, 3, 12]), (.putfield 181, [12, 20, 0]), (.aload_n 0, []), (.getfield 181, [12, 20]), (.iconst (-1), []), (.if_icmp .eq 129, [273]), (.aload_n 0, []), (.iconst 2, []), (.putfield 178, [12, 19, 0]), (.goto 121, [273])]), (155, [(.aload_n 0, []), (.iload_n 1, []), (.invokevirtual 191, [0, 181, 2, 12]), (.ifCond .eq 100, [260]), (.aload_n 0, []), (.iload_n 1, []), (.bipush 48, []), (.isub, []), (.putfield 181, [12, 20, 0]), (.nop, [171])]), (171, [(.aload_n 0, []), (.aload_n 0, []), (.aload_n 0, []), (.getfield 168, [12, 17]), (.invokevirtual 171, [0, 178, 2, 12]), (.invokevirtual 191, [0, 181, 2, 12]), (.ifCond .eq 56, [239]), (.aload_n 0, []), (.aload_n 0, []), (.getfield 181, [12, 20]), (.sipush 10000, []), (.if_icmp .ge 25, [219]), (.bipush 10, []), (.aload_n 0, []), (.getfield 181, [12, 20]), (.imul, []), (.aload_n 0, []), (.aload_n 0, []), (.getfield 168, [12, 17]), (.invokevirtual 171, [0, 178, 2, 12]), (.iadd, []), (.bipush 48, []), (.isub, []), (.goto 7, [223])]), (219, [(.aload_n 0, []), (.getfield 181, [12, 20]), (.nop, [223])]), (223, [(.putfield 181, [12, 20, 0]), (.aload_n 0, []), (.aload_n 0, []), (.getfield 168, [12, 17]), (.iconst 1, []), (.iadd, []), (.putfield 168, [12, 17, 0]), (.goto (-65), [171])]), (239, [(.aload_n 0, []), (.getfield 168, [12, 17]), (.aload_n 0, []), (.getfield 175, [12, 18]), (.isub, []), (.iconst 5, []), (.if_icmp .ge 24, [273]), (.aload_n 0, []), (.iconst 3, []), (.putfield 178, [12, 19, 0]), (.goto 16, [273])]), (260, [(.aload_n 0, []), (.iload_n 1, []), (.invokevirtual 194, [0, 182, 2, 12]), (.ifCond .eq 8, [273]), (.aload_n 0, []), (.iconst 4, []), (.putfield 178, [12, 19, 0]), (.nop, [273])]), (273, [(.return_, [])])]
def pm_MO_raw : List (Nat × List ma_I) := [(0, [(.iload_n 1, []), (.aload_n 0, []), (.getfield 161, [12, 16]), (.if_icmp .ge 12, [17]), (.aload_n 0, []), (.getfield 31, [12, 15]), (.iload_n 1, []), (.iaload, []), (.goto 4, [18])]), (17, [(.iconst (-1), []), (.nop, [18])]), (18, [(.ireturn, [0])])]
def pm_MO_isLetter : List (Nat × List ma_I) := [(0, [(.aload_n 0, []), (.iload_n 1, []), (.bipush 97, []), (.bipush 122, []), (.invokevirtual 132, [0, 163, 4, 12]), (.ifCond .ne 15, [24]), (.aload_n 0, []), (.iload_n 1, []), (.bipush 65, []), (.bipush 90, []), (.invokevirtual 132, [0, 163, 4, 12]), (.ifCond .eq 7, [28]), (.nop, [24])]), (24, [(.iconst 1, []), (.goto 4, [29])]), (28, [(.iconst 0, []), (.nop, [29])]), (29, [(.ireturn, [1])])]
def pm_MO_wordAt : List (Nat × List ma_I) := [(0, [(.iconst (-1), []), (.istore_n 3, []), (.iconst 0, []), (.istore 4, []), (.nop, [5])]), (5, [(.iload 4, []), (.bipush 119, []), (.if_icmp .ge 108, [117]), (.iconst 0, []), (.istore 5, []), (.iload_n 3, []), (.iconst 1, []), (.iadd, []), (.istore_n 3, []), (.nop, [19])]), (19, [(.iload_n 1, []), (.iload 5, []), (.iadd, []), (.iload_n 2, []), (.if_icmp .ge 36, [60]), (.aload_n 0, []), (.getfield 34, [12, 21]), (.iload 4, []), (.iconst 1, []), (.iadd, []), (.iload 5, []), (.iadd, []), (.iaload, []), (.aload_n 0, []), (.getfield 31, [12, 15]), (.iload_n 1, []), (.iload 5, []), (.iadd, []), (.iaload, []), (.if_icmp .ne 12, [60]), (.iload 5, []), (.iconst 1, []), (.iadd, []), (.istore 5, []), (.goto (-38), [19])]), (60, [(.iload_n 1, []), (.iload 5, []), (.iadd, []), (.iload_n 2, []), (.if_icmp .ne 22, [87]), (.aload_n 0, []), (.getfield 34, [12, 21]), (.iload 4, []), (.iconst 1, []), (.iadd, []), (.iload 5, []), (.iadd, []), (.iaload, []), (.bipush 32, []), (.if_icmp .ne 5, [87]), (.iload_n 3, []), (.ireturn, [0])]), (87, [(.iload 4, []), (.iconst 1, []), (.iadd, []), (.istore 4, []), (.nop, [93])]), (93, [(.aload_n 0, []), (.getfield 34, [12, 21]), (.iload 4, []), (.iaload, []), (.bipush 32, []), (.if_icmp .eq 12, [114]), (.iload 4, []), (.iconst 1, []), (.iadd, []), (.istore 4, []), (.goto (-18), [93])]), (114, [(.goto (-109), [5])]), (117, [(.iconst (-1), []), (.ireturn, [0])])]
def pm_MO_isDigit : List (Nat × List ma_I) := [(0, [(.aload_n 0, []), (.iload_n 1, []), (.bipush 48, []), (.bipush 57, []), (.invokevirtual 132, [0, 163, 4, 12]), (.ireturn, [1])])]
def pm_MO_isMarkSign : List (Nat × List ma_I) := [(0, [(.iload_n 1, []), (.bipush 59, []), (.if_icmp .eq 57, [60]), (.iload_n 1, []), (.bipush 43, []), (.if_icmp .eq 51, [60]), (.iload_n 1, []), (.bipush 45, []), (.if_icmp .eq 45, [60]), (.iload_n 1, []), (.bipush 42, []), (.if_icmp .eq 39, [60]), (.iload_n 1, []), (.bipush 47, []), (.if_icmp .eq 33, [60]), (.iload_n 1, []), (.bipush 40, []), (.if_icmp .eq 27, [60]), (.iload_n 1, []), (.bipush 41, []), (.if_icmp .eq 21, [60]), (.iload_n 1, []), (.bipush 60, []), (.if_icmp .eq 15, [60]), (.iload_n 1, []), (.bipush 61, []), (.if_icmp .eq 9, [60]), (.iload_n 1, []), (.bipush 62, []), (.if_icmp .ne 7, [64]), (.nop, [60])]), (60, [(.iconst 1, []), (.goto 4, [65])]), (64, [(.iconst 0, []), (.nop, [65])]), (65, [(.ireturn, [1])])]
def pm_MO_readRoster : List (Nat × List ma_I) := [(0, [(.iconst 0, []), (.istore_n 1, []), (.nop, [2])]), (2, [(.aload_n 0, []), (.bipush 15, []), (.invokevirtual 237, [0, 184, 2, 12]), (.ifCond .eq 38, [46]), (.iload_n 1, []), (.bipush 16, []), (.if_icmp .ne 9, [23]), (.aload_n 0, []), (.iconst 3, []), (.invokevirtual 209, [0, 185, 2, 12]), (.ireturn, [0])]), (23, [(.aload_n 0, []), (.bipush 64, []), (.iconst 4, []), (.iload_n 1, []), (.imul, []), (.iadd, []), (.invokevirtual 269, [0, 186, 2, 12]), (.iconst (-1), []), (.if_icmp .ne 5, [39]), (.iconst (-1), []), (.ireturn, [0])]), (39, [(.iload_n 1, []), (.iconst 1, []), (.iadd, []), (.istore_n 1, []), (.goto (-41), [2])]), (46, [(.aload_n 0, []), (.getfield 178, [12, 19]), (.ifCond .ne 7, [57]), (.iload_n 1, []), (.goto 8, [62])]), (57, [(.aload_n 0, []), (.iconst 1, []), (.invokevirtual 209, [0, 185, 2, 12]), (.nop, [62])]), (62, [(.ireturn, [0])])]
def pm_MO_isWord : List (Nat × List ma_I) := [(0, [(.aload_n 0, []), (.getfield 178, [12, 19]), (.iconst 2, []), (.if_icmp .ne 15, [20]), (.aload_n 0, []), (.getfield 181, [12, 20]), (.iload_n 1, []), (.if_icmp .ne 7, [20]), (.iconst 1, []), (.goto 4, [21])]), (20, [(.iconst 0, []), (.nop, [21])]), (21, [(.ireturn, [1])])]
def pm_MO_errs : List (Nat × List ma_I) := [(0, [(.aload_n 0, []), (.iload_n 1, []), (.putfield 197, [12, 34, 0]), (.aload_n 0, []), (.aload_n 0, []), (.getfield 175, [12, 18]), (.putfield 200, [12, 35, 0]), (.iconst (-1), []), (.ireturn, [0])])]
def pm_MO_readRosterLine : List (Nat × List ma_I) := [(0, [(.aload_n 0, []), (.getfield 65, [12, 39]), (.iload_n 1, []), (.aload_n 0, []), (.bipush 15, []), (.iconst 0, []), (.sipush 999, []), (.invokevirtual 262, [0, 187, 4, 12]), (.iastore, []), (.aload_n 0, []), (.getfield 65, [12, 39]), (.iload_n 1, []), (.iaload, []), (.iconst (-1), []), (.if_icmp .ne 5, [28]), (.iconst (-1), []), (.ireturn, [0])]), (28, [(.aload_n 0, []), (.getfield 178, [12, 19]), (.iconst 2, []), (.if_icmp .ne 10, [43]), (.aload_n 0, []), (.getfield 181, [12, 20]), (.goto 4, [44])]), (43, [(.iconst (-1), []), (.nop, [44])]), (44, [(.istore_n 2, []), (.iload_n 2, []), (.bipush 16, []), (.if_icmp .eq 21, [69]), (.aload_n 0, []), (.iload_n 2, []), (.bipush 18, []), (.bipush 20, []), (.invokevirtual 132, [0, 163, 4, 12]), (.ifCond .ne 9, [69]), (.aload_n 0, []), (.iconst 1, []), (.invokevirtual 209, [0, 185, 2, 12]), (.ireturn, [0])]), (69, [(.aload_n 0, []), (.invokevirtual 216, [0, 177, 1, 12]), (.iload_n 2, []), (.bipush 18, []), (.if_icmp .eq 9, [85]), (.iload_n 2, []), (.bipush 19, []), (.if_icmp .ne 7, [89]), (.nop, [85])]), (85, [(.iconst 1, []), (.goto 4, [90])]), (89, [(.iconst 0, []), (.nop, [90])]), (90, [(.istore_n 3, []), (.aload_n 0, []), (.getfield 65, [12, 39]), (.iload_n 1, []), (.iconst 1, []), (.iadd, []), (.iload_n 2, []), (.bipush 16, []), (.if_icmp .ne 7, [108]), (.iconst 0, []), (.goto 9, [114])]), (108, [(.iconst 1, []), (.iload_n 2, []), (.iadd, []), (.bipush 18, []), (.isub, []), (.nop, [114])]), (114, [(.iastore, []), (.aload_n 0, []), (.getfield 65, [12, 39]), (.iload_n 1, []), (.iconst 2, []), (.iadd, []), (.aload_n 0, []), (.iload_n 3, []), (.ifCond .eq 7, [131]), (.iconst 1, []), (.goto 4, [132])]), (131, [(.iconst 0, []), (.nop, [132])]), (132, [(.iload_n 3, []), (.ifCond .eq 8, [141]), (.bipush 20, []), (.goto 9, [147])]), (141, [(.aload_n 0, []), (.invokevirtual 122, [0, 166, 1, 12]), (.iconst 1, []), (.isub, []), (.nop, [147])]), (147, [(.invokevirtual 259, [0, 188, 3, 12]), (.iastore, []), (.aload_n 0, []), (.getfield 65, [12, 39]), (.iload_n 1, []), (.iconst 2, []), (.iadd, []), (.iaload, []), (.iconst (-1), []), (.if_icmp .ne 5, [165]), (.iconst (-1), []), (.ireturn, [0])]), (165, [(.aload_n 0, []), (.getfield 65, [12, 39]), (.iload_n 1, []), (.iconst 3, []), (.iadd, []), (.iload_n 2, []), (.bipush 16, []), (.if_icmp .ne 15, [190]), (.aload_n 0, []), (.bipush 17, []), (.iconst 0, []), (.bipush 40, []), (.invokevirtual 262, [0, 187, 4, 12]), (.goto 4, [191])]), (190, [(.iconst 0, []), (.nop, [191])]), (191, [(.iastore, []), (.aload_n 0, []), (.getfield 65, [12, 39]), (.iload_n 1, []), (.iconst 3, []), (.iadd, []), (.iaload, []), (.iconst (-1), []), (.if_icmp .ne 7, [208]), (.iconst (-1), []), (.goto 9, [214])]), (208, [(.aload_n 0, []), (.bipush 59, []), (.invokevirtual 266, [0, 189, 2, 12]), (.nop, [214])]), (214, [(.ireturn, [0])])]
def pm_MO_readTold : List (Nat × List ma_I) := [(0, [(.aload_n 0, []), (.iload_n 1, []), (.invokevirtual 237, [0, 184, 2, 12]), (.ifCond .ne 9, [14]), (.aload_n 0, []), (.iconst 1, []), (.invokevirtual 209, [0, 185, 2, 12]), (.ireturn, [0])]), (14, [(.aload_n 0, []), (.invokevirtual 216, [0, 177, 1, 12]), (.aload_n 0, []), (.iload_n 2, []), (.iload_n 3, []), (.invokevirtual 259, [0, 188, 3, 12]), (.ireturn, [0])])]
def pm_MO_readNumber : List (Nat × List ma_I) := [(0, [(.aload_n 0, []), (.getfield 178, [12, 19]), (.iconst 3, []), (.if_icmp .eq 9, [14]), (.aload_n 0, []), (.iconst 1, []), (.invokevirtual 209, [0, 185, 2, 12]), (.ireturn, [0])]), (14, [(.aload_n 0, []), (.aload_n 0, []), (.getfield 181, [12, 20]), (.iload_n 1, []), (.iload_n 2, []), (.invokevirtual 132, [0, 163, 4, 12]), (.ifCond .ne 9, [33]), (.aload_n 0, []), (.iconst 2, []), (.invokevirtual 209, [0, 185, 2, 12]), (.ireturn, [0])]), (33, [(.aload_n 0, []), (.getfield 181, [12, 20]), (.istore_n 3, []), (.aload_n 0, []), (.invokevirtual 216, [0, 177, 1, 12]), (.iload_n 3, []), (.ireturn, [0])])]
def pm_MO_readMark : List (Nat × List ma_I) := [(0, [(.aload_n 0, []), (.iload_n 1, []), (.invokevirtual 222, [0, 190, 2, 12]), (.ifCond .ne 9, [14]), (.aload_n 0, []), (.iconst 1, []), (.invokevirtual 209, [0, 185, 2, 12]), (.ireturn, [0])]), (14, [(.aload_n 0, []), (.invokevirtual 216, [0, 177, 1, 12]), (.iconst 0, []), (.ireturn, [0])])]
def pm_MO_isSign : List (Nat × List ma_I) := [(0, [(.aload_n 0, []), (.getfield 178, [12, 19]), (.iconst 4, []), (.if_icmp .ne 15, [20]), (.aload_n 0, []), (.getfield 181, [12, 20]), (.iload_n 1, []), (.if_icmp .ne 7, [20]), (.iconst 1, []), (.goto 4, [21])]), (20, [(.iconst 0, []), (.nop, [21])]), (21, [(.ireturn, [1])])]
def pm_MO_readWants : List (Nat × List ma_I) := [(0, [(.iconst 0, []), (.istore_n 1, []), (.nop, [2])]), (2, [(.aload_n 0, []), (.bipush 21, []), (.invokevirtual 237, [0, 184, 2, 12]), (.ifCond .eq 38, [46]), (.iload_n 1, []), (.bipush 12, []), (.if_icmp .ne 9, [23]), (.aload_n 0, []), (.iconst 3, []), (.invokevirtual 209, [0, 185, 2, 12]), (.ireturn, [0])]), (23, [(.aload_n 0, []), (.bipush 60, []), (.iconst 5, []), (.iload_n 1, []), (.imul, []), (.iadd, []), (.invokevirtual 272, [0, 192, 2, 12]), (.iconst (-1), []), (.if_icmp .ne 5, [39]), (.iconst (-1), []), (.ireturn, [0])]), (39, [(.iload_n 1, []), (.iconst 1, []), (.iadd, []), (.istore_n 1, []), (.goto (-41), [2])]), (46, [(.aload_n 0, []), (.getfield 178, [12, 19]), (.ifCond .ne 7, [57]), (.iload_n 1, []), (.goto 8, [62])]), (57, [(.aload_n 0, []), (.iconst 1, []), (.invokevirtual 209, [0, 185, 2, 12]), (.nop, [62])]), (62, [(.ireturn, [0])])]
def pm_MO_readWant : List (Nat × List ma_I) := [(0, [(.aload_n 0, []), (.getfield 68, [12, 41]), (.iload_n 1, []), (.aload_n 0, []), (.bipush 21, []), (.iconst 0, []), (.aload_n 0, []), (.getfield 129, [12, 10]), (.iconst 1, []), (.isub, []), (.invokevirtual 262, [0, 187, 4, 12]), (.iastore, []), (.aload_n 0, []), (.getfield 68, [12, 41]), (.iload_n 1, []), (.iaload, []), (.iconst (-1), []), (.if_icmp .ne 5, [31]), (.iconst (-1), []), (.ireturn, [0])]), (31, [(.aload_n 0, []), (.getfield 68, [12, 41]), (.iload_n 1, []), (.iconst 1, []), (.iadd, []), (.aload_n 0, []), (.bipush 22, []), (.iconst 0, []), (.bipush 40, []), (.invokevirtual 262, [0, 187, 4, 12]), (.iastore, []), (.aload_n 0, []), (.getfield 68, [12, 41]), (.iload_n 1, []), (.iconst 1, []), (.iadd, []), (.iaload, []), (.iconst (-1), []), (.if_icmp .ne 5, [62]), (.iconst (-1), []), (.ireturn, [0])]), (62, [(.aload_n 0, []), (.getfield 68, [12, 41]), (.iload_n 1, []), (.iconst 2, []), (.iadd, []), (.aload_n 0, []), (.bipush 23, []), (.iconst 0, []), (.bipush 23, []), (.invokevirtual 262, [0, 187, 4, 12]), (.iastore, []), (.aload_n 0, []), (.getfield 68, [12, 41]), (.iload_n 1, []), (.iconst 2, []), (.iadd, []), (.iaload, []), (.iconst (-1), []), (.if_icmp .ne 5, [93]), (.iconst (-1), []), (.ireturn, [0])]), (93, [(.aload_n 0, []), (.getfield 68, [12, 41]), (.iload_n 1, []), (.iconst 3, []), (.iadd, []), (.aload_n 0, []), (.bipush 17, []), (.aload_n 0, []), (.getfield 68, [12, 41]), (.iload_n 1, []), (.iconst 2, []), (.iadd, []), (.iaload, []), (.bipush 23, []), (.invokevirtual 262, [0, 187, 4, 12]), (.iastore, []), (.aload_n 0, []), (.getfield 68, [12, 41]), (.iload_n 1, []), (.iconst 3, []), (.iadd, []), (.iaload, []), (.iconst (-1), []), (.if_icmp .ne 5, [131]), (.iconst (-1), []), (.ireturn, [0])]), (131, [(.aload_n 0, []), (.getfield 68, [12, 41]), (.iload_n 1, []), (.iconst 4, []), (.iadd, []), (.aload_n 0, []), (.bipush 24, []), (.iconst 0, []), (.bipush 99, []), (.invokevirtual 262, [0, 187, 4, 12]), (.iastore, []), (.aload_n 0, []), (.getfield 68, [12, 41]), (.iload_n 1, []), (.iconst 4, []), (.iadd, []), (.iaload, []), (.iconst (-1), []), (.if_icmp .ne 7, [164]), (.iconst (-1), []), (.goto 9, [170])]), (164, [(.aload_n 0, []), (.bipush 59, []), (.invokevirtual 266, [0, 189, 2, 12]), (.nop, [170])]), (170, [(.ireturn, [0])])]
def pm_MO_readLaw : List (Nat × List ma_I) := [(0, [(.iconst 0, []), (.istore_n 1, []), (.nop, [2])]), (2, [(.aload_n 0, []), (.invokevirtual 249, [0, 194, 1, 12]), (.ifCond .eq 122, [128]), (.iload_n 1, []), (.bipush 16, []), (.if_icmp .ne 9, [21]), (.aload_n 0, []), (.iconst 3, []), (.invokevirtual 209, [0, 185, 2, 12]), (.ireturn, [0])]), (21, [(.bipush 32, []), (.iload_n 1, []), (.iadd, []), (.istore_n 2, []), (.aload_n 0, []), (.getfield 40, [12, 23]), (.iload_n 2, []), (.aload_n 0, []), (.getfield 181, [12, 20]), (.iastore, []), (.aload_n 0, []), (.invokevirtual 216, [0, 177, 1, 12]), (.aload_n 0, []), (.getfield 43, [12, 24]), (.iload_n 2, []), (.aload_n 0, []), (.getfield 203, [12, 30]), (.iastore, []), (.aload_n 0, []), (.invokevirtual 228, [0, 195, 1, 12]), (.iconst (-1), []), (.if_icmp .ne 5, [60]), (.iconst (-1), []), (.ireturn, [0])]), (60, [(.aload_n 0, []), (.getfield 46, [12, 25]), (.iload_n 2, []), (.aload_n 0, []), (.getfield 203, [12, 30]), (.iastore, []), (.aload_n 0, []), (.iconst 4, []), (.invokevirtual 237, [0, 184, 2, 12]), (.ifCond .eq 17, [92]), (.aload_n 0, []), (.invokevirtual 216, [0, 177, 1, 12]), (.aload_n 0, []), (.invokevirtual 253, [0, 200, 1, 12]), (.iconst (-1), []), (.if_icmp .ne 5, [92]), (.iconst (-1), []), (.ireturn, [0])]), (92, [(.aload_n 0, []), (.getfield 49, [12, 26]), (.iload_n 2, []), (.aload_n 0, []), (.getfield 203, [12, 30]), (.iastore, []), (.aload_n 0, []), (.bipush 59, []), (.invokevirtual 222, [0, 190, 2, 12]), (.ifCond .ne 9, [117]), (.aload_n 0, []), (.iconst 1, []), (.invokevirtual 209, [0, 185, 2, 12]), (.ireturn, [0])]), (117, [(.aload_n 0, []), (.invokevirtual 216, [0, 177, 1, 12]), (.iload_n 1, []), (.iconst 1, []), (.iadd, []), (.istore_n 1, []), (.goto (-123), [2])]), (128, [(.aload_n 0, []), (.getfield 178, [12, 19]), (.ifCond .ne 7, [139]), (.iload_n 1, []), (.goto 8, [144])]), (139, [(.aload_n 0, []), (.iconst 1, []), (.invokevirtual 209, [0, 185, 2, 12]), (.nop, [144])]), (144, [(.ireturn, [0])])]
def pm_MO_isLineWord : List (Nat × List ma_I) := [(0, [(.aload_n 0, []), (.getfield 178, [12, 19]), (.iconst 2, []), (.if_icmp .ne 20, [25]), (.aload_n 0, []), (.aload_n 0, []), (.getfield 181, [12, 20]), (.iconst 0, []), (.iconst 3, []), (.invokevirtual 132, [0, 163, 4, 12]), (.ifCond .eq 7, [25]), (.iconst 1, []), (.goto 4, [26])]), (25, [(.iconst 0, []), (.nop, [26])]), (26, [(.ireturn, [1])])]
def pm_MO_readSum : List (Nat × List ma_I) := [(0, [(.aload_n 0, []), (.invokevirtual 225, [0, 196, 1, 12]), (.iconst (-1), []), (.if_icmp .ne 5, [10]), (.iconst (-1), []), (.ireturn, [0])]), (10, [(.aload_n 0, []), (.bipush 43, []), (.invokevirtual 222, [0, 190, 2, 12]), (.ifCond .ne 12, [28]), (.aload_n 0, []), (.bipush 45, []), (.invokevirtual 222, [0, 190, 2, 12]), (.ifCond .eq 41, [66]), (.nop, [28])]), (28, [(.aload_n 0, []), (.getfield 181, [12, 20]), (.bipush 43, []), (.if_icmp .ne 7, [41]), (.iconst 2, []), (.goto 4, [42])]), (41, [(.iconst 3, []), (.nop, [42])]), (42, [(.istore_n 1, []), (.aload_n 0, []), (.invokevirtual 216, [0, 177, 1, 12]), (.aload_n 0, []), (.invokevirtual 225, [0, 196, 1, 12]), (.iconst (-1), []), (.if_icmp .ne 5, [57]), (.iconst (-1), []), (.ireturn, [0])]), (57, [(.aload_n 0, []), (.iload_n 1, []), (.iconst 0, []), (.invokevirtual 212, [0, 199, 3, 12]), (.goto (-53), [10])]), (66, [(.iconst 0, []), (.ireturn, [0])])]
def pm_MO_readProduct : List (Nat × List ma_I) := [(0, [(.aload_n 0, []), (.invokevirtual 219, [0, 197, 1, 12]), (.iconst (-1), []), (.if_icmp .ne 5, [10]), (.iconst (-1), []), (.ireturn, [0])]), (10, [(.aload_n 0, []), (.bipush 42, []), (.invokevirtual 222, [0, 190, 2, 12]), (.ifCond .ne 12, [28]), (.aload_n 0, []), (.bipush 47, []), (.invokevirtual 222, [0, 190, 2, 12]), (.ifCond .eq 76, [101]), (.nop, [28])]), (28, [(.aload_n 0, []), (.bipush 42, []), (.invokevirtual 222, [0, 190, 2, 12]), (.istore_n 1, []), (.aload_n 0, []), (.invokevirtual 216, [0, 177, 1, 12]), (.iload_n 1, []), (.ifCond .ne 17, [57]), (.aload_n 0, []), (.getfield 178, [12, 19]), (.iconst 3, []), (.if_icmp .eq 9, [57]), (.aload_n 0, []), (.iconst 1, []), (.invokevirtual 209, [0, 185, 2, 12]), (.ireturn, [0])]), (57, [(.iload_n 1, []), (.ifCond .ne 16, [74]), (.aload_n 0, []), (.getfield 181, [12, 20]), (.ifCond .ne 9, [74]), (.aload_n 0, []), (.iconst 2, []), (.invokevirtual 209, [0, 185, 2, 12]), (.ireturn, [0])]), (74, [(.aload_n 0, []), (.invokevirtual 219, [0, 197, 1, 12]), (.iconst (-1), []), (.if_icmp .ne 5, [84]), (.iconst (-1), []), (.ireturn, [0])]), (84, [(.aload_n 0, []), (.iload_n 1, []), (.ifCond .eq 7, [93]), (.iconst 4, []), (.goto 4, [94])]), (93, [(.iconst 5, []), (.nop, [94])]), (94, [(.iconst 0, []), (.invokevirtual 212, [0, 199, 3, 12]), (.goto (-88), [10])]), (101, [(.iconst 0, []), (.ireturn, [0])])]
def pm_MO_readUnit : List (Nat × List ma_I) := [(0, [(.aload_n 0, []), (.getfield 178, [12, 19]), (.iconst 2, []), (.if_icmp .ne 18, [23]), (.aload_n 0, []), (.aload_n 0, []), (.getfield 181, [12, 20]), (.invokevirtual 206, [0, 198, 2, 12]), (.ifCond .eq 7, [23]), (.iconst 1, []), (.goto 4, [24])]), (23, [(.iconst 0, []), (.nop, [24])]), (24, [(.istore_n 1, []), (.iload_n 1, []), (.ifCond .ne 17, [43]), (.aload_n 0, []), (.getfield 178, [12, 19]), (.iconst 3, []), (.if_icmp .eq 9, [43]), (.aload_n 0, []), (.iconst 1, []), (.invokevirtual 209, [0, 185, 2, 12]), (.ireturn, [0])]), (43, [(.aload_n 0, []), (.iload_n 1, []), (.ifCond .eq 7, [52]), (.iconst 1, []), (.goto 4, [53])]), (52, [(.iconst 0, []), (.nop, [53])]), (53, [(.iload_n 1, []), (.ifCond .eq 13, [67]), (.aload_n 0, []), (.getfield 181, [12, 20]), (.bipush 8, []), (.isub, []), (.goto 7, [71])]), (67, [(.aload_n 0, []), (.getfield 181, [12, 20]), (.nop, [71])]), (71, [(.invokevirtual 212, [0, 199, 3, 12]), (.aload_n 0, []), (.invokevirtual 216, [0, 177, 1, 12]), (.iconst 0, []), (.ireturn, [0])])]
def pm_MO_canAsk : List (Nat × List ma_I) := [(0, [(.aload_n 0, []), (.iload_n 1, []), (.bipush 8, []), (.bipush 14, []), (.invokevirtual 132, [0, 163, 4, 12]), (.ireturn, [1])])]
def pm_MO_emits : List (Nat × List ma_I) := [(0, [(.aload_n 0, []), (.getfield 52, [12, 27]), (.sipush 800, []), (.aload_n 0, []), (.getfield 203, [12, 30]), (.iadd, []), (.iload_n 1, []), (.iastore, []), (.aload_n 0, []), (.getfield 55, [12, 28]), (.sipush 800, []), (.aload_n 0, []), (.getfield 203, [12, 30]), (.iadd, []), (.iload_n 2, []), (.iastore, []), (.aload_n 0, []), (.aload_n 0, []), (.getfield 203, [12, 30]), (.iconst 1, []), (.iadd, []), (.putfield 203, [12, 30, 0]), (.return_, [])])]
def pm_MO_readAny : List (Nat × List ma_I) := [(0, [(.iconst 0, []), (.istore_n 1, []), (.aload_n 0, []), (.iconst 0, []), (.putfield 231, [12, 33, 0]), (.iconst 1, []), (.istore_n 2, []), (.nop, [9])]), (9, [(.iload_n 2, []), (.ifCond .eq 99, [109]), (.aload_n 0, []), (.bipush 7, []), (.invokevirtual 237, [0, 184, 2, 12]), (.istore_n 3, []), (.iload_n 3, []), (.ifCond .ne 12, [33]), (.aload_n 0, []), (.bipush 40, []), (.invokevirtual 222, [0, 190, 2, 12]), (.ifCond .eq 58, [88]), (.nop, [33])]), (33, [(.aload_n 0, []), (.getfield 234, [12, 31]), (.bipush 8, []), (.if_icmp .ne 9, [48]), (.aload_n 0, []), (.iconst 3, []), (.invokevirtual 209, [0, 185, 2, 12]), (.ireturn, [0])]), (48, [(.aload_n 0, []), (.aload_n 0, []), (.getfield 234, [12, 31]), (.iconst 1, []), (.iadd, []), (.putfield 234, [12, 31, 0]), (.iload_n 3, []), (.ifCond .ne 7, [66]), (.iload_n 1, []), (.iconst 1, []), (.iadd, []), (.istore_n 1, []), (.nop, [66])]), (66, [(.aload_n 0, []), (.iload_n 3, []), (.ifCond .eq 8, [76]), (.bipush 9, []), (.goto 5, [78])]), (76, [(.bipush 12, []), (.nop, [78])]), (78, [(.invokevirtual 240, [0, 201, 2, 12]), (.aload_n 0, []), (.invokevirtual 216, [0, 177, 1, 12]), (.goto (-76), [9])]), (88, [(.aload_n 0, []), (.invokevirtual 243, [0, 202, 1, 12]), (.iconst (-1), []), (.if_icmp .ne 5, [98]), (.iconst (-1), []), (.ireturn, [0])]), (98, [(.aload_n 0, []), (.bipush 9, []), (.invokevirtual 246, [0, 203, 2, 12]), (.iconst 0, []), (.istore_n 2, []), (.goto (-97), [9])]), (109, [(.aload_n 0, []), (.bipush 6, []), (.invokevirtual 237, [0, 184, 2, 12]), (.ifCond .eq 24, [139]), (.aload_n 0, []), (.bipush 10, []), (.invokevirtual 246, [0, 203, 2, 12]), (.aload_n 0, []), (.bipush 10, []), (.invokevirtual 240, [0, 201, 2, 12]), (.aload_n 0, []), (.invokevirtual 216, [0, 177, 1, 12]), (.iconst 1, []), (.istore_n 2, []), (.goto (-127), [9])]), (139, [(.aload_n 0, []), (.iconst 5, []), (.invokevirtual 237, [0, 184, 2, 12]), (.ifCond .eq 30, [174]), (.aload_n 0, []), (.bipush 10, []), (.invokevirtual 246, [0, 203, 2, 12]), (.aload_n 0, []), (.bipush 11, []), (.invokevirtual 246, [0, 203, 2, 12]), (.aload_n 0, []), (.bipush 11, []), (.invokevirtual 240, [0, 201, 2, 12]), (.aload_n 0, []), (.invokevirtual 216, [0, 177, 1, 12]), (.iconst 1, []), (.istore_n 2, []), (.goto (-162), [9])]), (174, [(.aload_n 0, []), (.bipush 10, []), (.invokevirtual 246, [0, 203, 2, 12]), (.aload_n 0, []), (.bipush 11, []), (.invokevirtual 246, [0, 203, 2, 12]), (.iload_n 1, []), (.ifCond .ne 5, [192]), (.iconst 0, []), (.ireturn, [0])]), (192, [(.aload_n 0, []), (.bipush 41, []), (.invokevirtual 222, [0, 190, 2, 12]), (.ifCond .ne 9, [207]), (.aload_n 0, []), (.iconst 1, []), (.invokevirtual 209, [0, 185, 2, 12]), (.ireturn, [0])]), (207, [(.aload_n 0, []), (.aload_n 0, []), (.getfield 231, [12, 33]), (.iconst 1, []), (.isub, []), (.putfield 231, [12, 33, 0]), (.iload_n 1, []), (.iconst 1, []), (.isub, []), (.istore_n 1, []), (.aload_n 0, []), (.aload_n 0, []), (.getfield 234, [12, 31]), (.iconst 1, []), (.isub, []), (.putfield 234, [12, 31, 0]), (.aload_n 0, []), (.bipush 9, []), (.invokevirtual 246, [0, 203, 2, 12]), (.aload_n 0, []), (.invokevirtual 216, [0, 177, 1, 12]), (.goto (-232), [9])])]
def pm_MO_waits : List (Nat × List ma_I) := [(0, [(.aload_n 0, []), (.getfield 58, [12, 32]), (.aload_n 0, []), (.getfield 231, [12, 33]), (.iload_n 1, []), (.iastore, []), (.aload_n 0, []), (.aload_n 0, []), (.getfield 231, [12, 33]), (.iconst 1, []), (.iadd, []), (.putfield 231, [12, 33, 0]), (.return_, [])])]
def pm_MO_readCompared : List (Nat × List ma_I) := [(0, [(.aload_n 0, []), (.invokevirtual 228, [0, 195, 1, 12]), (.iconst (-1), []), (.if_icmp .ne 5, [10]), (.iconst (-1), []), (.ireturn, [0])]), (10, [(.aload_n 0, []), (.bipush 60, []), (.invokevirtual 222, [0, 190, 2, 12]), (.ifCond .ne 27, [43]), (.aload_n 0, []), (.bipush 61, []), (.invokevirtual 222, [0, 190, 2, 12]), (.ifCond .ne 18, [43]), (.aload_n 0, []), (.bipush 62, []), (.invokevirtual 222, [0, 190, 2, 12]), (.ifCond .ne 9, [43]), (.aload_n 0, []), (.iconst 1, []), (.invokevirtual 209, [0, 185, 2, 12]), (.ireturn, [0])]), (43, [(.aload_n 0, []), (.getfield 181, [12, 20]), (.bipush 60, []), (.if_icmp .ne 8, [57]), (.bipush 6, []), (.goto 19, [73])]), (57, [(.aload_n 0, []), (.getfield 181, [12, 20]), (.bipush 61, []), (.if_icmp .ne 8, [71]), (.bipush 7, []), (.goto 5, [73])]), (71, [(.bipush 8, []), (.nop, [73])]), (73, [(.istore_n 1, []), (.aload_n 0, []), (.invokevirtual 216, [0, 177, 1, 12]), (.aload_n 0, []), (.invokevirtual 228, [0, 195, 1, 12]), (.iconst (-1), []), (.if_icmp .ne 5, [88]), (.iconst (-1), []), (.ireturn, [0])]), (88, [(.aload_n 0, []), (.iload_n 1, []), (.iconst 0, []), (.invokevirtual 212, [0, 199, 3, 12]), (.iconst 0, []), (.ireturn, [0])])]
def pm_MO_settles : List (Nat × List ma_I) := [(0, [(.aload_n 0, []), (.getfield 231, [12, 33]), (.ifCond .le 53, [57]), (.aload_n 0, []), (.getfield 58, [12, 32]), (.aload_n 0, []), (.getfield 231, [12, 33]), (.iconst 1, []), (.isub, []), (.iaload, []), (.iload_n 1, []), (.if_icmp .ne 38, [57]), (.aload_n 0, []), (.aload_n 0, []), (.getfield 231, [12, 33]), (.iconst 1, []), (.isub, []), (.putfield 231, [12, 33, 0]), (.aload_n 0, []), (.iload_n 1, []), (.iconst 0, []), (.invokevirtual 212, [0, 199, 3, 12]), (.iload_n 1, []), (.bipush 9, []), (.if_icmp .ne (-41), [0]), (.aload_n 0, []), (.aload_n 0, []), (.getfield 234, [12, 31]), (.iconst 1, []), (.isub, []), (.putfield 234, [12, 31, 0]), (.goto (-54), [0])]), (57, [(.return_, [])])]
def pm_MO_takesLaw : List (Nat × List ma_I) := [(0, [(.iconst 0, []), (.istore_n 2, []), (.nop, [2])]), (2, [(.iload_n 2, []), (.iload_n 1, []), (.if_icmp .ge 101, [105]), (.aload_n 0, []), (.getfield 40, [12, 23]), (.bipush 16, []), (.aload_n 0, []), (.getfield 256, [12, 29]), (.imul, []), (.iload_n 2, []), (.iadd, []), (.aload_n 0, []), (.getfield 40, [12, 23]), (.bipush 32, []), (.iload_n 2, []), (.iadd, []), (.iaload, []), (.iastore, []), (.aload_n 0, []), (.getfield 43, [12, 24]), (.bipush 16, []), (.aload_n 0, []), (.getfield 256, [12, 29]), (.imul, []), (.iload_n 2, []), (.iadd, []), (.aload_n 0, []), (.getfield 43, [12, 24]), (.bipush 32, []), (.iload_n 2, []), (.iadd, []), (.iaload, []), (.iastore, []), (.aload_n 0, []), (.getfield 46, [12, 25]), (.bipush 16, []), (.aload_n 0, []), (.getfield 256, [12, 29]), (.imul, []), (.iload_n 2, []), (.iadd, []), (.aload_n 0, []), (.getfield 46, [12, 25]), (.bipush 32, []), (.iload_n 2, []), (.iadd, []), (.iaload, []), (.iastore, []), (.aload_n 0, []), (.getfield 49, [12, 26]), (.bipush 16, []), (.aload_n 0, []), (.getfield 256, [12, 29]), (.imul, []), (.iload_n 2, []), (.iadd, []), (.aload_n 0, []), (.getfield 49, [12, 26]), (.bipush 32, []), (.iload_n 2, []), (.iadd, []), (.iaload, []), (.iastore, []), (.iinc 2 1, []), (.goto (-100), [2])]), (105, [(.iconst 0, []), (.istore_n 2, []), (.nop, [107])]), (107, [(.iload_n 2, []), (.aload_n 0, []), (.getfield 203, [12, 30]), (.if_icmp .ge 59, [171]), (.aload_n 0, []), (.getfield 52, [12, 27]), (.sipush 400, []), (.aload_n 0, []), (.getfield 256, [12, 29]), (.imul, []), (.iload_n 2, []), (.iadd, []), (.aload_n 0, []), (.getfield 52, [12, 27]), (.sipush 800, []), (.iload_n 2, []), (.iadd, []), (.iaload, []), (.iastore, []), (.aload_n 0, []), (.getfield 55, [12, 28]), (.sipush 400, []), (.aload_n 0, []), (.getfield 256, [12, 29]), (.imul, []), (.iload_n 2, []), (.iadd, []), (.aload_n 0, []), (.getfield 55, [12, 28]), (.sipush 800, []), (.iload_n 2, []), (.iadd, []), (.iaload, []), (.iastore, []), (.iinc 2 1, []), (.goto (-61), [107])]), (171, [(.aload_n 0, []), (.getfield 37, [12, 22]), (.aload_n 0, []), (.getfield 256, [12, 29]), (.iload_n 1, []), (.iastore, []), (.return_, [])])]
def pm_MO_takesOther : List (Nat × List ma_I) := [(0, [(.iload_n 1, []), (.iconst 1, []), (.if_icmp .ne 46, [48]), (.iconst 0, []), (.istore_n 3, []), (.nop, [7])]), (7, [(.iload_n 3, []), (.iconst 4, []), (.iload_n 2, []), (.imul, []), (.if_icmp .ge 24, [35]), (.aload_n 0, []), (.getfield 65, [12, 39]), (.iload_n 3, []), (.aload_n 0, []), (.getfield 65, [12, 39]), (.bipush 64, []), (.iload_n 3, []), (.iadd, []), (.iaload, []), (.iastore, []), (.iinc 3 1, []), (.goto (-25), [7])]), (35, [(.aload_n 0, []), (.iload_n 2, []), (.putfield 139, [12, 38, 0]), (.aload_n 0, []), (.iconst 0, []), (.putfield 101, [12, 3, 0]), (.goto 38, [83])]), (48, [(.iconst 0, []), (.istore_n 3, []), (.nop, [50])]), (50, [(.iload_n 3, []), (.iconst 5, []), (.iload_n 2, []), (.imul, []), (.if_icmp .ge 24, [78]), (.aload_n 0, []), (.getfield 68, [12, 41]), (.iload_n 3, []), (.aload_n 0, []), (.getfield 68, [12, 41]), (.bipush 60, []), (.iload_n 3, []), (.iadd, []), (.iaload, []), (.iastore, []), (.iinc 3 1, []), (.goto (-25), [50])]), (78, [(.aload_n 0, []), (.iload_n 2, []), (.putfield 142, [12, 40, 0]), (.nop, [83])]), (83, [(.return_, [])])]
def pm_MO_fault : List (Nat × List ma_I) := [(0, [(.aload_n 0, []), (.iconst 0, []), (.putfield 98, [12, 0, 0]), (.iload_n 1, []), (.ifCond .ne 10, [16]), (.aload_n 0, []), (.getfield 284, [12, 36]), (.goto 16, [29])]), (16, [(.iload_n 1, []), (.iconst 1, []), (.if_icmp .ne 10, [28]), (.aload_n 0, []), (.getfield 61, [12, 37]), (.goto 4, [29])]), (28, [(.iconst (-1), []), (.nop, [29])]), (29, [(.ireturn, [0])])]
def pm_MO_raise : List (Nat × List ma_I) := [(0, [(.aload_n 0, []), (.iconst 0, []), (.putfield 98, [12, 0, 0]), (.aload_n 0, []), (.iload_n 1, []), (.invokevirtual 148, [0, 165, 2, 12]), (.ifCond .eq 14, [24]), (.aload_n 0, []), (.iload_n 2, []), (.iconst 0, []), (.bipush 40, []), (.invokevirtual 132, [0, 163, 4, 12]), (.ifCond .ne 5, [26]), (.nop, [24])]), (24, [(.iconst (-1), []), (.ireturn, [0])]), (26, [(.aload_n 0, []), (.invokevirtual 345, [0, 208, 1, 12]), (.aload_n 0, []), (.iload_n 1, []), (.iload_n 2, []), (.invokevirtual 342, [0, 209, 3, 12]), (.pop, []), (.aload_n 0, []), (.iload_n 1, []), (.invokevirtual 302, [0, 211, 2, 12]), (.ireturn, [0])])]
def pm_MO_keepsAhead : List (Nat × List ma_I) := [(0, [(.aload_n 0, []), (.getfield 101, [12, 3]), (.bipush 6, []), (.if_icmp .ne 47, [53]), (.aload_n 0, []), (.aload_n 0, []), (.getfield 101, [12, 3]), (.iconst 1, []), (.isub, []), (.putfield 101, [12, 3, 0]), (.iconst 0, []), (.istore_n 1, []), (.nop, [21])]), (21, [(.iload_n 1, []), (.bipush 49, []), (.aload_n 0, []), (.getfield 101, [12, 3]), (.imul, []), (.if_icmp .ge 24, [53]), (.aload_n 0, []), (.getfield 13, [12, 2]), (.iload_n 1, []), (.aload_n 0, []), (.getfield 13, [12, 2]), (.iload_n 1, []), (.bipush 49, []), (.iadd, []), (.iaload, []), (.iastore, []), (.iinc 1 1, []), (.goto (-29), [21])]), (53, [(.iconst 0, []), (.istore_n 1, []), (.nop, [55])]), (55, [(.iload_n 1, []), (.bipush 49, []), (.if_icmp .ge 29, [87]), (.aload_n 0, []), (.getfield 13, [12, 2]), (.bipush 49, []), (.aload_n 0, []), (.getfield 101, [12, 3]), (.imul, []), (.iload_n 1, []), (.iadd, []), (.aload_n 0, []), (.getfield 7, [12, 1]), (.iload_n 1, []), (.iaload, []), (.iastore, []), (.iinc 1 1, []), (.goto (-29), [55])]), (87, [(.aload_n 0, []), (.aload_n 0, []), (.getfield 101, [12, 3]), (.iconst 1, []), (.iadd, []), (.putfield 101, [12, 3, 0]), (.return_, [])])]
def pm_MO_sets : List (Nat × List ma_I) := [(0, [(.aload_n 0, []), (.iload_n 1, []), (.iload_n 2, []), (.invokevirtual 330, [0, 210, 3, 12]), (.istore_n 3, []), (.aload_n 0, []), (.getfield 7, [12, 1]), (.iconst 3, []), (.aload_n 0, []), (.getfield 7, [12, 1]), (.iconst 3, []), (.iaload, []), (.iload_n 3, []), (.isub, []), (.iastore, []), (.aload_n 0, []), (.iload_n 1, []), (.aload_n 0, []), (.iload_n 2, []), (.bipush 40, []), (.aload_n 0, []), (.getfield 7, [12, 1]), (.bipush 19, []), (.iload_n 1, []), (.iadd, []), (.iaload, []), (.iconst 4, []), (.idiv, []), (.isub, []), (.invokevirtual 333, [0, 221, 3, 12]), (.invokevirtual 336, [0, 222, 3, 12]), (.aload_n 0, []), (.iconst 0, []), (.iload_n 1, []), (.aload_n 0, []), (.iload_n 1, []), (.invokevirtual 302, [0, 211, 2, 12]), (.invokevirtual 339, [0, 223, 4, 12]), (.iload_n 3, []), (.ireturn, [0])])]
def pm_MO_costOf : List (Nat × List ma_I) := [(0, [(.aload_n 0, []), (.iload_n 1, []), (.aload_n 0, []), (.getfield 7, [12, 1]), (.iconst 0, []), (.iaload, []), (.bipush 24, []), (.irem, []), (.aload_n 0, []), (.iconst 0, []), (.iload_n 2, []), (.aload_n 0, []), (.iload_n 1, []), (.invokevirtual 302, [0, 211, 2, 12]), (.isub, []), (.invokevirtual 308, [0, 212, 3, 12]), (.invokevirtual 320, [0, 213, 4, 12]), (.aload_n 0, []), (.iconst 2, []), (.aload_n 0, []), (.getfield 71, [12, 42]), (.bipush 6, []), (.iaload, []), (.sipush 999, []), (.invokevirtual 324, [0, 216, 4, 12]), (.ireturn, [0])])]
def pm_MO_heightOf : List (Nat × List ma_I) := [(0, [(.aload_n 0, []), (.getfield 7, [12, 1]), (.iconst 5, []), (.iload_n 1, []), (.iadd, []), (.iaload, []), (.bipush 10, []), (.iadd, []), (.ireturn, [0])])]
def pm_MO_greater : List (Nat × List ma_I) := [(0, [(.iload_n 1, []), (.iload_n 2, []), (.if_icmp .le 7, [9]), (.iload_n 1, []), (.goto 4, [10])]), (9, [(.iload_n 2, []), (.nop, [10])]), (10, [(.ireturn, [0])])]
def pm_MO_asks : List (Nat × List ma_I) := [(0, [(.aload_n 0, []), (.getfield 71, [12, 42]), (.iconst 0, []), (.iload_n 1, []), (.iastore, []), (.aload_n 0, []), (.getfield 71, [12, 42]), (.iconst 1, []), (.aload_n 0, []), (.iload_n 1, []), (.invokevirtual 302, [0, 211, 2, 12]), (.iastore, []), (.aload_n 0, []), (.getfield 71, [12, 42]), (.iconst 2, []), (.aload_n 0, []), (.getfield 7, [12, 1]), (.bipush 19, []), (.iload_n 1, []), (.iadd, []), (.iaload, []), (.iastore, []), (.aload_n 0, []), (.getfield 71, [12, 42]), (.iconst 3, []), (.iload_n 2, []), (.iastore, []), (.aload_n 0, []), (.getfield 71, [12, 42]), (.iconst 4, []), (.aload_n 0, []), (.getfield 7, [12, 1]), (.iconst 0, []), (.iaload, []), (.bipush 24, []), (.idiv, []), (.iastore, []), (.aload_n 0, []), (.getfield 71, [12, 42]), (.iconst 5, []), (.aload_n 0, []), (.iload_n 1, []), (.invokevirtual 311, [0, 214, 2, 12]), (.iastore, []), (.aload_n 0, []), (.getfield 71, [12, 42]), (.bipush 6, []), (.iload_n 3, []), (.iastore, []), (.return_, [])])]
def pm_MO_leansOf : List (Nat × List ma_I) := [(0, [(.iload_n 1, []), (.ifCond .le 22, [23]), (.aload_n 0, []), (.aload_n 0, []), (.iload_n 1, []), (.invokevirtual 302, [0, 211, 2, 12]), (.aload_n 0, []), (.iload_n 1, []), (.iconst 1, []), (.isub, []), (.invokevirtual 302, [0, 211, 2, 12]), (.invokevirtual 305, [0, 215, 3, 12]), (.goto 4, [24])]), (23, [(.iconst 0, []), (.nop, [24])]), (24, [(.istore_n 2, []), (.iload_n 1, []), (.iconst 1, []), (.iadd, []), (.aload_n 0, []), (.invokevirtual 122, [0, 166, 1, 12]), (.if_icmp .ge 22, [54]), (.aload_n 0, []), (.aload_n 0, []), (.iload_n 1, []), (.invokevirtual 302, [0, 211, 2, 12]), (.aload_n 0, []), (.iload_n 1, []), (.iconst 1, []), (.iadd, []), (.invokevirtual 302, [0, 211, 2, 12]), (.invokevirtual 305, [0, 215, 3, 12]), (.goto 4, [55])]), (54, [(.iconst 0, []), (.nop, [55])]), (55, [(.istore_n 3, []), (.aload_n 0, []), (.iload_n 2, []), (.iload_n 3, []), (.invokevirtual 308, [0, 212, 3, 12]), (.ireturn, [0])])]
def pm_MO_far : List (Nat × List ma_I) := [(0, [(.iload_n 1, []), (.iload_n 2, []), (.if_icmp .le 9, [11]), (.iload_n 1, []), (.iload_n 2, []), (.isub, []), (.goto 6, [14])]), (11, [(.iload_n 2, []), (.iload_n 1, []), (.isub, []), (.nop, [14])]), (14, [(.ireturn, [0])])]
def pm_MO_lawTells : List (Nat × List ma_I) := [(0, [(.aload_n 0, []), (.iload_n 1, []), (.invokevirtual 314, [0, 217, 2, 12]), (.istore 4, []), (.aload_n 0, []), (.iload 4, []), (.iconst (-1), []), (.if_icmp .ne 7, [18]), (.iload_n 2, []), (.goto 22, [37])]), (18, [(.aload_n 0, []), (.iconst 0, []), (.aload_n 0, []), (.getfield 43, [12, 24]), (.iload 4, []), (.iaload, []), (.aload_n 0, []), (.getfield 46, [12, 25]), (.iload 4, []), (.iaload, []), (.invokevirtual 299, [0, 218, 4, 12]), (.nop, [37])]), (37, [(.iconst 0, []), (.iload_n 3, []), (.invokevirtual 317, [0, 220, 4, 12]), (.ireturn, [0])])]
def pm_MO_lineOf : List (Nat × List ma_I) := [(0, [(.iconst 0, []), (.istore_n 2, []), (.nop, [2])]), (2, [(.iload_n 2, []), (.aload_n 0, []), (.getfield 37, [12, 22]), (.iconst 0, []), (.iaload, []), (.if_icmp .ge 56, [65]), (.aload_n 0, []), (.getfield 40, [12, 23]), (.iload_n 2, []), (.iaload, []), (.iload_n 1, []), (.if_icmp .ne 40, [59]), (.aload_n 0, []), (.getfield 46, [12, 25]), (.iload_n 2, []), (.iaload, []), (.aload_n 0, []), (.getfield 49, [12, 26]), (.iload_n 2, []), (.iaload, []), (.if_icmp .eq 23, [57]), (.aload_n 0, []), (.iconst 0, []), (.aload_n 0, []), (.getfield 46, [12, 25]), (.iload_n 2, []), (.iaload, []), (.aload_n 0, []), (.getfield 49, [12, 26]), (.iload_n 2, []), (.iaload, []), (.invokevirtual 299, [0, 218, 4, 12]), (.ifCond .eq 5, [59]), (.nop, [57])]), (57, [(.iload_n 2, []), (.ireturn, [0])]), (59, [(.iinc 2 1, []), (.goto (-60), [2])]), (65, [(.iconst (-1), []), (.ireturn, [0])])]
def pm_MO_runs : List (Nat × List ma_I) := [(0, [(.iconst 0, []), (.istore 4, []), (.sipush 400, []), (.iload_n 1, []), (.imul, []), (.iload_n 2, []), (.iadd, []), (.istore 5, []), (.nop, [12])]), (12, [(.iload 5, []), (.sipush 400, []), (.iload_n 1, []), (.imul, []), (.iload_n 3, []), (.iadd, []), (.if_icmp .ge 155, [176]), (.aload_n 0, []), (.getfield 52, [12, 27]), (.iload 5, []), (.iaload, []), (.ifCond .eq 14, [45]), (.aload_n 0, []), (.getfield 52, [12, 27]), (.iload 5, []), (.iaload, []), (.iconst 1, []), (.if_icmp .ne 51, [93]), (.nop, [45])]), (45, [(.aload_n 0, []), (.getfield 74, [12, 43]), (.iload 4, []), (.aload_n 0, []), (.getfield 52, [12, 27]), (.iload 5, []), (.iaload, []), (.ifCond .ne 13, [71]), (.aload_n 0, []), (.getfield 55, [12, 28]), (.iload 5, []), (.iaload, []), (.goto 15, [83])]), (71, [(.aload_n 0, []), (.getfield 71, [12, 42]), (.aload_n 0, []), (.getfield 55, [12, 28]), (.iload 5, []), (.iaload, []), (.iaload, []), (.nop, [83])]), (83, [(.iastore, []), (.iload 4, []), (.iconst 1, []), (.iadd, []), (.istore 4, []), (.goto 80, [170])]), (93, [(.aload_n 0, []), (.getfield 52, [12, 27]), (.iload 5, []), (.iaload, []), (.bipush 9, []), (.if_icmp .ne 26, [128]), (.aload_n 0, []), (.getfield 74, [12, 43]), (.iload 4, []), (.iconst 1, []), (.isub, []), (.iconst 1, []), (.aload_n 0, []), (.getfield 74, [12, 43]), (.iload 4, []), (.iconst 1, []), (.isub, []), (.iaload, []), (.isub, []), (.iastore, []), (.goto 45, [170])]), (128, [(.iload 4, []), (.iconst 1, []), (.isub, []), (.istore 4, []), (.aload_n 0, []), (.getfield 74, [12, 43]), (.iload 4, []), (.iconst 1, []), (.isub, []), (.aload_n 0, []), (.aload_n 0, []), (.getfield 52, [12, 27]), (.iload 5, []), (.iaload, []), (.aload_n 0, []), (.getfield 74, [12, 43]), (.iload 4, []), (.iconst 1, []), (.isub, []), (.iaload, []), (.aload_n 0, []), (.getfield 74, [12, 43]), (.iload 4, []), (.iaload, []), (.invokevirtual 296, [0, 219, 4, 12]), (.iastore, []), (.nop, [170])]), (170, [(.iinc 5 1, []), (.goto (-161), [12])]), (176, [(.aload_n 0, []), (.getfield 74, [12, 43]), (.iconst 0, []), (.iaload, []), (.ireturn, [0])])]
def pm_MO_twoOf : List (Nat × List ma_I) := [(0, [(.iload_n 1, []), (.iconst 2, []), (.if_icmp .ne 7, [9]), (.iload_n 2, []), (.iload_n 3, []), (.iadd, []), (.ireturn, [0])]), (9, [(.iload_n 1, []), (.iconst 3, []), (.if_icmp .ne 7, [18]), (.iload_n 2, []), (.iload_n 3, []), (.isub, []), (.ireturn, [0])]), (18, [(.iload_n 1, []), (.iconst 4, []), (.if_icmp .ne 7, [27]), (.iload_n 2, []), (.iload_n 3, []), (.imul, []), (.ireturn, [0])]), (27, [(.iload_n 1, []), (.iconst 5, []), (.if_icmp .ne 7, [36]), (.iload_n 2, []), (.iload_n 3, []), (.idiv, []), (.ireturn, [0])]), (36, [(.iload_n 1, []), (.bipush 6, []), (.if_icmp .ne 14, [53]), (.iload_n 2, []), (.iload_n 3, []), (.if_icmp .ge 7, [51]), (.iconst 1, []), (.goto 4, [52])]), (51, [(.iconst 0, []), (.nop, [52])]), (52, [(.ireturn, [0])]), (53, [(.iload_n 1, []), (.bipush 7, []), (.if_icmp .ne 14, [70]), (.iload_n 2, []), (.iload_n 3, []), (.if_icmp .ne 7, [68]), (.iconst 1, []), (.goto 4, [69])]), (68, [(.iconst 0, []), (.nop, [69])]), (69, [(.ireturn, [0])]), (70, [(.iload_n 1, []), (.bipush 8, []), (.if_icmp .ne 14, [87]), (.iload_n 2, []), (.iload_n 3, []), (.if_icmp .le 7, [85]), (.iconst 1, []), (.goto 4, [86])]), (85, [(.iconst 0, []), (.nop, [86])]), (86, [(.ireturn, [0])]), (87, [(.iload_n 1, []), (.bipush 10, []), (.if_icmp .ne 9, [99]), (.iload_n 2, []), (.iload_n 3, []), (.imul, []), (.goto 14, [110])]), (99, [(.iload_n 2, []), (.iload_n 3, []), (.iadd, []), (.ifCond .le 7, [109]), (.iconst 1, []), (.goto 4, [110])]), (109, [(.iconst 0, []), (.nop, [110])]), (110, [(.ireturn, [0])])]
def pm_MO_held : List (Nat × List ma_I) := [(0, [(.iload_n 1, []), (.iload_n 2, []), (.if_icmp .ge 7, [9]), (.iload_n 2, []), (.goto 13, [19])]), (9, [(.iload_n 1, []), (.iload_n 3, []), (.if_icmp .le 7, [18]), (.iload_n 3, []), (.goto 4, [19])]), (18, [(.iload_n 1, []), (.nop, [19])]), (19, [(.ireturn, [0])])]
def pm_MO_lesser : List (Nat × List ma_I) := [(0, [(.iload_n 1, []), (.iload_n 2, []), (.if_icmp .ge 7, [9]), (.iload_n 1, []), (.goto 4, [10])]), (9, [(.iload_n 2, []), (.nop, [10])]), (10, [(.ireturn, [0])])]
def pm_MO_heightBe : List (Nat × List ma_I) := [(0, [(.aload_n 0, []), (.getfield 7, [12, 1]), (.iconst 5, []), (.iload_n 1, []), (.iadd, []), (.iload_n 2, []), (.bipush 10, []), (.isub, []), (.iastore, []), (.return_, [])])]
def pm_MO_notes : List (Nat × List ma_I) := [(0, [(.aload_n 0, []), (.getfield 104, [12, 5]), (.ifCond .ne 15, [19]), (.aload_n 0, []), (.getfield 7, [12, 1]), (.iconst 2, []), (.iaload, []), (.sipush 150, []), (.if_icmp .ne 4, [20]), (.nop, [19])]), (19, [(.return_, [])]), (20, [(.iconst 4, []), (.aload_n 0, []), (.getfield 7, [12, 1]), (.iconst 2, []), (.iaload, []), (.imul, []), (.istore 4, []), (.aload_n 0, []), (.getfield 28, [12, 14]), (.iload 4, []), (.aload_n 0, []), (.getfield 7, [12, 1]), (.iconst 0, []), (.iaload, []), (.iastore, []), (.aload_n 0, []), (.getfield 28, [12, 14]), (.iload 4, []), (.iconst 1, []), (.iadd, []), (.iload_n 1, []), (.iastore, []), (.aload_n 0, []), (.getfield 28, [12, 14]), (.iload 4, []), (.iconst 2, []), (.iadd, []), (.iload_n 2, []), (.iastore, []), (.aload_n 0, []), (.getfield 28, [12, 14]), (.iload 4, []), (.iconst 3, []), (.iadd, []), (.iload_n 3, []), (.iastore, []), (.aload_n 0, []), (.getfield 7, [12, 1]), (.iconst 2, []), (.aload_n 0, []), (.getfield 7, [12, 1]), (.iconst 2, []), (.iaload, []), (.iconst 1, []), (.iadd, []), (.iastore, []), (.return_, [])])]
def pm_MO_lift : List (Nat × List ma_I) := [(0, [(.aload_n 0, []), (.iconst 0, []), (.putfield 98, [12, 0, 0]), (.aload_n 0, []), (.iload_n 1, []), (.bipush (-20), []), (.bipush 20, []), (.invokevirtual 132, [0, 163, 4, 12]), (.ifCond .eq 7, [21]), (.iload_n 1, []), (.ifCond .ne 5, [23]), (.nop, [21])]), (21, [(.iconst (-1), []), (.ireturn, [0])]), (23, [(.aload_n 0, []), (.invokevirtual 345, [0, 208, 1, 12]), (.aload_n 0, []), (.iload_n 1, []), (.invokevirtual 348, [0, 225, 2, 12]), (.ireturn, [0])])]
def pm_MO_lifts : List (Nat × List ma_I) := [(0, [(.iconst 0, []), (.istore_n 2, []), (.iconst 0, []), (.istore_n 3, []), (.nop, [4])]), (4, [(.iload_n 3, []), (.aload_n 0, []), (.invokevirtual 122, [0, 166, 1, 12]), (.if_icmp .ge 31, [40]), (.iload_n 2, []), (.aload_n 0, []), (.iload_n 3, []), (.aload_n 0, []), (.aload_n 0, []), (.iload_n 3, []), (.invokevirtual 302, [0, 211, 2, 12]), (.iload_n 1, []), (.iadd, []), (.iconst 0, []), (.bipush 40, []), (.invokevirtual 317, [0, 220, 4, 12]), (.invokevirtual 342, [0, 209, 3, 12]), (.iadd, []), (.istore_n 2, []), (.iinc 3 1, []), (.goto (-33), [4])]), (40, [(.iload_n 2, []), (.ireturn, [0])])]
def pm_MO_mend : List (Nat × List ma_I) := [(0, [(.aload_n 0, []), (.iconst 0, []), (.putfield 98, [12, 0, 0]), (.aload_n 0, []), (.iload_n 1, []), (.invokevirtual 148, [0, 165, 2, 12]), (.ifCond .ne 5, [15]), (.iconst (-1), []), (.ireturn, [0])]), (15, [(.aload_n 0, []), (.invokevirtual 345, [0, 208, 1, 12]), (.aload_n 0, []), (.iload_n 1, []), (.invokevirtual 351, [0, 227, 2, 12]), (.ireturn, [0])])]
def pm_MO_mends : List (Nat × List ma_I) := [(0, [(.aload_n 0, []), (.getfield 7, [12, 1]), (.bipush 19, []), (.iload_n 1, []), (.iadd, []), (.iaload, []), (.istore_n 2, []), (.aload_n 0, []), (.getfield 7, [12, 1]), (.iconst 3, []), (.aload_n 0, []), (.getfield 7, [12, 1]), (.iconst 3, []), (.iaload, []), (.iload_n 2, []), (.isub, []), (.iastore, []), (.aload_n 0, []), (.getfield 7, [12, 1]), (.bipush 19, []), (.iload_n 1, []), (.iadd, []), (.iconst 0, []), (.iastore, []), (.aload_n 0, []), (.iconst 1, []), (.iload_n 1, []), (.iload_n 2, []), (.invokevirtual 339, [0, 223, 4, 12]), (.iload_n 2, []), (.ireturn, [0])])]
def pm_MO_hours : List (Nat × List ma_I) := [(0, [(.aload_n 0, []), (.iconst 0, []), (.putfield 98, [12, 0, 0]), (.aload_n 0, []), (.iload_n 1, []), (.iconst 1, []), (.bipush 60, []), (.invokevirtual 132, [0, 163, 4, 12]), (.ifCond .eq 17, [30]), (.aload_n 0, []), (.getfield 7, [12, 1]), (.iconst 0, []), (.iaload, []), (.iload_n 1, []), (.iadd, []), (.sipush 9999, []), (.if_icmp .le 5, [32]), (.nop, [30])]), (30, [(.iconst (-1), []), (.ireturn, [0])]), (32, [(.iconst 0, []), (.istore_n 2, []), (.iconst 0, []), (.istore_n 3, []), (.nop, [36])]), (36, [(.iload_n 3, []), (.iload_n 1, []), (.if_icmp .ge 20, [58]), (.aload_n 0, []), (.invokevirtual 345, [0, 208, 1, 12]), (.iload_n 2, []), (.aload_n 0, []), (.invokevirtual 388, [0, 229, 1, 12]), (.iadd, []), (.istore_n 2, []), (.iinc 3 1, []), (.goto (-19), [36])]), (58, [(.iload_n 2, []), (.ireturn, [0])])]
def pm_MO_goesBy : List (Nat × List ma_I) := [(0, [(.iconst 0, []), (.istore_n 1, []), (.nop, [2])]), (2, [(.iload_n 1, []), (.aload_n 0, []), (.getfield 139, [12, 38]), (.if_icmp .ge 33, [40]), (.aload_n 0, []), (.getfield 65, [12, 39]), (.iconst 4, []), (.iload_n 1, []), (.imul, []), (.iaload, []), (.aload_n 0, []), (.getfield 7, [12, 1]), (.iconst 0, []), (.iaload, []), (.if_icmp .ne 10, [34]), (.aload_n 0, []), (.iconst 4, []), (.iload_n 1, []), (.imul, []), (.invokevirtual 370, [0, 230, 2, 12]), (.nop, [34])]), (34, [(.iinc 1 1, []), (.goto (-35), [2])]), (40, [(.iconst 0, []), (.istore_n 1, []), (.nop, [42])]), (42, [(.iload_n 1, []), (.aload_n 0, []), (.getfield 126, [12, 9]), (.if_icmp .ge 14, [61]), (.aload_n 0, []), (.iload_n 1, []), (.invokevirtual 373, [0, 231, 2, 12]), (.iinc 1 1, []), (.goto (-16), [42])]), (61, [(.iconst 0, []), (.istore_n 1, []), (.nop, [63])]), (63, [(.iload_n 1, []), (.aload_n 0, []), (.getfield 126, [12, 9]), (.if_icmp .ge 14, [82]), (.aload_n 0, []), (.iload_n 1, []), (.invokevirtual 376, [0, 234, 2, 12]), (.iinc 1 1, []), (.goto (-16), [63])]), (82, [(.aload_n 0, []), (.invokevirtual 379, [0, 235, 1, 12]), (.istore_n 1, []), (.iconst 0, []), (.istore_n 2, []), (.nop, [89])]), (89, [(.iload_n 2, []), (.aload_n 0, []), (.invokevirtual 122, [0, 166, 1, 12]), (.if_icmp .ge 14, [108]), (.aload_n 0, []), (.iload_n 2, []), (.invokevirtual 382, [0, 237, 2, 12]), (.iinc 2 1, []), (.goto (-16), [89])]), (108, [(.aload_n 0, []), (.invokevirtual 385, [0, 239, 1, 12]), (.aload_n 0, []), (.getfield 7, [12, 1]), (.iconst 0, []), (.aload_n 0, []), (.getfield 7, [12, 1]), (.iconst 0, []), (.iaload, []), (.iconst 1, []), (.iadd, []), (.iastore, []), (.iload_n 1, []), (.ireturn, [0])])]
def pm_MO_does : List (Nat × List ma_I) := [(0, [(.aload_n 0, []), (.getfield 65, [12, 39]), (.iload_n 1, []), (.iconst 2, []), (.iadd, []), (.iaload, []), (.istore_n 2, []), (.aload_n 0, []), (.getfield 65, [12, 39]), (.iload_n 1, []), (.iconst 1, []), (.iadd, []), (.iaload, []), (.ifCond .ne 17, [34]), (.aload_n 0, []), (.iload_n 2, []), (.aload_n 0, []), (.getfield 65, [12, 39]), (.iload_n 1, []), (.iconst 3, []), (.iadd, []), (.iaload, []), (.invokevirtual 342, [0, 209, 3, 12]), (.pop, []), (.nop, [34])]), (34, [(.aload_n 0, []), (.getfield 65, [12, 39]), (.iload_n 1, []), (.iconst 1, []), (.iadd, []), (.iaload, []), (.iconst 1, []), (.if_icmp .ne 9, [52]), (.aload_n 0, []), (.iload_n 2, []), (.invokevirtual 348, [0, 225, 2, 12]), (.pop, []), (.nop, [52])]), (52, [(.aload_n 0, []), (.getfield 65, [12, 39]), (.iload_n 1, []), (.iconst 1, []), (.iadd, []), (.iaload, []), (.iconst 2, []), (.if_icmp .ne 10, [71]), (.aload_n 0, []), (.iload_n 2, []), (.ineg, []), (.invokevirtual 348, [0, 225, 2, 12]), (.pop, []), (.nop, [71])]), (71, [(.aload_n 0, []), (.getfield 65, [12, 39]), (.iload_n 1, []), (.iconst 1, []), (.iadd, []), (.iaload, []), (.iconst 3, []), (.if_icmp .ne 9, [89]), (.aload_n 0, []), (.iload_n 2, []), (.invokevirtual 351, [0, 227, 2, 12]), (.pop, []), (.nop, [89])]), (89, [(.return_, [])])]
def pm_MO_slides : List (Nat × List ma_I) := [(0, [(.aload_n 0, []), (.getfield 7, [12, 1]), (.bipush 33, []), (.iload_n 1, []), (.iadd, []), (.iaload, []), (.istore_n 2, []), (.aload_n 0, []), (.iload_n 2, []), (.invokevirtual 354, [0, 232, 2, 12]), (.istore_n 3, []), (.aload_n 0, []), (.iload_n 3, []), (.invokevirtual 302, [0, 211, 2, 12]), (.aload_n 0, []), (.iload_n 2, []), (.invokevirtual 302, [0, 211, 2, 12]), (.aload_n 0, []), (.iload_n 2, []), (.invokevirtual 357, [0, 233, 2, 12]), (.isub, []), (.if_icmp .lt 4, [36]), (.return_, [])]), (36, [(.aload_n 0, []), (.getfield 7, [12, 1]), (.bipush 33, []), (.iload_n 1, []), (.iadd, []), (.iload_n 3, []), (.iastore, []), (.aload_n 0, []), (.iconst 2, []), (.iload_n 1, []), (.iload_n 3, []), (.invokevirtual 339, [0, 223, 4, 12]), (.return_, [])])]
def pm_MO_lowerBeside : List (Nat × List ma_I) := [(0, [(.iload_n 1, []), (.ifCond .ne 5, [6]), (.iconst 1, []), (.ireturn, [0])]), (6, [(.iload_n 1, []), (.aload_n 0, []), (.invokevirtual 122, [0, 166, 1, 12]), (.iconst 1, []), (.isub, []), (.if_icmp .ne 7, [20]), (.iload_n 1, []), (.iconst 1, []), (.isub, []), (.ireturn, [0])]), (20, [(.aload_n 0, []), (.iload_n 1, []), (.iconst 1, []), (.iadd, []), (.invokevirtual 302, [0, 211, 2, 12]), (.aload_n 0, []), (.iload_n 1, []), (.iconst 1, []), (.isub, []), (.invokevirtual 302, [0, 211, 2, 12]), (.if_icmp .ge 9, [43]), (.iload_n 1, []), (.iconst 1, []), (.iadd, []), (.goto 6, [46])]), (43, [(.iload_n 1, []), (.iconst 1, []), (.isub, []), (.nop, [46])]), (46, [(.ireturn, [0])])]
def pm_MO_slideOf : List (Nat × List ma_I) := [(0, [(.aload_n 0, []), (.iload_n 1, []), (.aload_n 0, []), (.getfield 7, [12, 1]), (.iconst 0, []), (.iaload, []), (.bipush 24, []), (.irem, []), (.iconst 0, []), (.invokevirtual 320, [0, 213, 4, 12]), (.aload_n 0, []), (.iconst 1, []), (.iconst 2, []), (.bipush 40, []), (.invokevirtual 324, [0, 216, 4, 12]), (.ireturn, [0])])]
def pm_MO_scrapes : List (Nat × List ma_I) := [(0, [(.aload_n 0, []), (.getfield 19, [12, 11]), (.iload_n 1, []), (.iaload, []), (.aload_n 0, []), (.aload_n 0, []), (.getfield 7, [12, 1]), (.bipush 33, []), (.iload_n 1, []), (.iadd, []), (.iaload, []), (.invokevirtual 302, [0, 211, 2, 12]), (.isub, []), (.istore_n 2, []), (.iload_n 2, []), (.ifCond .gt 4, [26]), (.return_, [])]), (26, [(.aload_n 0, []), (.getfield 7, [12, 1]), (.bipush 41, []), (.iload_n 1, []), (.iadd, []), (.aload_n 0, []), (.getfield 7, [12, 1]), (.bipush 41, []), (.iload_n 1, []), (.iadd, []), (.iaload, []), (.iconst 1, []), (.iadd, []), (.iastore, []), (.aload_n 0, []), (.iconst 3, []), (.iload_n 1, []), (.iload_n 2, []), (.invokevirtual 339, [0, 223, 4, 12]), (.aload_n 0, []), (.getfield 108, [12, 44]), (.iconst (-1), []), (.if_icmp .ne 8, [66]), (.aload_n 0, []), (.iload_n 1, []), (.putfield 108, [12, 44, 0]), (.nop, [66])]), (66, [(.return_, [])])]
def pm_MO_pays : List (Nat × List ma_I) := [(0, [(.iconst 0, []), (.istore_n 1, []), (.iconst 0, []), (.istore_n 2, []), (.nop, [4])]), (4, [(.iload_n 2, []), (.aload_n 0, []), (.getfield 142, [12, 40]), (.if_icmp .ge 98, [107]), (.iconst 5, []), (.iload_n 2, []), (.imul, []), (.istore_n 3, []), (.aload_n 0, []), (.iload_n 2, []), (.aload_n 0, []), (.getfield 7, [12, 1]), (.iconst 0, []), (.iaload, []), (.bipush 24, []), (.irem, []), (.invokevirtual 360, [0, 236, 3, 12]), (.ifCond .eq 71, [101]), (.aload_n 0, []), (.aload_n 0, []), (.getfield 22, [12, 12]), (.aload_n 0, []), (.getfield 68, [12, 41]), (.iload_n 3, []), (.iaload, []), (.iaload, []), (.invokevirtual 302, [0, 211, 2, 12]), (.aload_n 0, []), (.getfield 68, [12, 41]), (.iload_n 3, []), (.iconst 1, []), (.iadd, []), (.iaload, []), (.if_icmp .eq 6, [62]), (.goto 42, [101])]), (62, [(.aload_n 0, []), (.getfield 7, [12, 1]), (.iconst 3, []), (.aload_n 0, []), (.getfield 7, [12, 1]), (.iconst 3, []), (.iaload, []), (.aload_n 0, []), (.getfield 68, [12, 41]), (.iload_n 3, []), (.iconst 4, []), (.iadd, []), (.iaload, []), (.iadd, []), (.iastore, []), (.aload_n 0, []), (.iconst 4, []), (.iload_n 2, []), (.aload_n 0, []), (.getfield 68, [12, 41]), (.iload_n 3, []), (.iconst 4, []), (.iadd, []), (.iaload, []), (.invokevirtual 339, [0, 223, 4, 12]), (.iload_n 1, []), (.iconst 1, []), (.iadd, []), (.istore_n 1, []), (.nop, [101])]), (101, [(.iinc 2 1, []), (.goto (-100), [4])]), (107, [(.iload_n 1, []), (.ireturn, [0])])]
def pm_MO_isWantedAt : List (Nat × List ma_I) := [(0, [(.aload_n 0, []), (.iload_n 2, []), (.aload_n 0, []), (.getfield 68, [12, 41]), (.iconst 5, []), (.iload_n 1, []), (.imul, []), (.iconst 2, []), (.iadd, []), (.iaload, []), (.aload_n 0, []), (.getfield 68, [12, 41]), (.iconst 5, []), (.iload_n 1, []), (.imul, []), (.iconst 3, []), (.iadd, []), (.iaload, []), (.invokevirtual 132, [0, 163, 4, 12]), (.ireturn, [1])])]
def pm_MO_wears : List (Nat × List ma_I) := [(0, [(.aload_n 0, []), (.iload_n 1, []), (.invokevirtual 302, [0, 211, 2, 12]), (.ifCond .ne 4, [9]), (.return_, [])]), (9, [(.aload_n 0, []), (.getfield 7, [12, 1]), (.bipush 19, []), (.iload_n 1, []), (.iadd, []), (.aload_n 0, []), (.bipush 99, []), (.aload_n 0, []), (.getfield 7, [12, 1]), (.bipush 19, []), (.iload_n 1, []), (.iadd, []), (.iaload, []), (.aload_n 0, []), (.iload_n 1, []), (.invokevirtual 364, [0, 238, 2, 12]), (.iadd, []), (.invokevirtual 333, [0, 221, 3, 12]), (.iastore, []), (.aload_n 0, []), (.getfield 7, [12, 1]), (.bipush 19, []), (.iload_n 1, []), (.iadd, []), (.iaload, []), (.bipush 99, []), (.if_icmp .ge 4, [54]), (.return_, [])]), (54, [(.aload_n 0, []), (.iconst 5, []), (.iload_n 1, []), (.aload_n 0, []), (.iload_n 1, []), (.invokevirtual 302, [0, 211, 2, 12]), (.invokevirtual 339, [0, 223, 4, 12]), (.aload_n 0, []), (.iload_n 1, []), (.iconst 0, []), (.invokevirtual 336, [0, 222, 3, 12]), (.aload_n 0, []), (.getfield 7, [12, 1]), (.bipush 19, []), (.iload_n 1, []), (.iadd, []), (.iconst 0, []), (.iastore, []), (.aload_n 0, []), (.getfield 7, [12, 1]), (.iconst 4, []), (.aload_n 0, []), (.getfield 7, [12, 1]), (.iconst 4, []), (.iaload, []), (.iconst 1, []), (.iadd, []), (.iastore, []), (.aload_n 0, []), (.getfield 111, [12, 45]), (.iconst (-1), []), (.if_icmp .ne 8, [108]), (.aload_n 0, []), (.iload_n 1, []), (.putfield 111, [12, 45, 0]), (.nop, [108])]), (108, [(.return_, [])])]
def pm_MO_wearOf : List (Nat × List ma_I) := [(0, [(.aload_n 0, []), (.iload_n 1, []), (.aload_n 0, []), (.getfield 7, [12, 1]), (.iconst 0, []), (.iaload, []), (.bipush 24, []), (.irem, []), (.iconst 0, []), (.invokevirtual 320, [0, 213, 4, 12]), (.aload_n 0, []), (.iconst 0, []), (.aload_n 0, []), (.getfield 71, [12, 42]), (.iconst 5, []), (.iaload, []), (.bipush 99, []), (.invokevirtual 324, [0, 216, 4, 12]), (.ireturn, [0])])]
def pm_MO_blows : List (Nat × List ma_I) := [(0, [(.aload_n 0, []), (.getfield 104, [12, 5]), (.ifCond .ne 24, [28]), (.aload_n 0, []), (.getfield 136, [12, 8]), (.ifCond .eq 17, [28]), (.aload_n 0, []), (.sipush 1000, []), (.invokevirtual 367, [0, 240, 2, 12]), (.aload_n 0, []), (.getfield 136, [12, 8]), (.if_icmp .lt 4, [29]), (.nop, [28])]), (28, [(.return_, [])]), (29, [(.aload_n 0, []), (.aload_n 0, []), (.invokevirtual 122, [0, 166, 1, 12]), (.invokevirtual 367, [0, 240, 2, 12]), (.istore_n 1, []), (.aload_n 0, []), (.iload_n 1, []), (.aload_n 0, []), (.iconst 0, []), (.aload_n 0, []), (.iload_n 1, []), (.invokevirtual 302, [0, 211, 2, 12]), (.iconst 1, []), (.isub, []), (.invokevirtual 308, [0, 212, 3, 12]), (.invokevirtual 336, [0, 222, 3, 12]), (.aload_n 0, []), (.bipush 6, []), (.iload_n 1, []), (.aload_n 0, []), (.iload_n 1, []), (.invokevirtual 302, [0, 211, 2, 12]), (.invokevirtual 339, [0, 223, 4, 12]), (.return_, [])])]
def pm_MO_draw : List (Nat × List ma_I) := [(0, [(.aload_n 0, []), (.getfield 7, [12, 1]), (.iconst 1, []), (.ldc 114, [0, 1664525]), (.aload_n 0, []), (.getfield 7, [12, 1]), (.iconst 1, []), (.iaload, []), (.imul, []), (.ldc 115, [0, 1013904223]), (.iadd, []), (.iastore, []), (.aload_n 0, []), (.getfield 7, [12, 1]), (.iconst 1, []), (.iaload, []), (.bipush 8, []), (.iushr, []), (.iload_n 1, []), (.irem, []), (.ireturn, [0])])]
def pm_MO_of : List (Nat × List ma_I) := [(0, [(.aload_n 0, []), (.iconst 0, []), (.putfield 98, [12, 0, 0]), (.aload_n 0, []), (.iload_n 1, []), (.invokevirtual 148, [0, 165, 2, 12]), (.ifCond .ne 6, [16]), (.bipush (-2), []), (.ireturn, [0])]), (16, [(.iload_n 2, []), (.ifCond .ne 9, [26]), (.aload_n 0, []), (.iload_n 1, []), (.invokevirtual 302, [0, 211, 2, 12]), (.ireturn, [0])]), (26, [(.iload_n 2, []), (.iconst 1, []), (.if_icmp .ne 13, [41]), (.aload_n 0, []), (.getfield 7, [12, 1]), (.bipush 19, []), (.iload_n 1, []), (.iadd, []), (.iaload, []), (.ireturn, [0])]), (41, [(.iload_n 2, []), (.iconst 2, []), (.if_icmp .ne 9, [52]), (.aload_n 0, []), (.iload_n 1, []), (.invokevirtual 364, [0, 238, 2, 12]), (.ireturn, [0])]), (52, [(.iload_n 2, []), (.iconst 3, []), (.if_icmp .ne 9, [63]), (.aload_n 0, []), (.iload_n 1, []), (.invokevirtual 357, [0, 233, 2, 12]), (.ireturn, [0])]), (63, [(.iload_n 2, []), (.iconst 4, []), (.if_icmp .ne 11, [76]), (.aload_n 0, []), (.iload_n 1, []), (.invokevirtual 391, [0, 242, 2, 12]), (.goto 18, [91])]), (76, [(.iload_n 2, []), (.iconst 5, []), (.if_icmp .ne 11, [89]), (.aload_n 0, []), (.iload_n 1, []), (.invokevirtual 311, [0, 214, 2, 12]), (.goto 5, [91])]), (89, [(.bipush (-2), []), (.nop, [91])]), (91, [(.ireturn, [0])])]
def pm_MO_duskOf : List (Nat × List ma_I) := [(0, [(.iconst 0, []), (.istore_n 2, []), (.nop, [2])]), (2, [(.iload_n 2, []), (.bipush 24, []), (.if_icmp .ge 25, [30]), (.aload_n 0, []), (.iload_n 1, []), (.iload_n 2, []), (.invokevirtual 327, [0, 243, 3, 12]), (.aload_n 0, []), (.iload_n 1, []), (.invokevirtual 302, [0, 211, 2, 12]), (.if_icmp .gt 5, [24]), (.iload_n 2, []), (.ireturn, [0])]), (24, [(.iinc 2 1, []), (.goto (-25), [2])]), (30, [(.iconst (-1), []), (.ireturn, [0])])]
def pm_MO_sunOver : List (Nat × List ma_I) := [(0, [(.aload_n 0, []), (.iload_n 1, []), (.iload_n 2, []), (.iconst 0, []), (.invokevirtual 320, [0, 213, 4, 12]), (.aload_n 0, []), (.iconst 3, []), (.bipush 60, []), (.iconst 3, []), (.iload_n 2, []), (.imul, []), (.isub, []), (.bipush 99, []), (.invokevirtual 324, [0, 216, 4, 12]), (.ireturn, [0])])]
def pm_MO_sun : List (Nat × List ma_I) := [(0, [(.aload_n 0, []), (.iconst 0, []), (.putfield 98, [12, 0, 0]), (.aload_n 0, []), (.iload_n 1, []), (.invokevirtual 148, [0, 165, 2, 12]), (.ifCond .eq 23, [33]), (.aload_n 0, []), (.iload_n 2, []), (.iconst 0, []), (.bipush 23, []), (.invokevirtual 132, [0, 163, 4, 12]), (.ifCond .eq 12, [33]), (.aload_n 0, []), (.iload_n 1, []), (.iload_n 2, []), (.invokevirtual 327, [0, 243, 3, 12]), (.goto 4, [34])]), (33, [(.iconst (-1), []), (.nop, [34])]), (34, [(.ireturn, [0])])]
def pm_MO_costs : List (Nat × List ma_I) := [(0, [(.aload_n 0, []), (.iconst 0, []), (.putfield 98, [12, 0, 0]), (.aload_n 0, []), (.iload_n 1, []), (.invokevirtual 148, [0, 165, 2, 12]), (.ifCond .eq 23, [33]), (.aload_n 0, []), (.iload_n 2, []), (.iconst 0, []), (.bipush 40, []), (.invokevirtual 132, [0, 163, 4, 12]), (.ifCond .eq 12, [33]), (.aload_n 0, []), (.iload_n 1, []), (.iload_n 2, []), (.invokevirtual 330, [0, 210, 3, 12]), (.goto 4, [34])]), (33, [(.iconst (-1), []), (.nop, [34])]), (34, [(.ireturn, [0])])]
def pm_MO_shipOf : List (Nat × List ma_I) := [(0, [(.aload_n 0, []), (.iconst 0, []), (.putfield 98, [12, 0, 0]), (.aload_n 0, []), (.iload_n 1, []), (.invokevirtual 152, [0, 170, 2, 12]), (.ifCond .ne 5, [15]), (.iconst (-1), []), (.ireturn, [0])]), (15, [(.iload_n 2, []), (.ifCond .ne 15, [31]), (.aload_n 0, []), (.getfield 7, [12, 1]), (.bipush 33, []), (.iload_n 1, []), (.iadd, []), (.iaload, []), (.goto 35, [63])]), (31, [(.iload_n 2, []), (.iconst 1, []), (.if_icmp .ne 12, [45]), (.aload_n 0, []), (.getfield 19, [12, 11]), (.iload_n 1, []), (.iaload, []), (.goto 21, [63])]), (45, [(.iload_n 2, []), (.iconst 2, []), (.if_icmp .ne 15, [62]), (.aload_n 0, []), (.getfield 7, [12, 1]), (.bipush 41, []), (.iload_n 1, []), (.iadd, []), (.iaload, []), (.goto 4, [63])]), (62, [(.iconst (-1), []), (.nop, [63])]), (63, [(.ireturn, [0])])]
def pm_MO_pierOf : List (Nat × List ma_I) := [(0, [(.aload_n 0, []), (.iconst 0, []), (.putfield 98, [12, 0, 0]), (.aload_n 0, []), (.iload_n 1, []), (.invokevirtual 155, [0, 171, 2, 12]), (.ifCond .ne 5, [15]), (.iconst (-1), []), (.ireturn, [0])]), (15, [(.iload_n 2, []), (.ifCond .ne 12, [28]), (.aload_n 0, []), (.getfield 22, [12, 12]), (.iload_n 1, []), (.iaload, []), (.goto 31, [56])]), (28, [(.iload_n 2, []), (.iconst 1, []), (.if_icmp .ne 12, [42]), (.aload_n 0, []), (.getfield 25, [12, 13]), (.iload_n 1, []), (.iaload, []), (.goto 17, [56])]), (42, [(.iload_n 2, []), (.iconst 2, []), (.if_icmp .ne 11, [55]), (.aload_n 0, []), (.iload_n 1, []), (.invokevirtual 397, [0, 248, 2, 12]), (.goto 4, [56])]), (55, [(.iconst (-1), []), (.nop, [56])]), (56, [(.ireturn, [0])])]
def pm_MO_seenFrom : List (Nat × List ma_I) := [(0, [(.iconst 0, []), (.istore_n 2, []), (.iconst 0, []), (.istore_n 3, []), (.nop, [4])]), (4, [(.iload_n 3, []), (.aload_n 0, []), (.invokevirtual 122, [0, 166, 1, 12]), (.if_icmp .ge 24, [33]), (.aload_n 0, []), (.iload_n 1, []), (.iload_n 3, []), (.invokevirtual 394, [0, 249, 3, 12]), (.ifCond .eq 9, [27]), (.iload_n 2, []), (.iconst 1, []), (.iload_n 3, []), (.ishl, []), (.ior, []), (.istore_n 2, []), (.nop, [27])]), (27, [(.iinc 3 1, []), (.goto (-26), [4])]), (33, [(.iload_n 2, []), (.ireturn, [0])])]
def pm_MO_doesSee : List (Nat × List ma_I) := [(0, [(.aload_n 0, []), (.getfield 22, [12, 12]), (.iload_n 1, []), (.iaload, []), (.istore_n 3, []), (.aload_n 0, []), (.iload_n 3, []), (.iload_n 2, []), (.invokevirtual 333, [0, 221, 3, 12]), (.iconst 1, []), (.iadd, []), (.istore 4, []), (.nop, [17])]), (17, [(.iload 4, []), (.aload_n 0, []), (.iload_n 3, []), (.iload_n 2, []), (.invokevirtual 308, [0, 212, 3, 12]), (.if_icmp .ge 32, [57]), (.aload_n 0, []), (.iload 4, []), (.invokevirtual 302, [0, 211, 2, 12]), (.aload_n 0, []), (.iload_n 3, []), (.invokevirtual 302, [0, 211, 2, 12]), (.aload_n 0, []), (.getfield 25, [12, 13]), (.iload_n 1, []), (.iaload, []), (.iadd, []), (.if_icmp .le 5, [51]), (.iconst 0, []), (.ireturn, [1])]), (51, [(.iinc 4 1, []), (.goto (-37), [17])]), (57, [(.iconst 1, []), (.ireturn, [1])])]
def pm_MO_book : List (Nat × List ma_I) := [(0, [(.aload_n 0, []), (.iconst 0, []), (.putfield 98, [12, 0, 0]), (.aload_n 0, []), (.iload_n 1, []), (.iconst 0, []), (.aload_n 0, []), (.getfield 7, [12, 1]), (.iconst 2, []), (.iaload, []), (.iconst 1, []), (.isub, []), (.invokevirtual 132, [0, 163, 4, 12]), (.ifCond .eq 26, [45]), (.aload_n 0, []), (.iload_n 2, []), (.iconst 0, []), (.iconst 3, []), (.invokevirtual 132, [0, 163, 4, 12]), (.ifCond .eq 16, [45]), (.aload_n 0, []), (.getfield 28, [12, 14]), (.iconst 4, []), (.iload_n 1, []), (.imul, []), (.iload_n 2, []), (.iadd, []), (.iaload, []), (.goto 4, [46])]), (45, [(.iconst (-1), []), (.nop, [46])]), (46, [(.ireturn, [0])])]
def pm_MO_goes : List (Nat × List ma_I) := [(0, [(.aload_n 0, []), (.iconst 0, []), (.putfield 98, [12, 0, 0]), (.aload_n 0, []), (.iload_n 1, []), (.iconst 1, []), (.bipush 99, []), (.invokevirtual 132, [0, 163, 4, 12]), (.ifCond .eq 13, [26]), (.aload_n 0, []), (.iload_n 2, []), (.iconst 0, []), (.iconst 4, []), (.invokevirtual 132, [0, 163, 4, 12]), (.ifCond .ne 7, [30]), (.nop, [26])]), (26, [(.ldc_w 400, [0, 4294867296]), (.ireturn, [0])]), (30, [(.aload_n 0, []), (.invokevirtual 401, [0, 252, 1, 12]), (.iconst 0, []), (.istore_n 3, []), (.nop, [36])]), (36, [(.iload_n 3, []), (.iload_n 1, []), (.if_icmp .ge 14, [52]), (.aload_n 0, []), (.invokevirtual 388, [0, 229, 1, 12]), (.pop, []), (.iinc 3 1, []), (.goto (-13), [36])]), (52, [(.iconst 0, []), (.istore_n 3, []), (.iconst 0, []), (.istore 4, []), (.nop, [57])]), (57, [(.iload 4, []), (.aload_n 0, []), (.getfield 126, [12, 9]), (.if_icmp .ge 22, [85]), (.iload_n 3, []), (.aload_n 0, []), (.getfield 7, [12, 1]), (.bipush 41, []), (.iload 4, []), (.iadd, []), (.iaload, []), (.iadd, []), (.istore_n 3, []), (.iinc 4 1, []), (.goto (-25), [57])]), (85, [(.iload_n 2, []), (.ifCond .ne 12, [98]), (.aload_n 0, []), (.getfield 7, [12, 1]), (.iconst 3, []), (.iaload, []), (.goto 42, [137])]), (98, [(.iload_n 2, []), (.iconst 1, []), (.if_icmp .ne 7, [107]), (.iload_n 3, []), (.goto 33, [137])]), (107, [(.iload_n 2, []), (.iconst 2, []), (.if_icmp .ne 12, [121]), (.aload_n 0, []), (.getfield 7, [12, 1]), (.iconst 4, []), (.iaload, []), (.goto 19, [137])]), (121, [(.iload_n 2, []), (.iconst 3, []), (.if_icmp .ne 10, [133]), (.aload_n 0, []), (.getfield 108, [12, 44]), (.goto 7, [137])]), (133, [(.aload_n 0, []), (.getfield 111, [12, 45]), (.nop, [137])]), (137, [(.istore 4, []), (.aload_n 0, []), (.invokevirtual 404, [0, 253, 1, 12]), (.iload 4, []), (.ireturn, [0])])]
def pm_MO_thinks : List (Nat × List ma_I) := [(0, [(.iconst 0, []), (.istore_n 1, []), (.nop, [2])]), (2, [(.iload_n 1, []), (.bipush 49, []), (.if_icmp .ge 21, [26]), (.aload_n 0, []), (.getfield 16, [12, 4]), (.iload_n 1, []), (.aload_n 0, []), (.getfield 7, [12, 1]), (.iload_n 1, []), (.iaload, []), (.iastore, []), (.iinc 1 1, []), (.goto (-21), [2])]), (26, [(.aload_n 0, []), (.iconst 1, []), (.putfield 104, [12, 5, 1]), (.aload_n 0, []), (.iconst (-1), []), (.putfield 108, [12, 44, 0]), (.aload_n 0, []), (.iconst (-1), []), (.putfield 111, [12, 45, 0]), (.return_, [])])]
def pm_MO_endsThought : List (Nat × List ma_I) := [(0, [(.iconst 0, []), (.istore_n 1, []), (.nop, [2])]), (2, [(.iload_n 1, []), (.bipush 49, []), (.if_icmp .ge 21, [26]), (.aload_n 0, []), (.getfield 7, [12, 1]), (.iload_n 1, []), (.aload_n 0, []), (.getfield 16, [12, 4]), (.iload_n 1, []), (.iaload, []), (.iastore, []), (.iinc 1 1, []), (.goto (-21), [2])]), (26, [(.aload_n 0, []), (.iconst 0, []), (.putfield 104, [12, 5, 1]), (.return_, [])])]
def pm_MO_meets : List (Nat × List ma_I) := [(0, [(.aload_n 0, []), (.iconst 0, []), (.putfield 98, [12, 0, 0]), (.aload_n 0, []), (.iload_n 1, []), (.iconst 0, []), (.bipush 23, []), (.invokevirtual 132, [0, 163, 4, 12]), (.ifCond .eq 13, [26]), (.aload_n 0, []), (.iload_n 2, []), (.iconst 0, []), (.iconst 3, []), (.invokevirtual 132, [0, 163, 4, 12]), (.ifCond .ne 5, [28]), (.nop, [26])]), (26, [(.iconst (-1), []), (.ireturn, [0])]), (28, [(.iconst 0, []), (.istore_n 3, []), (.iconst 0, []), (.istore 4, []), (.nop, [33])]), (33, [(.iload 4, []), (.aload_n 0, []), (.getfield 142, [12, 40]), (.if_icmp .ge 26, [65]), (.aload_n 0, []), (.iload 4, []), (.iload_n 1, []), (.invokevirtual 360, [0, 236, 3, 12]), (.ifCond .eq 10, [59]), (.iload_n 3, []), (.iconst 1, []), (.iload 4, []), (.ishl, []), (.ior, []), (.istore_n 3, []), (.nop, [59])]), (59, [(.iinc 4 1, []), (.goto (-29), [33])]), (65, [(.iload_n 2, []), (.iconst 1, []), (.if_icmp .le 88, [155]), (.iconst 0, []), (.istore 4, []), (.nop, [73])]), (73, [(.iload 4, []), (.aload_n 0, []), (.getfield 142, [12, 40]), (.if_icmp .ge 74, [153]), (.iload 4, []), (.iconst 1, []), (.iadd, []), (.istore 5, []), (.nop, [88])]), (88, [(.iload 5, []), (.aload_n 0, []), (.getfield 142, [12, 40]), (.if_icmp .ge 53, [147]), (.aload_n 0, []), (.iload_n 3, []), (.iload 4, []), (.invokevirtual 410, [0, 255, 3, 12]), (.ifCond .eq 37, [141]), (.aload_n 0, []), (.iload_n 3, []), (.iload 5, []), (.invokevirtual 410, [0, 255, 3, 12]), (.ifCond .eq 27, [141]), (.aload_n 0, []), (.iload 4, []), (.iload 5, []), (.invokevirtual 413, [0, 256, 3, 12]), (.ifCond .ne 16, [141]), (.iload_n 2, []), (.iconst 2, []), (.if_icmp .ne 8, [138]), (.iload 4, []), (.goto 5, [140])]), (138, [(.iload 5, []), (.nop, [140])]), (140, [(.ireturn, [0])]), (141, [(.iinc 5 1, []), (.goto (-56), [88])]), (147, [(.iinc 4 1, []), (.goto (-77), [73])]), (153, [(.iconst (-1), []), (.ireturn, [0])]), (155, [(.iconst 0, []), (.istore 4, []), (.iconst 1, []), (.istore 5, []), (.nop, [161])]), (161, [(.iload 5, []), (.iload_n 3, []), (.if_icmp .gt 46, [210]), (.iload 5, []), (.iload_n 3, []), (.iconst (-1), []), (.ixor, []), (.iand, []), (.ifCond .ne 31, [204]), (.aload_n 0, []), (.iload 5, []), (.invokevirtual 416, [0, 258, 2, 12]), (.aload_n 0, []), (.iload 4, []), (.invokevirtual 416, [0, 258, 2, 12]), (.if_icmp .le 16, [204]), (.aload_n 0, []), (.iload 5, []), (.invokevirtual 419, [0, 259, 2, 12]), (.ifCond .eq 7, [204]), (.iload 5, []), (.istore 4, []), (.nop, [204])]), (204, [(.iinc 5 1, []), (.goto (-46), [161])]), (210, [(.iload_n 2, []), (.ifCond .ne 12, [223]), (.aload_n 0, []), (.iload 4, []), (.invokevirtual 416, [0, 258, 2, 12]), (.goto 5, [225])]), (223, [(.iload 4, []), (.nop, [225])]), (225, [(.ireturn, [0])])]
def pm_MO_has : List (Nat × List ma_I) := [(0, [(.iload_n 1, []), (.iload_n 2, []), (.ishr, []), (.iconst 1, []), (.iand, []), (.iconst 1, []), (.if_icmp .ne 7, [13]), (.iconst 1, []), (.goto 4, [14])]), (13, [(.iconst 0, []), (.nop, [14])]), (14, [(.ireturn, [1])])]
def pm_MO_canMeet : List (Nat × List ma_I) := [(0, [(.aload_n 0, []), (.aload_n 0, []), (.getfield 22, [12, 12]), (.aload_n 0, []), (.getfield 68, [12, 41]), (.iconst 5, []), (.iload_n 1, []), (.imul, []), (.iaload, []), (.iaload, []), (.aload_n 0, []), (.getfield 22, [12, 12]), (.aload_n 0, []), (.getfield 68, [12, 41]), (.iconst 5, []), (.iload_n 2, []), (.imul, []), (.iaload, []), (.iaload, []), (.invokevirtual 305, [0, 215, 3, 12]), (.istore_n 3, []), (.aload_n 0, []), (.aload_n 0, []), (.getfield 68, [12, 41]), (.iconst 5, []), (.iload_n 1, []), (.imul, []), (.iconst 1, []), (.iadd, []), (.iaload, []), (.aload_n 0, []), (.getfield 68, [12, 41]), (.iconst 5, []), (.iload_n 2, []), (.imul, []), (.iconst 1, []), (.iadd, []), (.iaload, []), (.invokevirtual 305, [0, 215, 3, 12]), (.aload_n 0, []), (.invokevirtual 407, [0, 257, 1, 12]), (.iload_n 3, []), (.imul, []), (.if_icmp .gt 7, [68]), (.iconst 1, []), (.goto 4, [69])]), (68, [(.iconst 0, []), (.nop, [69])]), (69, [(.ireturn, [1])])]
def pm_MO_steep : List (Nat × List ma_I) := [(0, [(.aload_n 0, []), (.getfield 119, [12, 7]), (.iconst 3, []), (.iadd, []), (.ireturn, [0])])]
def pm_MO_paidBy : List (Nat × List ma_I) := [(0, [(.iconst 0, []), (.istore_n 2, []), (.iconst 0, []), (.istore_n 3, []), (.nop, [4])]), (4, [(.iload_n 3, []), (.aload_n 0, []), (.getfield 142, [12, 40]), (.if_icmp .ge 31, [40]), (.aload_n 0, []), (.iload_n 1, []), (.iload_n 3, []), (.invokevirtual 410, [0, 255, 3, 12]), (.ifCond .eq 16, [34]), (.iload_n 2, []), (.aload_n 0, []), (.getfield 68, [12, 41]), (.iconst 5, []), (.iload_n 3, []), (.imul, []), (.iconst 4, []), (.iadd, []), (.iaload, []), (.iadd, []), (.istore_n 2, []), (.nop, [34])]), (34, [(.iinc 3 1, []), (.goto (-33), [4])]), (40, [(.iload_n 2, []), (.ireturn, [0])])]
def pm_MO_canAllMeet : List (Nat × List ma_I) := [(0, [(.iconst 0, []), (.istore_n 2, []), (.nop, [2])]), (2, [(.iload_n 2, []), (.aload_n 0, []), (.getfield 142, [12, 40]), (.if_icmp .ge 51, [58]), (.iconst 0, []), (.istore_n 3, []), (.nop, [12])]), (12, [(.iload_n 3, []), (.iload_n 2, []), (.if_icmp .ge 38, [52]), (.aload_n 0, []), (.iload_n 1, []), (.iload_n 2, []), (.invokevirtual 410, [0, 255, 3, 12]), (.ifCond .eq 23, [46]), (.aload_n 0, []), (.iload_n 1, []), (.iload_n 3, []), (.invokevirtual 410, [0, 255, 3, 12]), (.ifCond .eq 14, [46]), (.aload_n 0, []), (.iload_n 2, []), (.iload_n 3, []), (.invokevirtual 413, [0, 256, 3, 12]), (.ifCond .ne 5, [46]), (.iconst 0, []), (.ireturn, [1])]), (46, [(.iinc 3 1, []), (.goto (-37), [12])]), (52, [(.iinc 2 1, []), (.goto (-53), [2])]), (58, [(.iconst 1, []), (.ireturn, [1])])]
def pm_MO_smooth : List (Nat × List ma_I) := [(0, [(.aload_n 0, []), (.iconst 0, []), (.putfield 98, [12, 0, 0]), (.iload_n 1, []), (.ifCond .eq 22, [28]), (.aload_n 0, []), (.iload_n 1, []), (.bipush 10, []), (.bipush 9, []), (.aload_n 0, []), (.invokevirtual 122, [0, 166, 1, 12]), (.iadd, []), (.invokevirtual 132, [0, 163, 4, 12]), (.ifCond .ne 5, [28]), (.iconst (-1), []), (.ireturn, [0])]), (28, [(.aload_n 0, []), (.invokevirtual 426, [0, 261, 1, 12]), (.ldc_w 422, [0, 1000000]), (.istore_n 2, []), (.iconst 0, []), (.istore_n 3, []), (.nop, [38])]), (38, [(.iload_n 3, []), (.bipush 40, []), (.if_icmp .gt 21, [62]), (.aload_n 0, []), (.iload_n 2, []), (.aload_n 0, []), (.getfield 77, [12, 46]), (.iload_n 3, []), (.iaload, []), (.invokevirtual 333, [0, 221, 3, 12]), (.istore_n 2, []), (.iinc 3 1, []), (.goto (-21), [38])]), (62, [(.iload_n 1, []), (.ifCond .ne 5, [68]), (.iload_n 2, []), (.ireturn, [0])]), (68, [(.iconst 0, []), (.istore_n 3, []), (.iconst 0, []), (.istore 4, []), (.nop, [73])]), (73, [(.iload 4, []), (.iload_n 1, []), (.bipush 10, []), (.isub, []), (.if_icmp .gt 75, [154]), (.iload 4, []), (.ifCond .ne 7, [91]), (.iconst 0, []), (.goto 14, [102])]), (91, [(.aload_n 0, []), (.iconst 0, []), (.iload_n 3, []), (.aload_n 0, []), (.invokevirtual 407, [0, 257, 1, 12]), (.isub, []), (.invokevirtual 308, [0, 212, 3, 12]), (.nop, [102])]), (102, [(.istore 5, []), (.nop, [104])]), (104, [(.aload_n 0, []), (.getfield 77, [12, 46]), (.bipush 41, []), (.iload 4, []), (.imul, []), (.iload 5, []), (.iadd, []), (.iaload, []), (.iload_n 2, []), (.if_icmp .eq 12, [130]), (.iload 5, []), (.iconst 1, []), (.iadd, []), (.istore 5, []), (.goto (-23), [104])]), (130, [(.iload_n 2, []), (.aload_n 0, []), (.iload 5, []), (.aload_n 0, []), (.iload 4, []), (.invokevirtual 302, [0, 211, 2, 12]), (.invokevirtual 305, [0, 215, 3, 12]), (.isub, []), (.istore_n 2, []), (.iload 5, []), (.istore_n 3, []), (.iinc 4 1, []), (.goto (-78), [73])]), (154, [(.iload_n 3, []), (.ireturn, [0])])]
def pm_MO_findsSmooth : List (Nat × List ma_I) := [(0, [(.aload_n 0, []), (.invokevirtual 122, [0, 166, 1, 12]), (.iconst 1, []), (.isub, []), (.istore_n 1, []), (.nop, [7])]), (7, [(.iload_n 1, []), (.ifCond .lt 53, [61]), (.iconst 0, []), (.istore_n 2, []), (.nop, [13])]), (13, [(.iload_n 2, []), (.bipush 40, []), (.if_icmp .gt 39, [55]), (.aload_n 0, []), (.getfield 77, [12, 46]), (.bipush 41, []), (.iload_n 1, []), (.imul, []), (.iload_n 2, []), (.iadd, []), (.aload_n 0, []), (.iload_n 2, []), (.aload_n 0, []), (.iload_n 1, []), (.invokevirtual 302, [0, 211, 2, 12]), (.invokevirtual 305, [0, 215, 3, 12]), (.aload_n 0, []), (.iload_n 1, []), (.iconst 1, []), (.iadd, []), (.iload_n 2, []), (.invokevirtual 423, [0, 262, 3, 12]), (.iadd, []), (.iastore, []), (.iinc 2 1, []), (.goto (-39), [13])]), (55, [(.iinc 1 (-1), []), (.goto (-51), [7])]), (61, [(.return_, [])])]
def pm_MO_leastNear : List (Nat × List ma_I) := [(0, [(.iload_n 1, []), (.aload_n 0, []), (.invokevirtual 122, [0, 166, 1, 12]), (.if_icmp .ne 5, [10]), (.iconst 0, []), (.ireturn, [0])]), (10, [(.ldc_w 422, [0, 1000000]), (.istore_n 3, []), (.aload_n 0, []), (.iconst 0, []), (.iload_n 2, []), (.aload_n 0, []), (.invokevirtual 407, [0, 257, 1, 12]), (.isub, []), (.invokevirtual 308, [0, 212, 3, 12]), (.istore 4, []), (.nop, [27])]), (27, [(.iload 4, []), (.aload_n 0, []), (.bipush 40, []), (.iload_n 2, []), (.aload_n 0, []), (.invokevirtual 407, [0, 257, 1, 12]), (.iadd, []), (.invokevirtual 333, [0, 221, 3, 12]), (.if_icmp .gt 27, [68]), (.aload_n 0, []), (.iload_n 3, []), (.aload_n 0, []), (.getfield 77, [12, 46]), (.bipush 41, []), (.iload_n 1, []), (.imul, []), (.iload 4, []), (.iadd, []), (.iaload, []), (.invokevirtual 333, [0, 221, 3, 12]), (.istore_n 3, []), (.iinc 4 1, []), (.goto (-38), [27])]), (68, [(.iload_n 3, []), (.ireturn, [0])])]
def pm_MO_folds : List (Nat × List ma_I) := [(0, [(.aload_n 0, []), (.iconst 0, []), (.putfield 98, [12, 0, 0]), (.iconst 0, []), (.istore_n 1, []), (.iconst 0, []), (.istore_n 2, []), (.nop, [9])]), (9, [(.iload_n 2, []), (.aload_n 0, []), (.invokevirtual 122, [0, 166, 1, 12]), (.if_icmp .ge 37, [51]), (.aload_n 0, []), (.iload_n 2, []), (.iload_n 2, []), (.iconst 1, []), (.isub, []), (.invokevirtual 429, [0, 264, 3, 12]), (.ifCond .eq 20, [45]), (.aload_n 0, []), (.iload_n 2, []), (.iload_n 2, []), (.iconst 1, []), (.iadd, []), (.invokevirtual 429, [0, 264, 3, 12]), (.ifCond .eq 9, [45]), (.iload_n 1, []), (.iconst 1, []), (.iload_n 2, []), (.ishl, []), (.ior, []), (.istore_n 1, []), (.nop, [45])]), (45, [(.iinc 2 1, []), (.goto (-39), [9])]), (51, [(.iload_n 1, []), (.ireturn, [0])])]
def pm_MO_isLowBy : List (Nat × List ma_I) := [(0, [(.iload_n 2, []), (.ifCond .lt 30, [31]), (.iload_n 2, []), (.aload_n 0, []), (.invokevirtual 122, [0, 166, 1, 12]), (.if_icmp .ge 22, [31]), (.aload_n 0, []), (.iload_n 1, []), (.invokevirtual 302, [0, 211, 2, 12]), (.aload_n 0, []), (.iload_n 2, []), (.invokevirtual 302, [0, 211, 2, 12]), (.aload_n 0, []), (.iload_n 2, []), (.invokevirtual 357, [0, 233, 2, 12]), (.isub, []), (.if_icmp .ge 7, [35]), (.nop, [31])]), (31, [(.iconst 1, []), (.goto 4, [36])]), (35, [(.iconst 0, []), (.nop, [36])]), (36, [(.ireturn, [1])])]
def pm_MO_sunset : List (Nat × List ma_I) := [(0, [(.aload_n 0, []), (.iconst 0, []), (.putfield 98, [12, 0, 0]), (.iload_n 1, []), (.iconst (-1), []), (.if_icmp .ne 10, [17]), (.aload_n 0, []), (.iconst 0, []), (.putfield 145, [12, 47, 0]), (.iconst 0, []), (.ireturn, [0])]), (17, [(.aload_n 0, []), (.iload_n 1, []), (.invokevirtual 148, [0, 165, 2, 12]), (.ifCond .eq 23, [45]), (.aload_n 0, []), (.iload_n 2, []), (.iconst 0, []), (.bipush 23, []), (.invokevirtual 132, [0, 163, 4, 12]), (.ifCond .eq 12, [45]), (.aload_n 0, []), (.getfield 145, [12, 47]), (.bipush 8, []), (.if_icmp .ne 5, [47]), (.nop, [45])]), (45, [(.iconst (-1), []), (.ireturn, [0])]), (47, [(.aload_n 0, []), (.getfield 80, [12, 48]), (.iconst 2, []), (.aload_n 0, []), (.getfield 145, [12, 47]), (.imul, []), (.iload_n 1, []), (.iastore, []), (.aload_n 0, []), (.getfield 80, [12, 48]), (.iconst 2, []), (.aload_n 0, []), (.getfield 145, [12, 47]), (.imul, []), (.iconst 1, []), (.iadd, []), (.iload_n 2, []), (.iastore, []), (.aload_n 0, []), (.aload_n 0, []), (.getfield 145, [12, 47]), (.iconst 1, []), (.iadd, []), (.putfield 145, [12, 47, 0]), (.aload_n 0, []), (.getfield 145, [12, 47]), (.ireturn, [0])])]
def pm_MO_lifted : List (Nat × List ma_I) := [(0, [(.aload_n 0, []), (.iconst 0, []), (.putfield 98, [12, 0, 0]), (.aload_n 0, []), (.iload_n 1, []), (.iconst 0, []), (.iconst 2, []), (.invokevirtual 132, [0, 163, 4, 12]), (.ifCond .ne 6, [18]), (.bipush (-100), []), (.ireturn, [0])]), (18, [(.aload_n 0, []), (.invokevirtual 401, [0, 252, 1, 12]), (.aload_n 0, []), (.invokevirtual 444, [0, 267, 1, 12]), (.iload_n 1, []), (.ifCond .ne 10, [37]), (.aload_n 0, []), (.getfield 432, [12, 50]), (.goto 33, [67])]), (37, [(.iload_n 1, []), (.iconst 1, []), (.if_icmp .ne 24, [63]), (.aload_n 0, []), (.getfield 432, [12, 50]), (.ifCond .ne 8, [54]), (.bipush (-100), []), (.goto 16, [67])]), (54, [(.aload_n 0, []), (.getfield 83, [12, 49]), (.iconst 0, []), (.iaload, []), (.goto 7, [67])]), (63, [(.aload_n 0, []), (.invokevirtual 447, [0, 270, 1, 12]), (.nop, [67])]), (67, [(.istore_n 2, []), (.aload_n 0, []), (.invokevirtual 404, [0, 253, 1, 12]), (.iload_n 2, []), (.ireturn, [0])])]
def pm_MO_findsFitting : List (Nat × List ma_I) := [(0, [(.aload_n 0, []), (.iconst 0, []), (.putfield 432, [12, 50, 0]), (.bipush (-20), []), (.istore_n 1, []), (.nop, [8])]), (8, [(.iload_n 1, []), (.bipush 20, []), (.if_icmp .gt 44, [55]), (.aload_n 0, []), (.iload_n 1, []), (.invokevirtual 435, [0, 268, 2, 12]), (.aload_n 0, []), (.invokevirtual 438, [0, 269, 1, 12]), (.ifCond .ne 6, [29]), (.goto 23, [49])]), (29, [(.aload_n 0, []), (.getfield 83, [12, 49]), (.aload_n 0, []), (.getfield 432, [12, 50]), (.iload_n 1, []), (.iastore, []), (.aload_n 0, []), (.aload_n 0, []), (.getfield 432, [12, 50]), (.iconst 1, []), (.iadd, []), (.putfield 432, [12, 50, 0]), (.nop, [49])]), (49, [(.iinc 1 1, []), (.goto (-44), [8])]), (55, [(.return_, [])])]
def pm_MO_liftsThought : List (Nat × List ma_I) := [(0, [(.iconst 0, []), (.istore_n 2, []), (.nop, [2])]), (2, [(.iload_n 2, []), (.aload_n 0, []), (.invokevirtual 122, [0, 166, 1, 12]), (.if_icmp .ge 40, [47]), (.aload_n 0, []), (.getfield 7, [12, 1]), (.iconst 5, []), (.iload_n 2, []), (.iadd, []), (.aload_n 0, []), (.aload_n 0, []), (.getfield 16, [12, 4]), (.iconst 5, []), (.iload_n 2, []), (.iadd, []), (.iaload, []), (.bipush 10, []), (.iadd, []), (.iload_n 1, []), (.iadd, []), (.iconst 0, []), (.bipush 40, []), (.invokevirtual 317, [0, 220, 4, 12]), (.bipush 10, []), (.isub, []), (.iastore, []), (.iinc 2 1, []), (.goto (-42), [2])]), (47, [(.return_, [])])]
def pm_MO_fitsLifted : List (Nat × List ma_I) := [(0, [(.iconst 0, []), (.istore_n 1, []), (.nop, [2])]), (2, [(.iload_n 1, []), (.aload_n 0, []), (.getfield 145, [12, 47]), (.if_icmp .ge 36, [43]), (.aload_n 0, []), (.aload_n 0, []), (.getfield 80, [12, 48]), (.iconst 2, []), (.iload_n 1, []), (.imul, []), (.iaload, []), (.invokevirtual 391, [0, 242, 2, 12]), (.aload_n 0, []), (.getfield 80, [12, 48]), (.iconst 2, []), (.iload_n 1, []), (.imul, []), (.iconst 1, []), (.iadd, []), (.iaload, []), (.if_icmp .eq 5, [37]), (.iconst 0, []), (.ireturn, [1])]), (37, [(.iinc 1 1, []), (.goto (-38), [2])]), (43, [(.iconst 1, []), (.ireturn, [1])])]
def pm_MO_bestLook : List (Nat × List ma_I) := [(0, [(.aload_n 0, []), (.getfield 432, [12, 50]), (.iconst 2, []), (.if_icmp .ge 5, [10]), (.iconst (-1), []), (.ireturn, [0])]), (10, [(.iconst 0, []), (.istore_n 1, []), (.ldc_w 422, [0, 1000000]), (.istore_n 2, []), (.iconst 0, []), (.istore_n 3, []), (.nop, [18])]), (18, [(.iload_n 3, []), (.aload_n 0, []), (.invokevirtual 122, [0, 166, 1, 12]), (.if_icmp .ge 36, [59]), (.aload_n 0, []), (.iload_n 3, []), (.invokevirtual 441, [0, 271, 2, 12]), (.istore 4, []), (.iload 4, []), (.iload_n 2, []), (.if_icmp .ge 7, [43]), (.iload_n 3, []), (.goto 4, [44])]), (43, [(.iload_n 1, []), (.nop, [44])]), (44, [(.istore_n 1, []), (.aload_n 0, []), (.iload_n 2, []), (.iload 4, []), (.invokevirtual 333, [0, 221, 3, 12]), (.istore_n 2, []), (.iinc 3 1, []), (.goto (-38), [18])]), (59, [(.iload_n 1, []), (.ireturn, [0])])]
def pm_MO_mostAlike : List (Nat × List ma_I) := [(0, [(.iconst 0, []), (.istore_n 2, []), (.nop, [2])]), (2, [(.iload_n 2, []), (.bipush 24, []), (.if_icmp .gt 16, [21]), (.aload_n 0, []), (.getfield 86, [12, 51]), (.iload_n 2, []), (.iconst 0, []), (.iastore, []), (.iinc 2 1, []), (.goto (-16), [2])]), (21, [(.iconst 0, []), (.istore_n 2, []), (.iconst 0, []), (.istore_n 3, []), (.nop, [25])]), (25, [(.iload_n 3, []), (.aload_n 0, []), (.getfield 432, [12, 50]), (.if_icmp .ge 70, [100]), (.aload_n 0, []), (.aload_n 0, []), (.getfield 83, [12, 49]), (.iload_n 3, []), (.iaload, []), (.invokevirtual 435, [0, 268, 2, 12]), (.aload_n 0, []), (.iload_n 1, []), (.invokevirtual 391, [0, 242, 2, 12]), (.istore 4, []), (.iload 4, []), (.iconst (-1), []), (.if_icmp .ne 8, [61]), (.bipush 24, []), (.goto 5, [63])]), (61, [(.iload 4, []), (.nop, [63])]), (63, [(.istore 5, []), (.aload_n 0, []), (.getfield 86, [12, 51]), (.iload 5, []), (.aload_n 0, []), (.getfield 86, [12, 51]), (.iload 5, []), (.iaload, []), (.iconst 1, []), (.iadd, []), (.iastore, []), (.aload_n 0, []), (.iload_n 2, []), (.aload_n 0, []), (.getfield 86, [12, 51]), (.iload 5, []), (.iaload, []), (.invokevirtual 308, [0, 212, 3, 12]), (.istore_n 2, []), (.iinc 3 1, []), (.goto (-72), [25])]), (100, [(.iload_n 2, []), (.ireturn, [0])])]
def pm_MO_over : List (Nat × List ma_I) := [(0, [(.aload_n 0, []), (.iconst 0, []), (.putfield 98, [12, 0, 0]), (.aload_n 0, []), (.iload_n 1, []), (.iconst 0, []), (.iconst 1, []), (.aload_n 0, []), (.invokevirtual 122, [0, 166, 1, 12]), (.ishl, []), (.iconst 1, []), (.isub, []), (.invokevirtual 132, [0, 163, 4, 12]), (.ifCond .ne 5, [24]), (.iconst (-1), []), (.ireturn, [0])]), (24, [(.iconst 0, []), (.istore_n 2, []), (.iconst 0, []), (.istore_n 3, []), (.nop, [28])]), (28, [(.iload_n 3, []), (.aload_n 0, []), (.getfield 129, [12, 10]), (.if_icmp .ge 27, [60]), (.iload_n 1, []), (.aload_n 0, []), (.iload_n 3, []), (.invokevirtual 397, [0, 248, 2, 12]), (.iconst (-1), []), (.ixor, []), (.iand, []), (.ifCond .ne 9, [54]), (.iload_n 2, []), (.iconst 1, []), (.iload_n 3, []), (.ishl, []), (.ior, []), (.istore_n 2, []), (.nop, [54])]), (54, [(.iinc 3 1, []), (.goto (-29), [28])]), (60, [(.iload_n 2, []), (.ireturn, [0])])]
def pm_MO_watch : List (Nat × List ma_I) := [(0, [(.aload_n 0, []), (.iconst 0, []), (.putfield 98, [12, 0, 0]), (.aload_n 0, []), (.iload_n 1, []), (.iconst 0, []), (.iconst 1, []), (.invokevirtual 132, [0, 163, 4, 12]), (.ifCond .ne 5, [17]), (.iconst (-1), []), (.ireturn, [0])]), (17, [(.iconst (-1), []), (.istore_n 2, []), (.iconst 1, []), (.istore_n 3, []), (.nop, [21])]), (21, [(.iload_n 3, []), (.iconst 1, []), (.aload_n 0, []), (.getfield 129, [12, 10]), (.ishl, []), (.if_icmp .ge 84, [112]), (.iconst 0, []), (.istore 4, []), (.iconst 0, []), (.istore 5, []), (.nop, [37])]), (37, [(.iload 5, []), (.aload_n 0, []), (.getfield 129, [12, 10]), (.if_icmp .ge 30, [73]), (.aload_n 0, []), (.iload_n 3, []), (.iload 5, []), (.invokevirtual 410, [0, 255, 3, 12]), (.ifCond .eq 14, [67]), (.iload 4, []), (.aload_n 0, []), (.iload 5, []), (.invokevirtual 397, [0, 248, 2, 12]), (.ior, []), (.istore 4, []), (.nop, [67])]), (67, [(.iinc 5 1, []), (.goto (-33), [37])]), (73, [(.iload 4, []), (.iconst 1, []), (.aload_n 0, []), (.invokevirtual 122, [0, 166, 1, 12]), (.ishl, []), (.iconst 1, []), (.isub, []), (.if_icmp .ne 23, [106]), (.iload_n 2, []), (.iconst (-1), []), (.if_icmp .eq 16, [104]), (.aload_n 0, []), (.iload_n 3, []), (.invokevirtual 450, [0, 274, 2, 12]), (.aload_n 0, []), (.iload_n 2, []), (.invokevirtual 450, [0, 274, 2, 12]), (.if_icmp .ge 5, [106]), (.nop, [104])]), (104, [(.iload_n 3, []), (.istore_n 2, []), (.nop, [106])]), (106, [(.iinc 3 1, []), (.goto (-88), [21])]), (112, [(.iload_n 2, []), (.iconst (-1), []), (.if_icmp .eq 8, [122]), (.iload_n 1, []), (.iconst 1, []), (.if_icmp .ne 7, [126]), (.nop, [122])]), (122, [(.iload_n 2, []), (.goto 8, [131])]), (126, [(.aload_n 0, []), (.iload_n 2, []), (.invokevirtual 450, [0, 274, 2, 12]), (.nop, [131])]), (131, [(.ireturn, [0])])]
def pm_MO_onesOf : List (Nat × List ma_I) := [(0, [(.iconst 0, []), (.istore_n 2, []), (.iload_n 1, []), (.istore_n 3, []), (.nop, [4])]), (4, [(.iload_n 3, []), (.ifCond .eq 16, [21]), (.iload_n 2, []), (.iconst 1, []), (.iadd, []), (.istore_n 2, []), (.iload_n 3, []), (.iload_n 3, []), (.iconst 1, []), (.isub, []), (.iand, []), (.istore_n 3, []), (.goto (-14), [4])]), (21, [(.iload_n 2, []), (.ireturn, [0])])]
def pm_MO_coils : List (Nat × List ma_I) := [(0, [(.aload_n 0, []), (.iconst 0, []), (.putfield 98, [12, 0, 0]), (.aload_n 0, []), (.iload_n 1, []), (.iconst 1, []), (.sipush 200, []), (.invokevirtual 132, [0, 163, 4, 12]), (.ifCond .ne 5, [19]), (.iconst (-1), []), (.ireturn, [0])]), (19, [(.aload_n 0, []), (.iload_n 1, []), (.invokevirtual 453, [0, 276, 2, 12]), (.istore_n 3, []), (.iload_n 3, []), (.iconst (-1), []), (.if_icmp .eq 7, [34]), (.iload_n 2, []), (.ifCond .ne 5, [36]), (.nop, [34])]), (34, [(.iload_n 3, []), (.ireturn, [0])]), (36, [(.aload_n 0, []), (.iload_n 2, []), (.bipush 10, []), (.bipush 9, []), (.iload_n 3, []), (.iadd, []), (.invokevirtual 132, [0, 163, 4, 12]), (.ifCond .eq 15, [62]), (.aload_n 0, []), (.getfield 89, [12, 52]), (.iload_n 2, []), (.bipush 10, []), (.isub, []), (.iaload, []), (.goto 4, [63])]), (62, [(.iconst (-1), []), (.nop, [63])]), (63, [(.ireturn, [0])])]
def pm_MO_findsCoils : List (Nat × List ma_I) := [(0, [(.iconst 0, []), (.istore_n 2, []), (.iconst 0, []), (.istore_n 3, []), (.iconst 0, []), (.istore 4, []), (.nop, [7])]), (7, [(.iload 4, []), (.aload_n 0, []), (.invokevirtual 122, [0, 166, 1, 12]), (.if_icmp .ge 73, [86]), (.aload_n 0, []), (.iload 4, []), (.invokevirtual 302, [0, 211, 2, 12]), (.istore 5, []), (.iload 5, []), (.iload_n 1, []), (.if_icmp .le 5, [32]), (.iconst (-1), []), (.ireturn, [0])]), (32, [(.iload_n 2, []), (.ifCond .eq 11, [44]), (.iload_n 3, []), (.iload 5, []), (.iadd, []), (.iload_n 1, []), (.if_icmp .le 16, [57]), (.nop, [44])]), (44, [(.aload_n 0, []), (.getfield 89, [12, 52]), (.iload_n 2, []), (.iconst 0, []), (.iastore, []), (.iload_n 2, []), (.iconst 1, []), (.iadd, []), (.istore_n 2, []), (.iconst 0, []), (.istore_n 3, []), (.nop, [57])]), (57, [(.aload_n 0, []), (.getfield 89, [12, 52]), (.iload_n 2, []), (.iconst 1, []), (.isub, []), (.aload_n 0, []), (.getfield 89, [12, 52]), (.iload_n 2, []), (.iconst 1, []), (.isub, []), (.iaload, []), (.iconst 1, []), (.iadd, []), (.iastore, []), (.iload_n 3, []), (.iload 5, []), (.iadd, []), (.istore_n 3, []), (.iinc 4 1, []), (.goto (-76), [7])]), (86, [(.iload_n 2, []), (.ireturn, [0])])]
def pm_MO_moors : List (Nat × List ma_I) := [(0, [(.aload_n 0, []), (.iconst 0, []), (.putfield 98, [12, 0, 0]), (.iload_n 1, []), (.ifCond .eq 22, [28]), (.aload_n 0, []), (.iload_n 1, []), (.bipush 10, []), (.bipush 9, []), (.aload_n 0, []), (.getfield 126, [12, 9]), (.iadd, []), (.invokevirtual 132, [0, 163, 4, 12]), (.ifCond .ne 5, [28]), (.iconst (-1), []), (.ireturn, [0])]), (28, [(.aload_n 0, []), (.invokevirtual 462, [0, 278, 1, 12]), (.aload_n 0, []), (.getfield 92, [12, 53]), (.iconst 0, []), (.iaload, []), (.ldc_w 422, [0, 1000000]), (.if_icmp .lt 5, [46]), (.iconst (-1), []), (.ireturn, [0])]), (46, [(.iload_n 1, []), (.ifCond .ne 10, [57]), (.aload_n 0, []), (.getfield 92, [12, 53]), (.iconst 0, []), (.iaload, []), (.ireturn, [0])]), (57, [(.iconst 0, []), (.istore_n 2, []), (.iconst (-1), []), (.istore_n 3, []), (.iconst 0, []), (.istore 4, []), (.nop, [64])]), (64, [(.iload 4, []), (.iload_n 1, []), (.bipush 10, []), (.isub, []), (.if_icmp .gt 52, [122]), (.iconst 0, []), (.istore_n 3, []), (.nop, [75])]), (75, [(.aload_n 0, []), (.iload 4, []), (.iload_n 3, []), (.iload_n 2, []), (.invokevirtual 456, [0, 279, 4, 12]), (.ifCond .eq 20, [103]), (.aload_n 0, []), (.iload 4, []), (.iload_n 3, []), (.iload_n 2, []), (.invokevirtual 459, [0, 280, 4, 12]), (.aload_n 0, []), (.getfield 92, [12, 53]), (.iload_n 2, []), (.iaload, []), (.if_icmp .eq 10, [110]), (.nop, [103])]), (103, [(.iload_n 3, []), (.iconst 1, []), (.iadd, []), (.istore_n 3, []), (.goto (-32), [75])]), (110, [(.iload_n 2, []), (.iconst 1, []), (.iload_n 3, []), (.ishl, []), (.ior, []), (.istore_n 2, []), (.iinc 4 1, []), (.goto (-55), [64])]), (122, [(.iload_n 3, []), (.ireturn, [0])])]
def pm_MO_findsMoored : List (Nat × List ma_I) := [(0, [(.iconst 1, []), (.aload_n 0, []), (.invokevirtual 122, [0, 166, 1, 12]), (.ishl, []), (.iconst 1, []), (.isub, []), (.istore_n 1, []), (.nop, [9])]), (9, [(.iload_n 1, []), (.ifCond .lt 89, [99]), (.aload_n 0, []), (.iload_n 1, []), (.invokevirtual 450, [0, 274, 2, 12]), (.istore_n 2, []), (.iload_n 2, []), (.aload_n 0, []), (.getfield 126, [12, 9]), (.if_icmp .lt 7, [31]), (.iconst 0, []), (.goto 6, [34])]), (31, [(.ldc_w 422, [0, 1000000]), (.nop, [34])]), (34, [(.istore_n 3, []), (.iconst 0, []), (.istore 4, []), (.nop, [38])]), (38, [(.iload 4, []), (.aload_n 0, []), (.invokevirtual 122, [0, 166, 1, 12]), (.if_icmp .ge 42, [86]), (.iload_n 2, []), (.aload_n 0, []), (.getfield 126, [12, 9]), (.if_icmp .ge 34, [86]), (.aload_n 0, []), (.iload_n 2, []), (.iload 4, []), (.iload_n 1, []), (.invokevirtual 456, [0, 279, 4, 12]), (.ifCond .eq 17, [80]), (.aload_n 0, []), (.iload_n 3, []), (.aload_n 0, []), (.iload_n 2, []), (.iload 4, []), (.iload_n 1, []), (.invokevirtual 459, [0, 280, 4, 12]), (.invokevirtual 333, [0, 221, 3, 12]), (.istore_n 3, []), (.nop, [80])]), (80, [(.iinc 4 1, []), (.goto (-45), [38])]), (86, [(.aload_n 0, []), (.getfield 92, [12, 53]), (.iload_n 1, []), (.iload_n 3, []), (.iastore, []), (.iinc 1 (-1), []), (.goto (-87), [9])]), (99, [(.return_, [])])]
def pm_MO_canMoor : List (Nat × List ma_I) := [(0, [(.aload_n 0, []), (.iload_n 3, []), (.iload_n 2, []), (.invokevirtual 410, [0, 255, 3, 12]), (.ifCond .ne 21, [27]), (.aload_n 0, []), (.iload_n 2, []), (.invokevirtual 302, [0, 211, 2, 12]), (.aload_n 0, []), (.getfield 19, [12, 11]), (.iload_n 1, []), (.iaload, []), (.if_icmp .lt 7, [27]), (.iconst 1, []), (.goto 4, [28])]), (27, [(.iconst 0, []), (.nop, [28])]), (28, [(.ireturn, [1])])]
def pm_MO_mooredBy : List (Nat × List ma_I) := [(0, [(.aload_n 0, []), (.aload_n 0, []), (.getfield 7, [12, 1]), (.bipush 33, []), (.iload_n 1, []), (.iadd, []), (.iaload, []), (.iload_n 2, []), (.invokevirtual 305, [0, 215, 3, 12]), (.aload_n 0, []), (.getfield 92, [12, 53]), (.iload_n 3, []), (.iconst 1, []), (.iload_n 2, []), (.ishl, []), (.ior, []), (.iaload, []), (.iadd, []), (.ireturn, [0])])]
def pm_MO_fee : List (Nat × List ma_I) := [(0, [(.aload_n 0, []), (.iconst 0, []), (.putfield 98, [12, 0, 0]), (.aload_n 0, []), (.iload_n 1, []), (.iconst 0, []), (.sipush 9999, []), (.invokevirtual 132, [0, 163, 4, 12]), (.ifCond .eq 35, [49]), (.aload_n 0, []), (.iload_n 2, []), (.iconst 0, []), (.sipush 999, []), (.invokevirtual 132, [0, 163, 4, 12]), (.ifCond .eq 23, [49]), (.sipush 1000, []), (.iload_n 1, []), (.imul, []), (.sipush 999, []), (.iadd, []), (.iload_n 2, []), (.isub, []), (.sipush 1000, []), (.iload_n 2, []), (.isub, []), (.idiv, []), (.goto 4, [50])]), (49, [(.iconst (-1), []), (.nop, [50])]), (50, [(.ireturn, [0])])]
def pm_MO_part : List (Nat × List ma_I) := [(0, [(.aload_n 0, []), (.iconst 0, []), (.putfield 98, [12, 0, 0]), (.aload_n 0, []), (.iload_n 1, []), (.iconst 0, []), (.sipush 9999, []), (.invokevirtual 132, [0, 163, 4, 12]), (.ifCond .eq 11, [25]), (.aload_n 0, []), (.iload_n 2, []), (.invokevirtual 155, [0, 171, 2, 12]), (.ifCond .ne 5, [27]), (.nop, [25])]), (25, [(.iconst (-1), []), (.ireturn, [0])]), (27, [(.iconst 0, []), (.istore_n 3, []), (.iconst 0, []), (.istore 4, []), (.nop, [32])]), (32, [(.iload 4, []), (.aload_n 0, []), (.getfield 129, [12, 10]), (.if_icmp .ge 18, [56]), (.iload_n 3, []), (.aload_n 0, []), (.iload 4, []), (.invokevirtual 465, [0, 283, 2, 12]), (.iadd, []), (.istore_n 3, []), (.iinc 4 1, []), (.goto (-21), [32])]), (56, [(.iload_n 1, []), (.istore 4, []), (.iconst 0, []), (.istore 5, []), (.nop, [62])]), (62, [(.iload 5, []), (.aload_n 0, []), (.getfield 129, [12, 10]), (.if_icmp .ge 24, [92]), (.iload 4, []), (.iload_n 1, []), (.aload_n 0, []), (.iload 5, []), (.invokevirtual 465, [0, 283, 2, 12]), (.imul, []), (.iload_n 3, []), (.idiv, []), (.isub, []), (.istore 4, []), (.iinc 5 1, []), (.goto (-27), [62])]), (92, [(.iload_n 1, []), (.aload_n 0, []), (.iload_n 2, []), (.invokevirtual 465, [0, 283, 2, 12]), (.imul, []), (.iload_n 3, []), (.irem, []), (.istore 5, []), (.iconst 0, []), (.istore 6, []), (.iconst 0, []), (.istore 7, []), (.nop, [109])]), (109, [(.iload 7, []), (.aload_n 0, []), (.getfield 129, [12, 10]), (.if_icmp .ge 47, [162]), (.iload_n 1, []), (.aload_n 0, []), (.iload 7, []), (.invokevirtual 465, [0, 283, 2, 12]), (.imul, []), (.iload_n 3, []), (.irem, []), (.istore 8, []), (.iload 8, []), (.iload 5, []), (.if_icmp .gt 16, [150]), (.iload 8, []), (.iload 5, []), (.if_icmp .ne 15, [156]), (.iload 7, []), (.iload_n 2, []), (.if_icmp .ge 9, [156]), (.nop, [150])]), (150, [(.iload 6, []), (.iconst 1, []), (.iadd, []), (.istore 6, []), (.nop, [156])]), (156, [(.iinc 7 1, []), (.goto (-50), [109])]), (162, [(.iload_n 1, []), (.aload_n 0, []), (.iload_n 2, []), (.invokevirtual 465, [0, 283, 2, 12]), (.imul, []), (.iload_n 3, []), (.idiv, []), (.iload 6, []), (.iload 4, []), (.if_icmp .ge 7, [182]), (.iconst 1, []), (.goto 4, [183])]), (182, [(.iconst 0, []), (.nop, [183])]), (183, [(.iadd, []), (.ireturn, [0])])]
def pm_MO_weightOf : List (Nat × List ma_I) := [(0, [(.aload_n 0, []), (.aload_n 0, []), (.getfield 22, [12, 12]), (.iload_n 1, []), (.iaload, []), (.invokevirtual 391, [0, 242, 2, 12]), (.istore_n 2, []), (.iload_n 2, []), (.iconst (-1), []), (.if_icmp .ne 8, [21]), (.bipush 25, []), (.goto 6, [24])]), (21, [(.iload_n 2, []), (.iconst 1, []), (.iadd, []), (.nop, [24])]), (24, [(.ireturn, [0])])]
def pm_MO_game : List (Nat × List ma_I) := [(0, [(.aload_n 0, []), (.iconst 0, []), (.putfield 98, [12, 0, 0]), (.aload_n 0, []), (.iload_n 1, []), (.iconst 0, []), (.iconst 1, []), (.invokevirtual 132, [0, 163, 4, 12]), (.ifCond .ne 5, [17]), (.iconst (-1), []), (.ireturn, [0])]), (17, [(.iconst 0, []), (.istore_n 2, []), (.iconst 0, []), (.istore_n 3, []), (.nop, [21])]), (21, [(.iload_n 3, []), (.aload_n 0, []), (.invokevirtual 122, [0, 166, 1, 12]), (.if_icmp .ge 19, [45]), (.iload_n 2, []), (.aload_n 0, []), (.iload_n 3, []), (.invokevirtual 302, [0, 211, 2, 12]), (.iconst 4, []), (.irem, []), (.ixor, []), (.istore_n 2, []), (.iinc 3 1, []), (.goto (-21), [21])]), (45, [(.iconst 0, []), (.istore_n 3, []), (.nop, [47])]), (47, [(.iload_n 3, []), (.aload_n 0, []), (.invokevirtual 122, [0, 166, 1, 12]), (.if_icmp .ge 65, [117]), (.aload_n 0, []), (.iload_n 3, []), (.invokevirtual 302, [0, 211, 2, 12]), (.istore 4, []), (.iconst 1, []), (.istore 5, []), (.nop, [65])]), (65, [(.iload 5, []), (.aload_n 0, []), (.iconst 3, []), (.iload 4, []), (.invokevirtual 333, [0, 221, 3, 12]), (.if_icmp .gt 37, [111]), (.iload_n 2, []), (.iload 4, []), (.iconst 4, []), (.irem, []), (.ixor, []), (.iload 4, []), (.iload 5, []), (.isub, []), (.iconst 4, []), (.irem, []), (.ixor, []), (.ifCond .ne 14, [105]), (.iload_n 1, []), (.ifCond .ne 7, [102]), (.iload_n 3, []), (.goto 5, [104])]), (102, [(.iload 5, []), (.nop, [104])]), (104, [(.ireturn, [0])]), (105, [(.iinc 5 1, []), (.goto (-43), [65])]), (111, [(.iinc 3 1, []), (.goto (-67), [47])]), (117, [(.iconst (-1), []), (.ireturn, [0])])]
def pm_MO_image : List (Nat × List ma_I) := [(0, [(.aload_n 0, []), (.iconst 0, []), (.putfield 98, [12, 0, 0]), (.iload_n 1, []), (.ifCond .ne 12, [18]), (.aload_n 0, []), (.getfield 477, [12, 55]), (.ifCond .ne 5, [18]), (.iconst 0, []), (.ireturn, [1])]), (18, [(.aload_n 0, []), (.iload_n 1, []), (.putfield 471, [12, 54, 1]), (.aload_n 0, []), (.iconst 1, []), (.putfield 477, [12, 55, 1]), (.aload_n 0, []), (.iconst 0, []), (.putfield 468, [12, 56, 0]), (.iconst 0, []), (.istore_n 2, []), (.nop, [35])]), (35, [(.iload_n 2, []), (.bipush 49, []), (.if_icmp .ge 25, [63]), (.aload_n 0, []), (.getfield 7, [12, 1]), (.iload_n 2, []), (.aload_n 0, []), (.aload_n 0, []), (.getfield 7, [12, 1]), (.iload_n 2, []), (.iaload, []), (.invokevirtual 474, [0, 286, 2, 12]), (.iastore, []), (.iinc 2 1, []), (.goto (-25), [35])]), (63, [(.aload_n 0, []), (.invokevirtual 480, [0, 287, 1, 12]), (.iconst 0, []), (.istore_n 2, []), (.nop, [69])]), (69, [(.iload_n 2, []), (.sipush 600, []), (.if_icmp .ge 25, [98]), (.aload_n 0, []), (.getfield 28, [12, 14]), (.iload_n 2, []), (.aload_n 0, []), (.aload_n 0, []), (.getfield 28, [12, 14]), (.iload_n 2, []), (.iaload, []), (.invokevirtual 474, [0, 286, 2, 12]), (.iastore, []), (.iinc 2 1, []), (.goto (-26), [69])]), (98, [(.aload_n 0, []), (.invokevirtual 483, [0, 288, 1, 12]), (.iload_n 1, []), (.ifCond .ne 8, [111]), (.aload_n 0, []), (.iconst 0, []), (.putfield 101, [12, 3, 0]), (.nop, [111])]), (111, [(.iconst 1, []), (.ireturn, [1])])]
def pm_MO_keeps : List (Nat × List ma_I) := [(0, [(.aload_n 0, []), (.aload_n 0, []), (.getfield 468, [12, 56]), (.iconst 1, []), (.iadd, []), (.putfield 468, [12, 56, 0]), (.aload_n 0, []), (.getfield 471, [12, 54]), (.ifCond .ne 15, [29]), (.aload_n 0, []), (.getfield 95, [12, 57]), (.aload_n 0, []), (.getfield 468, [12, 56]), (.iconst 1, []), (.isub, []), (.iaload, []), (.ireturn, [0])]), (29, [(.aload_n 0, []), (.getfield 95, [12, 57]), (.aload_n 0, []), (.getfield 468, [12, 56]), (.iconst 1, []), (.isub, []), (.iload_n 1, []), (.iastore, []), (.iload_n 1, []), (.ireturn, [0])])]
def pm_MO_keepsTold : List (Nat × List ma_I) := [(0, [(.aload_n 0, []), (.aload_n 0, []), (.aload_n 0, []), (.getfield 116, [12, 6]), (.invokevirtual 474, [0, 286, 2, 12]), (.putfield 116, [12, 6, 0]), (.aload_n 0, []), (.aload_n 0, []), (.aload_n 0, []), (.getfield 119, [12, 7]), (.invokevirtual 474, [0, 286, 2, 12]), (.putfield 119, [12, 7, 0]), (.aload_n 0, []), (.aload_n 0, []), (.aload_n 0, []), (.getfield 136, [12, 8]), (.invokevirtual 474, [0, 286, 2, 12]), (.putfield 136, [12, 8, 0]), (.aload_n 0, []), (.aload_n 0, []), (.aload_n 0, []), (.getfield 126, [12, 9]), (.invokevirtual 474, [0, 286, 2, 12]), (.putfield 126, [12, 9, 0]), (.aload_n 0, []), (.aload_n 0, []), (.aload_n 0, []), (.getfield 129, [12, 10]), (.invokevirtual 474, [0, 286, 2, 12]), (.putfield 129, [12, 10, 0]), (.aload_n 0, []), (.aload_n 0, []), (.aload_n 0, []), (.getfield 139, [12, 38]), (.invokevirtual 474, [0, 286, 2, 12]), (.putfield 139, [12, 38, 0]), (.aload_n 0, []), (.aload_n 0, []), (.aload_n 0, []), (.getfield 142, [12, 40]), (.invokevirtual 474, [0, 286, 2, 12]), (.putfield 142, [12, 40, 0]), (.aload_n 0, []), (.aload_n 0, []), (.aload_n 0, []), (.getfield 145, [12, 47]), (.invokevirtual 474, [0, 286, 2, 12]), (.putfield 145, [12, 47, 0]), (.iconst 0, []), (.istore_n 1, []), (.nop, [98])]), (98, [(.iload_n 1, []), (.bipush 8, []), (.if_icmp .ge 25, [126]), (.aload_n 0, []), (.getfield 19, [12, 11]), (.iload_n 1, []), (.aload_n 0, []), (.aload_n 0, []), (.getfield 19, [12, 11]), (.iload_n 1, []), (.iaload, []), (.invokevirtual 474, [0, 286, 2, 12]), (.iastore, []), (.iinc 1 1, []), (.goto (-25), [98])]), (126, [(.iconst 0, []), (.istore_n 1, []), (.nop, [128])]), (128, [(.iload_n 1, []), (.bipush 6, []), (.if_icmp .ge 41, [172]), (.aload_n 0, []), (.getfield 22, [12, 12]), (.iload_n 1, []), (.aload_n 0, []), (.aload_n 0, []), (.getfield 22, [12, 12]), (.iload_n 1, []), (.iaload, []), (.invokevirtual 474, [0, 286, 2, 12]), (.iastore, []), (.aload_n 0, []), (.getfield 25, [12, 13]), (.iload_n 1, []), (.aload_n 0, []), (.aload_n 0, []), (.getfield 25, [12, 13]), (.iload_n 1, []), (.iaload, []), (.invokevirtual 474, [0, 286, 2, 12]), (.iastore, []), (.iinc 1 1, []), (.goto (-41), [128])]), (172, [(.iconst 0, []), (.istore_n 1, []), (.nop, [174])]), (174, [(.iload_n 1, []), (.bipush 16, []), (.if_icmp .ge 25, [202]), (.aload_n 0, []), (.getfield 80, [12, 48]), (.iload_n 1, []), (.aload_n 0, []), (.aload_n 0, []), (.getfield 80, [12, 48]), (.iload_n 1, []), (.iaload, []), (.invokevirtual 474, [0, 286, 2, 12]), (.iastore, []), (.iinc 1 1, []), (.goto (-25), [174])]), (202, [(.iconst 0, []), (.istore_n 1, []), (.nop, [204])]), (204, [(.iload_n 1, []), (.bipush 64, []), (.if_icmp .ge 25, [232]), (.aload_n 0, []), (.getfield 65, [12, 39]), (.iload_n 1, []), (.aload_n 0, []), (.aload_n 0, []), (.getfield 65, [12, 39]), (.iload_n 1, []), (.iaload, []), (.invokevirtual 474, [0, 286, 2, 12]), (.iastore, []), (.iinc 1 1, []), (.goto (-25), [204])]), (232, [(.iconst 0, []), (.istore_n 1, []), (.nop, [234])]), (234, [(.iload_n 1, []), (.bipush 60, []), (.if_icmp .ge 25, [262]), (.aload_n 0, []), (.getfield 68, [12, 41]), (.iload_n 1, []), (.aload_n 0, []), (.aload_n 0, []), (.getfield 68, [12, 41]), (.iload_n 1, []), (.iaload, []), (.invokevirtual 474, [0, 286, 2, 12]), (.iastore, []), (.iinc 1 1, []), (.goto (-25), [234])]), (262, [(.return_, [])])]
def pm_MO_keepsLaw : List (Nat × List ma_I) := [(0, [(.aload_n 0, []), (.getfield 37, [12, 22]), (.iconst 0, []), (.aload_n 0, []), (.aload_n 0, []), (.getfield 37, [12, 22]), (.iconst 0, []), (.iaload, []), (.invokevirtual 474, [0, 286, 2, 12]), (.iastore, []), (.iconst 0, []), (.istore_n 1, []), (.nop, [18])]), (18, [(.iload_n 1, []), (.bipush 16, []), (.if_icmp .ge 73, [94]), (.aload_n 0, []), (.getfield 40, [12, 23]), (.iload_n 1, []), (.aload_n 0, []), (.aload_n 0, []), (.getfield 40, [12, 23]), (.iload_n 1, []), (.iaload, []), (.invokevirtual 474, [0, 286, 2, 12]), (.iastore, []), (.aload_n 0, []), (.getfield 43, [12, 24]), (.iload_n 1, []), (.aload_n 0, []), (.aload_n 0, []), (.getfield 43, [12, 24]), (.iload_n 1, []), (.iaload, []), (.invokevirtual 474, [0, 286, 2, 12]), (.iastore, []), (.aload_n 0, []), (.getfield 46, [12, 25]), (.iload_n 1, []), (.aload_n 0, []), (.aload_n 0, []), (.getfield 46, [12, 25]), (.iload_n 1, []), (.iaload, []), (.invokevirtual 474, [0, 286, 2, 12]), (.iastore, []), (.aload_n 0, []), (.getfield 49, [12, 26]), (.iload_n 1, []), (.aload_n 0, []), (.aload_n 0, []), (.getfield 49, [12, 26]), (.iload_n 1, []), (.iaload, []), (.invokevirtual 474, [0, 286, 2, 12]), (.iastore, []), (.iinc 1 1, []), (.goto (-73), [18])]), (94, [(.iconst 0, []), (.istore_n 1, []), (.nop, [96])]), (96, [(.iload_n 1, []), (.sipush 400, []), (.if_icmp .ge 41, [141]), (.aload_n 0, []), (.getfield 52, [12, 27]), (.iload_n 1, []), (.aload_n 0, []), (.aload_n 0, []), (.getfield 52, [12, 27]), (.iload_n 1, []), (.iaload, []), (.invokevirtual 474, [0, 286, 2, 12]), (.iastore, []), (.aload_n 0, []), (.getfield 55, [12, 28]), (.iload_n 1, []), (.aload_n 0, []), (.aload_n 0, []), (.getfield 55, [12, 28]), (.iload_n 1, []), (.iaload, []), (.invokevirtual 474, [0, 286, 2, 12]), (.iastore, []), (.iinc 1 1, []), (.goto (-42), [96])]), (141, [(.return_, [])])]
def pm_MO_look : List (Nat × List ma_I) := [(0, [(.aload_n 0, []), (.iconst 0, []), (.putfield 98, [12, 0, 0]), (.iload_n 1, []), (.ifCond .ne 8, [14]), (.aload_n 0, []), (.invokevirtual 122, [0, 166, 1, 12]), (.ireturn, [0])]), (14, [(.iload_n 1, []), (.iconst 1, []), (.if_icmp .ne 8, [24]), (.aload_n 0, []), (.getfield 126, [12, 9]), (.ireturn, [0])]), (24, [(.iload_n 1, []), (.iconst 2, []), (.if_icmp .ne 8, [34]), (.aload_n 0, []), (.getfield 129, [12, 10]), (.ireturn, [0])]), (34, [(.iload_n 1, []), (.iconst 3, []), (.if_icmp .ne 10, [46]), (.aload_n 0, []), (.getfield 7, [12, 1]), (.iconst 0, []), (.iaload, []), (.ireturn, [0])]), (46, [(.iload_n 1, []), (.iconst 4, []), (.if_icmp .ne 8, [56]), (.aload_n 0, []), (.invokevirtual 407, [0, 257, 1, 12]), (.ireturn, [0])]), (56, [(.iload_n 1, []), (.iconst 5, []), (.if_icmp .ne 8, [66]), (.aload_n 0, []), (.getfield 136, [12, 8]), (.ireturn, [0])]), (66, [(.iload_n 1, []), (.bipush 6, []), (.if_icmp .ne 10, [79]), (.aload_n 0, []), (.getfield 7, [12, 1]), (.iconst 3, []), (.iaload, []), (.ireturn, [0])]), (79, [(.iload_n 1, []), (.bipush 7, []), (.if_icmp .ne 10, [92]), (.aload_n 0, []), (.getfield 7, [12, 1]), (.iconst 4, []), (.iaload, []), (.ireturn, [0])]), (92, [(.iload_n 1, []), (.bipush 8, []), (.if_icmp .ne 10, [105]), (.aload_n 0, []), (.getfield 7, [12, 1]), (.iconst 2, []), (.iaload, []), (.ireturn, [0])]), (105, [(.iload_n 1, []), (.bipush 9, []), (.if_icmp .ne 10, [118]), (.aload_n 0, []), (.getfield 7, [12, 1]), (.iconst 1, []), (.iaload, []), (.ireturn, [0])]), (118, [(.iload_n 1, []), (.bipush 10, []), (.if_icmp .ne 10, [131]), (.aload_n 0, []), (.getfield 37, [12, 22]), (.iconst 0, []), (.iaload, []), (.ireturn, [0])]), (131, [(.iload_n 1, []), (.bipush 11, []), (.if_icmp .ne 8, [142]), (.aload_n 0, []), (.getfield 139, [12, 38]), (.ireturn, [0])]), (142, [(.iload_n 1, []), (.bipush 12, []), (.if_icmp .ne 8, [153]), (.aload_n 0, []), (.getfield 142, [12, 40]), (.ireturn, [0])]), (153, [(.iload_n 1, []), (.bipush 13, []), (.if_icmp .ne 8, [164]), (.aload_n 0, []), (.getfield 145, [12, 47]), (.ireturn, [0])]), (164, [(.iload_n 1, []), (.bipush 14, []), (.if_icmp .ne 10, [177]), (.aload_n 0, []), (.getfield 101, [12, 3]), (.goto 6, [180])]), (177, [(.ldc_w 400, [0, 4294867296]), (.nop, [180])]), (180, [(.ireturn, [0])])]
def pm_Math_min : List (Nat × List ma_I) := [(0, [(.iload_n 0, []), (.iload_n 1, []), (.if_icmp .gt 7, [9]), (.iload_n 0, []), (.goto 4, [10])]), (9, [(.iload_n 1, []), (.nop, [10])]), (10, [(.ireturn, [0])])]
def pm_Math_max : List (Nat × List ma_I) := [(0, [(.iload_n 0, []), (.iload_n 1, []), (.if_icmp .lt 7, [9]), (.iload_n 0, []), (.goto 4, [10])]), (9, [(.iload_n 1, []), (.nop, [10])]), (10, [(.ireturn, [0])])]
def pm_Math_abs : List (Nat × List ma_I) := [(0, [(.iload_n 0, []), (.ifCond .ge 8, [9]), (.iload_n 0, []), (.ineg, []), (.goto 4, [10])]), (9, [(.iload_n 0, []), (.nop, [10])]), (10, [(.ireturn, [0])])]
def pm_Integer_bitCount : List (Nat × List ma_I) := [(0, [(.iload_n 0, []), (.iload_n 0, []), (.iconst 1, []), (.iushr, []), (.ldc_w 265, [0, 1431655765]), (.iand, []), (.isub, []), (.istore_n 0, []), (.iload_n 0, []), (.ldc_w 266, [0, 858993459]), (.iand, []), (.iload_n 0, []), (.iconst 2, []), (.iushr, []), (.ldc_w 266, [0, 858993459]), (.iand, []), (.iadd, []), (.istore_n 0, []), (.iload_n 0, []), (.iload_n 0, []), (.iconst 4, []), (.iushr, []), (.iadd, []), (.ldc_w 267, [0, 252645135]), (.iand, []), (.istore_n 0, []), (.iload_n 0, []), (.iload_n 0, []), (.bipush 8, []), (.iushr, []), (.iadd, []), (.istore_n 0, []), (.iload_n 0, []), (.iload_n 0, []), (.bipush 16, []), (.iushr, []), (.iadd, []), (.istore_n 0, []), (.iload_n 0, []), (.bipush 63, []), (.iand, []), (.ireturn, [0])])]
def pm_Math_min_l : List (Nat × List ma_I) := [(0, [(.lload_n 0, []), (.lload_n 2, []), (.lcmp, []), (.ifCond .gt 7, [10]), (.lload_n 0, []), (.goto 4, [11])]), (10, [(.lload_n 2, []), (.nop, [11])]), (11, [(.lreturn, [])])]
def pm_LAW_law : List (Nat × List ma_I) := [(0, [(.new 7, [0]), (.dup, []), (.invokespecial 9, [0, 0, 1, 0]), (.astore_n 1, []), (.new 10, [12]), (.dup, []), (.invokespecial 12, [0, 159, 1, 12]), (.astore_n 2, []), (.iconst 0, []), (.istore_n 3, []), (.nop, [18])]), (18, [(.iload_n 3, []), (.aload_n 0, []), (.arraylength, []), (.bipush 6, []), (.isub, []), (.if_icmp .gt 1181, [1205]), (.aload_n 0, []), (.iload_n 3, []), (.iaload, []), (.bipush 63, []), (.iand, []), (.tableswitch 1166 0 34 #[155, 178, 201, 234, 267, 310, 343, 366, 389, 412, 475, 498, 521, 544, 577, 610, 643, 676, 709, 742, 775, 808, 831, 844, 877, 900, 923, 946, 979, 1002, 1035, 1068, 1091, 1104, 1143], [1199, 188, 211, 234, 267, 300, 343, 376, 399, 422, 445, 508, 531, 554, 577, 610, 643, 676, 709, 742, 775, 808, 841, 864, 877, 910, 933, 956, 979, 1012, 1035, 1068, 1101, 1124, 1137, 1176])]), (188, [(.aload_n 1, []), (.aload_n 0, []), (.iload_n 3, []), (.iconst 1, []), (.iadd, []), (.iaload, []), (.invokevirtual 13, [0, 1, 2, 0]), (.aload_n 2, []), (.aload_n 0, []), (.iload_n 3, []), (.iconst 1, []), (.iadd, []), (.iaload, []), (.invokevirtual 17, [0, 161, 2, 12]), (.if_icmp .eq 993, [1199]), (.iconst 0, []), (.ireturn, [1])]), (211, [(.aload_n 1, []), (.aload_n 0, []), (.iload_n 3, []), (.iconst 1, []), (.iadd, []), (.iaload, []), (.invokevirtual 18, [0, 2, 2, 0]), (.aload_n 2, []), (.aload_n 0, []), (.iload_n 3, []), (.iconst 1, []), (.iadd, []), (.iaload, []), (.invokevirtual 22, [0, 162, 2, 12]), (.if_icmp .eq 970, [1199]), (.iconst 0, []), (.ireturn, [1])]), (234, [(.aload_n 1, []), (.aload_n 0, []), (.iload_n 3, []), (.iconst 1, []), (.iadd, []), (.iaload, []), (.aload_n 0, []), (.iload_n 3, []), (.iconst 2, []), (.iadd, []), (.iaload, []), (.invokevirtual 23, [0, 4, 3, 0]), (.aload_n 2, []), (.aload_n 0, []), (.iload_n 3, []), (.iconst 1, []), (.iadd, []), (.iaload, []), (.aload_n 0, []), (.iload_n 3, []), (.iconst 2, []), (.iadd, []), (.iaload, []), (.invokevirtual 27, [0, 164, 3, 12]), (.if_icmp .eq 937, [1199]), (.iconst 0, []), (.ireturn, [1])]), (267, [(.aload_n 1, []), (.aload_n 0, []), (.iload_n 3, []), (.iconst 1, []), (.iadd, []), (.iaload, []), (.aload_n 0, []), (.iload_n 3, []), (.iconst 2, []), (.iadd, []), (.iaload, []), (.invokevirtual 28, [0, 5, 3, 0]), (.aload_n 2, []), (.aload_n 0, []), (.iload_n 3, []), (.iconst 1, []), (.iadd, []), (.iaload, []), (.aload_n 0, []), (.iload_n 3, []), (.iconst 2, []), (.iadd, []), (.iaload, []), (.invokevirtual 31, [0, 167, 3, 12]), (.if_icmp .eq 904, [1199]), (.iconst 0, []), (.ireturn, [1])]), (300, [(.aload_n 1, []), (.aload_n 0, []), (.iload_n 3, []), (.iconst 1, []), (.iadd, []), (.iaload, []), (.aload_n 0, []), (.iload_n 3, []), (.iconst 2, []), (.iadd, []), (.iaload, []), (.aload_n 0, []), (.iload_n 3, []), (.iconst 3, []), (.iadd, []), (.iaload, []), (.invokevirtual 32, [0, 6, 4, 0]), (.aload_n 2, []), (.aload_n 0, []), (.iload_n 3, []), (.iconst 1, []), (.iadd, []), (.iaload, []), (.aload_n 0, []), (.iload_n 3, []), (.iconst 2, []), (.iadd, []), (.iaload, []), (.aload_n 0, []), (.iload_n 3, []), (.iconst 3, []), (.iadd, []), (.iaload, []), (.invokevirtual 36, [0, 168, 4, 12]), (.if_icmp .eq 861, [1199]), (.iconst 0, []), (.ireturn, [1])]), (343, [(.aload_n 1, []), (.aload_n 0, []), (.iload_n 3, []), (.iconst 1, []), (.iadd, []), (.iaload, []), (.aload_n 0, []), (.iload_n 3, []), (.iconst 2, []), (.iadd, []), (.iaload, []), (.invokevirtual 37, [0, 9, 3, 0]), (.aload_n 2, []), (.aload_n 0, []), (.iload_n 3, []), (.iconst 1, []), (.iadd, []), (.iaload, []), (.aload_n 0, []), (.iload_n 3, []), (.iconst 2, []), (.iadd, []), (.iaload, []), (.invokevirtual 40, [0, 207, 3, 12]), (.if_icmp .eq 828, [1199]), (.iconst 0, []), (.ireturn, [1])]), (376, [(.aload_n 1, []), (.aload_n 0, []), (.iload_n 3, []), (.iconst 1, []), (.iadd, []), (.iaload, []), (.invokevirtual 41, [0, 11, 2, 0]), (.aload_n 2, []), (.aload_n 0, []), (.iload_n 3, []), (.iconst 1, []), (.iadd, []), (.iaload, []), (.invokevirtual 44, [0, 224, 2, 12]), (.if_icmp .eq 805, [1199]), (.iconst 0, []), (.ireturn, [1])]), (399, [(.aload_n 1, []), (.aload_n 0, []), (.iload_n 3, []), (.iconst 1, []), (.iadd, []), (.iaload, []), (.invokevirtual 45, [0, 12, 2, 0]), (.aload_n 2, []), (.aload_n 0, []), (.iload_n 3, []), (.iconst 1, []), (.iadd, []), (.iaload, []), (.invokevirtual 48, [0, 226, 2, 12]), (.if_icmp .eq 782, [1199]), (.iconst 0, []), (.ireturn, [1])]), (422, [(.aload_n 1, []), (.aload_n 0, []), (.iload_n 3, []), (.iconst 1, []), (.iadd, []), (.iaload, []), (.invokevirtual 49, [0, 13, 2, 0]), (.aload_n 2, []), (.aload_n 0, []), (.iload_n 3, []), (.iconst 1, []), (.iadd, []), (.iaload, []), (.invokevirtual 52, [0, 228, 2, 12]), (.if_icmp .eq 759, [1199]), (.iconst 0, []), (.ireturn, [1])]), (445, [(.aload_n 1, []), (.aload_n 0, []), (.iload_n 3, []), (.iconst 1, []), (.iadd, []), (.iaload, []), (.aload_n 0, []), (.iload_n 3, []), (.iconst 2, []), (.iadd, []), (.iaload, []), (.aload_n 0, []), (.iload_n 3, []), (.iconst 3, []), (.iadd, []), (.iaload, []), (.aload_n 0, []), (.iload_n 3, []), (.iconst 4, []), (.iadd, []), (.iaload, []), (.aload_n 0, []), (.iload_n 3, []), (.iconst 5, []), (.iadd, []), (.iaload, []), (.invokevirtual 53, [0, 14, 6, 0]), (.aload_n 2, []), (.aload_n 0, []), (.iload_n 3, []), (.iconst 1, []), (.iadd, []), (.iaload, []), (.aload_n 0, []), (.iload_n 3, []), (.iconst 2, []), (.iadd, []), (.iaload, []), (.aload_n 0, []), (.iload_n 3, []), (.iconst 3, []), (.iadd, []), (.iaload, []), (.aload_n 0, []), (.iload_n 3, []), (.iconst 4, []), (.iadd, []), (.iaload, []), (.aload_n 0, []), (.iload_n 3, []), (.iconst 5, []), (.iadd, []), (.iaload, []), (.invokevirtual 57, [0, 172, 6, 12]), (.if_icmp .eq 696, [1199]), (.iconst 0, []), (.ireturn, [1])]), (508, [(.aload_n 1, []), (.aload_n 0, []), (.iload_n 3, []), (.iconst 1, []), (.iadd, []), (.iaload, []), (.invokevirtual 58, [0, 15, 2, 0]), (.aload_n 2, []), (.aload_n 0, []), (.iload_n 3, []), (.iconst 1, []), (.iadd, []), (.iaload, []), (.invokevirtual 61, [0, 174, 2, 12]), (.if_icmp .eq 673, [1199]), (.iconst 0, []), (.ireturn, [1])]), (531, [(.aload_n 1, []), (.aload_n 0, []), (.iload_n 3, []), (.iconst 1, []), (.iadd, []), (.iaload, []), (.invokevirtual 62, [0, 16, 2, 0]), (.aload_n 2, []), (.aload_n 0, []), (.iload_n 3, []), (.iconst 1, []), (.iadd, []), (.iaload, []), (.invokevirtual 65, [0, 175, 2, 12]), (.if_icmp .eq 650, [1199]), (.iconst 0, []), (.ireturn, [1])]), (554, [(.aload_n 1, []), (.aload_n 0, []), (.iload_n 3, []), (.iconst 1, []), (.iadd, []), (.iaload, []), (.invokevirtual 66, [0, 18, 2, 0]), (.aload_n 2, []), (.aload_n 0, []), (.iload_n 3, []), (.iconst 1, []), (.iadd, []), (.iaload, []), (.invokevirtual 69, [0, 206, 2, 12]), (.if_icmp .eq 627, [1199]), (.iconst 0, []), (.ireturn, [1])]), (577, [(.aload_n 1, []), (.aload_n 0, []), (.iload_n 3, []), (.iconst 1, []), (.iadd, []), (.iaload, []), (.aload_n 0, []), (.iload_n 3, []), (.iconst 2, []), (.iadd, []), (.iaload, []), (.invokevirtual 70, [0, 19, 3, 0]), (.aload_n 2, []), (.aload_n 0, []), (.iload_n 3, []), (.iconst 1, []), (.iadd, []), (.iaload, []), (.aload_n 0, []), (.iload_n 3, []), (.iconst 2, []), (.iadd, []), (.iaload, []), (.invokevirtual 73, [0, 241, 3, 12]), (.if_icmp .eq 594, [1199]), (.iconst 0, []), (.ireturn, [1])]), (610, [(.aload_n 1, []), (.aload_n 0, []), (.iload_n 3, []), (.iconst 1, []), (.iadd, []), (.iaload, []), (.aload_n 0, []), (.iload_n 3, []), (.iconst 2, []), (.iadd, []), (.iaload, []), (.invokevirtual 74, [0, 20, 3, 0]), (.aload_n 2, []), (.aload_n 0, []), (.iload_n 3, []), (.iconst 1, []), (.iadd, []), (.iaload, []), (.aload_n 0, []), (.iload_n 3, []), (.iconst 2, []), (.iadd, []), (.iaload, []), (.invokevirtual 77, [0, 244, 3, 12]), (.if_icmp .eq 561, [1199]), (.iconst 0, []), (.ireturn, [1])]), (643, [(.aload_n 1, []), (.aload_n 0, []), (.iload_n 3, []), (.iconst 1, []), (.iadd, []), (.iaload, []), (.aload_n 0, []), (.iload_n 3, []), (.iconst 2, []), (.iadd, []), (.iaload, []), (.invokevirtual 78, [0, 21, 3, 0]), (.aload_n 2, []), (.aload_n 0, []), (.iload_n 3, []), (.iconst 1, []), (.iadd, []), (.iaload, []), (.aload_n 0, []), (.iload_n 3, []), (.iconst 2, []), (.iadd, []), (.iaload, []), (.invokevirtual 81, [0, 245, 3, 12]), (.if_icmp .eq 528, [1199]), (.iconst 0, []), (.ireturn, [1])]), (676, [(.aload_n 1, []), (.aload_n 0, []), (.iload_n 3, []), (.iconst 1, []), (.iadd, []), (.iaload, []), (.aload_n 0, []), (.iload_n 3, []), (.iconst 2, []), (.iadd, []), (.iaload, []), (.invokevirtual 82, [0, 22, 3, 0]), (.aload_n 2, []), (.aload_n 0, []), (.iload_n 3, []), (.iconst 1, []), (.iadd, []), (.iaload, []), (.aload_n 0, []), (.iload_n 3, []), (.iconst 2, []), (.iadd, []), (.iaload, []), (.invokevirtual 85, [0, 246, 3, 12]), (.if_icmp .eq 495, [1199]), (.iconst 0, []), (.ireturn, [1])]), (709, [(.aload_n 1, []), (.aload_n 0, []), (.iload_n 3, []), (.iconst 1, []), (.iadd, []), (.iaload, []), (.aload_n 0, []), (.iload_n 3, []), (.iconst 2, []), (.iadd, []), (.iaload, []), (.invokevirtual 86, [0, 23, 3, 0]), (.aload_n 2, []), (.aload_n 0, []), (.iload_n 3, []), (.iconst 1, []), (.iadd, []), (.iaload, []), (.aload_n 0, []), (.iload_n 3, []), (.iconst 2, []), (.iadd, []), (.iaload, []), (.invokevirtual 89, [0, 247, 3, 12]), (.if_icmp .eq 462, [1199]), (.iconst 0, []), (.ireturn, [1])]), (742, [(.aload_n 1, []), (.aload_n 0, []), (.iload_n 3, []), (.iconst 1, []), (.iadd, []), (.iaload, []), (.aload_n 0, []), (.iload_n 3, []), (.iconst 2, []), (.iadd, []), (.iaload, []), (.invokevirtual 90, [0, 24, 3, 0]), (.aload_n 2, []), (.aload_n 0, []), (.iload_n 3, []), (.iconst 1, []), (.iadd, []), (.iaload, []), (.aload_n 0, []), (.iload_n 3, []), (.iconst 2, []), (.iadd, []), (.iaload, []), (.invokevirtual 93, [0, 250, 3, 12]), (.if_icmp .eq 429, [1199]), (.iconst 0, []), (.ireturn, [1])]), (775, [(.aload_n 1, []), (.aload_n 0, []), (.iload_n 3, []), (.iconst 1, []), (.iadd, []), (.iaload, []), (.aload_n 0, []), (.iload_n 3, []), (.iconst 2, []), (.iadd, []), (.iaload, []), (.invokevirtual 94, [0, 25, 3, 0]), (.aload_n 2, []), (.aload_n 0, []), (.iload_n 3, []), (.iconst 1, []), (.iadd, []), (.iaload, []), (.aload_n 0, []), (.iload_n 3, []), (.iconst 2, []), (.iadd, []), (.iaload, []), (.invokevirtual 97, [0, 251, 3, 12]), (.if_icmp .eq 396, [1199]), (.iconst 0, []), (.ireturn, [1])]), (808, [(.aload_n 1, []), (.aload_n 0, []), (.iload_n 3, []), (.iconst 1, []), (.iadd, []), (.iaload, []), (.aload_n 0, []), (.iload_n 3, []), (.iconst 2, []), (.iadd, []), (.iaload, []), (.invokevirtual 98, [0, 26, 3, 0]), (.aload_n 2, []), (.aload_n 0, []), (.iload_n 3, []), (.iconst 1, []), (.iadd, []), (.iaload, []), (.aload_n 0, []), (.iload_n 3, []), (.iconst 2, []), (.iadd, []), (.iaload, []), (.invokevirtual 101, [0, 254, 3, 12]), (.if_icmp .eq 363, [1199]), (.iconst 0, []), (.ireturn, [1])]), (841, [(.aload_n 1, []), (.aload_n 0, []), (.iload_n 3, []), (.iconst 1, []), (.iadd, []), (.iaload, []), (.invokevirtual 102, [0, 27, 2, 0]), (.aload_n 2, []), (.aload_n 0, []), (.iload_n 3, []), (.iconst 1, []), (.iadd, []), (.iaload, []), (.invokevirtual 105, [0, 260, 2, 12]), (.if_icmp .eq 340, [1199]), (.iconst 0, []), (.ireturn, [1])]), (864, [(.aload_n 1, []), (.invokevirtual 106, [0, 29, 1, 0]), (.aload_n 2, []), (.invokevirtual 110, [0, 263, 1, 12]), (.if_icmp .eq 327, [1199]), (.iconst 0, []), (.ireturn, [1])]), (877, [(.aload_n 1, []), (.aload_n 0, []), (.iload_n 3, []), (.iconst 1, []), (.iadd, []), (.iaload, []), (.aload_n 0, []), (.iload_n 3, []), (.iconst 2, []), (.iadd, []), (.iaload, []), (.invokevirtual 111, [0, 30, 3, 0]), (.aload_n 2, []), (.aload_n 0, []), (.iload_n 3, []), (.iconst 1, []), (.iadd, []), (.iaload, []), (.aload_n 0, []), (.iload_n 3, []), (.iconst 2, []), (.iadd, []), (.iaload, []), (.invokevirtual 114, [0, 265, 3, 12]), (.if_icmp .eq 294, [1199]), (.iconst 0, []), (.ireturn, [1])]), (910, [(.aload_n 1, []), (.aload_n 0, []), (.iload_n 3, []), (.iconst 1, []), (.iadd, []), (.iaload, []), (.invokevirtual 115, [0, 31, 2, 0]), (.aload_n 2, []), (.aload_n 0, []), (.iload_n 3, []), (.iconst 1, []), (.iadd, []), (.iaload, []), (.invokevirtual 118, [0, 266, 2, 12]), (.if_icmp .eq 271, [1199]), (.iconst 0, []), (.ireturn, [1])]), (933, [(.aload_n 1, []), (.aload_n 0, []), (.iload_n 3, []), (.iconst 1, []), (.iadd, []), (.iaload, []), (.invokevirtual 119, [0, 32, 2, 0]), (.aload_n 2, []), (.aload_n 0, []), (.iload_n 3, []), (.iconst 1, []), (.iadd, []), (.iaload, []), (.invokevirtual 122, [0, 272, 2, 12]), (.if_icmp .eq 248, [1199]), (.iconst 0, []), (.ireturn, [1])]), (956, [(.aload_n 1, []), (.aload_n 0, []), (.iload_n 3, []), (.iconst 1, []), (.iadd, []), (.iaload, []), (.invokevirtual 123, [0, 33, 2, 0]), (.aload_n 2, []), (.aload_n 0, []), (.iload_n 3, []), (.iconst 1, []), (.iadd, []), (.iaload, []), (.invokevirtual 126, [0, 273, 2, 12]), (.if_icmp .eq 225, [1199]), (.iconst 0, []), (.ireturn, [1])]), (979, [(.aload_n 1, []), (.aload_n 0, []), (.iload_n 3, []), (.iconst 1, []), (.iadd, []), (.iaload, []), (.aload_n 0, []), (.iload_n 3, []), (.iconst 2, []), (.iadd, []), (.iaload, []), (.invokevirtual 127, [0, 34, 3, 0]), (.aload_n 2, []), (.aload_n 0, []), (.iload_n 3, []), (.iconst 1, []), (.iadd, []), (.iaload, []), (.aload_n 0, []), (.iload_n 3, []), (.iconst 2, []), (.iadd, []), (.iaload, []), (.invokevirtual 130, [0, 275, 3, 12]), (.if_icmp .eq 192, [1199]), (.iconst 0, []), (.ireturn, [1])]), (1012, [(.aload_n 1, []), (.aload_n 0, []), (.iload_n 3, []), (.iconst 1, []), (.iadd, []), (.iaload, []), (.invokevirtual 131, [0, 35, 2, 0]), (.aload_n 2, []), (.aload_n 0, []), (.iload_n 3, []), (.iconst 1, []), (.iadd, []), (.iaload, []), (.invokevirtual 134, [0, 277, 2, 12]), (.if_icmp .eq 169, [1199]), (.iconst 0, []), (.ireturn, [1])]), (1035, [(.aload_n 1, []), (.aload_n 0, []), (.iload_n 3, []), (.iconst 1, []), (.iadd, []), (.iaload, []), (.aload_n 0, []), (.iload_n 3, []), (.iconst 2, []), (.iadd, []), (.iaload, []), (.invokevirtual 135, [0, 36, 3, 0]), (.aload_n 2, []), (.aload_n 0, []), (.iload_n 3, []), (.iconst 1, []), (.iadd, []), (.iaload, []), (.aload_n 0, []), (.iload_n 3, []), (.iconst 2, []), (.iadd, []), (.iaload, []), (.invokevirtual 138, [0, 281, 3, 12]), (.if_icmp .eq 136, [1199]), (.iconst 0, []), (.ireturn, [1])]), (1068, [(.aload_n 1, []), (.aload_n 0, []), (.iload_n 3, []), (.iconst 1, []), (.iadd, []), (.iaload, []), (.aload_n 0, []), (.iload_n 3, []), (.iconst 2, []), (.iadd, []), (.iaload, []), (.invokevirtual 139, [0, 37, 3, 0]), (.aload_n 2, []), (.aload_n 0, []), (.iload_n 3, []), (.iconst 1, []), (.iadd, []), (.iaload, []), (.aload_n 0, []), (.iload_n 3, []), (.iconst 2, []), (.iadd, []), (.iaload, []), (.invokevirtual 142, [0, 282, 3, 12]), (.if_icmp .eq 103, [1199]), (.iconst 0, []), (.ireturn, [1])]), (1101, [(.aload_n 1, []), (.aload_n 0, []), (.iload_n 3, []), (.iconst 1, []), (.iadd, []), (.iaload, []), (.invokevirtual 143, [0, 38, 2, 0]), (.aload_n 2, []), (.aload_n 0, []), (.iload_n 3, []), (.iconst 1, []), (.iadd, []), (.iaload, []), (.invokevirtual 146, [0, 284, 2, 12]), (.if_icmp .eq 80, [1199]), (.iconst 0, []), (.ireturn, [1])]), (1124, [(.aload_n 1, []), (.invokevirtual 147, [0, 39, 1, 0]), (.aload_n 2, []), (.invokevirtual 151, [0, 160, 1, 12]), (.if_icmp .eq 67, [1199]), (.iconst 0, []), (.ireturn, [1])]), (1137, [(.aload_n 1, []), (.aload_n 0, []), (.iload_n 3, []), (.iconst 1, []), (.iadd, []), (.iaload, []), (.ifCond .eq 7, [1150]), (.iconst 1, []), (.goto 4, [1151])]), (1150, [(.iconst 0, []), (.nop, [1151])]), (1151, [(.invokevirtual 152, [0, 40, 2, 0]), (.aload_n 2, []), (.aload_n 0, []), (.iload_n 3, []), (.iconst 1, []), (.iadd, []), (.iaload, []), (.ifCond .eq 7, [1167]), (.iconst 1, []), (.goto 4, [1168])]), (1167, [(.iconst 0, []), (.nop, [1168])]), (1168, [(.invokevirtual 156, [0, 285, 2, 12]), (.if_icmp .eq 28, [1199]), (.iconst 0, []), (.ireturn, [1])]), (1176, [(.aload_n 1, []), (.aload_n 0, []), (.iload_n 3, []), (.iconst 1, []), (.iadd, []), (.iaload, []), (.invokevirtual 157, [0, 41, 2, 0]), (.aload_n 2, []), (.aload_n 0, []), (.iload_n 3, []), (.iconst 1, []), (.iadd, []), (.iaload, []), (.invokevirtual 160, [0, 289, 2, 12]), (.if_icmp .eq 5, [1199]), (.iconst 0, []), (.ireturn, [1])]), (1199, [(.iinc 3 6, []), (.goto (-1184), [18])]), (1205, [(.iconst 1, []), (.ireturn, [1])])]
def pm_all : List (List (Nat × List ma_I)) := [pm_LH_init, pm_LH_state, pm_LH_sea, pm_LH_within, pm_LH_ship, pm_LH_pier, pm_LH_set, pm_LH_changeRule, pm_LH_changeOne, pm_LH_raise, pm_LH_hold, pm_LH_lift, pm_LH_mend, pm_LH_hours, pm_LH_feed, pm_LH_end, pm_LH_text, pm_LH_newRoster, pm_LH_fault, pm_LH_of, pm_LH_sun, pm_LH_costs, pm_LH_shipOf, pm_LH_pierOf, pm_LH_book, pm_LH_goes, pm_LH_meets, pm_LH_smooth, pm_LH_numbered, pm_LH_folds, pm_LH_sunset, pm_LH_lifted, pm_LH_over, pm_LH_watch, pm_LH_coils, pm_LH_moors, pm_LH_fee, pm_LH_part, pm_LH_game, pm_LH_undo, pm_LH_image, pm_LH_look, pm_Asker_init, pm_Asker_cost, pm_Asker_name, pm_Asker_leans, pm_Asker_tell, pm_Asker_work, pm_Asker_unlessTold, pm_Asker_slide, pm_Asker_wear, pm_Asker_dusk, pm_Asker_sunAt, pm_Book_init, pm_Book_write, pm_Book_cell, pm_Book_copy, pm_Law_init, pm_Law_empty, pm_Law_put, pm_Law_putIfAny, pm_Law_addLine, pm_Law_copy, pm_Line_init, pm_Line_begin, pm_Line_copy, pm_Line_draw, pm_Past_init, pm_Past_forget, pm_Past_keep, pm_Past_dropOldest, pm_Past_goBack, pm_Reader_init, pm_Reader_readLaw, pm_Reader_readLawLine, pm_Reader_readSum, pm_Reader_readOperand, pm_Reader_readDivisor, pm_Reader_readCondition, pm_Reader_readOne, pm_Reader_readRoster, pm_Reader_readRows, pm_Reader_readTask, pm_Reader_readCell, pm_Reader_readWant, pm_Reader_readWants, pm_Rows_init, pm_Rows_cell, pm_Rows_put, pm_Rows_copy, pm_Thought_init, pm_Thought_sees, pm_Thought_allScraped, pm_Thought_meetable, pm_Thought_wantedSet, pm_Thought_clashesOf, pm_Thought_firstClash, pm_Thought_lowest, pm_Thought_bestMet, pm_Thought_smoothed, pm_Thought_leastNear, pm_Thought_foldSet, pm_Thought_slidesInto, pm_Thought_lifts, pm_Thought_emptyDusks, pm_Thought_liftSpare, pm_Thought_fitsSunsets, pm_Thought_countDusks, pm_Thought_duskOr24, pm_Thought_bestLook, pm_Thought_greatestGroup, pm_Thought_seers, pm_Thought_fewestSeers, pm_Thought_seenBy, pm_Thought_coiled, pm_Thought_moored, pm_Thought_wayWith, pm_Thought_shiftOf, pm_Thought_shareOf, pm_Thought_goodMove, pm_Tokens_init, pm_Tokens_append, pm_Tokens_cut, pm_Tokens_isBlank, pm_Tokens_cutOne, pm_Tokens_isLetter, pm_Tokens_keyword, pm_Tokens_add, pm_Tokens_isDigit, pm_Tokens_number, pm_Tokens_now, pm_Tokens_fail, pm_Tokens_skip, pm_Tokens_amount, pm_Tokens_take, pm_Told_init, pm_Told_begin, pm_Told_isColumn, pm_Told_isShip, pm_Told_isPier, pm_Told_isWanted, pm_Told_wantedColumn, pm_Told_allColumns, pm_Told_copy, pm_Works_init, pm_Works_setColumn, pm_Works_note, pm_Works_moveAll, pm_Works_mendColumn, pm_Works_beginCounts, pm_Works_passHour, pm_Works_doTask, pm_Works_slideShips, pm_Works_lowerBeside, pm_Works_scrapeShips, pm_Works_payWants, pm_Works_wearColumns, pm_Works_breakColumn, pm_Works_drawGust, pm_MO_init, pm_MO_undo, pm_MO_state, pm_MO_sea, pm_MO_isIn, pm_MO_ship, pm_MO_isColumn, pm_MO_wide, pm_MO_pier, pm_MO_set, pm_MO_canSet, pm_MO_isShip, pm_MO_isPier, pm_MO_feed, pm_MO_types, pm_MO_end, pm_MO_text, pm_MO_readsText, pm_MO_reads, pm_MO_raw, pm_MO_isLetter, pm_MO_wordAt, pm_MO_isDigit, pm_MO_isMarkSign, pm_MO_readRoster, pm_MO_isWord, pm_MO_errs, pm_MO_readRosterLine, pm_MO_readTold, pm_MO_readNumber, pm_MO_readMark, pm_MO_isSign, pm_MO_readWants, pm_MO_readWant, pm_MO_readLaw, pm_MO_isLineWord, pm_MO_readSum, pm_MO_readProduct, pm_MO_readUnit, pm_MO_canAsk, pm_MO_emits, pm_MO_readAny, pm_MO_waits, pm_MO_readCompared, pm_MO_settles, pm_MO_takesLaw, pm_MO_takesOther, pm_MO_fault, pm_MO_raise, pm_MO_keepsAhead, pm_MO_sets, pm_MO_costOf, pm_MO_heightOf, pm_MO_greater, pm_MO_asks, pm_MO_leansOf, pm_MO_far, pm_MO_lawTells, pm_MO_lineOf, pm_MO_runs, pm_MO_twoOf, pm_MO_held, pm_MO_lesser, pm_MO_heightBe, pm_MO_notes, pm_MO_lift, pm_MO_lifts, pm_MO_mend, pm_MO_mends, pm_MO_hours, pm_MO_goesBy, pm_MO_does, pm_MO_slides, pm_MO_lowerBeside, pm_MO_slideOf, pm_MO_scrapes, pm_MO_pays, pm_MO_isWantedAt, pm_MO_wears, pm_MO_wearOf, pm_MO_blows, pm_MO_draw, pm_MO_of, pm_MO_duskOf, pm_MO_sunOver, pm_MO_sun, pm_MO_costs, pm_MO_shipOf, pm_MO_pierOf, pm_MO_seenFrom, pm_MO_doesSee, pm_MO_book, pm_MO_goes, pm_MO_thinks, pm_MO_endsThought, pm_MO_meets, pm_MO_has, pm_MO_canMeet, pm_MO_steep, pm_MO_paidBy, pm_MO_canAllMeet, pm_MO_smooth, pm_MO_findsSmooth, pm_MO_leastNear, pm_MO_folds, pm_MO_isLowBy, pm_MO_sunset, pm_MO_lifted, pm_MO_findsFitting, pm_MO_liftsThought, pm_MO_fitsLifted, pm_MO_bestLook, pm_MO_mostAlike, pm_MO_over, pm_MO_watch, pm_MO_onesOf, pm_MO_coils, pm_MO_findsCoils, pm_MO_moors, pm_MO_findsMoored, pm_MO_canMoor, pm_MO_mooredBy, pm_MO_fee, pm_MO_part, pm_MO_weightOf, pm_MO_game, pm_MO_image, pm_MO_keeps, pm_MO_keepsTold, pm_MO_keepsLaw, pm_MO_look, pm_Math_min, pm_Math_max, pm_Math_abs, pm_Integer_bitCount, pm_Math_min_l, pm_LAW_law]
def pm_mx : List Nat := [1, 3, 2, 3, 4, 4, 5, 3, 4, 3, 3, 2, 2, 3, 6, 2, 2, 2, 2, 3, 3, 3, 3, 3, 3, 4, 3, 2, 1, 1, 4, 2, 2, 3, 3, 2, 4, 3, 2, 1, 2, 2, 2, 4, 3, 8, 4, 10, 2, 3, 3, 4, 4, 1, 6, 4, 2, 1, 1, 3, 2, 4, 2, 1, 2, 2, 2, 2, 1, 3, 3, 3, 3, 2, 4, 5, 2, 1, 6, 4, 1, 4, 2, 4, 1, 1, 1, 4, 4, 2, 5, 6, 4, 5, 4, 6, 5, 2, 6, 4, 6, 3, 3, 5, 3, 3, 2, 2, 4, 3, 4, 4, 4, 4, 8, 5, 8, 1, 9, 6, 1, 3, 3, 1, 4, 1, 7, 4, 1, 5, 1, 2, 1, 1, 2, 1, 2, 2, 2, 2, 3, 3, 1, 2, 4, 5, 5, 5, 4, 1, 3, 5, 5, 3, 4, 4, 3, 4, 3, 1, 2, 3, 3, 4, 3, 2, 1, 3, 4, 4, 2, 2, 6, 3, 2, 3, 2, 2, 2, 2, 6, 2, 2, 2, 2, 2, 4, 4, 4, 2, 2, 2, 2, 3, 1, 2, 2, 2, 2, 3, 4, 2, 2, 2, 3, 4, 2, 3, 2, 4, 3, 2, 3, 4, 4, 3, 5, 3, 6, 4, 4, 3, 3, 5, 2, 4, 2, 3, 4, 3, 3, 4, 2, 2, 3, 4, 3, 2, 2, 2, 2, 3, 3, 3, 3, 3, 3, 3, 4, 5, 3, 5, 2, 2, 6, 3, 4, 1, 4, 4, 6, 3, 5, 3, 3, 3, 3, 2, 3, 2, 5, 6, 4, 6, 4, 4, 6, 5, 5, 4, 4, 3, 9, 3, 6, 3, 2, 2, 2, 2, 2, 2, 1, 1, 4, 4]
def pm_ks : List (List Nat) := [[2, 2, 2, 2, 2, 2, 1, 2, 2, 2, 2, 2, 2, 2, 2], [2, 2, 2], [2], [0, 0, 2, 2, 2, 2, 2], [2, 2, 2, 2, 0, 0, 0, 0, 0], [2, 0], [2, 2, 2, 2], [0, 2], [2, 2, 2, 2, 2, 2, 2, 2, 2, 2], [2, 0, 2, 2, 2, 0, 0, 0, 0], [0, 0, 0, 0, 2, 0, 2, 2, 0, 2, 2, 2, 2, 2], [2, 2, 2, 0, 0, 0], [0, 2, 2, 0, 2, 1, 0, 0, 0, 0, 0, 2, 2, 2, 2, 2, 0, 0, 0, 0, 0, 2, 2, 2, 2, 2, 2, 2, 2, 0, 0, 0, 2, 0, 0, 0, 0, 0, 0, 2, 0, 2, 2, 2, 0, 0, 2, 0, 2, 2, 0, 2, 2, 2, 1, 1, 0, 2]]
def pm_blk (m t : Nat) : List ma_I := (((pm_all[m]?).getD []).lookup t).getD []
/-- the two texts: 0 the keywords (length, sign at), 1 the signs (where) -/
def pm_kw : List Nat := [119, 101, 97, 114, 32, 115, 108, 105, 100, 101, 32, 99, 111, 115, 116, 32, 115, 117, 110, 32, 99, 111, 108, 117, 109, 110, 32, 104, 101, 105, 103, 104, 116, 32, 119, 111, 114, 110, 32, 104, 111, 117, 114, 32, 100, 97, 121, 32, 108, 101, 97, 110, 115, 32, 98, 121, 32, 119, 104, 101, 110, 32, 111, 114, 32, 97, 110, 100, 32, 110, 111, 116, 32, 97, 116, 32, 115, 101, 116, 32, 108, 105, 102, 116, 32, 100, 114, 111, 112, 32, 109, 101, 110, 100, 32, 116, 111, 32, 112, 105, 101, 114, 32, 119, 97, 110, 116, 115, 32, 102, 114, 111, 109, 32, 112, 97, 121, 115, 32].map id
def pm_sg : List Nat := [59, 43, 45, 42, 47, 40, 41, 60, 61, 62]
def pm_tx (k : Nat) (j : Int32) : Option Int32 := match k with
  | 0 => some (Int32.ofNat pm_kw.length)
  | 1 => if j < 0 ∨ pm_kw.length ≤ j.toNatClampNeg then none else some (Int32.ofNat (pm_kw.getD j.toNatClampNeg 0))
  | 5 => if j < 0 ∨ 255 < j then none else (match pm_sg.findIdx? (fun c => Int32.ofNat c == j) with
    | some n => some (Int32.ofNat n)
    | none => some (-1))
  | _ => none
def pm_P (sc : Nat × (Nat → Int32)) : ma_P := (pm_blk, fun m => (pm_mx[m]?).getD 0, fun c => (pm_ks[c]?).getD [], pm_tx, sc)
end
section
/-! ===== the value of a run, without counting steps: equations ===== -/
theorem ma_mono {P : ma_P} : ∀ (n d m : Nat) (is : List ma_I) (L : ma_L) (S : List Value) (h : List ma_C) (v : Option Value × List ma_C), ma_run P n d m is L S h = some v → ma_run P (n + 1) d m is L S h = some v
  | 0, _, _, _, _, _, _, _, hr => by simp [ma_run] at hr
  | n + 1, d, m, [], L, S, h, v, hr => by simp [ma_run] at hr
  | n + 1, d, m, (i, o) :: is, L, S, h, v, hr => by
    unfold ma_run at hr ⊢
    split at hr
    next hk =>
      split at hr
      next L1 S1 h1 hs => exact ma_mono n _ _ _ _ _ _ _ hr
      next => cases hr
    next hk =>
      split at hr
      next t S1 hs => exact ma_mono n _ _ _ _ _ _ _ hr
      next S1 hs => exact ma_mono n _ _ _ _ _ _ _ hr
      next => cases hr
    next hk =>
      split at hr
      next m2 a S1 hs =>
        split at hr
        next => cases hr
        next hz =>
          rw [if_neg hz]
          split at hr
          next => cases hr
          next d1 =>
            split at hr
            next r1 h1 h2 =>
              have := ma_mono n _ _ _ _ _ _ _ h2
              simp only [this]
              exact ma_mono n _ _ _ _ _ _ _ hr
            next => cases hr
      next => cases hr
    next hk =>
      exact hr
    next h0 h1 h2 h3 =>
      split at hr
      next S1 h1 hs => exact ma_mono n _ _ _ _ _ _ _ hr
      next => cases hr
theorem ma_mono2 {P : ma_P} {n k d m : Nat} {is : List ma_I} {L : ma_L} {S : List Value} {h : List ma_C} {v : Option Value × List ma_C} (hr : ma_run P n d m is L S h = some v) (hk : n ≤ k) : ma_run P k d m is L S h = some v := by
  obtain ⟨j, rfl⟩ : ∃ j, k = n + j := ⟨k - n, by omega⟩
  clear hk
  induction j with
  | zero => exact hr
  | succ j ih => exact ma_mono _ _ _ _ _ _ _ _ ih
theorem rv_ex (P : ma_P) (d m : Nat) (is : List ma_I) (L : ma_L) (S : List Value) (h : List ma_C) : ∃ r : Option (Option Value × List ma_C), ∀ v, r = some v ↔ ∃ n, ma_run P n d m is L S h = some v := by
  by_cases hh : ∃ v n, ma_run P n d m is L S h = some v
  · obtain ⟨v, n, hn⟩ := hh
    refine ⟨some v, fun w => ⟨fun e => ?_, fun ⟨k, hk⟩ => ?_⟩⟩
    · cases e; exact ⟨n, hn⟩
    · have a := ma_mono2 hn (Nat.le_max_left n k)
      have b := ma_mono2 hk (Nat.le_max_right n k)
      exact a.symm.trans b
  · refine ⟨none, fun w => ⟨fun e => (by cases e), fun ⟨k, hk⟩ => absurd ⟨w, k, hk⟩ hh⟩⟩
noncomputable def rv (P : ma_P) (d m : Nat) (is : List ma_I) (L : ma_L) (S : List Value) (h : List ma_C) : Option (Option Value × List ma_C) := Classical.choose (rv_ex P d m is L S h)
theorem rv_iff {P : ma_P} {d m : Nat} {is : List ma_I} {L : ma_L} {S : List Value} {h : List ma_C} {v : Option Value × List ma_C} : rv P d m is L S h = some v ↔ ∃ n, ma_run P n d m is L S h = some v := Classical.choose_spec (rv_ex P d m is L S h) v
/-- a call's value -/
noncomputable def cv (P : ma_P) (d m : Nat) (a : List Value) (h : List ma_C) : Option (Option Value × List ma_C) := rv P d m (P.1 m 0) (ma_en a (P.2.1 m)) [] h
section RV
variable {P : ma_P} {d m : Nat} {is : List ma_I} {L L' : ma_L} {S S' : List Value} {h h' : List ma_C} {i : Instr} {o : List Nat}
theorem rv_step {d' m' : Nat} {is' : List ma_I} (e : ∀ n, ma_run P (n + 1) d m is L S h = ma_run P n d' m' is' L' S' h') : rv P d m is L S h = rv P d' m' is' L' S' h' := by
  apply Option.ext
  intro v
  rw [rv_iff, rv_iff]
  constructor
  · rintro ⟨n, hn⟩
    cases n with
    | zero => simp [ma_run] at hn
    | succ n => exact ⟨n, (e n).symm.trans hn⟩
  · rintro ⟨n, hn⟩
    exact ⟨n + 1, (e n).trans hn⟩
theorem rv_s (hk : ma_k i o = 0) (hs : ma_s P.2.2.2.2 P.2.2.1 i o L S h = some (L', S', h')) : rv P d m ((i, o) :: is) L S h = rv P d m is L' S' h' :=
  rv_step fun n => by rw [ma_run, hk]; simp only [hs]
theorem rv_none (hr : ∀ n, ma_run P n d m is L S h = none) : rv P d m is L S h = none := by
  cases e : rv P d m is L S h with
  | none => rfl
  | some v =>
    obtain ⟨n, hn⟩ := rv_iff.mp e
    rw [hr n] at hn
    cases hn
theorem rv_sn (hk : ma_k i o = 0) (hs : ma_s P.2.2.2.2 P.2.2.1 i o L S h = none) : rv P d m ((i, o) :: is) L S h = none :=
  rv_none fun n => by
    cases n with
    | zero => rfl
    | succ n => rw [ma_run, hk]; simp only [hs]
theorem rv_j {t : Nat} (hk : ma_k i o = 1) (hs : ma_j i o S = some (some t, S')) : rv P d m ((i, o) :: is) L S h = rv P d m (P.1 m t) L S' h :=
  rv_step fun n => by rw [ma_run, hk]; simp only [hs]
theorem rv_jn (hk : ma_k i o = 1) (hs : ma_j i o S = some (none, S')) : rv P d m ((i, o) :: is) L S h = rv P d m is L S' h :=
  rv_step fun n => by rw [ma_run, hk]; simp only [hs]
theorem rv_x (hk : ma_k i o = 4) (hd : ¬ d < 9) (hs : ma_x P.2.2.2.1 i o S h = some (S', h')) : rv P d m ((i, o) :: is) L S h = rv P d m is L S' h' :=
  rv_step fun n => by rw [ma_run, hk]; simp only [if_neg hd, hs]
theorem rv_r {r : Option Value} (hk : ma_k i o = 3) (hs : ma_r i o S = some r) : rv P d m ((i, o) :: is) L S h = some (r, h) :=
  rv_iff.mpr ⟨1, by rw [ma_run, hk]; simp only [hs]⟩
theorem rv_c {m' : Nat} {a : List Value} (hk : ma_k i o = 2) (hs : ma_c i o S h = some (m', a, S')) (hl : (ma_ent a).length ≤ P.2.1 m') : rv P (d + 1) m ((i, o) :: is) L S h = (cv P d m' a h).bind (fun q => rv P (d + 1) m is L (q.1.toList ++ S') q.2) := by
  apply Option.ext
  intro v
  have hz : ¬ P.2.1 m' < (ma_ent a).length := Nat.not_lt.mpr hl
  rw [rv_iff, Option.bind_eq_some_iff]
  constructor
  · rintro ⟨n, hn⟩
    cases n with
    | zero => simp [ma_run] at hn
    | succ n =>
      rw [ma_run, hk] at hn
      simp only [hs, if_neg hz] at hn
      split at hn
      next r1 h1 h2 => exact ⟨(r1, h1), rv_iff.mpr ⟨n, h2⟩, rv_iff.mpr ⟨n, hn⟩⟩
      next => cases hn
  · rintro ⟨⟨r1, h1⟩, e1, e2⟩
    obtain ⟨n1, e1⟩ := rv_iff.mp e1
    obtain ⟨n2, e2⟩ := rv_iff.mp e2
    refine ⟨max n1 n2 + 1, ?_⟩
    rw [ma_run, hk]
    simp only [hs, if_neg hz, ma_mono2 e1 (Nat.le_max_left n1 n2)]
    exact ma_mono2 e2 (Nat.le_max_right n1 n2)
end RV
end
section
/-! ===== equations: one instruction each ===== -/
theorem ma_jT {c : ClassFile.Cond} {x y : Int32} {t : Nat} {z : Int} {S : List Value} (hc : ma_cmp c x y = true) : ma_j (.if_icmp c z) [t] (.int y :: .int x :: S) = some (some t, S) := by simp only [ma_j, hc, if_true]
theorem ma_jF {c : ClassFile.Cond} {x y : Int32} {t : Nat} {z : Int} {S : List Value} (hc : ma_cmp c x y = false) : ma_j (.if_icmp c z) [t] (.int y :: .int x :: S) = some (none, S) := by simp only [ma_j, hc]; rfl
theorem ma_jT0 {c : ClassFile.Cond} {x : Int32} {t : Nat} {z : Int} {S : List Value} (hc : ma_cmp c x 0 = true) : ma_j (.ifCond c z) [t] (.int x :: S) = some (some t, S) := by simp only [ma_j, hc, if_true]
theorem ma_jF0 {c : ClassFile.Cond} {x : Int32} {t : Nat} {z : Int} {S : List Value} (hc : ma_cmp c x 0 = false) : ma_j (.ifCond c z) [t] (.int x :: S) = some (none, S) := by simp only [ma_j, hc]; rfl
noncomputable def ev (sc : Nat × (Nat → Int32)) (d m : Nat) (is : List ma_I) (L : ma_L) (S : List Value) (h : List ma_C) : Option (Option Value × List ma_C) := rv (pm_P sc) d m is L S h
noncomputable def cc (sc : Nat × (Nat → Int32)) (d m : Nat) (a : List Value) (h : List ma_C) : Option (Option Value × List ma_C) := ev sc d m (pm_blk m 0) (ma_en a ((pm_mx[m]?).getD 0)) [] h
def ma_wd : List Value → Nat
  | [] => 0
  | v :: S => v.category + ma_wd S
theorem ma_wd_eq : ∀ S : List Value, (S.map fun v => v.category).sum = ma_wd S
  | [] => rfl
  | v :: S => by rw [List.map_cons, List.sum_cons, ma_wd_eq S]; rfl
theorem ma_wd0 : ma_wd [] = 0 := rfl
theorem ma_wdi (x : Int32) (S : List Value) : ma_wd (.int x :: S) = 1 + ma_wd S := rfl
theorem ma_wdr (x : Nat) (S : List Value) : ma_wd (.ref x :: S) = 1 + ma_wd S := rfl
theorem ma_wdn (S : List Value) : ma_wd (.null :: S) = 1 + ma_wd S := rfl
theorem ma_wdl (x : Int64) (S : List Value) : ma_wd (.long x :: S) = 2 + ma_wd S := rfl
section EV
variable {sc : Nat × (Nat → Int32)} {d m : Nat} {is : List ma_I} {L : ma_L} {S : List Value} {h : List ma_C} {o : List Nat}
theorem evK : (∀ (sc : Nat × (Nat → Int32)) (d m : Nat) (is : List ma_I) (L : ma_L) (S : List Value) (h : List ma_C) (o : List Nat), ev sc d m ((.iconst (-1), o) :: is) (L) (S) (h) = ev sc d m (is) (L) (.int (-1) :: S) (h)) ∧
  (∀ (sc : Nat × (Nat → Int32)) (d m : Nat) (is : List ma_I) (L : ma_L) (S : List Value) (h : List ma_C) (o : List Nat), ev sc d m ((.iconst 0, o) :: is) (L) (S) (h) = ev sc d m (is) (L) (.int 0 :: S) (h)) ∧
  (∀ (sc : Nat × (Nat → Int32)) (d m : Nat) (is : List ma_I) (L : ma_L) (S : List Value) (h : List ma_C) (o : List Nat), ev sc d m ((.iconst 1, o) :: is) (L) (S) (h) = ev sc d m (is) (L) (.int 1 :: S) (h)) ∧
  (∀ (sc : Nat × (Nat → Int32)) (d m : Nat) (is : List ma_I) (L : ma_L) (S : List Value) (h : List ma_C) (o : List Nat), ev sc d m ((.iconst 2, o) :: is) (L) (S) (h) = ev sc d m (is) (L) (.int 2 :: S) (h)) ∧
  (∀ (sc : Nat × (Nat → Int32)) (d m : Nat) (is : List ma_I) (L : ma_L) (S : List Value) (h : List ma_C) (o : List Nat), ev sc d m ((.iconst 3, o) :: is) (L) (S) (h) = ev sc d m (is) (L) (.int 3 :: S) (h)) ∧
  (∀ (sc : Nat × (Nat → Int32)) (d m : Nat) (is : List ma_I) (L : ma_L) (S : List Value) (h : List ma_C) (o : List Nat), ev sc d m ((.iconst 4, o) :: is) (L) (S) (h) = ev sc d m (is) (L) (.int 4 :: S) (h)) ∧
  (∀ (sc : Nat × (Nat → Int32)) (d m : Nat) (is : List ma_I) (L : ma_L) (S : List Value) (h : List ma_C) (o : List Nat), ev sc d m ((.iconst 5, o) :: is) (L) (S) (h) = ev sc d m (is) (L) (.int 5 :: S) (h)) ∧
  (∀ (sc : Nat × (Nat → Int32)) (d m : Nat) (is : List ma_I) (L : ma_L) (S : List Value) (h : List ma_C) (o : List Nat), ev sc d m ((.bipush (-100), o) :: is) (L) (S) (h) = ev sc d m (is) (L) (.int (-100) :: S) (h)) ∧
  (∀ (sc : Nat × (Nat → Int32)) (d m : Nat) (is : List ma_I) (L : ma_L) (S : List Value) (h : List ma_C) (o : List Nat), ev sc d m ((.bipush (-20), o) :: is) (L) (S) (h) = ev sc d m (is) (L) (.int (-20) :: S) (h)) ∧
  (∀ (sc : Nat × (Nat → Int32)) (d m : Nat) (is : List ma_I) (L : ma_L) (S : List Value) (h : List ma_C) (o : List Nat), ev sc d m ((.bipush (-2), o) :: is) (L) (S) (h) = ev sc d m (is) (L) (.int (-2) :: S) (h)) ∧
  (∀ (sc : Nat × (Nat → Int32)) (d m : Nat) (is : List ma_I) (L : ma_L) (S : List Value) (h : List ma_C) (o : List Nat), ev sc d m ((.bipush 6, o) :: is) (L) (S) (h) = ev sc d m (is) (L) (.int 6 :: S) (h)) ∧
  (∀ (sc : Nat × (Nat → Int32)) (d m : Nat) (is : List ma_I) (L : ma_L) (S : List Value) (h : List ma_C) (o : List Nat), ev sc d m ((.bipush 7, o) :: is) (L) (S) (h) = ev sc d m (is) (L) (.int 7 :: S) (h)) ∧
  (∀ (sc : Nat × (Nat → Int32)) (d m : Nat) (is : List ma_I) (L : ma_L) (S : List Value) (h : List ma_C) (o : List Nat), ev sc d m ((.bipush 8, o) :: is) (L) (S) (h) = ev sc d m (is) (L) (.int 8 :: S) (h)) ∧
  (∀ (sc : Nat × (Nat → Int32)) (d m : Nat) (is : List ma_I) (L : ma_L) (S : List Value) (h : List ma_C) (o : List Nat), ev sc d m ((.bipush 9, o) :: is) (L) (S) (h) = ev sc d m (is) (L) (.int 9 :: S) (h)) ∧
  (∀ (sc : Nat × (Nat → Int32)) (d m : Nat) (is : List ma_I) (L : ma_L) (S : List Value) (h : List ma_C) (o : List Nat), ev sc d m ((.bipush 10, o) :: is) (L) (S) (h) = ev sc d m (is) (L) (.int 10 :: S) (h)) ∧
  (∀ (sc : Nat × (Nat → Int32)) (d m : Nat) (is : List ma_I) (L : ma_L) (S : List Value) (h : List ma_C) (o : List Nat), ev sc d m ((.bipush 11, o) :: is) (L) (S) (h) = ev sc d m (is) (L) (.int 11 :: S) (h)) ∧
  (∀ (sc : Nat × (Nat → Int32)) (d m : Nat) (is : List ma_I) (L : ma_L) (S : List Value) (h : List ma_C) (o : List Nat), ev sc d m ((.bipush 12, o) :: is) (L) (S) (h) = ev sc d m (is) (L) (.int 12 :: S) (h)) ∧
  (∀ (sc : Nat × (Nat → Int32)) (d m : Nat) (is : List ma_I) (L : ma_L) (S : List Value) (h : List ma_C) (o : List Nat), ev sc d m ((.bipush 13, o) :: is) (L) (S) (h) = ev sc d m (is) (L) (.int 13 :: S) (h)) ∧
  (∀ (sc : Nat × (Nat → Int32)) (d m : Nat) (is : List ma_I) (L : ma_L) (S : List Value) (h : List ma_C) (o : List Nat), ev sc d m ((.bipush 14, o) :: is) (L) (S) (h) = ev sc d m (is) (L) (.int 14 :: S) (h)) ∧
  (∀ (sc : Nat × (Nat → Int32)) (d m : Nat) (is : List ma_I) (L : ma_L) (S : List Value) (h : List ma_C) (o : List Nat), ev sc d m ((.bipush 15, o) :: is) (L) (S) (h) = ev sc d m (is) (L) (.int 15 :: S) (h)) ∧
  (∀ (sc : Nat × (Nat → Int32)) (d m : Nat) (is : List ma_I) (L : ma_L) (S : List Value) (h : List ma_C) (o : List Nat), ev sc d m ((.bipush 16, o) :: is) (L) (S) (h) = ev sc d m (is) (L) (.int 16 :: S) (h)) ∧
  (∀ (sc : Nat × (Nat → Int32)) (d m : Nat) (is : List ma_I) (L : ma_L) (S : List Value) (h : List ma_C) (o : List Nat), ev sc d m ((.bipush 17, o) :: is) (L) (S) (h) = ev sc d m (is) (L) (.int 17 :: S) (h)) ∧
  (∀ (sc : Nat × (Nat → Int32)) (d m : Nat) (is : List ma_I) (L : ma_L) (S : List Value) (h : List ma_C) (o : List Nat), ev sc d m ((.bipush 18, o) :: is) (L) (S) (h) = ev sc d m (is) (L) (.int 18 :: S) (h)) ∧
  (∀ (sc : Nat × (Nat → Int32)) (d m : Nat) (is : List ma_I) (L : ma_L) (S : List Value) (h : List ma_C) (o : List Nat), ev sc d m ((.bipush 19, o) :: is) (L) (S) (h) = ev sc d m (is) (L) (.int 19 :: S) (h)) ∧
  (∀ (sc : Nat × (Nat → Int32)) (d m : Nat) (is : List ma_I) (L : ma_L) (S : List Value) (h : List ma_C) (o : List Nat), ev sc d m ((.bipush 20, o) :: is) (L) (S) (h) = ev sc d m (is) (L) (.int 20 :: S) (h)) ∧
  (∀ (sc : Nat × (Nat → Int32)) (d m : Nat) (is : List ma_I) (L : ma_L) (S : List Value) (h : List ma_C) (o : List Nat), ev sc d m ((.bipush 21, o) :: is) (L) (S) (h) = ev sc d m (is) (L) (.int 21 :: S) (h)) ∧
  (∀ (sc : Nat × (Nat → Int32)) (d m : Nat) (is : List ma_I) (L : ma_L) (S : List Value) (h : List ma_C) (o : List Nat), ev sc d m ((.bipush 22, o) :: is) (L) (S) (h) = ev sc d m (is) (L) (.int 22 :: S) (h)) ∧
  (∀ (sc : Nat × (Nat → Int32)) (d m : Nat) (is : List ma_I) (L : ma_L) (S : List Value) (h : List ma_C) (o : List Nat), ev sc d m ((.bipush 23, o) :: is) (L) (S) (h) = ev sc d m (is) (L) (.int 23 :: S) (h)) ∧
  (∀ (sc : Nat × (Nat → Int32)) (d m : Nat) (is : List ma_I) (L : ma_L) (S : List Value) (h : List ma_C) (o : List Nat), ev sc d m ((.bipush 24, o) :: is) (L) (S) (h) = ev sc d m (is) (L) (.int 24 :: S) (h)) ∧
  (∀ (sc : Nat × (Nat → Int32)) (d m : Nat) (is : List ma_I) (L : ma_L) (S : List Value) (h : List ma_C) (o : List Nat), ev sc d m ((.bipush 25, o) :: is) (L) (S) (h) = ev sc d m (is) (L) (.int 25 :: S) (h)) ∧
  (∀ (sc : Nat × (Nat → Int32)) (d m : Nat) (is : List ma_I) (L : ma_L) (S : List Value) (h : List ma_C) (o : List Nat), ev sc d m ((.bipush 26, o) :: is) (L) (S) (h) = ev sc d m (is) (L) (.int 26 :: S) (h)) ∧
  (∀ (sc : Nat × (Nat → Int32)) (d m : Nat) (is : List ma_I) (L : ma_L) (S : List Value) (h : List ma_C) (o : List Nat), ev sc d m ((.bipush 27, o) :: is) (L) (S) (h) = ev sc d m (is) (L) (.int 27 :: S) (h)) ∧
  (∀ (sc : Nat × (Nat → Int32)) (d m : Nat) (is : List ma_I) (L : ma_L) (S : List Value) (h : List ma_C) (o : List Nat), ev sc d m ((.bipush 28, o) :: is) (L) (S) (h) = ev sc d m (is) (L) (.int 28 :: S) (h)) ∧
  (∀ (sc : Nat × (Nat → Int32)) (d m : Nat) (is : List ma_I) (L : ma_L) (S : List Value) (h : List ma_C) (o : List Nat), ev sc d m ((.bipush 29, o) :: is) (L) (S) (h) = ev sc d m (is) (L) (.int 29 :: S) (h)) ∧
  (∀ (sc : Nat × (Nat → Int32)) (d m : Nat) (is : List ma_I) (L : ma_L) (S : List Value) (h : List ma_C) (o : List Nat), ev sc d m ((.bipush 30, o) :: is) (L) (S) (h) = ev sc d m (is) (L) (.int 30 :: S) (h)) ∧
  (∀ (sc : Nat × (Nat → Int32)) (d m : Nat) (is : List ma_I) (L : ma_L) (S : List Value) (h : List ma_C) (o : List Nat), ev sc d m ((.bipush 31, o) :: is) (L) (S) (h) = ev sc d m (is) (L) (.int 31 :: S) (h)) ∧
  (∀ (sc : Nat × (Nat → Int32)) (d m : Nat) (is : List ma_I) (L : ma_L) (S : List Value) (h : List ma_C) (o : List Nat), ev sc d m ((.bipush 32, o) :: is) (L) (S) (h) = ev sc d m (is) (L) (.int 32 :: S) (h)) ∧
  (∀ (sc : Nat × (Nat → Int32)) (d m : Nat) (is : List ma_I) (L : ma_L) (S : List Value) (h : List ma_C) (o : List Nat), ev sc d m ((.bipush 33, o) :: is) (L) (S) (h) = ev sc d m (is) (L) (.int 33 :: S) (h)) ∧
  (∀ (sc : Nat × (Nat → Int32)) (d m : Nat) (is : List ma_I) (L : ma_L) (S : List Value) (h : List ma_C) (o : List Nat), ev sc d m ((.bipush 34, o) :: is) (L) (S) (h) = ev sc d m (is) (L) (.int 34 :: S) (h)) ∧
  (∀ (sc : Nat × (Nat → Int32)) (d m : Nat) (is : List ma_I) (L : ma_L) (S : List Value) (h : List ma_C) (o : List Nat), ev sc d m ((.bipush 35, o) :: is) (L) (S) (h) = ev sc d m (is) (L) (.int 35 :: S) (h)) ∧
  (∀ (sc : Nat × (Nat → Int32)) (d m : Nat) (is : List ma_I) (L : ma_L) (S : List Value) (h : List ma_C) (o : List Nat), ev sc d m ((.bipush 36, o) :: is) (L) (S) (h) = ev sc d m (is) (L) (.int 36 :: S) (h)) ∧
  (∀ (sc : Nat × (Nat → Int32)) (d m : Nat) (is : List ma_I) (L : ma_L) (S : List Value) (h : List ma_C) (o : List Nat), ev sc d m ((.bipush 37, o) :: is) (L) (S) (h) = ev sc d m (is) (L) (.int 37 :: S) (h)) ∧
  (∀ (sc : Nat × (Nat → Int32)) (d m : Nat) (is : List ma_I) (L : ma_L) (S : List Value) (h : List ma_C) (o : List Nat), ev sc d m ((.bipush 38, o) :: is) (L) (S) (h) = ev sc d m (is) (L) (.int 38 :: S) (h)) ∧
  (∀ (sc : Nat × (Nat → Int32)) (d m : Nat) (is : List ma_I) (L : ma_L) (S : List Value) (h : List ma_C) (o : List Nat), ev sc d m ((.bipush 39, o) :: is) (L) (S) (h) = ev sc d m (is) (L) (.int 39 :: S) (h)) ∧
  (∀ (sc : Nat × (Nat → Int32)) (d m : Nat) (is : List ma_I) (L : ma_L) (S : List Value) (h : List ma_C) (o : List Nat), ev sc d m ((.bipush 40, o) :: is) (L) (S) (h) = ev sc d m (is) (L) (.int 40 :: S) (h)) ∧
  (∀ (sc : Nat × (Nat → Int32)) (d m : Nat) (is : List ma_I) (L : ma_L) (S : List Value) (h : List ma_C) (o : List Nat), ev sc d m ((.bipush 41, o) :: is) (L) (S) (h) = ev sc d m (is) (L) (.int 41 :: S) (h)) ∧
  (∀ (sc : Nat × (Nat → Int32)) (d m : Nat) (is : List ma_I) (L : ma_L) (S : List Value) (h : List ma_C) (o : List Nat), ev sc d m ((.bipush 42, o) :: is) (L) (S) (h) = ev sc d m (is) (L) (.int 42 :: S) (h)) ∧
  (∀ (sc : Nat × (Nat → Int32)) (d m : Nat) (is : List ma_I) (L : ma_L) (S : List Value) (h : List ma_C) (o : List Nat), ev sc d m ((.bipush 43, o) :: is) (L) (S) (h) = ev sc d m (is) (L) (.int 43 :: S) (h)) ∧
  (∀ (sc : Nat × (Nat → Int32)) (d m : Nat) (is : List ma_I) (L : ma_L) (S : List Value) (h : List ma_C) (o : List Nat), ev sc d m ((.bipush 44, o) :: is) (L) (S) (h) = ev sc d m (is) (L) (.int 44 :: S) (h)) ∧
  (∀ (sc : Nat × (Nat → Int32)) (d m : Nat) (is : List ma_I) (L : ma_L) (S : List Value) (h : List ma_C) (o : List Nat), ev sc d m ((.bipush 45, o) :: is) (L) (S) (h) = ev sc d m (is) (L) (.int 45 :: S) (h)) ∧
  (∀ (sc : Nat × (Nat → Int32)) (d m : Nat) (is : List ma_I) (L : ma_L) (S : List Value) (h : List ma_C) (o : List Nat), ev sc d m ((.bipush 46, o) :: is) (L) (S) (h) = ev sc d m (is) (L) (.int 46 :: S) (h)) ∧
  (∀ (sc : Nat × (Nat → Int32)) (d m : Nat) (is : List ma_I) (L : ma_L) (S : List Value) (h : List ma_C) (o : List Nat), ev sc d m ((.bipush 47, o) :: is) (L) (S) (h) = ev sc d m (is) (L) (.int 47 :: S) (h)) ∧
  (∀ (sc : Nat × (Nat → Int32)) (d m : Nat) (is : List ma_I) (L : ma_L) (S : List Value) (h : List ma_C) (o : List Nat), ev sc d m ((.bipush 48, o) :: is) (L) (S) (h) = ev sc d m (is) (L) (.int 48 :: S) (h)) ∧
  (∀ (sc : Nat × (Nat → Int32)) (d m : Nat) (is : List ma_I) (L : ma_L) (S : List Value) (h : List ma_C) (o : List Nat), ev sc d m ((.bipush 49, o) :: is) (L) (S) (h) = ev sc d m (is) (L) (.int 49 :: S) (h)) ∧
  (∀ (sc : Nat × (Nat → Int32)) (d m : Nat) (is : List ma_I) (L : ma_L) (S : List Value) (h : List ma_C) (o : List Nat), ev sc d m ((.bipush 50, o) :: is) (L) (S) (h) = ev sc d m (is) (L) (.int 50 :: S) (h)) ∧
  (∀ (sc : Nat × (Nat → Int32)) (d m : Nat) (is : List ma_I) (L : ma_L) (S : List Value) (h : List ma_C) (o : List Nat), ev sc d m ((.bipush 51, o) :: is) (L) (S) (h) = ev sc d m (is) (L) (.int 51 :: S) (h)) ∧
  (∀ (sc : Nat × (Nat → Int32)) (d m : Nat) (is : List ma_I) (L : ma_L) (S : List Value) (h : List ma_C) (o : List Nat), ev sc d m ((.bipush 52, o) :: is) (L) (S) (h) = ev sc d m (is) (L) (.int 52 :: S) (h)) ∧
  (∀ (sc : Nat × (Nat → Int32)) (d m : Nat) (is : List ma_I) (L : ma_L) (S : List Value) (h : List ma_C) (o : List Nat), ev sc d m ((.bipush 53, o) :: is) (L) (S) (h) = ev sc d m (is) (L) (.int 53 :: S) (h)) ∧
  (∀ (sc : Nat × (Nat → Int32)) (d m : Nat) (is : List ma_I) (L : ma_L) (S : List Value) (h : List ma_C) (o : List Nat), ev sc d m ((.bipush 54, o) :: is) (L) (S) (h) = ev sc d m (is) (L) (.int 54 :: S) (h)) ∧
  (∀ (sc : Nat × (Nat → Int32)) (d m : Nat) (is : List ma_I) (L : ma_L) (S : List Value) (h : List ma_C) (o : List Nat), ev sc d m ((.bipush 55, o) :: is) (L) (S) (h) = ev sc d m (is) (L) (.int 55 :: S) (h)) ∧
  (∀ (sc : Nat × (Nat → Int32)) (d m : Nat) (is : List ma_I) (L : ma_L) (S : List Value) (h : List ma_C) (o : List Nat), ev sc d m ((.bipush 56, o) :: is) (L) (S) (h) = ev sc d m (is) (L) (.int 56 :: S) (h)) ∧
  (∀ (sc : Nat × (Nat → Int32)) (d m : Nat) (is : List ma_I) (L : ma_L) (S : List Value) (h : List ma_C) (o : List Nat), ev sc d m ((.bipush 57, o) :: is) (L) (S) (h) = ev sc d m (is) (L) (.int 57 :: S) (h)) ∧
  (∀ (sc : Nat × (Nat → Int32)) (d m : Nat) (is : List ma_I) (L : ma_L) (S : List Value) (h : List ma_C) (o : List Nat), ev sc d m ((.bipush 58, o) :: is) (L) (S) (h) = ev sc d m (is) (L) (.int 58 :: S) (h)) ∧
  (∀ (sc : Nat × (Nat → Int32)) (d m : Nat) (is : List ma_I) (L : ma_L) (S : List Value) (h : List ma_C) (o : List Nat), ev sc d m ((.bipush 59, o) :: is) (L) (S) (h) = ev sc d m (is) (L) (.int 59 :: S) (h)) ∧
  (∀ (sc : Nat × (Nat → Int32)) (d m : Nat) (is : List ma_I) (L : ma_L) (S : List Value) (h : List ma_C) (o : List Nat), ev sc d m ((.bipush 60, o) :: is) (L) (S) (h) = ev sc d m (is) (L) (.int 60 :: S) (h)) ∧
  (∀ (sc : Nat × (Nat → Int32)) (d m : Nat) (is : List ma_I) (L : ma_L) (S : List Value) (h : List ma_C) (o : List Nat), ev sc d m ((.bipush 61, o) :: is) (L) (S) (h) = ev sc d m (is) (L) (.int 61 :: S) (h)) ∧
  (∀ (sc : Nat × (Nat → Int32)) (d m : Nat) (is : List ma_I) (L : ma_L) (S : List Value) (h : List ma_C) (o : List Nat), ev sc d m ((.bipush 62, o) :: is) (L) (S) (h) = ev sc d m (is) (L) (.int 62 :: S) (h)) ∧
  (∀ (sc : Nat × (Nat → Int32)) (d m : Nat) (is : List ma_I) (L : ma_L) (S : List Value) (h : List ma_C) (o : List Nat), ev sc d m ((.bipush 63, o) :: is) (L) (S) (h) = ev sc d m (is) (L) (.int 63 :: S) (h)) ∧
  (∀ (sc : Nat × (Nat → Int32)) (d m : Nat) (is : List ma_I) (L : ma_L) (S : List Value) (h : List ma_C) (o : List Nat), ev sc d m ((.bipush 64, o) :: is) (L) (S) (h) = ev sc d m (is) (L) (.int 64 :: S) (h)) ∧
  (∀ (sc : Nat × (Nat → Int32)) (d m : Nat) (is : List ma_I) (L : ma_L) (S : List Value) (h : List ma_C) (o : List Nat), ev sc d m ((.bipush 65, o) :: is) (L) (S) (h) = ev sc d m (is) (L) (.int 65 :: S) (h)) ∧
  (∀ (sc : Nat × (Nat → Int32)) (d m : Nat) (is : List ma_I) (L : ma_L) (S : List Value) (h : List ma_C) (o : List Nat), ev sc d m ((.bipush 66, o) :: is) (L) (S) (h) = ev sc d m (is) (L) (.int 66 :: S) (h)) ∧
  (∀ (sc : Nat × (Nat → Int32)) (d m : Nat) (is : List ma_I) (L : ma_L) (S : List Value) (h : List ma_C) (o : List Nat), ev sc d m ((.bipush 67, o) :: is) (L) (S) (h) = ev sc d m (is) (L) (.int 67 :: S) (h)) ∧
  (∀ (sc : Nat × (Nat → Int32)) (d m : Nat) (is : List ma_I) (L : ma_L) (S : List Value) (h : List ma_C) (o : List Nat), ev sc d m ((.bipush 68, o) :: is) (L) (S) (h) = ev sc d m (is) (L) (.int 68 :: S) (h)) ∧
  (∀ (sc : Nat × (Nat → Int32)) (d m : Nat) (is : List ma_I) (L : ma_L) (S : List Value) (h : List ma_C) (o : List Nat), ev sc d m ((.bipush 69, o) :: is) (L) (S) (h) = ev sc d m (is) (L) (.int 69 :: S) (h)) ∧
  (∀ (sc : Nat × (Nat → Int32)) (d m : Nat) (is : List ma_I) (L : ma_L) (S : List Value) (h : List ma_C) (o : List Nat), ev sc d m ((.bipush 70, o) :: is) (L) (S) (h) = ev sc d m (is) (L) (.int 70 :: S) (h)) ∧
  (∀ (sc : Nat × (Nat → Int32)) (d m : Nat) (is : List ma_I) (L : ma_L) (S : List Value) (h : List ma_C) (o : List Nat), ev sc d m ((.bipush 71, o) :: is) (L) (S) (h) = ev sc d m (is) (L) (.int 71 :: S) (h)) ∧
  (∀ (sc : Nat × (Nat → Int32)) (d m : Nat) (is : List ma_I) (L : ma_L) (S : List Value) (h : List ma_C) (o : List Nat), ev sc d m ((.bipush 72, o) :: is) (L) (S) (h) = ev sc d m (is) (L) (.int 72 :: S) (h)) ∧
  (∀ (sc : Nat × (Nat → Int32)) (d m : Nat) (is : List ma_I) (L : ma_L) (S : List Value) (h : List ma_C) (o : List Nat), ev sc d m ((.bipush 73, o) :: is) (L) (S) (h) = ev sc d m (is) (L) (.int 73 :: S) (h)) ∧
  (∀ (sc : Nat × (Nat → Int32)) (d m : Nat) (is : List ma_I) (L : ma_L) (S : List Value) (h : List ma_C) (o : List Nat), ev sc d m ((.bipush 74, o) :: is) (L) (S) (h) = ev sc d m (is) (L) (.int 74 :: S) (h)) ∧
  (∀ (sc : Nat × (Nat → Int32)) (d m : Nat) (is : List ma_I) (L : ma_L) (S : List Value) (h : List ma_C) (o : List Nat), ev sc d m ((.bipush 75, o) :: is) (L) (S) (h) = ev sc d m (is) (L) (.int 75 :: S) (h)) ∧
  (∀ (sc : Nat × (Nat → Int32)) (d m : Nat) (is : List ma_I) (L : ma_L) (S : List Value) (h : List ma_C) (o : List Nat), ev sc d m ((.bipush 76, o) :: is) (L) (S) (h) = ev sc d m (is) (L) (.int 76 :: S) (h)) ∧
  (∀ (sc : Nat × (Nat → Int32)) (d m : Nat) (is : List ma_I) (L : ma_L) (S : List Value) (h : List ma_C) (o : List Nat), ev sc d m ((.bipush 77, o) :: is) (L) (S) (h) = ev sc d m (is) (L) (.int 77 :: S) (h)) ∧
  (∀ (sc : Nat × (Nat → Int32)) (d m : Nat) (is : List ma_I) (L : ma_L) (S : List Value) (h : List ma_C) (o : List Nat), ev sc d m ((.bipush 78, o) :: is) (L) (S) (h) = ev sc d m (is) (L) (.int 78 :: S) (h)) ∧
  (∀ (sc : Nat × (Nat → Int32)) (d m : Nat) (is : List ma_I) (L : ma_L) (S : List Value) (h : List ma_C) (o : List Nat), ev sc d m ((.bipush 79, o) :: is) (L) (S) (h) = ev sc d m (is) (L) (.int 79 :: S) (h)) ∧
  (∀ (sc : Nat × (Nat → Int32)) (d m : Nat) (is : List ma_I) (L : ma_L) (S : List Value) (h : List ma_C) (o : List Nat), ev sc d m ((.bipush 80, o) :: is) (L) (S) (h) = ev sc d m (is) (L) (.int 80 :: S) (h)) ∧
  (∀ (sc : Nat × (Nat → Int32)) (d m : Nat) (is : List ma_I) (L : ma_L) (S : List Value) (h : List ma_C) (o : List Nat), ev sc d m ((.bipush 81, o) :: is) (L) (S) (h) = ev sc d m (is) (L) (.int 81 :: S) (h)) ∧
  (∀ (sc : Nat × (Nat → Int32)) (d m : Nat) (is : List ma_I) (L : ma_L) (S : List Value) (h : List ma_C) (o : List Nat), ev sc d m ((.bipush 82, o) :: is) (L) (S) (h) = ev sc d m (is) (L) (.int 82 :: S) (h)) ∧
  (∀ (sc : Nat × (Nat → Int32)) (d m : Nat) (is : List ma_I) (L : ma_L) (S : List Value) (h : List ma_C) (o : List Nat), ev sc d m ((.bipush 83, o) :: is) (L) (S) (h) = ev sc d m (is) (L) (.int 83 :: S) (h)) ∧
  (∀ (sc : Nat × (Nat → Int32)) (d m : Nat) (is : List ma_I) (L : ma_L) (S : List Value) (h : List ma_C) (o : List Nat), ev sc d m ((.bipush 84, o) :: is) (L) (S) (h) = ev sc d m (is) (L) (.int 84 :: S) (h)) ∧
  (∀ (sc : Nat × (Nat → Int32)) (d m : Nat) (is : List ma_I) (L : ma_L) (S : List Value) (h : List ma_C) (o : List Nat), ev sc d m ((.bipush 85, o) :: is) (L) (S) (h) = ev sc d m (is) (L) (.int 85 :: S) (h)) ∧
  (∀ (sc : Nat × (Nat → Int32)) (d m : Nat) (is : List ma_I) (L : ma_L) (S : List Value) (h : List ma_C) (o : List Nat), ev sc d m ((.bipush 86, o) :: is) (L) (S) (h) = ev sc d m (is) (L) (.int 86 :: S) (h)) ∧
  (∀ (sc : Nat × (Nat → Int32)) (d m : Nat) (is : List ma_I) (L : ma_L) (S : List Value) (h : List ma_C) (o : List Nat), ev sc d m ((.bipush 87, o) :: is) (L) (S) (h) = ev sc d m (is) (L) (.int 87 :: S) (h)) ∧
  (∀ (sc : Nat × (Nat → Int32)) (d m : Nat) (is : List ma_I) (L : ma_L) (S : List Value) (h : List ma_C) (o : List Nat), ev sc d m ((.bipush 88, o) :: is) (L) (S) (h) = ev sc d m (is) (L) (.int 88 :: S) (h)) ∧
  (∀ (sc : Nat × (Nat → Int32)) (d m : Nat) (is : List ma_I) (L : ma_L) (S : List Value) (h : List ma_C) (o : List Nat), ev sc d m ((.bipush 89, o) :: is) (L) (S) (h) = ev sc d m (is) (L) (.int 89 :: S) (h)) ∧
  (∀ (sc : Nat × (Nat → Int32)) (d m : Nat) (is : List ma_I) (L : ma_L) (S : List Value) (h : List ma_C) (o : List Nat), ev sc d m ((.bipush 90, o) :: is) (L) (S) (h) = ev sc d m (is) (L) (.int 90 :: S) (h)) ∧
  (∀ (sc : Nat × (Nat → Int32)) (d m : Nat) (is : List ma_I) (L : ma_L) (S : List Value) (h : List ma_C) (o : List Nat), ev sc d m ((.bipush 91, o) :: is) (L) (S) (h) = ev sc d m (is) (L) (.int 91 :: S) (h)) ∧
  (∀ (sc : Nat × (Nat → Int32)) (d m : Nat) (is : List ma_I) (L : ma_L) (S : List Value) (h : List ma_C) (o : List Nat), ev sc d m ((.bipush 92, o) :: is) (L) (S) (h) = ev sc d m (is) (L) (.int 92 :: S) (h)) ∧
  (∀ (sc : Nat × (Nat → Int32)) (d m : Nat) (is : List ma_I) (L : ma_L) (S : List Value) (h : List ma_C) (o : List Nat), ev sc d m ((.bipush 93, o) :: is) (L) (S) (h) = ev sc d m (is) (L) (.int 93 :: S) (h)) ∧
  (∀ (sc : Nat × (Nat → Int32)) (d m : Nat) (is : List ma_I) (L : ma_L) (S : List Value) (h : List ma_C) (o : List Nat), ev sc d m ((.bipush 94, o) :: is) (L) (S) (h) = ev sc d m (is) (L) (.int 94 :: S) (h)) ∧
  (∀ (sc : Nat × (Nat → Int32)) (d m : Nat) (is : List ma_I) (L : ma_L) (S : List Value) (h : List ma_C) (o : List Nat), ev sc d m ((.bipush 95, o) :: is) (L) (S) (h) = ev sc d m (is) (L) (.int 95 :: S) (h)) ∧
  (∀ (sc : Nat × (Nat → Int32)) (d m : Nat) (is : List ma_I) (L : ma_L) (S : List Value) (h : List ma_C) (o : List Nat), ev sc d m ((.bipush 96, o) :: is) (L) (S) (h) = ev sc d m (is) (L) (.int 96 :: S) (h)) ∧
  (∀ (sc : Nat × (Nat → Int32)) (d m : Nat) (is : List ma_I) (L : ma_L) (S : List Value) (h : List ma_C) (o : List Nat), ev sc d m ((.bipush 97, o) :: is) (L) (S) (h) = ev sc d m (is) (L) (.int 97 :: S) (h)) ∧
  (∀ (sc : Nat × (Nat → Int32)) (d m : Nat) (is : List ma_I) (L : ma_L) (S : List Value) (h : List ma_C) (o : List Nat), ev sc d m ((.bipush 98, o) :: is) (L) (S) (h) = ev sc d m (is) (L) (.int 98 :: S) (h)) ∧
  (∀ (sc : Nat × (Nat → Int32)) (d m : Nat) (is : List ma_I) (L : ma_L) (S : List Value) (h : List ma_C) (o : List Nat), ev sc d m ((.bipush 99, o) :: is) (L) (S) (h) = ev sc d m (is) (L) (.int 99 :: S) (h)) ∧
  (∀ (sc : Nat × (Nat → Int32)) (d m : Nat) (is : List ma_I) (L : ma_L) (S : List Value) (h : List ma_C) (o : List Nat), ev sc d m ((.bipush 100, o) :: is) (L) (S) (h) = ev sc d m (is) (L) (.int 100 :: S) (h)) ∧
  (∀ (sc : Nat × (Nat → Int32)) (d m : Nat) (is : List ma_I) (L : ma_L) (S : List Value) (h : List ma_C) (o : List Nat), ev sc d m ((.bipush 101, o) :: is) (L) (S) (h) = ev sc d m (is) (L) (.int 101 :: S) (h)) ∧
  (∀ (sc : Nat × (Nat → Int32)) (d m : Nat) (is : List ma_I) (L : ma_L) (S : List Value) (h : List ma_C) (o : List Nat), ev sc d m ((.bipush 102, o) :: is) (L) (S) (h) = ev sc d m (is) (L) (.int 102 :: S) (h)) ∧
  (∀ (sc : Nat × (Nat → Int32)) (d m : Nat) (is : List ma_I) (L : ma_L) (S : List Value) (h : List ma_C) (o : List Nat), ev sc d m ((.bipush 103, o) :: is) (L) (S) (h) = ev sc d m (is) (L) (.int 103 :: S) (h)) ∧
  (∀ (sc : Nat × (Nat → Int32)) (d m : Nat) (is : List ma_I) (L : ma_L) (S : List Value) (h : List ma_C) (o : List Nat), ev sc d m ((.bipush 104, o) :: is) (L) (S) (h) = ev sc d m (is) (L) (.int 104 :: S) (h)) ∧
  (∀ (sc : Nat × (Nat → Int32)) (d m : Nat) (is : List ma_I) (L : ma_L) (S : List Value) (h : List ma_C) (o : List Nat), ev sc d m ((.bipush 105, o) :: is) (L) (S) (h) = ev sc d m (is) (L) (.int 105 :: S) (h)) ∧
  (∀ (sc : Nat × (Nat → Int32)) (d m : Nat) (is : List ma_I) (L : ma_L) (S : List Value) (h : List ma_C) (o : List Nat), ev sc d m ((.bipush 106, o) :: is) (L) (S) (h) = ev sc d m (is) (L) (.int 106 :: S) (h)) ∧
  (∀ (sc : Nat × (Nat → Int32)) (d m : Nat) (is : List ma_I) (L : ma_L) (S : List Value) (h : List ma_C) (o : List Nat), ev sc d m ((.bipush 107, o) :: is) (L) (S) (h) = ev sc d m (is) (L) (.int 107 :: S) (h)) ∧
  (∀ (sc : Nat × (Nat → Int32)) (d m : Nat) (is : List ma_I) (L : ma_L) (S : List Value) (h : List ma_C) (o : List Nat), ev sc d m ((.bipush 108, o) :: is) (L) (S) (h) = ev sc d m (is) (L) (.int 108 :: S) (h)) ∧
  (∀ (sc : Nat × (Nat → Int32)) (d m : Nat) (is : List ma_I) (L : ma_L) (S : List Value) (h : List ma_C) (o : List Nat), ev sc d m ((.bipush 109, o) :: is) (L) (S) (h) = ev sc d m (is) (L) (.int 109 :: S) (h)) ∧
  (∀ (sc : Nat × (Nat → Int32)) (d m : Nat) (is : List ma_I) (L : ma_L) (S : List Value) (h : List ma_C) (o : List Nat), ev sc d m ((.bipush 110, o) :: is) (L) (S) (h) = ev sc d m (is) (L) (.int 110 :: S) (h)) ∧
  (∀ (sc : Nat × (Nat → Int32)) (d m : Nat) (is : List ma_I) (L : ma_L) (S : List Value) (h : List ma_C) (o : List Nat), ev sc d m ((.bipush 111, o) :: is) (L) (S) (h) = ev sc d m (is) (L) (.int 111 :: S) (h)) ∧
  (∀ (sc : Nat × (Nat → Int32)) (d m : Nat) (is : List ma_I) (L : ma_L) (S : List Value) (h : List ma_C) (o : List Nat), ev sc d m ((.bipush 112, o) :: is) (L) (S) (h) = ev sc d m (is) (L) (.int 112 :: S) (h)) ∧
  (∀ (sc : Nat × (Nat → Int32)) (d m : Nat) (is : List ma_I) (L : ma_L) (S : List Value) (h : List ma_C) (o : List Nat), ev sc d m ((.bipush 113, o) :: is) (L) (S) (h) = ev sc d m (is) (L) (.int 113 :: S) (h)) ∧
  (∀ (sc : Nat × (Nat → Int32)) (d m : Nat) (is : List ma_I) (L : ma_L) (S : List Value) (h : List ma_C) (o : List Nat), ev sc d m ((.bipush 114, o) :: is) (L) (S) (h) = ev sc d m (is) (L) (.int 114 :: S) (h)) ∧
  (∀ (sc : Nat × (Nat → Int32)) (d m : Nat) (is : List ma_I) (L : ma_L) (S : List Value) (h : List ma_C) (o : List Nat), ev sc d m ((.bipush 115, o) :: is) (L) (S) (h) = ev sc d m (is) (L) (.int 115 :: S) (h)) ∧
  (∀ (sc : Nat × (Nat → Int32)) (d m : Nat) (is : List ma_I) (L : ma_L) (S : List Value) (h : List ma_C) (o : List Nat), ev sc d m ((.bipush 116, o) :: is) (L) (S) (h) = ev sc d m (is) (L) (.int 116 :: S) (h)) ∧
  (∀ (sc : Nat × (Nat → Int32)) (d m : Nat) (is : List ma_I) (L : ma_L) (S : List Value) (h : List ma_C) (o : List Nat), ev sc d m ((.bipush 117, o) :: is) (L) (S) (h) = ev sc d m (is) (L) (.int 117 :: S) (h)) ∧
  (∀ (sc : Nat × (Nat → Int32)) (d m : Nat) (is : List ma_I) (L : ma_L) (S : List Value) (h : List ma_C) (o : List Nat), ev sc d m ((.bipush 118, o) :: is) (L) (S) (h) = ev sc d m (is) (L) (.int 118 :: S) (h)) ∧
  (∀ (sc : Nat × (Nat → Int32)) (d m : Nat) (is : List ma_I) (L : ma_L) (S : List Value) (h : List ma_C) (o : List Nat), ev sc d m ((.bipush 119, o) :: is) (L) (S) (h) = ev sc d m (is) (L) (.int 119 :: S) (h)) ∧
  (∀ (sc : Nat × (Nat → Int32)) (d m : Nat) (is : List ma_I) (L : ma_L) (S : List Value) (h : List ma_C) (o : List Nat), ev sc d m ((.bipush 120, o) :: is) (L) (S) (h) = ev sc d m (is) (L) (.int 120 :: S) (h)) ∧
  (∀ (sc : Nat × (Nat → Int32)) (d m : Nat) (is : List ma_I) (L : ma_L) (S : List Value) (h : List ma_C) (o : List Nat), ev sc d m ((.bipush 121, o) :: is) (L) (S) (h) = ev sc d m (is) (L) (.int 121 :: S) (h)) ∧
  (∀ (sc : Nat × (Nat → Int32)) (d m : Nat) (is : List ma_I) (L : ma_L) (S : List Value) (h : List ma_C) (o : List Nat), ev sc d m ((.bipush 122, o) :: is) (L) (S) (h) = ev sc d m (is) (L) (.int 122 :: S) (h)) ∧
  (∀ (sc : Nat × (Nat → Int32)) (d m : Nat) (is : List ma_I) (L : ma_L) (S : List Value) (h : List ma_C) (o : List Nat), ev sc d m ((.sipush 128, o) :: is) (L) (S) (h) = ev sc d m (is) (L) (.int 128 :: S) (h)) ∧
  (∀ (sc : Nat × (Nat → Int32)) (d m : Nat) (is : List ma_I) (L : ma_L) (S : List Value) (h : List ma_C) (o : List Nat), ev sc d m ((.sipush 149, o) :: is) (L) (S) (h) = ev sc d m (is) (L) (.int 149 :: S) (h)) ∧
  (∀ (sc : Nat × (Nat → Int32)) (d m : Nat) (is : List ma_I) (L : ma_L) (S : List Value) (h : List ma_C) (o : List Nat), ev sc d m ((.sipush 150, o) :: is) (L) (S) (h) = ev sc d m (is) (L) (.int 150 :: S) (h)) ∧
  (∀ (sc : Nat × (Nat → Int32)) (d m : Nat) (is : List ma_I) (L : ma_L) (S : List Value) (h : List ma_C) (o : List Nat), ev sc d m ((.sipush 200, o) :: is) (L) (S) (h) = ev sc d m (is) (L) (.int 200 :: S) (h)) ∧
  (∀ (sc : Nat × (Nat → Int32)) (d m : Nat) (is : List ma_I) (L : ma_L) (S : List Value) (h : List ma_C) (o : List Nat), ev sc d m ((.sipush 255, o) :: is) (L) (S) (h) = ev sc d m (is) (L) (.int 255 :: S) (h)) ∧
  (∀ (sc : Nat × (Nat → Int32)) (d m : Nat) (is : List ma_I) (L : ma_L) (S : List Value) (h : List ma_C) (o : List Nat), ev sc d m ((.sipush 256, o) :: is) (L) (S) (h) = ev sc d m (is) (L) (.int 256 :: S) (h)) ∧
  (∀ (sc : Nat × (Nat → Int32)) (d m : Nat) (is : List ma_I) (L : ma_L) (S : List Value) (h : List ma_C) (o : List Nat), ev sc d m ((.sipush 259, o) :: is) (L) (S) (h) = ev sc d m (is) (L) (.int 259 :: S) (h)) ∧
  (∀ (sc : Nat × (Nat → Int32)) (d m : Nat) (is : List ma_I) (L : ma_L) (S : List Value) (h : List ma_C) (o : List Nat), ev sc d m ((.sipush 260, o) :: is) (L) (S) (h) = ev sc d m (is) (L) (.int 260 :: S) (h)) ∧
  (∀ (sc : Nat × (Nat → Int32)) (d m : Nat) (is : List ma_I) (L : ma_L) (S : List Value) (h : List ma_C) (o : List Nat), ev sc d m ((.sipush 266, o) :: is) (L) (S) (h) = ev sc d m (is) (L) (.int 266 :: S) (h)) ∧
  (∀ (sc : Nat × (Nat → Int32)) (d m : Nat) (is : List ma_I) (L : ma_L) (S : List Value) (h : List ma_C) (o : List Nat), ev sc d m ((.sipush 267, o) :: is) (L) (S) (h) = ev sc d m (is) (L) (.int 267 :: S) (h)) ∧
  (∀ (sc : Nat × (Nat → Int32)) (d m : Nat) (is : List ma_I) (L : ma_L) (S : List Value) (h : List ma_C) (o : List Nat), ev sc d m ((.sipush 268, o) :: is) (L) (S) (h) = ev sc d m (is) (L) (.int 268 :: S) (h)) ∧
  (∀ (sc : Nat × (Nat → Int32)) (d m : Nat) (is : List ma_I) (L : ma_L) (S : List Value) (h : List ma_C) (o : List Nat), ev sc d m ((.sipush 269, o) :: is) (L) (S) (h) = ev sc d m (is) (L) (.int 269 :: S) (h)) ∧
  (∀ (sc : Nat × (Nat → Int32)) (d m : Nat) (is : List ma_I) (L : ma_L) (S : List Value) (h : List ma_C) (o : List Nat), ev sc d m ((.sipush 270, o) :: is) (L) (S) (h) = ev sc d m (is) (L) (.int 270 :: S) (h)) ∧
  (∀ (sc : Nat × (Nat → Int32)) (d m : Nat) (is : List ma_I) (L : ma_L) (S : List Value) (h : List ma_C) (o : List Nat), ev sc d m ((.sipush 271, o) :: is) (L) (S) (h) = ev sc d m (is) (L) (.int 271 :: S) (h)) ∧
  (∀ (sc : Nat × (Nat → Int32)) (d m : Nat) (is : List ma_I) (L : ma_L) (S : List Value) (h : List ma_C) (o : List Nat), ev sc d m ((.sipush 272, o) :: is) (L) (S) (h) = ev sc d m (is) (L) (.int 272 :: S) (h)) ∧
  (∀ (sc : Nat × (Nat → Int32)) (d m : Nat) (is : List ma_I) (L : ma_L) (S : List Value) (h : List ma_C) (o : List Nat), ev sc d m ((.sipush 276, o) :: is) (L) (S) (h) = ev sc d m (is) (L) (.int 276 :: S) (h)) ∧
  (∀ (sc : Nat × (Nat → Int32)) (d m : Nat) (is : List ma_I) (L : ma_L) (S : List Value) (h : List ma_C) (o : List Nat), ev sc d m ((.sipush 277, o) :: is) (L) (S) (h) = ev sc d m (is) (L) (.int 277 :: S) (h)) ∧
  (∀ (sc : Nat × (Nat → Int32)) (d m : Nat) (is : List ma_I) (L : ma_L) (S : List Value) (h : List ma_C) (o : List Nat), ev sc d m ((.sipush 278, o) :: is) (L) (S) (h) = ev sc d m (is) (L) (.int 278 :: S) (h)) ∧
  (∀ (sc : Nat × (Nat → Int32)) (d m : Nat) (is : List ma_I) (L : ma_L) (S : List Value) (h : List ma_C) (o : List Nat), ev sc d m ((.sipush 279, o) :: is) (L) (S) (h) = ev sc d m (is) (L) (.int 279 :: S) (h)) ∧
  (∀ (sc : Nat × (Nat → Int32)) (d m : Nat) (is : List ma_I) (L : ma_L) (S : List Value) (h : List ma_C) (o : List Nat), ev sc d m ((.sipush 280, o) :: is) (L) (S) (h) = ev sc d m (is) (L) (.int 280 :: S) (h)) ∧
  (∀ (sc : Nat × (Nat → Int32)) (d m : Nat) (is : List ma_I) (L : ma_L) (S : List Value) (h : List ma_C) (o : List Nat), ev sc d m ((.sipush 294, o) :: is) (L) (S) (h) = ev sc d m (is) (L) (.int 294 :: S) (h)) ∧
  (∀ (sc : Nat × (Nat → Int32)) (d m : Nat) (is : List ma_I) (L : ma_L) (S : List Value) (h : List ma_C) (o : List Nat), ev sc d m ((.sipush 380, o) :: is) (L) (S) (h) = ev sc d m (is) (L) (.int 380 :: S) (h)) ∧
  (∀ (sc : Nat × (Nat → Int32)) (d m : Nat) (is : List ma_I) (L : ma_L) (S : List Value) (h : List ma_C) (o : List Nat), ev sc d m ((.sipush 400, o) :: is) (L) (S) (h) = ev sc d m (is) (L) (.int 400 :: S) (h)) ∧
  (∀ (sc : Nat × (Nat → Int32)) (d m : Nat) (is : List ma_I) (L : ma_L) (S : List Value) (h : List ma_C) (o : List Nat), ev sc d m ((.sipush 401, o) :: is) (L) (S) (h) = ev sc d m (is) (L) (.int 401 :: S) (h)) ∧
  (∀ (sc : Nat × (Nat → Int32)) (d m : Nat) (is : List ma_I) (L : ma_L) (S : List Value) (h : List ma_C) (o : List Nat), ev sc d m ((.sipush 420, o) :: is) (L) (S) (h) = ev sc d m (is) (L) (.int 420 :: S) (h)) ∧
  (∀ (sc : Nat × (Nat → Int32)) (d m : Nat) (is : List ma_I) (L : ma_L) (S : List Value) (h : List ma_C) (o : List Nat), ev sc d m ((.sipush 574, o) :: is) (L) (S) (h) = ev sc d m (is) (L) (.int 574 :: S) (h)) ∧
  (∀ (sc : Nat × (Nat → Int32)) (d m : Nat) (is : List ma_I) (L : ma_L) (S : List Value) (h : List ma_C) (o : List Nat), ev sc d m ((.sipush 600, o) :: is) (L) (S) (h) = ev sc d m (is) (L) (.int 600 :: S) (h)) ∧
  (∀ (sc : Nat × (Nat → Int32)) (d m : Nat) (is : List ma_I) (L : ma_L) (S : List Value) (h : List ma_C) (o : List Nat), ev sc d m ((.sipush 800, o) :: is) (L) (S) (h) = ev sc d m (is) (L) (.int 800 :: S) (h)) ∧
  (∀ (sc : Nat × (Nat → Int32)) (d m : Nat) (is : List ma_I) (L : ma_L) (S : List Value) (h : List ma_C) (o : List Nat), ev sc d m ((.sipush 999, o) :: is) (L) (S) (h) = ev sc d m (is) (L) (.int 999 :: S) (h)) ∧
  (∀ (sc : Nat × (Nat → Int32)) (d m : Nat) (is : List ma_I) (L : ma_L) (S : List Value) (h : List ma_C) (o : List Nat), ev sc d m ((.sipush 1000, o) :: is) (L) (S) (h) = ev sc d m (is) (L) (.int 1000 :: S) (h)) ∧
  (∀ (sc : Nat × (Nat → Int32)) (d m : Nat) (is : List ma_I) (L : ma_L) (S : List Value) (h : List ma_C) (o : List Nat), ev sc d m ((.sipush 1200, o) :: is) (L) (S) (h) = ev sc d m (is) (L) (.int 1200 :: S) (h)) ∧
  (∀ (sc : Nat × (Nat → Int32)) (d m : Nat) (is : List ma_I) (L : ma_L) (S : List Value) (h : List ma_C) (o : List Nat), ev sc d m ((.sipush 1700, o) :: is) (L) (S) (h) = ev sc d m (is) (L) (.int 1700 :: S) (h)) ∧
  (∀ (sc : Nat × (Nat → Int32)) (d m : Nat) (is : List ma_I) (L : ma_L) (S : List Value) (h : List ma_C) (o : List Nat), ev sc d m ((.sipush 4095, o) :: is) (L) (S) (h) = ev sc d m (is) (L) (.int 4095 :: S) (h)) ∧
  (∀ (sc : Nat × (Nat → Int32)) (d m : Nat) (is : List ma_I) (L : ma_L) (S : List Value) (h : List ma_C) (o : List Nat), ev sc d m ((.sipush 4096, o) :: is) (L) (S) (h) = ev sc d m (is) (L) (.int 4096 :: S) (h)) ∧
  (∀ (sc : Nat × (Nat → Int32)) (d m : Nat) (is : List ma_I) (L : ma_L) (S : List Value) (h : List ma_C) (o : List Nat), ev sc d m ((.sipush 9999, o) :: is) (L) (S) (h) = ev sc d m (is) (L) (.int 9999 :: S) (h)) ∧
  (∀ (sc : Nat × (Nat → Int32)) (d m : Nat) (is : List ma_I) (L : ma_L) (S : List Value) (h : List ma_C) (o : List Nat), ev sc d m ((.sipush 10000, o) :: is) (L) (S) (h) = ev sc d m (is) (L) (.int 10000 :: S) (h)) ∧
  (∀ (sc : Nat × (Nat → Int32)) (d m : Nat) (is : List ma_I) (L : ma_L) (S : List Value) (h : List ma_C) (o : List Nat), ev sc d m ((.sipush 16384, o) :: is) (L) (S) (h) = ev sc d m (is) (L) (.int 16384 :: S) (h)) ∧
  (∀ (sc : Nat × (Nat → Int32)) (d m : Nat) (is : List ma_I) (L : ma_L) (S : List Value) (h : List ma_C) (x : Nat), ev sc d m ((.ldc x, [0, 1664525]) :: is) (L) (S) (h) = ev sc d m (is) (L) (.int 1664525 :: S) (h)) ∧
  (∀ (sc : Nat × (Nat → Int32)) (d m : Nat) (is : List ma_I) (L : ma_L) (S : List Value) (h : List ma_C) (x : Nat), ev sc d m ((.ldc x, [0, 1013904223]) :: is) (L) (S) (h) = ev sc d m (is) (L) (.int 1013904223 :: S) (h)) ∧
  (∀ (sc : Nat × (Nat → Int32)) (d m : Nat) (is : List ma_I) (L : ma_L) (S : List Value) (h : List ma_C) (x : Nat), ev sc d m ((.ldc x, [0, 4294867296]) :: is) (L) (S) (h) = ev sc d m (is) (L) (.int (-100000) :: S) (h)) ∧
  (∀ (sc : Nat × (Nat → Int32)) (d m : Nat) (is : List ma_I) (L : ma_L) (S : List Value) (h : List ma_C) (x : Nat), ev sc d m ((.ldc_w x, [0, 1000000]) :: is) (L) (S) (h) = ev sc d m (is) (L) (.int 1000000 :: S) (h)) ∧
  (∀ (sc : Nat × (Nat → Int32)) (d m : Nat) (is : List ma_I) (L : ma_L) (S : List Value) (h : List ma_C) (x : Nat), ev sc d m ((.ldc_w x, [0, 252645135]) :: is) (L) (S) (h) = ev sc d m (is) (L) (.int 252645135 :: S) (h)) ∧
  (∀ (sc : Nat × (Nat → Int32)) (d m : Nat) (is : List ma_I) (L : ma_L) (S : List Value) (h : List ma_C) (x : Nat), ev sc d m ((.ldc_w x, [0, 858993459]) :: is) (L) (S) (h) = ev sc d m (is) (L) (.int 858993459 :: S) (h)) ∧
  (∀ (sc : Nat × (Nat → Int32)) (d m : Nat) (is : List ma_I) (L : ma_L) (S : List Value) (h : List ma_C) (x : Nat), ev sc d m ((.ldc_w x, [0, 1431655765]) :: is) (L) (S) (h) = ev sc d m (is) (L) (.int 1431655765 :: S) (h)) ∧
  (∀ (sc : Nat × (Nat → Int32)) (d m : Nat) (is : List ma_I) (L : ma_L) (S : List Value) (h : List ma_C) (x : Nat), ev sc d m ((.ldc_w x, [0, 4294867296]) :: is) (L) (S) (h) = ev sc d m (is) (L) (.int (-100000) :: S) (h)) ∧
  (∀ (sc : Nat × (Nat → Int32)) (d m : Nat) (is : List ma_I) (L : ma_L) (S : List Value) (h : List ma_C) (x : Nat), ev sc d m ((.ldc2_w x, [15]) :: is) (L) (S) (h) = ev sc d m (is) (L) (.long 15 :: S) (h)) ∧
  (∀ (sc : Nat × (Nat → Int32)) (d m : Nat) (is : List ma_I) (L : ma_L) (S : List Value) (h : List ma_C) (x : Nat), ev sc d m ((.ldc2_w x, [4611686018427387904]) :: is) (L) (S) (h) = ev sc d m (is) (L) (.long 4611686018427387904 :: S) (h)) ∧
  (∀ (sc : Nat × (Nat → Int32)) (d m : Nat) (is : List ma_I) (L : ma_L) (S : List Value) (h : List ma_C) (o : List Nat), ev sc d m ((.aconst_null, o) :: is) (L) (S) (h) = ev sc d m (is) (L) (.null :: S) (h)) ∧
  (∀ (sc : Nat × (Nat → Int32)) (d m : Nat) (is : List ma_I) (L : ma_L) (S : List Value) (h : List ma_C) (o : List Nat), ev sc d m ((.lconst 0, o) :: is) (L) (S) (h) = ev sc d m (is) (L) (.long 0 :: S) (h)) := ⟨fun _ _ _ _ _ _ _ _ => rv_s rfl rfl,
  fun _ _ _ _ _ _ _ _ => rv_s rfl rfl,
  fun _ _ _ _ _ _ _ _ => rv_s rfl rfl,
  fun _ _ _ _ _ _ _ _ => rv_s rfl rfl,
  fun _ _ _ _ _ _ _ _ => rv_s rfl rfl,
  fun _ _ _ _ _ _ _ _ => rv_s rfl rfl,
  fun _ _ _ _ _ _ _ _ => rv_s rfl rfl,
  fun _ _ _ _ _ _ _ _ => rv_s rfl rfl,
  fun _ _ _ _ _ _ _ _ => rv_s rfl rfl,
  fun _ _ _ _ _ _ _ _ => rv_s rfl rfl,
  fun _ _ _ _ _ _ _ _ => rv_s rfl rfl,
  fun _ _ _ _ _ _ _ _ => rv_s rfl rfl,
  fun _ _ _ _ _ _ _ _ => rv_s rfl rfl,
  fun _ _ _ _ _ _ _ _ => rv_s rfl rfl,
  fun _ _ _ _ _ _ _ _ => rv_s rfl rfl,
  fun _ _ _ _ _ _ _ _ => rv_s rfl rfl,
  fun _ _ _ _ _ _ _ _ => rv_s rfl rfl,
  fun _ _ _ _ _ _ _ _ => rv_s rfl rfl,
  fun _ _ _ _ _ _ _ _ => rv_s rfl rfl,
  fun _ _ _ _ _ _ _ _ => rv_s rfl rfl,
  fun _ _ _ _ _ _ _ _ => rv_s rfl rfl,
  fun _ _ _ _ _ _ _ _ => rv_s rfl rfl,
  fun _ _ _ _ _ _ _ _ => rv_s rfl rfl,
  fun _ _ _ _ _ _ _ _ => rv_s rfl rfl,
  fun _ _ _ _ _ _ _ _ => rv_s rfl rfl,
  fun _ _ _ _ _ _ _ _ => rv_s rfl rfl,
  fun _ _ _ _ _ _ _ _ => rv_s rfl rfl,
  fun _ _ _ _ _ _ _ _ => rv_s rfl rfl,
  fun _ _ _ _ _ _ _ _ => rv_s rfl rfl,
  fun _ _ _ _ _ _ _ _ => rv_s rfl rfl,
  fun _ _ _ _ _ _ _ _ => rv_s rfl rfl,
  fun _ _ _ _ _ _ _ _ => rv_s rfl rfl,
  fun _ _ _ _ _ _ _ _ => rv_s rfl rfl,
  fun _ _ _ _ _ _ _ _ => rv_s rfl rfl,
  fun _ _ _ _ _ _ _ _ => rv_s rfl rfl,
  fun _ _ _ _ _ _ _ _ => rv_s rfl rfl,
  fun _ _ _ _ _ _ _ _ => rv_s rfl rfl,
  fun _ _ _ _ _ _ _ _ => rv_s rfl rfl,
  fun _ _ _ _ _ _ _ _ => rv_s rfl rfl,
  fun _ _ _ _ _ _ _ _ => rv_s rfl rfl,
  fun _ _ _ _ _ _ _ _ => rv_s rfl rfl,
  fun _ _ _ _ _ _ _ _ => rv_s rfl rfl,
  fun _ _ _ _ _ _ _ _ => rv_s rfl rfl,
  fun _ _ _ _ _ _ _ _ => rv_s rfl rfl,
  fun _ _ _ _ _ _ _ _ => rv_s rfl rfl,
  fun _ _ _ _ _ _ _ _ => rv_s rfl rfl,
  fun _ _ _ _ _ _ _ _ => rv_s rfl rfl,
  fun _ _ _ _ _ _ _ _ => rv_s rfl rfl,
  fun _ _ _ _ _ _ _ _ => rv_s rfl rfl,
  fun _ _ _ _ _ _ _ _ => rv_s rfl rfl,
  fun _ _ _ _ _ _ _ _ => rv_s rfl rfl,
  fun _ _ _ _ _ _ _ _ => rv_s rfl rfl,
  fun _ _ _ _ _ _ _ _ => rv_s rfl rfl,
  fun _ _ _ _ _ _ _ _ => rv_s rfl rfl,
  fun _ _ _ _ _ _ _ _ => rv_s rfl rfl,
  fun _ _ _ _ _ _ _ _ => rv_s rfl rfl,
  fun _ _ _ _ _ _ _ _ => rv_s rfl rfl,
  fun _ _ _ _ _ _ _ _ => rv_s rfl rfl,
  fun _ _ _ _ _ _ _ _ => rv_s rfl rfl,
  fun _ _ _ _ _ _ _ _ => rv_s rfl rfl,
  fun _ _ _ _ _ _ _ _ => rv_s rfl rfl,
  fun _ _ _ _ _ _ _ _ => rv_s rfl rfl,
  fun _ _ _ _ _ _ _ _ => rv_s rfl rfl,
  fun _ _ _ _ _ _ _ _ => rv_s rfl rfl,
  fun _ _ _ _ _ _ _ _ => rv_s rfl rfl,
  fun _ _ _ _ _ _ _ _ => rv_s rfl rfl,
  fun _ _ _ _ _ _ _ _ => rv_s rfl rfl,
  fun _ _ _ _ _ _ _ _ => rv_s rfl rfl,
  fun _ _ _ _ _ _ _ _ => rv_s rfl rfl,
  fun _ _ _ _ _ _ _ _ => rv_s rfl rfl,
  fun _ _ _ _ _ _ _ _ => rv_s rfl rfl,
  fun _ _ _ _ _ _ _ _ => rv_s rfl rfl,
  fun _ _ _ _ _ _ _ _ => rv_s rfl rfl,
  fun _ _ _ _ _ _ _ _ => rv_s rfl rfl,
  fun _ _ _ _ _ _ _ _ => rv_s rfl rfl,
  fun _ _ _ _ _ _ _ _ => rv_s rfl rfl,
  fun _ _ _ _ _ _ _ _ => rv_s rfl rfl,
  fun _ _ _ _ _ _ _ _ => rv_s rfl rfl,
  fun _ _ _ _ _ _ _ _ => rv_s rfl rfl,
  fun _ _ _ _ _ _ _ _ => rv_s rfl rfl,
  fun _ _ _ _ _ _ _ _ => rv_s rfl rfl,
  fun _ _ _ _ _ _ _ _ => rv_s rfl rfl,
  fun _ _ _ _ _ _ _ _ => rv_s rfl rfl,
  fun _ _ _ _ _ _ _ _ => rv_s rfl rfl,
  fun _ _ _ _ _ _ _ _ => rv_s rfl rfl,
  fun _ _ _ _ _ _ _ _ => rv_s rfl rfl,
  fun _ _ _ _ _ _ _ _ => rv_s rfl rfl,
  fun _ _ _ _ _ _ _ _ => rv_s rfl rfl,
  fun _ _ _ _ _ _ _ _ => rv_s rfl rfl,
  fun _ _ _ _ _ _ _ _ => rv_s rfl rfl,
  fun _ _ _ _ _ _ _ _ => rv_s rfl rfl,
  fun _ _ _ _ _ _ _ _ => rv_s rfl rfl,
  fun _ _ _ _ _ _ _ _ => rv_s rfl rfl,
  fun _ _ _ _ _ _ _ _ => rv_s rfl rfl,
  fun _ _ _ _ _ _ _ _ => rv_s rfl rfl,
  fun _ _ _ _ _ _ _ _ => rv_s rfl rfl,
  fun _ _ _ _ _ _ _ _ => rv_s rfl rfl,
  fun _ _ _ _ _ _ _ _ => rv_s rfl rfl,
  fun _ _ _ _ _ _ _ _ => rv_s rfl rfl,
  fun _ _ _ _ _ _ _ _ => rv_s rfl rfl,
  fun _ _ _ _ _ _ _ _ => rv_s rfl rfl,
  fun _ _ _ _ _ _ _ _ => rv_s rfl rfl,
  fun _ _ _ _ _ _ _ _ => rv_s rfl rfl,
  fun _ _ _ _ _ _ _ _ => rv_s rfl rfl,
  fun _ _ _ _ _ _ _ _ => rv_s rfl rfl,
  fun _ _ _ _ _ _ _ _ => rv_s rfl rfl,
  fun _ _ _ _ _ _ _ _ => rv_s rfl rfl,
  fun _ _ _ _ _ _ _ _ => rv_s rfl rfl,
  fun _ _ _ _ _ _ _ _ => rv_s rfl rfl,
  fun _ _ _ _ _ _ _ _ => rv_s rfl rfl,
  fun _ _ _ _ _ _ _ _ => rv_s rfl rfl,
  fun _ _ _ _ _ _ _ _ => rv_s rfl rfl,
  fun _ _ _ _ _ _ _ _ => rv_s rfl rfl,
  fun _ _ _ _ _ _ _ _ => rv_s rfl rfl,
  fun _ _ _ _ _ _ _ _ => rv_s rfl rfl,
  fun _ _ _ _ _ _ _ _ => rv_s rfl rfl,
  fun _ _ _ _ _ _ _ _ => rv_s rfl rfl,
  fun _ _ _ _ _ _ _ _ => rv_s rfl rfl,
  fun _ _ _ _ _ _ _ _ => rv_s rfl rfl,
  fun _ _ _ _ _ _ _ _ => rv_s rfl rfl,
  fun _ _ _ _ _ _ _ _ => rv_s rfl rfl,
  fun _ _ _ _ _ _ _ _ => rv_s rfl rfl,
  fun _ _ _ _ _ _ _ _ => rv_s rfl rfl,
  fun _ _ _ _ _ _ _ _ => rv_s rfl rfl,
  fun _ _ _ _ _ _ _ _ => rv_s rfl rfl,
  fun _ _ _ _ _ _ _ _ => rv_s rfl rfl,
  fun _ _ _ _ _ _ _ _ => rv_s rfl rfl,
  fun _ _ _ _ _ _ _ _ => rv_s rfl rfl,
  fun _ _ _ _ _ _ _ _ => rv_s rfl rfl,
  fun _ _ _ _ _ _ _ _ => rv_s rfl rfl,
  fun _ _ _ _ _ _ _ _ => rv_s rfl rfl,
  fun _ _ _ _ _ _ _ _ => rv_s rfl rfl,
  fun _ _ _ _ _ _ _ _ => rv_s rfl rfl,
  fun _ _ _ _ _ _ _ _ => rv_s rfl rfl,
  fun _ _ _ _ _ _ _ _ => rv_s rfl rfl,
  fun _ _ _ _ _ _ _ _ => rv_s rfl rfl,
  fun _ _ _ _ _ _ _ _ => rv_s rfl rfl,
  fun _ _ _ _ _ _ _ _ => rv_s rfl rfl,
  fun _ _ _ _ _ _ _ _ => rv_s rfl rfl,
  fun _ _ _ _ _ _ _ _ => rv_s rfl rfl,
  fun _ _ _ _ _ _ _ _ => rv_s rfl rfl,
  fun _ _ _ _ _ _ _ _ => rv_s rfl rfl,
  fun _ _ _ _ _ _ _ _ => rv_s rfl rfl,
  fun _ _ _ _ _ _ _ _ => rv_s rfl rfl,
  fun _ _ _ _ _ _ _ _ => rv_s rfl rfl,
  fun _ _ _ _ _ _ _ _ => rv_s rfl rfl,
  fun _ _ _ _ _ _ _ _ => rv_s rfl rfl,
  fun _ _ _ _ _ _ _ _ => rv_s rfl rfl,
  fun _ _ _ _ _ _ _ _ => rv_s rfl rfl,
  fun _ _ _ _ _ _ _ _ => rv_s rfl rfl,
  fun _ _ _ _ _ _ _ _ => rv_s rfl rfl,
  fun _ _ _ _ _ _ _ _ => rv_s rfl rfl,
  fun _ _ _ _ _ _ _ _ => rv_s rfl rfl,
  fun _ _ _ _ _ _ _ _ => rv_s rfl rfl,
  fun _ _ _ _ _ _ _ _ => rv_s rfl rfl,
  fun _ _ _ _ _ _ _ _ => rv_s rfl rfl,
  fun _ _ _ _ _ _ _ _ => rv_s rfl rfl,
  fun _ _ _ _ _ _ _ _ => rv_s rfl rfl,
  fun _ _ _ _ _ _ _ _ => rv_s rfl rfl,
  fun _ _ _ _ _ _ _ _ => rv_s rfl rfl,
  fun _ _ _ _ _ _ _ _ => rv_s rfl rfl,
  fun _ _ _ _ _ _ _ _ => rv_s rfl rfl,
  fun _ _ _ _ _ _ _ _ => rv_s rfl rfl,
  fun _ _ _ _ _ _ _ _ => rv_s rfl rfl,
  fun _ _ _ _ _ _ _ _ => rv_s rfl rfl,
  fun _ _ _ _ _ _ _ _ => rv_s rfl rfl,
  fun _ _ _ _ _ _ _ _ => rv_s rfl rfl,
  fun _ _ _ _ _ _ _ _ => rv_s rfl rfl,
  fun _ _ _ _ _ _ _ _ => rv_s rfl rfl,
  fun _ _ _ _ _ _ _ _ => rv_s rfl rfl,
  fun _ _ _ _ _ _ _ _ => rv_s rfl rfl,
  fun _ _ _ _ _ _ _ _ => rv_s rfl rfl,
  fun _ _ _ _ _ _ _ _ => rv_s rfl rfl,
  fun _ _ _ _ _ _ _ _ => rv_s rfl rfl,
  fun _ _ _ _ _ _ _ _ => rv_s rfl rfl,
  fun _ _ _ _ _ _ _ _ => rv_s rfl rfl⟩
theorem evL : (∀ (sc : Nat × (Nat → Int32)) (d m : Nat) (is : List ma_I) (L : ma_L) (S : List Value) (h : List ma_C) (o : List Nat) (a0 a1 a2 a3 : Option Value) (x : Int32), ev sc d m ((.iload 4, o) :: is) (a0 :: a1 :: a2 :: a3 :: some (.int x) :: L) (S) (h) = ev sc d m (is) (a0 :: a1 :: a2 :: a3 :: some (.int x) :: L) (.int x :: S) (h)) ∧
  (∀ (sc : Nat × (Nat → Int32)) (d m : Nat) (is : List ma_I) (L : ma_L) (S : List Value) (h : List ma_C) (o : List Nat) (a0 a1 a2 a3 a4 : Option Value) (x : Int32), ev sc d m ((.iload 5, o) :: is) (a0 :: a1 :: a2 :: a3 :: a4 :: some (.int x) :: L) (S) (h) = ev sc d m (is) (a0 :: a1 :: a2 :: a3 :: a4 :: some (.int x) :: L) (.int x :: S) (h)) ∧
  (∀ (sc : Nat × (Nat → Int32)) (d m : Nat) (is : List ma_I) (L : ma_L) (S : List Value) (h : List ma_C) (o : List Nat) (a0 a1 a2 a3 a4 a5 : Option Value) (x : Int32), ev sc d m ((.iload 6, o) :: is) (a0 :: a1 :: a2 :: a3 :: a4 :: a5 :: some (.int x) :: L) (S) (h) = ev sc d m (is) (a0 :: a1 :: a2 :: a3 :: a4 :: a5 :: some (.int x) :: L) (.int x :: S) (h)) ∧
  (∀ (sc : Nat × (Nat → Int32)) (d m : Nat) (is : List ma_I) (L : ma_L) (S : List Value) (h : List ma_C) (o : List Nat) (a0 a1 a2 a3 a4 a5 a6 : Option Value) (x : Int32), ev sc d m ((.iload 7, o) :: is) (a0 :: a1 :: a2 :: a3 :: a4 :: a5 :: a6 :: some (.int x) :: L) (S) (h) = ev sc d m (is) (a0 :: a1 :: a2 :: a3 :: a4 :: a5 :: a6 :: some (.int x) :: L) (.int x :: S) (h)) ∧
  (∀ (sc : Nat × (Nat → Int32)) (d m : Nat) (is : List ma_I) (L : ma_L) (S : List Value) (h : List ma_C) (o : List Nat) (a0 a1 a2 a3 a4 a5 a6 a7 : Option Value) (x : Int32), ev sc d m ((.iload 8, o) :: is) (a0 :: a1 :: a2 :: a3 :: a4 :: a5 :: a6 :: a7 :: some (.int x) :: L) (S) (h) = ev sc d m (is) (a0 :: a1 :: a2 :: a3 :: a4 :: a5 :: a6 :: a7 :: some (.int x) :: L) (.int x :: S) (h)) ∧
  (∀ (sc : Nat × (Nat → Int32)) (d m : Nat) (is : List ma_I) (L : ma_L) (S : List Value) (h : List ma_C) (o : List Nat) (a0 a1 a2 a3 a4 a5 a6 a7 a8 : Option Value) (x : Int32), ev sc d m ((.iload 9, o) :: is) (a0 :: a1 :: a2 :: a3 :: a4 :: a5 :: a6 :: a7 :: a8 :: some (.int x) :: L) (S) (h) = ev sc d m (is) (a0 :: a1 :: a2 :: a3 :: a4 :: a5 :: a6 :: a7 :: a8 :: some (.int x) :: L) (.int x :: S) (h)) ∧
  (∀ (sc : Nat × (Nat → Int32)) (d m : Nat) (is : List ma_I) (L : ma_L) (S : List Value) (h : List ma_C) (o : List Nat) (x : Int32), ev sc d m ((.iload_n 0, o) :: is) (some (.int x) :: L) (S) (h) = ev sc d m (is) (some (.int x) :: L) (.int x :: S) (h)) ∧
  (∀ (sc : Nat × (Nat → Int32)) (d m : Nat) (is : List ma_I) (L : ma_L) (S : List Value) (h : List ma_C) (o : List Nat) (a0 : Option Value) (x : Int32), ev sc d m ((.iload_n 1, o) :: is) (a0 :: some (.int x) :: L) (S) (h) = ev sc d m (is) (a0 :: some (.int x) :: L) (.int x :: S) (h)) ∧
  (∀ (sc : Nat × (Nat → Int32)) (d m : Nat) (is : List ma_I) (L : ma_L) (S : List Value) (h : List ma_C) (o : List Nat) (a0 a1 : Option Value) (x : Int32), ev sc d m ((.iload_n 2, o) :: is) (a0 :: a1 :: some (.int x) :: L) (S) (h) = ev sc d m (is) (a0 :: a1 :: some (.int x) :: L) (.int x :: S) (h)) ∧
  (∀ (sc : Nat × (Nat → Int32)) (d m : Nat) (is : List ma_I) (L : ma_L) (S : List Value) (h : List ma_C) (o : List Nat) (a0 a1 a2 : Option Value) (x : Int32), ev sc d m ((.iload_n 3, o) :: is) (a0 :: a1 :: a2 :: some (.int x) :: L) (S) (h) = ev sc d m (is) (a0 :: a1 :: a2 :: some (.int x) :: L) (.int x :: S) (h)) ∧
  (∀ (sc : Nat × (Nat → Int32)) (d m : Nat) (is : List ma_I) (L : ma_L) (S : List Value) (h : List ma_C) (o : List Nat) (a0 a1 a2 a3 : Option Value) (x : Nat), ev sc d m ((.aload 4, o) :: is) (a0 :: a1 :: a2 :: a3 :: some (.ref x) :: L) (S) (h) = ev sc d m (is) (a0 :: a1 :: a2 :: a3 :: some (.ref x) :: L) (.ref x :: S) (h)) ∧
  (∀ (sc : Nat × (Nat → Int32)) (d m : Nat) (is : List ma_I) (L : ma_L) (S : List Value) (h : List ma_C) (o : List Nat) (a0 a1 a2 a3 : Option Value), ev sc d m ((.aload 4, o) :: is) (a0 :: a1 :: a2 :: a3 :: some .null :: L) (S) (h) = ev sc d m (is) (a0 :: a1 :: a2 :: a3 :: some .null :: L) (.null :: S) (h)) ∧
  (∀ (sc : Nat × (Nat → Int32)) (d m : Nat) (is : List ma_I) (L : ma_L) (S : List Value) (h : List ma_C) (o : List Nat) (x : Nat), ev sc d m ((.aload_n 0, o) :: is) (some (.ref x) :: L) (S) (h) = ev sc d m (is) (some (.ref x) :: L) (.ref x :: S) (h)) ∧
  (∀ (sc : Nat × (Nat → Int32)) (d m : Nat) (is : List ma_I) (L : ma_L) (S : List Value) (h : List ma_C) (o : List Nat), ev sc d m ((.aload_n 0, o) :: is) (some .null :: L) (S) (h) = ev sc d m (is) (some .null :: L) (.null :: S) (h)) ∧
  (∀ (sc : Nat × (Nat → Int32)) (d m : Nat) (is : List ma_I) (L : ma_L) (S : List Value) (h : List ma_C) (o : List Nat) (a0 : Option Value) (x : Nat), ev sc d m ((.aload_n 1, o) :: is) (a0 :: some (.ref x) :: L) (S) (h) = ev sc d m (is) (a0 :: some (.ref x) :: L) (.ref x :: S) (h)) ∧
  (∀ (sc : Nat × (Nat → Int32)) (d m : Nat) (is : List ma_I) (L : ma_L) (S : List Value) (h : List ma_C) (o : List Nat) (a0 : Option Value), ev sc d m ((.aload_n 1, o) :: is) (a0 :: some .null :: L) (S) (h) = ev sc d m (is) (a0 :: some .null :: L) (.null :: S) (h)) ∧
  (∀ (sc : Nat × (Nat → Int32)) (d m : Nat) (is : List ma_I) (L : ma_L) (S : List Value) (h : List ma_C) (o : List Nat) (a0 a1 : Option Value) (x : Nat), ev sc d m ((.aload_n 2, o) :: is) (a0 :: a1 :: some (.ref x) :: L) (S) (h) = ev sc d m (is) (a0 :: a1 :: some (.ref x) :: L) (.ref x :: S) (h)) ∧
  (∀ (sc : Nat × (Nat → Int32)) (d m : Nat) (is : List ma_I) (L : ma_L) (S : List Value) (h : List ma_C) (o : List Nat) (a0 a1 : Option Value), ev sc d m ((.aload_n 2, o) :: is) (a0 :: a1 :: some .null :: L) (S) (h) = ev sc d m (is) (a0 :: a1 :: some .null :: L) (.null :: S) (h)) ∧
  (∀ (sc : Nat × (Nat → Int32)) (d m : Nat) (is : List ma_I) (L : ma_L) (S : List Value) (h : List ma_C) (o : List Nat) (a0 a1 a2 : Option Value) (x : Nat), ev sc d m ((.aload_n 3, o) :: is) (a0 :: a1 :: a2 :: some (.ref x) :: L) (S) (h) = ev sc d m (is) (a0 :: a1 :: a2 :: some (.ref x) :: L) (.ref x :: S) (h)) ∧
  (∀ (sc : Nat × (Nat → Int32)) (d m : Nat) (is : List ma_I) (L : ma_L) (S : List Value) (h : List ma_C) (o : List Nat) (a0 a1 a2 : Option Value), ev sc d m ((.aload_n 3, o) :: is) (a0 :: a1 :: a2 :: some .null :: L) (S) (h) = ev sc d m (is) (a0 :: a1 :: a2 :: some .null :: L) (.null :: S) (h)) ∧
  (∀ (sc : Nat × (Nat → Int32)) (d m : Nat) (is : List ma_I) (L : ma_L) (S : List Value) (h : List ma_C) (o : List Nat) (a0 a1 a2 a3 a4 a5 : Option Value) (x : Int64), ev sc d m ((.lload 6, o) :: is) (a0 :: a1 :: a2 :: a3 :: a4 :: a5 :: some (.long x) :: none :: L) (S) (h) = ev sc d m (is) (a0 :: a1 :: a2 :: a3 :: a4 :: a5 :: some (.long x) :: none :: L) (.long x :: S) (h)) ∧
  (∀ (sc : Nat × (Nat → Int32)) (d m : Nat) (is : List ma_I) (L : ma_L) (S : List Value) (h : List ma_C) (o : List Nat) (x : Int64), ev sc d m ((.lload_n 0, o) :: is) (some (.long x) :: none :: L) (S) (h) = ev sc d m (is) (some (.long x) :: none :: L) (.long x :: S) (h)) ∧
  (∀ (sc : Nat × (Nat → Int32)) (d m : Nat) (is : List ma_I) (L : ma_L) (S : List Value) (h : List ma_C) (o : List Nat) (a0 a1 : Option Value) (x : Int64), ev sc d m ((.lload_n 2, o) :: is) (a0 :: a1 :: some (.long x) :: none :: L) (S) (h) = ev sc d m (is) (a0 :: a1 :: some (.long x) :: none :: L) (.long x :: S) (h)) ∧
  (∀ (sc : Nat × (Nat → Int32)) (d m : Nat) (is : List ma_I) (L : ma_L) (S : List Value) (h : List ma_C) (o : List Nat) (a0 a1 a2 : Option Value) (x : Int64), ev sc d m ((.lload_n 3, o) :: is) (a0 :: a1 :: a2 :: some (.long x) :: none :: L) (S) (h) = ev sc d m (is) (a0 :: a1 :: a2 :: some (.long x) :: none :: L) (.long x :: S) (h)) := ⟨fun _ _ _ _ _ _ _ _ _ _ _ _ _ => rv_s rfl rfl,
  fun _ _ _ _ _ _ _ _ _ _ _ _ _ _ => rv_s rfl rfl,
  fun _ _ _ _ _ _ _ _ _ _ _ _ _ _ _ => rv_s rfl rfl,
  fun _ _ _ _ _ _ _ _ _ _ _ _ _ _ _ _ => rv_s rfl rfl,
  fun _ _ _ _ _ _ _ _ _ _ _ _ _ _ _ _ _ => rv_s rfl rfl,
  fun _ _ _ _ _ _ _ _ _ _ _ _ _ _ _ _ _ _ => rv_s rfl rfl,
  fun _ _ _ _ _ _ _ _ _ => rv_s rfl rfl,
  fun _ _ _ _ _ _ _ _ _ _ => rv_s rfl rfl,
  fun _ _ _ _ _ _ _ _ _ _ _ => rv_s rfl rfl,
  fun _ _ _ _ _ _ _ _ _ _ _ _ => rv_s rfl rfl,
  fun _ _ _ _ _ _ _ _ _ _ _ _ _ => rv_s rfl rfl,
  fun _ _ _ _ _ _ _ _ _ _ _ _ => rv_s rfl rfl,
  fun _ _ _ _ _ _ _ _ _ => rv_s rfl rfl,
  fun _ _ _ _ _ _ _ _ => rv_s rfl rfl,
  fun _ _ _ _ _ _ _ _ _ _ => rv_s rfl rfl,
  fun _ _ _ _ _ _ _ _ _ => rv_s rfl rfl,
  fun _ _ _ _ _ _ _ _ _ _ _ => rv_s rfl rfl,
  fun _ _ _ _ _ _ _ _ _ _ => rv_s rfl rfl,
  fun _ _ _ _ _ _ _ _ _ _ _ _ => rv_s rfl rfl,
  fun _ _ _ _ _ _ _ _ _ _ _ => rv_s rfl rfl,
  fun _ _ _ _ _ _ _ _ _ _ _ _ _ _ _ => rv_s rfl rfl,
  fun _ _ _ _ _ _ _ _ _ => rv_s rfl rfl,
  fun _ _ _ _ _ _ _ _ _ _ _ => rv_s rfl rfl,
  fun _ _ _ _ _ _ _ _ _ _ _ _ => rv_s rfl rfl⟩
theorem evS : (∀ (sc : Nat × (Nat → Int32)) (d m : Nat) (is : List ma_I) (L : ma_L) (S : List Value) (h : List ma_C) (o : List Nat) (a0 a1 a2 a3 : Option Value) (b : Option Value) (x : Int32), ev sc d m ((.istore 4, o) :: is) (a0 :: a1 :: a2 :: a3 :: b :: L) (.int x :: S) (h) = ev sc d m (is) (a0 :: a1 :: a2 :: a3 :: some (.int x) :: L) (S) (h)) ∧
  (∀ (sc : Nat × (Nat → Int32)) (d m : Nat) (is : List ma_I) (L : ma_L) (S : List Value) (h : List ma_C) (o : List Nat) (a0 a1 a2 a3 a4 : Option Value) (b : Option Value) (x : Int32), ev sc d m ((.istore 5, o) :: is) (a0 :: a1 :: a2 :: a3 :: a4 :: b :: L) (.int x :: S) (h) = ev sc d m (is) (a0 :: a1 :: a2 :: a3 :: a4 :: some (.int x) :: L) (S) (h)) ∧
  (∀ (sc : Nat × (Nat → Int32)) (d m : Nat) (is : List ma_I) (L : ma_L) (S : List Value) (h : List ma_C) (o : List Nat) (a0 a1 a2 a3 a4 a5 : Option Value) (b : Option Value) (x : Int32), ev sc d m ((.istore 6, o) :: is) (a0 :: a1 :: a2 :: a3 :: a4 :: a5 :: b :: L) (.int x :: S) (h) = ev sc d m (is) (a0 :: a1 :: a2 :: a3 :: a4 :: a5 :: some (.int x) :: L) (S) (h)) ∧
  (∀ (sc : Nat × (Nat → Int32)) (d m : Nat) (is : List ma_I) (L : ma_L) (S : List Value) (h : List ma_C) (o : List Nat) (a0 a1 a2 a3 a4 a5 a6 : Option Value) (b : Option Value) (x : Int32), ev sc d m ((.istore 7, o) :: is) (a0 :: a1 :: a2 :: a3 :: a4 :: a5 :: a6 :: b :: L) (.int x :: S) (h) = ev sc d m (is) (a0 :: a1 :: a2 :: a3 :: a4 :: a5 :: a6 :: some (.int x) :: L) (S) (h)) ∧
  (∀ (sc : Nat × (Nat → Int32)) (d m : Nat) (is : List ma_I) (L : ma_L) (S : List Value) (h : List ma_C) (o : List Nat) (a0 a1 a2 a3 a4 a5 a6 a7 : Option Value) (b : Option Value) (x : Int32), ev sc d m ((.istore 8, o) :: is) (a0 :: a1 :: a2 :: a3 :: a4 :: a5 :: a6 :: a7 :: b :: L) (.int x :: S) (h) = ev sc d m (is) (a0 :: a1 :: a2 :: a3 :: a4 :: a5 :: a6 :: a7 :: some (.int x) :: L) (S) (h)) ∧
  (∀ (sc : Nat × (Nat → Int32)) (d m : Nat) (is : List ma_I) (L : ma_L) (S : List Value) (h : List ma_C) (o : List Nat) (a0 a1 a2 a3 a4 a5 a6 a7 a8 : Option Value) (b : Option Value) (x : Int32), ev sc d m ((.istore 9, o) :: is) (a0 :: a1 :: a2 :: a3 :: a4 :: a5 :: a6 :: a7 :: a8 :: b :: L) (.int x :: S) (h) = ev sc d m (is) (a0 :: a1 :: a2 :: a3 :: a4 :: a5 :: a6 :: a7 :: a8 :: some (.int x) :: L) (S) (h)) ∧
  (∀ (sc : Nat × (Nat → Int32)) (d m : Nat) (is : List ma_I) (L : ma_L) (S : List Value) (h : List ma_C) (o : List Nat) (b : Option Value) (x : Int32), ev sc d m ((.istore_n 0, o) :: is) (b :: L) (.int x :: S) (h) = ev sc d m (is) (some (.int x) :: L) (S) (h)) ∧
  (∀ (sc : Nat × (Nat → Int32)) (d m : Nat) (is : List ma_I) (L : ma_L) (S : List Value) (h : List ma_C) (o : List Nat) (a0 : Option Value) (b : Option Value) (x : Int32), ev sc d m ((.istore_n 1, o) :: is) (a0 :: b :: L) (.int x :: S) (h) = ev sc d m (is) (a0 :: some (.int x) :: L) (S) (h)) ∧
  (∀ (sc : Nat × (Nat → Int32)) (d m : Nat) (is : List ma_I) (L : ma_L) (S : List Value) (h : List ma_C) (o : List Nat) (a0 a1 : Option Value) (b : Option Value) (x : Int32), ev sc d m ((.istore_n 2, o) :: is) (a0 :: a1 :: b :: L) (.int x :: S) (h) = ev sc d m (is) (a0 :: a1 :: some (.int x) :: L) (S) (h)) ∧
  (∀ (sc : Nat × (Nat → Int32)) (d m : Nat) (is : List ma_I) (L : ma_L) (S : List Value) (h : List ma_C) (o : List Nat) (a0 a1 a2 : Option Value) (b : Option Value) (x : Int32), ev sc d m ((.istore_n 3, o) :: is) (a0 :: a1 :: a2 :: b :: L) (.int x :: S) (h) = ev sc d m (is) (a0 :: a1 :: a2 :: some (.int x) :: L) (S) (h)) ∧
  (∀ (sc : Nat × (Nat → Int32)) (d m : Nat) (is : List ma_I) (L : ma_L) (S : List Value) (h : List ma_C) (o : List Nat) (a0 : Option Value) (b : Option Value) (x : Nat), ev sc d m ((.astore_n 1, o) :: is) (a0 :: b :: L) (.ref x :: S) (h) = ev sc d m (is) (a0 :: some (.ref x) :: L) (S) (h)) ∧
  (∀ (sc : Nat × (Nat → Int32)) (d m : Nat) (is : List ma_I) (L : ma_L) (S : List Value) (h : List ma_C) (o : List Nat) (a0 : Option Value) (b : Option Value), ev sc d m ((.astore_n 1, o) :: is) (a0 :: b :: L) (.null :: S) (h) = ev sc d m (is) (a0 :: some .null :: L) (S) (h)) ∧
  (∀ (sc : Nat × (Nat → Int32)) (d m : Nat) (is : List ma_I) (L : ma_L) (S : List Value) (h : List ma_C) (o : List Nat) (a0 a1 : Option Value) (b : Option Value) (x : Nat), ev sc d m ((.astore_n 2, o) :: is) (a0 :: a1 :: b :: L) (.ref x :: S) (h) = ev sc d m (is) (a0 :: a1 :: some (.ref x) :: L) (S) (h)) ∧
  (∀ (sc : Nat × (Nat → Int32)) (d m : Nat) (is : List ma_I) (L : ma_L) (S : List Value) (h : List ma_C) (o : List Nat) (a0 a1 : Option Value) (b : Option Value), ev sc d m ((.astore_n 2, o) :: is) (a0 :: a1 :: b :: L) (.null :: S) (h) = ev sc d m (is) (a0 :: a1 :: some .null :: L) (S) (h)) ∧
  (∀ (sc : Nat × (Nat → Int32)) (d m : Nat) (is : List ma_I) (L : ma_L) (S : List Value) (h : List ma_C) (o : List Nat) (a0 a1 a2 : Option Value) (b : Option Value) (x : Nat), ev sc d m ((.astore_n 3, o) :: is) (a0 :: a1 :: a2 :: b :: L) (.ref x :: S) (h) = ev sc d m (is) (a0 :: a1 :: a2 :: some (.ref x) :: L) (S) (h)) ∧
  (∀ (sc : Nat × (Nat → Int32)) (d m : Nat) (is : List ma_I) (L : ma_L) (S : List Value) (h : List ma_C) (o : List Nat) (a0 a1 a2 : Option Value) (b : Option Value), ev sc d m ((.astore_n 3, o) :: is) (a0 :: a1 :: a2 :: b :: L) (.null :: S) (h) = ev sc d m (is) (a0 :: a1 :: a2 :: some .null :: L) (S) (h)) ∧
  (∀ (sc : Nat × (Nat → Int32)) (d m : Nat) (is : List ma_I) (L : ma_L) (S : List Value) (h : List ma_C) (o : List Nat) (a0 a1 a2 a3 a4 a5 : Option Value) (b b2 : Option Value) (x : Int64), ev sc d m ((.lstore 6, o) :: is) (a0 :: a1 :: a2 :: a3 :: a4 :: a5 :: b :: b2 :: L) (.long x :: S) (h) = ev sc d m (is) (a0 :: a1 :: a2 :: a3 :: a4 :: a5 :: some (.long x) :: none :: L) (S) (h)) ∧
  (∀ (sc : Nat × (Nat → Int32)) (d m : Nat) (is : List ma_I) (L : ma_L) (S : List Value) (h : List ma_C) (o : List Nat) (a0 a1 a2 : Option Value) (b b2 : Option Value) (x : Int64), ev sc d m ((.lstore_n 3, o) :: is) (a0 :: a1 :: a2 :: b :: b2 :: L) (.long x :: S) (h) = ev sc d m (is) (a0 :: a1 :: a2 :: some (.long x) :: none :: L) (S) (h)) ∧
  (∀ (sc : Nat × (Nat → Int32)) (d m : Nat) (is : List ma_I) (L : ma_L) (S : List Value) (h : List ma_C) (o : List Nat) (a0 : Option Value) (x : Int32), ev sc d m ((.iinc 1 (-1), o) :: is) (a0 :: some (.int x) :: L) (S) (h) = ev sc d m (is) (a0 :: some (.int (x + (-1))) :: L) (S) (h)) ∧
  (∀ (sc : Nat × (Nat → Int32)) (d m : Nat) (is : List ma_I) (L : ma_L) (S : List Value) (h : List ma_C) (o : List Nat) (a0 : Option Value) (x : Int32), ev sc d m ((.iinc 1 1, o) :: is) (a0 :: some (.int x) :: L) (S) (h) = ev sc d m (is) (a0 :: some (.int (x + 1)) :: L) (S) (h)) ∧
  (∀ (sc : Nat × (Nat → Int32)) (d m : Nat) (is : List ma_I) (L : ma_L) (S : List Value) (h : List ma_C) (o : List Nat) (a0 a1 : Option Value) (x : Int32), ev sc d m ((.iinc 2 (-8), o) :: is) (a0 :: a1 :: some (.int x) :: L) (S) (h) = ev sc d m (is) (a0 :: a1 :: some (.int (x + (-8))) :: L) (S) (h)) ∧
  (∀ (sc : Nat × (Nat → Int32)) (d m : Nat) (is : List ma_I) (L : ma_L) (S : List Value) (h : List ma_C) (o : List Nat) (a0 a1 : Option Value) (x : Int32), ev sc d m ((.iinc 2 (-1), o) :: is) (a0 :: a1 :: some (.int x) :: L) (S) (h) = ev sc d m (is) (a0 :: a1 :: some (.int (x + (-1))) :: L) (S) (h)) ∧
  (∀ (sc : Nat × (Nat → Int32)) (d m : Nat) (is : List ma_I) (L : ma_L) (S : List Value) (h : List ma_C) (o : List Nat) (a0 a1 : Option Value) (x : Int32), ev sc d m ((.iinc 2 1, o) :: is) (a0 :: a1 :: some (.int x) :: L) (S) (h) = ev sc d m (is) (a0 :: a1 :: some (.int (x + 1)) :: L) (S) (h)) ∧
  (∀ (sc : Nat × (Nat → Int32)) (d m : Nat) (is : List ma_I) (L : ma_L) (S : List Value) (h : List ma_C) (o : List Nat) (a0 a1 a2 : Option Value) (x : Int32), ev sc d m ((.iinc 3 1, o) :: is) (a0 :: a1 :: a2 :: some (.int x) :: L) (S) (h) = ev sc d m (is) (a0 :: a1 :: a2 :: some (.int (x + 1)) :: L) (S) (h)) ∧
  (∀ (sc : Nat × (Nat → Int32)) (d m : Nat) (is : List ma_I) (L : ma_L) (S : List Value) (h : List ma_C) (o : List Nat) (a0 a1 a2 : Option Value) (x : Int32), ev sc d m ((.iinc 3 6, o) :: is) (a0 :: a1 :: a2 :: some (.int x) :: L) (S) (h) = ev sc d m (is) (a0 :: a1 :: a2 :: some (.int (x + 6)) :: L) (S) (h)) ∧
  (∀ (sc : Nat × (Nat → Int32)) (d m : Nat) (is : List ma_I) (L : ma_L) (S : List Value) (h : List ma_C) (o : List Nat) (a0 a1 a2 a3 : Option Value) (x : Int32), ev sc d m ((.iinc 4 (-1), o) :: is) (a0 :: a1 :: a2 :: a3 :: some (.int x) :: L) (S) (h) = ev sc d m (is) (a0 :: a1 :: a2 :: a3 :: some (.int (x + (-1))) :: L) (S) (h)) ∧
  (∀ (sc : Nat × (Nat → Int32)) (d m : Nat) (is : List ma_I) (L : ma_L) (S : List Value) (h : List ma_C) (o : List Nat) (a0 a1 a2 a3 : Option Value) (x : Int32), ev sc d m ((.iinc 4 1, o) :: is) (a0 :: a1 :: a2 :: a3 :: some (.int x) :: L) (S) (h) = ev sc d m (is) (a0 :: a1 :: a2 :: a3 :: some (.int (x + 1)) :: L) (S) (h)) ∧
  (∀ (sc : Nat × (Nat → Int32)) (d m : Nat) (is : List ma_I) (L : ma_L) (S : List Value) (h : List ma_C) (o : List Nat) (a0 a1 a2 a3 a4 : Option Value) (x : Int32), ev sc d m ((.iinc 5 (-1), o) :: is) (a0 :: a1 :: a2 :: a3 :: a4 :: some (.int x) :: L) (S) (h) = ev sc d m (is) (a0 :: a1 :: a2 :: a3 :: a4 :: some (.int (x + (-1))) :: L) (S) (h)) ∧
  (∀ (sc : Nat × (Nat → Int32)) (d m : Nat) (is : List ma_I) (L : ma_L) (S : List Value) (h : List ma_C) (o : List Nat) (a0 a1 a2 a3 a4 : Option Value) (x : Int32), ev sc d m ((.iinc 5 1, o) :: is) (a0 :: a1 :: a2 :: a3 :: a4 :: some (.int x) :: L) (S) (h) = ev sc d m (is) (a0 :: a1 :: a2 :: a3 :: a4 :: some (.int (x + 1)) :: L) (S) (h)) ∧
  (∀ (sc : Nat × (Nat → Int32)) (d m : Nat) (is : List ma_I) (L : ma_L) (S : List Value) (h : List ma_C) (o : List Nat) (a0 a1 a2 a3 a4 a5 a6 : Option Value) (x : Int32), ev sc d m ((.iinc 7 1, o) :: is) (a0 :: a1 :: a2 :: a3 :: a4 :: a5 :: a6 :: some (.int x) :: L) (S) (h) = ev sc d m (is) (a0 :: a1 :: a2 :: a3 :: a4 :: a5 :: a6 :: some (.int (x + 1)) :: L) (S) (h)) := ⟨fun _ _ _ _ _ _ _ _ _ _ _ _ _ _ => rv_s rfl (by simp only [ma_s]; rw [if_pos (by first | (simp; done) | (simp only [List.length_cons]; show 3 < _; omega) | (simp only [List.length_cons]; show 3 + 1 < _; omega))]; rfl),
  fun _ _ _ _ _ _ _ _ _ _ _ _ _ _ _ => rv_s rfl (by simp only [ma_s]; rw [if_pos (by first | (simp; done) | (simp only [List.length_cons]; show 3 < _; omega) | (simp only [List.length_cons]; show 3 + 1 < _; omega))]; rfl),
  fun _ _ _ _ _ _ _ _ _ _ _ _ _ _ _ _ => rv_s rfl (by simp only [ma_s]; rw [if_pos (by first | (simp; done) | (simp only [List.length_cons]; show 3 < _; omega) | (simp only [List.length_cons]; show 3 + 1 < _; omega))]; rfl),
  fun _ _ _ _ _ _ _ _ _ _ _ _ _ _ _ _ _ => rv_s rfl (by simp only [ma_s]; rw [if_pos (by first | (simp; done) | (simp only [List.length_cons]; show 3 < _; omega) | (simp only [List.length_cons]; show 3 + 1 < _; omega))]; rfl),
  fun _ _ _ _ _ _ _ _ _ _ _ _ _ _ _ _ _ _ => rv_s rfl (by simp only [ma_s]; rw [if_pos (by first | (simp; done) | (simp only [List.length_cons]; show 3 < _; omega) | (simp only [List.length_cons]; show 3 + 1 < _; omega))]; rfl),
  fun _ _ _ _ _ _ _ _ _ _ _ _ _ _ _ _ _ _ _ => rv_s rfl (by simp only [ma_s]; rw [if_pos (by first | (simp; done) | (simp only [List.length_cons]; show 3 < _; omega) | (simp only [List.length_cons]; show 3 + 1 < _; omega))]; rfl),
  fun _ _ _ _ _ _ _ _ _ _ => rv_s rfl (by simp only [ma_s]; rw [if_pos (by first | (simp; done) | (simp only [List.length_cons]; show 3 < _; omega) | (simp only [List.length_cons]; show 3 + 1 < _; omega))]; rfl),
  fun _ _ _ _ _ _ _ _ _ _ _ => rv_s rfl (by simp only [ma_s]; rw [if_pos (by first | (simp; done) | (simp only [List.length_cons]; show 3 < _; omega) | (simp only [List.length_cons]; show 3 + 1 < _; omega))]; rfl),
  fun _ _ _ _ _ _ _ _ _ _ _ _ => rv_s rfl (by simp only [ma_s]; rw [if_pos (by first | (simp; done) | (simp only [List.length_cons]; show 3 < _; omega) | (simp only [List.length_cons]; show 3 + 1 < _; omega))]; rfl),
  fun _ _ _ _ _ _ _ _ _ _ _ _ _ => rv_s rfl (by simp only [ma_s]; rw [if_pos (by first | (simp; done) | (simp only [List.length_cons]; show 3 < _; omega) | (simp only [List.length_cons]; show 3 + 1 < _; omega))]; rfl),
  fun _ _ _ _ _ _ _ _ _ _ _ => rv_s rfl (by simp only [ma_s]; rw [if_pos (by first | (simp; done) | (simp only [List.length_cons]; show 3 < _; omega) | (simp only [List.length_cons]; show 3 + 1 < _; omega))]; rfl),
  fun _ _ _ _ _ _ _ _ _ _ => rv_s rfl (by simp only [ma_s]; rw [if_pos (by first | (simp; done) | (simp only [List.length_cons]; show 3 < _; omega) | (simp only [List.length_cons]; show 3 + 1 < _; omega))]; rfl),
  fun _ _ _ _ _ _ _ _ _ _ _ _ => rv_s rfl (by simp only [ma_s]; rw [if_pos (by first | (simp; done) | (simp only [List.length_cons]; show 3 < _; omega) | (simp only [List.length_cons]; show 3 + 1 < _; omega))]; rfl),
  fun _ _ _ _ _ _ _ _ _ _ _ => rv_s rfl (by simp only [ma_s]; rw [if_pos (by first | (simp; done) | (simp only [List.length_cons]; show 3 < _; omega) | (simp only [List.length_cons]; show 3 + 1 < _; omega))]; rfl),
  fun _ _ _ _ _ _ _ _ _ _ _ _ _ => rv_s rfl (by simp only [ma_s]; rw [if_pos (by first | (simp; done) | (simp only [List.length_cons]; show 3 < _; omega) | (simp only [List.length_cons]; show 3 + 1 < _; omega))]; rfl),
  fun _ _ _ _ _ _ _ _ _ _ _ _ => rv_s rfl (by simp only [ma_s]; rw [if_pos (by first | (simp; done) | (simp only [List.length_cons]; show 3 < _; omega) | (simp only [List.length_cons]; show 3 + 1 < _; omega))]; rfl),
  fun _ _ _ _ _ _ _ _ _ _ _ _ _ _ _ _ _ => rv_s rfl (by simp only [ma_s]; rw [if_pos (by first | (simp; done) | (simp only [List.length_cons]; show 3 < _; omega) | (simp only [List.length_cons]; show 3 + 1 < _; omega))]; rfl),
  fun _ _ _ _ _ _ _ _ _ _ _ _ _ _ => rv_s rfl (by simp only [ma_s]; rw [if_pos (by first | (simp; done) | (simp only [List.length_cons]; show 3 < _; omega) | (simp only [List.length_cons]; show 3 + 1 < _; omega))]; rfl),
  fun _ _ _ _ _ _ _ _ _ _ => rv_s rfl rfl,
  fun _ _ _ _ _ _ _ _ _ _ => rv_s rfl rfl,
  fun _ _ _ _ _ _ _ _ _ _ _ => rv_s rfl rfl,
  fun _ _ _ _ _ _ _ _ _ _ _ => rv_s rfl rfl,
  fun _ _ _ _ _ _ _ _ _ _ _ => rv_s rfl rfl,
  fun _ _ _ _ _ _ _ _ _ _ _ _ => rv_s rfl rfl,
  fun _ _ _ _ _ _ _ _ _ _ _ _ => rv_s rfl rfl,
  fun _ _ _ _ _ _ _ _ _ _ _ _ _ => rv_s rfl rfl,
  fun _ _ _ _ _ _ _ _ _ _ _ _ _ => rv_s rfl rfl,
  fun _ _ _ _ _ _ _ _ _ _ _ _ _ _ => rv_s rfl rfl,
  fun _ _ _ _ _ _ _ _ _ _ _ _ _ _ => rv_s rfl rfl,
  fun _ _ _ _ _ _ _ _ _ _ _ _ _ _ _ _ => rv_s rfl rfl⟩
theorem evA : (∀ (sc : Nat × (Nat → Int32)) (d m : Nat) (is : List ma_I) (L : ma_L) (S : List Value) (h : List ma_C) (o : List Nat) (x y : Int32), ev sc d m ((.iadd, o) :: is) (L) (.int y :: .int x :: S) (h) = ev sc d m (is) (L) (.int (x + y) :: S) (h)) ∧
  (∀ (sc : Nat × (Nat → Int32)) (d m : Nat) (is : List ma_I) (L : ma_L) (S : List Value) (h : List ma_C) (o : List Nat) (x y : Int32), ev sc d m ((.isub, o) :: is) (L) (.int y :: .int x :: S) (h) = ev sc d m (is) (L) (.int (x - y) :: S) (h)) ∧
  (∀ (sc : Nat × (Nat → Int32)) (d m : Nat) (is : List ma_I) (L : ma_L) (S : List Value) (h : List ma_C) (o : List Nat) (x y : Int32), ev sc d m ((.imul, o) :: is) (L) (.int y :: .int x :: S) (h) = ev sc d m (is) (L) (.int (x * y) :: S) (h)) ∧
  (∀ (sc : Nat × (Nat → Int32)) (d m : Nat) (is : List ma_I) (L : ma_L) (S : List Value) (h : List ma_C) (o : List Nat) (x y : Int32), ev sc d m ((.iand, o) :: is) (L) (.int y :: .int x :: S) (h) = ev sc d m (is) (L) (.int (x &&& y) :: S) (h)) ∧
  (∀ (sc : Nat × (Nat → Int32)) (d m : Nat) (is : List ma_I) (L : ma_L) (S : List Value) (h : List ma_C) (o : List Nat) (x y : Int32), ev sc d m ((.ior, o) :: is) (L) (.int y :: .int x :: S) (h) = ev sc d m (is) (L) (.int (x ||| y) :: S) (h)) ∧
  (∀ (sc : Nat × (Nat → Int32)) (d m : Nat) (is : List ma_I) (L : ma_L) (S : List Value) (h : List ma_C) (o : List Nat) (x y : Int32), ev sc d m ((.ixor, o) :: is) (L) (.int y :: .int x :: S) (h) = ev sc d m (is) (L) (.int (x ^^^ y) :: S) (h)) ∧
  (∀ (sc : Nat × (Nat → Int32)) (d m : Nat) (is : List ma_I) (L : ma_L) (S : List Value) (h : List ma_C) (o : List Nat) (x y : Int32), ev sc d m ((.ishl, o) :: is) (L) (.int y :: .int x :: S) (h) = ev sc d m (is) (L) (.int (x <<< (y &&& 31)) :: S) (h)) ∧
  (∀ (sc : Nat × (Nat → Int32)) (d m : Nat) (is : List ma_I) (L : ma_L) (S : List Value) (h : List ma_C) (o : List Nat) (x y : Int32), ev sc d m ((.ishr, o) :: is) (L) (.int y :: .int x :: S) (h) = ev sc d m (is) (L) (.int (x >>> (y &&& 31)) :: S) (h)) ∧
  (∀ (sc : Nat × (Nat → Int32)) (d m : Nat) (is : List ma_I) (L : ma_L) (S : List Value) (h : List ma_C) (o : List Nat) (x y : Int32), ev sc d m ((.iushr, o) :: is) (L) (.int y :: .int x :: S) (h) = ev sc d m (is) (L) (.int ((x.toUInt32 >>> (y.toUInt32 &&& Int32.toUInt32 31)).toInt32) :: S) (h)) ∧
  (∀ (sc : Nat × (Nat → Int32)) (d m : Nat) (is : List ma_I) (L : ma_L) (S : List Value) (h : List ma_C) (o : List Nat) (x y : Int32), ev sc d m ((.idiv, o) :: is) (L) (.int y :: .int x :: S) (h) = if y = 0 then none else ev sc d m (is) (L) (.int (x / y) :: S) (h)) ∧
  (∀ (sc : Nat × (Nat → Int32)) (d m : Nat) (is : List ma_I) (L : ma_L) (S : List Value) (h : List ma_C) (o : List Nat) (x y : Int32), ev sc d m ((.irem, o) :: is) (L) (.int y :: .int x :: S) (h) = if y = 0 then none else ev sc d m (is) (L) (.int (x - x / y * y) :: S) (h)) ∧
  (∀ (sc : Nat × (Nat → Int32)) (d m : Nat) (is : List ma_I) (L : ma_L) (S : List Value) (h : List ma_C) (o : List Nat) (x : Int32), ev sc d m ((.ineg, o) :: is) (L) (.int x :: S) (h) = ev sc d m (is) (L) (.int (-x) :: S) (h)) ∧
  (∀ (sc : Nat × (Nat → Int32)) (d m : Nat) (is : List ma_I) (L : ma_L) (S : List Value) (h : List ma_C) (o : List Nat) (x : Int32), ev sc d m ((.i2l, o) :: is) (L) (.int x :: S) (h) = ev sc d m (is) (L) (.long x.toInt64 :: S) (h)) ∧
  (∀ (sc : Nat × (Nat → Int32)) (d m : Nat) (is : List ma_I) (L : ma_L) (S : List Value) (h : List ma_C) (o : List Nat) (x : Int64), ev sc d m ((.l2i, o) :: is) (L) (.long x :: S) (h) = ev sc d m (is) (L) (.int x.toInt32 :: S) (h)) ∧
  (∀ (sc : Nat × (Nat → Int32)) (d m : Nat) (is : List ma_I) (L : ma_L) (S : List Value) (h : List ma_C) (o : List Nat) (x : Int32), ev sc d m ((.i2b, o) :: is) (L) (.int x :: S) (h) = ev sc d m (is) (L) (.int x.toInt8.toInt32 :: S) (h)) ∧
  (∀ (sc : Nat × (Nat → Int32)) (d m : Nat) (is : List ma_I) (L : ma_L) (S : List Value) (h : List ma_C) (o : List Nat) (x : Int32), ev sc d m ((.i2c, o) :: is) (L) (.int x :: S) (h) = ev sc d m (is) (L) (.int (x.toUInt32 % 65536).toInt32 :: S) (h)) ∧
  (∀ (sc : Nat × (Nat → Int32)) (d m : Nat) (is : List ma_I) (L : ma_L) (S : List Value) (h : List ma_C) (o : List Nat) (x y : Int64), ev sc d m ((.ladd, o) :: is) (L) (.long y :: .long x :: S) (h) = ev sc d m (is) (L) (.long (x + y) :: S) (h)) ∧
  (∀ (sc : Nat × (Nat → Int32)) (d m : Nat) (is : List ma_I) (L : ma_L) (S : List Value) (h : List ma_C) (o : List Nat) (x y : Int64), ev sc d m ((.land, o) :: is) (L) (.long y :: .long x :: S) (h) = ev sc d m (is) (L) (.long (x &&& y) :: S) (h)) ∧
  (∀ (sc : Nat × (Nat → Int32)) (d m : Nat) (is : List ma_I) (L : ma_L) (S : List Value) (h : List ma_C) (o : List Nat) (x y : Int64), ev sc d m ((.lcmp, o) :: is) (L) (.long y :: .long x :: S) (h) = ev sc d m (is) (L) (.int (lg_cmp x y) :: S) (h)) ∧
  (∀ (sc : Nat × (Nat → Int32)) (d m : Nat) (is : List ma_I) (L : ma_L) (S : List Value) (h : List ma_C) (o : List Nat) (x : Int64) (y : Int32), ev sc d m ((.lshl, o) :: is) (L) (.int y :: .long x :: S) (h) = ev sc d m (is) (L) (.long (x <<< (y.toInt64 &&& 63)) :: S) (h)) ∧
  (∀ (sc : Nat × (Nat → Int32)) (d m : Nat) (is : List ma_I) (L : ma_L) (S : List Value) (h : List ma_C) (o : List Nat) (x : Int64) (y : Int32), ev sc d m ((.lshr, o) :: is) (L) (.int y :: .long x :: S) (h) = ev sc d m (is) (L) (.long (x >>> (y.toInt64 &&& 63)) :: S) (h)) ∧
  (∀ (sc : Nat × (Nat → Int32)) (d m : Nat) (is : List ma_I) (L : ma_L) (S : List Value) (h : List ma_C) (o : List Nat) (x : Int32), ev sc d m ((.dup, o) :: is) (L) (.int x :: S) (h) = ev sc d m (is) (L) (.int x :: .int x :: S) (h)) ∧
  (∀ (sc : Nat × (Nat → Int32)) (d m : Nat) (is : List ma_I) (L : ma_L) (S : List Value) (h : List ma_C) (o : List Nat) (x : Nat), ev sc d m ((.dup, o) :: is) (L) (.ref x :: S) (h) = ev sc d m (is) (L) (.ref x :: .ref x :: S) (h)) ∧
  (∀ (sc : Nat × (Nat → Int32)) (d m : Nat) (is : List ma_I) (L : ma_L) (S : List Value) (h : List ma_C) (o : List Nat) (x : Nat) (y : Int32), ev sc d m ((.dup2, o) :: is) (L) (.int y :: .ref x :: S) (h) = ev sc d m (is) (L) (.int y :: .ref x :: .int y :: .ref x :: S) (h)) ∧
  (∀ (sc : Nat × (Nat → Int32)) (d m : Nat) (is : List ma_I) (L : ma_L) (S : List Value) (h : List ma_C) (o : List Nat) (x : Int32), ev sc d m ((.pop, o) :: is) (L) (.int x :: S) (h) = ev sc d m (is) (L) (S) (h)) := ⟨fun _ _ _ _ _ _ _ _ _ _ => rv_s rfl rfl,
  fun _ _ _ _ _ _ _ _ _ _ => rv_s rfl rfl,
  fun _ _ _ _ _ _ _ _ _ _ => rv_s rfl rfl,
  fun _ _ _ _ _ _ _ _ _ _ => rv_s rfl rfl,
  fun _ _ _ _ _ _ _ _ _ _ => rv_s rfl rfl,
  fun _ _ _ _ _ _ _ _ _ _ => rv_s rfl rfl,
  fun _ _ _ _ _ _ _ _ _ _ => rv_s rfl rfl,
  fun _ _ _ _ _ _ _ _ _ _ => rv_s rfl rfl,
  fun _ _ _ _ _ _ _ _ _ _ => rv_s rfl rfl,
  fun _ _ _ _ _ _ _ _ x y => by
    by_cases hy : y = 0
    · rw [if_pos hy]; exact rv_sn rfl (by simp only [ma_s]; rw [if_pos hy])
    · rw [if_neg hy]; exact rv_s rfl (by simp only [ma_s]; rw [if_neg hy]),
  fun _ _ _ _ _ _ _ _ x y => by
    by_cases hy : y = 0
    · rw [if_pos hy]; exact rv_sn rfl (by simp only [ma_s]; rw [if_pos hy])
    · rw [if_neg hy]; exact rv_s rfl (by simp only [ma_s]; rw [if_neg hy]),
  fun _ _ _ _ _ _ _ _ _ => rv_s rfl rfl,
  fun _ _ _ _ _ _ _ _ _ => rv_s rfl rfl,
  fun _ _ _ _ _ _ _ _ _ => rv_s rfl rfl,
  fun _ _ _ _ _ _ _ _ _ => rv_s rfl rfl,
  fun _ _ _ _ _ _ _ _ _ => rv_s rfl rfl,
  fun _ _ _ _ _ _ _ _ _ _ => rv_s rfl rfl,
  fun _ _ _ _ _ _ _ _ _ _ => rv_s rfl rfl,
  fun _ _ _ _ _ _ _ _ _ _ => rv_s rfl rfl,
  fun _ _ _ _ _ _ _ _ _ _ => rv_s rfl rfl,
  fun _ _ _ _ _ _ _ _ _ _ => rv_s rfl rfl,
  fun _ _ _ _ _ _ _ _ _ => rv_s rfl rfl,
  fun _ _ _ _ _ _ _ _ _ => rv_s rfl rfl,
  fun _ _ _ _ _ _ _ _ _ _ => rv_s rfl rfl,
  fun _ _ _ _ _ _ _ _ _ => rv_s rfl rfl⟩
theorem evJ : (∀ (sc : Nat × (Nat → Int32)) (d m : Nat) (is : List ma_I) (L : ma_L) (S : List Value) (h : List ma_C) (t : Nat), ev sc d m ((.nop, [t]) :: is) (L) (S) (h) = ev sc d m (pm_blk m t) L S h) ∧
  (∀ (sc : Nat × (Nat → Int32)) (d m : Nat) (is : List ma_I) (L : ma_L) (S : List Value) (h : List ma_C) (t : Nat) (z : Int), ev sc d m ((.goto z, [t]) :: is) (L) (S) (h) = ev sc d m (pm_blk m t) L S h) ∧
  (∀ (sc : Nat × (Nat → Int32)) (d m : Nat) (is : List ma_I) (L : ma_L) (S : List Value) (h : List ma_C) (t : Nat) (z : Int) (x y : Int32), ev sc d m ((.if_icmp .eq z, [t]) :: is) (L) (.int y :: .int x :: S) (h) = if x = y then ev sc d m (pm_blk m t) L S h else ev sc d m (is) (L) (S) (h)) ∧
  (∀ (sc : Nat × (Nat → Int32)) (d m : Nat) (is : List ma_I) (L : ma_L) (S : List Value) (h : List ma_C) (t : Nat) (z : Int) (x : Int32), ev sc d m ((.ifCond .eq z, [t]) :: is) (L) (.int x :: S) (h) = if x = 0 then ev sc d m (pm_blk m t) L S h else ev sc d m (is) (L) (S) (h)) ∧
  (∀ (sc : Nat × (Nat → Int32)) (d m : Nat) (is : List ma_I) (L : ma_L) (S : List Value) (h : List ma_C) (t : Nat) (z : Int) (x y : Int32), ev sc d m ((.if_icmp .ne z, [t]) :: is) (L) (.int y :: .int x :: S) (h) = if x = y then ev sc d m (is) (L) (S) (h) else ev sc d m (pm_blk m t) L S h) ∧
  (∀ (sc : Nat × (Nat → Int32)) (d m : Nat) (is : List ma_I) (L : ma_L) (S : List Value) (h : List ma_C) (t : Nat) (z : Int) (x : Int32), ev sc d m ((.ifCond .ne z, [t]) :: is) (L) (.int x :: S) (h) = if x = 0 then ev sc d m (is) (L) (S) (h) else ev sc d m (pm_blk m t) L S h) ∧
  (∀ (sc : Nat × (Nat → Int32)) (d m : Nat) (is : List ma_I) (L : ma_L) (S : List Value) (h : List ma_C) (t : Nat) (z : Int) (x y : Int32), ev sc d m ((.if_icmp .lt z, [t]) :: is) (L) (.int y :: .int x :: S) (h) = if x < y then ev sc d m (pm_blk m t) L S h else ev sc d m (is) (L) (S) (h)) ∧
  (∀ (sc : Nat × (Nat → Int32)) (d m : Nat) (is : List ma_I) (L : ma_L) (S : List Value) (h : List ma_C) (t : Nat) (z : Int) (x : Int32), ev sc d m ((.ifCond .lt z, [t]) :: is) (L) (.int x :: S) (h) = if x < 0 then ev sc d m (pm_blk m t) L S h else ev sc d m (is) (L) (S) (h)) ∧
  (∀ (sc : Nat × (Nat → Int32)) (d m : Nat) (is : List ma_I) (L : ma_L) (S : List Value) (h : List ma_C) (t : Nat) (z : Int) (x y : Int32), ev sc d m ((.if_icmp .ge z, [t]) :: is) (L) (.int y :: .int x :: S) (h) = if x < y then ev sc d m (is) (L) (S) (h) else ev sc d m (pm_blk m t) L S h) ∧
  (∀ (sc : Nat × (Nat → Int32)) (d m : Nat) (is : List ma_I) (L : ma_L) (S : List Value) (h : List ma_C) (t : Nat) (z : Int) (x : Int32), ev sc d m ((.ifCond .ge z, [t]) :: is) (L) (.int x :: S) (h) = if x < 0 then ev sc d m (is) (L) (S) (h) else ev sc d m (pm_blk m t) L S h) ∧
  (∀ (sc : Nat × (Nat → Int32)) (d m : Nat) (is : List ma_I) (L : ma_L) (S : List Value) (h : List ma_C) (t : Nat) (z : Int) (x y : Int32), ev sc d m ((.if_icmp .gt z, [t]) :: is) (L) (.int y :: .int x :: S) (h) = if x ≤ y then ev sc d m (is) (L) (S) (h) else ev sc d m (pm_blk m t) L S h) ∧
  (∀ (sc : Nat × (Nat → Int32)) (d m : Nat) (is : List ma_I) (L : ma_L) (S : List Value) (h : List ma_C) (t : Nat) (z : Int) (x : Int32), ev sc d m ((.ifCond .gt z, [t]) :: is) (L) (.int x :: S) (h) = if x ≤ 0 then ev sc d m (is) (L) (S) (h) else ev sc d m (pm_blk m t) L S h) ∧
  (∀ (sc : Nat × (Nat → Int32)) (d m : Nat) (is : List ma_I) (L : ma_L) (S : List Value) (h : List ma_C) (t : Nat) (z : Int) (x y : Int32), ev sc d m ((.if_icmp .le z, [t]) :: is) (L) (.int y :: .int x :: S) (h) = if x ≤ y then ev sc d m (pm_blk m t) L S h else ev sc d m (is) (L) (S) (h)) ∧
  (∀ (sc : Nat × (Nat → Int32)) (d m : Nat) (is : List ma_I) (L : ma_L) (S : List Value) (h : List ma_C) (t : Nat) (z : Int) (x : Int32), ev sc d m ((.ifCond .le z, [t]) :: is) (L) (.int x :: S) (h) = if x ≤ 0 then ev sc d m (pm_blk m t) L S h else ev sc d m (is) (L) (S) (h)) ∧
  (∀ (sc : Nat × (Nat → Int32)) (d m : Nat) (is : List ma_I) (L : ma_L) (S : List Value) (h : List ma_C) (t : Nat) (z : Int), ev sc d m ((.ifnull z, [t]) :: is) (L) (.null :: S) (h) = ev sc d m (pm_blk m t) L S h) ∧
  (∀ (sc : Nat × (Nat → Int32)) (d m : Nat) (is : List ma_I) (L : ma_L) (S : List Value) (h : List ma_C) (t : Nat) (z : Int) (x : Nat), ev sc d m ((.ifnull z, [t]) :: is) (L) (.ref x :: S) (h) = ev sc d m (is) (L) (S) (h)) ∧
  (∀ (sc : Nat × (Nat → Int32)) (d m : Nat) (is : List ma_I) (L : ma_L) (S : List Value) (h : List ma_C) (t : Nat) (z : Int), ev sc d m ((.ifnonnull z, [t]) :: is) (L) (.null :: S) (h) = ev sc d m (is) (L) (S) (h)) ∧
  (∀ (sc : Nat × (Nat → Int32)) (d m : Nat) (is : List ma_I) (L : ma_L) (S : List Value) (h : List ma_C) (t : Nat) (z : Int) (x : Nat), ev sc d m ((.ifnonnull z, [t]) :: is) (L) (.ref x :: S) (h) = ev sc d m (pm_blk m t) L S h) ∧
  (∀ (sc : Nat × (Nat → Int32)) (d m : Nat) (is : List ma_I) (L : ma_L) (S : List Value) (h : List ma_C) (x : Int32), ev sc d m ((.ireturn, [0]) :: is) (L) ([.int x]) (h) = some (some (.int x), h)) ∧
  (∀ (sc : Nat × (Nat → Int32)) (d m : Nat) (is : List ma_I) (L : ma_L) (S : List Value) (h : List ma_C), ev sc d m ((.ireturn, [1]) :: is) (L) ([.int 0]) (h) = some (some (.int 0), h)) ∧
  (∀ (sc : Nat × (Nat → Int32)) (d m : Nat) (is : List ma_I) (L : ma_L) (S : List Value) (h : List ma_C), ev sc d m ((.ireturn, [1]) :: is) (L) ([.int 1]) (h) = some (some (.int 1), h)) ∧
  (∀ (sc : Nat × (Nat → Int32)) (d m : Nat) (is : List ma_I) (L : ma_L) (S : List Value) (h : List ma_C) (o : List Nat), ev sc d m ((.return_, o) :: is) (L) ([]) (h) = some (none, h)) ∧
  (∀ (sc : Nat × (Nat → Int32)) (d m : Nat) (is : List ma_I) (L : ma_L) (S : List Value) (h : List ma_C) (o : List Nat) (x : Int64), ev sc d m ((.lreturn, o) :: is) (L) ([.long x]) (h) = some (some (.long x), h)) := ⟨fun _ _ _ _ _ _ _ _ => rv_j rfl rfl,
  fun _ _ _ _ _ _ _ _ _ => rv_j rfl rfl,
  fun _ _ _ _ _ _ _ t z x y => by
    by_cases hz : x = y
    · rw [if_pos hz]; exact rv_j rfl (ma_jT (decide_eq_true hz))
    · rw [if_neg hz]; exact rv_jn rfl (ma_jF (decide_eq_false hz)),
  fun _ _ _ _ _ _ _ t z x => by
    by_cases hz : x = 0
    · rw [if_pos hz]; exact rv_j rfl (ma_jT0 (decide_eq_true hz))
    · rw [if_neg hz]; exact rv_jn rfl (ma_jF0 (decide_eq_false hz)),
  fun _ _ _ _ _ _ _ t z x y => by
    by_cases hz : x = y
    · rw [if_pos hz]; exact rv_jn rfl (ma_jF (decide_eq_false (fun q => q hz)))
    · rw [if_neg hz]; exact rv_j rfl (ma_jT (decide_eq_true hz)),
  fun _ _ _ _ _ _ _ t z x => by
    by_cases hz : x = 0
    · rw [if_pos hz]; exact rv_jn rfl (ma_jF0 (decide_eq_false (fun q => q hz)))
    · rw [if_neg hz]; exact rv_j rfl (ma_jT0 (decide_eq_true hz)),
  fun _ _ _ _ _ _ _ t z x y => by
    by_cases hz : x < y
    · rw [if_pos hz]; exact rv_j rfl (ma_jT (decide_eq_true hz))
    · rw [if_neg hz]; exact rv_jn rfl (ma_jF (decide_eq_false hz)),
  fun _ _ _ _ _ _ _ t z x => by
    by_cases hz : x < 0
    · rw [if_pos hz]; exact rv_j rfl (ma_jT0 (decide_eq_true hz))
    · rw [if_neg hz]; exact rv_jn rfl (ma_jF0 (decide_eq_false hz)),
  fun _ _ _ _ _ _ _ t z x y => by
    by_cases hz : x < y
    · rw [if_pos hz]; exact rv_jn rfl (ma_jF (decide_eq_false (Int32.not_le.mpr hz)))
    · rw [if_neg hz]; exact rv_j rfl (ma_jT (decide_eq_true (Int32.not_lt.mp hz))),
  fun _ _ _ _ _ _ _ t z x => by
    by_cases hz : x < 0
    · rw [if_pos hz]; exact rv_jn rfl (ma_jF0 (decide_eq_false (Int32.not_le.mpr hz)))
    · rw [if_neg hz]; exact rv_j rfl (ma_jT0 (decide_eq_true (Int32.not_lt.mp hz))),
  fun _ _ _ _ _ _ _ t z x y => by
    by_cases hz : x ≤ y
    · rw [if_pos hz]; exact rv_jn rfl (ma_jF (decide_eq_false (Int32.not_lt.mpr hz)))
    · rw [if_neg hz]; exact rv_j rfl (ma_jT (decide_eq_true (Int32.not_le.mp hz))),
  fun _ _ _ _ _ _ _ t z x => by
    by_cases hz : x ≤ 0
    · rw [if_pos hz]; exact rv_jn rfl (ma_jF0 (decide_eq_false (Int32.not_lt.mpr hz)))
    · rw [if_neg hz]; exact rv_j rfl (ma_jT0 (decide_eq_true (Int32.not_le.mp hz))),
  fun _ _ _ _ _ _ _ t z x y => by
    by_cases hz : x ≤ y
    · rw [if_pos hz]; exact rv_j rfl (ma_jT (decide_eq_true hz))
    · rw [if_neg hz]; exact rv_jn rfl (ma_jF (decide_eq_false hz)),
  fun _ _ _ _ _ _ _ t z x => by
    by_cases hz : x ≤ 0
    · rw [if_pos hz]; exact rv_j rfl (ma_jT0 (decide_eq_true hz))
    · rw [if_neg hz]; exact rv_jn rfl (ma_jF0 (decide_eq_false hz)),
  fun _ _ _ _ _ _ _ _ _ => rv_j rfl rfl,
  fun _ _ _ _ _ _ _ _ _ _ => rv_jn rfl rfl,
  fun _ _ _ _ _ _ _ _ _ => rv_jn rfl rfl,
  fun _ _ _ _ _ _ _ _ _ _ => rv_j rfl rfl,
  fun _ _ _ _ _ _ _ _ => rv_r rfl rfl,
  fun _ _ _ _ _ _ _ => rv_r rfl rfl,
  fun _ _ _ _ _ _ _ => rv_r rfl rfl,
  fun _ _ _ _ _ _ _ _ => rv_r rfl rfl,
  fun _ _ _ _ _ _ _ _ _ => rv_r rfl rfl⟩
theorem ev_rb (x : Int32) (hx : x = 0 ∨ x = 1) : ev sc d m ((.ireturn, [1]) :: is) L [.int x] h = some (some (.int x), h) := rv_r rfl (by simp only [ma_r]; rw [if_pos hx])
theorem ev_ob (x y : Nat) (h8 : ma_wd S ≤ 8) : ev sc (d + 9) m ((.invokespecial x, [1]) :: is) L (.ref y :: S) h = ev sc (d + 9) m is L S h := rv_x rfl (by omega) (by simp only [ma_x, ma_wd_eq]; rw [if_neg (by omega)])
end EV
end
