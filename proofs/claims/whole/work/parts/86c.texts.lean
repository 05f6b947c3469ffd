section JH
variable {G : List Jvm.Cond} {base : Nat} {adK adV : Nat → Nat} {l : Launch} {q q1 : ma_M} {d d1 : Nat} {r r1 : Option Value} {pc x n : Nat} {lv : List (Nat × Value)} {S S' As rest : List Value}
variable {p : Program} {e : Env} {R : Room} {s : State} {m : MethodId} {args : Array Value} {below : List Frame} {meth : Method} {c : Code} {cc : ByteArray} {nL : Nat} {Q : State → Prop} {H : Heap} {locs : List Loc} {ls : Array Slot} {cells slots : Nat} {own : String}
/-! rows -/
theorem jW.callS (hM : jM G base adK adV l q1 d1 As r1) (hd : d1 + 1 ≤ d) (hq : jc G q.1.cls x q1 n) (hq2 : jcS G q1) (hdg : decode q.2.1 pc = .ok (.invokestatic x, 3)) (hn : As.length = n) (hS : S = As.reverse ++ rest) (hsum : (rest.map fun v => v.category).sum ≤ 8) (hS' : r1.toList ++ rest = S')
    (w : jW G base adK adV l q d r (pc + 3) lv S') : jW G base adK adV l q d r pc lv S := fun p e R s m args below meth c ls X hr hk h1 h2 h0 =>
  j_goS (nL := q.2.2.1) ⟨X.1, X.2.1, X.2.2.1, X.2.2.2.1, X.2.2.2.2.1⟩ X.2.2.2.2.2 h0.1 hM hq hq2 (by omega) (by omega) (Nat.zero_le _) (Nat.zero_le _) hn hS hsum hdg hS' (w p e R s m args below meth c ls X hr hk h1 h2 h0)
theorem jW.callV {i : Nat} (hM : jM G base adK adV l q1 d1 (.ref (adK i) :: As) r1) (hi : i < 2) (hd : d1 + 1 ≤ d) (hq : jc G q.1.cls x q1 n) (hq2 : jcV G q1) (hdg : decode q.2.1 pc = .ok (.invokevirtual x, 3)) (hn : As.length = n) (hS : S = As.reverse ++ .ref (adK i) :: rest) (hsum : (rest.map fun v => v.category).sum ≤ 8) (hS' : r1.toList ++ rest = S')
    (w : jW G base adK adV l q d r (pc + 3) lv S') : jW G base adK adV l q d r pc lv S := fun p e R s m args below meth c ls X hr hk h1 h2 h0 =>
  j_goV (nL := q.2.2.1) ⟨X.1, X.2.1, X.2.2.1, X.2.2.2.1, X.2.2.2.2.1⟩ X.2.2.2.2.2 h0.1 hM hi hq hq2 (by omega) (by omega) (Nat.zero_le _) (Nat.zero_le _) hn hS hsum hdg hS' (w p e R s m args below meth c ls X hr hk h1 h2 h0)
theorem jW.iload_n {k : Fin 4} {v : Int32} (j : Nat) (hdg : decode q.2.1 pc = .ok (.iload_n k, 1)) (hl : lv[j]? = some ((k : Nat), .int v)) (w : jW G base adK adV l q d r (pc + 1) lv (.int v :: S)) : jW G base adK adV l q d r pc lv S := fun p e R s m args below meth c ls X hr hk h1 h2 h0 =>
  lv_iload_n X.1 X.2.1 hdg rfl (lv_at h0 j hl) (w p e R s m args below meth c ls X hr hk h1 h2 h0)
theorem jW.iload {k : Nat} {v : Int32} (j : Nat) (hdg : decode q.2.1 pc = .ok (.iload k, 2)) (hl : lv[j]? = some (k, .int v)) (w : jW G base adK adV l q d r (pc + 2) lv (.int v :: S)) : jW G base adK adV l q d r pc lv S := fun p e R s m args below meth c ls X hr hk h1 h2 h0 =>
  lv_iload X.1 X.2.1 hdg (lv_at h0 j hl) (w p e R s m args below meth c ls X hr hk h1 h2 h0)
theorem jW.aload_n {k : Fin 4} {v : Nat} (j : Nat) (hdg : decode q.2.1 pc = .ok (.aload_n k, 1)) (hl : lv[j]? = some ((k : Nat), .ref v)) (w : jW G base adK adV l q d r (pc + 1) lv (.ref v :: S)) : jW G base adK adV l q d r pc lv S := fun p e R s m args below meth c ls X hr hk h1 h2 h0 =>
  lv_aload_n X.1 X.2.1 hdg rfl (lv_at h0 j hl) (w p e R s m args below meth c ls X hr hk h1 h2 h0)
theorem jW.istore_n {k : Fin 4} {v : Int32} {lv' : List (Nat × Value)} (hdg : decode q.2.1 pc = .ok (.istore_n k, 1)) (hn : (k : Nat) < q.2.2.1) (hl : ((k : Nat), Value.int v) :: lv.filter (fun q => !(q.1 == (k : Nat)) && !(q.1 + 1 == (k : Nat) && q.2.category == 2)) = lv') (w : jW G base adK adV l q d r (pc + 1) lv' S) : jW G base adK adV l q d r pc lv (.int v :: S) := fun p e R s m args below meth c ls X hr hk h1 h2 h0 =>
  lv_istore_n X.1 X.2.1 hdg rfl h0 hn hl (fun ls' h' => w p e R s m args below meth c ls' X hr hk h1 h2 h')
theorem jW.istore {k : Nat} {v : Int32} {lv' : List (Nat × Value)} (hdg : decode q.2.1 pc = .ok (.istore k, 2)) (hn : k < q.2.2.1) (hl : (k, Value.int v) :: lv.filter (fun q => !(q.1 == k) && !(q.1 + 1 == k && q.2.category == 2)) = lv') (w : jW G base adK adV l q d r (pc + 2) lv' S) : jW G base adK adV l q d r pc lv (.int v :: S) := fun p e R s m args below meth c ls X hr hk h1 h2 h0 =>
  lv_istore X.1 X.2.1 hdg h0 hn hl (fun ls' h' => w p e R s m args below meth c ls' X hr hk h1 h2 h')
theorem jW.iinc {k : Nat} {z : Int} {v v' : Int32} {lv' : List (Nat × Value)} (j : Nat) (hdg : decode q.2.1 pc = .ok (.iinc k z, 3)) (hj : lv[j]? = some (k, .int v)) (hv : v + Int32.ofInt z = v') (hn : k < q.2.2.1) (hl : (k, Value.int v') :: lv.filter (fun q => !(q.1 == k) && !(q.1 + 1 == k && q.2.category == 2)) = lv') (w : jW G base adK adV l q d r (pc + 3) lv' S) : jW G base adK adV l q d r pc lv S := fun p e R s m args below meth c ls X hr hk h1 h2 h0 =>
  lv_iinc X.1 X.2.1 hdg h0 hj hv hn hl (fun ls' h' => w p e R s m args below meth c ls' X hr hk h1 h2 h')
theorem jW.iconst {z : Int} {v : Int32} (hdg : decode q.2.1 pc = .ok (.iconst z, 1)) (hv : Int32.ofInt z = v) (w : jW G base adK adV l q d r (pc + 1) lv (.int v :: S)) : jW G base adK adV l q d r pc lv S := fun p e R s m args below meth c ls X hr hk h1 h2 h0 =>
  lv_iconst X.1 X.2.1 hdg hv (w p e R s m args below meth c ls X hr hk h1 h2 h0)
theorem jW.sipush {z : Int} {v : Int32} (hdg : decode q.2.1 pc = .ok (.sipush z, 3)) (hv : (Int16.ofInt z).toInt32 = v) (w : jW G base adK adV l q d r (pc + 3) lv (.int v :: S)) : jW G base adK adV l q d r pc lv S := fun p e R s m args below meth c ls X hr hk h1 h2 h0 =>
  lv_sipush X.1 X.2.1 hdg hv (w p e R s m args below meth c ls X hr hk h1 h2 h0)
theorem jW.compact (hdg : decode q.2.1 pc = .ok (.getstatic x, 3)) (hw : Jvm.Cond.fieldLink q.1.cls x "java/lang/String" "COMPACT_STRINGS" "Z" ∈ G) (w : jW G base adK adV l q d r (pc + 3) lv (.int 1 :: S)) : jW G base adK adV l q d r pc lv S := fun p e R s m args below meth c ls X hr hk h1 h2 h0 =>
  va_gets X.1 X.2.1 X.2.2.2.2.2.2.1 va_S.rf X.2.2.2.1 (X.2.2.2.2.1 _ hw) (fun _ h => h) hdg (w p e R s m args below meth c ls X hr hk h1 h2 h0)
theorem jW.sioobe (hdg : decode q.2.1 pc = .ok (.getstatic x, 3)) (hw : Jvm.Cond.fieldLink q.1.cls x "jdk/internal/util/Preconditions" "SIOOBE_FORMATTER" "Ljava/util/function/BiFunction;" ∈ G) (w : ∀ v : Value, v.category = 1 → jW G base adK adV l q d r (pc + 3) lv (v :: S)) : jW G base adK adV l q d r pc lv S := fun p e R s m args below meth c ls X hr hk h1 h2 h0 => by
  rcases X.2.2.2.2.2.2.2.1 with hz | ⟨t, hz⟩
  · exact va_gets X.1 X.2.1 hz va_S.rf X.2.2.2.1 (X.2.2.2.2.1 _ hw) (fun _ h => h) hdg (w _ rfl p e R s m args below meth c ls X hr hk h1 h2 h0)
  · exact va_gets X.1 X.2.1 hz va_S.rf X.2.2.2.1 (X.2.2.2.2.1 _ hw) (fun _ h => h) hdg (w _ rfl p e R s m args below meth c ls X hr hk h1 h2 h0)
theorem jW.coder {i : Nat} (hi : i < 2) (hdg : decode q.2.1 pc = .ok (.getfield x, 3)) (hw : Jvm.Cond.fieldLink q.1.cls x "java/lang/String" "coder" "B" ∈ G) (w : jW G base adK adV l q d r (pc + 3) lv (.int 0 :: S)) : jW G base adK adV l q d r pc lv (.ref (adK i) :: S) := fun p e R s m args below meth c ls X hr hk h1 h2 h0 =>
  vk_getf X.1 X.2.1 (X.2.2.2.2.2.1.1 i hi).2.1 va_S.rf X.2.2.2.1 (X.2.2.2.2.1 _ hw) (fun _ h => h) hdg (w p e R s m args below meth c ls X hr hk h1 h2 h0)
theorem jW.value {i : Nat} (hi : i < 2) (hdg : decode q.2.1 pc = .ok (.getfield x, 3)) (hw : Jvm.Cond.fieldLink q.1.cls x "java/lang/String" "value" "[B" ∈ G) (w : jW G base adK adV l q d r (pc + 3) lv (.ref (adV i) :: S)) : jW G base adK adV l q d r pc lv (.ref (adK i) :: S) := fun p e R s m args below meth c ls X hr hk h1 h2 h0 =>
  vk_getf X.1 X.2.1 (X.2.2.2.2.2.1.1 i hi).2.2.1 va_S.rf X.2.2.2.1 (X.2.2.2.2.1 _ hw) (fun _ h => h) hdg (w p e R s m args below meth c ls X hr hk h1 h2 h0)
theorem jW.alen {i : Nat} (hi : i < 2) {v : Int32} (hv : Int32.ofNat (jLen.getD i 0) = v) (hdg : decode q.2.1 pc = .ok (.arraylength, 1)) (w : jW G base adK adV l q d r (pc + 1) lv (.int v :: S)) : jW G base adK adV l q d r pc lv (.ref (adV i) :: S) := fun p e R s m args below meth c ls X hr hk h1 h2 h0 =>
  va_tlen X.1 X.2.1 (X.2.2.2.2.2.1.1 i hi).2.2.2 va_S.rf hv hdg (w p e R s m args below meth c ls X hr hk h1 h2 h0)
theorem jW.bal {i : Nat} (hi : i < 2) {j v : Int32} (hin : vp_in j (jLen.getD i 0)) (hv : (jByt.getD i []).getD j.toNatClampNeg 0 = v) (hdg : decode q.2.1 pc = .ok (.baload, 1)) (w : jW G base adK adV l q d r (pc + 1) lv (.int v :: S)) : jW G base adK adV l q d r pc lv (.int j :: .ref (adV i) :: S) := fun p e R s m args below meth c ls X hr hk h1 h2 h0 =>
  va_tb X.1 X.2.1 (X.2.2.2.2.2.1.1 i hi).2.2.2 va_S.rf hin (v := .int v) (by rw [← hv]) hdg (w p e R s m args below meth c ls X hr hk h1 h2 h0)
theorem jW.iand {a b v : Int32} (hv : a &&& b = v) (hdg : decode q.2.1 pc = .ok (.iand, 1)) (w : jW G base adK adV l q d r (pc + 1) lv (.int v :: S)) : jW G base adK adV l q d r pc lv (.int b :: .int a :: S) := fun p e R s m args below meth c ls X hr hk h1 h2 h0 =>
  lv_iand X.1 X.2.1 hdg (by rw [hv]; exact w p e R s m args below meth c ls X hr hk h1 h2 h0)
theorem jW.ishr {a b v : Int32} (hv : a >>> (b &&& 31) = v) (hdg : decode q.2.1 pc = .ok (.ishr, 1)) (w : jW G base adK adV l q d r (pc + 1) lv (.int v :: S)) : jW G base adK adV l q d r pc lv (.int b :: .int a :: S) := fun p e R s m args below meth c ls X hr hk h1 h2 h0 =>
  lv_ishr X.1 X.2.1 hdg (by rw [hv]; exact w p e R s m args below meth c ls X hr hk h1 h2 h0)
theorem jW.i2c {a v : Int32} (hv : (a.toUInt32 % 65536).toInt32 = v) (hdg : decode q.2.1 pc = .ok (.i2c, 1)) (w : jW G base adK adV l q d r (pc + 1) lv (.int v :: S)) : jW G base adK adV l q d r pc lv (.int a :: S) := fun p e R s m args below meth c ls X hr hk h1 h2 h0 =>
  lv_i2c X.1 X.2.1 hdg hv (w p e R s m args below meth c ls X hr hk h1 h2 h0)
theorem jW.i2b {a v : Int32} (hv : a.toInt8.toInt32 = v) (hdg : decode q.2.1 pc = .ok (.i2b, 1)) (w : jW G base adK adV l q d r (pc + 1) lv (.int v :: S)) : jW G base adK adV l q d r pc lv (.int a :: S) := fun p e R s m args below meth c ls X hr hk h1 h2 h0 =>
  lv_i2b X.1 X.2.1 hdg hv (w p e R s m args below meth c ls X hr hk h1 h2 h0)
theorem jW.pop {v : Value} (hv : v.category = 1) (hdg : decode q.2.1 pc = .ok (.pop, 1)) (w : jW G base adK adV l q d r (pc + 1) lv S) : jW G base adK adV l q d r pc lv (v :: S) := fun p e R s m args below meth c ls X hr hk h1 h2 h0 =>
  lv_pop X.1 X.2.1 hdg hv (w p e R s m args below meth c ls X hr hk h1 h2 h0)
theorem jW.goto {off : Int} (tgt : Nat) (hdg : decode q.2.1 pc = .ok (.goto off, 3)) (ht : (pc : Int) + off = (tgt : Int)) (w : jW G base adK adV l q d r tgt lv S) : jW G base adK adV l q d r pc lv S := fun p e R s m args below meth c ls X hr hk h1 h2 h0 =>
  lv_goto X.1 X.2.1 hdg ht (w p e R s m args below meth c ls X hr hk h1 h2 h0)
theorem jW.if_eq_t {a : Int32} {off : Int} (tgt : Nat) (hdg : decode q.2.1 pc = .ok (.ifCond .eq off, 3)) (ht : (pc : Int) + off = (tgt : Int)) (hc : a = 0) (w : jW G base adK adV l q d r tgt lv S) : jW G base adK adV l q d r pc lv (.int a :: S) := fun p e R s m args below meth c ls X hr hk h1 h2 h0 =>
  lv_if_eq X.1 X.2.1 hdg ht (fun _ => w p e R s m args below meth c ls X hr hk h1 h2 h0) (fun h => absurd hc h)
theorem jW.if_eq_f {a : Int32} {off : Int} (tgt : Nat) (hdg : decode q.2.1 pc = .ok (.ifCond .eq off, 3)) (ht : (pc : Int) + off = (tgt : Int)) (hc : ¬ (a = 0)) (w : jW G base adK adV l q d r (pc + 3) lv S) : jW G base adK adV l q d r pc lv (.int a :: S) := fun p e R s m args below meth c ls X hr hk h1 h2 h0 =>
  lv_if_eq X.1 X.2.1 hdg ht (fun h => absurd h hc) (fun _ => w p e R s m args below meth c ls X hr hk h1 h2 h0)
theorem jW.if_ne_t {a : Int32} {off : Int} (tgt : Nat) (hdg : decode q.2.1 pc = .ok (.ifCond .ne off, 3)) (ht : (pc : Int) + off = (tgt : Int)) (hc : a ≠ 0) (w : jW G base adK adV l q d r tgt lv S) : jW G base adK adV l q d r pc lv (.int a :: S) := fun p e R s m args below meth c ls X hr hk h1 h2 h0 =>
  lv_if_ne X.1 X.2.1 hdg ht (fun _ => w p e R s m args below meth c ls X hr hk h1 h2 h0) (fun h => absurd h hc)
theorem jW.if_ne_f {a : Int32} {off : Int} (tgt : Nat) (hdg : decode q.2.1 pc = .ok (.ifCond .ne off, 3)) (ht : (pc : Int) + off = (tgt : Int)) (hc : ¬ (a ≠ 0)) (w : jW G base adK adV l q d r (pc + 3) lv S) : jW G base adK adV l q d r pc lv (.int a :: S) := fun p e R s m args below meth c ls X hr hk h1 h2 h0 =>
  lv_if_ne X.1 X.2.1 hdg ht (fun h => absurd h hc) (fun _ => w p e R s m args below meth c ls X hr hk h1 h2 h0)
theorem jW.if_lt_t {a : Int32} {off : Int} (tgt : Nat) (hdg : decode q.2.1 pc = .ok (.ifCond .lt off, 3)) (ht : (pc : Int) + off = (tgt : Int)) (hc : a < 0) (w : jW G base adK adV l q d r tgt lv S) : jW G base adK adV l q d r pc lv (.int a :: S) := fun p e R s m args below meth c ls X hr hk h1 h2 h0 =>
  lv_if_lt X.1 X.2.1 hdg ht (fun _ => w p e R s m args below meth c ls X hr hk h1 h2 h0) (fun h => absurd hc h)
theorem jW.if_lt_f {a : Int32} {off : Int} (tgt : Nat) (hdg : decode q.2.1 pc = .ok (.ifCond .lt off, 3)) (ht : (pc : Int) + off = (tgt : Int)) (hc : ¬ (a < 0)) (w : jW G base adK adV l q d r (pc + 3) lv S) : jW G base adK adV l q d r pc lv (.int a :: S) := fun p e R s m args below meth c ls X hr hk h1 h2 h0 =>
  lv_if_lt X.1 X.2.1 hdg ht (fun h => absurd h hc) (fun _ => w p e R s m args below meth c ls X hr hk h1 h2 h0)
theorem jW.icmp_ne_t {a b : Int32} {off : Int} (tgt : Nat) (hdg : decode q.2.1 pc = .ok (.if_icmp .ne off, 3)) (ht : (pc : Int) + off = (tgt : Int)) (hc : a ≠ b) (w : jW G base adK adV l q d r tgt lv S) : jW G base adK adV l q d r pc lv (.int b :: .int a :: S) := fun p e R s m args below meth c ls X hr hk h1 h2 h0 =>
  lv_icmp_ne X.1 X.2.1 hdg ht (fun _ => w p e R s m args below meth c ls X hr hk h1 h2 h0) (fun h => absurd h hc)
theorem jW.icmp_ne_f {a b : Int32} {off : Int} (tgt : Nat) (hdg : decode q.2.1 pc = .ok (.if_icmp .ne off, 3)) (ht : (pc : Int) + off = (tgt : Int)) (hc : ¬ (a ≠ b)) (w : jW G base adK adV l q d r (pc + 3) lv S) : jW G base adK adV l q d r pc lv (.int b :: .int a :: S) := fun p e R s m args below meth c ls X hr hk h1 h2 h0 =>
  lv_icmp_ne X.1 X.2.1 hdg ht (fun h => absurd h hc) (fun _ => w p e R s m args below meth c ls X hr hk h1 h2 h0)
theorem jW.icmp_lt_t {a b : Int32} {off : Int} (tgt : Nat) (hdg : decode q.2.1 pc = .ok (.if_icmp .lt off, 3)) (ht : (pc : Int) + off = (tgt : Int)) (hc : a < b) (w : jW G base adK adV l q d r tgt lv S) : jW G base adK adV l q d r pc lv (.int b :: .int a :: S) := fun p e R s m args below meth c ls X hr hk h1 h2 h0 =>
  lv_icmp_lt X.1 X.2.1 hdg ht (fun _ => w p e R s m args below meth c ls X hr hk h1 h2 h0) (fun h => absurd hc h)
theorem jW.icmp_lt_f {a b : Int32} {off : Int} (tgt : Nat) (hdg : decode q.2.1 pc = .ok (.if_icmp .lt off, 3)) (ht : (pc : Int) + off = (tgt : Int)) (hc : ¬ (a < b)) (w : jW G base adK adV l q d r (pc + 3) lv S) : jW G base adK adV l q d r pc lv (.int b :: .int a :: S) := fun p e R s m args below meth c ls X hr hk h1 h2 h0 =>
  lv_icmp_lt X.1 X.2.1 hdg ht (fun h => absurd h hc) (fun _ => w p e R s m args below meth c ls X hr hk h1 h2 h0)
theorem jW.icmp_ge_t {a b : Int32} {off : Int} (tgt : Nat) (hdg : decode q.2.1 pc = .ok (.if_icmp .ge off, 3)) (ht : (pc : Int) + off = (tgt : Int)) (hc : a ≥ b) (w : jW G base adK adV l q d r tgt lv S) : jW G base adK adV l q d r pc lv (.int b :: .int a :: S) := fun p e R s m args below meth c ls X hr hk h1 h2 h0 =>
  lv_icmp_ge X.1 X.2.1 hdg ht (fun _ => w p e R s m args below meth c ls X hr hk h1 h2 h0) (fun h => absurd hc h)
theorem jW.icmp_ge_f {a b : Int32} {off : Int} (tgt : Nat) (hdg : decode q.2.1 pc = .ok (.if_icmp .ge off, 3)) (ht : (pc : Int) + off = (tgt : Int)) (hc : ¬ (a ≥ b)) (w : jW G base adK adV l q d r (pc + 3) lv S) : jW G base adK adV l q d r pc lv (.int b :: .int a :: S) := fun p e R s m args below meth c ls X hr hk h1 h2 h0 =>
  lv_icmp_ge X.1 X.2.1 hdg ht (fun h => absurd h hc) (fun _ => w p e R s m args below meth c ls X hr hk h1 h2 h0)
theorem jW.icmp_gt_t {a b : Int32} {off : Int} (tgt : Nat) (hdg : decode q.2.1 pc = .ok (.if_icmp .gt off, 3)) (ht : (pc : Int) + off = (tgt : Int)) (hc : a > b) (w : jW G base adK adV l q d r tgt lv S) : jW G base adK adV l q d r pc lv (.int b :: .int a :: S) := fun p e R s m args below meth c ls X hr hk h1 h2 h0 =>
  lv_icmp_gt X.1 X.2.1 hdg ht (fun _ => w p e R s m args below meth c ls X hr hk h1 h2 h0) (fun h => absurd hc h)
theorem jW.icmp_gt_f {a b : Int32} {off : Int} (tgt : Nat) (hdg : decode q.2.1 pc = .ok (.if_icmp .gt off, 3)) (ht : (pc : Int) + off = (tgt : Int)) (hc : ¬ (a > b)) (w : jW G base adK adV l q d r (pc + 3) lv S) : jW G base adK adV l q d r pc lv (.int b :: .int a :: S) := fun p e R s m args below meth c ls X hr hk h1 h2 h0 =>
  lv_icmp_gt X.1 X.2.1 hdg ht (fun h => absurd h hc) (fun _ => w p e R s m args below meth c ls X hr hk h1 h2 h0)
theorem jW.iret {v : Int32} (hret : q.2.2.2.1 = some .int) (hdg : decode q.2.1 pc = .ok (.ireturn, 1)) (hv : r = some (.int v)) : jW G base adK adV l q d r pc lv [.int v] := fun p e R s m args below meth c ls X hr hk h1 h2 h0 => by
  subst hv
  exact W.iret X.1 X.2.1 (hr.trans hret) (fun t ht hW => ⟨rfl, ht⟩) (fun _ h => by cases h) hdg hk
theorem jW.zret {v : Int32} (ty : FieldType) (hret : q.2.2.2.1 = some ty) (hn : narrow ty (.int v) = .int v) (hdg : decode q.2.1 pc = .ok (.ireturn, 1)) (hv : r = some (.int v)) : jW G base adK adV l q d r pc lv [.int v] := fun p e R s m args below meth c ls X hr hk h1 h2 h0 => by
  subst hv
  exact W.zret X.1 X.2.1 (hr.trans hret) hn (fun t ht hW => ⟨rfl, ht⟩) (fun _ h => by cases h) hdg hk
theorem jW.vret (hret : q.2.2.2.1 = none) (hdg : decode q.2.1 pc = .ok (.return_, 1)) (hv : r = none) : jW G base adK adV l q d r pc lv [] := fun p e R s m args below meth c ls X hr hk h1 h2 h0 => by
  subst hv
  exact W.vret X.1 X.2.1 (hr.trans hret) (fun t ht hW => ⟨rfl, ht⟩) (fun _ h => by cases h) hdg hk
end JH
