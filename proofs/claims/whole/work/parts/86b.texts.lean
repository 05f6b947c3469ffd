def jPc (G : List Jvm.Cond) (base : Nat) (adK adV : Nat → Nat) (a : List Value) : Array Value → State → Prop := fun v U => v = a.toArray ∧ jTF G base adK adV U U.heap
def jQc (r : Option Value) : Array Value → State → Outcome → State → Prop := fun _ st oc t => oc = .returned r ∧ t.heap = st.heap
theorem jPc.blind {G : List Jvm.Cond} {base : Nat} {adK adV : Nat → Nat} {a : List Value} : FrameBlind (jPc G base adK adV a) := by
  intro v U g mk q
  exact ⟨q.1, (j_TF G base adK adV).2.1 U _ _ rfl q.2⟩
/-- a text's method: with these arguments it answers so, and changes nothing -/
def jM (G : List Jvm.Cond) (base : Nat) (adK adV : Nat → Nat) (l : Launch) (q : ma_M) (d : Nat) (a : List Value) (r : Option Value) : Prop :=
  Met l q.1 (Jvm.Cond.code q.1 q.2.1 q.2.2.1 q.2.2.2.1 :: G.filter ma_gw) (ma_rm d 0 0) (jPc G base adK adV a) (jQc r) 0 0 (fun _ => False)
def jX (G : List Jvm.Cond) (base : Nat) (adK adV : Nat → Nat) (own : String) (cc : ByteArray) (nL : Nat) (p : Program) (s : State) (m : MethodId) (args : Array Value) (c : Code) : Prop :=
  p.tables.exec = Jvm.exec ∧ c.code = cc ∧ c.maxLocals = nL ∧ s.vm.findClass own = some m.cls ∧ (∀ w ∈ G, w.before args s = true) ∧ jTF G base adK adV s s.heap
def jW (G : List Jvm.Cond) (base : Nat) (adK adV : Nat → Nat) (l : Launch) (q : ma_M) (d : Nat) (r : Option Value) (pc : Nat) (lv : List (Nat × Value)) (S : List Value) : Prop :=
  ∀ (p : Program) (e : Env) (R : Room) (s : State) (m : MethodId) (args : Array Value) (below : List Frame) (meth : Method) (c : Code) (ls : Array Slot),
    jX G base adK adV q.1.cls q.2.1 q.2.2.1 p s m args c → meth.sig.returnType = q.2.2.2.1 → meth.locks = false → d + 1 ≤ R.frames → 100 * (d + 1) ≤ R.locals → lv_has ls q.2.2.1 lv →
    W p l e R s m args below meth c s.heap [] 0 0 (MQ below (jQc r) args s 0 0 (fun _ => False)) (F0 m pc ls S)
/-- the words of a call -/
def jc (G : List Jvm.Cond) (own : String) (x : Nat) (q : ma_M) (n : Nat) : Prop :=
  Jvm.Cond.methodLink own x q.1 ∈ G ∧ Jvm.Cond.initialized q.1.cls ∈ G ∧ Jvm.Cond.code q.1 q.2.1 q.2.2.1 q.2.2.2.1 ∈ G ∧ (q.1.cls ≠ "java/lang/invoke/MethodHandle" ∧ q.1.cls ≠ "java/lang/invoke/VarHandle" ∧ (parseMethodDescriptor q.1.desc).map (fun d => d.parameters.length) = some n) ∧ q.2.2.1 ≤ 80
def jcS (G : List Jvm.Cond) (q : ma_M) : Prop := Jvm.Cond.static q.1 ∈ G
def jcV (G : List Jvm.Cond) (q : ma_M) : Prop := q.1.cls = "java/lang/String" ∧ Jvm.Cond.instanceMethod q.1 ∈ G ∧ Jvm.Cond.selects q.1.cls q.1 q.1 ∈ G
section JG
variable {G : List Jvm.Cond} {base : Nat} {adK adV : Nat → Nat} {l : Launch} {q q1 : ma_M} {d d1 : Nat} {r r1 : Option Value} {pc x n : Nat} {lv : List (Nat × Value)} {S S' As rest : List Value}
variable {p : Program} {e : Env} {R : Room} {s : State} {m : MethodId} {args : Array Value} {below : List Frame} {meth : Method} {c : Code} {cc : ByteArray} {nL : Nat} {Q : State → Prop} {H : Heap} {locs : List Loc} {ls : Array Slot} {cells slots : Nat} {own : String}
theorem j_after {st0 : List Value} {av : Array Value} (hr : va_Run p l e R s m args below meth c H locs cells slots 0 0 (F0 m pc ls st0) rest (jQc r1 av) (fun _ => False)) (hS' : r1.toList ++ rest = S')
    (kk : W p l e R s m args below meth c H locs cells slots Q (F0 m (pc + 3) ls S')) : W p l e R s m args below meth c H locs cells slots Q (F0 m pc ls st0) := by
  intro T hT X
  obtain ⟨v, st₀, t, T', L, h0, X', hL, e1, e2, ⟨hv, hk⟩, st⟩ := hr T hT X
  cases hv
  have hL0 : L = [] := by
    cases L with
    | nil => rfl
    | cons a L => exact (hL a List.mem_cons_self).elim
  subst hL0
  subst hS'
  rw [List.append_nil] at X'
  obtain ⟨t2, a1, b1⟩ := kk T' (by rw [e1, hk, h0]) X'
  exact ⟨t2, st t2 a1, b1⟩
theorem j_gi (hin : Jvm.Cond.code q1.1 q1.2.1 q1.2.2.1 q1.2.2.2.1 ∈ G) : GoodIn G (Jvm.Cond.code q1.1 q1.2.1 q1.2.2.1 q1.2.2.2.1 :: G.filter ma_gw) := fun w hw => by
  rcases List.mem_cons.mp hw with rfl | hw
  · exact ⟨hin, Or.inl rfl⟩
  · exact ⟨(List.mem_filter.mp hw).1, ma_gw_ok (List.mem_filter.mp hw).2⟩
theorem j_goS (hfix : CallFix p m c cc nL s args G own) (hT : jTF G base adK adV s H) (hlz : ls.size = nL) (hM : jM G base adK adV l q1 d1 As r1) (hq : jc G own x q1 n) (hq2 : jcS G q1) (hf : d1 + 2 ≤ R.frames) (hlo : 100 * (d1 + 2) ≤ R.locals) (hce : cells ≤ R.cells) (hsl : slots ≤ R.slots)
    (hn : As.length = n) (hS : S = As.reverse ++ rest) (hsum : (rest.map fun v => v.category).sum ≤ 8) (hdg : decode cc pc = .ok (.invokestatic x, 3)) (hS' : r1.toList ++ rest = S')
    (kk : W p l e R s m args below meth c H locs cells slots Q (F0 m (pc + 3) ls S')) : W p l e R s m args below meth c H locs cells slots Q (F0 m pc ls S) := by
  obtain ⟨w1, w2, w3, w4, w5⟩ := hq
  have hts := hfix.2.2.2.2
  refine j_after (va_runS (As := As) (rest := rest) hfix hM ⟨callB_of n hts (j_gi w3) rfl rfl rfl (hts _ w2) (hts _ w1) w4 ⟨hf, ?_⟩, hts _ hq2⟩ ⟨jPc.blind, fun U hU hW => ⟨rfl, ?_⟩⟩ rfl hn hlz hS ?_ hdg ⟨hce, hsl⟩) hS' kk
  · show 8 + (q1.2.2.1 + 11) + 100 * (d1 + 1) ≤ R.locals
    omega
  · rw [hU]
    exact (j_TF G base adK adV).1 s U H hW hT
  · show 2 * 0 + _ ≤ 8
    omega
theorem j_goV {i : Nat} (hfix : CallFix p m c cc nL s args G own) (hT : jTF G base adK adV s H) (hlz : ls.size = nL) (hM : jM G base adK adV l q1 d1 (.ref (adK i) :: As) r1) (hi : i < 2) (hq : jc G own x q1 n) (hq2 : jcV G q1) (hf : d1 + 2 ≤ R.frames) (hlo : 100 * (d1 + 2) ≤ R.locals) (hce : cells ≤ R.cells) (hsl : slots ≤ R.slots)
    (hn : As.length = n) (hS : S = As.reverse ++ .ref (adK i) :: rest) (hsum : (rest.map fun v => v.category).sum ≤ 8) (hdg : decode cc pc = .ok (.invokevirtual x, 3)) (hS' : r1.toList ++ rest = S')
    (kk : W p l e R s m args below meth c H locs cells slots Q (F0 m (pc + 3) ls S')) : W p l e R s m args below meth c H locs cells slots Q (F0 m pc ls S) := by
  obtain ⟨w1, w2, w3, w4, w5⟩ := hq
  have hts := hfix.2.2.2.2
  obtain ⟨cell, g1, g2, g3, -⟩ := (hT.1.1 i hi).1
  refine j_after (va_runV (As := As) (rest := rest) (C := q1.1.cls) (b := adK i) hfix hM ⟨callB_of n hts (j_gi w3) rfl rfl rfl (hts _ w2) (hts _ w1) w4 ⟨hf, ?_⟩, hts _ hq2.2.1, hts _ hq2.2.2⟩ ⟨jPc.blind, ⟨cell, g1, g2, by rw [hq2.1]; exact g3⟩, fun U hU hW => ⟨rfl, ?_⟩⟩ rfl hn hlz hS ?_ hdg ⟨hce, hsl⟩) hS' kk
  · show 8 + (q1.2.2.1 + 11) + 100 * (d1 + 1) ≤ R.locals
    omega
  · rw [hU]
    exact (j_TF G base adK adV).1 s U H hW hT
  · show 2 * 0 + _ ≤ 8
    omega
theorem jM.of {a : List Value} (hgood : ∀ w ∈ G, ma_gw w = true ∨ pm_nw w = true) (hpl : plainFor q.1 = true) (hlen : (lg_sl a).length ≤ q.2.2.1) (w : jW G base adK adV l q d r 0 (lv_args 0 a) []) : jM G base adK adV l q d a r := by
  refine va_MetF (cc := q.2.1) (maxL := q.2.2.1) (ret := q.2.2.2.1) hpl rfl ?_
  intro p e s m args below meth c s₁ B hml hv
  obtain ⟨rfl, hT⟩ := hv
  have hts0 := atoms_spec (ws := Jvm.Cond.code q.1 q.2.1 q.2.2.1 q.2.2.2.1 :: G.filter ma_gw) B.pre
  rw [lg_entry_eq]
  exact w p e _ s m _ below meth c _ ⟨B.exec, B.bytes, hml, findClass_of_methodNamed B.named, fun w hw => (hgood w hw).elim (fun z => hts0 w (List.mem_cons_of_mem _ (List.mem_filter.mpr ⟨hw, z⟩))) (fun z => j_nw_same z rfl (hT.2.2.2.2.2 w hw z)), hT⟩ B.returns B.notSynchronized (Nat.le_refl _) (Nat.le_refl _) (lv_entry a hlen)
end JG
