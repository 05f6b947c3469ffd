/-! ===== calls: contracts made of runs ===== -/
/-- a method of the table: its name, its bytes, its locals, what it gives back, whether it has no receiver -/
abbrev ma_M : Type := MethodName × ByteArray × Nat × Option FieldType × Bool
def ma_Pc (D : va_G) (cl : List vw_C) (ad : Nat → Nat) (base : Nat) (sc : Nat × (Nat → Int32)) (TF : State → Heap → Prop) (a : List Value) (h : List ma_C) : Array Value → State → Prop := fun v U =>
  v = (a.map (ma_va ad)).toArray ∧ ma_H D cl ad base U U.heap h ∧ (∀ (ci : Nat) (q : vw_C), cl[ci]? = some q → u_Kn U q.1 q.2.1 q.2.2 (D.1 ci) (D.2 ci)) ∧ va_X (ad 4096) sc.1 sc.2 U U.heap ∧ TF U U.heap
def ma_Qc (D : va_G) (cl : List vw_C) (ad : Nat → Nat) (base : Nat) (r : Option Value) (h : List ma_C) : Array Value → State → Outcome → State → Prop := fun _ st oc t =>
  oc = .returned (r.map (ma_va ad)) ∧ ma_H D cl ad base t t.heap h ∧ ∀ q : Nat, q < base → t.heap[q]? = st.heap[q]?
/-- what is asked of the old things: they stay when the tables grow warm, and when only new cells change -/
def ma_TF (base : Nat) (TF : State → Heap → Prop) : Prop :=
  (∀ (u U : State) (H : Heap), u.WarmedH U.vm → TF u H → TF U H) ∧ (∀ (u U : State) (H : Heap), u.vm = U.vm → TF u H → TF U H) ∧ ∀ (U : State) (H H1 : Heap), (∀ q : Nat, q < base → H1[q]? = H[q]?) → TF U H → TF U H1
section MC
variable {D : va_G} {cl : List vw_C} {ks : Nat → List Nat} {ad : Nat → Nat} {base : Nat} {G : List Jvm.Cond} {own : String} {ini : Bool} {p : Program} {l : Launch} {e : Env} {R : Room} {s : State} {m : MethodId} {args : Array Value} {below : List Frame} {meth : Method} {c : Code} {cc : ByteArray} {nL pc : Nat} {Q : State → Prop} {sc : Nat × (Nat → Int32)} {o : List Nat} {L : ma_L} {S S' : List Value} {h h' : List ma_C} {cells slots : Nat} {TF : State → Heap → Prop}
theorem ma_after {H : Heap} {locs : List Loc} {ls : Array Slot} {st0 rest : List Value} {av : Array Value} {r : Option Value} {mc ms : Nat} (hr : va_Run p l e R s m args below meth c H locs cells slots mc ms (F0 m pc ls st0) rest (ma_Qc D cl ad base r h' av) (fun q => base ≤ q)) (hF : ma_F base s H locs)
    (kk : ∀ (H1 : Heap) (locs1 : List Loc), ma_H D cl ad base s H1 h' → ma_F base s H1 locs1 → W p l e R s m args below meth c H1 locs1 (cells + mc) (slots + ms) Q (F0 m (pc + 3) ls ((r.map (ma_va ad)).toList ++ rest))) : W p l e R s m args below meth c H locs cells slots Q (F0 m pc ls st0) := by
  intro T hT X
  obtain ⟨v, st₀, t, T', L, h0, X', hL, e1, e2, ⟨hv, hH1, hk⟩, st⟩ := hr T hT X
  cases hv
  have hvm : t.vm.Alike s.vm := by rw [← e2]; exact X'.warmed.alike.symm
  rw [h0] at hk
  obtain ⟨t2, a1, b1⟩ := kk T'.heap (locs ++ L) (by rw [e1]; exact hH1.moved hvm) ⟨fun q hq => by rw [e1, hk q hq]; exact hF.1 q hq, fun q hq => by
      rcases List.mem_append.mp hq with z | z
      · exact hF.2 q z
      · exact hL q z⟩ T' rfl X'
  exact ⟨t2, st t2 a1, b1⟩
theorem ma_Pc.blind (hTF : ma_TF base TF) {a : List Value} : FrameBlind (ma_Pc D cl ad base sc TF a h) := by
  intro v U g mk q
  obtain ⟨q1, q2, q3, q4, q5⟩ := q
  exact ⟨q1, q2.moved (Vm.Alike.refl U.vm), fun ci z hz => u_Kn_moved (Vm.Alike.refl U.vm) (q3 ci z hz), q4.moved (Vm.Alike.refl U.vm), hTF.2.1 U _ _ rfl q5⟩
theorem ma_pre (hTF : ma_TF base TF) (X : ma_X D cl ks ad base sc G own ini p s m args meth c cc nL) (hT : TF s s.heap) {H : Heap} {locs : List Loc} (hH : ma_H D cl ad base s H h) (hF : ma_F base s H locs) (a : List Value) : PreS s H (ma_Pc D cl ad base sc TF a h) (a.map (ma_va ad)) := by
  obtain ⟨hx, hb, hml, hown, hts, hkn, had, hini, hcls, hsx, hsb⟩ := X
  refine ⟨ma_Pc.blind hTF, fun U hU hW => ⟨rfl, by rw [hU]; exact hH.moved hW.alike, fun ci z hz => u_Kn_moved hW.alike (hkn ci z hz), ?_, ?_⟩⟩
  · rw [hU]
    exact (hsx.kept (hF.1 _ hsb)).moved hW.alike
  · rw [hU]
    exact hTF.1 s U H hW (hTF.2.2 s _ _ hF.1 hT)
def ma_ml (mt : Nat → Option ma_M) (G : List Jvm.Cond) (cl : List vw_C) (own : String) (i : Instr) (o : List Nat) : Prop :=
  match i, o with
  | .invokevirtual x, [0, m', n, ci] => ∃ y bytes maxL ret, mt m' = some (y, bytes, maxL, ret, false) ∧ (Jvm.Cond.methodLink own x y ∈ G ∨ ∃ host, Jvm.Cond.methodLinkNest own x y host ∈ G) ∧ Jvm.Cond.instanceMethod y ∈ G ∧ Jvm.Cond.selects y.cls y y ∈ G ∧ Jvm.Cond.initialized y.cls ∈ G ∧ Jvm.Cond.code y bytes maxL ret ∈ G ∧
      (y.cls ≠ "java/lang/invoke/MethodHandle" ∧ y.cls ≠ "java/lang/invoke/VarHandle") ∧ (parseMethodDescriptor y.desc).map (fun d => d.parameters.length) = some (n - 1) ∧ 0 < n ∧ ∃ T N, cl[ci]? = some (y.cls, T, N)
  | .invokespecial x, [0, m', n, _] => ∃ y bytes maxL, mt m' = some (y, bytes, maxL, none, false) ∧ y.name = "<init>" ∧ (Jvm.Cond.methodLink own x y ∈ G ∨ ∃ host, Jvm.Cond.methodLinkNest own x y host ∈ G) ∧ Jvm.Cond.instanceMethod y ∈ G ∧ Jvm.Cond.initialized y.cls ∈ G ∧ Jvm.Cond.code y bytes maxL none ∈ G ∧
      (y.cls ≠ "java/lang/invoke/MethodHandle" ∧ y.cls ≠ "java/lang/invoke/VarHandle") ∧ (parseMethodDescriptor y.desc).map (fun d => d.parameters.length) = some (n - 1) ∧ 0 < n
  | .invokestatic x, [0, m', n] => ∃ y bytes maxL ret, mt m' = some (y, bytes, maxL, ret, true) ∧ (Jvm.Cond.methodLink own x y ∈ G ∨ ∃ host, Jvm.Cond.methodLinkNest own x y host ∈ G) ∧ Jvm.Cond.static y ∈ G ∧ Jvm.Cond.initialized y.cls ∈ G ∧ Jvm.Cond.code y bytes maxL ret ∈ G ∧
      (y.cls ≠ "java/lang/invoke/MethodHandle" ∧ y.cls ≠ "java/lang/invoke/VarHandle") ∧ (parseMethodDescriptor y.desc).map (fun d => d.parameters.length) = some n
  | _, _ => False
theorem ma_a_some {n : Nat} {a S2 : List Value} (h : ma_a n S = some (a, S2)) : S = a.reverse ++ S2 ∧ a.length = n ∧ (S2.map fun v => v.category).sum ≤ 8 := by
  unfold ma_a at h
  split at h
  next => cases h
  next hz =>
    cases h
    refine ⟨by rw [List.reverse_reverse, List.take_append_drop], ?_, Nat.le_of_not_lt fun q => hz (Or.inr q)⟩
    rw [List.length_reverse, List.length_take]
    have : ¬ S.length < n := fun q => hz (Or.inl q)
    omega
theorem ma_cr_some {m' ci m2 : Nat} {q : Option (List Value × List Value)} {a S2 : List Value} (hc : ma_cr m' ci q h = some (m2, a, S2)) : m2 = m' ∧ ∃ k a2 fs, a = .ref k :: a2 ∧ q = some (a, S2) ∧ h[k]? = some (.inr (ci, fs)) := by
  unfold ma_cr at hc
  split at hc
  next k a2 S3 =>
    split at hc
    next c2 fs hk =>
      split at hc
      next he => cases hc; subst he; exact ⟨rfl, k, a2, fs, rfl, rfl, hk⟩
      next => cases hc
    next => cases hc
  next => cases hc
theorem ma_drop {n : Nat} (h : ¬ S.length < n) : S = ((S.take n).reverse).reverse ++ S.drop n := by rw [List.reverse_reverse, List.take_append_drop]
/-- the words that a callee's contract may name; the others (links within a nest, arrays over a class) travel with the old things -/
def ma_gw (w : Jvm.Cond) : Bool := (w.onTables && w.keeps) || (match w with
  | .arrayClass _ => true
  | _ => false)
theorem ma_gw_ok {w : Jvm.Cond} (h : ma_gw w = true) : (w.onTables && w.keeps) = true ∨ ∃ ty, w = Jvm.Cond.arrayClass ty := by
  unfold ma_gw at h
  rw [Bool.or_eq_true] at h
  rcases h with h | h
  · exact Or.inl h
  · right
    split at h
    · exact ⟨_, rfl⟩
    · cases h
theorem ma_o_call {mt : Nat → Option ma_M} {i : Instr} {m' : Nat} {a S2 : List Value} {r : Option Value} {mc ms : Nat} {rm : Room} (hTF : ma_TF base TF) (X : ma_X D cl ks ad base sc G own ini p s m args meth c cc nL) (hT : TF s s.heap) (hdg : decode cc pc = .ok (i, ma_ln pc i)) (hlk : ma_ml mt G cl own i o) (hc : ma_c i o S h = some (m', a, S2))
    (hM : ∀ y bytes maxL ret st, mt m' = some (y, bytes, maxL, ret, st) → Met l y (Jvm.Cond.code y bytes maxL ret :: G.filter ma_gw) rm (ma_Pc D cl ad base sc TF a h) (ma_Qc D cl ad base r h') mc ms (fun q => base ≤ q) ∧ rm.cells = mc ∧ rm.slots = ms ∧ rm.frames + 1 ≤ R.frames ∧ 8 + (maxL + 11) + rm.locals ≤ R.locals)
    (hce : cells + mc ≤ R.cells) (hsl : slots + ms ≤ R.slots) (k : ma_G D cl ad base p l e R s m args below meth c Q nL (pc + 3) L (r.toList ++ S2) h' (cells + mc) (slots + ms)) : ma_G D cl ad base p l e R s m args below meth c Q nL pc L S h cells slots := by
  intro H locs ls hH hF hl hn
  have hpre := ma_pre hTF X hT hH hF a
  obtain ⟨hx, hb, hml, hown, hts, hkn, had, hini, hcls, hsx, hsb⟩ := X
  have hfix : CallFix p m c cc nL s args G own := ⟨hx, hb, hml, hown, hts⟩
  have hgi : ∀ y bytes maxL ret, Jvm.Cond.code y bytes maxL ret ∈ G → GoodIn G (Jvm.Cond.code y bytes maxL ret :: G.filter ma_gw) := fun y bytes maxL ret hin w hw => by
    rcases List.mem_cons.mp hw with rfl | hw
    · exact ⟨hin, Or.inl rfl⟩
    · exact ⟨(List.mem_filter.mp hw).1, ma_gw_ok (List.mem_filter.mp hw).2⟩
  have hend : ∀ (H1 : Heap) (locs1 : List Loc), ma_H D cl ad base s H1 h' → ma_F base s H1 locs1 → W p l e R s m args below meth c H1 locs1 (cells + mc) (slots + ms) Q (F0 m (pc + 3) ls ((r.map (ma_va ad)).toList ++ S2.map (ma_va ad))) := by
    intro H1 locs1 hH1 hF1
    have := k H1 locs1 ls hH1 hF1 hl hn
    rw [List.map_append] at this
    cases r <;> exact this
  have hsumOf : ∀ S3 : List Value, (S3.map fun v => v.category).sum ≤ 8 → 2 * (F0 m pc ls (S.map (ma_va ad))).monitorRoom + ((S3.map (ma_va ad)).map fun v => v.category).sum ≤ 8 := by
    intro S3 h3
    rw [List.map_map, show ((fun v => Value.category v) ∘ ma_va ad) = (fun v => v.category) from funext fun v => ma_va_cat ad v]
    show 2 * 0 + _ ≤ 8
    omega
  unfold ma_c at hc
  split at hc
  · rename_i x m2 n ci
    obtain ⟨y, bytes, maxL, ret, hmt, hlnk, w1, w2, w3, w4, hno, hpd, hn0, T, N, hci⟩ := hlk
    obtain ⟨rfl, kk, a2, fs, rfl, hq, hk⟩ := ma_cr_some hc
    obtain ⟨hS, hlen, hsum⟩ := ma_a_some hq
    obtain ⟨hMet, hrc, hrs, hfr, hlo⟩ := hM _ _ _ _ _ hmt
    have hst : S.map (ma_va ad) = (a2.map (ma_va ad)).reverse ++ .ref (ad kk) :: S2.map (ma_va ad) := by
      rw [hS]
      simp [ma_va]
    have hlen : (a2.map (ma_va ad)).length = n - 1 := by
      rw [List.length_map]
      simp only [List.length_cons] at hlen
      omega
    obtain ⟨r', hr', -, cell, q1, q2, q3, -⟩ := hH.2.2 _ _ hk
    have hcell : ∃ cellB : Cell, H[ad kk]? = some cellB ∧ cellB.vm.isStatics = false ∧ s.vm.findClass y.cls = some cellB.cls := ⟨cell, by rw [hH.adr had hk]; exact q1, by rw [q3]; rfl, by rw [q2]; exact (hkn _ _ hci).2.1⟩
    rcases hlnk with hlnk | ⟨host, hlnk⟩
    · exact ma_after (va_runV (As := a2.map (ma_va ad)) (rest := S2.map (ma_va ad)) (C := y.cls) (b := ad kk) hfix hMet ⟨callB_of (n - 1) hts (hgi _ _ _ _ w4) rfl hrc hrs (hts _ w3) (hts _ hlnk) ⟨hno.1, hno.2, hpd⟩ ⟨hfr, hlo⟩, hts _ w1, hts _ w2⟩ ⟨hpre.1, hcell, hpre.2⟩ rfl hlen hl.1 hst (hsumOf _ hsum) hdg ⟨hce, hsl⟩) hF hend
    · exact ma_after (va_runVN (As := a2.map (ma_va ad)) (rest := S2.map (ma_va ad)) (C := y.cls) (b := ad kk) hfix hMet ⟨va_cnB (n - 1) hts (hgi _ _ _ _ w4) rfl hrc hrs (va_Nw.of rfl (hts _ hlnk)) (hts _ w3) ⟨hno.1, hno.2, hpd⟩ ⟨hfr, hlo⟩, hts _ w1, hts _ w2⟩ ⟨hpre.1, hcell, hpre.2⟩ rfl hlen hl.1 hst (hsumOf _ hsum) hdg ⟨hce, hsl⟩) hF hend
  · rename_i x m2 n ci
    obtain ⟨y, bytes, maxL, hmt, hnm, hlnk, w1, w3, w4, hno, hpd, hn0⟩ := hlk
    obtain ⟨rfl, kk, a2, fs, rfl, hq, hk⟩ := ma_cr_some hc
    obtain ⟨hS, hlen, hsum⟩ := ma_a_some hq
    obtain ⟨hMet, hrc, hrs, hfr, hlo⟩ := hM _ _ _ _ _ hmt
    have hst : S.map (ma_va ad) = (a2.map (ma_va ad)).reverse ++ .ref (ad kk) :: S2.map (ma_va ad) := by
      rw [hS]
      simp [ma_va]
    have hlen : (a2.map (ma_va ad)).length = n - 1 := by
      rw [List.length_map]
      simp only [List.length_cons] at hlen
      omega
    rcases hlnk with hlnk | ⟨host, hlnk⟩
    · exact ma_after (va_runI (As := a2.map (ma_va ad)) (rest := S2.map (ma_va ad)) (b := ad kk) hfix hMet ⟨callB_of (n - 1) hts (hgi _ _ _ _ w4) rfl hrc hrs (hts _ w3) (hts _ hlnk) ⟨hno.1, hno.2, hpd⟩ ⟨hfr, hlo⟩, hnm, hts _ w1⟩ hpre rfl hlen hl.1 hst (hsumOf _ hsum) hdg ⟨hce, hsl⟩) hF hend
    · exact ma_after (va_runIN (As := a2.map (ma_va ad)) (rest := S2.map (ma_va ad)) (b := ad kk) hfix hMet ⟨va_cnB (n - 1) hts (hgi _ _ _ _ w4) rfl hrc hrs (va_Nw.of rfl (hts _ hlnk)) (hts _ w3) ⟨hno.1, hno.2, hpd⟩ ⟨hfr, hlo⟩, hnm, hts _ w1⟩ hpre rfl hlen hl.1 hst (hsumOf _ hsum) hdg ⟨hce, hsl⟩) hF hend
  · rename_i x m2 n
    obtain ⟨y, bytes, maxL, ret, hmt, hlnk, w1, w3, w4, hno, hpd⟩ := hlk
    split at hc
    next a3 S3 hq =>
      cases hc
      obtain ⟨hS, hlen, hsum⟩ := ma_a_some hq
      obtain ⟨hMet, hrc, hrs, hfr, hlo⟩ := hM _ _ _ _ _ hmt
      have hst : S.map (ma_va ad) = (a.map (ma_va ad)).reverse ++ S2.map (ma_va ad) := by
        rw [hS]
        simp
      have hlen : (a.map (ma_va ad)).length = n := by rw [List.length_map]; exact hlen
      rcases hlnk with hlnk | ⟨host, hlnk⟩
      · exact ma_after (va_runS (As := a.map (ma_va ad)) (rest := S2.map (ma_va ad)) hfix hMet ⟨callB_of n hts (hgi _ _ _ _ w4) rfl hrc hrs (hts _ w3) (hts _ hlnk) ⟨hno.1, hno.2, hpd⟩ ⟨hfr, hlo⟩, hts _ w1⟩ hpre rfl hlen hl.1 hst (hsumOf _ hsum) hdg ⟨hce, hsl⟩) hF hend
      · exact ma_after (va_runSN (As := a.map (ma_va ad)) (rest := S2.map (ma_va ad)) hfix hMet ⟨va_cnB n hts (hgi _ _ _ _ w4) rfl hrc hrs (va_Nw.of rfl (hts _ hlnk)) (hts _ w3) ⟨hno.1, hno.2, hpd⟩ ⟨hfr, hlo⟩, hts _ w1, trivial⟩ hpre rfl hlen hl.1 hst (hsumOf _ hsum) hdg ⟨hce, hsl⟩) hF hend
    next => cases hc
  · cases hc
end MC
