/-! ===== How the machine's lists stand for the true heap ===== -/
def ma_va (ad : Nat → Nat) : Value → Value
  | .ref k => .ref (ad k)
  | v => v
def ma_ac (ad : Nat → Nat) (x : vp_A) : vp_A := (x.1, match x.2 with
  | .inr (.inr (.inr (.inr f))) => .inr (.inr (.inr (.inr (fun j => (f j).map ad))))
  | y => y)
def ma_at (D : va_G) (cl : List vw_C) (ad : Nat → Nat) (s : State) (H : Heap) (a : Nat) (c : ma_C) : Prop := match c with
  | .inl q => ∃ cA : ClassId, ArrOfT s cA (ma_ty q.1) ∧ (q.1 = 3 → va_RA s cA (ma_ty 3)) ∧ H[a]? = some (vp_cell cA (ma_ac ad q.2))
  | .inr q => ∃ r : vw_C, cl[q.1]? = some r ∧ q.2.length = r.2.2 ∧ t_OB a (D.1 q.1) r.2.2 (D.2 q.1) H (vp_V (q.2.map (ma_va ad)))
def ma_H (D : va_G) (cl : List vw_C) (ad : Nat → Nat) (base : Nat) (s : State) (H : Heap) (h : List ma_C) : Prop :=
  H.size = base + h.length ∧ h.length ≤ 4096 ∧ ∀ (k : Nat) (c : ma_C), h[k]? = some c → ma_at D cl ad s H (base + k) c
def ma_F (base : Nat) (s : State) (H : Heap) (locs : List Loc) : Prop := (∀ q : Nat, q < base → H[q]? = s.heap[q]?) ∧ ∀ l ∈ locs, base ≤ l.base
theorem ma_va_cat (ad : Nat → Nat) (v : Value) : (ma_va ad v).category = v.category := by cases v <;> rfl
theorem ma_at.kept {D : va_G} {cl : List vw_C} {ad : Nat → Nat} {s : State} {H H1 : Heap} {a : Nat} {c : ma_C} (h : ma_at D cl ad s H a c) (e : H1[a]? = H[a]?) : ma_at D cl ad s H1 a c := by
  cases c with
  | inl q =>
    obtain ⟨cA, h1, h2, h3⟩ := h
    exact ⟨cA, h1, h2, e.trans h3⟩
  | inr q =>
    obtain ⟨r, h1, h2, h3⟩ := h
    exact ⟨r, h1, h2, h3.kept e⟩
theorem ma_at.moved {D : va_G} {cl : List vw_C} {ad : Nat → Nat} {u U : State} {H : Heap} {a : Nat} {c : ma_C} (hvm : u.vm.Alike U.vm) (h : ma_at D cl ad u H a c) : ma_at D cl ad U H a c := by
  cases c with
  | inl q =>
    obtain ⟨cA, h1, h2, h3⟩ := h
    exact ⟨cA, arrOfT_moved hvm h1, fun z => (h2 z).moved hvm, h3⟩
  | inr q => exact h
theorem ma_H.moved {D : va_G} {cl : List vw_C} {ad : Nat → Nat} {base : Nat} {u U : State} {H : Heap} {h : List ma_C} (hvm : u.vm.Alike U.vm) (hh : ma_H D cl ad base u H h) : ma_H D cl ad base U H h :=
  ⟨hh.1, hh.2.1, fun k c hk => (hh.2.2 k c hk).moved hvm⟩
theorem ma_H.set {D : va_G} {cl : List vw_C} {ad : Nat → Nat} {base : Nat} {s : State} {H H1 : Heap} {h : List ma_C} {k : Nat} {c : ma_C} (hh : ma_H D cl ad base s H h) (e1 : H1.size = H.size) (e2 : ∀ q, q ≠ base + k → H1[q]? = H[q]?) (e3 : ma_at D cl ad s H1 (base + k) c) : ma_H D cl ad base s H1 (h.set k c) := by
  refine ⟨by rw [e1, hh.1, List.length_set], by rw [List.length_set]; exact hh.2.1, fun j x hj => ?_⟩
  rw [List.getElem?_set] at hj
  split at hj
  next hkj =>
    subst hkj
    split at hj
    next => cases hj; exact e3
    next => cases hj
  next hkj => exact (hh.2.2 j x hj).kept (e2 _ (by omega))
theorem ma_H.push {D : va_G} {cl : List vw_C} {ad : Nat → Nat} {base : Nat} {s : State} {H H1 : Heap} {h : List ma_C} {c : ma_C} (hh : ma_H D cl ad base s H h) (hl : ¬ 4095 < h.length) (e1 : H1.size = H.size + 1) (e2 : ∀ q, q < H.size → H1[q]? = H[q]?) (e3 : ma_at D cl ad s H1 H.size c) : ma_H D cl ad base s H1 (h ++ [c]) := by
  refine ⟨by rw [e1, hh.1, List.length_append, List.length_singleton]; omega, by rw [List.length_append, List.length_singleton]; omega, fun j x hj => ?_⟩
  by_cases hjl : j < h.length
  · rw [List.getElem?_append_left hjl] at hj
    exact (hh.2.2 j x hj).kept (e2 _ (by rw [hh.1]; omega))
  · rw [List.getElem?_append_right (by omega)] at hj
    have h0 : j - h.length < 1 := (List.getElem?_eq_some_iff.mp hj).1
    have hz : j = h.length := by omega
    subst hz
    simp only [Nat.sub_self, List.getElem?_cons_zero, Option.some.injEq] at hj
    subst hj
    rw [← hh.1]
    exact e3
theorem ma_F.put {base : Nat} {s : State} {H H1 : Heap} {locs : List Loc} {a i : Nat} (hF : ma_F base s H locs) (ha : base ≤ a) (e2 : ∀ q, q ≠ a → H1[q]? = H[q]?) : ma_F base s H1 (locs ++ [⟨a, i⟩]) := by
  refine ⟨fun q hq => (e2 q (by omega)).trans (hF.1 q hq), fun l hl => ?_⟩
  rcases List.mem_append.mp hl with h | h
  · exact hF.2 l h
  · rw [List.mem_singleton] at h
    subst h
    exact ha
theorem ma_F.push {base : Nat} {s : State} {H H1 : Heap} {locs : List Loc} (hF : ma_F base s H locs) (hb : base ≤ H.size) (e2 : ∀ q, q < H.size → H1[q]? = H[q]?) : ma_F base s H1 locs :=
  ⟨fun q hq => (e2 q (by omega)).trans (hF.1 q hq), hF.2⟩
/-! the locals -/
def ma_lvo (ad : Nat → Nat) (L : ma_L) (i : Nat) : Option (Nat × Value) := match L[i]? with
  | some (some v) => if v.category = 1 ∨ L[i + 1]? = some none then some (i, ma_va ad v) else none
  | _ => none
def ma_lv (ad : Nat → Nat) (L : ma_L) : List (Nat × Value) := (List.range L.length).filterMap (ma_lvo ad L)
theorem ma_lv_mem {ad : Nat → Nat} {L : ma_L} {q : Nat × Value} : q ∈ ma_lv ad L ↔ ∃ v, L[q.1]? = some (some v) ∧ (v.category = 1 ∨ L[q.1 + 1]? = some none) ∧ q.2 = ma_va ad v := by
  unfold ma_lv
  rw [List.mem_filterMap]
  constructor
  · rintro ⟨i, -, hi⟩
    unfold ma_lvo at hi
    split at hi
    next v hv =>
      split at hi
      next hc => cases hi; exact ⟨v, hv, hc, rfl⟩
      next => cases hi
    next => cases hi
  · rintro ⟨v, h1, h2, h3⟩
    refine ⟨q.1, List.mem_range.mpr (List.getElem?_eq_some_iff.mp h1).1, ?_⟩
    unfold ma_lvo
    rw [h1]
    simp only [if_pos h2, ← h3]
theorem ma_ld_some {L : ma_L} {k : Nat} {v : Value} (h : ma_ld L k = some v) : L[k]? = some (some v) := by
  unfold ma_ld at h
  split at h
  next w hw => cases h; exact hw
  next => cases h
theorem ma_lv_get {ad : Nat → Nat} {L : ma_L} {ls : Array Slot} {nL k : Nat} {v : Value} (hl : lv_has ls nL (ma_lv ad L)) (h : ma_ld L k = some v) (hc : v.category = 1 ∨ L[k + 1]? = some none) : ls[k]? = some (.val (ma_va ad v)) :=
  hl.2.2 (k, ma_va ad v) (ma_lv_mem.mpr ⟨v, ma_ld_some h, hc, rfl⟩)
theorem ma_lv_set {ad : Nat → Nat} {L : ma_L} {ls : Array Slot} {nL k : Nat} {v : Value} (hc : v.category = 1) (hl : lv_has ls nL ((k, ma_va ad v) :: (ma_lv ad L).filter (fun q => !(q.1 == k) && !(q.1 + 1 == k && q.2.category == 2)))) : lv_has ls nL (ma_lv ad (L.set k (some v))) := by
  refine ⟨hl.1, hl.2.1, fun q hq => hl.2.2 q ?_⟩
  obtain ⟨w, h1, h2, h3⟩ := ma_lv_mem.mp hq
  by_cases hk : q.1 = k
  · refine List.mem_cons.mpr (Or.inl ?_)
    rw [hk, List.getElem?_set_self' ] at h1
    obtain ⟨a, b⟩ := q
    simp only at hk h3
    cases hL : L[k]? with
    | none => rw [hL] at h1; cases h1
    | some z =>
      rw [hL] at h1
      simp at h1
      rw [hk, h3, ← h1]
  · refine List.mem_cons.mpr (Or.inr (List.mem_filter.mpr ⟨ma_lv_mem.mpr ⟨w, ?_, ?_, h3⟩, ?_⟩))
    · rwa [List.getElem?_set_ne (Ne.symm hk)] at h1
    · rcases h2 with h2 | h2
      · exact Or.inl h2
      · by_cases hk1 : q.1 + 1 = k
        · exfalso
          rw [hk1, List.getElem?_set_self'] at h2
          cases hL : L[k]? with
          | none => rw [hL] at h2; cases h2
          | some z => rw [hL] at h2; simp at h2
        · rw [List.getElem?_set_ne (Ne.symm hk1)] at h2
          exact Or.inr h2
    · rw [h3, ma_va_cat]
      rcases h2 with h2 | h2
      · simp [hk, h2]
      · have hk1 : ¬ q.1 + 1 = k := by
          intro hk1
          rw [hk1, List.getElem?_set_self'] at h2
          cases hL : L[k]? with
          | none => rw [hL] at h2; cases h2
          | some z => rw [hL] at h2; simp at h2
        simp [hk, hk1]
theorem ma_lv_set2 {ad : Nat → Nat} {L : ma_L} {ls : Array Slot} {nL k : Nat} {x : Int64} (hl : lv_has ls nL ((k, Value.long x) :: (ma_lv ad L).filter (fun q => !(q.1 == k) && (!(q.1 == k + 1) && !(q.1 + 1 == k && q.2.category == 2))))) : lv_has ls nL (ma_lv ad ((L.set k (some (.long x))).set (k + 1) none)) := by
  refine ⟨hl.1, hl.2.1, fun q hq => hl.2.2 q ?_⟩
  obtain ⟨w, h1, h2, h3⟩ := ma_lv_mem.mp hq
  have hk1 : ¬ q.1 = k + 1 := by
    intro hk1
    rw [hk1, List.getElem?_set_self'] at h1
    cases hL : (L.set k (some (Value.long x)))[k + 1]? with
    | none => rw [hL] at h1; cases h1
    | some z => rw [hL] at h1; simp at h1
  rw [List.getElem?_set_ne (Ne.symm hk1)] at h1
  by_cases hk : q.1 = k
  · refine List.mem_cons.mpr (Or.inl ?_)
    rw [hk, List.getElem?_set_self'] at h1
    obtain ⟨a, b⟩ := q
    simp only at hk h3
    cases hL : L[k]? with
    | none => rw [hL] at h1; cases h1
    | some z =>
      rw [hL] at h1
      simp at h1
      rw [hk, h3, ← h1]
      rfl
  · refine List.mem_cons.mpr (Or.inr (List.mem_filter.mpr ⟨ma_lv_mem.mpr ⟨w, ?_, ?_, h3⟩, ?_⟩))
    · rwa [List.getElem?_set_ne (Ne.symm hk)] at h1
    · rcases h2 with h2 | h2
      · exact Or.inl h2
      · by_cases hk2 : q.1 + 1 = k
        · exfalso
          rw [List.getElem?_set_ne (by omega), hk2, List.getElem?_set_self'] at h2
          cases hL : L[k]? with
          | none => rw [hL] at h2; cases h2
          | some z => rw [hL] at h2; simp at h2
        · rw [List.getElem?_set_ne (by omega), List.getElem?_set_ne (Ne.symm hk2)] at h2
          exact Or.inr h2
    · rw [h3, ma_va_cat]
      rcases h2 with h2 | h2
      · simp [hk, hk1, h2]
      · have hk2 : ¬ q.1 + 1 = k := by
          intro hk2
          rw [List.getElem?_set_ne (by omega), hk2, List.getElem?_set_self'] at h2
          cases hL : L[k]? with
          | none => rw [hL] at h2; cases h2
          | some z => rw [hL] at h2; simp at h2
        simp [hk, hk1, hk2]
/-! what stays the same in a method's walk -/
def ma_kt : Nat → FieldType → Bool
  | 0, .int => true
  | 1, .boolean => true
  | 2, .object _ => true
  | 2, .array _ => true
  | _, _ => false
theorem ma_kt_fit {t : Nat} {ty : FieldType} {v : Value} {ad : Nat → Nat} (h : ma_kt t ty = true) (hv : ma_fit t v = true) : narrow ty (ma_va ad v) = ma_va ad v ∧ fits ty (ma_va ad v) = true := by
  unfold ma_kt at h
  split at h
  · cases v <;> first | (simp [ma_fit] at hv; done) | exact ⟨rfl, rfl⟩
  · cases v with
    | int x =>
      simp only [ma_fit, Bool.or_eq_true, beq_iff_eq] at hv
      rcases hv with rfl | rfl
      · show narrow .boolean (.int 0) = .int 0 ∧ fits .boolean (.int 0) = true
        exact ⟨by decide +kernel, by decide +kernel⟩
      · show narrow .boolean (.int 1) = .int 1 ∧ fits .boolean (.int 1) = true
        exact ⟨by decide +kernel, by decide +kernel⟩
    | _ => simp [ma_fit] at hv
  · cases v <;> first | (simp [ma_fit] at hv; done) | exact ⟨rfl, rfl⟩
  · cases v <;> first | (simp [ma_fit] at hv; done) | exact ⟨rfl, rfl⟩
  · cases h
/-- what is known of the sorts of objects: their words are among G, their fields' names differ, the kinds of their fields -/
def ma_cls (cl : List vw_C) (ks : Nat → List Nat) (G : List Jvm.Cond) : Prop :=
  ∀ (ci : Nat) (C : String) (T : u_T) (N : Nat), cl[ci]? = some (C, T, N) → (∀ w ∈ u_ws C T N, w ∈ G) ∧ (∀ a, a < N → ∀ b, b < N → a ≠ b → (T a).2.1 ≠ (T b).2.1) ∧ (ks ci).length = N ∧
    ∀ k, k < N → (T k).1 = C ∧ ∃ ty, parseFieldDescriptor (T k).2.2.1 = some ty ∧ ∃ t, (ks ci)[k]? = some t ∧ ma_kt t ty = true
def ma_fl (cl : List vw_C) (G : List Jvm.Cond) (own : String) (x ci j : Nat) : Prop :=
  ∃ (C : String) (T : u_T) (N : Nat), cl[ci]? = some (C, T, N) ∧ j < N ∧ (Jvm.Cond.fieldLink own x C (T j).2.1 (T j).2.2.1 ∈ G ∨ ∃ host, Jvm.Cond.fieldLinkNest own x C (T j).2.1 (T j).2.2.1 host ∈ G)
/-- a field that is put: it isn't final, or this is its own maker -/
def ma_fp (cl : List vw_C) (G : List Jvm.Cond) (own : String) (ini : Bool) (x ci j : Nat) : Prop :=
  ∃ (C : String) (T : u_T) (N : Nat), cl[ci]? = some (C, T, N) ∧ j < N ∧ (((T j).2.2.2 = false ∧ (Jvm.Cond.fieldLink own x C (T j).2.1 (T j).2.2.1 ∈ G ∨ ∃ host, Jvm.Cond.fieldLinkNest own x C (T j).2.1 (T j).2.2.1 host ∈ G)) ∨
    ((T j).2.2.2 = true ∧ ini = true ∧ C = own ∧ Jvm.Cond.fieldLink own x C (T j).2.1 (T j).2.2.1 ∈ G))
def ma_X (D : va_G) (cl : List vw_C) (ks : Nat → List Nat) (ad : Nat → Nat) (base : Nat) (sc : Nat × (Nat → Int32)) (G : List Jvm.Cond) (own : String) (ini : Bool) (p : Program) (s : State) (m : MethodId) (args : Array Value) (meth : Method) (c : Code) (cc : ByteArray) (nL : Nat) : Prop :=
  p.tables.exec = Jvm.exec ∧ c.code = cc ∧ c.maxLocals = nL ∧ s.vm.findClass own = some m.cls ∧ (∀ w ∈ G, w.before args s = true) ∧ (∀ (ci : Nat) (q : vw_C), cl[ci]? = some q → u_Kn s q.1 q.2.1 q.2.2 (D.1 ci) (D.2 ci)) ∧ (∀ k, k < 4096 → ad k = base + k) ∧ (ini = true → meth.name = "<init>") ∧ ma_cls cl ks G ∧ va_X (ad 4096) sc.1 sc.2 s s.heap ∧ ad 4096 < base
/-- the machine's state stands for the true one, from which the end is reached -/
def ma_G (D : va_G) (cl : List vw_C) (ad : Nat → Nat) (base : Nat) (p : Program) (l : Launch) (e : Env) (R : Room) (s : State) (m : MethodId) (args : Array Value) (below : List Frame) (meth : Method) (c : Code) (Q : State → Prop) (nL pc : Nat) (L : ma_L) (S : List Value) (h : List ma_C) (cells slots : Nat) : Prop :=
  ∀ (H : Heap) (locs : List Loc) (ls : Array Slot), ma_H D cl ad base s H h → ma_F base s H locs → lv_has ls nL (ma_lv ad L) → L.length = nL → W p l e R s m args below meth c H locs cells slots Q (F0 m pc ls (S.map (ma_va ad)))
