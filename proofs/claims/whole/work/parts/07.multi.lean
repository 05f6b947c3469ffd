/-! ===== an array of arrays: the machine's own making of it, a row at a time ===== -/
def ma_mr (a i : Nat) : Nat → Value := fun j => if j < i then .ref (a + 1 + j) else .null
/-- the state behind i rows -/
def ma_mw (T : State) (cA cI : ClassId) (N M : Nat) : Nat → State
  | 0 => T.pushCell (arrV cA N (ma_mr T.heap.size 0))
  | i + 1 => ((ma_mw T cA cI N M i).pushCell (arrV cI M (fun _ => .int 0))).setCell T.heap.size (arrV cA N (ma_mr T.heap.size (i + 1)))
theorem ma_mr_up (a i : Nat) : updV (ma_mr a i) i (.ref (a + 1 + i)) = ma_mr a (i + 1) := by
  funext j
  unfold updV ma_mr
  by_cases h : j = i
  · subst h; simp
  · rw [if_neg h]
    by_cases h2 : j < i
    · rw [if_pos h2, if_pos (by omega)]
    · rw [if_neg h2, if_neg (by omega)]
section MW
variable {p : Program} {l : Launch} {e : Env} {R : Room} {s : State} {m : MethodId} {args : Array Value} {below : List Frame} {meth : Method} {c : Code} {T : State} {locs : List Loc} {cells slots : Nat}
theorem ma_mw_is (T : State) (cA cI : ClassId) (N M : Nat) : ∀ i, (ma_mw T cA cI N M i).heap.size = T.heap.size + 1 + i ∧ (ma_mw T cA cI N M i).vm = T.vm ∧ (∀ q, q < T.heap.size → (ma_mw T cA cI N M i).heap[q]? = T.heap[q]?) ∧
    (ma_mw T cA cI N M i).heap[T.heap.size]? = some (arrV cA N (ma_mr T.heap.size i)) ∧ ∀ j, j < i → (ma_mw T cA cI N M i).heap[T.heap.size + 1 + j]? = some (arrV cI M (fun _ => .int 0)) := by
  intro i
  induction i with
  | zero => exact ⟨State.heap_size_pushCell _ _, rfl, fun q hq => State.heap_pushCell_of_lt _ _ hq, State.heap_pushCell_size _ _, fun j hj => absurd hj (Nat.not_lt_zero _)⟩
  | succ i ih =>
    obtain ⟨h1, h2, h3, h4, h5⟩ := ih
    have b0 : ∀ q, q < T.heap.size + 1 + i → ((ma_mw T cA cI N M i).pushCell (arrV cI M (fun _ => .int 0))).heap[q]? = (ma_mw T cA cI N M i).heap[q]? := fun q hq => State.heap_pushCell_of_lt _ _ (by rw [h1]; exact hq)
    have b1 : ((ma_mw T cA cI N M i).pushCell (arrV cI M (fun _ => .int 0))).heap[T.heap.size]? = some (arrV cA N (ma_mr T.heap.size i)) := by rw [b0 _ (by omega)]; exact h4
    have b2 : ∀ q, q ≠ T.heap.size → (ma_mw T cA cI N M (i + 1)).heap[q]? = ((ma_mw T cA cI N M i).pushCell (arrV cI M (fun _ => .int 0))).heap[q]? := fun q hq => State.heap_setCell_other (Ne.symm hq)
    refine ⟨?_, h2, fun q hq => ?_, State.heap_setCell_self b1, fun j hj => ?_⟩
    · show (((ma_mw T cA cI N M i).heap.push _).setIfInBounds _ _).size = _
      rw [Array.size_setIfInBounds, Array.size_push, h1]; omega
    · rw [b2 q (by omega), b0 q (by omega)]; exact h3 q hq
    · rw [b2 _ (by omega)]
      rcases Nat.lt_or_ge j i with hj2 | hj2
      · rw [b0 _ (by omega)]; exact h5 j hj2
      · have hji : j = i := by omega
        subst hji
        rw [← h1]
        exact State.heap_pushCell_size _ _
theorem ma_mw_st (X : Stand p l e R s m args below meth c T locs cells slots) (cA cI : ClassId) (N M : Nat) : ∀ i, ∃ lo : List Loc, (∀ q ∈ lo, q.base = T.heap.size) ∧ Stand p l e R s m args below meth c (ma_mw T cA cI N M i) (locs ++ lo) (cells + 1 + i) (slots + N + i * M) := by
  intro i
  induction i with
  | zero =>
    have h := X.pushed (arrV cA N (ma_mr T.heap.size 0))
    rw [arrV_size] at h
    refine ⟨[], fun q hq => (by cases hq), ?_⟩
    rw [List.append_nil, Nat.zero_mul]
    exact h
  | succ i ih =>
    obtain ⟨lo, hlo, Y⟩ := ih
    obtain ⟨h1, h2, h3, h4, h5⟩ := ma_mw_is T cA cI N M i
    have b1 : ((ma_mw T cA cI N M i).pushCell (arrV cI M (fun _ => .int 0))).heap[T.heap.size]? = some (arrV cA N (ma_mr T.heap.size i)) := by have z : T.heap.size < (ma_mw T cA cI N M i).heap.size := (by rw [h1]; omega); rw [State.heap_pushCell_of_lt _ _ z]; exact h4
    have g := (Y.pushed (arrV cI M (fun _ => .int 0))).stored b1 i (.ref (T.heap.size + 1 + i))
    rw [arrV_size, arrV_store, ma_mr_up] at g
    refine ⟨lo ++ [⟨T.heap.size, i⟩], fun q hq => ?_, ?_⟩
    · rcases List.mem_append.mp hq with hq | hq
      · exact hlo q hq
      · rw [List.mem_singleton] at hq; subst hq; rfl
    · rw [← List.append_assoc, show slots + N + (i + 1) * M = slots + N + i * M + M by rw [Nat.succ_mul]; omega]
      exact g

/-- the machine's 'make' of two lengths -/
theorem ma_mk2 {E : CtlPost} {d : Bool} {acts : List Action} {cA cI cc : ClassId} {kA kI : Class} {n k : Int32} (X : Stand p l e R s m args below meth c T locs cells slots) {g : JFrame} (hkA : T.vm.classes[cA]? = some kA) (hA : kA.kind = .array cI (.array .int)) (hkI : T.vm.classes[cI]? = some kI) (hI : kI.kind = .array cc .int)
    (hn : ¬ n < 0) (hk : ¬ k < 0) (hn2 : n.toNatClampNeg ≤ 1000) (hk2 : k.toNatClampNeg ≤ 20000) (hce : cells + (1 + n.toNatClampNeg) ≤ R.cells) (hsl : slots + (n.toNatClampNeg + n.toNatClampNeg * k.toNatClampNeg) ≤ R.slots)
    {Q : Addr → Pre} (hq : ∀ d' acts', Q T.heap.size d' acts' ((ma_mw T cA cI n.toNatClampNeg k.toNatClampNeg n.toNatClampNeg).setTop g)) : wp (multianewarray.make cA [n, k]) Q E e d acts (T.setTop g) := by
  have hL : e.platform.arrayLengthLimit = 2147483645 := Launch.admits_arrayLengthLimit X.admits
  have hH : e.platform.maxHeapBytes = 536870912 := Launch.admits_maxHeapBytes X.admits
  have hno : ([k].find? (· < 0)) = none := by simp [hk]
  obtain ⟨r1, r2⟩ := X.roomAbove hce hsl
  rw [multianewarray.make]
  simp only [wp_bind', W.ite, hn, if_false, wp_pure', W.theClass, State.vm_setTop, hkA, hA, Option.some.injEq, exists_eq_left']
  refine W.newArray_of (k := kA) (comp := cI) (type := .array .int) hkA hA (by rw [hL]; omega) (by rw [hH]; show ¬ n.toNatClampNeg * 4 > 536870912; omega) (by show T.heap.size < _; omega) (by show T.slotsUsed + _ ≤ _; omega) rfl (fun acts1 => ?_)
  simp only [hno]
  rw [ite_self, wp_bind', Std.Legacy.Range.forIn_eq_forIn_range']
  have hsz : ([:n.toNatClampNeg] : Std.Legacy.Range).size = n.toNatClampNeg := by simp [Std.Legacy.Range.size]
  rw [hsz]
  show wp (forIn (List.range' 0 n.toNatClampNeg 1) PUnit.unit _) _ E e d acts1 _
  refine wp_forIn_inv (fun r u => ∃ i, i + r.length = n.toNatClampNeg ∧ r = List.range' i r.length ∧ u = (ma_mw T cA cI n.toNatClampNeg k.toNatClampNeg i).setTop g) _ _ ⟨0, by simp, by simp, ?_⟩ ?_ ?_
  · show _ = (T.pushCell (arrV cA n.toNatClampNeg (ma_mr T.heap.size 0))).setTop g
    have e1 : (ma_mr T.heap.size 0) = fun _ => Value.null := by funext j; simp [ma_mr]
    rw [e1, ← arrV_new]
    rfl
  · rintro x r u d2 acts2 Q2 ⟨i, h1, h2, rfl⟩ hnext
    rw [List.length_cons] at h1 h2
    rw [List.range'_succ] at h2
    obtain ⟨rfl, h3⟩ := List.cons.inj h2
    obtain ⟨lo, hlo, Y⟩ := ma_mw_st X cA cI n.toNatClampNeg k.toNatClampNeg x
    obtain ⟨f1, f2, f3, f4, f5⟩ := ma_mw_is T cA cI n.toNatClampNeg k.toNatClampNeg x
    have hmul : x * k.toNatClampNeg + k.toNatClampNeg ≤ n.toNatClampNeg * k.toNatClampNeg := by
      rw [← Nat.succ_mul]
      exact Nat.mul_le_mul_right _ (by omega)
    obtain ⟨r3, r4⟩ := Y.roomAbove (a := 1) (b := k.toNatClampNeg) (by omega) (by omega)
    simp only [wp_bind']
    rw [multianewarray.make]
    simp only [wp_bind', W.ite, hk, if_false, wp_pure', W.theClass, State.vm_setTop, f2, hkI, hI, Option.some.injEq, exists_eq_left']
    refine W.newArray_of (k := kI) (comp := cc) (type := .int) (by rw [State.vm_setTop, f2]; exact hkI) hI (by rw [hL]; omega) (by rw [hH]; show ¬ k.toNatClampNeg * 4 > 536870912; omega) (by show (ma_mw _ _ _ _ _ _).heap.size < _; omega) (by show (ma_mw _ _ _ _ _ _).slotsUsed + _ ≤ _; omega) rfl (fun acts3 => ?_)
    simp only [wp_bind', W.writeLoc, wp_pure']
    refine ⟨arrV cA n.toNatClampNeg (ma_mr T.heap.size x), ?_, (fun z => by cases z), by rw [arrV_size]; omega, ?_, hnext _ _ _ ⟨x + 1, by omega, h3, ?_⟩⟩
    · show ((ma_mw T cA cI n.toNatClampNeg k.toNatClampNeg x).pushCell _).heap[T.heap.size]? = _
      have z : T.heap.size < (ma_mw T cA cI n.toNatClampNeg k.toNatClampNeg x).heap.size := by rw [f1]; omega
      rw [State.heap_pushCell_of_lt _ _ z]
      exact f4
    · show State.fitsSlot _ cA .none _ _ = true
      simp [State.fitsSlot, State.slotType?, f2, hkA, hA, fits]
    · show (((ma_mw T cA cI n.toNatClampNeg k.toNatClampNeg x).pushCell _).setCell T.heap.size _).setTop g = (((ma_mw T cA cI n.toNatClampNeg k.toNatClampNeg x).pushCell _).setCell T.heap.size _).setTop g
      rw [arrV_store, State.heap_setTop, f1, ma_mr_up, ← arrV_new]
      rfl
  · rintro u d2 acts2 ⟨i, h1, h2, rfl⟩
    rw [List.length_nil, Nat.add_zero] at h1
    subst h1
    simp only [wp_pure']
    exact hq _ _
end MW

section MY
variable {D : va_G} {cl : List vw_C} {ks : Nat → List Nat} {ad : Nat → Nat} {base : Nat} {G : List Jvm.Cond} {own : String} {ini : Bool} {p : Program} {l : Launch} {e : Env} {R : Room} {s : State} {m : MethodId} {args : Array Value} {below : List Frame} {meth : Method} {c : Code} {cc : ByteArray} {nL pc : Nat} {Q : State → Prop} {sc : Nat × (Nat → Int32)} {o : List Nat} {L : ma_L} {S S' : List Value} {h h' : List ma_C} {cells slots : Nat} {TF : State → Heap → Prop}
def ma_C0 (h : List ma_C) (N M : Nat) : List ma_C := .inl (4, N, .inr (.inr (.inr (.inr (fun i => if i < N then some (h.length + 1 + i) else none))))) :: List.replicate N (.inl (0, M, .inl (fun _ => 0)))
set_option maxHeartbeats 2000000 in
theorem ma_o_multi {x : Nat} {L' : ma_L} (X : ma_X D cl ks ad base sc G own ini p s m args meth c cc nL) (hdg : decode cc pc = .ok (.multianewarray x 2, 4)) (hlk : Jvm.Cond.classLink own x ("[" ++ (FieldType.array .int).toString) ∈ G ∧ Jvm.Cond.arrayOver (.array .int) ∈ G ∧ Jvm.Cond.arrayClass .int ∈ G)
    (hs : ma_s sc ks (.multianewarray x 2) o L S h = some (L', S', h')) (hce : cells + (h'.length - h.length) ≤ R.cells) (hsl : slots + (ma_sl h' - ma_sl h) ≤ R.slots) (k : ma_G D cl ad base p l e R s m args below meth c Q nL (pc + 4) L' S' h' (cells + (h'.length - h.length)) (slots + (ma_sl h' - ma_sl h))) : ma_G D cl ad base p l e R s m args below meth c Q nL pc L S h cells slots := by
  obtain ⟨hx, hb, hml, hown, hts, hkn, had, hini, hcls, hsx, hsb⟩ := X
  simp only [ma_s] at hs
  split at hs
  next kk n S2 =>
    split at hs
    next => cases hs
    next hz =>
      cases hs
      have hz0 : ¬ n < 0 := fun q => hz (Or.inl q)
      have hz1 : ¬ kk < 0 := fun q => hz (Or.inr (Or.inl q))
      have hz2 : ¬ 3000 < h.length := fun q => hz (Or.inr (Or.inr (Or.inl q)))
      have hz3 : ¬ 1000 < n.toNatClampNeg := fun q => hz (Or.inr (Or.inr (Or.inr (Or.inl q))))
      have hz4 : ¬ 20000 < kk.toNatClampNeg := fun q => hz (Or.inr (Or.inr (Or.inr (Or.inr q))))

      have hcl : (h ++ ma_C0 h n.toNatClampNeg kk.toNatClampNeg).length - h.length = 1 + n.toNatClampNeg := by
        unfold ma_C0
        rw [List.length_append, List.length_cons, List.length_replicate]; omega
      have hsm : ma_sl (h ++ ma_C0 h n.toNatClampNeg kk.toNatClampNeg) - ma_sl h = n.toNatClampNeg + n.toNatClampNeg * kk.toNatClampNeg := by
        rw [ma_sl_app]; simp [ma_sl, ma_cz, ma_C0]
      have hce : cells + ((h ++ ma_C0 h n.toNatClampNeg kk.toNatClampNeg).length - h.length) ≤ R.cells := hce
      have hsl : slots + (ma_sl (h ++ ma_C0 h n.toNatClampNeg kk.toNatClampNeg) - ma_sl h) ≤ R.slots := hsl
      rw [hcl] at hce
      rw [hsm] at hsl
      have k : ma_G D cl ad base p l e R s m args below meth c Q nL (pc + 4) L (.ref h.length :: S2) (h ++ ma_C0 h n.toNatClampNeg kk.toNatClampNeg) (cells + ((h ++ ma_C0 h n.toNatClampNeg kk.toNatClampNeg).length - h.length)) (slots + (ma_sl (h ++ ma_C0 h n.toNatClampNeg kk.toNatClampNeg) - ma_sl h)) := k
      rw [hcl, hsm] at k
      intro H locs ls hH hF hl hn T hT X
      have hsz : H.size = ad h.length := by rw [had _ (by omega)]; exact hH.1
      obtain ⟨cI, cA, kA, hcI, hidx, hkA, hkindA, hnameA⟩ := arrayOverA_spec (hts _ hlk.2.1)
      obtain ⟨cI2, kI, c2, hcI2, hkI, hkindI⟩ := Cond.arrayClass_spec (hts _ hlk.2.2)
      have e1 : cI2 = cI := Option.some.inj (hcI2.symm.trans hcI)
      subst e1
      obtain ⟨c0, hc0, hcl0⟩ := Cond.classLink_spec hown (hts _ hlk.1) e.platform (by rw [X.admits.platform])
      have e2 : c0 = cA := Option.some.inj (hc0.symm.trans hnameA)
      subst e2
      obtain ⟨g1, g2, g3⟩ := State.classEntry (e := e) X.warmed hcl0
      generalize T.vm.noted m.cls x (.cls c0) = vm1 at g1 g2 g3
      obtain ⟨kA1, hkA1, eA⟩ := g2.alike.2.2 _ _ hkA
      obtain ⟨kI1, hkI1, eI⟩ := g2.alike.2.2 _ _ hkI
      have hkindA1 : kA1.kind = .array cI2 (.array .int) := by rw [eA]; exact hkindA
      have hkindI1 : kI1.kind = .array c2 .int := by rw [eI]; exact hkindI
      have X1 := X.noted g2
      obtain ⟨lo, hlo, Y⟩ := ma_mw_st X1 c0 cI2 n.toNatClampNeg kk.toNatClampNeg n.toNatClampNeg
      obtain ⟨f1, f2, f3, f4, f5⟩ := ma_mw_is (T.setVm vm1) c0 cI2 n.toNatClampNeg kk.toNatClampNeg n.toNatClampNeg
      have hTs : (T.setVm vm1).heap.size = base + h.length := by show T.heap.size = _; rw [hT, hH.1]
      have hArrI : ArrOfT s cI2 .int := fun _ z => ⟨fun k h => (by cases h), kI, hkI, c2, hkindI⟩
      have hArrA : ArrOfT s c0 (.array .int) := fun _ z => ⟨fun k h => (by cases h), kA, hkA, cI2, hkindA⟩
      have hHn : ma_H D cl ad base s (ma_mw (T.setVm vm1) c0 cI2 n.toNatClampNeg kk.toNatClampNeg n.toNatClampNeg).heap (h ++ ma_C0 h n.toNatClampNeg kk.toNatClampNeg) := by
        refine ⟨?_, ?_, fun j y hj => ?_⟩
        · rw [f1, hTs, List.length_append]; simp [ma_C0]; omega
        · rw [List.length_append]; simp [ma_C0]; omega
        · rcases Nat.lt_trichotomy j h.length with hjl | rfl | hjl
          · rw [List.getElem?_append_left hjl] at hj
            exact (hH.2.2 j y hj).kept ((f3 _ (by rw [hTs]; omega)).trans (by show T.heap[_]? = _; rw [hT]))
          · rw [List.getElem?_append_right (Nat.le_refl _), Nat.sub_self] at hj
            unfold ma_C0 at hj
            rw [List.getElem?_cons_zero, Option.some.injEq] at hj
            subst hj
            refine ⟨c0, hArrA, fun z => by simp only at z; omega, ?_⟩
            rw [← hTs, f4]
            show some (arrV c0 n.toNatClampNeg _) = some (arrV c0 n.toNatClampNeg (fun j => va_rf ((if j < n.toNatClampNeg then some (h.length + 1 + j) else none).map ad)))
            congr 2
            funext j
            unfold ma_mr
            by_cases hjn : j < n.toNatClampNeg
            · rw [if_pos hjn, if_pos hjn, hTs, Option.map_some, had _ (by omega), show base + h.length + 1 + j = base + (h.length + 1 + j) by omega]
              rfl
            · rw [if_neg hjn, if_neg hjn]
              rfl
          · rw [List.getElem?_append_right (by omega)] at hj
            obtain ⟨i, rfl⟩ : ∃ i, j = h.length + 1 + i := ⟨j - h.length - 1, by omega⟩
            rw [show h.length + 1 + i - h.length = i + 1 by omega] at hj
            unfold ma_C0 at hj
            rw [List.getElem?_cons_succ, List.getElem?_replicate] at hj
            split at hj
            next hi =>
              cases hj
              refine ⟨cI2, hArrI, fun z => by simp only at z; omega, ?_⟩
              rw [show base + (h.length + 1 + i) = (T.setVm vm1).heap.size + 1 + i by rw [hTs]; omega, f5 i hi]
              rfl
            next => cases hj
      have hFn : ma_F base s (ma_mw (T.setVm vm1) c0 cI2 n.toNatClampNeg kk.toNatClampNeg n.toNatClampNeg).heap (locs ++ lo) := by
        refine ⟨fun q hq => ?_, fun q hq => ?_⟩
        · rw [f3 q (by rw [hTs]; omega)]
          show T.heap[q]? = _
          rw [hT]
          exact hF.1 q hq
        · rcases List.mem_append.mp hq with hq | hq
          · exact hF.2 q hq
          · rw [hlo q hq, hTs]; omega
      obtain ⟨t, st, hQ⟩ := k _ _ ls hHn hFn hl hn _ rfl (by rw [← Nat.add_assoc, ← Nat.add_assoc]; exact Y)
      refine ⟨t, ?_, hQ⟩
      subst hb
      jvm_step X.here [hx, hdg]

      simp only [multianewarray.sem, wp_bind', W.resolveClassAt_links (State.method?_setTop (F0 m pc ls (ma_va ad (.int kk) :: ma_va ad (.int n) :: S2.map (ma_va ad))) X.here.top) g1]
      rw [W.popN, if_neg (by decide)]
      refine ⟨_, State.topJava?_setTop' (s := T.setVm vm1) _ X.here.top, [.int n, .int kk], S2.map (ma_va ad), rfl, rfl, ?_⟩
      simp only [List.mapM_cons, List.mapM_nil, wp_bind', wp_pure']
      have eS : ∀ g2 : JFrame, ((T.setTop (F0 m pc ls (ma_va ad (.int kk) :: ma_va ad (.int n) :: S2.map (ma_va ad)))).setVm vm1).setTop g2 = (T.setVm vm1).setTop g2 := by
        intro g2
        show ((T.setVm vm1).setTop _).setTop _ = _
        rw [State.setTop_setTop]
      rw [eS]
      refine ma_mk2 X1 hkA1 hkindA1 hkI1 hkindI1 hz0 hz1 (by omega) (by omega) hce hsl (fun d2 acts2 => ?_)
      simp only [wp_bind', W.mark, W.pushRef, State.topJava?_setTop' _ Y.here.top, Option.some.injEq, exists_eq_left', State.setTop_setTop, State.heap_setTop]
      intro acts
      simp [jvm, Y.here.top]
      have e9 : (ma_va ad (.ref h.length)) = .ref T.heap.size := by rw [hT, hsz]; rfl
      rw [List.map_cons, e9] at st
      exact st
  next => cases hs
end MY
