/-! ===== what the machine does itself, ends, and that the true machine follows ===== -/
section MX
variable {D : va_G} {cl : List vw_C} {ks : Nat → List Nat} {ad : Nat → Nat} {base : Nat} {G : List Jvm.Cond} {own : String} {ini : Bool} {p : Program} {l : Launch} {e : Env} {R : Room} {s : State} {m : MethodId} {args : Array Value} {below : List Frame} {meth : Method} {c : Code} {cc : ByteArray} {nL pc : Nat} {Q : State → Prop} {sc : Nat × (Nat → Int32)} {o : List Nat} {L : ma_L} {S S' : List Value} {h h' : List ma_C} {cells slots : Nat} {TF : State → Heap → Prop}
theorem ma_sumv (ad : Nat → Nat) (S : List Value) : ((S.map (ma_va ad)).map fun v => v.category).sum = (S.map fun v => v.category).sum := by
  rw [List.map_map, show ((fun v => Value.category v) ∘ ma_va ad) = (fun v => v.category) from funext fun v => ma_va_cat ad v]
theorem ma_o_obj {tx : Nat → Int32 → Option Int32} {x : Nat} (X : ma_X D cl ks ad base sc G own ini p s m args meth c cc nL) (hdg : decode cc pc = .ok (.invokespecial x, 3)) (hlk : Jvm.Cond.methodLink own x Lib.objectInit ∈ G ∧ Jvm.Cond.instanceMethod Lib.objectInit ∈ G ∧ Jvm.Cond.code Lib.objectInit ⟨#[0xb1]⟩ 1 none ∈ G) (hR : 1 ≤ R.frames ∧ 100 ≤ R.locals) (hs : ma_x tx (.invokespecial x) [1] S h = some (S', h')) (k : ma_G D cl ad base p l e R s m args below meth c Q nL (pc + 3) L S' h' cells slots) : ma_G D cl ad base p l e R s m args below meth c Q nL pc L S h cells slots := by
  obtain ⟨hx, hb, hml, hown, hts, hkn, had, hini, hcls, hsx, hsb⟩ := X
  simp only [ma_x] at hs
  split at hs
  · split at hs
    next => cases hs
    next hz =>
      cases hs
      intro H locs ls hH hF hl hn
      refine W.objInit hx hb hown (hts _ hlk.1) (hts _ hlk.2.1) (hts _ hlk.2.2) rfl (hl.1.trans hml.symm) rfl hdg hR.1 ?_ (k H locs ls hH hF hl hn)
      rw [ma_sumv]
      show 2 * 0 + _ + 12 ≤ _
      omega
  · cases hs
theorem ma_nfw : nativeFrameWords "java/lang/System" "arraycopy" 5 ≤ 60 := by decide +kernel
theorem ma_o_copy {tx : Nat → Int32 → Option Int32} {x : Nat} (X : ma_X D cl ks ad base sc G own ini p s m args meth c cc nL) (hdg : decode cc pc = .ok (.invokestatic x, 3)) (hlk : Jvm.Cond.methodLink own x arraycopyName ∈ G ∧ Jvm.Cond.native arraycopyName ∈ G ∧ Jvm.Cond.static arraycopyName ∈ G ∧ Jvm.Cond.initialized "java/lang/System" ∈ G) (hR : 1 ≤ R.frames ∧ 100 ≤ R.locals) (hs : ma_x tx (.invokestatic x) [2] S h = some (S', h')) (k : ma_G D cl ad base p l e R s m args below meth c Q nL (pc + 3) L S' h' cells slots) : ma_G D cl ad base p l e R s m args below meth c Q nL pc L S h cells slots := by
  obtain ⟨hx, hb, hml, hown, hts, hkn, had, hini, hcls, hsx, hsb⟩ := X
  simp only [ma_x] at hs
  split at hs
  next n dp b sp a S2 =>
    split at hs
    next n0 f n1 g ha hb1 =>
      split at hs
      next => cases hs
      next hz =>
        cases hs
        intro H locs ls hH hF hl hn
        have hz0 : (S'.map fun v => v.category).sum ≤ 8 := Nat.le_of_not_lt fun q => hz (Or.inl q)
        have hz1 : ¬ n < 0 := fun q => hz (Or.inr (Or.inl q))
        have hz2 : ¬ dp < 0 := fun q => hz (Or.inr (Or.inr (Or.inl q)))
        have hz3 : ¬ sp < 0 := fun q => hz (Or.inr (Or.inr (Or.inr (Or.inl q))))
        have hz4 : sp.toNatClampNeg + n.toNatClampNeg ≤ n0 := Nat.le_of_not_lt fun q => hz (Or.inr (Or.inr (Or.inr (Or.inr (Or.inl q)))))
        have hz5 : dp.toNatClampNeg + n.toNatClampNeg ≤ n1 := Nat.le_of_not_lt fun q => hz (Or.inr (Or.inr (Or.inr (Or.inr (Or.inr q)))))
        have eA := hH.adr had ha
        have eB := hH.adr had hb1
        obtain ⟨c0, p1, p2, hc0⟩ := hH.2.2 _ _ ha
        obtain ⟨c1, q1, q2, hc1⟩ := hH.2.2 _ _ hb1
        have nn : ∀ z : Int32, ¬ z < 0 → z.toInt = (z.toNatClampNeg : Int) := by
          intro z hz
          have hz0 : (0 : Int) ≤ z.toInt := by
            have := Int32.not_lt.mp hz
            simpa using Int32.le_iff_toInt_le.mp this
          show z.toInt = ((z.toInt.toNat : Nat) : Int)
          omega
        show W p l e R s m args below meth c H locs cells slots Q (F0 m pc ls (.int n :: .int dp :: .ref (ad b) :: .int sp :: .ref (ad a) :: S'.map (ma_va ad)))
        rw [eA, eB]
        intro T hT Xs
        have hc0 : H[base + a]? = some (arrV c0 n0 (fun j => .int (f j))) := hc0
        have hc1 : H[base + b]? = some (arrV c1 n1 (fun j => .int (g j))) := hc1
        obtain ⟨-, k0, hk0, cm0, hkk0⟩ := p1 n0 (fun j => .int (f j))
        obtain ⟨-, k1, hk1, cm1, hkk1⟩ := q1 n1 (fun j => .int (g j))
        have hnf := ma_nfw
        obtain ⟨vm', X', step⟩ := Xs.arraycopy hx hown (hts _ hlk.1) (hts _ hlk.2.1) (hts _ hlk.2.2.1) (hts _ hlk.2.2.2) (src := base + a) (dst := base + b) (cs := arrV c0 n0 (fun j => .int (f j))) (cd := arrV c1 n1 (fun j => .int (g j))) (srcPos := sp) (destPos := dp) (n := n) (by rw [hT]; exact hc0) (by rw [hT]; exact hc1)
          (fun _ h => by cases h) (fun _ h => by cases h) (fun h => by cases h) (fun h => by cases h) hk0 hk1 hkk0 hkk1 (by simp [ma_ty, refKind]) hz3 hz2 hz1
          (by rw [nn sp hz3, nn n hz1, arrV_size]; omega)
          (by rw [nn dp hz2, nn n hz1, arrV_size]; omega)
          (fun vm₁ _ i hi => by
            have e9 : (arrV c0 n0 (fun j => Value.int (f j))).slots.getD (sp.toNatClampNeg + i) .null = .int (f (sp.toNatClampNeg + i)) := by
              rw [Array.getD_eq_getD_getElem?, arrV_read _ _ (by omega)]
              rfl
            refine ⟨?_, ?_⟩
            · rw [e9]
              rfl
            · rw [e9]
              exact trivial)
          (g := F0 m pc ls (.int n :: .int dp :: .ref (base + b) :: .int sp :: .ref (base + a) :: S'.map (ma_va ad))) rfl (hl.1.trans hml.symm) (rest := S'.map (ma_va ad)) rfl (by rw [hb]; exact hdg) hR.1 (by rw [ma_sumv]; show 2 * 0 + _ + _ ≤ _; omega)
        have e1 : copied (arrV c0 n0 (fun j => .int (f j))) (arrV c1 n1 (fun j => .int (g j))) sp dp n = arrV c1 n1 (fun j => .int (va_cpy f g sp.toNatClampNeg dp.toNatClampNeg n.toNatClampNeg j)) := va_copied (fun z => .int z) c0 c1 f g hz4
        rw [e1] at X' step
        have hlt : base + b < H.size := (Array.getElem?_eq_some_iff.mp hc1).1
        have hheap : ((T.setVm vm').setCell (base + b) (arrV c1 n1 (fun j => .int (va_cpy f g sp.toNatClampNeg dp.toNatClampNeg n.toNatClampNeg j)))).heap = H.setIfInBounds (base + b) (arrV c1 n1 (fun j => .int (va_cpy f g sp.toNatClampNeg dp.toNatClampNeg n.toNatClampNeg j))) := by rw [← hT]; rfl
        have oq : ∀ q : Nat, q ≠ base + b → (H.setIfInBounds (base + b) (arrV c1 n1 (fun j => .int (va_cpy f g sp.toNatClampNeg dp.toNatClampNeg n.toNatClampNeg j))))[q]? = H[q]? := fun q hq => by simp [Array.getElem?_setIfInBounds, Ne.symm hq]
        obtain ⟨t, a1, b1⟩ := k _ _ ls (hH.set (by simp) oq ⟨c1, q1, q2, show (H.setIfInBounds (base + b) _)[base + b]? = some _ by simp [Array.getElem?_setIfInBounds, hlt]; rfl⟩) ⟨fun q g1 => (oq q (by omega)).trans (hF.1 q g1), fun q hq => by
            rcases List.mem_append.mp hq with h | h
            · exact hF.2 q h
            · obtain ⟨z, -, hz⟩ := List.mem_map.mp h
              rw [← hz]
              show base ≤ base + b
              omega⟩ hl hn _ hheap X'
        exact ⟨t, step t a1, b1⟩
    next => cases hs
  next => cases hs
end MX
