/-! ===== the induction over runs once more: a text's method is called where the room still holds ===== -/
def ma_isL (i : Instr) : Bool := match i with
  | .ldc _ => true
  | _ => false
def ma_TL (TK : String → Instr → List Nat → Prop) (own : String) (i : Instr) (o : List Nat) : Prop := TK own i o ∧ ma_isL i = true
def ma_TX2 (D : va_G) (cl : List vw_C) (ks : Nat → List Nat) (ad : Nat → Nat) (base : Nat) (sc : Nat × (Nat → Int32)) (G : List Jvm.Cond) (TF : State → Heap → Prop) (TK : String → Instr → List Nat → Prop) (tx : Nat → Int32 → Option Int32) (l : Launch) : Prop :=
  ∀ {own : String} {ini : Bool} {p : Program} {e : Env} {R : Room} {s : State} {m : MethodId} {args : Array Value} {below : List Frame} {meth : Method} {c : Code} {cc : ByteArray} {nL pc : Nat} {Q : State → Prop} {H : Heap} {locs : List Loc} {ls : Array Slot} {cells slots x : Nat} {o : List Nat} {S S' : List Value} {h q : List ma_C},
    ma_X D cl ks ad base sc G own ini p s m args meth c cc nL → TF s s.heap → ma_F base s H locs → ls.size = nL → decode cc pc = .ok (.invokevirtual x, 3) → TK own (.invokevirtual x) o →
    10 ≤ R.frames → 1000 ≤ R.locals → cells ≤ R.cells → slots ≤ R.slots → (∀ r, o ≠ 0 :: r) → ma_x tx (.invokevirtual x) o S h = some (S', q) →
    W p l e R s m args below meth c H locs cells slots Q (F0 m (pc + 3) ls (S'.map (ma_va ad))) → W p l e R s m args below meth c H locs cells slots Q (F0 m pc ls (S.map (ma_va ad)))
theorem ma_lk_L {cl : List vw_C} {ks : Nat → List Nat} {mt : Nat → Option ma_M} {G : List Jvm.Cond} {TK : String → Instr → List Nat → Prop} {own : String} {ini : Bool} {ret : Option FieldType} {pc : Nat} {i : Instr} {o : List Nat} (hi : ∀ x, i ≠ .invokevirtual x) (h : ma_lk cl ks mt G TK own ini ret pc i o) : ma_lk cl ks mt G (ma_TL TK) own ini ret pc i o := by
  cases i <;> first
    | exact h
    | exact ⟨h.1, fun v hv => ⟨h.2 v hv, rfl⟩⟩
    | exact absurd rfl (hi _)
/-- what is asked of a program and of the tables, once -/
def mb_All (D : va_G) (cl : List vw_C) (ad : Nat → Nat) (base : Nat) (G : List Jvm.Cond) (TF : State → Heap → Prop) (TK : String → Instr → List Nat → Prop) (l : Launch) (mt : Nat → Option ma_M) (P : ma_P) : Prop :=
  ma_TF base TF ∧ (∀ w ∈ G, ma_gw w = true ∨ ∀ (U : State) (H : Heap) (av : Array Value), TF U H → w.before av U = true) ∧ ma_TX D cl P.2.2.1 ad base P.2.2.2.2 G TF (ma_TL TK) P.2.2.2.1 l ∧ ma_TX2 D cl P.2.2.1 ad base P.2.2.2.2 G TF TK P.2.2.2.1 l ∧ (∀ k, k < 4096 → ad k = base + k) ∧ ma_cls cl P.2.2.1 G ∧ ad 4096 < base ∧
  ∀ (m : Nat) (q : ma_M), mt m = some q → plainFor q.1 = true ∧ P.2.1 m = q.2.2.1 ∧ q.2.2.1 ≤ 80 ∧ ∀ t, ma_ok cl P.2.2.1 mt G TK q t (P.1 m t)
section MZB
variable {D : va_G} {cl : List vw_C} {ad : Nat → Nat} {base : Nat} {G : List Jvm.Cond} {l : Launch} {TF : State → Heap → Prop} {TK : String → Instr → List Nat → Prop} {mt : Nat → Option ma_M} {P : ma_P}
theorem mb_met (A : mb_All D cl ad base G TF TK l mt P) {d m' : Nat} {q : ma_M} {a : List Value} {h : List ma_C} {r : Option Value} {hE : List ma_C} (hq : mt m' = some q) (hlen : (ma_ent a).length ≤ q.2.2.1)
    (w : ma_Wk D cl ad base G TF TK l mt P d m' (P.1 m' 0) (ma_en a q.2.2.1) [] h r hE) : ma_Mt D cl ad base G TF l P q d a h r hE := by
  obtain ⟨hTF, hGood, hTX, hTX2, had, hcls, hsb, hB⟩ := A
  obtain ⟨hpl, hmx, hmx2, hbl⟩ := hB _ _ hq
  refine va_MetF (cc := q.2.1) (maxL := q.2.2.1) (ret := q.2.2.2.1) hpl rfl ?_
  intro p e s m args below meth c s₁ B hml hv
  obtain ⟨rfl, hH, hkn, hsx, hT⟩ := hv
  have hts0 := atoms_spec (ws := Jvm.Cond.code q.1 q.2.1 q.2.2.1 q.2.2.2.1 :: G.filter ma_gw) B.pre
  have X : ma_X D cl P.2.2.1 ad base P.2.2.2.2 G q.1.cls (q.1.name == "<init>") p s m (a.map (ma_va ad)).toArray meth c q.2.1 q.2.2.1 := ⟨B.exec, B.bytes, hml, findClass_of_methodNamed B.named, fun w hw => (hGood w hw).elim (fun z => hts0 w (List.mem_cons_of_mem _ (List.mem_filter.mpr ⟨hw, z⟩))) (fun z => z s s.heap _ hT), hkn, had, fun hi => (name_of_methodNamed B.named B.method).1.trans (eq_of_beq hi), hcls, hsx, hsb⟩
  have g := w q p e (headSpec (Jvm.Cond.code q.1 q.2.1 q.2.2.1 q.2.2.2.1 :: G.filter ma_gw) (ma_rm d (hE.length - h.length) (ma_sl hE - ma_sl h))).room s m _ below meth c (MQ below (ma_Qc D cl ad base r hE) (a.map (ma_va ad)).toArray s (hE.length - h.length) (ma_sl hE - ma_sl h) (fun q => base ≤ q)) 0 h hq X hT (hbl 0) (Nat.le_refl _) (Nat.le_refl _) ma_le.rf (Nat.le_refl _) (Nat.le_refl _) (fun i o S2 L2 pc2 z1 z2 z3 => ?_)
  · rw [Nat.sub_self, Nat.sub_self] at g
    rw [lg_entry_eq]
    exact g s.heap [] _ hH ⟨fun _ _ => rfl, fun _ z => by cases z⟩ (ma_en_lv hlen) (ma_en_len hlen)
  · refine ma_ret_int B.exec B.bytes B.returns B.notSynchronized z2 ⟨fun e1 e2 => ?_, fun e1 e2 => ?_, fun e2 => ?_, fun e2 => ?_⟩ z1
    · subst e2; exact z3.1 e1
    · subst e2; exact z3.2 e1
    · subst e2; exact z3
    · subst e2; exact z3
set_option maxHeartbeats 4000000 in
theorem mb_sound (A : mb_All D cl ad base G TF TK l mt P) : ∀ (n d m' : Nat) (is : List ma_I) (L : ma_L) (S : List Value) (h : List ma_C) (r : Option Value) (hE : List ma_C), ma_run P n d m' is L S h = some (r, hE) → ma_Wk D cl ad base G TF TK l mt P d m' is L S h r hE
  | 0, _, _, _, _, _, _, _, _, hr => by simp [ma_run] at hr
  | n + 1, d, m', [], L, S, h, r, hE, hr => by simp [ma_run] at hr
  | n + 1, d, m', (i, o) :: is, L, S, h, r, hE, hr => by
    intro q p e R s m args below meth c Q pc h0 hq X hT hok hfr hlo hle hce hsl hend
    obtain ⟨hTF, hGood, hTX, hTX2, had, hcls, hsb, hB⟩ := id A
    obtain ⟨hpl, hmx, hmx2, hbl⟩ := hB _ _ hq
    obtain ⟨hdg, hlk, hok2⟩ := hok
    unfold ma_run at hr
    split at hr
    next hk =>
      have hdg : decode q.2.1 pc = .ok (i, ma_ln pc i) := hdg.resolve_left (fun z => by subst z; cases hk)
      split at hr
      next L1 S1 h1 hs =>
        have l1 := ma_s_le hs
        have l2 := ma_run_le _ _ _ _ _ _ _ _ _ hr
        have g := mb_sound A n d m' is L1 S1 h1 r hE hr q p e R s m args below meth c Q (pc + ma_ln pc i) h0 hq X hT hok2 hfr hlo (hle.tr l1) hce hsl hend
        refine ma_s_all (cells := h.length - h0.length) (slots := ma_sl h - ma_sl h0) X hT hTX hdg (ma_lk_L (fun x z => by subst z; unfold ma_k at hk; split at hk <;> simp_all) hlk) hs ?_ ?_ ?_
        · have := l1.1; have := l2.1; have := hle.1; omega
        · have := l1.2; have := l2.2; have := hle.2; omega
        · rw [show h.length - h0.length + (h1.length - h.length) = h1.length - h0.length by have := l1.1; have := hle.1; omega, show ma_sl h - ma_sl h0 + (ma_sl h1 - ma_sl h) = ma_sl h1 - ma_sl h0 by have := l1.2; have := hle.2; omega]
          exact g
      next => cases hr
    next hk =>
      have hjt : ma_jt pc i o := by
        unfold ma_k at hk
        split at hk <;> first | exact hlk | cases hk
      split at hr
      next t S1 hs =>
        exact ma_o_j X hdg hjt hs (mb_sound A n d m' _ L S1 h r hE hr q p e R s m args below meth c Q t h0 hq X hT (hbl t) hfr hlo hle hce hsl hend)
      next S1 hs =>
        exact ma_o_j X hdg hjt hs (mb_sound A n d m' _ L S1 h r hE hr q p e R s m args below meth c Q (pc + ma_ln pc i) h0 hq X hT hok2 hfr hlo hle hce hsl hend)
      next => cases hr
    next hk =>
      have hdg : decode q.2.1 pc = .ok (i, ma_ln pc i) := hdg.resolve_left (fun z => by subst z; cases hk)
      have hml : ma_ml mt G cl q.1.cls i o ∧ ma_ln pc i = 3 := by
        unfold ma_k at hk
        split at hk <;> first | exact ⟨hlk, rfl⟩ | cases hk
      split at hr
      next m2 a S1 hc =>
        split at hr
        next => cases hr
        next hlen =>
          split at hr
          next => cases hr
          next d1 =>
            split at hr
            next r1 h1 hs =>
              have l1 := ma_run_le _ _ _ _ _ _ _ _ _ hs
              have l2 := ma_run_le _ _ _ _ _ _ _ _ _ hr
              have g := mb_sound A n (d1 + 1) m' is L _ h1 r hE hr q p e R s m args below meth c Q (pc + ma_ln pc i) h0 hq X hT hok2 hfr hlo (hle.tr l1) hce hsl hend
              have w := mb_sound A n d1 m2 _ _ _ h r1 h1 hs
              refine ma_o_call (mt := mt) (h' := h1) (r := r1) (mc := h1.length - h.length) (ms := ma_sl h1 - ma_sl h) (rm := ma_rm d1 (h1.length - h.length) (ma_sl h1 - ma_sl h)) hTF X hT hdg hml.1 hc (fun y bytes maxL ret st hmt => ?_) ?_ ?_ ?_
              · obtain ⟨-, hmx', hmx2', -⟩ := hB _ _ hmt
                have hmt' : P.2.1 m2 = maxL := hmx'
                have hle80 : maxL ≤ 80 := hmx2'
                rw [hmt'] at hlen w
                have hmet : ma_Mt D cl ad base G TF l P (y, bytes, maxL, ret, st) d1 a h r1 h1 := mb_met A hmt (Nat.le_of_not_lt hlen) w
                have hlo' : 100 * (d1 + 1 + 1) ≤ R.locals := hlo
                exact ⟨hmet, rfl, rfl, hfr, by show 8 + (maxL + 11) + 100 * (d1 + 1) ≤ R.locals; omega⟩
              · have := l1.1; have := l2.1; have := hle.1; omega
              · have := l1.2; have := l2.2; have := hle.2; omega
              · rw [show h.length - h0.length + (h1.length - h.length) = h1.length - h0.length by have := l1.1; have := hle.1; omega, show ma_sl h - ma_sl h0 + (ma_sl h1 - ma_sl h) = ma_sl h1 - ma_sl h0 by have := l1.2; have := hle.2; omega]
                rw [hml.2] at g
                exact g
            next => cases hr
      next => cases hr
    next hk =>
      have hdg : decode q.2.1 pc = .ok (i, ma_ln pc i) := hdg.resolve_left (fun z => by subst z; cases hk)
      split at hr
      next r1 hs =>
        cases hr
        exact hend i o S L pc hs hdg hlk
      next => cases hr
    next hk0 hk1 hk2 hk3 =>
      have hdg : decode q.2.1 pc = .ok (i, ma_ln pc i) := hdg.resolve_left (fun z => by subst z; exact hk1 rfl)
      split at hr
      next S1 h1 hs =>
        split at hs
        next => cases hs
        next hd9 =>
          have l1 := ma_x_le hs
          have l2 := ma_run_le _ _ _ _ _ _ _ _ _ hr
          have g := mb_sound A n d m' is L S1 h1 r hE hr q p e R s m args below meth c Q (pc + ma_ln pc i) h0 hq X hT hok2 hfr hlo (hle.tr l1) hce hsl hend
          have hR : 1 ≤ R.frames ∧ 100 ≤ R.locals := ⟨by omega, by omega⟩
          cases i with
          | invokevirtual x =>
            have e1 := ma_xv_same hs
            subst e1
            have hTK : TK q.1.cls (.invokevirtual x) o ∧ ∀ r, o ≠ 0 :: r := by
              cases o with
              | nil => exact ⟨hlk, fun r z => by cases z⟩
              | cons a o =>
                cases a with
                | zero => exact absurd rfl hk2
                | succ a => exact ⟨hlk, fun r z => by cases z⟩
            intro H locs ls hH hF hl hn
            exact hTX2 X hT hF hl.1 hdg hTK.1 (by omega) (by omega) (by have := l1.1; have := l2.1; have := hle.1; omega) (by have := l1.2; have := l2.2; have := hle.2; omega) hTK.2 hs (g H locs ls hH hF hl hn)
          | invokespecial x =>
            have ho : o = [1] := by
              unfold ma_x at hs
              split at hs <;> first | rfl | (cases hs; done) | (rename_i z; cases z; done) | (rename_i z _; cases z; rfl) | (rename_i z _ _; cases z; done)
            subst ho
            have hh : h1 = h := by
              simp only [ma_x] at hs
              split at hs
              · split at hs
                · cases hs
                · cases hs; rfl
              · cases hs
            subst hh
            exact ma_o_obj X hdg hlk hR hs g
          | invokestatic x =>
            have ho : o = [2] := by
              unfold ma_x at hs
              split at hs <;> first | rfl | (cases hs; done) | (rename_i z; cases z; done) | (rename_i z _; cases z; rfl) | (rename_i z _ _; cases z; done)
            subst ho
            have hh : h1.length = h.length ∧ ma_sl h1 = ma_sl h := by
              simp only [ma_x] at hs
              split at hs
              · split at hs
                next n0 f n1 g2 ha hb1 =>
                  split at hs
                  · cases hs
                  · cases hs
                    exact ⟨by simp, ma_sl_set hb1 rfl⟩
                next => cases hs
              · cases hs
            rw [hh.1, hh.2] at g
            exact ma_o_copy X hdg hlk hR hs g
          | _ => exact absurd rfl (by first | exact hk0 | exact hk1 | exact hk3)
      next => cases hr
end MZB
