/-! ===== all plain instructions together, and the induction ===== -/
def ma_al : Instr → Bool
  | .new _ | .newarray _ | .anewarray _ | .multianewarray _ _ => true
  | _ => false
theorem ma_s_eq {sc : Nat × (Nat → Int32)} {ks : Nat → List Nat} {i : Instr} {o : List Nat} {L L' : ma_L} {S S' : List Value} {h h' : List ma_C} (ha : ma_al i = false) (hs : ma_s sc ks i o L S h = some (L', S', h')) : h'.length = h.length ∧ ma_sl h' = ma_sl h := by
  unfold ma_s at hs
  repeat' split at hs
  all_goals first
    | (cases hs; done)
    | (cases ha; done)
    | (cases hs; exact ⟨rfl, rfl⟩)
    | (cases hs; rename_i hk _; exact ⟨by simp, ma_sl_set hk rfl⟩)
    | (cases hs; rename_i hk _; exact ⟨by simp, ma_sl_set hk (by simp [ma_cz])⟩)
    | (cases hs; rename_i hk _ _; exact ⟨by simp, ma_sl_set hk rfl⟩)
section MA
variable {D : va_G} {cl : List vw_C} {ks : Nat → List Nat} {ad : Nat → Nat} {base : Nat} {G : List Jvm.Cond} {own : String} {ini : Bool} {p : Program} {l : Launch} {e : Env} {R : Room} {s : State} {m : MethodId} {args : Array Value} {below : List Frame} {meth : Method} {c : Code} {cc : ByteArray} {nL pc : Nat} {Q : State → Prop} {sc : Nat × (Nat → Int32)} {o : List Nat} {L L' : ma_L} {S S' : List Value} {h h' : List ma_C} {cells slots : Nat} {TF : State → Heap → Prop} {TK : String → Instr → List Nat → Prop} {mt : Nat → Option ma_M} {tx : Nat → Int32 → Option Int32} {ret : Option FieldType}
theorem ma_s_all {i : Instr} (X : ma_X D cl ks ad base sc G own ini p s m args meth c cc nL) (hT : TF s s.heap) (hTX : ma_TX D cl ks ad base sc G TF TK tx l) (hdg : decode cc pc = .ok (i, ma_ln pc i)) (hlk : ma_lk cl ks mt G TK own ini ret pc i o) (hs : ma_s sc ks i o L S h = some (L', S', h')) (hce : cells + (h'.length - h.length) ≤ R.cells) (hsl : slots + (ma_sl h' - ma_sl h) ≤ R.slots)
    (k : ma_G D cl ad base p l e R s m args below meth c Q nL (pc + ma_ln pc i) L' S' h' (cells + (h'.length - h.length)) (slots + (ma_sl h' - ma_sl h))) : ma_G D cl ad base p l e R s m args below meth c Q nL pc L S h cells slots := by
  have kE : ma_al i = false → ma_G D cl ad base p l e R s m args below meth c Q nL (pc + ma_ln pc i) L' S' h' cells slots := by
    intro ha
    obtain ⟨e1, e2⟩ := ma_s_eq ha hs
    rw [e1, e2, Nat.sub_self, Nat.sub_self] at k
    exact k
  cases i with
  | lconst _ => exact ma_o_lconst X hdg hs (kE rfl)
  | aconst_null => exact ma_o_null X hdg hs (kE rfl)
  | iload _ => exact ma_o_iload X hdg hs (kE rfl)
  | iload_n _ => exact ma_o_iload_n X hdg hs (kE rfl)
  | lload _ => exact ma_o_lload X hdg hs (kE rfl)
  | lload_n _ => exact ma_o_lload_n X hdg hs (kE rfl)
  | aload _ => exact ma_o_aload X hdg hs (kE rfl)
  | aload_n _ => exact ma_o_aload_n X hdg hs (kE rfl)
  | istore _ => exact ma_o_istore X hdg hs (kE rfl)
  | istore_n _ => exact ma_o_istore_n X hdg hs (kE rfl)
  | lstore _ => exact ma_o_lstore X hdg hs (kE rfl)
  | lstore_n _ => exact ma_o_lstore_n X hdg hs (kE rfl)
  | astore _ => exact ma_o_astore X hdg hs (kE rfl)
  | astore_n _ => exact ma_o_astore_n X hdg hs (kE rfl)
  | iinc _ _ => exact ma_o_iinc X hdg hs (kE rfl)
  | iadd => exact ma_o_iadd X hdg hs (kE rfl)
  | isub => exact ma_o_isub X hdg hs (kE rfl)
  | imul => exact ma_o_imul X hdg hs (kE rfl)
  | iand => exact ma_o_iand X hdg hs (kE rfl)
  | ior => exact ma_o_ior X hdg hs (kE rfl)
  | ixor => exact ma_o_ixor X hdg hs (kE rfl)
  | idiv => exact ma_o_idiv X hdg hs (kE rfl)
  | irem => exact ma_o_irem X hdg hs (kE rfl)
  | ineg => exact ma_o_ineg X hdg hs (kE rfl)
  | ishl => exact ma_o_ishl X hdg hs (kE rfl)
  | ishr => exact ma_o_ishr X hdg hs (kE rfl)
  | iushr => exact ma_o_iushr X hdg hs (kE rfl)
  | ladd => exact ma_o_ladd X hdg hs (kE rfl)
  | land => exact ma_o_land X hdg hs (kE rfl)
  | lshl => exact ma_o_lshl X hdg hs (kE rfl)
  | lshr => exact ma_o_lshr X hdg hs (kE rfl)
  | lcmp => exact ma_o_lcmp X hdg hs (kE rfl)
  | i2l => exact ma_o_i2l X hdg hs (kE rfl)
  | l2i => exact ma_o_l2i X hdg hs (kE rfl)
  | i2b => exact ma_o_i2b X hdg hs (kE rfl)
  | i2c => exact ma_o_i2c X hdg hs (kE rfl)
  | dup => exact ma_o_dup X hdg hs (kE rfl)
  | dup2 => exact ma_o_dup2 X hdg hs (kE rfl)
  | pop => exact ma_o_pop X hdg hs (kE rfl)
  | arraylength => exact ma_o_arraylength X hdg hs (kE rfl)
  | iaload => exact ma_o_iaload X hdg hs (kE rfl)
  | baload => exact ma_o_baload X hdg hs (kE rfl)
  | laload => exact ma_o_laload X hdg hs (kE rfl)
  | aaload => exact ma_o_aaload X hdg hs (kE rfl)
  | iastore => exact ma_o_iastore X hdg hs (kE rfl)
  | bastore => exact ma_o_bastore X hdg hs (kE rfl)
  | lastore => exact ma_o_lastore X hdg hs (kE rfl)
  | iconst _ => exact ma_o_iconst X hdg hs (kE rfl)
  | bipush n => exact ma_o_bipush X hdg hlk hs (kE rfl)
  | sipush n => exact ma_o_sipush X hdg hlk hs (kE rfl)
  | ldc x => exact ma_o_ldc X hdg hlk.1 (fun v hv H locs ls hH hF hsz kk => hTX X hT hF hsz hdg (hlk.2 v hv) (Or.inl ⟨x, v, rfl, hv, rfl⟩) kk) hs (kE rfl)
  | ldc_w x => exact ma_o_ldc_w X hdg hlk hs (kE rfl)
  | ldc2_w x => exact ma_o_ldc2_w X hdg hlk hs (kE rfl)
  | getfield x => exact ma_o_getfield X hdg hlk hs (kE rfl)
  | putfield x => exact ma_o_putfield X hdg hlk hs (kE rfl)
  | aastore => exact ma_o_aastore X hdg hlk hs (kE rfl)
  | new x =>
    have hq : ∃ ci r, o = ci :: r ∧ h' = h ++ [.inr (ci, ma_df (ks ci))] := by
      simp only [ma_s] at hs
      split at hs
      next ci r =>
        split at hs
        next => cases hs
        next => cases hs; exact ⟨ci, r, rfl, rfl⟩
      next => cases hs
    obtain ⟨ci, r, rfl, rfl⟩ := hq
    have e1 : (h ++ [Sum.inr (ci, ma_df (ks ci))] : List ma_C).length - h.length = 1 := by simp
    have e2 : ma_sl (h ++ [Sum.inr (ci, ma_df (ks ci))]) - ma_sl h = (ks ci).length := by rw [ma_sl_app]; simp [ma_sl, ma_cz, ma_df]
    rw [e1] at hce k
    rw [e2] at hsl k
    exact ma_o_new X hdg hlk hce (fun ci' r' q hq _ => by cases hq; exact hsl) (fun ci' r' hq => by cases hq; rfl) hs k
  | newarray a =>
    have hq : ∃ t n S2, S = .int n :: S2 ∧ h' = h ++ [.inl (t, n.toNatClampNeg, ma_new t)] := by
      simp only [ma_s] at hs
      split at hs
      next t n S2 _ =>
        split at hs
        next => cases hs
        next => cases hs; exact ⟨t, n, _, rfl, rfl⟩
      next => cases hs
    obtain ⟨t, n, S2, rfl, rfl⟩ := hq
    have e1 : (h ++ [Sum.inl (t, n.toNatClampNeg, ma_new t)] : List ma_C).length - h.length = 1 := by simp
    have e2 : ma_sl (h ++ [Sum.inl (t, n.toNatClampNeg, ma_new t)]) - ma_sl h = n.toNatClampNeg := by rw [ma_sl_app]; simp [ma_sl, ma_cz]
    rw [e1] at hce k
    rw [e2] at hsl k
    exact ma_o_newarray X hdg hlk hce (fun n' S' hq => by cases hq; exact hsl) (fun n' S' hq => by cases hq; rfl) hs k
  | anewarray x =>
    have hq : ∃ n S2, S = .int n :: S2 ∧ h' = h ++ [.inl (3, n.toNatClampNeg, ma_new 3)] := by
      simp only [ma_s] at hs
      split at hs
      next n S2 =>
        split at hs
        next => cases hs
        next => cases hs; exact ⟨n, _, rfl, rfl⟩
      next => cases hs
    obtain ⟨n, S2, rfl, rfl⟩ := hq
    have e1 : (h ++ [Sum.inl (3, n.toNatClampNeg, ma_new 3)] : List ma_C).length - h.length = 1 := by simp
    have e2 : ma_sl (h ++ [Sum.inl (3, n.toNatClampNeg, ma_new 3)]) - ma_sl h = n.toNatClampNeg := by rw [ma_sl_app]; simp [ma_sl, ma_cz]
    rw [e1] at hce k
    rw [e2] at hsl k
    exact ma_o_anewarray X hdg hlk hce (fun n' S' hq => by cases hq; exact hsl) (fun n' S' hq => by cases hq; rfl) hs k
  | multianewarray x dd =>
    by_cases hd : dd = 2
    · subst hd
      exact ma_o_multi X hdg hlk hs hce hsl k
    · exfalso
      unfold ma_s at hs
      split at hs <;> first | (cases hs; done) | (rename_i hq; cases hq; done) | (rename_i hq; cases hq; exact absurd rfl hd)
  | _ => exact absurd hs (by simp [ma_s])
end MA
