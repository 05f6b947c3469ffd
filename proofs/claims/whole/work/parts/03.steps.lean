section MS
variable {D : va_G} {cl : List vw_C} {ks : Nat → List Nat} {ad : Nat → Nat} {base : Nat} {G : List Jvm.Cond} {own : String} {ini : Bool} {p : Program} {l : Launch} {e : Env} {R : Room} {s : State} {m : MethodId} {args : Array Value} {below : List Frame} {meth : Method} {c : Code} {cc : ByteArray} {nL pc : Nat} {Q : State → Prop} {sc : Nat × (Nat → Int32)} {o : List Nat} {L L' : ma_L} {S S' : List Value} {h h' : List ma_C} {cells slots : Nat}

theorem ma_o_iconst {n : Int} (X : ma_X D cl ks ad base sc G own ini p s m args meth c cc nL) (hdg : decode cc pc = .ok (.iconst n, 1)) (hs : ma_s sc ks (.iconst n) o L S h = some (L', S', h')) (k : ma_G D cl ad base p l e R s m args below meth c Q nL (pc + 1) L' S' h' cells slots) : ma_G D cl ad base p l e R s m args below meth c Q nL pc L S h cells slots := by
  obtain ⟨hx, hb, hml, hown, hts, hkn, had, hini, hcls, hsx, hsb⟩ := X
  simp only [ma_s] at hs
  cases hs
  intro H locs ls hH hF hl hn
  exact lv_iconst hx hb hdg rfl (k H locs ls hH hF hl hn)

theorem ma_o_bipush {n : Int} (X : ma_X D cl ks ad base sc G own ini p s m args meth c cc nL) (hdg : decode cc pc = .ok (.bipush n, 2)) (hlk : (Int8.ofInt n).toInt32 = Int32.ofInt n) (hs : ma_s sc ks (.bipush n) o L S h = some (L', S', h')) (k : ma_G D cl ad base p l e R s m args below meth c Q nL (pc + 2) L' S' h' cells slots) : ma_G D cl ad base p l e R s m args below meth c Q nL pc L S h cells slots := by
  obtain ⟨hx, hb, hml, hown, hts, hkn, had, hini, hcls, hsx, hsb⟩ := X
  simp only [ma_s] at hs
  cases hs
  intro H locs ls hH hF hl hn
  exact lv_bipush hx hb hdg hlk (k H locs ls hH hF hl hn)

theorem ma_o_sipush {n : Int} (X : ma_X D cl ks ad base sc G own ini p s m args meth c cc nL) (hdg : decode cc pc = .ok (.sipush n, 3)) (hlk : (Int16.ofInt n).toInt32 = Int32.ofInt n) (hs : ma_s sc ks (.sipush n) o L S h = some (L', S', h')) (k : ma_G D cl ad base p l e R s m args below meth c Q nL (pc + 3) L' S' h' cells slots) : ma_G D cl ad base p l e R s m args below meth c Q nL pc L S h cells slots := by
  obtain ⟨hx, hb, hml, hown, hts, hkn, had, hini, hcls, hsx, hsb⟩ := X
  simp only [ma_s] at hs
  cases hs
  intro H locs ls hH hF hl hn
  exact lv_sipush hx hb hdg hlk (k H locs ls hH hF hl hn)

theorem ma_o_lconst {n : Fin 2} (X : ma_X D cl ks ad base sc G own ini p s m args meth c cc nL) (hdg : decode cc pc = .ok (.lconst n, 1)) (hs : ma_s sc ks (.lconst n) o L S h = some (L', S', h')) (k : ma_G D cl ad base p l e R s m args below meth c Q nL (pc + 1) L' S' h' cells slots) : ma_G D cl ad base p l e R s m args below meth c Q nL pc L S h cells slots := by
  obtain ⟨hx, hb, hml, hown, hts, hkn, had, hini, hcls, hsx, hsb⟩ := X
  simp only [ma_s] at hs
  cases hs
  intro H locs ls hH hF hl hn
  exact lv_lconst hx hb hdg rfl (k H locs ls hH hF hl hn)

theorem ma_o_null (X : ma_X D cl ks ad base sc G own ini p s m args meth c cc nL) (hdg : decode cc pc = .ok (.aconst_null, 1)) (hs : ma_s sc ks (.aconst_null) o L S h = some (L', S', h')) (k : ma_G D cl ad base p l e R s m args below meth c Q nL (pc + 1) L' S' h' cells slots) : ma_G D cl ad base p l e R s m args below meth c Q nL pc L S h cells slots := by
  obtain ⟨hx, hb, hml, hown, hts, hkn, had, hini, hcls, hsx, hsb⟩ := X
  simp only [ma_s] at hs
  cases hs
  intro H locs ls hH hF hl hn
  exact lv_null hx hb hdg (k H locs ls hH hF hl hn)

theorem ma_o_iadd (X : ma_X D cl ks ad base sc G own ini p s m args meth c cc nL) (hdg : decode cc pc = .ok (.iadd, 1)) (hs : ma_s sc ks (.iadd) o L S h = some (L', S', h')) (k : ma_G D cl ad base p l e R s m args below meth c Q nL (pc + 1) L' S' h' cells slots) : ma_G D cl ad base p l e R s m args below meth c Q nL pc L S h cells slots := by
  obtain ⟨hx, hb, hml, hown, hts, hkn, had, hini, hcls, hsx, hsb⟩ := X
  simp only [ma_s] at hs
  split at hs
  · cases hs
    intro H locs ls hH hF hl hn
    exact lv_iadd hx hb hdg (k H locs ls hH hF hl hn)
  · cases hs

theorem ma_o_isub (X : ma_X D cl ks ad base sc G own ini p s m args meth c cc nL) (hdg : decode cc pc = .ok (.isub, 1)) (hs : ma_s sc ks (.isub) o L S h = some (L', S', h')) (k : ma_G D cl ad base p l e R s m args below meth c Q nL (pc + 1) L' S' h' cells slots) : ma_G D cl ad base p l e R s m args below meth c Q nL pc L S h cells slots := by
  obtain ⟨hx, hb, hml, hown, hts, hkn, had, hini, hcls, hsx, hsb⟩ := X
  simp only [ma_s] at hs
  split at hs
  · cases hs
    intro H locs ls hH hF hl hn
    exact lv_isub hx hb hdg (k H locs ls hH hF hl hn)
  · cases hs

theorem ma_o_imul (X : ma_X D cl ks ad base sc G own ini p s m args meth c cc nL) (hdg : decode cc pc = .ok (.imul, 1)) (hs : ma_s sc ks (.imul) o L S h = some (L', S', h')) (k : ma_G D cl ad base p l e R s m args below meth c Q nL (pc + 1) L' S' h' cells slots) : ma_G D cl ad base p l e R s m args below meth c Q nL pc L S h cells slots := by
  obtain ⟨hx, hb, hml, hown, hts, hkn, had, hini, hcls, hsx, hsb⟩ := X
  simp only [ma_s] at hs
  split at hs
  · cases hs
    intro H locs ls hH hF hl hn
    exact lv_imul hx hb hdg (k H locs ls hH hF hl hn)
  · cases hs

theorem ma_o_iand (X : ma_X D cl ks ad base sc G own ini p s m args meth c cc nL) (hdg : decode cc pc = .ok (.iand, 1)) (hs : ma_s sc ks (.iand) o L S h = some (L', S', h')) (k : ma_G D cl ad base p l e R s m args below meth c Q nL (pc + 1) L' S' h' cells slots) : ma_G D cl ad base p l e R s m args below meth c Q nL pc L S h cells slots := by
  obtain ⟨hx, hb, hml, hown, hts, hkn, had, hini, hcls, hsx, hsb⟩ := X
  simp only [ma_s] at hs
  split at hs
  · cases hs
    intro H locs ls hH hF hl hn
    exact lv_iand hx hb hdg (k H locs ls hH hF hl hn)
  · cases hs

theorem ma_o_ior (X : ma_X D cl ks ad base sc G own ini p s m args meth c cc nL) (hdg : decode cc pc = .ok (.ior, 1)) (hs : ma_s sc ks (.ior) o L S h = some (L', S', h')) (k : ma_G D cl ad base p l e R s m args below meth c Q nL (pc + 1) L' S' h' cells slots) : ma_G D cl ad base p l e R s m args below meth c Q nL pc L S h cells slots := by
  obtain ⟨hx, hb, hml, hown, hts, hkn, had, hini, hcls, hsx, hsb⟩ := X
  simp only [ma_s] at hs
  split at hs
  · cases hs
    intro H locs ls hH hF hl hn
    exact lv_ior hx hb hdg (k H locs ls hH hF hl hn)
  · cases hs

theorem ma_o_ixor (X : ma_X D cl ks ad base sc G own ini p s m args meth c cc nL) (hdg : decode cc pc = .ok (.ixor, 1)) (hs : ma_s sc ks (.ixor) o L S h = some (L', S', h')) (k : ma_G D cl ad base p l e R s m args below meth c Q nL (pc + 1) L' S' h' cells slots) : ma_G D cl ad base p l e R s m args below meth c Q nL pc L S h cells slots := by
  obtain ⟨hx, hb, hml, hown, hts, hkn, had, hini, hcls, hsx, hsb⟩ := X
  simp only [ma_s] at hs
  split at hs
  · cases hs
    intro H locs ls hH hF hl hn
    exact lv_ixor hx hb hdg (k H locs ls hH hF hl hn)
  · cases hs

theorem ma_o_ineg (X : ma_X D cl ks ad base sc G own ini p s m args meth c cc nL) (hdg : decode cc pc = .ok (.ineg, 1)) (hs : ma_s sc ks (.ineg) o L S h = some (L', S', h')) (k : ma_G D cl ad base p l e R s m args below meth c Q nL (pc + 1) L' S' h' cells slots) : ma_G D cl ad base p l e R s m args below meth c Q nL pc L S h cells slots := by
  obtain ⟨hx, hb, hml, hown, hts, hkn, had, hini, hcls, hsx, hsb⟩ := X
  simp only [ma_s] at hs
  split at hs
  · cases hs
    intro H locs ls hH hF hl hn
    exact lv_ineg hx hb hdg (k H locs ls hH hF hl hn)
  · cases hs

theorem ma_o_ishl (X : ma_X D cl ks ad base sc G own ini p s m args meth c cc nL) (hdg : decode cc pc = .ok (.ishl, 1)) (hs : ma_s sc ks (.ishl) o L S h = some (L', S', h')) (k : ma_G D cl ad base p l e R s m args below meth c Q nL (pc + 1) L' S' h' cells slots) : ma_G D cl ad base p l e R s m args below meth c Q nL pc L S h cells slots := by
  obtain ⟨hx, hb, hml, hown, hts, hkn, had, hini, hcls, hsx, hsb⟩ := X
  simp only [ma_s] at hs
  split at hs
  · cases hs
    intro H locs ls hH hF hl hn
    exact lv_ishl hx hb hdg (k H locs ls hH hF hl hn)
  · cases hs

theorem ma_o_ishr (X : ma_X D cl ks ad base sc G own ini p s m args meth c cc nL) (hdg : decode cc pc = .ok (.ishr, 1)) (hs : ma_s sc ks (.ishr) o L S h = some (L', S', h')) (k : ma_G D cl ad base p l e R s m args below meth c Q nL (pc + 1) L' S' h' cells slots) : ma_G D cl ad base p l e R s m args below meth c Q nL pc L S h cells slots := by
  obtain ⟨hx, hb, hml, hown, hts, hkn, had, hini, hcls, hsx, hsb⟩ := X
  simp only [ma_s] at hs
  split at hs
  · cases hs
    intro H locs ls hH hF hl hn
    exact lv_ishr hx hb hdg (k H locs ls hH hF hl hn)
  · cases hs

theorem ma_o_ladd (X : ma_X D cl ks ad base sc G own ini p s m args meth c cc nL) (hdg : decode cc pc = .ok (.ladd, 1)) (hs : ma_s sc ks (.ladd) o L S h = some (L', S', h')) (k : ma_G D cl ad base p l e R s m args below meth c Q nL (pc + 1) L' S' h' cells slots) : ma_G D cl ad base p l e R s m args below meth c Q nL pc L S h cells slots := by
  obtain ⟨hx, hb, hml, hown, hts, hkn, had, hini, hcls, hsx, hsb⟩ := X
  simp only [ma_s] at hs
  split at hs
  · cases hs
    intro H locs ls hH hF hl hn
    exact lv_ladd hx hb hdg (k H locs ls hH hF hl hn)
  · cases hs

theorem ma_o_land (X : ma_X D cl ks ad base sc G own ini p s m args meth c cc nL) (hdg : decode cc pc = .ok (.land, 1)) (hs : ma_s sc ks (.land) o L S h = some (L', S', h')) (k : ma_G D cl ad base p l e R s m args below meth c Q nL (pc + 1) L' S' h' cells slots) : ma_G D cl ad base p l e R s m args below meth c Q nL pc L S h cells slots := by
  obtain ⟨hx, hb, hml, hown, hts, hkn, had, hini, hcls, hsx, hsb⟩ := X
  simp only [ma_s] at hs
  split at hs
  · cases hs
    intro H locs ls hH hF hl hn
    exact lv_land hx hb hdg (k H locs ls hH hF hl hn)
  · cases hs

theorem ma_o_iushr (X : ma_X D cl ks ad base sc G own ini p s m args meth c cc nL) (hdg : decode cc pc = .ok (.iushr, 1)) (hs : ma_s sc ks (.iushr) o L S h = some (L', S', h')) (k : ma_G D cl ad base p l e R s m args below meth c Q nL (pc + 1) L' S' h' cells slots) : ma_G D cl ad base p l e R s m args below meth c Q nL pc L S h cells slots := by
  obtain ⟨hx, hb, hml, hown, hts, hkn, had, hini, hcls, hsx, hsb⟩ := X
  simp only [ma_s] at hs
  split at hs
  · cases hs
    intro H locs ls hH hF hl hn
    exact lv_iushr hx hb hdg rfl (k H locs ls hH hF hl hn)
  · cases hs

theorem ma_o_lshl (X : ma_X D cl ks ad base sc G own ini p s m args meth c cc nL) (hdg : decode cc pc = .ok (.lshl, 1)) (hs : ma_s sc ks (.lshl) o L S h = some (L', S', h')) (k : ma_G D cl ad base p l e R s m args below meth c Q nL (pc + 1) L' S' h' cells slots) : ma_G D cl ad base p l e R s m args below meth c Q nL pc L S h cells slots := by
  obtain ⟨hx, hb, hml, hown, hts, hkn, had, hini, hcls, hsx, hsb⟩ := X
  simp only [ma_s] at hs
  split at hs
  · cases hs
    intro H locs ls hH hF hl hn
    exact lv_lshl hx hb hdg rfl (k H locs ls hH hF hl hn)
  · cases hs

theorem ma_o_lshr (X : ma_X D cl ks ad base sc G own ini p s m args meth c cc nL) (hdg : decode cc pc = .ok (.lshr, 1)) (hs : ma_s sc ks (.lshr) o L S h = some (L', S', h')) (k : ma_G D cl ad base p l e R s m args below meth c Q nL (pc + 1) L' S' h' cells slots) : ma_G D cl ad base p l e R s m args below meth c Q nL pc L S h cells slots := by
  obtain ⟨hx, hb, hml, hown, hts, hkn, had, hini, hcls, hsx, hsb⟩ := X
  simp only [ma_s] at hs
  split at hs
  · cases hs
    intro H locs ls hH hF hl hn
    exact lv_lshr hx hb hdg rfl (k H locs ls hH hF hl hn)
  · cases hs

theorem ma_o_i2l (X : ma_X D cl ks ad base sc G own ini p s m args meth c cc nL) (hdg : decode cc pc = .ok (.i2l, 1)) (hs : ma_s sc ks (.i2l) o L S h = some (L', S', h')) (k : ma_G D cl ad base p l e R s m args below meth c Q nL (pc + 1) L' S' h' cells slots) : ma_G D cl ad base p l e R s m args below meth c Q nL pc L S h cells slots := by
  obtain ⟨hx, hb, hml, hown, hts, hkn, had, hini, hcls, hsx, hsb⟩ := X
  simp only [ma_s] at hs
  split at hs
  · cases hs
    intro H locs ls hH hF hl hn
    exact lv_i2l hx hb hdg rfl (k H locs ls hH hF hl hn)
  · cases hs

theorem ma_o_l2i (X : ma_X D cl ks ad base sc G own ini p s m args meth c cc nL) (hdg : decode cc pc = .ok (.l2i, 1)) (hs : ma_s sc ks (.l2i) o L S h = some (L', S', h')) (k : ma_G D cl ad base p l e R s m args below meth c Q nL (pc + 1) L' S' h' cells slots) : ma_G D cl ad base p l e R s m args below meth c Q nL pc L S h cells slots := by
  obtain ⟨hx, hb, hml, hown, hts, hkn, had, hini, hcls, hsx, hsb⟩ := X
  simp only [ma_s] at hs
  split at hs
  · cases hs
    intro H locs ls hH hF hl hn
    exact lv_l2i hx hb hdg rfl (k H locs ls hH hF hl hn)
  · cases hs

theorem ma_o_i2b (X : ma_X D cl ks ad base sc G own ini p s m args meth c cc nL) (hdg : decode cc pc = .ok (.i2b, 1)) (hs : ma_s sc ks (.i2b) o L S h = some (L', S', h')) (k : ma_G D cl ad base p l e R s m args below meth c Q nL (pc + 1) L' S' h' cells slots) : ma_G D cl ad base p l e R s m args below meth c Q nL pc L S h cells slots := by
  obtain ⟨hx, hb, hml, hown, hts, hkn, had, hini, hcls, hsx, hsb⟩ := X
  simp only [ma_s] at hs
  split at hs
  · cases hs
    intro H locs ls hH hF hl hn
    exact lv_i2b hx hb hdg rfl (k H locs ls hH hF hl hn)
  · cases hs

theorem ma_o_i2c (X : ma_X D cl ks ad base sc G own ini p s m args meth c cc nL) (hdg : decode cc pc = .ok (.i2c, 1)) (hs : ma_s sc ks (.i2c) o L S h = some (L', S', h')) (k : ma_G D cl ad base p l e R s m args below meth c Q nL (pc + 1) L' S' h' cells slots) : ma_G D cl ad base p l e R s m args below meth c Q nL pc L S h cells slots := by
  obtain ⟨hx, hb, hml, hown, hts, hkn, had, hini, hcls, hsx, hsb⟩ := X
  simp only [ma_s] at hs
  split at hs
  · cases hs
    intro H locs ls hH hF hl hn
    exact lv_i2c hx hb hdg rfl (k H locs ls hH hF hl hn)
  · cases hs

theorem ma_o_lcmp (X : ma_X D cl ks ad base sc G own ini p s m args meth c cc nL) (hdg : decode cc pc = .ok (.lcmp, 1)) (hs : ma_s sc ks (.lcmp) o L S h = some (L', S', h')) (k : ma_G D cl ad base p l e R s m args below meth c Q nL (pc + 1) L' S' h' cells slots) : ma_G D cl ad base p l e R s m args below meth c Q nL pc L S h cells slots := by
  obtain ⟨hx, hb, hml, hown, hts, hkn, had, hini, hcls, hsx, hsb⟩ := X
  simp only [ma_s] at hs
  split at hs
  · cases hs
    intro H locs ls hH hF hl hn
    exact W.lcmp hx hb hdg (k H locs ls hH hF hl hn)
  · cases hs

theorem ma_o_idiv (X : ma_X D cl ks ad base sc G own ini p s m args meth c cc nL) (hdg : decode cc pc = .ok (.idiv, 1)) (hs : ma_s sc ks (.idiv) o L S h = some (L', S', h')) (k : ma_G D cl ad base p l e R s m args below meth c Q nL (pc + 1) L' S' h' cells slots) : ma_G D cl ad base p l e R s m args below meth c Q nL pc L S h cells slots := by
  obtain ⟨hx, hb, hml, hown, hts, hkn, had, hini, hcls, hsx, hsb⟩ := X
  simp only [ma_s] at hs
  split at hs
  · split at hs
    next => cases hs
    next hz =>
      cases hs
      intro H locs ls hH hF hl hn
      exact lv_idiv hx hb hdg hz (k H locs ls hH hF hl hn)
  · cases hs

theorem ma_o_irem (X : ma_X D cl ks ad base sc G own ini p s m args meth c cc nL) (hdg : decode cc pc = .ok (.irem, 1)) (hs : ma_s sc ks (.irem) o L S h = some (L', S', h')) (k : ma_G D cl ad base p l e R s m args below meth c Q nL (pc + 1) L' S' h' cells slots) : ma_G D cl ad base p l e R s m args below meth c Q nL pc L S h cells slots := by
  obtain ⟨hx, hb, hml, hown, hts, hkn, had, hini, hcls, hsx, hsb⟩ := X
  simp only [ma_s] at hs
  split at hs
  · split at hs
    next => cases hs
    next hz =>
      cases hs
      intro H locs ls hH hF hl hn
      exact lv_irem hx hb hdg hz (k H locs ls hH hF hl hn)
  · cases hs

theorem ma_o_dup (X : ma_X D cl ks ad base sc G own ini p s m args meth c cc nL) (hdg : decode cc pc = .ok (.dup, 1)) (hs : ma_s sc ks (.dup) o L S h = some (L', S', h')) (k : ma_G D cl ad base p l e R s m args below meth c Q nL (pc + 1) L' S' h' cells slots) : ma_G D cl ad base p l e R s m args below meth c Q nL pc L S h cells slots := by
  obtain ⟨hx, hb, hml, hown, hts, hkn, had, hini, hcls, hsx, hsb⟩ := X
  simp only [ma_s] at hs
  split at hs
  · cases hs
    intro H locs ls hH hF hl hn
    exact lv_dup hx hb hdg rfl (k H locs ls hH hF hl hn)
  · cases hs
    intro H locs ls hH hF hl hn
    exact lv_dup hx hb hdg rfl (k H locs ls hH hF hl hn)
  · cases hs

theorem ma_o_dup2 (X : ma_X D cl ks ad base sc G own ini p s m args meth c cc nL) (hdg : decode cc pc = .ok (.dup2, 1)) (hs : ma_s sc ks (.dup2) o L S h = some (L', S', h')) (k : ma_G D cl ad base p l e R s m args below meth c Q nL (pc + 1) L' S' h' cells slots) : ma_G D cl ad base p l e R s m args below meth c Q nL pc L S h cells slots := by
  obtain ⟨hx, hb, hml, hown, hts, hkn, had, hini, hcls, hsx, hsb⟩ := X
  simp only [ma_s] at hs
  split at hs
  · cases hs
    intro H locs ls hH hF hl hn
    exact lv_dup2_11 hx hb hdg rfl rfl (k H locs ls hH hF hl hn)
  · cases hs
    intro H locs ls hH hF hl hn
    exact lv_dup2_11 hx hb hdg rfl rfl (k H locs ls hH hF hl hn)
  · cases hs

theorem ma_o_pop (X : ma_X D cl ks ad base sc G own ini p s m args meth c cc nL) (hdg : decode cc pc = .ok (.pop, 1)) (hs : ma_s sc ks (.pop) o L S h = some (L', S', h')) (k : ma_G D cl ad base p l e R s m args below meth c Q nL (pc + 1) L' S' h' cells slots) : ma_G D cl ad base p l e R s m args below meth c Q nL pc L S h cells slots := by
  obtain ⟨hx, hb, hml, hown, hts, hkn, had, hini, hcls, hsx, hsb⟩ := X
  simp only [ma_s] at hs
  split at hs
  · cases hs
    intro H locs ls hH hF hl hn
    exact lv_pop (va := .int _) hx hb hdg rfl (k H locs ls hH hF hl hn)
  · cases hs
    intro H locs ls hH hF hl hn
    exact lv_pop (va := .ref _) hx hb hdg rfl (k H locs ls hH hF hl hn)
  · cases hs

theorem ma_o_iload {j : Nat} (X : ma_X D cl ks ad base sc G own ini p s m args meth c cc nL) (hdg : decode cc pc = .ok (.iload j, 2)) (hs : ma_s sc ks (.iload j) o L S h = some (L', S', h')) (k : ma_G D cl ad base p l e R s m args below meth c Q nL (pc + 2) L' S' h' cells slots) : ma_G D cl ad base p l e R s m args below meth c Q nL pc L S h cells slots := by
  obtain ⟨hx, hb, hml, hown, hts, hkn, had, hini, hcls, hsx, hsb⟩ := X
  simp only [ma_s] at hs
  split at hs
  next x hq =>
    cases hs
    intro H locs ls hH hF hl hn
    exact lv_iload hx hb hdg (ma_lv_get hl hq (Or.inl rfl)) (k H locs ls hH hF hl hn)
  next => cases hs

theorem ma_o_iload_n {j : Fin 4} (X : ma_X D cl ks ad base sc G own ini p s m args meth c cc nL) (hdg : decode cc pc = .ok (.iload_n j, 1)) (hs : ma_s sc ks (.iload_n j) o L S h = some (L', S', h')) (k : ma_G D cl ad base p l e R s m args below meth c Q nL (pc + 1) L' S' h' cells slots) : ma_G D cl ad base p l e R s m args below meth c Q nL pc L S h cells slots := by
  obtain ⟨hx, hb, hml, hown, hts, hkn, had, hini, hcls, hsx, hsb⟩ := X
  simp only [ma_s] at hs
  split at hs
  next x hq =>
    cases hs
    intro H locs ls hH hF hl hn
    exact lv_iload_n hx hb hdg rfl (ma_lv_get hl hq (Or.inl rfl)) (k H locs ls hH hF hl hn)
  next => cases hs

theorem ma_o_lload {j : Nat} (X : ma_X D cl ks ad base sc G own ini p s m args meth c cc nL) (hdg : decode cc pc = .ok (.lload j, 2)) (hs : ma_s sc ks (.lload j) o L S h = some (L', S', h')) (k : ma_G D cl ad base p l e R s m args below meth c Q nL (pc + 2) L' S' h' cells slots) : ma_G D cl ad base p l e R s m args below meth c Q nL pc L S h cells slots := by
  obtain ⟨hx, hb, hml, hown, hts, hkn, had, hini, hcls, hsx, hsb⟩ := X
  simp only [ma_s] at hs
  split at hs
  next x hq hq2 =>
    cases hs
    intro H locs ls hH hF hl hn
    exact lv_lload hx hb hdg (ma_lv_get hl hq (Or.inr hq2)) (k H locs ls hH hF hl hn)
  next => cases hs

theorem ma_o_lload_n {j : Fin 4} (X : ma_X D cl ks ad base sc G own ini p s m args meth c cc nL) (hdg : decode cc pc = .ok (.lload_n j, 1)) (hs : ma_s sc ks (.lload_n j) o L S h = some (L', S', h')) (k : ma_G D cl ad base p l e R s m args below meth c Q nL (pc + 1) L' S' h' cells slots) : ma_G D cl ad base p l e R s m args below meth c Q nL pc L S h cells slots := by
  obtain ⟨hx, hb, hml, hown, hts, hkn, had, hini, hcls, hsx, hsb⟩ := X
  simp only [ma_s] at hs
  split at hs
  next x hq hq2 =>
    cases hs
    intro H locs ls hH hF hl hn
    exact lv_lload_n hx hb hdg rfl (ma_lv_get hl hq (Or.inr hq2)) (k H locs ls hH hF hl hn)
  next => cases hs

theorem ma_o_aload {j : Nat} (X : ma_X D cl ks ad base sc G own ini p s m args meth c cc nL) (hdg : decode cc pc = .ok (.aload j, 2)) (hs : ma_s sc ks (.aload j) o L S h = some (L', S', h')) (k : ma_G D cl ad base p l e R s m args below meth c Q nL (pc + 2) L' S' h' cells slots) : ma_G D cl ad base p l e R s m args below meth c Q nL pc L S h cells slots := by
  obtain ⟨hx, hb, hml, hown, hts, hkn, had, hini, hcls, hsx, hsb⟩ := X
  simp only [ma_s] at hs
  split at hs
  next x hq =>
    cases hs
    intro H locs ls hH hF hl hn
    exact lv_aload hx hb hdg (ma_lv_get hl hq (Or.inl rfl)) (k H locs ls hH hF hl hn)
  next hq =>
    cases hs
    intro H locs ls hH hF hl hn
    exact lv_aloadN hx hb hdg (ma_lv_get hl hq (Or.inl rfl)) (k H locs ls hH hF hl hn)
  next => cases hs

theorem ma_o_aload_n {j : Fin 4} (X : ma_X D cl ks ad base sc G own ini p s m args meth c cc nL) (hdg : decode cc pc = .ok (.aload_n j, 1)) (hs : ma_s sc ks (.aload_n j) o L S h = some (L', S', h')) (k : ma_G D cl ad base p l e R s m args below meth c Q nL (pc + 1) L' S' h' cells slots) : ma_G D cl ad base p l e R s m args below meth c Q nL pc L S h cells slots := by
  obtain ⟨hx, hb, hml, hown, hts, hkn, had, hini, hcls, hsx, hsb⟩ := X
  simp only [ma_s] at hs
  split at hs
  next x hq =>
    cases hs
    intro H locs ls hH hF hl hn
    exact lv_aload_n hx hb hdg rfl (ma_lv_get hl hq (Or.inl rfl)) (k H locs ls hH hF hl hn)
  next hq =>
    cases hs
    intro H locs ls hH hF hl hn
    exact lv_aload_nN hx hb hdg rfl (ma_lv_get hl hq (Or.inl rfl)) (k H locs ls hH hF hl hn)
  next => cases hs

theorem ma_o_istore {j : Nat} (X : ma_X D cl ks ad base sc G own ini p s m args meth c cc nL) (hdg : decode cc pc = .ok (.istore j, 2)) (hs : ma_s sc ks (.istore j) o L S h = some (L', S', h')) (k : ma_G D cl ad base p l e R s m args below meth c Q nL (pc + 2) L' S' h' cells slots) : ma_G D cl ad base p l e R s m args below meth c Q nL pc L S h cells slots := by
  obtain ⟨hx, hb, hml, hown, hts, hkn, had, hini, hcls, hsx, hsb⟩ := X
  simp only [ma_s] at hs
  split at hs
  next =>
    split at hs
    next hlt =>
      cases hs
      intro H locs ls hH hF hl hn
      exact lv_istore hx hb hdg hl (by rw [← hn]; exact hlt) rfl (fun ls' hl' => k H locs ls' hH hF (ma_lv_set (v := .int _) rfl hl') (by simp [hn]))
    next => cases hs
  next => cases hs

theorem ma_o_istore_n {j : Fin 4} (X : ma_X D cl ks ad base sc G own ini p s m args meth c cc nL) (hdg : decode cc pc = .ok (.istore_n j, 1)) (hs : ma_s sc ks (.istore_n j) o L S h = some (L', S', h')) (k : ma_G D cl ad base p l e R s m args below meth c Q nL (pc + 1) L' S' h' cells slots) : ma_G D cl ad base p l e R s m args below meth c Q nL pc L S h cells slots := by
  obtain ⟨hx, hb, hml, hown, hts, hkn, had, hini, hcls, hsx, hsb⟩ := X
  simp only [ma_s] at hs
  split at hs
  next =>
    split at hs
    next hlt =>
      cases hs
      intro H locs ls hH hF hl hn
      exact lv_istore_n hx hb hdg rfl hl (by rw [← hn]; exact hlt) rfl (fun ls' hl' => k H locs ls' hH hF (ma_lv_set (v := .int _) rfl hl') (by simp [hn]))
    next => cases hs
  next => cases hs

theorem ma_o_lstore {j : Nat} (X : ma_X D cl ks ad base sc G own ini p s m args meth c cc nL) (hdg : decode cc pc = .ok (.lstore j, 2)) (hs : ma_s sc ks (.lstore j) o L S h = some (L', S', h')) (k : ma_G D cl ad base p l e R s m args below meth c Q nL (pc + 2) L' S' h' cells slots) : ma_G D cl ad base p l e R s m args below meth c Q nL pc L S h cells slots := by
  obtain ⟨hx, hb, hml, hown, hts, hkn, had, hini, hcls, hsx, hsb⟩ := X
  simp only [ma_s] at hs
  split at hs
  next =>
    split at hs
    next hlt =>
      cases hs
      intro H locs ls hH hF hl hn
      exact lv_lstore hx hb hdg hl (by rw [← hn]; exact hlt) rfl (fun ls' hl' => k H locs ls' hH hF (ma_lv_set2 hl') (by simp [hn]))
    next => cases hs
  next => cases hs

theorem ma_o_lstore_n {j : Fin 4} (X : ma_X D cl ks ad base sc G own ini p s m args meth c cc nL) (hdg : decode cc pc = .ok (.lstore_n j, 1)) (hs : ma_s sc ks (.lstore_n j) o L S h = some (L', S', h')) (k : ma_G D cl ad base p l e R s m args below meth c Q nL (pc + 1) L' S' h' cells slots) : ma_G D cl ad base p l e R s m args below meth c Q nL pc L S h cells slots := by
  obtain ⟨hx, hb, hml, hown, hts, hkn, had, hini, hcls, hsx, hsb⟩ := X
  simp only [ma_s] at hs
  split at hs
  next =>
    split at hs
    next hlt =>
      cases hs
      intro H locs ls hH hF hl hn
      exact lv_lstore_n hx hb hdg rfl hl (by rw [← hn]; exact hlt) rfl (fun ls' hl' => k H locs ls' hH hF (ma_lv_set2 hl') (by simp [hn]))
    next => cases hs
  next => cases hs

theorem ma_o_astore {j : Nat} (X : ma_X D cl ks ad base sc G own ini p s m args meth c cc nL) (hdg : decode cc pc = .ok (.astore j, 2)) (hs : ma_s sc ks (.astore j) o L S h = some (L', S', h')) (k : ma_G D cl ad base p l e R s m args below meth c Q nL (pc + 2) L' S' h' cells slots) : ma_G D cl ad base p l e R s m args below meth c Q nL pc L S h cells slots := by
  obtain ⟨hx, hb, hml, hown, hts, hkn, had, hini, hcls, hsx, hsb⟩ := X
  simp only [ma_s] at hs
  split at hs
  next =>
    split at hs
    next hlt =>
      cases hs
      intro H locs ls hH hF hl hn
      exact lv_astore hx hb hdg hl (by rw [← hn]; exact hlt) rfl (fun ls' hl' => k H locs ls' hH hF (ma_lv_set (v := .ref _) rfl hl') (by simp [hn]))
    next => cases hs
  next =>
    split at hs
    next hlt =>
      cases hs
      intro H locs ls hH hF hl hn
      exact lv_astoreN hx hb hdg hl (by rw [← hn]; exact hlt) rfl (fun ls' hl' => k H locs ls' hH hF (ma_lv_set (v := .null) rfl hl') (by simp [hn]))
    next => cases hs
  next => cases hs

theorem ma_o_astore_n {j : Fin 4} (X : ma_X D cl ks ad base sc G own ini p s m args meth c cc nL) (hdg : decode cc pc = .ok (.astore_n j, 1)) (hs : ma_s sc ks (.astore_n j) o L S h = some (L', S', h')) (k : ma_G D cl ad base p l e R s m args below meth c Q nL (pc + 1) L' S' h' cells slots) : ma_G D cl ad base p l e R s m args below meth c Q nL pc L S h cells slots := by
  obtain ⟨hx, hb, hml, hown, hts, hkn, had, hini, hcls, hsx, hsb⟩ := X
  simp only [ma_s] at hs
  split at hs
  next =>
    split at hs
    next hlt =>
      cases hs
      intro H locs ls hH hF hl hn
      exact lv_astore_n hx hb hdg rfl hl (by rw [← hn]; exact hlt) rfl (fun ls' hl' => k H locs ls' hH hF (ma_lv_set (v := .ref _) rfl hl') (by simp [hn]))
    next => cases hs
  next =>
    split at hs
    next hlt =>
      cases hs
      intro H locs ls hH hF hl hn
      exact lv_astore_nN hx hb hdg rfl hl (by rw [← hn]; exact hlt) rfl (fun ls' hl' => k H locs ls' hH hF (ma_lv_set (v := .null) rfl hl') (by simp [hn]))
    next => cases hs
  next => cases hs

theorem ma_o_iinc {j : Nat} {n : Int} (X : ma_X D cl ks ad base sc G own ini p s m args meth c cc nL) (hdg : decode cc pc = .ok (.iinc j n, 3)) (hs : ma_s sc ks (.iinc j n) o L S h = some (L', S', h')) (k : ma_G D cl ad base p l e R s m args below meth c Q nL (pc + 3) L' S' h' cells slots) : ma_G D cl ad base p l e R s m args below meth c Q nL pc L S h cells slots := by
  obtain ⟨hx, hb, hml, hown, hts, hkn, had, hini, hcls, hsx, hsb⟩ := X
  simp only [ma_s] at hs
  split at hs
  next x hq =>
    cases hs
    intro H locs ls hH hF hl hn
    obtain ⟨kq, hkq⟩ := List.mem_iff_getElem?.mp (ma_lv_mem (ad := ad) (q := (j, ma_va ad (.int x))).mpr ⟨_, ma_ld_some hq, Or.inl rfl, rfl⟩)
    exact lv_iinc hx hb hdg hl hkq rfl (by rw [← hn]; exact (List.getElem?_eq_some_iff.mp (ma_ld_some hq)).1) rfl (fun ls' hl' => k H locs ls' hH hF (ma_lv_set (v := .int _) rfl hl') (by simp [hn]))
  next => cases hs

theorem ma_o_ldc {x : Nat} (X : ma_X D cl ks ad base sc G own ini p s m args meth c cc nL) (hdg : decode cc pc = .ok (.ldc x, 2)) (hlk : ∀ v, o = [0, v] → Jvm.Cond.constant own x (Int32.ofNat v) ∈ G) (hlt : ∀ v, o = [1, v] → ∀ (H : Heap) (locs : List Loc) (ls : Array Slot), ma_H D cl ad base s H h → ma_F base s H locs → ls.size = nL → W p l e R s m args below meth c H locs cells slots Q (F0 m (pc + 2) ls (.ref (ad (4097 + v)) :: S.map (ma_va ad))) → W p l e R s m args below meth c H locs cells slots Q (F0 m pc ls (S.map (ma_va ad)))) (hs : ma_s sc ks (.ldc x) o L S h = some (L', S', h')) (k : ma_G D cl ad base p l e R s m args below meth c Q nL (pc + 2) L' S' h' cells slots) : ma_G D cl ad base p l e R s m args below meth c Q nL pc L S h cells slots := by
  obtain ⟨hx, hb, hml, hown, hts, hkn, had, hini, hcls, hsx, hsb⟩ := X
  simp only [ma_s] at hs
  split at hs
  next v =>
    cases hs
    intro H locs ls hH hF hl hn
    exact lv_ldc hx hb hown (hts _ (hlk v rfl)) hdg (k H locs ls hH hF hl hn)
  next v =>
    cases hs
    intro H locs ls hH hF hl hn
    exact hlt v rfl H locs ls hH hF hl.1 (k H locs ls hH hF hl hn)
  next => cases hs

theorem ma_o_ldc_w {x : Nat} (X : ma_X D cl ks ad base sc G own ini p s m args meth c cc nL) (hdg : decode cc pc = .ok (.ldc_w x, 3)) (hlk : ∀ v, o = [0, v] → Jvm.Cond.constant own x (Int32.ofNat v) ∈ G) (hs : ma_s sc ks (.ldc_w x) o L S h = some (L', S', h')) (k : ma_G D cl ad base p l e R s m args below meth c Q nL (pc + 3) L' S' h' cells slots) : ma_G D cl ad base p l e R s m args below meth c Q nL pc L S h cells slots := by
  obtain ⟨hx, hb, hml, hown, hts, hkn, had, hini, hcls, hsx, hsb⟩ := X
  simp only [ma_s] at hs
  split at hs
  next v =>
    cases hs
    intro H locs ls hH hF hl hn
    exact lv_ldcw hx hb hown (hts _ (hlk v rfl)) hdg (k H locs ls hH hF hl hn)
  next => cases hs

theorem ma_o_ldc2_w {x : Nat} (X : ma_X D cl ks ad base sc G own ini p s m args meth c cc nL) (hdg : decode cc pc = .ok (.ldc2_w x, 3)) (hlk : ∀ v, o = [v] → Jvm.Cond.constantLong own x (Int64.ofNat v) ∈ G) (hs : ma_s sc ks (.ldc2_w x) o L S h = some (L', S', h')) (k : ma_G D cl ad base p l e R s m args below meth c Q nL (pc + 3) L' S' h' cells slots) : ma_G D cl ad base p l e R s m args below meth c Q nL pc L S h cells slots := by
  obtain ⟨hx, hb, hml, hown, hts, hkn, had, hini, hcls, hsx, hsb⟩ := X
  simp only [ma_s] at hs
  split at hs
  next v =>
    cases hs
    intro H locs ls hH hF hl hn
    exact lv_ldc2 hx hb hown (hts _ (hlk v rfl)) hdg (k H locs ls hH hF hl hn)
  next => cases hs

theorem ma_H.adr {H : Heap} (hH : ma_H D cl ad base s H h) (had : ∀ k, k < 4096 → ad k = base + k) {k : Nat} {x : ma_C} (hk : h[k]? = some x) : ad k = base + k := had k (by
  have h1 := (List.getElem?_eq_some_iff.mp hk).1
  have h2 := hH.2.1
  omega)
theorem ma_one {H : Heap} (hH : ma_H D cl ad base s H h) {k ci : Nat} {fs : List Value} (hk : h[k]? = some (.inr (ci, fs))) : va_P D cl [(base + k, .inr (ci, fs.map (ma_va ad)))] H := by
  intro k0 q hq
  have h0 : k0 < 1 := (List.getElem?_eq_some_iff.mp hq).1
  rw [show k0 = 0 by omega] at hq
  cases hq
  obtain ⟨r, h1, -, h3⟩ := hH.2.2 _ _ hk
  exact ⟨r, h1, h3⟩

theorem ma_o_getfield {x : Nat} (X : ma_X D cl ks ad base sc G own ini p s m args meth c cc nL) (hdg : decode cc pc = .ok (.getfield x, 3)) (hlk : ∀ ci j r, o = ci :: j :: r → ma_fl cl G own x ci j) (hs : ma_s sc ks (.getfield x) o L S h = some (L', S', h')) (k : ma_G D cl ad base p l e R s m args below meth c Q nL (pc + 3) L' S' h' cells slots) : ma_G D cl ad base p l e R s m args below meth c Q nL pc L S h cells slots := by
  obtain ⟨hx, hb, hml, hown, hts, hkn, had, hini, hcls, hsx, hsb⟩ := X
  simp only [ma_s] at hs
  split at hs
  next ci j r kk S2 =>
    split at hs
    next c2 fs hk =>
      split at hs
      next he =>
        subst he
        split at hs
        next v hv =>
          cases hs
          intro H locs ls hH hF hl hn
          obtain ⟨C, T, N, hc, hj, hlnk⟩ := hlk _ _ _ rfl
          have eA := hH.adr had hk
          have hP := ma_one hH hk
          have hK : va_K D cl [] s := ⟨hkn, fun _ _ z => by simp at z⟩
          have hT : (T j).1 = C := ((hcls _ _ _ _ hc).2.2.2 j hj).1
          have hv' : (fs.map (ma_va ad))[j]? = some (ma_va ad v) := by rw [List.getElem?_map, hv]; rfl
          show W p l e R s m args below meth c H locs cells slots Q (F0 m pc ls (.ref (ad kk) :: S2.map (ma_va ad)))
          rw [eA]
          rcases hlnk with hlnk | ⟨host, hlnk⟩
          · exact va_get hx hb hts (hcls _ _ _ _ hc).1 hown hK hP 0 rfl hc j hj (hts _ hlnk) (fun z hz => by rw [hT] at hz; exact hz) hv' hdg (k H locs ls hH hF hl hn)
          · exact va_getN hx hb hts (hcls _ _ _ _ hc).1 hown hK hP 0 rfl hc j hj (hts _ hlnk) (fun z hz => by rw [hT] at hz; exact hz) hv' hdg (k H locs ls hH hF hl hn)
        next => cases hs
      next => cases hs
    next => cases hs
  next => cases hs

theorem ma_o_putfield {x : Nat} (X : ma_X D cl ks ad base sc G own ini p s m args meth c cc nL) (hdg : decode cc pc = .ok (.putfield x, 3)) (hlk : ∀ ci j t r, o = ci :: j :: t :: r → ma_fp cl G own ini x ci j ∧ (ks ci)[j]? = some t) (hs : ma_s sc ks (.putfield x) o L S h = some (L', S', h')) (k : ma_G D cl ad base p l e R s m args below meth c Q nL (pc + 3) L' S' h' cells slots) : ma_G D cl ad base p l e R s m args below meth c Q nL pc L S h cells slots := by
  obtain ⟨hx, hb, hml, hown, hts, hkn, had, hini, hcls, hsx, hsb⟩ := X
  simp only [ma_s] at hs
  split at hs
  next ci j t r v kk S2 =>
    split at hs
    next c2 fs hk =>
      split at hs
      next he =>
        obtain ⟨he, hjl, hfit⟩ := he
        subst he
        cases hs
        intro H locs ls hH hF hl hn
        obtain ⟨⟨C, T, N, hc, hj, hlnk⟩, hkt⟩ := hlk _ _ _ _ rfl
        obtain ⟨hin, hnm, hklen, hty⟩ := hcls _ _ _ _ hc
        obtain ⟨hT, ty, hd, t2, ht2, hkt2⟩ := hty j hj
        rw [hkt] at ht2
        cases ht2
        obtain ⟨hna, hft⟩ := ma_kt_fit (ad := ad) hkt2 hfit
        have eA := hH.adr had hk
        have hK : va_K D cl [] s := ⟨hkn, fun _ _ z => by simp at z⟩
        obtain ⟨r2, hr2, hlen, cell, q1, q2, q3, q4⟩ := hH.2.2 _ _ hk
        cases hc.symm.trans hr2
        have hap := va_apart (own := own) hts hin (fun k => (parseFieldDescriptor (T k).2.2.1).getD .int) (fun k hk => by obtain ⟨-, ty, h1, -⟩ := hty k hk; rw [h1]; rfl) hnm hK hc
        obtain ⟨hS, hfc, kC, hkC, hkind⟩ := hkn _ _ hc
        obtain ⟨cf, kf, fi, f, hi, hsl⟩ := hS j hj
        have hi2 : s.fieldFound? C (T j).2.1 (T j).2.2.1 = some (cf, kf, fi, f) := by rw [← hT]; exact hi
        have hlay := hts _ (hin _ (u_in_lay hj))
        unfold u_lay at hlay
        have hst := (u_facts hfc hkC (u_lays hts hin hj) hi).1
        have fin : ∀ H1 : Heap, H1[base + kk]? = some (cell.setSlot f.slot (ma_va ad v)) → H1.size = H.size → (∀ q, q ≠ base + kk → H1[q]? = H[q]?) → W p l e R s m args below meth c H1 (locs ++ [⟨base + kk, f.slot⟩]) cells slots Q (F0 m (pc + 3) ls (S'.map (ma_va ad))) := by
          intro H1 e1 e2 e3
          rw [hsl] at e1
          refine k H1 _ ls (hH.set e2 e3 ⟨_, hc, by simp [hlen], t_OB.to (V := updV (vp_V (fs.map (ma_va ad))) j (ma_va ad v)) ⟨_, e1, q2, q3, t_set q4 hap hj (ma_va ad v)⟩ (fun i _ => ?_)⟩) (hF.put (by omega) e3) hl hn
          rw [vp_updV_set (by simpa using hjl), ← List.map_set]
        show W p l e R s m args below meth c H locs cells slots Q (F0 m pc ls (ma_va ad v :: .ref (ad kk) :: S'.map (ma_va ad)))
        rw [eA]
        rcases hlnk with ⟨hfi, hlnk⟩ | ⟨hfi, hi0, hCo, hlnk⟩
        · rw [if_neg (by rw [hfi]; decide)] at hlay
          have h6 := u_store hfc hkC hkind hlay hi hd hna hft
          rcases hlnk with hlnk | ⟨host, hlnk⟩
          · exact W.putK hx hb (f := f) ⟨hown, hts _ hlnk, ⟨_, _, _, hi2⟩, hst⟩ (by rw [q2]; exact h6) q1 q3 (by rw [hsl]; exact k2_hasslot (q4 j hj)) rfl rfl hdg fin
          · exact va_WputK hx hb (f := f) hown (hts _ hlnk) hi2 hst (by rw [q2]; exact h6) q1 q3 (by rw [hsl]; exact k2_hasslot (q4 j hj)) rfl rfl hdg fin
        · rw [if_pos hfi] at hlay
          have hcf : m.cls = cf := by
            have h9 : s.vm.findClass C = some cf := by
              obtain ⟨_, _, c', _, _, _, -, -, hf', -, -, -, hown2, -⟩ := Cond.laysFinal_spec hlay
              cases hi.symm.trans hf'
              rw [hT] at hown2
              exact hown2
            rw [hCo, hown] at h9
            exact Option.some.inj h9
          have h6 := u_fits hfc hkC hkind (Or.inr hlay) hi hd hna hft
          exact W.putFinK hx hb hown (hts _ hlnk) hi2 hst hcf (hini hi0) (by rw [q2]; exact h6) q1 q3 (by rw [hsl]; exact k2_hasslot (q4 j hj)) rfl rfl hdg fin
      next => cases hs
    next => cases hs
  next => cases hs

theorem ma_o_iaload (X : ma_X D cl ks ad base sc G own ini p s m args meth c cc nL) (hdg : decode cc pc = .ok (.iaload, 1)) (hs : ma_s sc ks (.iaload) o L S h = some (L', S', h')) (k : ma_G D cl ad base p l e R s m args below meth c Q nL (pc + 1) L' S' h' cells slots) : ma_G D cl ad base p l e R s m args below meth c Q nL pc L S h cells slots := by
  obtain ⟨hx, hb, hml, hown, hts, hkn, had, hini, hcls, hsx, hsb⟩ := X
  simp only [ma_s] at hs
  split at hs
  next i kk S2 =>
    split at hs
    next n f hk =>
      split at hs
      next => cases hs
      next hz =>
        cases hs
        intro H locs ls hH hF hl hn
        unfold ma_g at hk
        split at hk
        next he =>
          cases hk
          subst he
          obtain ⟨scr, z1, z2, z3, z4, z5⟩ := hsx
          have z1' : H[ad 4096]? = some scr := (hF.1 _ hsb).trans z1
          exact W.iald (v := .int (sc.2 i.toNatClampNeg)) hx hb z1' z2 z3 (by rw [z4]; exact hz) (z5 _ (Nat.not_le.mp fun q => hz (Or.inr q))) rfl rfl hdg (k H locs ls hH hF hl hn)
        next =>
          have eA := hH.adr had hk
          obtain ⟨cA, h1, h2, h3⟩ := hH.2.2 _ _ hk
          show W p l e R s m args below meth c H locs cells slots Q (F0 m pc ls (.int i :: .ref (ad kk) :: S2.map (ma_va ad)))
          rw [eA]
          have hlt : i.toNatClampNeg < n := Nat.not_le.mp fun q => hz (Or.inr q)
          have h3 : H[base + kk]? = some (arrV cA n (fun j => .int (f j))) := h3
          exact W.iald (v := .int (f i.toNatClampNeg)) hx hb h3 (h1 n (fun j => .int (f j))) (fun q => by cases q) (by show ¬ (i < 0 ∨ (arrV _ _ _).slots.size ≤ _); rw [arrV_size]; exact hz) (by show (arrV _ _ _).slots[_]? = _; rw [arrV_read _ _ hlt]) rfl rfl hdg (k H locs ls hH hF hl hn)
    next => cases hs
  next => cases hs

theorem ma_o_arraylength (X : ma_X D cl ks ad base sc G own ini p s m args meth c cc nL) (hdg : decode cc pc = .ok (.arraylength, 1)) (hs : ma_s sc ks (.arraylength) o L S h = some (L', S', h')) (k : ma_G D cl ad base p l e R s m args below meth c Q nL (pc + 1) L' S' h' cells slots) : ma_G D cl ad base p l e R s m args below meth c Q nL pc L S h cells slots := by
  obtain ⟨hx, hb, hml, hown, hts, hkn, had, hini, hcls, hsx, hsb⟩ := X
  simp only [ma_s] at hs
  split at hs
  next kk S2 =>
    split at hs
    next t n f hk =>
      cases hs
      intro H locs ls hH hF hl hn
      unfold ma_g at hk
      split at hk
      next he =>
        cases hk
        subst he
        obtain ⟨scr, z1, z2, z3, z4, z5⟩ := hsx
        have z1' : H[ad 4096]? = some scr := (hF.1 _ hsb).trans z1
        exact W.alen hx hb z1' z2 (by rw [z4]) rfl rfl hdg (k H locs ls hH hF hl hn)
      next =>
        have eA := hH.adr had hk
        obtain ⟨cA, h1, h2, h3⟩ := hH.2.2 _ _ hk
        show W p l e R s m args below meth c H locs cells slots Q (F0 m pc ls (.ref (ad kk) :: S2.map (ma_va ad)))
        rw [eA]
        have hP : va_P D cl [(base + kk, .inl (cA, ma_ac ad (n, f)))] H := by
          intro k0 q hq
          have h0 : k0 < 1 := (List.getElem?_eq_some_iff.mp hq).1
          rw [show k0 = 0 by omega] at hq
          cases hq
          exact h3
        obtain ⟨q0, q1⟩ : ∃ z : Nat → Value, vp_cell cA (ma_ac ad (n, f)) = arrV cA n z := by
          unfold vp_cell ma_ac
          dsimp only
          split <;> exact ⟨_, rfl⟩
        rw [q1] at h3
        exact W.alen hx hb h3 (h1 n q0) (by rw [arrV_size]) rfl rfl hdg (k H locs ls hH hF hl hn)
    next => cases hs
  next => cases hs

theorem ma_o_baload (X : ma_X D cl ks ad base sc G own ini p s m args meth c cc nL) (hdg : decode cc pc = .ok (.baload, 1)) (hs : ma_s sc ks (.baload) o L S h = some (L', S', h')) (k : ma_G D cl ad base p l e R s m args below meth c Q nL (pc + 1) L' S' h' cells slots) : ma_G D cl ad base p l e R s m args below meth c Q nL pc L S h cells slots := by
  obtain ⟨hx, hb, hml, hown, hts, hkn, had, hini, hcls, hsx, hsb⟩ := X
  simp only [ma_s] at hs
  split at hs
  next i kk S2 =>
    split at hs
    next n f hk =>
      split at hs
      next => cases hs
      next hz =>
        cases hs
        intro H locs ls hH hF hl hn
        have eA := hH.adr had hk
        obtain ⟨cA, h1, h2, h3⟩ := hH.2.2 _ _ hk
        show W p l e R s m args below meth c H locs cells slots Q (F0 m pc ls (.int i :: .ref (ad kk) :: S2.map (ma_va ad)))
        rw [eA]
        have hlt : i.toNatClampNeg < n := Nat.not_le.mp fun q => hz (Or.inr q)
        have h3 : H[base + kk]? = some (arrV cA n (fun j => .int (f j))) := h3
        exact W.bald (v := .int (f i.toNatClampNeg)) hx hb h3 (h1 n (fun j => .int (f j))) (fun q => by cases q) (by show ¬ (i < 0 ∨ (arrV _ _ _).slots.size ≤ _); rw [arrV_size]; exact hz) (by show (arrV _ _ _).slots[_]? = _; rw [arrV_read _ _ hlt]) rfl rfl hdg (k H locs ls hH hF hl hn)
    next => cases hs
  next => cases hs

theorem ma_o_laload (X : ma_X D cl ks ad base sc G own ini p s m args meth c cc nL) (hdg : decode cc pc = .ok (.laload, 1)) (hs : ma_s sc ks (.laload) o L S h = some (L', S', h')) (k : ma_G D cl ad base p l e R s m args below meth c Q nL (pc + 1) L' S' h' cells slots) : ma_G D cl ad base p l e R s m args below meth c Q nL pc L S h cells slots := by
  obtain ⟨hx, hb, hml, hown, hts, hkn, had, hini, hcls, hsx, hsb⟩ := X
  simp only [ma_s] at hs
  split at hs
  next i kk S2 =>
    split at hs
    next n f hk =>
      split at hs
      next => cases hs
      next hz =>
        cases hs
        intro H locs ls hH hF hl hn
        have eA := hH.adr had hk
        obtain ⟨cA, h1, h2, h3⟩ := hH.2.2 _ _ hk
        show W p l e R s m args below meth c H locs cells slots Q (F0 m pc ls (.int i :: .ref (ad kk) :: S2.map (ma_va ad)))
        rw [eA]
        have hlt : i.toNatClampNeg < n := Nat.not_le.mp fun q => hz (Or.inr q)
        have h3 : H[base + kk]? = some (arrV cA n (fun j => .long (f j))) := h3
        exact W.lald (v := .long (f i.toNatClampNeg)) hx hb h3 (h1 n (fun j => .long (f j))) (fun q => by cases q) (by show ¬ (i < 0 ∨ (arrV _ _ _).slots.size ≤ _); rw [arrV_size]; exact hz) (by show (arrV _ _ _).slots[_]? = _; rw [arrV_read _ _ hlt]) rfl rfl hdg (k H locs ls hH hF hl hn)
    next => cases hs
  next => cases hs

theorem ma_rfm (r : Option Nat) : ma_va ad (va_rf r) = va_rf (r.map ad) := by cases r <;> rfl
theorem ma_tyr {t : Nat} (h : ¬ t < 3) : (ma_ty t).isReference = true := by
  match t, h with
  | 3, _ => rfl
  | t + 4, _ => rfl

theorem ma_o_aaload (X : ma_X D cl ks ad base sc G own ini p s m args meth c cc nL) (hdg : decode cc pc = .ok (.aaload, 1)) (hs : ma_s sc ks (.aaload) o L S h = some (L', S', h')) (k : ma_G D cl ad base p l e R s m args below meth c Q nL (pc + 1) L' S' h' cells slots) : ma_G D cl ad base p l e R s m args below meth c Q nL pc L S h cells slots := by
  obtain ⟨hx, hb, hml, hown, hts, hkn, had, hini, hcls, hsx, hsb⟩ := X
  simp only [ma_s] at hs
  split at hs
  next i kk S2 =>
    split at hs
    next t n f hk =>
      split at hs
      next => cases hs
      next hz =>
        cases hs
        intro H locs ls hH hF hl hn
        have eA := hH.adr had hk
        obtain ⟨cA, h1, h2, h3⟩ := hH.2.2 _ _ hk
        show W p l e R s m args below meth c H locs cells slots Q (F0 m pc ls (.int i :: .ref (ad kk) :: S2.map (ma_va ad)))
        rw [eA]
        have hz1 : ¬ (i < 0 ∨ n ≤ i.toNatClampNeg) := fun q => hz (q.elim Or.inl (fun q => Or.inr (Or.inl q)))
        have hz2 : ¬ t < 3 := fun q => hz (Or.inr (Or.inr q))
        have hlt : i.toNatClampNeg < n := Nat.not_le.mp fun q => hz1 (Or.inr q)
        have kk2 := k H locs ls hH hF hl hn
        have h3 : H[base + kk]? = some (arrV cA n (fun j => va_rf ((f j).map ad))) := h3
        rw [List.map_cons, ma_rfm] at kk2
        exact W.aald (v := va_rf ((f i.toNatClampNeg).map ad)) (ty := ma_ty t) hx hb h3 (h1 n (fun j => va_rf ((f j).map ad))) (ma_tyr hz2) (fun q => by cases q) (by show ¬ (i < 0 ∨ (arrV _ _ _).slots.size ≤ _); rw [arrV_size]; exact hz1) (by show (arrV _ _ _).slots[_]? = _; rw [arrV_read _ _ hlt]) rfl rfl hdg kk2
    next => cases hs
  next => cases hs

theorem ma_o_iastore (X : ma_X D cl ks ad base sc G own ini p s m args meth c cc nL) (hdg : decode cc pc = .ok (.iastore, 1)) (hs : ma_s sc ks (.iastore) o L S h = some (L', S', h')) (k : ma_G D cl ad base p l e R s m args below meth c Q nL (pc + 1) L' S' h' cells slots) : ma_G D cl ad base p l e R s m args below meth c Q nL pc L S h cells slots := by
  obtain ⟨hx, hb, hml, hown, hts, hkn, had, hini, hcls, hsx, hsb⟩ := X
  simp only [ma_s] at hs
  split at hs
  next x i kk S2 =>
    split at hs
    next n f hk =>
      split at hs
      next => cases hs
      next hz =>
        cases hs
        intro H locs ls hH hF hl hn
        have eA := hH.adr had hk
        obtain ⟨cA, h1, h2, h3⟩ := hH.2.2 _ _ hk
        show W p l e R s m args below meth c H locs cells slots Q (F0 m pc ls (.int x :: .int i :: .ref (ad kk) :: S'.map (ma_va ad)))
        rw [eA]
        refine W.iast hx hb h3 (h1 n (fun j => .int (f j))) (fun q => by cases q) (by show ¬ (i < 0 ∨ (arrV _ _ _).slots.size ≤ _); rw [arrV_size]; exact hz) rfl rfl hdg fun H1 e1 e2 e3 => ?_
        refine k H1 _ ls (hH.set e2 e3 ⟨cA, h1, h2, ?_⟩) (hF.put (by omega) e3) hl hn
        rw [e1]
        show some ((arrV cA n (fun j => .int (f j))).setSlot i.toNatClampNeg (.int x)) = some (arrV cA n (fun j => .int ((upd f i.toNatClampNeg x) j)))
        rw [arrV_store]
        congr 2
        funext q
        by_cases hq : q = i.toNatClampNeg
        · subst hq
          simp [updV, upd, vp_updL]
          try rfl
        · simp [updV, upd, vp_updL, hq]
    next => cases hs
  next => cases hs

theorem ma_o_bastore (X : ma_X D cl ks ad base sc G own ini p s m args meth c cc nL) (hdg : decode cc pc = .ok (.bastore, 1)) (hs : ma_s sc ks (.bastore) o L S h = some (L', S', h')) (k : ma_G D cl ad base p l e R s m args below meth c Q nL (pc + 1) L' S' h' cells slots) : ma_G D cl ad base p l e R s m args below meth c Q nL pc L S h cells slots := by
  obtain ⟨hx, hb, hml, hown, hts, hkn, had, hini, hcls, hsx, hsb⟩ := X
  simp only [ma_s] at hs
  split at hs
  next x i kk S2 =>
    split at hs
    next n f hk =>
      split at hs
      next => cases hs
      next hz =>
        cases hs
        intro H locs ls hH hF hl hn
        have eA := hH.adr had hk
        obtain ⟨cA, h1, h2, h3⟩ := hH.2.2 _ _ hk
        show W p l e R s m args below meth c H locs cells slots Q (F0 m pc ls (.int x :: .int i :: .ref (ad kk) :: S'.map (ma_va ad)))
        rw [eA]
        refine W.bast hx hb h3 (h1 n (fun j => .int (f j))) (fun q => by cases q) (by show ¬ (i < 0 ∨ (arrV _ _ _).slots.size ≤ _); rw [arrV_size]; exact hz) rfl rfl hdg fun H1 e1 e2 e3 => ?_
        refine k H1 _ ls (hH.set e2 e3 ⟨cA, h1, h2, ?_⟩) (hF.put (by omega) e3) hl hn
        rw [e1]
        show some ((arrV cA n (fun j => .int (f j))).setSlot i.toNatClampNeg (narrow .byte (.int x))) = some (arrV cA n (fun j => .int ((upd f i.toNatClampNeg (vp_nar .byte x)) j)))
        rw [arrV_store]
        congr 2
        funext q
        by_cases hq : q = i.toNatClampNeg
        · subst hq
          simp [updV, upd, vp_updL, vp_nar]
          try rfl
        · simp [updV, upd, vp_updL, hq]
    next => cases hs
  next => cases hs

theorem ma_o_lastore (X : ma_X D cl ks ad base sc G own ini p s m args meth c cc nL) (hdg : decode cc pc = .ok (.lastore, 1)) (hs : ma_s sc ks (.lastore) o L S h = some (L', S', h')) (k : ma_G D cl ad base p l e R s m args below meth c Q nL (pc + 1) L' S' h' cells slots) : ma_G D cl ad base p l e R s m args below meth c Q nL pc L S h cells slots := by
  obtain ⟨hx, hb, hml, hown, hts, hkn, had, hini, hcls, hsx, hsb⟩ := X
  simp only [ma_s] at hs
  split at hs
  next x i kk S2 =>
    split at hs
    next n f hk =>
      split at hs
      next => cases hs
      next hz =>
        cases hs
        intro H locs ls hH hF hl hn
        have eA := hH.adr had hk
        obtain ⟨cA, h1, h2, h3⟩ := hH.2.2 _ _ hk
        show W p l e R s m args below meth c H locs cells slots Q (F0 m pc ls (.long x :: .int i :: .ref (ad kk) :: S'.map (ma_va ad)))
        rw [eA]
        refine W.last hx hb h3 (h1 n (fun j => .long (f j))) (fun q => by cases q) (by show ¬ (i < 0 ∨ (arrV _ _ _).slots.size ≤ _); rw [arrV_size]; exact hz) rfl rfl hdg fun H1 e1 e2 e3 => ?_
        refine k H1 _ ls (hH.set e2 e3 ⟨cA, h1, h2, ?_⟩) (hF.put (by omega) e3) hl hn
        rw [e1]
        show some ((arrV cA n (fun j => .long (f j))).setSlot i.toNatClampNeg (.long x)) = some (arrV cA n (fun j => .long ((vp_updL f i.toNatClampNeg x) j)))
        rw [arrV_store]
        congr 2
        funext q
        by_cases hq : q = i.toNatClampNeg
        · subst hq
          simp [updV, upd, vp_updL]
          try rfl
        · simp [updV, upd, vp_updL, hq]
    next => cases hs
  next => cases hs

theorem ma_o_aastore (X : ma_X D cl ks ad base sc G own ini p s m args meth c cc nL) (hdg : decode cc pc = .ok (.aastore, 1)) (hlk : ∀ ci r, o = ci :: r → ∃ T N, cl[ci]? = some ("LetHorizon$Line", T, N)) (hs : ma_s sc ks (.aastore) o L S h = some (L', S', h')) (k : ma_G D cl ad base p l e R s m args below meth c Q nL (pc + 1) L' S' h' cells slots) : ma_G D cl ad base p l e R s m args below meth c Q nL pc L S h cells slots := by
  obtain ⟨hx, hb, hml, hown, hts, hkn, had, hini, hcls, hsx, hsb⟩ := X
  simp only [ma_s] at hs
  split at hs
  next ci r v i kk S2 =>
    split at hs
    next n f c2 fs hk hv =>
      split at hs
      next => cases hs
      next hz =>
        cases hs
        intro H locs ls hH hF hl hn
        have eA := hH.adr had hk
        have eV := hH.adr had hv
        obtain ⟨cA, h1, h2, h3⟩ := hH.2.2 _ _ hk
        have hci : c2 = ci := Classical.byContradiction fun q => hz (Or.inr (Or.inr q))
        subst hci
        obtain ⟨T, N, hcl⟩ := hlk _ _ rfl
        obtain ⟨r', hr', -, cellV, g1, g2, g3, -⟩ := hH.2.2 _ _ hv
        have hz1 : ¬ (i < 0 ∨ n ≤ i.toNatClampNeg) := fun q => hz (q.elim Or.inl (fun q => Or.inr (Or.inl q)))
        have hlt : i.toNatClampNeg < n := Nat.not_le.mp fun q => hz1 (Or.inr q)
        have h0 : ¬ i < 0 := fun q => hz1 (Or.inl q)
        have hcls2 := (hkn _ _ hcl).2
        obtain ⟨kA, comp, k1, k2, k3, -⟩ := h2 rfl
        have hcomp : comp = D.1 c2 := Option.some.inj (k3.symm.trans hcls2.1)
        subst hcomp
        obtain ⟨kC, hkC, hkd⟩ := hcls2.2
        show W p l e R s m args below meth c H locs cells slots Q (F0 m pc ls (.ref (ad v) :: .int i :: .ref (ad kk) :: S'.map (ma_va ad)))
        rw [eA, eV]
        refine W.aast hx hb h3 (fun q h => by cases h) (fun h => by cases h) k1 k2 rfl hkC ⟨h0, by show _ < (arrV _ _ _).slots.size; rw [arrV_size]; exact hlt⟩ g1 (fun q h => by rw [g3] at h; cases h) (by rw [g2]; exact hkC) (by rw [g2]; exact va_assign hcls2) rfl rfl hdg fun H1 e1 e2 e3 => ?_
        refine k H1 _ ls (hH.set e2 e3 ⟨cA, h1, h2, ?_⟩) (hF.put (by omega) e3) hl hn
        rw [e1]
        show some ((arrV cA n (fun j => va_rf ((f j).map ad))).setSlot i.toNatClampNeg (.ref (base + v))) = some (arrV cA n (fun j => va_rf ((va_up f i.toNatClampNeg (some v) j).map ad)))
        rw [arrV_store]
        congr 2
        funext q
        by_cases hq : q = i.toNatClampNeg
        · subst hq
          simp [updV, va_up, va_rf, eV]
        · simp [updV, va_up, hq]
    next => cases hs
  next => cases hs

theorem ma_o_new {x sl' : Nat} (X : ma_X D cl ks ad base sc G own ini p s m args meth c cc nL) (hdg : decode cc pc = .ok (.new x, 3)) (hlk : ∀ ci r, o = ci :: r → ∃ C T N, cl[ci]? = some (C, T, N) ∧ Jvm.Cond.classLink own x C ∈ G ∧ Jvm.Cond.instantiable C N ∈ G ∧ Jvm.Cond.initialized C ∈ G) (hcells : cells + 1 ≤ R.cells) (hslots : ∀ ci r q, o = ci :: r → cl[ci]? = some q → slots + (ks ci).length ≤ R.slots) (hslEq : ∀ ci r, o = ci :: r → sl' = slots + (ks ci).length) (hs : ma_s sc ks (.new x) o L S h = some (L', S', h')) (k : ma_G D cl ad base p l e R s m args below meth c Q nL (pc + 3) L' S' h' (cells + 1) sl') : ma_G D cl ad base p l e R s m args below meth c Q nL pc L S h cells slots := by
  obtain ⟨hx, hb, hml, hown, hts, hkn, had, hini, hcls, hsx, hsb⟩ := X
  simp only [ma_s] at hs
  split at hs
  next ci r =>
    split at hs
    next => cases hs
    next hz =>
      cases hs
      intro H locs ls hH hF hl hn
      obtain ⟨C, T, N, hc, hl1, hl2, hl3⟩ := hlk _ _ rfl
      obtain ⟨hin, hnm, hklen, hty⟩ := hcls _ _ _ _ hc
      have hKn := hkn _ _ hc
      have hsz : H.size = ad h.length := by rw [had _ (by omega)]; exact hH.1
      refine W.newcK hx hb hown (hts _ hl1) (hts _ hl2) (hts _ hl3) rfl hdg hcells (by have := hslots _ _ _ rfl hc; rw [hklen] at this; exact this) hKn.2.1 rfl fun H1 kC hkC e1 z1 o1 => ?_
      have hk2 := k H1 locs ls (hH.push hz z1 o1 ⟨_, hc, by simp [ma_df, hklen], ?_⟩) (hF.push (by rw [hH.1]; omega) o1) hl hn
      · rw [List.map_cons] at hk2
        have e9 : (ma_va ad (.ref h.length)) = .ref H.size := by rw [hsz]; rfl
        rw [e9] at hk2
        rw [hslEq _ _ rfl, hklen] at hk2
        exact hk2
      · refine (u_born (fun k => (parseFieldDescriptor (T k).2.2.1).getD .int) hts hin hKn hkC e1 (fun k hk => by obtain ⟨-, ty, h1, -⟩ := hty k hk; rw [h1]; rfl)).to (fun j hj => ?_)
        obtain ⟨-, ty, h1, t, ht, hkt⟩ := hty j hj
        rw [h1]
        simp only [Option.getD_some, vp_V, List.getD_eq_getElem?_getD, List.getElem?_map, ma_df, ht, Option.map_some]
        unfold ma_kt at hkt
        split at hkt <;> first | rfl | cases hkt
  next => cases hs

theorem ma_o_newarray {a : ArrayType} {sl' : Nat} (X : ma_X D cl ks ad base sc G own ini p s m args meth c cc nL) (hdg : decode cc pc = .ok (.newarray a, 2)) (hlk : Jvm.Cond.arrayClass (newarray.typeOf a) ∈ G) (hcells : cells + 1 ≤ R.cells) (hslots : ∀ n S2, S = .int n :: S2 → slots + n.toNatClampNeg ≤ R.slots) (hslEq : ∀ n S2, S = .int n :: S2 → sl' = slots + n.toNatClampNeg) (hs : ma_s sc ks (.newarray a) o L S h = some (L', S', h')) (k : ma_G D cl ad base p l e R s m args below meth c Q nL (pc + 2) L' S' h' (cells + 1) sl') : ma_G D cl ad base p l e R s m args below meth c Q nL pc L S h cells slots := by
  obtain ⟨hx, hb, hml, hown, hts, hkn, had, hini, hcls, hsx, hsb⟩ := X
  simp only [ma_s] at hs
  split at hs
  next t n S2 hta =>
    split at hs
    next => cases hs
    next hz =>
      cases hs
      intro H locs ls hH hF hl hn
      have hz0 : ¬ n < 0 := fun q => hz (Or.inl q)
      have hz1 : ¬ 4095 < h.length := fun q => hz (Or.inr (Or.inl q))
      have hz2 : ¬ 20000 < n.toNatClampNeg := fun q => hz (Or.inr (Or.inr q))
      have hsz : H.size = ad h.length := by rw [had _ (by omega)]; exact hH.1
      have htyE : newarray.typeOf a = ma_ty t ∧ t < 3 ∧ componentBytes (ma_ty t) ≤ 8 ∧ ∀ cA N, arrV cA N (fun _ => defaultValue (ma_ty t)) = vp_cell cA (ma_ac ad (N, ma_new t)) := by
        unfold ma_atc at hta
        split at hta <;> cases hta <;> exact ⟨rfl, by decide, by decide, fun _ _ => rfl⟩
      obtain ⟨ht1, ht2, ht3, ht4⟩ := htyE
      refine W.newaK hx hb (hts _ hlk) rfl hdg rfl hz0 rfl (by rw [ht1]; have := Nat.mul_le_mul (Nat.le_of_not_lt hz2) ht3; omega) hcells (hslots n S2 rfl) rfl fun H1 cA e1 z1 o1 hAr => ?_
      have hk2 := k H1 locs ls (hH.push hz1 z1 o1 ⟨cA, by rw [← ht1]; exact hAr, fun z => by simp only at z; omega, by rw [e1, ht1]; rw [ht4]⟩) (hF.push (by rw [hH.1]; omega) o1) hl hn
      rw [List.map_cons] at hk2
      have e9 : (ma_va ad (.ref h.length)) = .ref H.size := by rw [hsz]; rfl
      rw [e9, hslEq n S2 rfl] at hk2
      exact hk2
  next => cases hs

theorem ma_o_anewarray {x sl' : Nat} (X : ma_X D cl ks ad base sc G own ini p s m args meth c cc nL) (hdg : decode cc pc = .ok (.anewarray x, 3)) (hlk : Jvm.Cond.classLink own x "LetHorizon$Line" ∈ G ∧ Jvm.Cond.arrayOver (.object "LetHorizon$Line") ∈ G) (hcells : cells + 1 ≤ R.cells) (hslots : ∀ n S2, S = .int n :: S2 → slots + n.toNatClampNeg ≤ R.slots) (hslEq : ∀ n S2, S = .int n :: S2 → sl' = slots + n.toNatClampNeg) (hs : ma_s sc ks (.anewarray x) o L S h = some (L', S', h')) (k : ma_G D cl ad base p l e R s m args below meth c Q nL (pc + 3) L' S' h' (cells + 1) sl') : ma_G D cl ad base p l e R s m args below meth c Q nL pc L S h cells slots := by
  obtain ⟨hx, hb, hml, hown, hts, hkn, had, hini, hcls, hsx, hsb⟩ := X
  simp only [ma_s] at hs
  split at hs
  next n S2 =>
    split at hs
    next => cases hs
    next hz =>
      cases hs
      intro H locs ls hH hF hl hn
      have hz0 : ¬ n < 0 := fun q => hz (Or.inl q)
      have hz1 : ¬ 4095 < h.length := fun q => hz (Or.inr (Or.inl q))
      have hz2 : ¬ 20000 < n.toNatClampNeg := fun q => hz (Or.inr (Or.inr q))
      have hsz : H.size = ad h.length := by rw [had _ (by omega)]; exact hH.1
      refine W.anew hx hb hown (hts _ hlk.1) (hts _ hlk.2) rfl hdg rfl hz0 (by omega) hcells (hslots n S2 rfl) fun cA kA comp h1 h2 h3 h4 => ?_
      have hk2 := k (H.push { cls := cA, slots := Array.replicate n.toNatClampNeg .null, vm := .none }) locs ls (hH.push hz1 (by simp) (fun q hq => by rw [Array.getElem?_push, if_neg (Nat.ne_of_lt hq)]) ⟨cA, fun n z => ⟨fun k h => (by cases h), kA, h2, comp, h3⟩, fun _ => ⟨kA, comp, h2, h3, h4, h1⟩, by rw [arrV_new]; simp; rfl⟩) (hF.push (by rw [hH.1]; omega) (fun q hq => by rw [Array.getElem?_push, if_neg (Nat.ne_of_lt hq)])) hl hn
      rw [List.map_cons] at hk2
      have e9 : (ma_va ad (.ref h.length)) = .ref H.size := by rw [hsz]; rfl
      rw [e9, hslEq n S2 rfl] at hk2
      exact hk2
  next => cases hs

end MS
