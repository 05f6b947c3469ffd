section JX
variable {D : va_G} {ad : Nat → Nat} {base : Nat} {adK adV : Nat → Nat} {sc : Nat × (Nat → Int32)} {l : Launch}
theorem j_TX (ha0 : ad 4097 = adK 0) (ha1 : ad 4098 = adK 1) (ks : Nat → List Nat) : ma_TX D pm_cl ks ad base sc pm_G (jTF pm_G base adK adV) (ma_TL pm_TK) pm_tx l := by
  intro own ini p e R s m args below meth c cc nL pc Q H locs ls cells slots i o S S' X hT hF hls hdg hTK hcase kk
  obtain ⟨hmem, hL⟩ := hTK
  rcases hcase with ⟨x, v, rfl, rfl, rfl⟩ | ⟨_, _, x, q, h, rfl, _⟩
  · have hm : (own = "LetHorizon$Tokens" ∧ x = 66 ∧ v = 1) ∨ (own = "LetHorizon$Tokens" ∧ x = 73 ∧ v = 0) := by
      simpa [pm_TK, pm_tk] using hmem
    rcases hm with ⟨rfl, rfl, rfl⟩ | ⟨rfl, rfl, rfl⟩
    · obtain ⟨tx, ht⟩ := hT.2.2.2.2.1
      refine va_ldcS X.1 X.2.1 X.2.2.2.1 ht hdg ?_
      rw [← ha1]
      exact kk
    · obtain ⟨tx, ht⟩ := hT.2.2.2.1
      refine va_ldcS X.1 X.2.1 X.2.2.2.1 ht hdg ?_
      rw [← ha0]
      exact kk
  · cases hL
theorem jt_sum {S0 : List Value} (h8 : (S0.map fun v => v.category).sum ≤ 8) : ((S0.map (ma_va ad)).map fun v => v.category).sum ≤ 8 := by
  rw [List.map_map, show ((fun v => Value.category v) ∘ ma_va ad) = (fun v => v.category) from funext fun v => ma_va_cat ad v]
  exact h8
theorem j_256 {j : Int32} (h : ¬ (j < 0 ∨ 255 < j)) : ∃ y : Nat, y < 256 ∧ j = nI y := by
  refine vp_in_of (vp_in_iff.mpr ?_) (by decide)
  have h1 : ¬ j < 0 := fun z => h (Or.inl z)
  have h2 : ¬ 255 < j := fun z => h (Or.inr z)
  rw [Int32.lt_iff_toInt_lt] at h1 h2
  have e0 : (0 : Int32).toInt = 0 := by decide
  have e1 : (255 : Int32).toInt = 255 := by decide
  rw [e0] at h1
  rw [e1] at h2
  omega
theorem j_TX2 (ha0 : ad 4097 = adK 0) (ha1 : ad 4098 = adK 1) (ks : Nat → List Nat) : ma_TX2 D pm_cl ks ad base sc pm_G (jTF pm_G base adK adV) pm_TK pm_tx l := by
  intro own ini p e R s m args below meth c cc nL pc Q H locs ls cells slots x o S S' h q X hT hF hls hdg hTK hf hlo hce hsl h0 hx kk
  have hfix : CallFix p m c cc nL s args pm_G own := ⟨X.1, X.2.1, X.2.2.1, X.2.2.2.1, X.2.2.2.2.1⟩
  have hTH : jTF pm_G base adK adV s H := (j_TF pm_G base adK adV).2.2 s _ H hF.1 hT
  have hm : (own = "LetHorizon$Tokens" ∧ x = 68 ∧ o = [5, 1]) ∨ (own = "LetHorizon$Tokens" ∧ x = 75 ∧ o = [3, 0]) ∨ (own = "LetHorizon$Tokens" ∧ x = 78 ∧ o = [4, 0]) := by
    simpa [pm_TK, pm_tk] using hTK
  rcases hm with ⟨rfl, rfl, rfl⟩ | ⟨rfl, rfl, rfl⟩ | ⟨rfl, rfl, rfl⟩
  · obtain ⟨j, S0, v, rfl, hv, rfl, h8⟩ := mx5 hx
    have hj : ¬ (j < 0 ∨ 255 < j) := fun z => by
      simp only [pm_tx, if_pos z] at hv
      cases hv
    obtain ⟨y, hy, rfl⟩ := j_256 hj
    rw [show 3 * 1 + 2 = 5 from rfl, sgI_tx y hy] at hv
    cases hv
    refine j_goV (i := 1) (As := [.int (nI y)]) (rest := S0.map (ma_va ad)) hfix hTH hls (jm_io hy) (by decide) jc_68_io jv_io (by omega) (by omega) hce hsl rfl ?_ (jt_sum h8) hdg rfl kk
    rw [← ha1]
    rfl
  · obtain ⟨S0, v, rfl, hv, rfl, h8⟩ := mx3 hx
    have e : pm_tx (3 * 0) 0 = some (Int32.ofNat (jLen.getD 0 0)) := by decide +kernel
    rw [e] at hv
    cases hv
    refine j_goV (i := 0) (As := []) (rest := S0.map (ma_va ad)) hfix hTH hls (jm_len (by decide)) (by decide) jc_75_len jv_len (by omega) (by omega) hce hsl rfl ?_ (jt_sum h8) hdg rfl kk
    rw [← ha0]
    rfl
  · obtain ⟨j, S0, v, rfl, hv, rfl, h8⟩ := mx4 hx
    have hj : ¬ (j < 0 ∨ 119 ≤ j.toNatClampNeg) := fun z => by
      simp only [pm_tx, kw_len, if_pos z] at hv
      cases hv
    obtain ⟨y, hy, rfl⟩ := vp_in_of (n := 119) hj (by decide)
    have e : pm_tx (3 * 0 + 1) (nI y) = some (jb y) := by
      simp only [pm_tx, kw_len]
      rw [if_neg hj, nI_clamp (by omega)]
      rfl
    rw [e] at hv
    cases hv
    refine j_goV (i := 0) (As := [.int (nI y)]) (rest := S0.map (ma_va ad)) hfix hTH hls (jm_chr hy) (by decide) jc_78_chr jv_chr (by omega) (by omega) hce hsl rfl ?_ (jt_sum h8) hdg rfl kk
    rw [← ha0]
    rfl
theorem j_All (ha : ∀ k, k < 4096 → ad k = base + k) (ha0 : ad 4097 = adK 0) (ha1 : ad 4098 = adK 1) (hsb : ad 4096 < base) : mb_All D pm_cl ad base pm_G (jTF pm_G base adK adV) pm_TK l pm_m (pm_P sc) :=
  ⟨j_TF pm_G base adK adV, fun w hw => (pm_good w hw).imp id (fun z U H av hT => j_nw_same z rfl (hT.2.2.2.2.2 w hw z)), j_TX ha0 ha1 _, j_TX2 ha0 ha1 _, ha, pm_cls, hsb, fun m q hq => pm_mok m q hq⟩
end JX
