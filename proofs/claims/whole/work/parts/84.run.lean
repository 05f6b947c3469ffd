/-! ===== the law's whole run in the list machine ===== -/
def isN (q : Option (Option Value × List ma_C)) : Bool := match q with
  | some (none, _) => true
  | _ => false
theorem st1_n : isN (ma_run0 1000 59 0 (pm_blk 0 0) (ma_en [.ref 0] 1) [] [.inr (0, ma_df (pm_k 0))]) = true := by decide +kernel
theorem st2_n : isN (ma_run0 1000 59 160 (pm_blk 160 0) (ma_en [.ref 138] 1) [] (st1 ++ [.inr (12, ma_df (pm_k 12))])) = true := by decide +kernel
theorem isN_some {q : Option (Option Value × List ma_C)} (h : isN q = true) : ∃ h', q = some (none, h') := by
  unfold isN at h
  split at h
  next h' => exact ⟨h', rfl⟩
  next => cases h
theorem st_c1 (sc : Nat × (Nat → Int32)) : cc sc 59 0 [.ref 0] [.inr (0, ma_df (pm_k 0))] = some (none, st1) := by
  obtain ⟨h', e⟩ := isN_some st1_n
  have e1 : st1 = h' := by unfold st1; rw [e]
  rw [e1]
  exact rv_iff.mpr ⟨1000, ma_run0_ok sc 1000 59 0 _ _ _ _ _ e⟩
theorem st_c2 (sc : Nat × (Nat → Int32)) : cc sc 59 160 [.ref 138] (st1 ++ [.inr (12, ma_df (pm_k 12))]) = some (none, st2) := by
  obtain ⟨h', e⟩ := isN_some st2_n
  have e1 : st2 = h' := by unfold st2; rw [e]
  rw [e1]
  exact rv_iff.mpr ⟨1000, ma_run0_ok sc 1000 59 160 _ _ _ _ _ e⟩
section LR
variable {sc : Nat × (Nat → Int32)}
theorem ev_new {d mm x ci : Nat} {is : List ma_I} {L : ma_L} {S : List Value} {h : List ma_C} (hl : ¬ 4095 < h.length) : ev sc d mm ((.new x, [ci]) :: is) L S h = ev sc d mm is L (.ref h.length :: S) (h ++ [.inr (ci, ma_df (pm_k ci))]) := by
  refine rv_s rfl ?_
  show ma_s sc pm_k _ _ _ _ _ = _
  simp only [ma_s]
  rw [if_neg hl]
theorem ev_ini {mm x m' ci k : Nat} {fs : List Value} {is : List ma_I} {L : ma_L} {S : List Value} {h h' : List ma_C} (hk : h[k]? = some (.inr (ci, fs))) (h8 : ¬ 8 < (S.map fun v => v.category).sum) (hm : (pm_mx[m']?).getD 0 = 1) (e : cc sc 59 m' [.ref k] h = some (none, h')) : ev sc 60 mm ((.invokespecial x, [0, m', 1, ci]) :: is) L (.ref k :: S) h = ev sc 60 mm is L S h' := by
  have hc : ma_c (.invokespecial x) [0, m', 1, ci] (.ref k :: S) h = some (m', [.ref k], S) := by
    simp only [ma_c, ma_a, List.length_cons, List.drop_succ_cons, List.drop_zero, List.take_succ_cons, List.take_zero, List.reverse_cons, List.reverse_nil, List.nil_append]
    rw [if_neg (by rintro (z | z); omega; exact h8 z)]
    simp only [ma_cr, hk, if_true]
  have := rv_c (P := pm_P sc) (d := 59) (m := mm) (is := is) (L := L) (i := .invokespecial x) (o := [0, m', 1, ci]) (S := .ref k :: S) (h := h) rfl hc (by show (ma_ent [Value.ref k]).length ≤ (pm_mx[m']?).getD 0; rw [hm]; exact Nat.le_refl _)
  refine Eq.trans this ?_
  have e2 : cv (pm_P sc) 59 m' [.ref k] h = some (none, h') := e
  rw [e2]
  rfl
theorem law_run (hs : sc.1 ≤ 3072) : ∃ n c' w' m', ma_run (pm_P sc) n 60 296 (pm_blk 296 0) (ma_en [.ref 4096] 4) [] [] = some (some (.int (nI 1)), hp c' w' m') := by
  obtain ⟨r2, -, hn2⟩ := st_cc2 sc
  obtain ⟨c', w', m', e⟩ := law_loop (sc := sc) hs (sc.1 + 1) 0 (rowS st2) (rowS st2) (rowW st2) (by omega) (by omega) st_gR
  rw [← st_hp hn2 st2_ok] at e
  have key : ev sc 60 296 (pm_blk 296 0) (ma_en [.ref 4096] 4) [] [] = some (some (.int (nI 1)), hp c' w' m') := by
    rw [← e]
    unfold hLaw
    conv => lhs; rw [bL_0]
    have g1 : ([] ++ [.inr (0, ma_df (pm_k 0))] : List ma_C)[0]? = some (.inr (0, ma_df (pm_k 0))) := rfl
    have g2 : (st1 ++ [.inr (12, ma_df (pm_k 12))] : List ma_C)[138]? = some (.inr (12, ma_df (pm_k 12))) := by
      rw [List.getElem?_append_right (by rw [st1_len]; omega), st1_len]
      rfl
    show ev sc 60 296 _ [some (.ref 4096), none, none, none] [] [] = _
    rw [ev_new (by simp)]
    simp (disch := first | assumption | omega | decide | (simp only [ma_wd0, ma_wdi, ma_wdr, ma_wdl, ma_wdn] <;> omega)) only [↓reduceIte, evK, evL, evS, evA, evJ, Option.bind_some, Option.toList, List.cons_append, List.nil_append, nI_add, pk_mul, bI0, ite_not, ev_rbb, up_n, up_s, up_u, pk_us, pk_un, Nat.reduceAdd, nI_ltT, nI_ltF, nI_leT, nI_leF, nI_eqT, nI_eqF, List.length_nil]
    rw [ev_ini (h := [.inr (0, ma_df (pm_k 0))]) rfl (by decide) rfl (st_c1 sc)]
    simp (disch := first | assumption | omega | decide | (simp only [ma_wd0, ma_wdi, ma_wdr, ma_wdl, ma_wdn] <;> omega)) only [↓reduceIte, evK, evL, evS, evA, evJ, Option.bind_some, Option.toList, List.cons_append, List.nil_append, nI_add, pk_mul, bI0, ite_not, ev_rbb, up_n, up_s, up_u, pk_us, pk_un, Nat.reduceAdd, nI_ltT, nI_ltF, nI_leT, nI_leF, nI_eqT, nI_eqF, List.length_nil]
    rw [ev_new (by rw [st1_len]; omega), st1_len]
    simp (disch := first | assumption | omega | decide | (simp only [ma_wd0, ma_wdi, ma_wdr, ma_wdl, ma_wdn] <;> omega)) only [↓reduceIte, evK, evL, evS, evA, evJ, Option.bind_some, Option.toList, List.cons_append, List.nil_append, nI_add, pk_mul, bI0, ite_not, ev_rbb, up_n, up_s, up_u, pk_us, pk_un, Nat.reduceAdd, nI_ltT, nI_ltF, nI_leT, nI_leF, nI_eqT, nI_eqF, List.length_nil]
    rw [ev_ini g2 (by decide) rfl (st_c2 sc)]
    simp (disch := first | assumption | omega | decide | (simp only [ma_wd0, ma_wdi, ma_wdr, ma_wdl, ma_wdn] <;> omega)) only [↓reduceIte, evK, evL, evS, evA, evJ, Option.bind_some, Option.toList, List.cons_append, List.nil_append, nI_add, pk_mul, bI0, ite_not, ev_rbb, up_n, up_s, up_u, pk_us, pk_un, Nat.reduceAdd, nI_ltT, nI_ltF, nI_leT, nI_leF, nI_eqT, nI_eqF, List.length_nil]
  obtain ⟨n, hn⟩ := rv_iff.mp key
  exact ⟨n, c', w', m', hn⟩
theorem hp_cz (k : Nat) (f : Nat → Int32) (w : Nat → Int64) : ma_cz (hp_q k f w) = (match hp_s[k]? with
    | some (.inl (_, n)) => n
    | some (.inr (_, l)) => l.length
    | none => 0) := by
  unfold hp_q
  split
  next t n e => rw [e]; rfl
  next ci l e =>
    rw [e]
    have : ∀ (l : List (Option (Option Nat))) (j : Nat), (hp_f f j l).length = l.length := by
      intro l
      induction l with
      | nil => intro j; rfl
      | cons a l ih =>
        intro j
        rcases a with _ | _ | r <;> simp [hp_f, ih]
    exact this l 0
  next e => rw [e]; rfl
theorem hp_sl (c m : Nat → Nat → Int32) (w : Nat → Int64) : ma_sl (hp c w m) ≤ 100000 := by
  have e : (hp c w m).map ma_cz = (List.range 167).map (fun k => (match hp_s[k]? with
    | some (.inl (_, n)) => n
    | some (.inr (_, l)) => l.length
    | none => 0)) := by
    unfold hp
    rw [List.map_map]
    apply List.map_congr_left
    intro k _
    exact hp_cz k _ w
  unfold ma_sl
  rw [e]
  decide +kernel
end LR
