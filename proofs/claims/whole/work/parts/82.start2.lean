/-! ===== the start: both objects as rows of numbers ===== -/
def rdV (vs : List Value) (j : Nat) : Int32 := match vs[j]? with
  | some (.int x) => x
  | _ => 0
def rowS (h : List ma_C) (k : Nat) : Nat → Int32 := match h[k]? with
  | some (.inl (_, _, .inl f)) => f
  | some (.inr (_, fs)) => rdV fs
  | _ => fun j => Int32.ofNat j
def rowW (h : List ma_C) : Nat → Int64 := match (h[136]? : Option ma_C) with
  | some (.inl (_, _, .inr (.inl w))) => w
  | _ => fun _ => 0
def shF : List (Option (Option Nat)) → List Value → Bool
  | [], [] => true
  | none :: l, .int _ :: v => shF l v
  | some none :: l, .null :: v => shF l v
  | some (some r) :: l, .ref r' :: v => r == r' && shF l v
  | _, _ => false
def shC (k : Nat) (s : hp_S) (c : ma_C) : Bool := match s, c with
  | .inl (t, n), .inl (t', n', x) => t == t' && n == n' && (match x with
    | .inl _ => t == 0 || t == 1
    | .inr (.inl _) => t == 2 && k == 136
    | .inr (.inr (.inr (.inr f))) => (t == 3 && n == 6 && (List.range 6).all (fun j => f j == some (49 + 5 * j))) || (t == 4 && n == 14 && (List.range 14).all (fun j => f j == some (k + 1 + j)))
    | _ => false)
  | .inr (ci, l), .inr (ci', vs) => ci == ci' && shF l vs
  | _, _ => false
def shA : Nat → List hp_S → List ma_C → Bool
  | _, [], [] => true
  | k, s :: ss, c :: cs => shC k s c && shA (k + 1) ss cs
  | _, _, _ => false
theorem shF_ok : ∀ (l : List (Option (Option Nat))) (vs pre : List Value), shF l vs = true → hp_f (rdV (pre ++ vs)) pre.length l = vs
  | [], [], pre, _ => rfl
  | none :: l, .int x :: v, pre, h => by
    have ih := shF_ok l v (pre ++ [.int x]) h
    rw [List.append_assoc, List.length_append, List.length_singleton, List.singleton_append] at ih
    rw [hp_f, ih]
    congr 1
    unfold rdV
    rw [List.getElem?_append_right (Nat.le_refl _), Nat.sub_self]
    rfl
  | some none :: l, .null :: v, pre, h => by
    have ih := shF_ok l v (pre ++ [.null]) h
    rw [List.append_assoc, List.length_append, List.length_singleton, List.singleton_append] at ih
    rw [hp_f, ih]
  | some (some r) :: l, .ref r' :: v, pre, h => by
    simp only [shF, Bool.and_eq_true, beq_iff_eq] at h
    have ih := shF_ok l v (pre ++ [.ref r']) h.2
    rw [List.append_assoc, List.length_append, List.length_singleton, List.singleton_append] at ih
    rw [hp_f, ih, h.1]
  | [], _ :: _, _, h => by simp [shF] at h
  | none :: _, [], _, h => by simp [shF] at h
  | none :: _, .long _ :: _, _, h => by simp [shF] at h
  | none :: _, .ref _ :: _, _, h => by simp [shF] at h
  | none :: _, .null :: _, _, h => by simp [shF] at h
  | none :: _, .float _ :: _, _, h => by simp [shF] at h
  | none :: _, .double _ :: _, _, h => by simp [shF] at h
  | some none :: _, [], _, h => by simp [shF] at h
  | some none :: _, .int _ :: _, _, h => by simp [shF] at h
  | some none :: _, .long _ :: _, _, h => by simp [shF] at h
  | some none :: _, .ref _ :: _, _, h => by simp [shF] at h
  | some none :: _, .float _ :: _, _, h => by simp [shF] at h
  | some none :: _, .double _ :: _, _, h => by simp [shF] at h
  | some (some _) :: _, [], _, h => by simp [shF] at h
  | some (some _) :: _, .int _ :: _, _, h => by simp [shF] at h
  | some (some _) :: _, .long _ :: _, _, h => by simp [shF] at h
  | some (some _) :: _, .null :: _, _, h => by simp [shF] at h
  | some (some _) :: _, .float _ :: _, _, h => by simp [shF] at h
  | some (some _) :: _, .double _ :: _, _, h => by simp [shF] at h
theorem shC_ok {h : List ma_C} {k : Nat} {s : hp_S} {c : ma_C} (hs : hp_s[k]? = some s) (hc : h[k]? = some c) (hn : nbc c) (hh : shC k s c = true) : c = hp_q k (rowS h k) (rowW h) := by
  unfold hp_q
  rw [hs]
  unfold shC at hh
  split at hh
  next t n t' n' x =>
    simp only [Bool.and_eq_true, beq_iff_eq] at hh
    obtain ⟨⟨rfl, rfl⟩, hx⟩ := hh
    split at hx
    next f =>
      have e : rowS h k = f := by unfold rowS; rw [hc]
      simp only [Bool.or_eq_true, beq_iff_eq] at hx
      rw [e]
      rcases hx with rfl | rfl <;> rfl
    next f =>
      simp only [Bool.and_eq_true, beq_iff_eq] at hx
      obtain ⟨rfl, rfl⟩ := hx
      have e : rowW h = f := by unfold rowW; rw [hc]
      rw [e]
      rfl
    next f =>
      have hn : ∀ j, n ≤ j → f j = none := hn
      simp only [Bool.or_eq_true, Bool.and_eq_true, beq_iff_eq, List.all_eq_true, List.mem_range] at hx
      rcases hx with ⟨⟨rfl, rfl⟩, hx⟩ | ⟨⟨rfl, rfl⟩, hx⟩
      · have e : rowS h k = fun j => Int32.ofNat j := by unfold rowS; rw [hc]
        rw [e]
        show (Sum.inl (3, 6, Sum.inr (Sum.inr (Sum.inr (Sum.inr f)))) : ma_C) = Sum.inl (3, 6, Sum.inr (Sum.inr (Sum.inr (Sum.inr (fun j => if j < 6 then some (49 + 5 * (Int32.ofNat j).toNatClampNeg) else none)))))
        congr 7
        funext j
        by_cases z : j < 6
        · have e2 : (Int32.ofNat j).toNatClampNeg = j := nI_clamp (by omega)
          rw [if_pos z, hx j z, e2]
        · rw [if_neg z]; exact hn j (by omega)
      · show (Sum.inl (4, 14, Sum.inr (Sum.inr (Sum.inr (Sum.inr f)))) : ma_C) = Sum.inl (4, 14, Sum.inr (Sum.inr (Sum.inr (Sum.inr (fun j => if j < 14 then some (k + 1 + j) else none)))))
        congr 7
        funext j
        by_cases z : j < 14
        · rw [if_pos z]; exact hx j z
        · rw [if_neg z]; exact hn j (by omega)
    next => cases hx
  next ci l ci' vs =>
    simp only [Bool.and_eq_true, beq_iff_eq] at hh
    obtain ⟨rfl, hx⟩ := hh
    have e : rowS h k = rdV vs := by unfold rowS; rw [hc]
    have := shF_ok l vs [] hx
    rw [e]
    show (Sum.inr (ci, vs) : ma_C) = Sum.inr (ci, hp_f (rdV vs) 0 l)
    rw [show hp_f (rdV vs) 0 l = vs from this]
  next => cases hh
theorem shA_ok : ∀ (k : Nat) (ss : List hp_S) (cs : List ma_C), shA k ss cs = true → ss.length = cs.length ∧ ∀ j s c, ss[j]? = some s → cs[j]? = some c → shC (k + j) s c = true
  | _, [], [], _ => ⟨rfl, fun j s c h => by simp at h⟩
  | k, s :: ss, c :: cs, h => by
    simp only [shA, Bool.and_eq_true] at h
    obtain ⟨h1, h2⟩ := shA_ok (k + 1) ss cs h.2
    refine ⟨by simp [h1], fun j s' c' hs hc => ?_⟩
    cases j with
    | zero => simp at hs hc; subst hs; subst hc; exact h.1
    | succ j =>
      have := h2 j s' c' (by simpa using hs) (by simpa using hc)
      rw [show k + (j + 1) = k + 1 + j by omega]
      exact this
  | _, [], _ :: _, h => by simp [shA] at h
  | _, _ :: _, [], h => by simp [shA] at h
theorem hp_slen : hp_s.length = 167 := by decide +kernel
theorem st_hp {h : List ma_C} (hn : nb h) (hs : shA 0 hp_s h = true) : h = hp (rowS h) (rowW h) (rowS h) := by
  obtain ⟨h1, h2⟩ := shA_ok 0 hp_s h hs
  apply List.ext_getElem?
  intro k
  rcases Nat.lt_or_ge k 167 with z | z
  · rw [hp_get _ _ _ z]
    have e1 : hp_s[k]? = some (hp_s[k]'(by rw [hp_slen]; exact z)) := List.getElem?_eq_getElem _
    have e2 : h[k]? = some (h[k]'(by rw [← h1, hp_slen]; exact z)) := List.getElem?_eq_getElem _
    have := shC_ok e1 e2 (hn.got e2) (by have := h2 k _ _ e1 e2; rwa [Nat.zero_add] at this)
    rw [e2]
    congr 1
    unfold hp_r
    split <;> exact this
  · rw [List.getElem?_eq_none (by rw [← h1, hp_slen]; exact z), List.getElem?_eq_none (by rw [hp_len]; exact z)]
/-! the two constructors -/
theorem st1_sh : (ma_run0 1000 59 0 (pm_blk 0 0) (ma_en [.ref 0] 1) [] [.inr (0, ma_df (pm_k 0))]).isSome = true := by decide +kernel
theorem st2_sh : (ma_run0 1000 59 160 (pm_blk 160 0) (ma_en [.ref 138] 1) [] (st1 ++ [.inr (12, ma_df (pm_k 12))])).isSome = true := by decide +kernel
theorem st2_ok : shA 0 hp_s st2 = true := by decide +kernel
/-! what stands at the start -/
theorem sZf : rowS st2 7 0 = nI 0 ∧ rowS st2 1 0 = nI 10 ∧ rowS st2 148 0 = nI 0 ∧ rowS st2 138 6 = nI 0 ∧ rowS st2 1 3 = nI 0 ∧ rowS st2 138 9 = nI 0 ∧ rowS st2 1 5 = nI 0 ∧ rowS st2 138 10 = nI 0 ∧ rowS st2 1 1 = nI 3 ∧ rowS st2 138 7 = nI 0 ∧ rowS st2 1 2 = nI 0 ∧ rowS st2 138 8 = nI 0 ∧ rowS st2 1 8 = nI 0 ∧ rowS st2 138 47 = nI 0 ∧ rowS st2 13 0 = nI 0 ∧ rowS st2 138 38 = nI 0 ∧ rowS st2 15 0 = nI 0 ∧ rowS st2 138 40 = nI 0 := by decide +kernel
theorem sZg : rowS st2 17 6 = nI 0 ∧ rowS st2 17 7 = nI 0 ∧ rowS st2 17 8 = nI 0 ∧ rowS st2 17 4 = nI 0 ∧ rowS st2 17 5 = nI 0 := by decide +kernel
theorem sZ18 : ∀ j, j < 14 → rowS st2 18 j = nI 10 := by decide +kernel
theorem sZ19 : ∀ j, j < 14 → rowS st2 19 j = nI 0 := by decide +kernel
theorem sZ139 : ∀ j, j < 49 → rowS st2 139 j = nI 0 := by decide +kernel
theorem sZ48 : ∀ j, j < 6 → rowS st2 48 j = nI j := by decide +kernel
theorem sZh : rowS st2 138 5 = nI 0 ∧ rowS st2 47 1 = nI 0 ∧ rowS st2 138 3 = nI 0 ∧ rowS st2 0 6 = nI 0 ∧ rowS st2 138 55 = nI 0 ∧ rowS st2 79 1 = nI 0 ∧ rowS st2 138 16 = nI 0 ∧ rowS st2 79 7 = rowS st2 138 36 ∧ rowS st2 79 8 = rowS st2 138 37 := by decide +kernel
theorem stW_ok : ∀ j, j < 120 → rowS st2 147 j = nI (wdN.getD j 0) := by decide +kernel
theorem stB_ok : ∀ j, j < 600 → rowS st2 23 j = rowS st2 145 j := by decide +kernel
theorem st_gR : gR (rowS st2) (rowS st2) := by
  obtain ⟨f1, f2, f3, f4, f5, f6, f7, f8, f9, f10, f11, f12, f13, f14, f15, f16, f17, f18⟩ := sZf
  obtain ⟨g1, g2, g3, g4, g5⟩ := sZg
  have g6 := sZ18
  have g7 := sZ19
  have g8 := sZ139
  have h3 := sZ48
  obtain ⟨g9, h1, h2, h4, h5, h6, h7, h8, h9⟩ := sZh
  have z0 : nI 0 + nI 10 = nI 10 := by decide +kernel
  have z3 : nI 0 + nI 3 = nI 3 := by decide +kernel
  refine ⟨10, 0, 0, [], ⟨⟨⟨f1, by simp, fun i l hl => by simp at hl⟩, f2, by omega, by omega⟩, ⟨⟨f3, by simp, fun i l hl => by simp at hl⟩, by rw [f4]; exact z0, by omega, by omega⟩, ⟨f5, f6, by omega, fun j hj => by omega⟩, ⟨f7, f8, by omega, fun j hj => by omega⟩, ⟨3, 0, by omega, by omega, by omega, f9, by rw [f10]; exact z3, f11, f12⟩, ⟨0, by omega, f13, f14, fun j hj => by omega⟩, ⟨0, by omega, f15, f16, fun j hj => by omega⟩, ⟨0, by omega, f17, f18, fun j hj => by omega⟩⟩, ⟨fun _ i => if 5 ≤ i ∧ i < 19 then nI 10 else nI 0, ⟨⟨?_, ?_, ?_, ?_, ?_⟩, ?_, ?_, fun j hj => by omega, fun j hj => by omega⟩, ⟨⟨?_, ?_, ?_, ?_, ?_⟩, ?_, ?_, fun j hj => by omega, fun j hj => by omega⟩, ⟨?_, ?_, fun j hj => by omega, 0, by omega, ?_⟩, stB_ok, Or.inl ⟨rfl, g9⟩⟩, ⟨0, by omega, h1, h2, fun i => i, fun i hi => ⟨hi, h3 i hi⟩, fun i j _ _ e => e, fun i hi => by omega⟩, Or.inl ⟨h4, h5⟩, ⟨⟨0, by omega, h6, h7, fun j hj => by omega⟩, h8, h9, stW_ok⟩⟩
  · exact g1
  · exact g2
  · exact g3
  · exact g4
  · exact g5
  · intro j hj; rw [g6 j hj]; exact (if_pos (by omega)).symm
  · intro j hj; rw [g7 j hj]; exact (if_neg (by omega)).symm
  · exact g8 0 (by omega)
  · exact g8 1 (by omega)
  · exact g8 2 (by omega)
  · exact g8 3 (by omega)
  · exact g8 4 (by omega)
  · intro j hj; rw [g8 (5 + j) (by omega), z0]; exact (if_pos (by omega)).symm
  · intro j hj; rw [g8 (19 + j) (by omega)]; exact (if_neg (by omega)).symm
  · intro j hj
    show 0 ≤ (if 5 ≤ 5 + j ∧ 5 + j < 19 then nI 10 else nI 0).toInt ∧ (if 5 ≤ 5 + j ∧ 5 + j < 19 then nI 10 else nI 0).toInt ≤ 40
    rw [if_pos (by omega), nI_toInt (by omega)]; omega
  · intro j hj
    show 0 ≤ (if 5 ≤ 19 + j ∧ 19 + j < 19 then nI 10 else nI 0).toInt ∧ (if 5 ≤ 19 + j ∧ 19 + j < 19 then nI 10 else nI 0).toInt ≤ 99
    rw [if_neg (by omega), nI_toInt (by omega)]; omega
  · rfl
theorem ma_run0_some {n d m : Nat} {is : List ma_I} {L : ma_L} {S : List Value} {h : List ma_C} (hs : (ma_run0 n d m is L S h).isSome = true) : ∃ r h', ma_run0 n d m is L S h = some (r, h') := by
  cases e : ma_run0 n d m is L S h with
  | none => rw [e] at hs; cases hs
  | some q => exact ⟨q.1, q.2, rfl⟩
theorem st_cc1 (sc : Nat × (Nat → Int32)) : ∃ r, cc sc 59 0 [.ref 0] [.inr (0, ma_df (pm_k 0))] = some (r, st1) ∧ nb st1 := by
  obtain ⟨r, h', e⟩ := ma_run0_some st1_sh
  have e1 : st1 = h' := by unfold st1; rw [e]
  refine ⟨r, rv_iff.mpr ⟨1000, ?_⟩, ?_⟩
  · rw [e1]; exact ma_run0_ok sc 1000 59 0 _ _ _ _ _ e
  · rw [e1]; exact ma_run0_nb _ _ _ _ _ _ _ _ _ (nb.one (c := .inr (0, ma_df (pm_k 0))) trivial) e
theorem st_cc2 (sc : Nat × (Nat → Int32)) : ∃ r, cc sc 59 160 [.ref 138] (st1 ++ [.inr (12, ma_df (pm_k 12))]) = some (r, st2) ∧ nb st2 := by
  obtain ⟨r1, -, hn1⟩ := st_cc1 sc
  obtain ⟨r, h', e⟩ := ma_run0_some st2_sh
  have e1 : st2 = h' := by unfold st2; rw [e]
  refine ⟨r, rv_iff.mpr ⟨1000, ?_⟩, ?_⟩
  · rw [e1]; exact ma_run0_ok sc 1000 59 160 _ _ _ _ _ e
  · rw [e1]; exact ma_run0_nb _ _ _ _ _ _ _ _ _ (hn1.app (nb.one (c := .inr (12, ma_df (pm_k 12))) trivial)) e
