/-! ===== the start ===== -/
def jtm (i : Nat) : Term := if i = 0 then .string "LetHorizon$Tokens" 73 else .string "LetHorizon$Tokens" 66
theorem jfa : ∀ i, i < 2 → Jvm.Cond.exactly (jtm i) "java/lang/String" ∈ flatC (Jvm.Cond.and given_1 narrow_1) ∧ Jvm.Cond.eq (.field (jtm i) "java/lang/String" "coder" "B") (.int 0) ∈ flatC (Jvm.Cond.and given_1 narrow_1) ∧ Jvm.Cond.arrayOf (.field (jtm i) "java/lang/String" "value" "[B") .byte ∈ flatC (Jvm.Cond.and given_1 narrow_1) ∧ Jvm.Cond.eq (.length (.field (jtm i) "java/lang/String" "value" "[B")) (.int (Int32.ofNat (jLen.getD i 0))) ∈ flatC (Jvm.Cond.and given_1 narrow_1) := by decide +kernel
theorem jfe0 : ∀ j, j < 119 → Jvm.Cond.eq (.elem (.field (jtm 0) "java/lang/String" "value" "[B") (.int (Int32.ofNat j))) (.int ((jByt.getD 0 []).getD j 0)) ∈ flatC (Jvm.Cond.and given_1 narrow_1) := by decide +kernel
theorem jfe1 : ∀ j, j < 10 → Jvm.Cond.eq (.elem (.field (jtm 1) "java/lang/String" "value" "[B") (.int (Int32.ofNat j))) (.int ((jByt.getD 1 []).getD j 0)) ∈ flatC (Jvm.Cond.and given_1 narrow_1) := by decide +kernel
theorem jfn : Jvm.Cond.not (Jvm.Cond.eq (jtm 0) (jtm 1)) ∈ flatC (Jvm.Cond.and given_1 narrow_1) ∨ Jvm.Cond.not (Jvm.Cond.eq (jtm 1) (jtm 0)) ∈ flatC (Jvm.Cond.and given_1 narrow_1) := by decide +kernel
theorem jfz : Jvm.Cond.eq (.static "java/lang/String" "COMPACT_STRINGS" "Z") (.int 1) ∈ flatC (Jvm.Cond.and given_1 narrow_1) ∧ Jvm.Cond.isRef (.static "jdk/internal/util/Preconditions" "SIOOBE_FORMATTER" "Ljava/util/function/BiFunction;") ∈ flatC (Jvm.Cond.and given_1 narrow_1) := by decide +kernel
theorem j_strings {args : Array Value} {s : State} (hgv : (Jvm.Cond.and given_1 narrow_1).before args s = true) : ∃ adK adV : Nat → Nat, vk_S 2 jLen jByt adK adV (jA s.heap.size) s s.heap ∧ ∀ i : Nat, i < 2 → (jtm i).eval args s none [] s = some (.ref (adK i)) := by
  have hfl := flat_of_before _ hgv
  refine vk_Sof (tm := jtm) ?_ (fun i hi => hfl _ (jfa i hi).1) (fun i hi => hfl _ (jfa i hi).2.1) (fun i hi => hfl _ (jfa i hi).2.2.1) (fun i hi => hfl _ (jfa i hi).2.2.2) ?_ ?_ (fun a ha => Nat.not_le_of_lt ha)
  · decide
  · intro i hi j hj
    rcases (by omega : i = 0 ∨ i = 1) with rfl | rfl
    · exact hfl _ (jfe0 j hj)
    · exact hfl _ (jfe1 j hj)
  · intro i j hi hj hij
    rcases (by omega : (i = 0 ∧ j = 1) ∨ (i = 1 ∧ j = 0)) with ⟨rfl, rfl⟩ | ⟨rfl, rfl⟩
    · exact jfn.imp (fun z => hfl _ z) (fun z => hfl _ z)
    · exact jfn.symm.imp (fun z => hfl _ z) (fun z => hfl _ z)
theorem j_str73 : Jvm.Cond.stringRef "LetHorizon$Tokens" 73 "wear slide cost sun column height worn hour day leans by when or and not at set lift drop mend to pier wants from pays " ∈ lw_tbl := List.mem_append_right _ (List.mem_of_getElem? (i := 708) (by decide +kernel))
theorem j_str66 : Jvm.Cond.stringRef "LetHorizon$Tokens" 66 ";+-*/()<=>" ∈ lw_tbl := List.mem_append_right _ (List.mem_of_getElem? (i := 768) (by decide +kernel))
theorem j_lays1 : Jvm.Cond.laysStatic "java/lang/String" "COMPACT_STRINGS" "Z" ∈ lw_tbl := List.mem_append_right _ (List.mem_of_getElem? (i := 718) (by decide +kernel))
theorem j_lays2 : Jvm.Cond.laysStatic "jdk/internal/util/Preconditions" "SIOOBE_FORMATTER" "Ljava/util/function/BiFunction;" ∈ lw_tbl := List.mem_append_right _ (List.mem_of_getElem? (i := 734) (by decide +kernel))
theorem j_in1 : Jvm.Cond.initialized "java/lang/String" ∈ lw_tbl := List.mem_append_right _ (List.mem_of_getElem? (i := 16) (by decide +kernel))
theorem j_in2 : Jvm.Cond.initialized "jdk/internal/util/Preconditions" ∈ lw_tbl := List.mem_append_right _ (List.mem_of_getElem? (i := 18) (by decide +kernel))
theorem j_TFs {args : Array Value} {s : State} (hts : ∀ w ∈ lw_tbl, w.before args s = true) (hgv : (Jvm.Cond.and given_1 narrow_1).before args s = true) : ∃ adK adV : Nat → Nat, jTF pm_G s.heap.size adK adV s s.heap := by
  obtain ⟨adK, adV, hS, hE⟩ := j_strings hgv
  have hfl := flat_of_before _ hgv
  refine ⟨adK, adV, hS, va_Zof (hts _ j_lays1) (hts _ j_in1) (va_eqt (hfl _ jfz.1)) (fun a ha => Nat.not_le_of_lt ha), va_Zqof (hts _ j_lays2) (hts _ j_in2) (hfl _ jfz.2) (fun a ha => Nat.not_le_of_lt ha), ⟨_, vk_R.of (hts _ j_str73) (hE 0 (by decide))⟩, ⟨_, vk_R.of (hts _ j_str66) (hE 1 (by decide))⟩, fun w hw hn => j_nw_same hn rfl (hts w (List.mem_filter.mp hw).1)⟩
theorem j_cls {args : Array Value} {s : State} (hG : ∀ w ∈ pm_G, w.before args s = true) : ∃ D : va_G, ∀ (ci : Nat) (q : vw_C), pm_cl[ci]? = some q → u_Kn s q.1 q.2.1 q.2.2 (D.1 ci) (D.2 ci) := by
  have h : ∀ ci : Nat, ∃ d : ClassId × (Nat → Nat), ∀ q : vw_C, pm_cl[ci]? = some q → u_Kn s q.1 q.2.1 q.2.2 d.1 d.2 := by
    intro ci
    match ci with
    | 0 => obtain ⟨a, f, h⟩ := u_known (n := 15) hG pm_w0 (hG _ (gt 23 (by decide +kernel))); exact ⟨(a, f), fun q hq => by cases hq; exact h⟩
    | 1 => obtain ⟨a, f, h⟩ := u_known (n := 3) hG pm_w1 (hG _ (gt 320 (by decide +kernel))); exact ⟨(a, f), fun q hq => by cases hq; exact h⟩
    | 2 => obtain ⟨a, f, h⟩ := u_known (n := 1) hG pm_w2 (hG _ (gt 232 (by decide +kernel))); exact ⟨(a, f), fun q hq => by cases hq; exact h⟩
    | 3 => obtain ⟨a, f, h⟩ := u_known (n := 7) hG pm_w3 (hG _ (gt 37 (by decide +kernel))); exact ⟨(a, f), fun q hq => by cases hq; exact h⟩
    | 4 => obtain ⟨a, f, h⟩ := u_known (n := 9) hG pm_w4 (hG _ (gt 174 (by decide +kernel))); exact ⟨(a, f), fun q hq => by cases hq; exact h⟩
    | 5 => obtain ⟨a, f, h⟩ := u_known (n := 2) hG pm_w5 (hG _ (gt 242 (by decide +kernel))); exact ⟨(a, f), fun q hq => by cases hq; exact h⟩
    | 6 => obtain ⟨a, f, h⟩ := u_known (n := 4) hG pm_w6 (hG _ (gt 297 (by decide +kernel))); exact ⟨(a, f), fun q hq => by cases hq; exact h⟩
    | 7 => obtain ⟨a, f, h⟩ := u_known (n := 2) hG pm_w7 (hG _ (gt 75 (by decide +kernel))); exact ⟨(a, f), fun q hq => by cases hq; exact h⟩
    | 8 => obtain ⟨a, f, h⟩ := u_known (n := 10) hG pm_w8 (hG _ (gt 364 (by decide +kernel))); exact ⟨(a, f), fun q hq => by cases hq; exact h⟩
    | 9 => obtain ⟨a, f, h⟩ := u_known (n := 9) hG pm_w9 (hG _ (gt 259 (by decide +kernel))); exact ⟨(a, f), fun q hq => by cases hq; exact h⟩
    | 10 => obtain ⟨a, f, h⟩ := u_known (n := 14) hG pm_w10 (hG _ (gt 31 (by decide +kernel))); exact ⟨(a, f), fun q hq => by cases hq; exact h⟩
    | 11 => obtain ⟨a, f, h⟩ := u_known (n := 6) hG pm_w11 (hG _ (gt 336 (by decide +kernel))); exact ⟨(a, f), fun q hq => by cases hq; exact h⟩
    | 12 => obtain ⟨a, f, h⟩ := u_known (n := 58) hG pm_w12 (hG _ (gt 1206 (by decide +kernel))); exact ⟨(a, f), fun q hq => by cases hq; exact h⟩
    | k + 13 => exact ⟨(0, fun _ => 0), fun q hq => absurd (List.getElem?_eq_some_iff.mp hq).1 (by show ¬ k + 13 < 13; omega)⟩
  obtain ⟨f, hf⟩ := Classical.axiomOfChoice h
  exact ⟨(fun ci => (f ci).1, fun ci => (f ci).2), fun ci q hq => hf ci q hq⟩
