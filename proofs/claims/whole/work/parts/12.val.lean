/-! ===== the value of a run, without counting steps: equations ===== -/
theorem ma_mono {P : ma_P} : ∀ (n d m : Nat) (is : List ma_I) (L : ma_L) (S : List Value) (h : List ma_C) (v : Option Value × List ma_C), ma_run P n d m is L S h = some v → ma_run P (n + 1) d m is L S h = some v
  | 0, _, _, _, _, _, _, _, hr => by simp [ma_run] at hr
  | n + 1, d, m, [], L, S, h, v, hr => by simp [ma_run] at hr
  | n + 1, d, m, (i, o) :: is, L, S, h, v, hr => by
    unfold ma_run at hr ⊢
    split at hr
    next hk =>
      split at hr
      next L1 S1 h1 hs => exact ma_mono n _ _ _ _ _ _ _ hr
      next => cases hr
    next hk =>
      split at hr
      next t S1 hs => exact ma_mono n _ _ _ _ _ _ _ hr
      next S1 hs => exact ma_mono n _ _ _ _ _ _ _ hr
      next => cases hr
    next hk =>
      split at hr
      next m2 a S1 hs =>
        split at hr
        next => cases hr
        next hz =>
          rw [if_neg hz]
          split at hr
          next => cases hr
          next d1 =>
            split at hr
            next r1 h1 h2 =>
              have := ma_mono n _ _ _ _ _ _ _ h2
              simp only [this]
              exact ma_mono n _ _ _ _ _ _ _ hr
            next => cases hr
      next => cases hr
    next hk =>
      exact hr
    next h0 h1 h2 h3 =>
      split at hr
      next S1 h1 hs => exact ma_mono n _ _ _ _ _ _ _ hr
      next => cases hr
theorem ma_mono2 {P : ma_P} {n k d m : Nat} {is : List ma_I} {L : ma_L} {S : List Value} {h : List ma_C} {v : Option Value × List ma_C} (hr : ma_run P n d m is L S h = some v) (hk : n ≤ k) : ma_run P k d m is L S h = some v := by
  obtain ⟨j, rfl⟩ : ∃ j, k = n + j := ⟨k - n, by omega⟩
  clear hk
  induction j with
  | zero => exact hr
  | succ j ih => exact ma_mono _ _ _ _ _ _ _ _ ih
theorem rv_ex (P : ma_P) (d m : Nat) (is : List ma_I) (L : ma_L) (S : List Value) (h : List ma_C) : ∃ r : Option (Option Value × List ma_C), ∀ v, r = some v ↔ ∃ n, ma_run P n d m is L S h = some v := by
  by_cases hh : ∃ v n, ma_run P n d m is L S h = some v
  · obtain ⟨v, n, hn⟩ := hh
    refine ⟨some v, fun w => ⟨fun e => ?_, fun ⟨k, hk⟩ => ?_⟩⟩
    · cases e; exact ⟨n, hn⟩
    · have a := ma_mono2 hn (Nat.le_max_left n k)
      have b := ma_mono2 hk (Nat.le_max_right n k)
      exact a.symm.trans b
  · refine ⟨none, fun w => ⟨fun e => (by cases e), fun ⟨k, hk⟩ => absurd ⟨w, k, hk⟩ hh⟩⟩
noncomputable def rv (P : ma_P) (d m : Nat) (is : List ma_I) (L : ma_L) (S : List Value) (h : List ma_C) : Option (Option Value × List ma_C) := Classical.choose (rv_ex P d m is L S h)
theorem rv_iff {P : ma_P} {d m : Nat} {is : List ma_I} {L : ma_L} {S : List Value} {h : List ma_C} {v : Option Value × List ma_C} : rv P d m is L S h = some v ↔ ∃ n, ma_run P n d m is L S h = some v := Classical.choose_spec (rv_ex P d m is L S h) v
/-- a call's value -/
noncomputable def cv (P : ma_P) (d m : Nat) (a : List Value) (h : List ma_C) : Option (Option Value × List ma_C) := rv P d m (P.1 m 0) (ma_en a (P.2.1 m)) [] h
section RV
variable {P : ma_P} {d m : Nat} {is : List ma_I} {L L' : ma_L} {S S' : List Value} {h h' : List ma_C} {i : Instr} {o : List Nat}
theorem rv_step {d' m' : Nat} {is' : List ma_I} (e : ∀ n, ma_run P (n + 1) d m is L S h = ma_run P n d' m' is' L' S' h') : rv P d m is L S h = rv P d' m' is' L' S' h' := by
  apply Option.ext
  intro v
  rw [rv_iff, rv_iff]
  constructor
  · rintro ⟨n, hn⟩
    cases n with
    | zero => simp [ma_run] at hn
    | succ n => exact ⟨n, (e n).symm.trans hn⟩
  · rintro ⟨n, hn⟩
    exact ⟨n + 1, (e n).trans hn⟩
theorem rv_s (hk : ma_k i o = 0) (hs : ma_s P.2.2.2.2 P.2.2.1 i o L S h = some (L', S', h')) : rv P d m ((i, o) :: is) L S h = rv P d m is L' S' h' :=
  rv_step fun n => by rw [ma_run, hk]; simp only [hs]
theorem rv_none (hr : ∀ n, ma_run P n d m is L S h = none) : rv P d m is L S h = none := by
  cases e : rv P d m is L S h with
  | none => rfl
  | some v =>
    obtain ⟨n, hn⟩ := rv_iff.mp e
    rw [hr n] at hn
    cases hn
theorem rv_sn (hk : ma_k i o = 0) (hs : ma_s P.2.2.2.2 P.2.2.1 i o L S h = none) : rv P d m ((i, o) :: is) L S h = none :=
  rv_none fun n => by
    cases n with
    | zero => rfl
    | succ n => rw [ma_run, hk]; simp only [hs]
theorem rv_j {t : Nat} (hk : ma_k i o = 1) (hs : ma_j i o S = some (some t, S')) : rv P d m ((i, o) :: is) L S h = rv P d m (P.1 m t) L S' h :=
  rv_step fun n => by rw [ma_run, hk]; simp only [hs]
theorem rv_jn (hk : ma_k i o = 1) (hs : ma_j i o S = some (none, S')) : rv P d m ((i, o) :: is) L S h = rv P d m is L S' h :=
  rv_step fun n => by rw [ma_run, hk]; simp only [hs]
theorem rv_x (hk : ma_k i o = 4) (hd : ¬ d < 9) (hs : ma_x P.2.2.2.1 i o S h = some (S', h')) : rv P d m ((i, o) :: is) L S h = rv P d m is L S' h' :=
  rv_step fun n => by rw [ma_run, hk]; simp only [if_neg hd, hs]
theorem rv_r {r : Option Value} (hk : ma_k i o = 3) (hs : ma_r i o S = some r) : rv P d m ((i, o) :: is) L S h = some (r, h) :=
  rv_iff.mpr ⟨1, by rw [ma_run, hk]; simp only [hs]⟩
theorem rv_c {m' : Nat} {a : List Value} (hk : ma_k i o = 2) (hs : ma_c i o S h = some (m', a, S')) (hl : (ma_ent a).length ≤ P.2.1 m') : rv P (d + 1) m ((i, o) :: is) L S h = (cv P d m' a h).bind (fun q => rv P (d + 1) m is L (q.1.toList ++ S') q.2) := by
  apply Option.ext
  intro v
  have hz : ¬ P.2.1 m' < (ma_ent a).length := Nat.not_lt.mpr hl
  rw [rv_iff, Option.bind_eq_some_iff]
  constructor
  · rintro ⟨n, hn⟩
    cases n with
    | zero => simp [ma_run] at hn
    | succ n =>
      rw [ma_run, hk] at hn
      simp only [hs, if_neg hz] at hn
      split at hn
      next r1 h1 h2 => exact ⟨(r1, h1), rv_iff.mpr ⟨n, h2⟩, rv_iff.mpr ⟨n, hn⟩⟩
      next => cases hn
  · rintro ⟨⟨r1, h1⟩, e1, e2⟩
    obtain ⟨n1, e1⟩ := rv_iff.mp e1
    obtain ⟨n2, e2⟩ := rv_iff.mp e2
    refine ⟨max n1 n2 + 1, ?_⟩
    rw [ma_run, hk]
    simp only [hs, if_neg hz, ma_mono2 e1 (Nat.le_max_left n1 n2)]
    exact ma_mono2 e2 (Nat.le_max_right n1 n2)
end RV
