/-! ===== switches, copies of arrays, a boolean that is put ===== -/
section SW
variable {sc : Nat × (Nat → Int32)} {d mm : Nat} {is : List ma_I} {L : ma_L} {S : List Value} {o : List Nat} {c m : Nat → Nat → Int32} {w : Nat → Int64} {h : List ma_C}
/-- a switch from 0 on, as a chain -/
noncomputable def swc (sc : Nat × (Nat → Int32)) (d mm : Nat) (L : ma_L) (S : List Value) (h : List ma_C) (x : Int32) (t0 : Nat) : Nat → List Nat → Option (Option Value × List ma_C)
  | _, [] => ev sc d mm (pm_blk mm t0) L S h
  | j, t :: ts => if x = nI j then ev sc d mm (pm_blk mm t) L S h else swc sc d mm L S h x t0 (j + 1) ts
theorem swc_0 (x : Int32) (t0 j : Nat) : swc sc d mm L S h x t0 j [] = ev sc d mm (pm_blk mm t0) L S h := rfl
theorem swc_s (x : Int32) (t0 j t : Nat) (ts : List Nat) : swc sc d mm L S h x t0 j (t :: ts) = if x = nI j then ev sc d mm (pm_blk mm t) L S h else swc sc d mm L S h x t0 (j + 1) ts := rfl
theorem swc_out (x : Int32) (t0 : Nat) : ∀ (ts : List Nat) (j : Nat), (∀ k, k < ts.length → x ≠ nI (j + k)) → swc sc d mm L S h x t0 j ts = ev sc d mm (pm_blk mm t0) L S h
  | [], _, _ => rfl
  | t :: ts, j, hx => by
    rw [swc_s, if_neg (show ¬ x = nI j from hx 0 (by simp))]
    exact swc_out x t0 ts (j + 1) (fun k hk => by rw [show j + 1 + k = j + (k + 1) by omega]; exact hx (k + 1) (by simp; omega))
theorem swc_in (x : Int32) (t0 : Nat) : ∀ (ts : List Nat) (j k t : Nat), ts[k]? = some t → x = nI (j + k) → j + ts.length < 2 ^ 31 → swc sc d mm L S h x t0 j ts = ev sc d mm (pm_blk mm t) L S h
  | [], _, _, _, hk, _, _ => by simp at hk
  | t :: ts, j, 0, t', hk, hx, _ => by
    simp at hk
    subst hk
    rw [swc_s, if_pos (show x = nI j from hx)]
  | t :: ts, j, k + 1, t', hk, hx, hl => by
    have hk2 : ts[k]? = some t' := by simpa using hk
    have hkl := (List.getElem?_eq_some_iff.mp hk2).1
    have hl2 : j + (ts.length + 1) < 2 ^ 31 := by simpa using hl
    rw [swc_s, if_neg (by rw [hx, nI_eq (by omega) (by omega)]; omega)]
    exact swc_in x t0 ts (j + 1) k t' hk2 (by rw [hx]; congr 1; omega) (by omega)
theorem ev_sw {z hi : Int} {offs : Array Int} (x : Int32) (t0 : Nat) (ts : List Nat) (hl : (ts.length : Int) = hi + 1) (hl2 : ts.length < 1000) : ev sc d mm ((.tableswitch z 0 hi offs, t0 :: ts) :: is) L (.int x :: S) h = swc sc d mm L S h x t0 0 ts := by
  by_cases hx : x.toInt < 0 ∨ hi < x.toInt
  · rw [swc_out x t0 ts 0 (fun k hk e => by rw [e, nI_toInt (by omega)] at hx; omega)]
    exact rv_j rfl (by simp only [ma_j]; rw [if_pos hx])
  · obtain ⟨k, hk⟩ : ∃ k : Nat, x.toInt = k := ⟨x.toInt.toNat, by omega⟩
    have hkl : k < ts.length := by omega
    have hxk : x = nI k := Int32.toInt_inj.mp (by rw [hk, nI_toInt (by omega)])
    rw [swc_in x t0 ts 0 k ts[k] (List.getElem?_eq_getElem hkl) (by rw [hxk]; congr 1; omega) (by omega)]
    refine rv_j rfl ?_
    simp only [ma_j]
    rw [if_neg hx, hk]
    simp only [Int.sub_zero, Int.toNat_natCast, List.getElem?_eq_getElem hkl]
theorem ev_cpC {x a b na nb n : Nat} (ha : a < 138) (hb : b < 138) (ea : ∀ f, hp_q a f w = .inl (0, na, .inl f)) (eb : ∀ f, hp_q b f w = .inl (0, nb, .inl f)) (h1 : n ≤ na) (h2 : n ≤ nb) (hn : n < 2 ^ 31) (h8 : ma_wd S ≤ 8) : ev sc (d + 9) mm ((.invokestatic x, [2]) :: is) L (.int (nI n) :: .int (nI 0) :: .ref b :: .int (nI 0) :: .ref a :: S) (hp c w m) = ev sc (d + 9) mm is L S (hp (va_up c b (va_cpy (c a) (c b) 0 0 n)) w m) := by
  refine rv_x rfl (by omega) ?_
  have ea' : hp_q a (hp_r c m a) w = .inl (0, na, .inl (c a)) := by unfold hp_r; rw [if_pos ha]; exact ea _
  have eb' : hp_q b (hp_r c m b) w = .inl (0, nb, .inl (c b)) := by unfold hp_r; rw [if_pos hb]; exact eb _
  simp only [ma_x, hp_get c w m (show a < 167 by omega), hp_get c w m (show b < 167 by omega), ea', eb', ma_wd_eq]
  have c0 : (nI 0).toNatClampNeg = 0 := by decide +kernel
  rw [if_neg, nI_clamp hn, c0, ← eb, hp_setC c w m hb]
  rw [nI_clamp hn, c0]
  have p0 := nI_pos (n := 0) (by decide)
  have pn := nI_pos hn
  rintro (z | z | z | z | z | z)
  · omega
  · exact pn z
  · exact p0 z
  · exact p0 z
  · omega
  · omega
end SW
theorem alC {sc : Nat × (Nat → Int32)} {d mm : Nat} {is : List ma_I} {L : ma_L} {S : List Value} {o : List Nat} {c m : Nat → Nat → Int32} {w : Nat → Int64} : (ev sc d mm ((.arraylength, o) :: is) L (.ref 12 :: S) (hp c w m) = ev sc d mm is L (.int (nI 400) :: S) (hp c w m)) ∧ (ev sc d mm ((.arraylength, o) :: is) L (.ref 14 :: S) (hp c w m) = ev sc d mm is L (.int (nI 80) :: S) (hp c w m)) ∧ (ev sc d mm ((.arraylength, o) :: is) L (.ref 16 :: S) (hp c w m) = ev sc d mm is L (.int (nI 80) :: S) (hp c w m)) ∧ (ev sc d mm ((.arraylength, o) :: is) L (.ref 92 :: S) (hp c w m) = ev sc d mm is L (.int (nI 80) :: S) (hp c w m)) ∧ (ev sc d mm ((.arraylength, o) :: is) L (.ref 37 :: S) (hp c w m) = ev sc d mm is L (.int (nI 80) :: S) (hp c w m)) ∧ (ev sc d mm ((.arraylength, o) :: is) L (.ref 39 :: S) (hp c w m) = ev sc d mm is L (.int (nI 80) :: S) (hp c w m)) ∧ (ev sc d mm ((.arraylength, o) :: is) L (.ref 23 :: S) (hp c w m) = ev sc d mm is L (.int (nI 600) :: S) (hp c w m)) ∧ (ev sc d mm ((.arraylength, o) :: is) L (.ref 46 :: S) (hp c w m) = ev sc d mm is L (.int (nI 600) :: S) (hp c w m)) ∧ (ev sc d mm ((.arraylength, o) :: is) L (.ref 81 :: S) (hp c w m) = ev sc d mm is L (.int (nI 401) :: S) (hp c w m)) ∧ (ev sc d mm ((.arraylength, o) :: is) L (.ref 104 :: S) (hp c w m) = ev sc d mm is L (.int (nI 12) :: S) (hp c w m)) :=
  ⟨ev_al (by decide) rfl, ev_al (by decide) rfl, ev_al (by decide) rfl, ev_al (by decide) rfl, ev_al (by decide) rfl, ev_al (by decide) rfl, ev_al (by decide) rfl, ev_al (by decide) rfl, ev_al (by decide) rfl, ev_al (by decide) rfl⟩
