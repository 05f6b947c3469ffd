/-! ===== image, both ways ===== -/
theorem mI_p {k j : Nat} (h : inM k j ∨ (k = 139 ∧ j < 49) ∨ (k = 145 ∧ j < 600)) : ∃ p, p < 1682 ∧ atP p = (k, j) ∧ ∀ m, mI m k j = m 166 p := by
  unfold inM at h
  rcases h with (⟨rfl, h⟩ | ⟨rfl, h⟩ | ⟨rfl | rfl, h⟩ | ⟨rfl, h⟩ | ⟨rfl | rfl | rfl | rfl, h⟩ | ⟨rfl | rfl, h⟩ | ⟨rfl, h⟩ | ⟨rfl, h⟩ | ⟨rfl, h⟩) | ⟨rfl, h⟩ | ⟨rfl, h⟩
  · rcases h with rfl | rfl | rfl | rfl | rfl | rfl | rfl | rfl
    · exact ⟨49, by omega, by decide, fun m => rfl⟩
    · exact ⟨50, by omega, by decide, fun m => rfl⟩
    · exact ⟨51, by omega, by decide, fun m => rfl⟩
    · exact ⟨52, by omega, by decide, fun m => rfl⟩
    · exact ⟨53, by omega, by decide, fun m => rfl⟩
    · exact ⟨54, by omega, by decide, fun m => rfl⟩
    · exact ⟨55, by omega, by decide, fun m => rfl⟩
    · exact ⟨56, by omega, by decide, fun m => rfl⟩
  · exact ⟨57 + j, by omega, at_142 h, fun m => rfl⟩
  · exact ⟨65 + 2 * j, by omega, at_143 h, fun m => rfl⟩
  · exact ⟨65 + 2 * j + 1, by omega, at_144 h, fun m => by show m 166 (66 + 2 * j) = _; congr 1; omega⟩
  · subst h; exact ⟨817, by omega, by decide, fun m => rfl⟩
  · exact ⟨818 + 4 * j, by omega, at_149 h, fun m => rfl⟩
  · exact ⟨818 + 4 * j + 1, by omega, at_150 h, fun m => by show m 166 (819 + 4 * j) = _; congr 1; omega⟩
  · exact ⟨818 + 4 * j + 1 + 1, by omega, at_151 h, fun m => by show m 166 (820 + 4 * j) = _; congr 1; omega⟩
  · exact ⟨818 + 4 * j + 1 + 1 + 1, by omega, at_152 h, fun m => by show m 166 (821 + 4 * j) = _; congr 1; omega⟩
  · exact ⟨882 + 2 * j, by omega, at_153 h, fun m => rfl⟩
  · exact ⟨882 + 2 * j + 1, by omega, at_154 h, fun m => by show m 166 (883 + 2 * j) = _; congr 1; omega⟩
  · exact ⟨93 + j, by omega, at_156 h, fun m => rfl⟩
  · exact ⟨157 + j, by omega, at_157 h, fun m => rfl⟩
  · exact ⟨77 + j, by omega, at_161 h, fun m => rfl⟩
  · exact ⟨0 + j, by omega, at_139 h, fun m => by show m 166 j = _; congr 1; omega⟩
  · exact ⟨217 + j, by omega, at_145 h, fun m => rfl⟩
theorem mI_T {m0 M : Nat → Nat → Int32} (I : iT m0 1682 M) {k j : Nat} (h : inM k j ∨ (k = 139 ∧ j < 49) ∨ (k = 145 ∧ j < 600)) : mI M k j = m0 k j := by
  obtain ⟨p, hp, ha, e⟩ := mI_p h
  rw [e, I.2.2.2.2 p hp, ha]
theorem mI_U {m0 M : Nat → Nat → Int32} (I : iU m0 1682 M) {k j : Nat} (h : inM k j ∨ (k = 139 ∧ j < 49) ∨ (k = 145 ∧ j < 600)) : M k j = mI m0 k j := by
  obtain ⟨p, hp, ha, e⟩ := mI_p h
  have := I.2.2.2.1 p hp
  rw [ha] at this
  rw [e]
  exact this
section PI
variable {sc : Nat × (Nat → Int32)} {W S Q : Nat} {ls : List lL} {c m Z : Nat → Nat → Int32} {w : Nat → Int64}
theorem t_imageT (d : Nat) (x0 x1 : Option Value) (M : Nat → Nat → Int32) (h1 : M 138 56 = nI 0) (h2 : M 138 54 = nI 1) : ∃ M', iT M 1682 M' ∧ ∀ c, ev sc (d + 2) 286 (pm_blk 286 35) [some (.ref 138), some (.int (nI 1)), some (.int (nI 0))] [] (hp c w M) = some (some (.int (nI 1)), hp c w M') := by
  have I0 : iT M (0 + 0) M := ⟨h1, h2, fun _ _ _ => rfl, fun _ _ => rfl, fun p hp => by omega⟩
  obtain ⟨M1, E1, I1⟩ := imT_a (sc := sc) (w := w) (d + 1) (some (.int (nI 1))) I0
  simp only [Nat.reduceAdd] at I1
  obtain ⟨M2, E2, I2⟩ := t_keepsToldT (sc := sc) (w := w) d I1
  obtain ⟨M3, E3, I3⟩ := imT_g (sc := sc) (w := w) (d + 1) (some (.int (nI 1))) (M := M2) I2
  simp only [Nat.reduceAdd] at I3
  obtain ⟨M4, E4, I4⟩ := t_keepsLawT (sc := sc) (w := w) d I3
  refine ⟨M4, I4, fun c => ?_⟩
  rw [E1, bh_MO_image_35]
  simp (disch := first | assumption | omega | decide | (simp only [ma_wd0, ma_wdi, ma_wdr, ma_wdl, ma_wdn] <;> omega)) only [↓reduceIte, evK, evL, evS, evA, evJ, Option.bind_some, Option.toList, List.cons_append, List.nil_append, nI_add, pk_mul, bI0, ite_not, ev_rbb, up_n, up_s, up_u, pk_us, pk_un, Nat.reduceAdd, nI_ltT, nI_ltF, nI_leT, nI_leF, nI_eqT, nI_eqF, bk_MO_image, gfM, ce_MO_keepsTold, E2]
  rw [E3, bh_MO_image_69]
  simp (disch := first | assumption | omega | decide | (simp only [ma_wd0, ma_wdi, ma_wdr, ma_wdl, ma_wdn] <;> omega)) only [↓reduceIte, evK, evL, evS, evA, evJ, Option.bind_some, Option.toList, List.cons_append, List.nil_append, nI_add, pk_mul, bI0, ite_not, ev_rbb, up_n, up_s, up_u, pk_us, pk_un, Nat.reduceAdd, nI_ltT, nI_ltF, nI_leT, nI_leF, nI_eqT, nI_eqF, bk_MO_image, gfM, ce_MO_keepsLaw, E4]
theorem t_imageU (d : Nat) (M : Nat → Nat → Int32) (h1 : M 138 56 = nI 0) (h2 : M 138 54 = nI 0) : ∃ M', iU M 1682 M' ∧ ∀ c, ev sc (d + 2) 286 (pm_blk 286 35) [some (.ref 138), some (.int (nI 0)), some (.int (nI 0))] [] (hp c w M) = some (some (.int (nI 1)), hp c w (va_up M' 138 (upd (M' 138) 3 (nI 0)))) := by
  have I0 : iU M (0 + 0) M := ⟨h1, h2, rfl, fun p hp => by omega, fun _ _ => rfl, fun _ _ => rfl⟩
  obtain ⟨M1, E1, I1⟩ := imU_a (sc := sc) (w := w) (d + 1) (some (.int (nI 0))) I0
  simp only [Nat.reduceAdd] at I1
  obtain ⟨M2, E2, I2⟩ := t_keepsToldU (sc := sc) (w := w) d I1
  obtain ⟨M3, E3, I3⟩ := imU_g (sc := sc) (w := w) (d + 1) (some (.int (nI 0))) (M := M2) I2
  simp only [Nat.reduceAdd] at I3
  obtain ⟨M4, E4, I4⟩ := t_keepsLawU (sc := sc) (w := w) d I3
  refine ⟨M4, I4, fun c => ?_⟩
  rw [E1, bh_MO_image_35]
  simp (disch := first | assumption | omega | decide | (simp only [ma_wd0, ma_wdi, ma_wdr, ma_wdl, ma_wdn] <;> omega)) only [↓reduceIte, evK, evL, evS, evA, evJ, Option.bind_some, Option.toList, List.cons_append, List.nil_append, nI_add, pk_mul, bI0, ite_not, ev_rbb, up_n, up_s, up_u, pk_us, pk_un, Nat.reduceAdd, nI_ltT, nI_ltF, nI_leT, nI_leF, nI_eqT, nI_eqF, bk_MO_image, gfM, ce_MO_keepsTold, E2]
  rw [E3, bh_MO_image_69]
  simp (disch := first | assumption | omega | decide | (simp only [ma_wd0, ma_wdi, ma_wdr, ma_wdl, ma_wdn] <;> omega)) only [↓reduceIte, evK, evL, evS, evA, evJ, Option.bind_some, Option.toList, List.cons_append, List.nil_append, nI_add, pk_mul, bI0, ite_not, ev_rbb, up_n, up_s, up_u, pk_us, pk_un, Nat.reduceAdd, nI_ltT, nI_ltF, nI_leT, nI_leF, nI_eqT, nI_eqF, bk_MO_image, gfM, pfM, ce_MO_keepsLaw, E4]
theorem p_image (d : Nat) (b : Int32) (hb : b = nI 0 ∨ b = nI 1) (h : gR c m) : pub sc w (d + 20) 40 286 [.int b] c m := by
  obtain ⟨W, S, Q, ls, Z, g⟩ := h.e
  obtain ⟨t, j, p, i, x⟩ := id g
  have hS := t.2.2.1.2.2.1
  rcases hb with rfl | rfl
  · rcases i with ⟨i1, i2⟩ | ⟨i1, i2, W', S', Q', ls', Z', t', z1, z2, z3, z4⟩
    · refine ⟨c, _, nI 0, fun m0 => ?_, fun c0 => ?_, h.q0⟩
      · simp (disch := first | assumption | omega | decide | (simp only [ma_wd0, ma_wdi, ma_wdr, ma_wdl, ma_wdn] <;> omega)) only [↓reduceIte, evK, evL, evS, evA, evJ, Option.bind_some, Option.toList, List.cons_append, List.nil_append, nI_add, pk_mul, bI0, ite_not, ev_rbb, up_n, up_s, up_u, pk_us, pk_un, Nat.reduceAdd, nI_ltT, nI_ltF, nI_leT, nI_leF, nI_eqT, nI_eqF, en_LH_image, bk_LH_image, gfC, i1]
      · simp (disch := first | assumption | omega | decide | (simp only [ma_wd0, ma_wdi, ma_wdr, ma_wdl, ma_wdn] <;> omega)) only [↓reduceIte, evK, evL, evS, evA, evJ, Option.bind_some, Option.toList, List.cons_append, List.nil_append, nI_add, pk_mul, bI0, ite_not, ev_rbb, up_n, up_s, up_u, pk_us, pk_un, Nat.reduceAdd, nI_ltT, nI_ltF, nI_leT, nI_leF, nI_eqT, nI_eqF, en_MO_image, bk_MO_image, gfM, pfM, i2]
    · have hS' := t'.2.2.1.2.2.1
      obtain ⟨c1, e1, s1, q1⟩ := t_Told_copy2 (sc := sc) (c := c) (w := w) (d + 9)
      have e2 := fun m => t_Line_copy (sc := sc) (c := c1) (m := m) (w := w) (d + 10) 17 40 (by simp [lX])
      have s2 := lV_E c1 17 40
      have q2 : ∀ k, k < 17 ∨ 21 < k → lV c1 17 40 k = c1 k := fun k hk => lV_fr c1 17 40 k (by simp only [List.mem_cons, List.not_mem_nil, or_false]; omega)
      generalize lV c1 17 40 = c2 at e2 s2 q2
      have e3 := fun m => t_Book_copy (sc := sc) (c := c2) (m := m) (w := w) (d + 10) 22 45 (Or.inr rfl)
      obtain ⟨M', I, em⟩ := t_imageU (sc := sc) (w := w) (d + 18) (va_up m 138 (upd (upd (upd (upd (m 138) 0 (nI 0)) 54 (nI 0)) 55 (nI 1)) 56 (nI 0))) (by rw [up_s, pk_us]) (by rw [up_s, pk_un (by omega), pk_un (by omega), pk_us])
      have e46 : c2 46 = c 46 := by rw [q2 46 (by omega), q1 46 (by omega)]
      have hC : ∀ k, (k = 0 ∨ 24 ≤ k) → k ≠ 47 → va_up (va_up c2 23 (va_cpy (c2 46) (c2 23) 0 0 600)) 47 (upd (c2 47) 1 (nI 0)) k = c k := fun k hk h47 => by
        rw [up_n _ _ _ _ h47, up_n _ _ _ _ (by omega), q2 k (by omega), q1 k (by omega)]
      have hM : ∀ r, r ∉ imR → va_up M' 138 (upd (M' 138) 3 (nI 0)) r = m r := fun r hr => by
        have h138 : r ≠ 138 := fun z => hr (by rw [z]; simp [imR])
        rw [up_n _ _ _ _ h138, I.2.2.2.2.1 r hr, up_n _ _ _ _ h138]
      have hF : ∀ f, f ∉ imF → f ≠ 3 → f ≠ 0 → f ≠ 54 → f ≠ 55 → va_up M' 138 (upd (M' 138) 3 (nI 0)) 138 f = m 138 f := fun f hf h3 h0 h54 h55 => by
        have h56 : f ≠ 56 := fun z => hf (by rw [z]; simp [imF])
        rw [up_s, pk_un h3, I.2.2.2.2.2 f hf, up_s, pk_un h56, pk_un h55, pk_un h54, pk_un h0]
      have hV : ∀ k j, (inM k j ∨ (k = 139 ∧ j < 49) ∨ (k = 145 ∧ j < 600)) → va_up M' 138 (upd (M' 138) 3 (nI 0)) k j = mI m k j := fun k j hk => by
        have e5 := mI_U I hk
        rw [mI_c (m := m) (up_n _ _ _ _ (by omega))] at e5
        rw [← e5]
        by_cases z : k = 138
        · subst z
          rw [up_s, pk_un (by unfold inM at hk; omega)]
        · rw [up_n _ _ _ _ z]
      refine ⟨va_up (va_up c2 23 (va_cpy (c2 46) (c2 23) 0 0 600)) 47 (upd (c2 47) 1 (nI 0)), va_up M' 138 (upd (M' 138) 3 (nI 0)), nI 1, fun m0 => ?_, fun c0 => ?_, W', S', Q', ls', t'.pt (fun k j hk => ?_) (fun k j hk => hV k j (Or.inl hk)), ⟨Z', ?_, ?_, z3, fun k hk => ?_, Or.inl ⟨rfl, ?_⟩⟩, p.zero ?_ ?_ ?_, ?_, ?_⟩
      · have i1' : c2 0 6 = nI 1 := by rw [q2 0 (by omega), q1 0 (by omega)]; exact i1
        simp (disch := first | assumption | omega | decide | (simp only [ma_wd0, ma_wdi, ma_wdr, ma_wdl, ma_wdn] <;> omega)) only [↓reduceIte, evK, evL, evS, evA, evJ, Option.bind_some, Option.toList, List.cons_append, List.nil_append, nI_add, pk_mul, bI0, ite_not, ev_rbb, up_n, up_s, up_u, pk_us, pk_un, Nat.reduceAdd, nI_ltT, nI_ltF, nI_leT, nI_leF, nI_eqT, nI_eqF, en_LH_image, bk_LH_image, gfC, pfC, i1, i1', ce_Told_copy, e1, ce_Line_copy, e2, ce_Book_copy, e3, ce_Past_forget, en_Past_forget]
      · simp (disch := first | assumption | omega | decide | (simp only [ma_wd0, ma_wdi, ma_wdr, ma_wdl, ma_wdn] <;> omega)) only [↓reduceIte, evK, evL, evS, evA, evJ, Option.bind_some, Option.toList, List.cons_append, List.nil_append, nI_add, pk_mul, bI0, ite_not, ev_rbb, up_n, up_s, up_u, pk_us, pk_un, Nat.reduceAdd, nI_ltT, nI_ltF, nI_leT, nI_leF, nI_eqT, nI_eqF, en_MO_image, bk_MO_image, gfM, pfM, i2]
        exact em c0
      · have h1 : 1 ≤ k ∧ k ≤ 16 := by unfold inC at hk; omega
        rw [up_n _ _ _ _ (by omega), up_n _ _ _ _ (by omega), q2 k (by omega)]
        exact s1 k j hk
      · refine zC.eq (c := c2) ?_ (fun k a b => by rw [up_n _ _ _ _ (by omega), up_n _ _ _ _ (by omega)])
        refine z1.lE (y := 17) ?_ hS'
        obtain ⟨l1, l2, l3, l4, l5⟩ := s2
        have g40 : ∀ k, 40 ≤ k → k ≤ 44 → c1 k = c k := fun k a b => q1 k (by omega)
        rw [g40 40 (by omega) (by omega)] at l1
        rw [g40 41 (by omega) (by omega)] at l2
        rw [g40 42 (by omega) (by omega)] at l3
        rw [g40 43 (by omega) (by omega)] at l4
        rw [g40 44 (by omega) (by omega)] at l5
        exact ⟨l1, l2, l3, l4, l5⟩
      · exact z2.eq hS' (fun k hk => hV 139 k (Or.inr (Or.inl ⟨rfl, hk⟩)))
      · rw [up_n _ _ _ _ (by omega), up_s, cp0 hk, e46, hV 145 k (Or.inr (Or.inr ⟨rfl, hk⟩))]
        exact z4 k hk
      · rw [hF 5 (by simp [imF]) (by omega) (by omega) (by omega) (by omega)]
        exact j.t17
      · exact hC 48 (by omega) (by omega)
      · rw [up_s, pk_us]
      · rw [up_s, pk_us]
      · refine iR.eq (c := c) (m := m) (Or.inr ⟨i1, i2, W', S', Q', ls', Z', t', z1, z2, z3, z4⟩) (by rw [hC 0 (by omega) (by omega)]) (fun k a b => hC k (by omega) (by omega)) (hM 166 (by simp [imR])) ?_
        rw [up_s, pk_un (by omega), I.2.2.2.2.2 55 (by simp [imF]), up_s, pk_un (by omega), pk_us, i2]
      · exact x.eq (by rw [hC 79 (by omega) (by omega)]) (by rw [hC 79 (by omega) (by omega)]) (by rw [hC 79 (by omega) (by omega)]) (hC 80 (by omega) (by omega)) (hF _ (by simp [imF]) (by omega) (by omega) (by omega) (by omega)) (hF _ (by simp [imF]) (by omega) (by omega) (by omega) (by omega)) (hF _ (by simp [imF]) (by omega) (by omega) (by omega) (by omega)) (hM _ (by simp [imR])) (hM _ (by simp [imR]))
  · obtain ⟨c1, e1, s1, q1⟩ := t_Told_copy1 (sc := sc) (c := c) (w := w) (d + 9)
    have e2 := fun m => t_Line_copy (sc := sc) (c := c1) (m := m) (w := w) (d + 10) 40 17 (by simp [lX])
    have s2 := lV_E c1 40 17
    have q2 : ∀ k, k < 40 ∨ 44 < k → lV c1 40 17 k = c1 k := fun k hk => lV_fr c1 40 17 k (by simp only [List.mem_cons, List.not_mem_nil, or_false]; omega)
    generalize lV c1 40 17 = c2 at e2 s2 q2
    have e3 := fun m => t_Book_copy (sc := sc) (c := c2) (m := m) (w := w) (d + 10) 45 22 (Or.inl rfl)
    obtain ⟨M', I, em⟩ := t_imageT (sc := sc) (w := w) (d + 18) none none (va_up m 138 (upd (upd (upd (upd (m 138) 0 (nI 0)) 54 (nI 1)) 55 (nI 1)) 56 (nI 0))) (by rw [up_s, pk_us]) (by rw [up_s, pk_un (by omega), pk_un (by omega), pk_us])
    have hC : ∀ k, (k < 24 ∨ 46 < k) → k ≠ 0 → va_up (va_up c2 46 (va_cpy (c2 23) (c2 46) 0 0 600)) 0 (upd (c2 0) 6 (nI 1)) k = c k := fun k hk h0 => by
      rw [up_n _ _ _ _ h0, up_n _ _ _ _ (by omega), q2 k (by omega), q1 k (by omega)]
    have hM : ∀ r, r ≠ 138 → r ≠ 166 → M' r = m r := fun r h1 h2 => by rw [I.2.2.1 r h1 h2, up_n _ _ _ _ h1]
    have hF : ∀ f, f ≠ 0 → f ≠ 54 → f ≠ 55 → f ≠ 56 → M' 138 f = m 138 f := fun f h0 h54 h55 h56 => by
      rw [I.2.2.2.1 f h56, up_s, pk_un h56, pk_un h55, pk_un h54, pk_un h0]
    have hV : ∀ k j, (inM k j ∨ (k = 139 ∧ j < 49) ∨ (k = 145 ∧ j < 600)) → mI M' k j = m k j := fun k j hk => by
      rw [mI_T I hk]
      by_cases z : k = 138
      · subst z
        rw [up_s, pk_un (by unfold inM at hk; omega), pk_un (by unfold inM at hk; omega), pk_un (by unfold inM at hk; omega), pk_un (by unfold inM at hk; omega)]
      · rw [up_n _ _ _ _ z]
    refine ⟨va_up (va_up c2 46 (va_cpy (c2 23) (c2 46) 0 0 600)) 0 (upd (c2 0) 6 (nI 1)), M', nI 1, fun m0 => ?_, fun c0 => ?_, W, S, Q, ls, t.eq (fun k hk => hC k ?_ ?_) (fun k hk => hM k ?_ ?_) (fun k hk => hF k ?_ ?_ ?_ ?_), ⟨Z, j.eq (fun k a b => hC k (by omega) (by omega)) (hC 23 (by omega) (by omega)) (hM _ (by omega) (by omega)) (hM _ (by omega) (by omega)) (hF _ (by omega) (by omega) (by omega) (by omega))⟩, p.eq (fun k a b => hC k (by omega) (by omega)) (hM _ (by omega) (by omega)) (hF _ (by omega) (by omega) (by omega) (by omega)), Or.inr ⟨?_, ?_, W, S, Q, ls, Z, t.pt (fun k j hk => ?_) (fun k j hk => hV k j (Or.inl hk)), ?_, ?_, j.2.2.1, fun k hk => ?_⟩, ?_⟩
    · simp (disch := first | assumption | omega | decide | (simp only [ma_wd0, ma_wdi, ma_wdr, ma_wdl, ma_wdn] <;> omega)) only [↓reduceIte, evK, evL, evS, evA, evJ, Option.bind_some, Option.toList, List.cons_append, List.nil_append, nI_add, pk_mul, bI0, ite_not, ev_rbb, up_n, up_s, up_u, pk_us, pk_un, Nat.reduceAdd, nI_ltT, nI_ltF, nI_leT, nI_leF, nI_eqT, nI_eqF, en_LH_image, bk_LH_image, gfC, pfC, ce_Told_copy, e1, ce_Line_copy, e2, ce_Book_copy, e3]
    · simp (disch := first | assumption | omega | decide | (simp only [ma_wd0, ma_wdi, ma_wdr, ma_wdl, ma_wdn] <;> omega)) only [↓reduceIte, evK, evL, evS, evA, evJ, Option.bind_some, Option.toList, List.cons_append, List.nil_append, nI_add, pk_mul, bI0, ite_not, ev_rbb, up_n, up_s, up_u, pk_us, pk_un, Nat.reduceAdd, nI_ltT, nI_ltF, nI_leT, nI_leF, nI_eqT, nI_eqF, en_MO_image, bk_MO_image, gfM, pfM]
      exact em c0
    · simp only [tRc, List.mem_cons, List.not_mem_nil, or_false] at hk; omega
    · simp only [tRc, List.mem_cons, List.not_mem_nil, or_false] at hk; omega
    · simp only [tRm, List.mem_cons, List.not_mem_nil, or_false] at hk; omega
    · simp only [tRm, List.mem_cons, List.not_mem_nil, or_false] at hk; omega
    · simp only [tRf, List.mem_cons, List.not_mem_nil, or_false] at hk; omega
    · simp only [tRf, List.mem_cons, List.not_mem_nil, or_false] at hk; omega
    · simp only [tRf, List.mem_cons, List.not_mem_nil, or_false] at hk; omega
    · simp only [tRf, List.mem_cons, List.not_mem_nil, or_false] at hk; omega
    · rw [up_s, pk_us]
    · rw [I.2.2.2.1 55 (by omega), up_s, pk_un (by omega), pk_us]
    · have h1 : 1 ≤ k ∧ k ≤ 16 := by unfold inC at hk; omega
      show va_up (va_up c2 46 (va_cpy (c2 23) (c2 46) 0 0 600)) 0 (upd (c2 0) 6 (nI 1)) (k + 23) j = _
      rw [up_n _ _ _ _ (by omega), up_n _ _ _ _ (by omega), q2 _ (by omega)]
      exact s1 k j hk
    · refine zC.eq (c := fun k => c2 (k + 23)) ?_ (fun k a b => by
        show va_up (va_up c2 46 (va_cpy (c2 23) (c2 46) 0 0 600)) 0 (upd (c2 0) 6 (nI 1)) (k + 23) = _
        rw [up_n _ _ _ _ (by omega), up_n _ _ _ _ (by omega)])
      refine zC.lE (c := c) (y := 17) j.1 ?_ hS
      obtain ⟨l1, l2, l3, l4, l5⟩ := s2
      have g17 : ∀ k, 17 ≤ k → k ≤ 21 → c1 k = c k := fun k a b => q1 k (by omega)
      rw [g17 17 (by omega) (by omega)] at l1
      rw [g17 18 (by omega) (by omega)] at l2
      rw [g17 19 (by omega) (by omega)] at l3
      rw [g17 20 (by omega) (by omega)] at l4
      rw [g17 21 (by omega) (by omega)] at l5
      exact ⟨l1, l2, l3, l4, l5⟩
    · exact j.2.1.eq hS (fun k hk => hV 139 k (Or.inr (Or.inl ⟨rfl, hk⟩)))
    · have e23 : c2 23 = c 23 := by rw [q2 23 (by omega), q1 23 (by omega)]
      rw [up_n _ _ _ _ (by omega), up_s, cp0 hk, e23, hV 145 k (Or.inr (Or.inr ⟨rfl, hk⟩))]
      exact j.2.2.2.1 k hk
    · exact x.eq (by rw [hC 79 (by omega) (by omega)]) (by rw [hC 79 (by omega) (by omega)]) (by rw [hC 79 (by omega) (by omega)]) (hC 80 (by omega) (by omega)) (hF _ (by omega) (by omega) (by omega) (by omega)) (hF _ (by omega) (by omega) (by omega) (by omega)) (hF _ (by omega) (by omega) (by omega) (by omega)) (hM _ (by omega) (by omega)) (hM _ (by omega) (by omega))
end PI
