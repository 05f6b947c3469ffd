/-! ===== text: the reference reads a token ===== -/
section RF
variable {sc : Nat × (Nat → Int32)} {w : Nat → Int64} {n : Nat} {b : Nat → Nat}
theorem r_blank (d p : Nat) (hp1 : p ≤ n) (hp2 : p < n → ¬ isBl (b p)) : ∀ (k j : Nat) (m : Nat → Nat → Int32), j + k = p → tpM n b m → m 138 17 = nI j → (∀ i, j ≤ i → i < p → isBl (b i)) → ∀ (c : Nat → Nat → Int32) (x1 : Option Value), ev sc (d + 1) 178 (pm_blk 178 0) [some (.ref 138), x1] [] (hp c w m) = ev sc (d + 1) 178 (pm_blk 178 39) [some (.ref 138), x1] [] (hp c w (va_up m 138 (upd (m 138) 17 (nI p))))
  | 0, j, m, hj, ht, h17, hb, c, x1 => by
    have hj : j = p := by omega
    subst hj
    have hn := ht.2.1
    have a1 := fun d => t_raw (sc := sc) (c := c) (w := w) d j m ht (by omega)
    rw [upd_sf h17, up_self]
    unfold rwV at a1
    conv => lhs; rw [bh_MO_reads_0]
    by_cases z : j < n
    · have hbl := hp2 z
      have hx := (ht.2.2.1 j z).1
      unfold isBl at hbl
      rw [if_pos z] at a1
      simp (disch := first | assumption | omega | decide | (simp only [ma_wd0, ma_wdi, ma_wdr, ma_wdl, ma_wdn] <;> omega)) only [↓reduceIte, evK, evL, evS, evA, evJ, Option.bind_some, Option.toList, List.cons_append, List.nil_append, nI_add, pk_mul, bI0, ite_not, ev_rbb, up_n, up_s, up_u, pk_us, pk_un, Nat.reduceAdd, nI_ltT, nI_ltF, nI_leT, nI_leF, nI_eqT, nI_eqF, bk_MO_reads, gfC, gfM, ev_r0, ev_r1, eq_self, n_m1e, true_and, and_true, false_and, and_false, and_self, not_true_eq_false, not_false_eq_true, h17, ce_MO_raw, a1]
    · rw [if_neg z] at a1
      have e1 : ((-1 : Int32) = nI 32) = False := eq_false (by decide +kernel)
      have e2 : ((-1 : Int32) = nI 10) = False := eq_false (by decide +kernel)
      simp (disch := first | assumption | omega | decide | (simp only [ma_wd0, ma_wdi, ma_wdr, ma_wdl, ma_wdn] <;> omega)) only [↓reduceIte, evK, evL, evS, evA, evJ, Option.bind_some, Option.toList, List.cons_append, List.nil_append, nI_add, pk_mul, bI0, ite_not, ev_rbb, up_n, up_s, up_u, pk_us, pk_un, Nat.reduceAdd, nI_ltT, nI_ltF, nI_leT, nI_leF, nI_eqT, nI_eqF, bk_MO_reads, gfC, gfM, ev_r0, ev_r1, eq_self, n_m1e, true_and, and_true, false_and, and_false, and_self, not_true_eq_false, not_false_eq_true, h17, ce_MO_raw, a1, e1, e2]
  | k + 1, j, m, hj, ht, h17, hb, c, x1 => by
    have hn := ht.2.1
    have a1 := fun d => t_raw (sc := sc) (c := c) (w := w) d j m ht (by omega)
    unfold rwV at a1
    rw [if_pos (by omega)] at a1
    have hx := (ht.2.2.1 j (by omega)).1
    have hbl := hb j (by omega) (by omega)
    have hm1 : mRF m (va_up m 138 (upd (m 138) 17 (nI (j + 1)))) := mRF.u (fun i h _ _ _ => pk_un h)
    have ih := r_blank d p hp1 hp2 k (j + 1) (va_up m 138 (upd (m 138) 17 (nI (j + 1)))) (by omega) (hm1.tp ht) (by rw [up_s, pk_us]) (fun i g1 g2 => hb i (by omega) g2) c x1
    rw [up_s, up_u, upd_uu] at ih
    rw [← ih]
    conv => lhs; rw [bh_MO_reads_0]
    rcases hbl with z | z
    · rw [z] at a1
      simp (disch := first | assumption | omega | decide | (simp only [ma_wd0, ma_wdi, ma_wdr, ma_wdl, ma_wdn] <;> omega)) only [↓reduceIte, evK, evL, evS, evA, evJ, Option.bind_some, Option.toList, List.cons_append, List.nil_append, nI_add, pk_mul, bI0, ite_not, ev_rbb, up_n, up_s, up_u, pk_us, pk_un, Nat.reduceAdd, nI_ltT, nI_ltF, nI_leT, nI_leF, nI_eqT, nI_eqF, bk_MO_reads, gfC, gfM, ev_r0, ev_r1, eq_self, n_m1e, true_and, and_true, false_and, and_false, and_self, not_true_eq_false, not_false_eq_true, h17, ce_MO_raw, a1, pfM]
    · rw [z] at a1
      simp (disch := first | assumption | omega | decide | (simp only [ma_wd0, ma_wdi, ma_wdr, ma_wdl, ma_wdn] <;> omega)) only [↓reduceIte, evK, evL, evS, evA, evJ, Option.bind_some, Option.toList, List.cons_append, List.nil_append, nI_add, pk_mul, bI0, ite_not, ev_rbb, up_n, up_s, up_u, pk_us, pk_un, Nat.reduceAdd, nI_ltT, nI_ltF, nI_leT, nI_leF, nI_eqT, nI_eqF, bk_MO_reads, gfC, gfM, ev_r0, ev_r1, eq_self, n_m1e, true_and, and_true, false_and, and_false, and_self, not_true_eq_false, not_false_eq_true, h17, ce_MO_raw, a1, pfM]
theorem r_let (d e : Nat) (he : e ≤ n) (hp2 : e < n → ¬ isLt (b e)) : ∀ (k j : Nat) (m : Nat → Nat → Int32), j + k = e → tpM n b m → m 138 17 = nI j → (∀ i, j ≤ i → i < e → isLt (b i)) → ∀ (c : Nat → Nat → Int32) (x1 : Option Value), ev sc (d + 2) 178 (pm_blk 178 95) [some (.ref 138), x1] [] (hp c w m) = ev sc (d + 2) 178 (pm_blk 178 123) [some (.ref 138), x1] [] (hp c w (va_up m 138 (upd (m 138) 17 (nI e))))
  | 0, j, m, hj, ht, h17, hb, c, x1 => by
    have hj : j = e := by omega
    subst hj
    have hn := ht.2.1
    have a1 := fun d => t_raw (sc := sc) (c := c) (w := w) d j m ht (by omega)
    rw [upd_sf h17, up_self]
    unfold rwV at a1
    conv => lhs; rw [bh_MO_reads_95]
    by_cases z : j < n
    · have hx := (ht.2.2.1 j z).1
      have a2 := fun d => t_mLet (sc := sc) (c := c) (w := w) d (b j) m hx
      rw [bI_f (hp2 z)] at a2
      rw [if_pos z] at a1
      simp (disch := first | assumption | omega | decide | (simp only [ma_wd0, ma_wdi, ma_wdr, ma_wdl, ma_wdn] <;> omega)) only [↓reduceIte, evK, evL, evS, evA, evJ, Option.bind_some, Option.toList, List.cons_append, List.nil_append, nI_add, pk_mul, bI0, ite_not, ev_rbb, up_n, up_s, up_u, pk_us, pk_un, Nat.reduceAdd, nI_ltT, nI_ltF, nI_leT, nI_leF, nI_eqT, nI_eqF, bk_MO_reads, gfC, gfM, ev_r0, ev_r1, eq_self, n_m1e, true_and, and_true, false_and, and_false, and_self, not_true_eq_false, not_false_eq_true, h17, ce_MO_raw, a1, ce_MO_isLetter, a2]
    · rw [if_neg z] at a1
      have a2 := fun d => t_mLetN (sc := sc) (c := c) (w := w) d m
      simp (disch := first | assumption | omega | decide | (simp only [ma_wd0, ma_wdi, ma_wdr, ma_wdl, ma_wdn] <;> omega)) only [↓reduceIte, evK, evL, evS, evA, evJ, Option.bind_some, Option.toList, List.cons_append, List.nil_append, nI_add, pk_mul, bI0, ite_not, ev_rbb, up_n, up_s, up_u, pk_us, pk_un, Nat.reduceAdd, nI_ltT, nI_ltF, nI_leT, nI_leF, nI_eqT, nI_eqF, bk_MO_reads, gfC, gfM, ev_r0, ev_r1, eq_self, n_m1e, true_and, and_true, false_and, and_false, and_self, not_true_eq_false, not_false_eq_true, h17, ce_MO_raw, a1, ce_MO_isLetter, a2]
  | k + 1, j, m, hj, ht, h17, hb, c, x1 => by
    have hn := ht.2.1
    have a1 := fun d => t_raw (sc := sc) (c := c) (w := w) d j m ht (by omega)
    unfold rwV at a1
    rw [if_pos (by omega)] at a1
    have hx := (ht.2.2.1 j (by omega)).1
    have a2 := fun d => t_mLet (sc := sc) (c := c) (w := w) d (b j) m hx
    rw [bI_t (hb j (by omega) (by omega))] at a2
    have hm1 : mRF m (va_up m 138 (upd (m 138) 17 (nI (j + 1)))) := mRF.u (fun i h _ _ _ => pk_un h)
    have ih := r_let d e he hp2 k (j + 1) (va_up m 138 (upd (m 138) 17 (nI (j + 1)))) (by omega) (hm1.tp ht) (by rw [up_s, pk_us]) (fun i g1 g2 => hb i (by omega) g2) c x1
    rw [up_s, up_u, upd_uu] at ih
    rw [← ih]
    conv => lhs; rw [bh_MO_reads_95]
    simp (disch := first | assumption | omega | decide | (simp only [ma_wd0, ma_wdi, ma_wdr, ma_wdl, ma_wdn] <;> omega)) only [↓reduceIte, evK, evL, evS, evA, evJ, Option.bind_some, Option.toList, List.cons_append, List.nil_append, nI_add, pk_mul, bI0, ite_not, ev_rbb, up_n, up_s, up_u, pk_us, pk_un, Nat.reduceAdd, nI_ltT, nI_ltF, nI_leT, nI_leF, nI_eqT, nI_eqF, bk_MO_reads, gfC, gfM, ev_r0, ev_r1, eq_self, n_m1e, true_and, and_true, false_and, and_false, and_self, not_true_eq_false, not_false_eq_true, h17, ce_MO_raw, a1, ce_MO_isLetter, a2, pfM]
theorem r_dig (d p e : Nat) (he : e ≤ n) (hp2 : e < n → ¬ isDg (b e)) (hall : ∀ j, p ≤ j → j < e → isDg (b j)) : ∀ (k j : Nat) (m : Nat → Nat → Int32), j + k = e → p < j → tpM n b m → m 138 17 = nI j → (j - p ≤ 4 → m 138 20 = nI (dv b p (j - p))) → ∀ (x1 : Option Value), ∃ m', (∀ c, ev sc (d + 2) 178 (pm_blk 178 171) [some (.ref 138), x1] [] (hp c w m) = ev sc (d + 2) 178 (pm_blk 178 239) [some (.ref 138), x1] [] (hp c w m')) ∧ mRF m m' ∧ m' 138 17 = nI e ∧ m' 138 18 = m 138 18 ∧ m' 138 19 = m 138 19 ∧ (e - p ≤ 4 → m' 138 20 = nI (dv b p (e - p)))
  | 0, j, m, hj, hpj, ht, h17, h20, x1 => by
    have hj : j = e := by omega
    subst hj
    have hn := ht.2.1
    have a1 := fun d c => t_raw (sc := sc) (c := c) (w := w) d j m ht (by omega)
    unfold rwV at a1
    refine ⟨m, fun c => ?_, ⟨fun _ _ => rfl, fun _ _ => rfl⟩, h17, rfl, rfl, h20⟩
    conv => lhs; rw [bh_MO_reads_171]
    by_cases z : j < n
    · have hx := (ht.2.2.1 j z).1
      have a2 := fun d => t_mDig (sc := sc) (c := c) (w := w) d (b j) m hx
      rw [bI_f (hp2 z)] at a2
      rw [if_pos z] at a1
      simp (disch := first | assumption | omega | decide | (simp only [ma_wd0, ma_wdi, ma_wdr, ma_wdl, ma_wdn] <;> omega)) only [↓reduceIte, evK, evL, evS, evA, evJ, Option.bind_some, Option.toList, List.cons_append, List.nil_append, nI_add, pk_mul, bI0, ite_not, ev_rbb, up_n, up_s, up_u, pk_us, pk_un, Nat.reduceAdd, nI_ltT, nI_ltF, nI_leT, nI_leF, nI_eqT, nI_eqF, bk_MO_reads, gfC, gfM, ev_r0, ev_r1, eq_self, n_m1e, true_and, and_true, false_and, and_false, and_self, not_true_eq_false, not_false_eq_true, h17, ce_MO_raw, a1, ce_MO_isDigit, a2]
    · rw [if_neg z] at a1
      have a2 := fun d => t_mDigN (sc := sc) (c := c) (w := w) d m
      simp (disch := first | assumption | omega | decide | (simp only [ma_wd0, ma_wdi, ma_wdr, ma_wdl, ma_wdn] <;> omega)) only [↓reduceIte, evK, evL, evS, evA, evJ, Option.bind_some, Option.toList, List.cons_append, List.nil_append, nI_add, pk_mul, bI0, ite_not, ev_rbb, up_n, up_s, up_u, pk_us, pk_un, Nat.reduceAdd, nI_ltT, nI_ltF, nI_leT, nI_leF, nI_eqT, nI_eqF, bk_MO_reads, gfC, gfM, ev_r0, ev_r1, eq_self, n_m1e, true_and, and_true, false_and, and_false, and_self, not_true_eq_false, not_false_eq_true, h17, ce_MO_raw, a1, ce_MO_isDigit, a2]
  | k + 1, j, m, hj, hpj, ht, h17, h20, x1 => by
    have hn := ht.2.1
    have a1 := fun d c => t_raw (sc := sc) (c := c) (w := w) d j m ht (by omega)
    unfold rwV at a1
    rw [if_pos (by omega)] at a1
    have hx := (ht.2.2.1 j (by omega)).1
    have hd := hall j (by omega) (by omega)
    have a2 := fun d c => t_mDig (sc := sc) (c := c) (w := w) d (b j) m hx
    rw [bI_t hd] at a2
    obtain ⟨v, hv1, hv2⟩ : ∃ v, v = (if m 138 20 < nI 10000 then nI 10 * m 138 20 + nI (b j) - nI 48 else m 138 20) ∧ (j + 1 - p ≤ 4 → v = nI (dv b p (j + 1 - p))) := by
      refine ⟨_, rfl, fun h => ?_⟩
      have h3 := h20 (by omega)
      have h4 := dv_lt b p (j - p) (fun i hi => hall (p + i) (by omega) (by omega))
      have h5 : 10 ^ (j - p) ≤ 1000 := by
        have : j - p = 0 ∨ j - p = 1 ∨ j - p = 2 ∨ j - p = 3 := by omega
        rcases this with q | q | q | q <;> rw [q] <;> decide
      unfold isDg at hd
      rw [h3, if_pos (nI_lt (by omega) (by omega)), pk_mul, nI_add, pk_sub (by omega), show j + 1 - p = (j - p) + 1 by omega, dv, show p + (j - p) = j by omega]
      congr 1
      omega
    have hm1 : mRF m (va_up m 138 (upd (upd (m 138) 20 v) 17 (nI (j + 1)))) := mRF.u (fun i h1 _ _ h4 => by rw [pk_un h1, pk_un h4])
    obtain ⟨m', g1, g2, g3, g4, g5, g6⟩ := r_dig d p e he hp2 hall k (j + 1) (va_up m 138 (upd (upd (m 138) 20 v) 17 (nI (j + 1)))) (by omega) (by omega) (hm1.tp ht) (by rw [up_s, pk_us]) (fun h => by rw [up_s, pk_un (by omega), pk_us]; exact hv2 h) x1
    refine ⟨m', fun c => ?_, hm1.tr g2, g3, ?_, ?_, g6⟩
    · rw [← g1 c]
      conv => lhs; rw [bh_MO_reads_171]
      by_cases q : m 138 20 < nI 10000
      · rw [if_pos q] at hv1
        rw [hv1]
        have q' : (m 138 20 < nI 10000) = True := eq_true q
        simp (disch := first | assumption | omega | decide | (simp only [ma_wd0, ma_wdi, ma_wdr, ma_wdl, ma_wdn] <;> omega)) only [↓reduceIte, evK, evL, evS, evA, evJ, Option.bind_some, Option.toList, List.cons_append, List.nil_append, nI_add, pk_mul, bI0, ite_not, ev_rbb, up_n, up_s, up_u, pk_us, pk_un, Nat.reduceAdd, nI_ltT, nI_ltF, nI_leT, nI_leF, nI_eqT, nI_eqF, bk_MO_reads, gfC, gfM, ev_r0, ev_r1, eq_self, n_m1e, true_and, and_true, false_and, and_false, and_self, not_true_eq_false, not_false_eq_true, h17, ce_MO_raw, a1, ce_MO_isDigit, a2, q', pfM]
      · rw [if_neg q] at hv1
        rw [hv1]
        have q' : (m 138 20 < nI 10000) = False := eq_false q
        simp (disch := first | assumption | omega | decide | (simp only [ma_wd0, ma_wdi, ma_wdr, ma_wdl, ma_wdn] <;> omega)) only [↓reduceIte, evK, evL, evS, evA, evJ, Option.bind_some, Option.toList, List.cons_append, List.nil_append, nI_add, pk_mul, bI0, ite_not, ev_rbb, up_n, up_s, up_u, pk_us, pk_un, Nat.reduceAdd, nI_ltT, nI_ltF, nI_leT, nI_leF, nI_eqT, nI_eqF, bk_MO_reads, gfC, gfM, ev_r0, ev_r1, eq_self, n_m1e, true_and, and_true, false_and, and_false, and_self, not_true_eq_false, not_false_eq_true, h17, ce_MO_raw, a1, ce_MO_isDigit, a2, q', pfM]
    · rw [g4, up_s, pk_un (by omega), pk_un (by omega)]
    · rw [g5, up_s, pk_un (by omega), pk_un (by omega)]
theorem t_reads (d s : Nat) (t : tk4) (m : Nat → Nat → Int32) (ht : tpM n b m) (h17 : m 138 17 = nI s) (h : tokAt b n s t) (hg : tkG n t) : ∃ m', (∀ c, cc sc (d + 3) 178 [.ref 138] (hp c w m) = some (none, hp c w m')) ∧ mRF m m' ∧ m' 138 17 = nI t.2.2.2 ∧ m' 138 18 = nI t.2.1 ∧ mT t.1 t.2.2.1 (m' 138 19) (m' 138 20) := by
  obtain ⟨k, p, v, e⟩ := t
  obtain ⟨h1, h2, h3⟩ := h
  dsimp only at h1 h2 h3 ⊢
  have hn := ht.2.1
  have hpn : p ≤ n := hg.2.1
  have hq : p < n → ¬ isBl (b p) := fun z => by
    rcases h3 with u | u
    · omega
    · exact u.2.1
  have a0 := fun c => r_blank (sc := sc) (w := w) (n := n) (b := b) (d + 2) p hpn hq (p - s) s m (by omega) ht h17 (fun i g1 g2 => h2 i g1 g2) c none
  -- the place is kept, the kind begun
  have f0 : mRF m (va_up m 138 (upd (m 138) 17 (nI p))) := mRF.u (fun i h _ _ _ => pk_un h)
  generalize hM0 : va_up m 138 (upd (m 138) 17 (nI p)) = M0 at a0 f0
  have t0 := f0.tp ht
  have e17 : M0 138 17 = nI p := by rw [← hM0, up_s, pk_us]
  have f1 : mRF M0 (va_up M0 138 (upd (upd (M0 138) 18 (nI p)) 19 (nI 1))) := mRF.u (fun i _ h1 h2 _ => by rw [pk_un h2, pk_un h1])
  have hM1 : ∃ M1, M1 = va_up M0 138 (upd (upd (M0 138) 18 (nI p)) 19 (nI 1)) := ⟨_, rfl⟩
  obtain ⟨M1, hM1⟩ := hM1
  rw [← hM1] at f1
  have t1 := f1.tp t0
  have e17' : M1 138 17 = nI p := by rw [hM1, up_s, pk_un (by omega), pk_un (by omega)]; exact e17
  have e18' : M1 138 18 = nI p := by rw [hM1, up_s, pk_un (by omega), pk_us]
  have e19' : M1 138 19 = nI 1 := by rw [hM1, up_s, pk_us]
  have a1 := fun d c => t_raw (sc := sc) (c := c) (w := w) d p M1 t1 (by omega)
  unfold rwV at a1
  have hrd : ∀ c, cc sc (d + 3) 178 [.ref 138] (hp c w m) = ev sc (d + 3) 178 (pm_blk 178 39) [some (.ref 138), none] [] (hp c w M0) := fun c => by
    rw [← a0 c]; rfl
  rcases h3 with ⟨u1, u2, u3, u4⟩ | ⟨u1, u2, u3, u4, u5⟩
  · rw [if_neg (by omega)] at a1
    have f2 : mRF M1 (va_up M1 138 (upd (M1 138) 19 (nI 0))) := mRF.u (fun i _ _ h _ => pk_un h)
    refine ⟨_, fun c => ?_, (f0.tr f1).tr f2, ?_, ?_, Or.inl ⟨u2, by rw [up_s, pk_us]⟩⟩
    · rw [hrd c]
      simp (disch := first | assumption | omega | decide | (simp only [ma_wd0, ma_wdi, ma_wdr, ma_wdl, ma_wdn] <;> omega)) only [↓reduceIte, evK, evL, evS, evA, evJ, Option.bind_some, Option.toList, List.cons_append, List.nil_append, nI_add, pk_mul, bI0, ite_not, ev_rbb, up_n, up_s, up_u, pk_us, pk_un, Nat.reduceAdd, nI_ltT, nI_ltF, nI_leT, nI_leF, nI_eqT, nI_eqF, bk_MO_reads, gfC, gfM, ev_r0, ev_r1, eq_self, n_m1e, true_and, and_true, false_and, and_false, and_self, not_true_eq_false, not_false_eq_true, e17, pfM, ← hM1, e17', ce_MO_raw, a1]
    · rw [up_s, pk_un (by omega), e17', u1, u4]
    · rw [up_s, pk_un (by omega), e18']
  · rw [if_pos u1] at a1
    have hx := (t1.2.2.1 p u1).1
    have nm := vV_n (v := b p) (by omega)
    have f2 : mRF M1 (va_up M1 138 (upd (upd (M1 138) 17 (nI (p + 1))) 20 (nI (b p)))) := mRF.u (fun i h1 _ _ h4 => by rw [pk_un h4, pk_un h1])
    obtain ⟨M2, hM2⟩ : ∃ M2, M2 = va_up M1 138 (upd (upd (M1 138) 17 (nI (p + 1))) 20 (nI (b p))) := ⟨_, rfl⟩
    rw [← hM2] at f2
    have t2 := f2.tp t1
    have g17 : M2 138 17 = nI (p + 1) := by rw [hM2, up_s, pk_un (by omega), pk_us]
    have g18 : M2 138 18 = nI p := by rw [hM2, up_s, pk_un (by omega), pk_un (by omega)]; exact e18'
    have g19 : M2 138 19 = nI 1 := by rw [hM2, up_s, pk_un (by omega), pk_un (by omega)]; exact e19'
    have g20 : M2 138 20 = nI (b p) := by rw [hM2, up_s, pk_us]
    have a2 := fun d c => t_mLet (sc := sc) (c := c) (w := w) d (b p) M2 hx
    have a3 := fun d c => t_mDig (sc := sc) (c := c) (w := w) d (b p) M2 hx
    have a4 := fun d c => t_mSig (sc := sc) (c := c) (w := w) d (b p) M2 hx
    rcases u5 with ⟨v1, v2, v3, v4, v5⟩ | ⟨v0, v1, v2, v3, v4, v5⟩ | ⟨v0, v1, v2, v3, v4⟩
    · rw [bI_t v1] at a2
      have a5 := fun c => r_let (sc := sc) (w := w) (n := n) (b := b) (d + 1) e u4 v3 (e - (p + 1)) (p + 1) M2 (by omega) t2 g17 (fun i y1 y2 => v2 i (by omega) y2) c (some (.int (nI (b p))))
      have f3 : mRF M2 (va_up M2 138 (upd (M2 138) 17 (nI e))) := mRF.u (fun i h1 _ _ _ => by rw [pk_un h1])
      obtain ⟨M3, hM3⟩ : ∃ M3, M3 = va_up M2 138 (upd (M2 138) 17 (nI e)) := ⟨_, rfl⟩
      rw [← hM3] at f3 a5
      have t3 := f3.tp t2
      have k17 : M3 138 17 = nI e := by rw [hM3, up_s, pk_us]
      have k18 : M3 138 18 = nI p := by rw [hM3, up_s, pk_un (by omega)]; exact g18
      have k19 : M3 138 19 = nI 1 := by rw [hM3, up_s, pk_un (by omega)]; exact g19
      have a6 := fun d c => t_wordAt (sc := sc) (w := w) d p e M3 t3 (by omega) u4 v2 c
      have hw := kw_two (slc b p e)
      rw [← v4] at hw
      rcases hw with ⟨w1, w2⟩ | ⟨w1, w2, w3⟩
      · rw [w2] at a6
        have f4 : mRF M3 (va_up M3 138 (upd (M3 138) 20 (-1))) := mRF.u (fun i _ _ _ h4 => by rw [pk_un h4])
        refine ⟨_, fun c => ?_, (((f0.tr f1).tr f2).tr f3).tr f4, ?_, ?_, Or.inr (Or.inr (Or.inl ⟨w1, ?_⟩))⟩
        · rw [hrd c]
          simp (disch := first | assumption | omega | decide | (simp only [ma_wd0, ma_wdi, ma_wdr, ma_wdl, ma_wdn] <;> omega)) only [↓reduceIte, evK, evL, evS, evA, evJ, Option.bind_some, Option.toList, List.cons_append, List.nil_append, nI_add, pk_mul, bI0, ite_not, ev_rbb, up_n, up_s, up_u, pk_us, pk_un, Nat.reduceAdd, nI_ltT, nI_ltF, nI_leT, nI_leF, nI_eqT, nI_eqF, bk_MO_reads, gfC, gfM, ev_r0, ev_r1, eq_self, n_m1e, true_and, and_true, false_and, and_false, and_self, not_true_eq_false, not_false_eq_true, e17, pfM, ← hM1, e17', ce_MO_raw, a1, nm, ← hM2, ce_MO_isLetter, a2]
          rw [a5 c]
          simp (disch := first | assumption | omega | decide | (simp only [ma_wd0, ma_wdi, ma_wdr, ma_wdl, ma_wdn] <;> omega)) only [↓reduceIte, evK, evL, evS, evA, evJ, Option.bind_some, Option.toList, List.cons_append, List.nil_append, nI_add, pk_mul, bI0, ite_not, ev_rbb, up_n, up_s, up_u, pk_us, pk_un, Nat.reduceAdd, nI_ltT, nI_ltF, nI_leT, nI_leF, nI_eqT, nI_eqF, bk_MO_reads, gfC, gfM, ev_r0, ev_r1, eq_self, n_m1e, true_and, and_true, false_and, and_false, and_self, not_true_eq_false, not_false_eq_true, k17, k18, ce_MO_wordAt, a6, oN, pfM]
        · rw [up_s, pk_un (by omega)]; exact k17
        · rw [up_s, pk_un (by omega)]; exact k18
        · rw [up_s, pk_un (by omega)]; exact k19
      · rw [w3] at a6
        have nw := vV_n (v := tkp k) (by have := tkp_lt w1 w2; omega)
        have f4 : mRF M3 (va_up M3 138 (upd (upd (M3 138) 20 (nI (tkp k))) 19 (nI 2))) := mRF.u (fun i _ _ h3 h4 => by rw [pk_un h3, pk_un h4])
        refine ⟨_, fun c => ?_, (((f0.tr f1).tr f2).tr f3).tr f4, ?_, ?_, Or.inr (Or.inr (Or.inr (Or.inr ⟨w1, w2, ?_, ?_⟩)))⟩
        · rw [hrd c]
          simp (disch := first | assumption | omega | decide | (simp only [ma_wd0, ma_wdi, ma_wdr, ma_wdl, ma_wdn] <;> omega)) only [↓reduceIte, evK, evL, evS, evA, evJ, Option.bind_some, Option.toList, List.cons_append, List.nil_append, nI_add, pk_mul, bI0, ite_not, ev_rbb, up_n, up_s, up_u, pk_us, pk_un, Nat.reduceAdd, nI_ltT, nI_ltF, nI_leT, nI_leF, nI_eqT, nI_eqF, bk_MO_reads, gfC, gfM, ev_r0, ev_r1, eq_self, n_m1e, true_and, and_true, false_and, and_false, and_self, not_true_eq_false, not_false_eq_true, e17, pfM, ← hM1, e17', ce_MO_raw, a1, nm, ← hM2, ce_MO_isLetter, a2]
          rw [a5 c]
          simp (disch := first | assumption | omega | decide | (simp only [ma_wd0, ma_wdi, ma_wdr, ma_wdl, ma_wdn] <;> omega)) only [↓reduceIte, evK, evL, evS, evA, evJ, Option.bind_some, Option.toList, List.cons_append, List.nil_append, nI_add, pk_mul, bI0, ite_not, ev_rbb, up_n, up_s, up_u, pk_us, pk_un, Nat.reduceAdd, nI_ltT, nI_ltF, nI_leT, nI_leF, nI_eqT, nI_eqF, bk_MO_reads, gfC, gfM, ev_r0, ev_r1, eq_self, n_m1e, true_and, and_true, false_and, and_false, and_self, not_true_eq_false, not_false_eq_true, k17, k18, ce_MO_wordAt, a6, oN, nw, pfM]
        · rw [up_s, pk_un (by omega), pk_un (by omega)]; exact k17
        · rw [up_s, pk_un (by omega), pk_un (by omega)]; exact k18
        · rw [up_s, pk_us]
        · rw [up_s, pk_un (by omega), pk_us]
    · rw [bI_f v0] at a2
      rw [bI_t v1] at a3
      have hd := v1
      unfold isDg at hd
      have f3 : mRF M2 (va_up M2 138 (upd (M2 138) 20 (nI (b p - 48)))) := mRF.u (fun i _ _ _ h4 => by rw [pk_un h4])
      obtain ⟨M3, hM3⟩ : ∃ M3, M3 = va_up M2 138 (upd (M2 138) 20 (nI (b p - 48))) := ⟨_, rfl⟩
      rw [← hM3] at f3
      have t3 := f3.tp t2
      have a6 : nI (b p) - nI 48 = nI (b p - 48) := pk_sub hd.1
      obtain ⟨M4, y1, y2, y3, y4, y5, y6⟩ := r_dig (sc := sc) (w := w) (n := n) (b := b) (d + 1) p e u4 v3 v2 (e - (p + 1)) (p + 1) M3 (by omega) (by omega) t3 (by rw [hM3, up_s, pk_un (by omega)]; exact g17) (fun _ => by
        rw [hM3, up_s, pk_us, show p + 1 - p = 0 + 1 by omega, dv, dv, Nat.zero_mul, Nat.zero_add, Nat.add_zero]) (some (.int (nI (b p))))
      have k18 : M4 138 18 = nI p := by rw [y4, hM3, up_s, pk_un (by omega)]; exact g18
      have k19 : M4 138 19 = nI 1 := by rw [y5, hM3, up_s, pk_un (by omega)]; exact g19
      have a7 : nI e - nI p = nI (e - p) := pk_sub (by omega)
      by_cases q : 4 < e - p
      · rw [if_pos q] at v4
        refine ⟨M4, fun c => ?_, (((f0.tr f1).tr f2).tr f3).tr y2, y3, k18, Or.inr (Or.inr (Or.inl ⟨v4, k19⟩))⟩
        rw [hrd c]
        simp (disch := first | assumption | omega | decide | (simp only [ma_wd0, ma_wdi, ma_wdr, ma_wdl, ma_wdn] <;> omega)) only [↓reduceIte, evK, evL, evS, evA, evJ, Option.bind_some, Option.toList, List.cons_append, List.nil_append, nI_add, pk_mul, bI0, ite_not, ev_rbb, up_n, up_s, up_u, pk_us, pk_un, Nat.reduceAdd, nI_ltT, nI_ltF, nI_leT, nI_leF, nI_eqT, nI_eqF, bk_MO_reads, gfC, gfM, ev_r0, ev_r1, eq_self, n_m1e, true_and, and_true, false_and, and_false, and_self, not_true_eq_false, not_false_eq_true, e17, pfM, ← hM1, e17', ce_MO_raw, a1, nm, ← hM2, ce_MO_isLetter, a2, ce_MO_isDigit, a3, a6, ← hM3]
        rw [y1 c]
        simp (disch := first | assumption | omega | decide | (simp only [ma_wd0, ma_wdi, ma_wdr, ma_wdl, ma_wdn] <;> omega)) only [↓reduceIte, evK, evL, evS, evA, evJ, Option.bind_some, Option.toList, List.cons_append, List.nil_append, nI_add, pk_mul, bI0, ite_not, ev_rbb, up_n, up_s, up_u, pk_us, pk_un, Nat.reduceAdd, nI_ltT, nI_ltF, nI_leT, nI_leF, nI_eqT, nI_eqF, bk_MO_reads, gfC, gfM, ev_r0, ev_r1, eq_self, n_m1e, true_and, and_true, false_and, and_false, and_self, not_true_eq_false, not_false_eq_true, y3, k18, a7]
      · rw [if_neg q] at v4
        have f4 : mRF M4 (va_up M4 138 (upd (M4 138) 19 (nI 3))) := mRF.u (fun i _ _ h3 _ => by rw [pk_un h3])
        refine ⟨_, fun c => ?_, ((((f0.tr f1).tr f2).tr f3).tr y2).tr f4, ?_, ?_, Or.inr (Or.inl ⟨v4, ?_, ?_⟩)⟩
        · rw [hrd c]
          simp (disch := first | assumption | omega | decide | (simp only [ma_wd0, ma_wdi, ma_wdr, ma_wdl, ma_wdn] <;> omega)) only [↓reduceIte, evK, evL, evS, evA, evJ, Option.bind_some, Option.toList, List.cons_append, List.nil_append, nI_add, pk_mul, bI0, ite_not, ev_rbb, up_n, up_s, up_u, pk_us, pk_un, Nat.reduceAdd, nI_ltT, nI_ltF, nI_leT, nI_leF, nI_eqT, nI_eqF, bk_MO_reads, gfC, gfM, ev_r0, ev_r1, eq_self, n_m1e, true_and, and_true, false_and, and_false, and_self, not_true_eq_false, not_false_eq_true, e17, pfM, ← hM1, e17', ce_MO_raw, a1, nm, ← hM2, ce_MO_isLetter, a2, ce_MO_isDigit, a3, a6, ← hM3]
          rw [y1 c]
          simp (disch := first | assumption | omega | decide | (simp only [ma_wd0, ma_wdi, ma_wdr, ma_wdl, ma_wdn] <;> omega)) only [↓reduceIte, evK, evL, evS, evA, evJ, Option.bind_some, Option.toList, List.cons_append, List.nil_append, nI_add, pk_mul, bI0, ite_not, ev_rbb, up_n, up_s, up_u, pk_us, pk_un, Nat.reduceAdd, nI_ltT, nI_ltF, nI_leT, nI_leF, nI_eqT, nI_eqF, bk_MO_reads, gfC, gfM, ev_r0, ev_r1, eq_self, n_m1e, true_and, and_true, false_and, and_false, and_self, not_true_eq_false, not_false_eq_true, y3, k18, a7, pfM]
        · rw [up_s, pk_un (by omega)]; exact y3
        · rw [up_s, pk_un (by omega)]; exact k18
        · rw [up_s, pk_us]
        · rw [up_s, pk_un (by omega), y6 (by omega), v5, show min 4 (e - p) = e - p by omega]
    · rw [bI_f v0] at a2
      rw [bI_f v1] at a3
      by_cases q : isSg (b p)
      · rw [bI_t q] at a4
        rw [if_pos q] at v3
        have f4 : mRF M2 (va_up M2 138 (upd (M2 138) 19 (nI 4))) := mRF.u (fun i _ _ h3 _ => by rw [pk_un h3])
        refine ⟨_, fun c => ?_, ((f0.tr f1).tr f2).tr f4, ?_, ?_, Or.inr (Or.inr (Or.inr (Or.inl ⟨by rw [v3]; exact q, ?_, ?_⟩)))⟩
        · rw [hrd c]
          simp (disch := first | assumption | omega | decide | (simp only [ma_wd0, ma_wdi, ma_wdr, ma_wdl, ma_wdn] <;> omega)) only [↓reduceIte, evK, evL, evS, evA, evJ, Option.bind_some, Option.toList, List.cons_append, List.nil_append, nI_add, pk_mul, bI0, ite_not, ev_rbb, up_n, up_s, up_u, pk_us, pk_un, Nat.reduceAdd, nI_ltT, nI_ltF, nI_leT, nI_leF, nI_eqT, nI_eqF, bk_MO_reads, gfC, gfM, ev_r0, ev_r1, eq_self, n_m1e, true_and, and_true, false_and, and_false, and_self, not_true_eq_false, not_false_eq_true, e17, pfM, ← hM1, e17', ce_MO_raw, a1, nm, ← hM2, ce_MO_isLetter, a2, ce_MO_isDigit, a3, ce_MO_isMarkSign, a4]
        · rw [up_s, pk_un (by omega), v2]; exact g17
        · rw [up_s, pk_un (by omega)]; exact g18
        · rw [up_s, pk_us]
        · rw [up_s, pk_un (by omega), v3]; exact g20
      · rw [bI_f q] at a4
        rw [if_neg q] at v3
        refine ⟨M2, fun c => ?_, (f0.tr f1).tr f2, by rw [v2]; exact g17, g18, Or.inr (Or.inr (Or.inl ⟨v3, g19⟩))⟩
        rw [hrd c]
        simp (disch := first | assumption | omega | decide | (simp only [ma_wd0, ma_wdi, ma_wdr, ma_wdl, ma_wdn] <;> omega)) only [↓reduceIte, evK, evL, evS, evA, evJ, Option.bind_some, Option.toList, List.cons_append, List.nil_append, nI_add, pk_mul, bI0, ite_not, ev_rbb, up_n, up_s, up_u, pk_us, pk_un, Nat.reduceAdd, nI_ltT, nI_ltF, nI_leT, nI_leF, nI_eqT, nI_eqF, bk_MO_reads, gfC, gfM, ev_r0, ev_r1, eq_self, n_m1e, true_and, and_true, false_and, and_false, and_self, not_true_eq_false, not_false_eq_true, e17, pfM, ← hM1, e17', ce_MO_raw, a1, nm, ← hM2, ce_MO_isLetter, a2, ce_MO_isDigit, a3, ce_MO_isMarkSign, a4]
end RF
