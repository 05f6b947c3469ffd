/-! ===== text: a line of the law, in both ===== -/
abbrev lR : Type := (lL × Nat) ⊕ (Nat × Nat)
def lRB : lR → Int32
  | .inl _ => nI 1
  | .inr _ => nI 0
section LY
variable {sc : Nat × (Nat → Int32)} {m0 : Nat → Nat → Int32} {w : Nat → Int64} {N : Nat} {T : Nat → Nat → Nat}
def liC (N : Nat) (T : Nat → Nat → Nat) (ls : List lL) (r : lR) (c' : Nat → Nat → Int32) : Prop := match r with
  | .inl (l, j) => cA N T j (lAcc (ls ++ [l])) c' ∧ lnC (ls ++ [l]) c'
  | .inr (f, p) => c' 79 7 = nI f ∧ c' 79 8 = nI p
/-- behind the sum and the condition: the line is kept, the sign taken -/
theorem c_lineE (d i j v : Nat) (ls : List lL) (as bs : List lA) (c : Nat → Nat → Int32) (hT : tOK N T) (hc : cA N T j (lAcc ls ++ as ++ bs) c) (hn : lnC ls c) (hl : ls.length < 16) (hj : j < N) (x1 : Option Value) :
    ∃ c', (∀ m1, ev sc (d + 2) 74 (pm_blk 74 113) [some (.ref 84), some (.int (nI (v + 256))), some (.int (nI (lAcc ls).length)), some (.int (nI (lAcc ls ++ as).length))] [] (hp c w m1) = some (some (.int (if T 0 j = 59 then nI 1 else nI 0)), hp c' w m1)) ∧ cLF c c' ∧ (T 0 j = 59 → j + 1 < N → cA N T (j + 1) (lAcc (ls ++ [(v, as, bs)])) c' ∧ lnC (ls ++ [(v, as, bs)]) c') ∧ (T 0 j ≠ 59 → c' 79 7 = nI 1 ∧ c' 79 8 = nI (T 1 j)) := by
  have e0 : c 85 0 = nI ls.length := hn.1
  have a0 : nI (v + 256) - nI 256 = nI v := by rw [pk_sub (by omega), Nat.add_sub_cancel]
  have a1 := fun d m => t_addLine (sc := sc) (w := w) d ls.length (nI v) (nI (lAcc ls).length) (nI (lAcc ls ++ as).length) c m e0 hl
  have e1 : c 85 1 = nI ((lAcc ls).length + as.length + bs.length) := by rw [hc.2.2.2.2.2.1, List.length_append, List.length_append]
  have e2 : nI (lAcc ls ++ as).length = nI ((lAcc ls).length + as.length) := by rw [List.length_append]
  have hpu : lnC (ls ++ [(v, as, bs)]) (adC ls.length (nI v) (nI (lAcc ls).length) (nI ((lAcc ls).length + as.length)) (nI ((lAcc ls).length + as.length + bs.length)) c) := hn.push (l := (v, as, bs))
  rw [e1, e2] at a1
  rw [e2]
  have hc2 := hc.ad (k := ls.length) (x := nI v) (y := nI (lAcc ls).length) (z := nI ((lAcc ls).length + as.length)) (u := nI ((lAcc ls).length + as.length + bs.length))
  have a2 := fun d m => t_take (sc := sc) (w := w) (m := m) d 59 hT hc2.1 hc2.2.1 hj (by omega)
  have hL : cLF c (adC ls.length (nI v) (nI (lAcc ls).length) (nI ((lAcc ls).length + as.length)) (nI ((lAcc ls).length + as.length + bs.length)) c) := adC_L
  by_cases z : T 0 j = 59
  · simp only [if_pos z] at a2 ⊢
    refine ⟨_, fun m1 => ?_, hL.tr (skC_F (i := j)).l, fun _ hj1 => ⟨?_, hpu.F (skC_F (i := j))⟩, fun z2 => absurd z z2⟩
    · simp (disch := first | assumption | omega | decide | (simp only [ma_wd0, ma_wdi, ma_wdr, ma_wdl, ma_wdn] <;> omega)) only [↓reduceIte, evK, evL, evS, evA, evJ, Option.bind_some, Option.toList, List.cons_append, List.nil_append, nI_add, pk_mul, bI0, ite_not, ev_rbb, up_n, up_s, up_u, pk_us, pk_un, Nat.reduceAdd, nI_ltT, nI_ltF, nI_leT, nI_leF, nI_eqT, nI_eqF, bk_Reader_readLawLine, gfC, gfM, ev_r0, ev_r1, eq_self, n_m1e, true_and, and_true, false_and, and_false, and_self, not_true_eq_false, not_false_eq_true, a0, ce_Law_addLine, a1, ce_Tokens_take, a2]
    · have := hc2.sk hj1
      rw [lAcc_app]
      exact this
  · simp only [if_neg z] at a2 ⊢
    refine ⟨_, fun m1 => ?_, hL.tr (flC_F (T := T) (i := j) 1).l, fun z2 => absurd z2 z, fun _ => ?_⟩
    · simp (disch := first | assumption | omega | decide | (simp only [ma_wd0, ma_wdi, ma_wdr, ma_wdl, ma_wdn] <;> omega)) only [↓reduceIte, evK, evL, evS, evA, evJ, Option.bind_some, Option.toList, List.cons_append, List.nil_append, nI_add, pk_mul, bI0, ite_not, ev_rbb, up_n, up_s, up_u, pk_us, pk_un, Nat.reduceAdd, nI_ltT, nI_ltF, nI_leT, nI_leF, nI_eqT, nI_eqF, bk_Reader_readLawLine, gfC, gfM, ev_r0, ev_r1, eq_self, n_m1e, true_and, and_true, false_and, and_false, and_self, not_true_eq_false, not_false_eq_true, a0, ce_Law_addLine, a1, ce_Tokens_take, a2]
    · unfold flC
      exact ⟨by rw [up_s, pk_un (by omega), pk_us], by rw [up_s, pk_us]⟩
/-- the same in the reference -/
theorem m_lineE (d' j : Nat) (ls : List lL) (acc : List lA) (m : Nat → Nat → Int32) (hR : rdS sc w N T m0) (hx : xK m0 m) (hA : mA N T j acc m) (hl : ls.length < 16) (hj : j < N) (hj1 : T 0 j = 59 → j + 1 < N) :
    ∃ m', (∀ c0, ev sc (d' + 9) 194 (pm_blk 194 92) [some (.ref 138), some (.int (nI ls.length)), some (.int (nI (32 + ls.length)))] [] (hp c0 w m) = if T 0 j = 59 then ev sc (d' + 9) 194 (pm_blk 194 2) [some (.ref 138), some (.int (nI (ls.length + 1))), some (.int (nI (32 + ls.length)))] [] (hp c0 w m') else some (some (.int (-1)), hp c0 w m')) ∧ mLF m m' ∧ (∀ k, 32 + ls.length ≤ k → m' 149 k = m 149 k ∧ m' 150 k = m 150 k ∧ m' 151 k = m 151 k) ∧ (T 0 j = 59 → mA N T (j + 1) acc m' ∧ m' 152 (32 + ls.length) = nI (acc.flatMap lB_x).length ∧ m' 138 31 = m 138 31 ∧ (lnM ls m → lnM ls m')) ∧ (T 0 j ≠ 59 → m' 138 34 = nI 1 ∧ m' 138 35 = nI (T 1 j)) := by
  have e30 := hA.2.2.2.2.1
  have hA1 : mA N T j acc (va_up m 152 (upd (m 152) (32 + ls.length) (nI (acc.flatMap lB_x).length))) := mB.r hA ⟨by omega, by omega⟩
  have hx1 : xK m0 (va_up m 152 (upd (m 152) (32 + ls.length) (nI (acc.flatMap lB_x).length))) := (mLF.r ⟨by omega, by omega⟩ (by omega)).xK hx
  have a1 := fun d c => t_isSign (sc := sc) (w := w) (c := c) d 59 hA1 (by unfold tkS; omega)
  by_cases z : T 0 j = 59
  · rw [bI_t z] at a1
    obtain ⟨m2, r1, r2, r3, r4⟩ := hR (d' + 5) j _ _ hx1 hA1 (hj1 z)
    refine ⟨m2, fun c0 => ?_, (mLF.r ⟨by omega, by omega⟩ (by omega)).tr (rd_F r2 r3).g.l, fun k _ => ?_, fun _ => ⟨r4, ?_, ?_, fun h => (h.r (by omega)).G (rd_F r2 r3).g⟩, fun z2 => absurd z z2⟩
    · rw [if_pos z]
      simp (disch := first | assumption | omega | decide | (simp only [ma_wd0, ma_wdi, ma_wdr, ma_wdl, ma_wdn] <;> omega)) only [↓reduceIte, evK, evL, evS, evA, evJ, Option.bind_some, Option.toList, List.cons_append, List.nil_append, nI_add, pk_mul, bI0, ite_not, ev_rbb, up_n, up_s, up_u, pk_us, pk_un, Nat.reduceAdd, nI_ltT, nI_ltF, nI_leT, nI_leF, nI_eqT, nI_eqF, bk_MO_readLaw, gfC, gfM, ev_r0, ev_r1, eq_self, n_m1e, true_and, and_true, false_and, and_false, and_self, not_true_eq_false, not_false_eq_true, e30, stM, ce_MO_isSign, a1, ce_MO_reads, r1]
    · rw [r2 149 (by omega), r2 150 (by omega), r2 151 (by omega), up_n _ _ _ _ (by omega), up_n _ _ _ _ (by omega), up_n _ _ _ _ (by omega)]
      exact ⟨rfl, rfl, rfl⟩
    · rw [r2 152 (by omega), up_s, pk_us]
    · rw [r3 31 (by decide), up_n _ _ _ _ (by omega)]
  · rw [bI_f z] at a1
    have a2 := fun d c => t_errs (sc := sc) (w := w) (c := c) d 1 hA1
    refine ⟨erM T j 1 (va_up m 152 (upd (m 152) (32 + ls.length) (nI (acc.flatMap lB_x).length))), fun c0 => ?_, (mLF.r ⟨by omega, by omega⟩ (by omega)).tr (erM_F _).g.l, fun k _ => ?_, fun z2 => absurd z2 z, fun _ => ?_⟩
    · rw [if_neg z]
      simp (disch := first | assumption | omega | decide | (simp only [ma_wd0, ma_wdi, ma_wdr, ma_wdl, ma_wdn] <;> omega)) only [↓reduceIte, evK, evL, evS, evA, evJ, Option.bind_some, Option.toList, List.cons_append, List.nil_append, nI_add, pk_mul, bI0, ite_not, ev_rbb, up_n, up_s, up_u, pk_us, pk_un, Nat.reduceAdd, nI_ltT, nI_ltF, nI_leT, nI_leF, nI_eqT, nI_eqF, bk_MO_readLaw, gfC, gfM, ev_r0, ev_r1, eq_self, n_m1e, true_and, and_true, false_and, and_false, and_self, not_true_eq_false, not_false_eq_true, e30, stM, ce_MO_isSign, a1, ce_MO_errs, a2]
    · rw [(erM_F _).1 149 (by omega) (by omega) (by omega), (erM_F _).1 150 (by omega) (by omega) (by omega), (erM_F _).1 151 (by omega) (by omega) (by omega), up_n _ _ _ _ (by omega), up_n _ _ _ _ (by omega), up_n _ _ _ _ (by omega)]
      exact ⟨rfl, rfl, rfl⟩
    · exact erM_o (N := N) (acc := []) 1
theorem j_line (d' i : Nat) (ls : List lL) (hT : tOK N T) (hR : rdS sc w N T m0) (hi : i < N) (hk : 256 ≤ T 0 i ∧ T 0 i ≤ 259) (hQ : lQ (lAcc ls) 0 i) (hl : ls.length < 16) : ∃ r : lR, (∀ l j, r = .inl (l, j) → lL_ok l ∧ i < j ∧ j < N ∧ lQ (lAcc (ls ++ [l])) 0 j) ∧ (∀ f p, r = .inr (f, p) → 1 ≤ f ∧ f ≤ 3 ∧ p ≤ 400) ∧
    (∀ e c, 22 ≤ e → cA N T i (lAcc ls) c → lnC ls c → ∃ c', (∀ m1, cc sc e 74 [.ref 84] (hp c w m1) = some (some (.int (lRB r)), hp c' w m1)) ∧ cLF c c' ∧ liC N T ls r c') ∧
    (∀ x2 m, xK m0 m → mA N T i (lAcc ls) m → lnM ls m → m 138 31 = nI 0 → match r with
      | .inl (l, j) => ∃ x2' m', (∀ c0, ev sc (d' + 9) 194 (pm_blk 194 21) [some (.ref 138), some (.int (nI ls.length)), x2] [] (hp c0 w m) = ev sc (d' + 9) 194 (pm_blk 194 2) [some (.ref 138), some (.int (nI (ls.length + 1))), x2'] [] (hp c0 w m')) ∧ mLF m m' ∧ mA N T j (lAcc (ls ++ [l])) m' ∧ lnM (ls ++ [l]) m' ∧ m' 138 31 = nI 0
      | .inr (f, p) => ∃ m', (∀ c0, ev sc (d' + 9) 194 (pm_blk 194 21) [some (.ref 138), some (.int (nI ls.length)), x2] [] (hp c0 w m) = some (some (.int (-1)), hp c0 w m')) ∧ mLF m m' ∧ m' 138 34 = nI f ∧ m' 138 35 = nI p) := by
  have hN := hT.2.1
  have hn := hT.nx hi (by omega)
  obtain ⟨v, hv⟩ : ∃ v, T 0 i = v + 256 := ⟨T 0 i - 256, by omega⟩
  have hv4 : v < 4 := by omega
  have htk : tkp (T 0 i) = v := by unfold tkp; rw [if_pos (by omega)]; omega
  obtain ⟨r1, l1, t1, c1, m1⟩ := j_sum (sc := sc) (w := w) (m0 := m0) (d' + 2) (i + 1) (lAcc ls) hT hR hn (by omega) (hQ.le (by omega))
  -- the class up to its sum
  have cls : ∀ d c m1, cA N T i (lAcc ls) c → lnC ls c → cc sc (d + 1) 74 [.ref 84] (hp c w m1) = (cc sc d 75 [.ref 84] (hp (skC i c) w m1)).bind (fun q => ev sc (d + 1) 74 [(.ifCond .ne 5, [75]), (.iconst 0, []), (.ireturn, [1])] [some (.ref 84), some (.int (nI (v + 256))), some (.int (nI (lAcc ls).length)), none] (q.1.toList ++ []) q.2) := by
    intro d c m1 hc hln
    have a1 := fun d m => t_now (sc := sc) (w := w) (m := m) d hT hc.1 hc.2.1 hi
    have a2 := fun d m => t_skip (sc := sc) (w := w) (m := m) d hc.2.1
    have e0 : c 85 0 = nI ls.length := hln.1
    have e1 : skC i c 85 1 = nI (lAcc ls).length := (hc.sk hn).2.2.2.2.2.1
    rw [hv] at a1
    simp (disch := first | assumption | omega | decide | (simp only [ma_wd0, ma_wdi, ma_wdr, ma_wdl, ma_wdn] <;> omega)) only [↓reduceIte, evK, evL, evS, evA, evJ, Option.bind_some, Option.toList, List.cons_append, List.nil_append, nI_add, pk_mul, bI0, ite_not, ev_rbb, up_n, up_s, up_u, pk_us, pk_un, Nat.reduceAdd, nI_ltT, nI_ltF, nI_leT, nI_leF, nI_eqT, nI_eqF, en_Reader_readLawLine, bk_Reader_readLawLine, gfC, gfM, ev_r0, ev_r1, eq_self, n_m1e, true_and, and_true, false_and, and_false, and_self, not_true_eq_false, not_false_eq_true, ce_Tokens_now, a1, ce_LH_within, t_LH_within, e0, ce_Tokens_skip, a2, e1, ce_Reader_readSum]
  -- the reference up to its sum
  have mod : ∀ (x2 : Option Value) (m : Nat → Nat → Int32), xK m0 m → mA N T i (lAcc ls) m → lnM ls m → m 138 31 = nI 0 → ∃ m2, (∀ c0, ev sc (d' + 9) 194 (pm_blk 194 21) [some (.ref 138), some (.int (nI ls.length)), x2] [] (hp c0 w m) = (cc sc (d' + 8) 196 [.ref 138] (hp c0 w m2)).bind (fun q => ev sc (d' + 9) 194 [(.iconst (-1), []), (.if_icmp .ne 5, [60]), (.iconst (-1), []), (.ireturn, [0])] [some (.ref 138), some (.int (nI ls.length)), some (.int (nI (32 + ls.length)))] (q.1.toList ++ []) q.2)) ∧ mLF m m2 ∧ xK m0 m2 ∧ mA N T (i + 1) (lAcc ls) m2 ∧ lnM ls m2 ∧ m2 138 31 = nI 0 ∧ m2 149 (32 + ls.length) = nI v ∧ m2 150 (32 + ls.length) = nI ((lAcc ls).flatMap lB_x).length := by
    intro x2 m hx hA hln h31
    have e20 := hA.1.vW (by omega)
    rw [htk] at e20
    have f1 : mLF m (va_up m 149 (upd (m 149) (32 + ls.length) (nI v))) := mLF.r ⟨by omega, by omega⟩ (by omega)
    have hA1 : mA N T i (lAcc ls) (va_up m 149 (upd (m 149) (32 + ls.length) (nI v))) := mB.r hA ⟨by omega, by omega⟩
    obtain ⟨m2, r1, r2, r3, r4⟩ := hR (d' + 5) i _ _ (f1.xK hx) hA1 hn
    have e30 := r4.2.2.2.2.1
    have f2 : mLF m2 (va_up m2 150 (upd (m2 150) (32 + ls.length) (nI ((lAcc ls).flatMap lB_x).length))) := mLF.r ⟨by omega, by omega⟩ (by omega)
    have f3 := (f1.tr (rd_F r2 r3).g.l).tr f2
    refine ⟨va_up m2 150 (upd (m2 150) (32 + ls.length) (nI ((lAcc ls).flatMap lB_x).length)), fun c0 => ?_, f3, f3.xK hx, mB.r r4 ⟨by omega, by omega⟩, ?_, ?_, ?_, ?_⟩
    · simp (disch := first | assumption | omega | decide | (simp only [ma_wd0, ma_wdi, ma_wdr, ma_wdl, ma_wdn] <;> omega)) only [↓reduceIte, evK, evL, evS, evA, evJ, Option.bind_some, Option.toList, List.cons_append, List.nil_append, nI_add, pk_mul, bI0, ite_not, ev_rbb, up_n, up_s, up_u, pk_us, pk_un, Nat.reduceAdd, nI_ltT, nI_ltF, nI_leT, nI_leF, nI_eqT, nI_eqF, bk_MO_readLaw, gfC, gfM, ev_r0, ev_r1, eq_self, n_m1e, true_and, and_true, false_and, and_false, and_self, not_true_eq_false, not_false_eq_true, e20, stM, ce_MO_reads, r1, e30, ce_MO_readSum]
    · exact ((hln.r (by omega)).G (rd_F r2 r3).g).r (by omega)
    · rw [up_n _ _ _ _ (by omega), r3 31 (by decide), up_n _ _ _ _ (by omega)]; exact h31
    · rw [up_n _ _ _ _ (by omega), r2 149 (by omega), up_s, pk_us]
    · rw [up_s, pk_us]
  have m1 : ∀ m, xK m0 m → mA N T (i + 1) (lAcc ls) m → qM sc w N T (d' + 8) 196 [.ref 138] (lAcc ls) r1 m := m1
  cases r1 with
  | inr x =>
    obtain ⟨f, p⟩ := x
    refine ⟨.inr (f, p), fun l j e => (by cases e), fun f' p' e => (by cases e; exact l1), fun e c he hc hln => ?_, fun x2 m hx hA hln h31 => ?_⟩
    · obtain ⟨d, rfl⟩ : ∃ d, e = d + 4 := ⟨e - 4, by omega⟩
      obtain ⟨c2, q1, q2, q3⟩ := c1 d _ (hc.sk hn)
      refine ⟨c2, fun m1 => ?_, (skC_F.tr q2).l, q3.1, q3.2.1⟩
      rw [cls (d + 3) c m1 hc hln, q1 m1]
      simp (disch := first | assumption | omega | decide | (simp only [ma_wd0, ma_wdi, ma_wdr, ma_wdl, ma_wdn] <;> omega)) only [↓reduceIte, evK, evL, evS, evA, evJ, Option.bind_some, Option.toList, List.cons_append, List.nil_append, nI_add, pk_mul, bI0, ite_not, ev_rbb, up_n, up_s, up_u, pk_us, pk_un, Nat.reduceAdd, nI_ltT, nI_ltF, nI_leT, nI_leF, nI_eqT, nI_eqF, gfC, gfM, ev_r0, ev_r1, eq_self, n_m1e, true_and, and_true, false_and, and_false, and_self, not_true_eq_false, not_false_eq_true, oB, lRB]
    · obtain ⟨m2, s1, s2, s3, s4, s5, s6, s7, s8⟩ := mod x2 m hx hA hln h31
      obtain ⟨m3, q1, q2, q3⟩ := m1 m2 s3 s4
      refine ⟨m3, fun c0 => ?_, s2.tr q2.g.l, q3⟩
      rw [s1 c0, q1 c0]
      simp (disch := first | assumption | omega | decide | (simp only [ma_wd0, ma_wdi, ma_wdr, ma_wdl, ma_wdn] <;> omega)) only [↓reduceIte, evK, evL, evS, evA, evJ, Option.bind_some, Option.toList, List.cons_append, List.nil_append, nI_add, pk_mul, bI0, ite_not, ev_rbb, up_n, up_s, up_u, pk_us, pk_un, Nat.reduceAdd, nI_ltT, nI_ltF, nI_leT, nI_leF, nI_eqT, nI_eqF, gfC, gfM, ev_r0, ev_r1, eq_self, n_m1e, true_and, and_true, false_and, and_false, and_self, not_true_eq_false, not_false_eq_true, oV]
  | inl x =>
    obtain ⟨as, j⟩ := x
    obtain ⟨b1, b2, b3, b4⟩ := l1
    have hQj : lQ (lAcc ls ++ as) 0 j := hQ.app (by omega) (by omega)
    obtain ⟨k0, k1, k2, k3, k4⟩ := hT.2.2 j b2
    have tas : lA_T as [] = some [false] := t1 [] (by simp)
    by_cases hw : T 0 j = 267
    · have hn2 := hT.nx b2 (by omega)
      obtain ⟨r2, l2, t2, c2, m2⟩ := j_any (sc := sc) (w := w) (m0 := m0) d' (j + 1) (lAcc ls ++ as) hT hR hn2 (by omega) (hQj.le (by omega))
      -- the reference, up to its condition
      have mod2 : ∀ (x2 : Option Value) (m : Nat → Nat → Int32), xK m0 m → mA N T i (lAcc ls) m → lnM ls m → m 138 31 = nI 0 → ∃ m', (∀ c0, ev sc (d' + 9) 194 (pm_blk 194 21) [some (.ref 138), some (.int (nI ls.length)), x2] [] (hp c0 w m) = (cc sc (d' + 8) 201 [.ref 138] (hp c0 w m')).bind (fun q => ev sc (d' + 9) 194 [(.iconst (-1), []), (.if_icmp .ne 5, [92]), (.iconst (-1), []), (.ireturn, [0])] [some (.ref 138), some (.int (nI ls.length)), some (.int (nI (32 + ls.length)))] (q.1.toList ++ []) q.2)) ∧ mLF m m' ∧ xK m0 m' ∧ mA N T (j + 1) (lAcc ls ++ as) m' ∧ lnM ls m' ∧ m' 138 31 = nI 0 ∧ m' 149 (32 + ls.length) = nI v ∧ m' 150 (32 + ls.length) = nI ((lAcc ls).flatMap lB_x).length ∧ m' 151 (32 + ls.length) = nI ((lAcc ls ++ as).flatMap lB_x).length := by
        intro x2 m hx hA hln h31
        obtain ⟨m2, s1, s2, s3, s4, s5, s6, s7, s8⟩ := mod x2 m hx hA hln h31
        obtain ⟨m3, q1, q2, q3⟩ := m1 m2 s3 s4
        have q3 : mA N T j (lAcc ls ++ as) m3 := q3
        have e30 := q3.2.2.2.2.1
        have f1 : mLF m3 (va_up m3 151 (upd (m3 151) (32 + ls.length) (nI ((lAcc ls ++ as).flatMap lB_x).length))) := mLF.r ⟨by omega, by omega⟩ (by omega)
        have hA1 : mA N T j (lAcc ls ++ as) (va_up m3 151 (upd (m3 151) (32 + ls.length) (nI ((lAcc ls ++ as).flatMap lB_x).length))) := mB.r q3 ⟨by omega, by omega⟩
        have a1 := fun d c => t_isWord (sc := sc) (w := w) (c := c) d 267 4 hA1 (by omega) (by omega) rfl
        rw [bI_t hw] at a1
        have f2 := (s2.tr q2.g.l).tr f1
        obtain ⟨m4, r1, r2, r3, r4⟩ := hR (d' + 5) j _ _ (f2.xK hx) hA1 hn2
        refine ⟨m4, fun c0 => ?_, f2.tr (rd_F r2 r3).g.l, (f2.tr (rd_F r2 r3).g.l).xK hx, r4, ?_, ?_, ?_, ?_, ?_⟩
        · rw [s1 c0, q1 c0]
          simp (disch := first | assumption | omega | decide | (simp only [ma_wd0, ma_wdi, ma_wdr, ma_wdl, ma_wdn] <;> omega)) only [↓reduceIte, evK, evL, evS, evA, evJ, Option.bind_some, Option.toList, List.cons_append, List.nil_append, nI_add, pk_mul, bI0, ite_not, ev_rbb, up_n, up_s, up_u, pk_us, pk_un, Nat.reduceAdd, nI_ltT, nI_ltF, nI_leT, nI_leF, nI_eqT, nI_eqF, bk_MO_readLaw, gfC, gfM, ev_r0, ev_r1, eq_self, n_m1e, true_and, and_true, false_and, and_false, and_self, not_true_eq_false, not_false_eq_true, oV, e30, stM, ce_MO_isWord, a1, ce_MO_reads, r1, ce_MO_readAny]
        · exact ((s5.G q2.g).r (by omega)).G (rd_F r2 r3).g
        · rw [r3 31 (by decide), up_n _ _ _ _ (by omega), q2.2.1 31 (by decide)]; exact s6
        · rw [r2 149 (by omega), up_n _ _ _ _ (by omega), q2.1 149 (by omega) (by omega) (by omega)]; exact s7
        · rw [r2 150 (by omega), up_n _ _ _ _ (by omega), q2.1 150 (by omega) (by omega) (by omega)]; exact s8
        · rw [r2 151 (by omega), up_s, pk_us]
      -- the class, up to its condition
      have cls2 : ∀ d c, cA N T i (lAcc ls) c → lnC ls c → ∃ c', (∀ m1, cc sc (d + 4) 74 [.ref 84] (hp c w m1) = (cc sc (d + 3) 78 [.ref 84, .int (nI 0)] (hp c' w m1)).bind (fun q => ev sc (d + 4) 74 [(.ifCond .ne 5, [113]), (.iconst 0, []), (.ireturn, [1])] [some (.ref 84), some (.int (nI (v + 256))), some (.int (nI (lAcc ls).length)), some (.int (nI (lAcc ls ++ as).length))] (q.1.toList ++ []) q.2)) ∧ cF c c' ∧ cA N T (j + 1) (lAcc ls ++ as) c' := by
        intro d c hc hln
        obtain ⟨c3, q1, q2, q3⟩ := c1 d _ (hc.sk hn)
        have q3 : cA N T j (lAcc ls ++ as) c3 := q3
        have e1 : c3 85 1 = nI (lAcc ls ++ as).length := q3.2.2.2.2.2.1
        have a1 := fun d m => t_now (sc := sc) (w := w) (m := m) d hT q3.1 q3.2.1 b2
        have a2 := fun d m => t_skip (sc := sc) (w := w) (m := m) d q3.2.1
        rw [hw] at a1
        refine ⟨_, fun m1 => ?_, (skC_F.tr q2).tr skC_F, q3.sk hn2⟩
        rw [cls (d + 3) c m1 hc hln, q1 m1]
        simp (disch := first | assumption | omega | decide | (simp only [ma_wd0, ma_wdi, ma_wdr, ma_wdl, ma_wdn] <;> omega)) only [↓reduceIte, evK, evL, evS, evA, evJ, Option.bind_some, Option.toList, List.cons_append, List.nil_append, nI_add, pk_mul, bI0, ite_not, ev_rbb, up_n, up_s, up_u, pk_us, pk_un, Nat.reduceAdd, nI_ltT, nI_ltF, nI_leT, nI_leF, nI_eqT, nI_eqF, bk_Reader_readLawLine, gfC, gfM, ev_r0, ev_r1, eq_self, n_m1e, true_and, and_true, false_and, and_false, and_self, not_true_eq_false, not_false_eq_true, oB, e1, ce_Tokens_now, a1, ce_Tokens_skip, a2, ce_Reader_readCondition]
      cases r2 with
      | inr x =>
        obtain ⟨f, p⟩ := x
        refine ⟨.inr (f, p), fun l j e => (by cases e), fun f' p' e => (by cases e; exact l2), fun e c he hc hln => ?_, fun x2 m hx hA hln h31 => ?_⟩
        · obtain ⟨d, rfl⟩ : ∃ d, e = d + 4 := ⟨e - 4, by omega⟩
          obtain ⟨c3, s1, s2, s3⟩ := cls2 d c hc hln
          obtain ⟨c4, q1, q2, q3⟩ := c2 (d + 3) c3 (by omega) s3
          refine ⟨c4, fun m1 => ?_, (s2.tr q2).l, q3.1, q3.2.1⟩
          rw [s1 m1, q1 m1]
          simp (disch := first | assumption | omega | decide | (simp only [ma_wd0, ma_wdi, ma_wdr, ma_wdl, ma_wdn] <;> omega)) only [↓reduceIte, evK, evL, evS, evA, evJ, Option.bind_some, Option.toList, List.cons_append, List.nil_append, nI_add, pk_mul, bI0, ite_not, ev_rbb, up_n, up_s, up_u, pk_us, pk_un, Nat.reduceAdd, nI_ltT, nI_ltF, nI_leT, nI_leF, nI_eqT, nI_eqF, gfC, gfM, ev_r0, ev_r1, eq_self, n_m1e, true_and, and_true, false_and, and_false, and_self, not_true_eq_false, not_false_eq_true, oB, lRB]
        · obtain ⟨m3, s1, s2, s3, s4, s5, s6, s7⟩ := mod2 x2 m hx hA hln h31
          obtain ⟨m4, q1, q2, q3, q4⟩ := m2 m3 s3 s4 s6
          refine ⟨m4, fun c0 => ?_, s2.tr q2.l, q3⟩
          rw [s1 c0, q1 c0]
          simp (disch := first | assumption | omega | decide | (simp only [ma_wd0, ma_wdi, ma_wdr, ma_wdl, ma_wdn] <;> omega)) only [↓reduceIte, evK, evL, evS, evA, evJ, Option.bind_some, Option.toList, List.cons_append, List.nil_append, nI_add, pk_mul, bI0, ite_not, ev_rbb, up_n, up_s, up_u, pk_us, pk_un, Nat.reduceAdd, nI_ltT, nI_ltF, nI_leT, nI_leF, nI_eqT, nI_eqF, gfC, gfM, ev_r0, ev_r1, eq_self, n_m1e, true_and, and_true, false_and, and_false, and_self, not_true_eq_false, not_false_eq_true, oV]
      | inl x =>
        obtain ⟨bs, j2⟩ := x
        obtain ⟨f1, f2, f3, f4⟩ := l2
        have hQ2 : lQ (lAcc ls ++ as ++ bs) 0 j2 := (hQj.le (by omega)).app f3 f4
        have tbs : lA_T bs [] = some [true] := t2 [] (by simp)
        have kj := hT.2.2 j2 f2
        have hj1 : T 0 j2 = 59 → j2 + 1 < N := fun z => hT.nx f2 (by omega)
        have mm : ∀ (x2 : Option Value) (m : Nat → Nat → Int32), xK m0 m → mA N T i (lAcc ls) m → lnM ls m → m 138 31 = nI 0 → ∃ m4 m', (∀ c0, ev sc (d' + 9) 194 (pm_blk 194 21) [some (.ref 138), some (.int (nI ls.length)), x2] [] (hp c0 w m) = if T 0 j2 = 59 then ev sc (d' + 9) 194 (pm_blk 194 2) [some (.ref 138), some (.int (nI (ls.length + 1))), some (.int (nI (32 + ls.length)))] [] (hp c0 w m') else some (some (.int (-1)), hp c0 w m')) ∧ mLF m m' ∧ m4 138 31 = nI 0 ∧ lnM ls m4 ∧ m4 149 (32 + ls.length) = nI v ∧ m4 150 (32 + ls.length) = nI ((lAcc ls).flatMap lB_x).length ∧ m4 151 (32 + ls.length) = nI ((lAcc ls ++ as).flatMap lB_x).length ∧ (∀ k, 32 + ls.length ≤ k → m' 149 k = m4 149 k ∧ m' 150 k = m4 150 k ∧ m' 151 k = m4 151 k) ∧ (T 0 j2 = 59 → mA N T (j2 + 1) (lAcc ls ++ as ++ bs) m' ∧ m' 152 (32 + ls.length) = nI ((lAcc ls ++ as ++ bs).flatMap lB_x).length ∧ m' 138 31 = m4 138 31 ∧ (lnM ls m4 → lnM ls m')) ∧ (T 0 j2 ≠ 59 → m' 138 34 = nI 1 ∧ m' 138 35 = nI (T 1 j2)) := by
          intro x2 m hx hA hln h31
          obtain ⟨m3, s1, s2, s3, s4, s5, s6, s7, s8, s9⟩ := mod2 x2 m hx hA hln h31
          obtain ⟨m4, q1, q2, q3, q4⟩ := m2 m3 s3 s4 s6
          have q3 : mA N T j2 (lAcc ls ++ as ++ bs) m4 := q3
          obtain ⟨m5, g1, g2, g3, g4, g5⟩ := m_lineE (sc := sc) (w := w) (m0 := m0) d' j2 ls _ m4 hR (q2.xK s3) q3 hl f2 hj1
          refine ⟨m4, m5, fun c0 => ?_, (s2.tr q2.l).tr g2, q4 rfl, s5.G q2, ?_, ?_, ?_, g3, g4, g5⟩
          · rw [s1 c0, q1 c0, ← g1 c0]
            simp (disch := first | assumption | omega | decide | (simp only [ma_wd0, ma_wdi, ma_wdr, ma_wdl, ma_wdn] <;> omega)) only [↓reduceIte, evK, evL, evS, evA, evJ, Option.bind_some, Option.toList, List.cons_append, List.nil_append, nI_add, pk_mul, bI0, ite_not, ev_rbb, up_n, up_s, up_u, pk_us, pk_un, Nat.reduceAdd, nI_ltT, nI_ltF, nI_leT, nI_leF, nI_eqT, nI_eqF, bk_MO_readLaw, gfC, gfM, ev_r0, ev_r1, eq_self, n_m1e, true_and, and_true, false_and, and_false, and_self, not_true_eq_false, not_false_eq_true, oV]
          · rw [q2.1 149 (by omega) (by omega) (by omega) (by omega)]; exact s7
          · rw [q2.1 150 (by omega) (by omega) (by omega) (by omega)]; exact s8
          · rw [q2.1 151 (by omega) (by omega) (by omega) (by omega)]; exact s9
        by_cases z : T 0 j2 = 59
        · have hj2 := hj1 z
          refine ⟨.inl ((v, as, bs), j2 + 1), fun l j e => ?_, fun f' p' e => (by cases e), fun e c he hc hln => ?_, fun x2 m hx hA hln h31 => ?_⟩
          · cases e
            refine ⟨⟨hv4, tas, Or.inr tbs⟩, by omega, hj2, ?_⟩
            rw [lAcc_app]
            exact hQ2.le (by omega)
          · obtain ⟨d, rfl⟩ : ∃ d, e = d + 4 := ⟨e - 4, by omega⟩
            obtain ⟨c3, s1, s2, s3⟩ := cls2 d c hc hln
            obtain ⟨c4, q1, q2, q3⟩ := c2 (d + 3) c3 (by omega) s3
            have q3 : cA N T j2 (lAcc ls ++ as ++ bs) c4 := q3
            obtain ⟨c5, g1, g2, g3, g4⟩ := c_lineE (sc := sc) (w := w) (d + 2) i j2 v ls as bs c4 hT q3 ((hln.F s2).F q2) hl f2 none
            rw [if_pos z] at g1
            refine ⟨c5, fun m1 => ?_, (s2.tr q2).l.tr g2, g3 z hj2⟩
            rw [s1 m1, q1 m1]
            show _ = some (some (Value.int (nI 1)), _)
            rw [← g1 m1]
            simp (disch := first | assumption | omega | decide | (simp only [ma_wd0, ma_wdi, ma_wdr, ma_wdl, ma_wdn] <;> omega)) only [↓reduceIte, evK, evL, evS, evA, evJ, Option.bind_some, Option.toList, List.cons_append, List.nil_append, nI_add, pk_mul, bI0, ite_not, ev_rbb, up_n, up_s, up_u, pk_us, pk_un, Nat.reduceAdd, nI_ltT, nI_ltF, nI_leT, nI_leF, nI_eqT, nI_eqF, bk_Reader_readLawLine, gfC, gfM, ev_r0, ev_r1, eq_self, n_m1e, true_and, and_true, false_and, and_false, and_self, not_true_eq_false, not_false_eq_true, oB]
          · obtain ⟨m4, m5, g1, g2, g3, g4, g5, g6, g7, g8, g9, g10⟩ := mm x2 m hx hA hln h31
            obtain ⟨u1, u2, u3, u4⟩ := g9 z
            have u5 := g8 (32 + ls.length) (Nat.le_refl _)
            refine ⟨some (.int (nI (32 + ls.length))), m5, fun c0 => ?_, g2, by rw [lAcc_app]; exact u1, ?_, by rw [u3]; exact g3⟩
            · rw [g1 c0, if_pos z]
            · refine (u4 g4).push (u5.1.trans g5) (u5.2.1.trans g6) (u5.2.2.trans ?_) (u2.trans ?_)
              · rw [g7, List.flatMap_append, List.length_append]
              · rw [List.flatMap_append, List.flatMap_append, List.length_append, List.length_append]
        · refine ⟨.inr (1, T 1 j2), fun l j e => (by cases e), fun f' p' e => (by cases e; exact ⟨by omega, by omega, kj.2.2.1⟩), fun e c he hc hln => ?_, fun x2 m hx hA hln h31 => ?_⟩
          · obtain ⟨d, rfl⟩ : ∃ d, e = d + 4 := ⟨e - 4, by omega⟩
            obtain ⟨c3, s1, s2, s3⟩ := cls2 d c hc hln
            obtain ⟨c4, q1, q2, q3⟩ := c2 (d + 3) c3 (by omega) s3
            have q3 : cA N T j2 (lAcc ls ++ as ++ bs) c4 := q3
            obtain ⟨c5, g1, g2, g3, g4⟩ := c_lineE (sc := sc) (w := w) (d + 2) i j2 v ls as bs c4 hT q3 ((hln.F s2).F q2) hl f2 none
            rw [if_neg z] at g1
            refine ⟨c5, fun m1 => ?_, (s2.tr q2).l.tr g2, g4 z⟩
            rw [s1 m1, q1 m1]
            show _ = some (some (Value.int (nI 0)), _)
            rw [← g1 m1]
            simp (disch := first | assumption | omega | decide | (simp only [ma_wd0, ma_wdi, ma_wdr, ma_wdl, ma_wdn] <;> omega)) only [↓reduceIte, evK, evL, evS, evA, evJ, Option.bind_some, Option.toList, List.cons_append, List.nil_append, nI_add, pk_mul, bI0, ite_not, ev_rbb, up_n, up_s, up_u, pk_us, pk_un, Nat.reduceAdd, nI_ltT, nI_ltF, nI_leT, nI_leF, nI_eqT, nI_eqF, bk_Reader_readLawLine, gfC, gfM, ev_r0, ev_r1, eq_self, n_m1e, true_and, and_true, false_and, and_false, and_self, not_true_eq_false, not_false_eq_true, oB]
          · obtain ⟨m4, m5, g1, g2, g3, g4, g5, g6, g7, g8, g9, g10⟩ := mm x2 m hx hA hln h31
            refine ⟨m5, fun c0 => ?_, g2, g10 z⟩
            rw [g1 c0, if_neg z]
    · have hj1 : T 0 j = 59 → j + 1 < N := fun z => hT.nx b2 (by omega)
      have mm : ∀ (x2 : Option Value) (m : Nat → Nat → Int32), xK m0 m → mA N T i (lAcc ls) m → lnM ls m → m 138 31 = nI 0 → ∃ m4 m', (∀ c0, ev sc (d' + 9) 194 (pm_blk 194 21) [some (.ref 138), some (.int (nI ls.length)), x2] [] (hp c0 w m) = if T 0 j = 59 then ev sc (d' + 9) 194 (pm_blk 194 2) [some (.ref 138), some (.int (nI (ls.length + 1))), some (.int (nI (32 + ls.length)))] [] (hp c0 w m') else some (some (.int (-1)), hp c0 w m')) ∧ mLF m m' ∧ m4 138 31 = nI 0 ∧ lnM ls m4 ∧ m4 149 (32 + ls.length) = nI v ∧ m4 150 (32 + ls.length) = nI ((lAcc ls).flatMap lB_x).length ∧ m4 151 (32 + ls.length) = nI ((lAcc ls ++ as).flatMap lB_x).length ∧ (∀ k, 32 + ls.length ≤ k → m' 149 k = m4 149 k ∧ m' 150 k = m4 150 k ∧ m' 151 k = m4 151 k) ∧ (T 0 j = 59 → mA N T (j + 1) (lAcc ls ++ as) m' ∧ m' 152 (32 + ls.length) = nI ((lAcc ls ++ as).flatMap lB_x).length ∧ m' 138 31 = m4 138 31 ∧ (lnM ls m4 → lnM ls m')) ∧ (T 0 j ≠ 59 → m' 138 34 = nI 1 ∧ m' 138 35 = nI (T 1 j)) := by
        intro x2 m hx hA hln h31
        obtain ⟨m2, s1, s2, s3, s4, s5, s6, s7, s8⟩ := mod x2 m hx hA hln h31
        obtain ⟨m3, q1, q2, q3⟩ := m1 m2 s3 s4
        have q3 : mA N T j (lAcc ls ++ as) m3 := q3
        have e30 := q3.2.2.2.2.1
        have f1 : mLF m3 (va_up m3 151 (upd (m3 151) (32 + ls.length) (nI ((lAcc ls ++ as).flatMap lB_x).length))) := mLF.r ⟨by omega, by omega⟩ (by omega)
        have hA1 : mA N T j (lAcc ls ++ as) (va_up m3 151 (upd (m3 151) (32 + ls.length) (nI ((lAcc ls ++ as).flatMap lB_x).length))) := mB.r q3 ⟨by omega, by omega⟩
        have a1 := fun d c => t_isWord (sc := sc) (w := w) (c := c) d 267 4 hA1 (by omega) (by omega) rfl
        rw [bI_f hw] at a1
        have f2 := (s2.tr q2.g.l).tr f1
        obtain ⟨m5, g1, g2, g3, g4, g5⟩ := m_lineE (sc := sc) (w := w) (m0 := m0) d' j ls _ _ hR (f2.xK hx) hA1 hl b2 hj1
        refine ⟨_, m5, fun c0 => ?_, f2.tr g2, ?_, (s5.G q2.g).r (by omega), ?_, ?_, ?_, g3, g4, g5⟩
        · rw [s1 c0, q1 c0, ← g1 c0]
          simp (disch := first | assumption | omega | decide | (simp only [ma_wd0, ma_wdi, ma_wdr, ma_wdl, ma_wdn] <;> omega)) only [↓reduceIte, evK, evL, evS, evA, evJ, Option.bind_some, Option.toList, List.cons_append, List.nil_append, nI_add, pk_mul, bI0, ite_not, ev_rbb, up_n, up_s, up_u, pk_us, pk_un, Nat.reduceAdd, nI_ltT, nI_ltF, nI_leT, nI_leF, nI_eqT, nI_eqF, bk_MO_readLaw, gfC, gfM, ev_r0, ev_r1, eq_self, n_m1e, true_and, and_true, false_and, and_false, and_self, not_true_eq_false, not_false_eq_true, oV, e30, stM, ce_MO_isWord, a1]
        · rw [up_n _ _ _ _ (by omega), q2.2.1 31 (by decide)]; exact s6
        · rw [up_n _ _ _ _ (by omega), q2.1 149 (by omega) (by omega) (by omega)]; exact s7
        · rw [up_n _ _ _ _ (by omega), q2.1 150 (by omega) (by omega) (by omega)]; exact s8
        · rw [up_s, pk_us]
      have cl3 : ∀ d c, cA N T i (lAcc ls) c → lnC ls c → ∃ c' c5, (∀ m1, cc sc (d + 4) 74 [.ref 84] (hp c w m1) = some (some (.int (if T 0 j = 59 then nI 1 else nI 0)), hp c5 w m1)) ∧ cF c c' ∧ cLF c' c5 ∧ (T 0 j = 59 → j + 1 < N → cA N T (j + 1) (lAcc (ls ++ [(v, as, [])])) c5 ∧ lnC (ls ++ [(v, as, [])]) c5) ∧ (T 0 j ≠ 59 → c5 79 7 = nI 1 ∧ c5 79 8 = nI (T 1 j)) := by
        intro d c hc hln
        obtain ⟨c3, q1, q2, q3⟩ := c1 d _ (hc.sk hn)
        have q3 : cA N T j (lAcc ls ++ as) c3 := q3
        have e1 : c3 85 1 = nI (lAcc ls ++ as).length := q3.2.2.2.2.2.1
        have a1 := fun d m => t_now (sc := sc) (w := w) (m := m) d hT q3.1 q3.2.1 b2
        obtain ⟨c5, g1, g2, g3, g4⟩ := c_lineE (sc := sc) (w := w) (d + 2) i j v ls as [] c3 hT (by rw [List.append_nil]; exact q3) ((hln.F skC_F).F q2) hl b2 none
        refine ⟨c3, c5, fun m1 => ?_, skC_F.tr q2, g2, g3, g4⟩
        rw [cls (d + 3) c m1 hc hln, q1 m1, ← g1 m1]
        simp (disch := first | assumption | omega | decide | (simp only [ma_wd0, ma_wdi, ma_wdr, ma_wdl, ma_wdn] <;> omega)) only [↓reduceIte, evK, evL, evS, evA, evJ, Option.bind_some, Option.toList, List.cons_append, List.nil_append, nI_add, pk_mul, bI0, ite_not, ev_rbb, up_n, up_s, up_u, pk_us, pk_un, Nat.reduceAdd, nI_ltT, nI_ltF, nI_leT, nI_leF, nI_eqT, nI_eqF, bk_Reader_readLawLine, gfC, gfM, ev_r0, ev_r1, eq_self, n_m1e, true_and, and_true, false_and, and_false, and_self, not_true_eq_false, not_false_eq_true, oB, e1, ce_Tokens_now, a1]
      by_cases z : T 0 j = 59
      · have hj2 := hj1 z
        refine ⟨.inl ((v, as, []), j + 1), fun l j e => ?_, fun f' p' e => (by cases e), fun e c he hc hln => ?_, fun x2 m hx hA hln h31 => ?_⟩
        · cases e
          refine ⟨⟨hv4, tas, Or.inl rfl⟩, by omega, hj2, ?_⟩
          rw [lAcc_app, List.append_nil]
          exact hQj.le (by omega)
        · obtain ⟨d, rfl⟩ : ∃ d, e = d + 4 := ⟨e - 4, by omega⟩
          obtain ⟨c3, c5, g0, g1, g2, g3, g4⟩ := cl3 d c hc hln
          rw [if_pos z] at g0
          exact ⟨c5, g0, g1.l.tr g2, g3 z hj2⟩
        · obtain ⟨m4, m5, g1, g2, g3, g4, g5, g6, g7, g8, g9, g10⟩ := mm x2 m hx hA hln h31
          obtain ⟨u1, u2, u3, u4⟩ := g9 z
          have u5 := g8 (32 + ls.length) (Nat.le_refl _)
          refine ⟨some (.int (nI (32 + ls.length))), m5, fun c0 => ?_, g2, by rw [lAcc_app, List.append_nil]; exact u1, ?_, by rw [u3]; exact g3⟩
          · rw [g1 c0, if_pos z]
          · refine (u4 g4).push (u5.1.trans g5) (u5.2.1.trans g6) (u5.2.2.trans ?_) (u2.trans ?_)
            · rw [g7, List.flatMap_append, List.length_append]
            · rw [List.flatMap_append, List.length_append]; rfl
      · refine ⟨.inr (1, T 1 j), fun l j e => (by cases e), fun f' p' e => (by cases e; exact ⟨by omega, by omega, k2⟩), fun e c he hc hln => ?_, fun x2 m hx hA hln h31 => ?_⟩
        · obtain ⟨d, rfl⟩ : ∃ d, e = d + 4 := ⟨e - 4, by omega⟩
          obtain ⟨c3, c5, g0, g1, g2, g3, g4⟩ := cl3 d c hc hln
          rw [if_neg z] at g0
          exact ⟨c5, g0, g1.l.tr g2, g4 z⟩
        · obtain ⟨m4, m5, g1, g2, g3, g4, g5, g6, g7, g8, g9, g10⟩ := mm x2 m hx hA hln h31
          refine ⟨m5, fun c0 => ?_, g2, g10 z⟩
          rw [g1 c0, if_neg z]
end LY
