/-! ===== text: the law ===== -/
abbrev lsR : Type := List lL ⊕ (Nat × Nat)
section LZ
variable {sc : Nat × (Nat → Int32)} {m0 : Nat → Nat → Int32} {w : Nat → Int64} {N : Nat} {T : Nat → Nat → Nat}
def lsOK (R : lsR) : Prop := match R with
  | .inl ls => (∀ l ∈ ls, lL_ok l) ∧ ls.length ≤ 16 ∧ (lAcc ls).length ≤ 400 ∧ ((lAcc ls).flatMap lB_x).length ≤ 400
  | .inr (f, p) => 1 ≤ f ∧ f ≤ 3 ∧ p ≤ 400
theorem t_isLineWord (d i : Nat) (cd : List (Nat × Nat)) (c m : Nat → Nat → Int32) (h : mB N T i cd m) (hk : T 0 i < 281) : cc sc (d + 1) 195 [.ref 138] (hp c w m) = some (some (.int (bI (256 ≤ T 0 i ∧ T 0 i ≤ 259))), hp c w m) := by
  have ht := h.1
  by_cases z : 256 ≤ T 0 i ∧ T 0 i < 281
  · have e19 : m 138 19 = nI 2 := by rw [ht.wrd]; exact z
    have e20 := ht.vW z.1
    have b := tkp_lt z.1 z.2
    by_cases y : T 0 i ≤ 259
    · have e : tkp (T 0 i) ≤ 3 := by unfold tkp; rw [if_pos (by omega)]; omega
      rw [bI_t ⟨z.1, y⟩]
      simp (disch := first | assumption | omega | decide | (simp only [ma_wd0, ma_wdi, ma_wdr, ma_wdl, ma_wdn] <;> omega)) only [↓reduceIte, evK, evL, evS, evA, evJ, Option.bind_some, Option.toList, List.cons_append, List.nil_append, nI_add, pk_mul, bI0, ite_not, ev_rbb, up_n, up_s, up_u, pk_us, pk_un, Nat.reduceAdd, nI_ltT, nI_ltF, nI_leT, nI_leF, nI_eqT, nI_eqF, en_MO_isLineWord, bk_MO_isLineWord, gfC, gfM, ev_r0, ev_r1, eq_self, n_m1e, true_and, and_true, false_and, and_false, and_self, not_true_eq_false, not_false_eq_true, e19, e20, ce_MO_isIn, t_MO_isIn]
    · have e : 3 < tkp (T 0 i) := by
        unfold tkp
        repeat' split
        all_goals omega
      rw [bI_f (by omega)]
      simp (disch := first | assumption | omega | decide | (simp only [ma_wd0, ma_wdi, ma_wdr, ma_wdl, ma_wdn] <;> omega)) only [↓reduceIte, evK, evL, evS, evA, evJ, Option.bind_some, Option.toList, List.cons_append, List.nil_append, nI_add, pk_mul, bI0, ite_not, ev_rbb, up_n, up_s, up_u, pk_us, pk_un, Nat.reduceAdd, nI_ltT, nI_ltF, nI_leT, nI_leF, nI_eqT, nI_eqF, en_MO_isLineWord, bk_MO_isLineWord, gfC, gfM, ev_r0, ev_r1, eq_self, n_m1e, true_and, and_true, false_and, and_false, and_self, not_true_eq_false, not_false_eq_true, e19, e20, ce_MO_isIn, t_MO_isIn]
  · have e2 : (m 138 19 = nI 2) = False := by rw [ht.wrd]; exact eq_false z
    rw [bI_f (by omega)]
    simp (disch := first | assumption | omega | decide | (simp only [ma_wd0, ma_wdi, ma_wdr, ma_wdl, ma_wdn] <;> omega)) only [↓reduceIte, evK, evL, evS, evA, evJ, Option.bind_some, Option.toList, List.cons_append, List.nil_append, nI_add, pk_mul, bI0, ite_not, ev_rbb, up_n, up_s, up_u, pk_us, pk_un, Nat.reduceAdd, nI_ltT, nI_ltF, nI_leT, nI_leF, nI_eqT, nI_eqF, en_MO_isLineWord, bk_MO_isLineWord, gfC, gfM, ev_r0, ev_r1, eq_self, n_m1e, true_and, and_true, false_and, and_false, and_self, not_true_eq_false, not_false_eq_true, e2]
theorem j_lawL (d' : Nat) (hT : tOK N T) (hR : rdS sc w N T m0) : ∀ (k i : Nat) (ls : List lL), i + k = N → i < N → lQ (lAcc ls) 0 i → (∀ l ∈ ls, lL_ok l) → ls.length ≤ 16 → ∃ R : lsR, lsOK R ∧
    (∀ e c, 23 ≤ e → cA N T i (lAcc ls) c → lnC ls c → match R with
      | .inl ls' => ∃ n' i' c', (∀ m1, ev sc e 73 (pm_blk 73 9) [some (.ref 84), some (.int (nI ls.length))] [] (hp c w m1) = ev sc e 73 (pm_blk 73 40) [some (.ref 84), some (.int (nI n'))] [] (hp c' w m1)) ∧ cLF c c' ∧ lnC ls' c' ∧ cA N T i' (lAcc ls') c'
      | .inr (f, p) => ∃ c', (∀ m1, ev sc e 73 (pm_blk 73 9) [some (.ref 84), some (.int (nI ls.length))] [] (hp c w m1) = some (some (.int (-1)), hp c' w m1)) ∧ cLF c c' ∧ c' 79 7 = nI f ∧ c' 79 8 = nI p) ∧
    (∀ x2 m, xK m0 m → mA N T i (lAcc ls) m → lnM ls m → m 138 31 = nI 0 → match R with
      | .inl ls' => ∃ i' m', (∀ c0, ev sc (d' + 9) 194 (pm_blk 194 2) [some (.ref 138), some (.int (nI ls.length)), x2] [] (hp c0 w m) = some (some (.int (nI ls'.length)), hp c0 w m')) ∧ mLF m m' ∧ mA N T i' (lAcc ls') m' ∧ lnM ls' m'
      | .inr (f, p) => ∃ m', (∀ c0, ev sc (d' + 9) 194 (pm_blk 194 2) [some (.ref 138), some (.int (nI ls.length)), x2] [] (hp c0 w m) = some (some (.int (-1)), hp c0 w m')) ∧ mLF m m' ∧ m' 138 34 = nI f ∧ m' 138 35 = nI p) := by
  intro k
  induction k using Nat.strongRecOn with
  | ind k ih =>
  intro i ls hk hi hQ hok hl
  have hN := hT.2.1
  obtain ⟨k0, k1, k2, k3, k4⟩ := hT.2.2 i hi
  by_cases z0 : T 0 i = 0
  · refine ⟨.inl ls, ⟨hok, hl, by have := hQ.1; omega, by have := hQ.2; omega⟩, fun e c he hc hln => ?_, fun x2 m hx hA hln h31 => ?_⟩
    · obtain ⟨d, rfl⟩ : ∃ d, e = d + 1 := ⟨e - 1, by omega⟩
      refine ⟨ls.length, i, c, fun m1 => ?_, cLF.rf, hln, hc⟩
      have a1 := fun d m => t_now (sc := sc) (w := w) (m := m) d hT hc.1 hc.2.1 hi
      rw [z0] at a1
      conv => lhs; rw [bh_Reader_readLaw_9]
      simp (disch := first | assumption | omega | decide | (simp only [ma_wd0, ma_wdi, ma_wdr, ma_wdl, ma_wdn] <;> omega)) only [↓reduceIte, evK, evL, evS, evA, evJ, Option.bind_some, Option.toList, List.cons_append, List.nil_append, nI_add, pk_mul, bI0, ite_not, ev_rbb, up_n, up_s, up_u, pk_us, pk_un, Nat.reduceAdd, nI_ltT, nI_ltF, nI_leT, nI_leF, nI_eqT, nI_eqF, bk_Reader_readLaw, gfC, gfM, ev_r0, ev_r1, eq_self, n_m1e, true_and, and_true, false_and, and_false, and_self, not_true_eq_false, not_false_eq_true, ce_Tokens_now, a1]
    · refine ⟨i, m, fun c0 => ?_, mLF.rf, hA, hln⟩
      have a1 := fun d c => t_isLineWord (sc := sc) (w := w) d i _ c m hA k1
      rw [bI_f (by omega)] at a1
      have e19 : m 138 19 = nI 0 := by rw [hA.1.fin]; exact z0
      rw [bh_MO_readLaw_2]
      simp (disch := first | assumption | omega | decide | (simp only [ma_wd0, ma_wdi, ma_wdr, ma_wdl, ma_wdn] <;> omega)) only [↓reduceIte, evK, evL, evS, evA, evJ, Option.bind_some, Option.toList, List.cons_append, List.nil_append, nI_add, pk_mul, bI0, ite_not, ev_rbb, up_n, up_s, up_u, pk_us, pk_un, Nat.reduceAdd, nI_ltT, nI_ltF, nI_leT, nI_leF, nI_eqT, nI_eqF, bk_MO_readLaw, gfC, gfM, ev_r0, ev_r1, eq_self, n_m1e, true_and, and_true, false_and, and_false, and_self, not_true_eq_false, not_false_eq_true, ce_MO_isLineWord, a1, e19]
  by_cases z1 : 256 ≤ T 0 i ∧ T 0 i ≤ 259
  · by_cases z2 : ls.length = 16
    · refine ⟨.inr (3, T 1 i), ⟨by omega, by omega, k2⟩, fun e c he hc hln => ?_, fun x2 m hx hA hln h31 => ?_⟩
      · obtain ⟨d, rfl⟩ : ∃ d, e = d + 2 := ⟨e - 2, by omega⟩
        have a1 := fun d m => t_now (sc := sc) (w := w) (m := m) d hT hc.1 hc.2.1 hi
        have a3 := fun d m => t_fail (sc := sc) (w := w) (m := m) d 3 hT hc.1 hc.2.1 hi
        have e0 : c 85 0 = nI 16 := by rw [← z2]; exact hln.1
        refine ⟨_, fun m1 => ?_, (flC_F (T := T) (i := i) 3).l, ?_, ?_⟩
        · rw [bh_Reader_readLaw_9, z2]
          simp (disch := first | assumption | omega | decide | (simp only [ma_wd0, ma_wdi, ma_wdr, ma_wdl, ma_wdn] <;> omega)) only [↓reduceIte, evK, evL, evS, evA, evJ, Option.bind_some, Option.toList, List.cons_append, List.nil_append, nI_add, pk_mul, bI0, ite_not, ev_rbb, up_n, up_s, up_u, pk_us, pk_un, Nat.reduceAdd, nI_ltT, nI_ltF, nI_leT, nI_leF, nI_eqT, nI_eqF, bk_Reader_readLaw, gfC, gfM, ev_r0, ev_r1, eq_self, n_m1e, true_and, and_true, false_and, and_false, and_self, not_true_eq_false, not_false_eq_true, ce_Tokens_now, a1, ce_Reader_readLawLine, en_Reader_readLawLine, bk_Reader_readLawLine, ce_LH_within, t_LH_within, e0, ce_Tokens_fail, a3]
        · unfold flC; rw [up_s, pk_un (by omega), pk_us]
        · unfold flC; rw [up_s, pk_us]
      · have a1 := fun d c => t_isLineWord (sc := sc) (w := w) d i _ c m hA k1
        have a2 := fun d c => t_errs (sc := sc) (w := w) (c := c) d 3 hA
        have eo := erM_o (N := N) (T := T) (acc := []) (m := m) (i := i) 3
        rw [bI_t z1] at a1
        refine ⟨erM T i 3 m, fun c0 => ?_, (erM_F _).g.l, eo.1, eo.2⟩
        rw [bh_MO_readLaw_2, z2]
        simp (disch := first | assumption | omega | decide | (simp only [ma_wd0, ma_wdi, ma_wdr, ma_wdl, ma_wdn] <;> omega)) only [↓reduceIte, evK, evL, evS, evA, evJ, Option.bind_some, Option.toList, List.cons_append, List.nil_append, nI_add, pk_mul, bI0, ite_not, ev_rbb, up_n, up_s, up_u, pk_us, pk_un, Nat.reduceAdd, nI_ltT, nI_ltF, nI_leT, nI_leF, nI_eqT, nI_eqF, bk_MO_readLaw, gfC, gfM, ev_r0, ev_r1, eq_self, n_m1e, true_and, and_true, false_and, and_false, and_self, not_true_eq_false, not_false_eq_true, ce_MO_isLineWord, a1, ce_MO_errs, a2]
    · obtain ⟨r, h1, h1f, h2, h3⟩ := j_line (sc := sc) (w := w) (m0 := m0) d' i ls hT hR hi z1 hQ (by omega)
      cases r with
      | inr x =>
        obtain ⟨f, p⟩ := x
        refine ⟨.inr (f, p), h1f f p rfl, fun e c he hc hln => ?_, fun x2 m hx hA hln h31 => ?_⟩
        · obtain ⟨d, rfl⟩ : ∃ d, e = d + 1 := ⟨e - 1, by omega⟩
          obtain ⟨c2, q1, q2, q3⟩ := h2 d c (by omega) hc hln
          refine ⟨c2, fun m1 => ?_, q2, q3⟩
          have a1 := fun d m => t_now (sc := sc) (w := w) (m := m) d hT hc.1 hc.2.1 hi
          rw [bh_Reader_readLaw_9]
          simp (disch := first | assumption | omega | decide | (simp only [ma_wd0, ma_wdi, ma_wdr, ma_wdl, ma_wdn] <;> omega)) only [↓reduceIte, evK, evL, evS, evA, evJ, Option.bind_some, Option.toList, List.cons_append, List.nil_append, nI_add, pk_mul, bI0, ite_not, ev_rbb, up_n, up_s, up_u, pk_us, pk_un, Nat.reduceAdd, nI_ltT, nI_ltF, nI_leT, nI_leF, nI_eqT, nI_eqF, bk_Reader_readLaw, gfC, gfM, ev_r0, ev_r1, eq_self, n_m1e, true_and, and_true, false_and, and_false, and_self, not_true_eq_false, not_false_eq_true, ce_Tokens_now, a1, ce_Reader_readLawLine, q1, lRB]
        · obtain ⟨m2, q1, q2, q3⟩ := h3 x2 m hx hA hln h31
          have a1 := fun d c => t_isLineWord (sc := sc) (w := w) d i _ c m hA k1
          rw [bI_t z1] at a1
          refine ⟨m2, fun c0 => ?_, q2, q3⟩
          rw [← q1 c0, bh_MO_readLaw_2]
          simp (disch := first | assumption | omega | decide | (simp only [ma_wd0, ma_wdi, ma_wdr, ma_wdl, ma_wdn] <;> omega)) only [↓reduceIte, evK, evL, evS, evA, evJ, Option.bind_some, Option.toList, List.cons_append, List.nil_append, nI_add, pk_mul, bI0, ite_not, ev_rbb, up_n, up_s, up_u, pk_us, pk_un, Nat.reduceAdd, nI_ltT, nI_ltF, nI_leT, nI_leF, nI_eqT, nI_eqF, bk_MO_readLaw, gfC, gfM, ev_r0, ev_r1, eq_self, n_m1e, true_and, and_true, false_and, and_false, and_self, not_true_eq_false, not_false_eq_true, ce_MO_isLineWord, a1]
      | inl x =>
        obtain ⟨l, j⟩ := x
        obtain ⟨g1, g2, g3, g4⟩ := h1 l j rfl
        have hlen : (ls ++ [l]).length = ls.length + 1 := by rw [List.length_append]; rfl
        obtain ⟨R, f1, f2, f3⟩ := ih (N - j) (by omega) j (ls ++ [l]) (by omega) g3 g4 (fun y hy => by
          rcases List.mem_append.mp hy with hy | hy
          · exact hok y hy
          · rw [List.mem_singleton.mp hy]; exact g1) (by omega)
        rw [hlen] at f2 f3
        have cls : ∀ e c, 23 ≤ e → cA N T i (lAcc ls) c → lnC ls c → ∃ c', (∀ m1, ev sc e 73 (pm_blk 73 9) [some (.ref 84), some (.int (nI ls.length))] [] (hp c w m1) = ev sc e 73 (pm_blk 73 9) [some (.ref 84), some (.int (nI (ls.length + 1)))] [] (hp c' w m1)) ∧ cLF c c' ∧ cA N T j (lAcc (ls ++ [l])) c' ∧ lnC (ls ++ [l]) c' := by
          intro e c he hc hln
          obtain ⟨d, rfl⟩ : ∃ d, e = d + 1 := ⟨e - 1, by omega⟩
          obtain ⟨c2, q1, q2, q3⟩ := h2 d c (by omega) hc hln
          refine ⟨c2, fun m1 => ?_, q2, q3⟩
          have a1 := fun d m => t_now (sc := sc) (w := w) (m := m) d hT hc.1 hc.2.1 hi
          conv => lhs; rw [bh_Reader_readLaw_9]
          simp (disch := first | assumption | omega | decide | (simp only [ma_wd0, ma_wdi, ma_wdr, ma_wdl, ma_wdn] <;> omega)) only [↓reduceIte, evK, evL, evS, evA, evJ, Option.bind_some, Option.toList, List.cons_append, List.nil_append, nI_add, pk_mul, bI0, ite_not, ev_rbb, up_n, up_s, up_u, pk_us, pk_un, Nat.reduceAdd, nI_ltT, nI_ltF, nI_leT, nI_leF, nI_eqT, nI_eqF, bk_Reader_readLaw, gfC, gfM, ev_r0, ev_r1, eq_self, n_m1e, true_and, and_true, false_and, and_false, and_self, not_true_eq_false, not_false_eq_true, ce_Tokens_now, a1, ce_Reader_readLawLine, q1, lRB]
        have mod : ∀ (x2 : Option Value) (m : Nat → Nat → Int32), xK m0 m → mA N T i (lAcc ls) m → lnM ls m → m 138 31 = nI 0 → ∃ x2' m', (∀ c0, ev sc (d' + 9) 194 (pm_blk 194 2) [some (.ref 138), some (.int (nI ls.length)), x2] [] (hp c0 w m) = ev sc (d' + 9) 194 (pm_blk 194 2) [some (.ref 138), some (.int (nI (ls.length + 1))), x2'] [] (hp c0 w m')) ∧ mLF m m' ∧ mA N T j (lAcc (ls ++ [l])) m' ∧ lnM (ls ++ [l]) m' ∧ m' 138 31 = nI 0 := by
          intro x2 m hx hA hln h31
          obtain ⟨x2', m2, q1, q2, q3⟩ := h3 x2 m hx hA hln h31
          have a1 := fun d c => t_isLineWord (sc := sc) (w := w) d i _ c m hA k1
          rw [bI_t z1] at a1
          refine ⟨x2', m2, fun c0 => ?_, q2, q3⟩
          rw [← q1 c0]
          conv => lhs; rw [bh_MO_readLaw_2]
          simp (disch := first | assumption | omega | decide | (simp only [ma_wd0, ma_wdi, ma_wdr, ma_wdl, ma_wdn] <;> omega)) only [↓reduceIte, evK, evL, evS, evA, evJ, Option.bind_some, Option.toList, List.cons_append, List.nil_append, nI_add, pk_mul, bI0, ite_not, ev_rbb, up_n, up_s, up_u, pk_us, pk_un, Nat.reduceAdd, nI_ltT, nI_ltF, nI_leT, nI_leF, nI_eqT, nI_eqF, bk_MO_readLaw, gfC, gfM, ev_r0, ev_r1, eq_self, n_m1e, true_and, and_true, false_and, and_false, and_self, not_true_eq_false, not_false_eq_true, ce_MO_isLineWord, a1]
        cases R with
        | inr x =>
          refine ⟨.inr x, f1, fun e c he hc hln => ?_, fun x2 m hx hA hln h31 => ?_⟩
          · obtain ⟨c2, q1, q2, q3, q4⟩ := cls e c he hc hln
            obtain ⟨c3, u1, u2, u3⟩ := f2 e c2 he q3 q4
            exact ⟨c3, fun m1 => (q1 m1).trans (u1 m1), q2.tr u2, u3⟩
          · obtain ⟨x2', m2, q1, q2, q3, q4, q5⟩ := mod x2 m hx hA hln h31
            obtain ⟨m3, u1, u2, u3⟩ := f3 x2' m2 (q2.xK hx) q3 q4 q5
            exact ⟨m3, fun c0 => (q1 c0).trans (u1 c0), q2.tr u2, u3⟩
        | inl ls' =>
          refine ⟨.inl ls', f1, fun e c he hc hln => ?_, fun x2 m hx hA hln h31 => ?_⟩
          · obtain ⟨c2, q1, q2, q3, q4⟩ := cls e c he hc hln
            obtain ⟨n', i', c3, u1, u2, u3⟩ := f2 e c2 he q3 q4
            exact ⟨n', i', c3, fun m1 => (q1 m1).trans (u1 m1), q2.tr u2, u3⟩
          · obtain ⟨x2', m2, q1, q2, q3, q4, q5⟩ := mod x2 m hx hA hln h31
            obtain ⟨i', m3, u1, u2, u3⟩ := f3 x2' m2 (q2.xK hx) q3 q4 q5
            exact ⟨i', m3, fun c0 => (q1 c0).trans (u1 c0), q2.tr u2, u3⟩
  · refine ⟨.inr (1, T 1 i), ⟨by omega, by omega, k2⟩, fun e c he hc hln => ?_, fun x2 m hx hA hln h31 => ?_⟩
    · obtain ⟨d, rfl⟩ : ∃ d, e = d + 2 := ⟨e - 2, by omega⟩
      have a1 := fun d m => t_now (sc := sc) (w := w) (m := m) d hT hc.1 hc.2.1 hi
      have a3 := fun d m => t_fail (sc := sc) (w := w) (m := m) d 1 hT hc.1 hc.2.1 hi
      have a4 : (nI 256 ≤ nI (T 0 i) ∧ nI (T 0 i) ≤ nI 259) = False := by
        rcases Nat.lt_or_ge (T 0 i) 256 with z | z
        · rw [nI_leF z (by omega)]; simp
        · rw [nI_leF (a := T 0 i) (by omega) (by omega)]; simp
      refine ⟨_, fun m1 => ?_, (flC_F (T := T) (i := i) 1).l, ?_, ?_⟩
      · rw [bh_Reader_readLaw_9]
        simp (disch := first | assumption | omega | decide | (simp only [ma_wd0, ma_wdi, ma_wdr, ma_wdl, ma_wdn] <;> omega)) only [↓reduceIte, evK, evL, evS, evA, evJ, Option.bind_some, Option.toList, List.cons_append, List.nil_append, nI_add, pk_mul, bI0, ite_not, ev_rbb, up_n, up_s, up_u, pk_us, pk_un, Nat.reduceAdd, nI_ltT, nI_ltF, nI_leT, nI_leF, nI_eqT, nI_eqF, bk_Reader_readLaw, gfC, gfM, ev_r0, ev_r1, eq_self, n_m1e, true_and, and_true, false_and, and_false, and_self, not_true_eq_false, not_false_eq_true, ce_Tokens_now, a1, ce_Reader_readLawLine, en_Reader_readLawLine, bk_Reader_readLawLine, ce_LH_within, t_LH_within, a4, ce_Tokens_fail, a3]
      · unfold flC; rw [up_s, pk_un (by omega), pk_us]
      · unfold flC; rw [up_s, pk_us]
    · have a1 := fun d c => t_isLineWord (sc := sc) (w := w) d i _ c m hA k1
      have a2 := fun d c => t_errs (sc := sc) (w := w) (c := c) d 1 hA
      have eo := erM_o (N := N) (T := T) (acc := []) (m := m) (i := i) 1
      have e0 : (m 138 19 = nI 0) = False := by rw [hA.1.fin]; exact eq_false z0
      rw [bI_f z1] at a1
      refine ⟨erM T i 1 m, fun c0 => ?_, (erM_F _).g.l, eo.1, eo.2⟩
      rw [bh_MO_readLaw_2]
      simp (disch := first | assumption | omega | decide | (simp only [ma_wd0, ma_wdi, ma_wdr, ma_wdl, ma_wdn] <;> omega)) only [↓reduceIte, evK, evL, evS, evA, evJ, Option.bind_some, Option.toList, List.cons_append, List.nil_append, nI_add, pk_mul, bI0, ite_not, ev_rbb, up_n, up_s, up_u, pk_us, pk_un, Nat.reduceAdd, nI_ltT, nI_ltF, nI_leT, nI_leF, nI_eqT, nI_eqF, bk_MO_readLaw, gfC, gfM, ev_r0, ev_r1, eq_self, n_m1e, true_and, and_true, false_and, and_false, and_self, not_true_eq_false, not_false_eq_true, ce_MO_isLineWord, a1, e0, ce_MO_errs, a2]
end LZ
