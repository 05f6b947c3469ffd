/-! ===== coils, game, part, feed ===== -/
def byN (h r : Nat) : Nat := (h % 4 + 4 - (h % 4 ^^^ r)) % 4
theorem by_n : ∀ a, a < 4 → ∀ b, b < 4 → (nI a - nI b) &&& nI 3 = nI ((a + 4 - b) % 4) := by decide +kernel
def gF (r h : Nat) : Nat → Nat → Option Nat
  | 0, _ => none
  | f + 1, k => if min 3 h < k then none else if r ^^^ h % 4 ^^^ (h - k) % 4 = 0 then some k else gF r h f (k + 1)
theorem game_math : ∀ h, h < 41 → ∀ r, r < 4 → gF r h 4 1 = if r = 0 then none else if byN h r ≤ h then some (byN h r) else none := by decide +kernel
theorem and3 (k : Nat) : k &&& 3 = k % 4 := Nat.and_two_pow_sub_one_eq_mod k 2
def goF (wh r : Nat) (H : Nat → Nat) : Nat → Nat → Int32
  | 0, _ => -1
  | k + 1, i => if r = 0 then -1 else if byN (H i) r ≤ H i then (if wh = 0 then nI i else nI (byN (H i) r)) else goF wh r H k (i + 1)
theorem goF_0 (wh : Nat) (H : Nat → Nat) : ∀ k i, goF wh 0 H k i = -1
  | 0, _ => rfl
  | _ + 1, _ => if_pos rfl
theorem xor4 {a b : Nat} (ha : a < 4) (hb : b < 4) : a ^^^ b < 4 := Nat.xor_lt_two_pow (n := 2) ha hb
section P8
variable {sc : Nat × (Nat → Int32)} {W S Q : Nat} {ls : List lL} {c m Z : Nat → Nat → Int32} {w : Nat → Int64} {h : List ma_C}
theorem p_coils (d : Nat) (a b : Int32) (h : gR c m) : pub sc w (d + 20) 34 276 [.int a, .int b] c m := by
  obtain ⟨W, S, Q, ls, Z, g⟩ := h.e
  obtain ⟨t, j, -, -, -⟩ := id g
  have hw1 := t.1.2.1
  have hW := t.1.2.2.2
  have hW3 := t.1.2.2.1
  have hq0 := h.q0
  obtain ⟨t0, j0, -, -, -⟩ := g.q0
  generalize hm1 : va_up m 138 (upd (m 138) 0 (nI 0)) = m1 at t0 j0 hq0
  have hw2 := t0.2.1.2.1
  have hjk : ∀ cl, gR c (va_up m1 164 cl) := fun cl => hq0.q (fun _ _ => rfl) (fun k hk => up_n _ _ _ _ (by simp only [mE, List.mem_cons, List.not_mem_nil, or_false] at hk; omega)) (fun k hk => by rw [up_n _ _ _ _ (by omega)])
  by_cases h1 : nI 1 ≤ a ∧ a ≤ nI 200
  · have L := fun q => coil_loop (sc := sc) (w := w) (d + 19) (d + 18) a q (fun j => Z 0 (5 + j)) hW3 hW j.1.2.1 j0.2.1.2.1 hw1 hw2 W 0 0 0 0 (nI 0) (-1) (m1 164) none (by omega) (Or.inl ⟨rfl, rfl, rfl, rfl, rfl, rfl⟩)
    simp only [up_self] at L
    by_cases b0 : b = nI 0
    · subst b0
      obtain ⟨cl', L⟩ := L (-1)
      rcases L with ⟨e1, e2⟩ | ⟨n', n1, n14, e1, e2⟩
      · refine ⟨c, va_up m1 164 cl', -1, fun m0 => ?_, fun c0 => ?_, hjk _⟩
        · simp (disch := first | assumption | omega | decide | (simp only [ma_wd0, ma_wdi, ma_wdr, ma_wdl, ma_wdn] <;> omega)) only [↓reduceIte, evK, evL, evS, evA, evJ, Option.bind_some, Option.toList, List.cons_append, List.nil_append, nI_add, pk_mul, bI0, ite_not, ev_rbb, up_n, up_s, up_u, pk_us, pk_un, Nat.reduceAdd, nI_ltT, nI_ltF, nI_leT, nI_leF, nI_eqT, nI_eqF, en_LH_coils, bk_LH_coils, gfC, ce_LH_within, t_LH_within, h1, and_self, not_true_eq_false, ce_Thought_coiled, en_Thought_coiled, e1]
        · simp (disch := first | assumption | omega | decide | (simp only [ma_wd0, ma_wdi, ma_wdr, ma_wdl, ma_wdn] <;> omega)) only [↓reduceIte, evK, evL, evS, evA, evJ, Option.bind_some, Option.toList, List.cons_append, List.nil_append, nI_add, pk_mul, bI0, ite_not, ev_rbb, up_n, up_s, up_u, pk_us, pk_un, Nat.reduceAdd, nI_ltT, nI_ltF, nI_leT, nI_leF, nI_eqT, nI_eqF, en_MO_coils, bk_MO_coils, pfM, hm1, ce_MO_isIn, t_MO_isIn, h1, and_self, not_true_eq_false, ce_MO_findsCoils, en_MO_findsCoils, e2]
      · simp only [if_true] at e1
        refine ⟨c, va_up m1 164 cl', nI n', fun m0 => ?_, fun c0 => ?_, hjk _⟩
        · simp (disch := first | assumption | omega | decide | (simp only [ma_wd0, ma_wdi, ma_wdr, ma_wdl, ma_wdn] <;> omega)) only [↓reduceIte, evK, evL, evS, evA, evJ, Option.bind_some, Option.toList, List.cons_append, List.nil_append, nI_add, pk_mul, bI0, ite_not, ev_rbb, up_n, up_s, up_u, pk_us, pk_un, Nat.reduceAdd, nI_ltT, nI_ltF, nI_leT, nI_leF, nI_eqT, nI_eqF, en_LH_coils, bk_LH_coils, gfC, ce_LH_within, t_LH_within, h1, and_self, not_true_eq_false, ce_Thought_coiled, en_Thought_coiled, e1]
        · simp (disch := first | assumption | omega | decide | (simp only [ma_wd0, ma_wdi, ma_wdr, ma_wdl, ma_wdn] <;> omega)) only [↓reduceIte, evK, evL, evS, evA, evJ, Option.bind_some, Option.toList, List.cons_append, List.nil_append, nI_add, pk_mul, bI0, ite_not, ev_rbb, up_n, up_s, up_u, pk_us, pk_un, Nat.reduceAdd, nI_ltT, nI_ltF, nI_leT, nI_leF, nI_eqT, nI_eqF, en_MO_coils, bk_MO_coils, pfM, hm1, ce_MO_isIn, t_MO_isIn, h1, and_self, not_true_eq_false, ce_MO_findsCoils, en_MO_findsCoils, e2, nI_m1ne]
    by_cases b10 : b < nI 10
    · have hb1 : ∀ n', ¬ (nI 10 ≤ b ∧ b ≤ nI (9 + n')) := fun n' z => by
        simp only [Int32.lt_iff_toInt_lt, Int32.le_iff_toInt_le] at b10 z
        omega
      have hm1n : (nI 0 ≤ (-1 : Int32)) = False := eq_false (by decide +kernel)
      obtain ⟨cl', L⟩ := L (-1)
      refine ⟨c, va_up m1 164 cl', -1, fun m0 => ?_, fun c0 => ?_, hjk _⟩
      · simp (disch := first | assumption | omega | decide | (simp only [ma_wd0, ma_wdi, ma_wdr, ma_wdl, ma_wdn] <;> omega)) only [↓reduceIte, evK, evL, evS, evA, evJ, Option.bind_some, Option.toList, List.cons_append, List.nil_append, nI_add, pk_mul, bI0, ite_not, ev_rbb, up_n, up_s, up_u, pk_us, pk_un, Nat.reduceAdd, nI_ltT, nI_ltF, nI_leT, nI_leF, nI_eqT, nI_eqF, en_LH_coils, bk_LH_coils, gfC, ce_LH_within, t_LH_within, h1, and_self, not_true_eq_false, b0, ce_LH_numbered, t_LH_numbered, b10, hm1n, n_m1lt]
      · rcases L with ⟨-, e2⟩ | ⟨n', n1, n14, -, e2⟩
        · simp (disch := first | assumption | omega | decide | (simp only [ma_wd0, ma_wdi, ma_wdr, ma_wdl, ma_wdn] <;> omega)) only [↓reduceIte, evK, evL, evS, evA, evJ, Option.bind_some, Option.toList, List.cons_append, List.nil_append, nI_add, pk_mul, bI0, ite_not, ev_rbb, up_n, up_s, up_u, pk_us, pk_un, Nat.reduceAdd, nI_ltT, nI_ltF, nI_leT, nI_leF, nI_eqT, nI_eqF, en_MO_coils, bk_MO_coils, pfM, hm1, ce_MO_isIn, t_MO_isIn, h1, and_self, not_true_eq_false, ce_MO_findsCoils, en_MO_findsCoils, e2]
        · have hb := hb1 n'
          simp (disch := first | assumption | omega | decide | (simp only [ma_wd0, ma_wdi, ma_wdr, ma_wdl, ma_wdn] <;> omega)) only [↓reduceIte, evK, evL, evS, evA, evJ, Option.bind_some, Option.toList, List.cons_append, List.nil_append, nI_add, pk_mul, bI0, ite_not, ev_rbb, up_n, up_s, up_u, pk_us, pk_un, Nat.reduceAdd, nI_ltT, nI_ltF, nI_leT, nI_leF, nI_eqT, nI_eqF, en_MO_coils, bk_MO_coils, pfM, hm1, ce_MO_isIn, t_MO_isIn, h1, and_self, not_true_eq_false, ce_MO_findsCoils, en_MO_findsCoils, e2, nI_m1ne, b0, hb, not_false_eq_true]
    · obtain ⟨k, hk, rfl⟩ : ∃ k, k + 10 < 2 ^ 31 ∧ b = nI (k + 10) := by
        rw [Int32.lt_iff_toInt_lt, nI_toInt (by omega)] at b10
        have := Int32.toInt_lt b
        refine ⟨b.toInt.toNat - 10, by omega, Int32.toInt_inj.mp ?_⟩
        rw [nI_toInt (by omega)]
        omega
      have ek : nI (k + 10) - nI 10 = nI k := by rw [pk_sub (by omega)]; rfl
      obtain ⟨cl', L⟩ := L (nI k)
      rcases L with ⟨e1, e2⟩ | ⟨n', n1, n14, e1, e2⟩
      · refine ⟨c, va_up m1 164 cl', -1, fun m0 => ?_, fun c0 => ?_, hjk _⟩
        · simp (disch := first | assumption | omega | decide | (simp only [ma_wd0, ma_wdi, ma_wdr, ma_wdl, ma_wdn] <;> omega)) only [↓reduceIte, evK, evL, evS, evA, evJ, Option.bind_some, Option.toList, List.cons_append, List.nil_append, nI_add, pk_mul, bI0, ite_not, ev_rbb, up_n, up_s, up_u, pk_us, pk_un, Nat.reduceAdd, nI_ltT, nI_ltF, nI_leT, nI_leF, nI_eqT, nI_eqF, en_LH_coils, bk_LH_coils, gfC, ce_LH_within, t_LH_within, h1, and_self, not_true_eq_false, ce_LH_numbered, t_LH_numbered, ek, ce_Thought_coiled, en_Thought_coiled, e1]
        · simp (disch := first | assumption | omega | decide | (simp only [ma_wd0, ma_wdi, ma_wdr, ma_wdl, ma_wdn] <;> omega)) only [↓reduceIte, evK, evL, evS, evA, evJ, Option.bind_some, Option.toList, List.cons_append, List.nil_append, nI_add, pk_mul, bI0, ite_not, ev_rbb, up_n, up_s, up_u, pk_us, pk_un, Nat.reduceAdd, nI_ltT, nI_ltF, nI_leT, nI_leF, nI_eqT, nI_eqF, en_MO_coils, bk_MO_coils, pfM, hm1, ce_MO_isIn, t_MO_isIn, h1, and_self, not_true_eq_false, ce_MO_findsCoils, en_MO_findsCoils, e2]
      · rw [if_neg (by rw [nI_m1ne (by omega)]; exact id)] at e1
        by_cases hkn : k < n'
        · rw [askF_in (by omega) n' n14 hkn] at e1
          refine ⟨c, va_up m1 164 cl', cl' k, fun m0 => ?_, fun c0 => ?_, hjk _⟩
          · simp (disch := first | assumption | omega | decide | (simp only [ma_wd0, ma_wdi, ma_wdr, ma_wdl, ma_wdn] <;> omega)) only [↓reduceIte, evK, evL, evS, evA, evJ, Option.bind_some, Option.toList, List.cons_append, List.nil_append, nI_add, pk_mul, bI0, ite_not, ev_rbb, up_n, up_s, up_u, pk_us, pk_un, Nat.reduceAdd, nI_ltT, nI_ltF, nI_leT, nI_leF, nI_eqT, nI_eqF, en_LH_coils, bk_LH_coils, gfC, ce_LH_within, t_LH_within, h1, and_self, not_true_eq_false, ce_LH_numbered, t_LH_numbered, ek, ce_Thought_coiled, en_Thought_coiled, e1]
          · simp (disch := first | assumption | omega | decide | (simp only [ma_wd0, ma_wdi, ma_wdr, ma_wdl, ma_wdn] <;> omega)) only [↓reduceIte, evK, evL, evS, evA, evJ, Option.bind_some, Option.toList, List.cons_append, List.nil_append, nI_add, pk_mul, bI0, ite_not, ev_rbb, up_n, up_s, up_u, pk_us, pk_un, Nat.reduceAdd, nI_ltT, nI_ltF, nI_leT, nI_leF, nI_eqT, nI_eqF, en_MO_coils, bk_MO_coils, gfM, ldM, pfM, hm1, ce_MO_isIn, t_MO_isIn, h1, and_self, not_true_eq_false, ce_MO_findsCoils, en_MO_findsCoils, e2, nI_m1ne, ek]
        · rw [askF_out (by omega) n' n14 (by omega)] at e1
          refine ⟨c, va_up m1 164 cl', -1, fun m0 => ?_, fun c0 => ?_, hjk _⟩
          · simp (disch := first | assumption | omega | decide | (simp only [ma_wd0, ma_wdi, ma_wdr, ma_wdl, ma_wdn] <;> omega)) only [↓reduceIte, evK, evL, evS, evA, evJ, Option.bind_some, Option.toList, List.cons_append, List.nil_append, nI_add, pk_mul, bI0, ite_not, ev_rbb, up_n, up_s, up_u, pk_us, pk_un, Nat.reduceAdd, nI_ltT, nI_ltF, nI_leT, nI_leF, nI_eqT, nI_eqF, en_LH_coils, bk_LH_coils, gfC, ce_LH_within, t_LH_within, h1, and_self, not_true_eq_false, ce_LH_numbered, t_LH_numbered, ek, ce_Thought_coiled, en_Thought_coiled, e1]
          · simp (disch := first | assumption | omega | decide | (simp only [ma_wd0, ma_wdi, ma_wdr, ma_wdl, ma_wdn] <;> omega)) only [↓reduceIte, evK, evL, evS, evA, evJ, Option.bind_some, Option.toList, List.cons_append, List.nil_append, nI_add, pk_mul, bI0, ite_not, ev_rbb, up_n, up_s, up_u, pk_us, pk_un, Nat.reduceAdd, nI_ltT, nI_ltF, nI_leT, nI_leF, nI_eqT, nI_eqF, en_MO_coils, bk_MO_coils, gfM, ldM, pfM, hm1, ce_MO_isIn, t_MO_isIn, h1, and_self, not_true_eq_false, ce_MO_findsCoils, en_MO_findsCoils, e2, nI_m1ne, and_false, not_false_eq_true]
  · refine ⟨c, m1, -1, fun m0 => ?_, fun c0 => ?_, hq0⟩
    · simp (disch := first | assumption | omega | decide | (simp only [ma_wd0, ma_wdi, ma_wdr, ma_wdl, ma_wdn] <;> omega)) only [↓reduceIte, evK, evL, evS, evA, evJ, Option.bind_some, Option.toList, List.cons_append, List.nil_append, nI_add, pk_mul, bI0, ite_not, ev_rbb, up_n, up_s, up_u, pk_us, pk_un, Nat.reduceAdd, nI_ltT, nI_ltF, nI_leT, nI_leF, nI_eqT, nI_eqF, en_LH_coils, bk_LH_coils, gfC, ce_LH_within, t_LH_within, h1, not_false_eq_true]
    · simp (disch := first | assumption | omega | decide | (simp only [ma_wd0, ma_wdi, ma_wdr, ma_wdl, ma_wdn] <;> omega)) only [↓reduceIte, evK, evL, evS, evA, evJ, Option.bind_some, Option.toList, List.cons_append, List.nil_append, nI_add, pk_mul, bI0, ite_not, ev_rbb, up_n, up_s, up_u, pk_us, pk_un, Nat.reduceAdd, nI_ltT, nI_ltF, nI_leT, nI_leF, nI_eqT, nI_eqF, en_MO_coils, bk_MO_coils, pfM, hm1, ce_MO_isIn, t_MO_isIn, h1, not_false_eq_true]
theorem game_in (d wh r x hh : Nat) (hr : r < 4) (hh41 : hh < 41) (hwh : wh < 2) (hx : x < 14) : ∀ f k, 1 ≤ k → k + f = 5 → (∃ y, gF r hh f k = none ∧ ∀ c, ev sc (d + 1) 285 (pm_blk 285 65) [some (.ref 138), some (.int (nI wh)), some (.int (nI r)), some (.int (nI x)), some (.int (nI hh)), some (.int (nI k))] [] (hp c w m) = ev sc (d + 1) 285 (pm_blk 285 47) [some (.ref 138), some (.int (nI wh)), some (.int (nI r)), some (.int (nI (x + 1))), some (.int (nI hh)), some (.int (nI y))] [] (hp c w m)) ∨ (∃ y, gF r hh f k = some y ∧ ∀ c, ev sc (d + 1) 285 (pm_blk 285 65) [some (.ref 138), some (.int (nI wh)), some (.int (nI r)), some (.int (nI x)), some (.int (nI hh)), some (.int (nI k))] [] (hp c w m) = some (some (.int (if wh = 0 then nI x else nI y)), hp c w m))
  | 0, k, h1, hk => by
    refine Or.inl ⟨k, rfl, fun c => ?_⟩
    conv => lhs; rw [bh_MO_game_65]
    simp (disch := first | assumption | omega | decide | (simp only [ma_wd0, ma_wdi, ma_wdr, ma_wdl, ma_wdn] <;> omega)) only [↓reduceIte, evK, evL, evS, evA, evJ, Option.bind_some, Option.toList, List.cons_append, List.nil_append, nI_add, pk_mul, bI0, ite_not, ev_rbb, up_n, up_s, up_u, pk_us, pk_un, Nat.reduceAdd, nI_ltT, nI_ltF, nI_leT, nI_leF, nI_eqT, nI_eqF, bk_MO_game, ce_MO_lesser, t_MO_lesser, iMn_n]
  | f + 1, k, h1, hk => by
    by_cases z0 : min 3 hh < k
    · refine Or.inl ⟨k, if_pos z0, fun c => ?_⟩
      conv => lhs; rw [bh_MO_game_65]
      simp (disch := first | assumption | omega | decide | (simp only [ma_wd0, ma_wdi, ma_wdr, ma_wdl, ma_wdn] <;> omega)) only [↓reduceIte, evK, evL, evS, evA, evJ, Option.bind_some, Option.toList, List.cons_append, List.nil_append, nI_add, pk_mul, bI0, ite_not, ev_rbb, up_n, up_s, up_u, pk_us, pk_un, Nat.reduceAdd, nI_ltT, nI_ltF, nI_leT, nI_leF, nI_eqT, nI_eqF, bk_MO_game, ce_MO_lesser, t_MO_lesser, iMn_n]
    · have hxl : r ^^^ hh % 4 ^^^ (hh - k) % 4 < 2 ^ 31 := Nat.lt_of_lt_of_le (xor4 (xor4 hr (Nat.mod_lt _ (by omega))) (Nat.mod_lt _ (by omega))) (by decide)
      by_cases z : r ^^^ hh % 4 ^^^ (hh - k) % 4 = 0
      · refine Or.inr ⟨k, by simp only [gF]; rw [if_neg z0, if_pos z], fun c => ?_⟩
        conv => lhs; rw [bh_MO_game_65]
        rcases (show wh = 0 ∨ wh = 1 by omega) with rfl | rfl
        · simp (disch := first | assumption | omega | decide | (simp only [ma_wd0, ma_wdi, ma_wdr, ma_wdl, ma_wdn] <;> omega)) only [↓reduceIte, evK, evL, evS, evA, evJ, Option.bind_some, Option.toList, List.cons_append, List.nil_append, nI_add, pk_mul, bI0, ite_not, ev_rbb, up_n, up_s, up_u, pk_us, pk_un, Nat.reduceAdd, nI_ltT, nI_ltF, nI_leT, nI_leF, nI_eqT, nI_eqF, bk_MO_game, ce_MO_lesser, t_MO_lesser, iMn_n, iRem_nI, pk_sub, n_xor, z]
        · simp (disch := first | assumption | omega | decide | (simp only [ma_wd0, ma_wdi, ma_wdr, ma_wdl, ma_wdn] <;> omega)) only [↓reduceIte, evK, evL, evS, evA, evJ, Option.bind_some, Option.toList, List.cons_append, List.nil_append, nI_add, pk_mul, bI0, ite_not, ev_rbb, up_n, up_s, up_u, pk_us, pk_un, Nat.reduceAdd, nI_ltT, nI_ltF, nI_leT, nI_leF, nI_eqT, nI_eqF, bk_MO_game, ce_MO_lesser, t_MO_lesser, iMn_n, iRem_nI, pk_sub, n_xor, z]
          rfl
      · have e : gF r hh (f + 1) k = gF r hh f (k + 1) := by simp only [gF]; rw [if_neg z0, if_neg z]
        have e2 : ∀ c, ev sc (d + 1) 285 (pm_blk 285 65) [some (.ref 138), some (.int (nI wh)), some (.int (nI r)), some (.int (nI x)), some (.int (nI hh)), some (.int (nI k))] [] (hp c w m) = ev sc (d + 1) 285 (pm_blk 285 65) [some (.ref 138), some (.int (nI wh)), some (.int (nI r)), some (.int (nI x)), some (.int (nI hh)), some (.int (nI (k + 1)))] [] (hp c w m) := by
          intro c
          conv => lhs; rw [bh_MO_game_65]
          simp (disch := first | assumption | omega | decide | (simp only [ma_wd0, ma_wdi, ma_wdr, ma_wdl, ma_wdn] <;> omega)) only [↓reduceIte, evK, evL, evS, evA, evJ, Option.bind_some, Option.toList, List.cons_append, List.nil_append, nI_add, pk_mul, bI0, ite_not, ev_rbb, up_n, up_s, up_u, pk_us, pk_un, Nat.reduceAdd, nI_ltT, nI_ltF, nI_leT, nI_leF, nI_eqT, nI_eqF, bk_MO_game, ce_MO_lesser, t_MO_lesser, iMn_n, iRem_nI, pk_sub, n_xor]
        simp only [e, e2]
        exact game_in d wh r x hh hr hh41 hwh hx f (k + 1) (by omega) (by omega)
theorem game_loop (d d' wh r : Nat) (H : Nat → Nat) (hr : r < 4) (hwh : wh < 2) (hW : W ≤ 14) (hH : ∀ j, j < 14 → H j < 41) (h1 : ∀ j, j < 14 → c 18 j = nI (H j)) (h2 : ∀ j, j < 14 → m 139 (5 + j) + nI 10 = nI (H j)) (hw1 : c 1 0 = nI W) (hw2 : m 138 6 + nI 10 = nI W) : ∀ (k i : Nat) (x4 x5 y4 y5 : Option Value), i + k = W →
    (∀ m0, ev sc d 119 (pm_blk 119 37) [some (.ref 103), some (.int (nI wh)), some (.int (nI r)), some (.int (nI i)), x4, x5] [] (hp c w m0) = some (some (.int (goF wh r H k i)), hp c w m0)) ∧ (∀ c0, ev sc (d' + 1) 285 (pm_blk 285 47) [some (.ref 138), some (.int (nI wh)), some (.int (nI r)), some (.int (nI i)), y4, y5] [] (hp c0 w m) = some (some (.int (goF wh r H k i)), hp c0 w m))
  | 0, i, x4, x5, y4, y5, hi => by
    constructor
    · intro m0
      rw [bh_Thought_goodMove_37]
      simp (disch := first | assumption | omega | decide | (simp only [ma_wd0, ma_wdi, ma_wdr, ma_wdl, ma_wdn] <;> omega)) only [↓reduceIte, evK, evL, evS, evA, evJ, Option.bind_some, Option.toList, List.cons_append, List.nil_append, nI_add, pk_mul, bI0, ite_not, ev_rbb, up_n, up_s, up_u, pk_us, pk_un, Nat.reduceAdd, nI_ltT, nI_ltF, nI_leT, nI_leF, nI_eqT, nI_eqF, bk_Thought_goodMove, gfC, hw1, goF]
    · intro c0
      rw [bh_MO_game_47]
      simp (disch := first | assumption | omega | decide | (simp only [ma_wd0, ma_wdi, ma_wdr, ma_wdl, ma_wdn] <;> omega)) only [↓reduceIte, evK, evL, evS, evA, evJ, Option.bind_some, Option.toList, List.cons_append, List.nil_append, nI_add, pk_mul, bI0, ite_not, ev_rbb, up_n, up_s, up_u, pk_us, pk_un, Nat.reduceAdd, nI_ltT, nI_ltF, nI_leT, nI_leF, nI_eqT, nI_eqF, bk_MO_game, ce_MO_wide, t_MO_wide, hw2, goF]
  | k + 1, i, x4, x5, y4, y5, hi => by
    have z1 := h1 i (by omega)
    have z2 := h2 i (by omega)
    have hHi := hH i (by omega)
    have gm := game_math (H i) hHi r hr
    have hx4 := xor4 (Nat.mod_lt (H i) (show 4 > 0 by omega)) hr
    have b1 := by_n (H i % 4) (Nat.mod_lt _ (by omega)) (H i % 4 ^^^ r) hx4
    rw [show (H i % 4 + 4 - (H i % 4 ^^^ r)) % 4 = byN (H i) r from rfl] at b1
    have hby : byN (H i) r < 4 := Nat.mod_lt _ (by omega)
    have ih := fun a b a' b' => game_loop d d' wh r H hr hwh hW hH h1 h2 hw1 hw2 k (i + 1) a b a' b' (by omega)
    constructor
    · intro m0
      rw [bh_Thought_goodMove_37]
      by_cases r0 : r = 0
      · subst r0
        simp (disch := first | assumption | omega | decide | (simp only [ma_wd0, ma_wdi, ma_wdr, ma_wdl, ma_wdn] <;> omega)) only [↓reduceIte, evK, evL, evS, evA, evJ, Option.bind_some, Option.toList, List.cons_append, List.nil_append, nI_add, pk_mul, bI0, ite_not, ev_rbb, up_n, up_s, up_u, pk_us, pk_un, Nat.reduceAdd, nI_ltT, nI_ltF, nI_leT, nI_leF, nI_eqT, nI_eqF, bk_Thought_goodMove, gfC, hw1, goF]
      · by_cases hb : byN (H i) r ≤ H i
        · rcases (show wh = 0 ∨ wh = 1 by omega) with rfl | rfl
          · simp (disch := first | assumption | omega | decide | (simp only [ma_wd0, ma_wdi, ma_wdr, ma_wdl, ma_wdn] <;> omega)) only [↓reduceIte, evK, evL, evS, evA, evJ, Option.bind_some, Option.toList, List.cons_append, List.nil_append, nI_add, pk_mul, bI0, ite_not, ev_rbb, up_n, up_s, up_u, pk_us, pk_un, Nat.reduceAdd, nI_ltT, nI_ltF, nI_leT, nI_leF, nI_eqT, nI_eqF, bk_Thought_goodMove, gfC, ldC, hw1, goF, r0, z1, n_and, and3, n_xor, b1, hb]
          · simp (disch := first | assumption | omega | decide | (simp only [ma_wd0, ma_wdi, ma_wdr, ma_wdl, ma_wdn] <;> omega)) only [↓reduceIte, evK, evL, evS, evA, evJ, Option.bind_some, Option.toList, List.cons_append, List.nil_append, nI_add, pk_mul, bI0, ite_not, ev_rbb, up_n, up_s, up_u, pk_us, pk_un, Nat.reduceAdd, nI_ltT, nI_ltF, nI_leT, nI_leF, nI_eqT, nI_eqF, bk_Thought_goodMove, gfC, ldC, hw1, goF, r0, z1, n_and, and3, n_xor, b1, hb]
            rfl
        · have ih' := fun a b => (ih a b none none).1
          simp (disch := first | assumption | omega | decide | (simp only [ma_wd0, ma_wdi, ma_wdr, ma_wdl, ma_wdn] <;> omega)) only [↓reduceIte, evK, evL, evS, evA, evJ, Option.bind_some, Option.toList, List.cons_append, List.nil_append, nI_add, pk_mul, bI0, ite_not, ev_rbb, up_n, up_s, up_u, pk_us, pk_un, Nat.reduceAdd, nI_ltT, nI_ltF, nI_leT, nI_leF, nI_eqT, nI_eqF, bk_Thought_goodMove, gfC, ldC, hw1, goF, r0, z1, n_and, and3, n_xor, b1, hb, ih']
    · intro c0
      rw [bh_MO_game_47]
      have G := game_in (sc := sc) (m := m) (w := w) d' wh r i (H i) hr hHi hwh (by omega) 4 1 (by omega) (by omega)
      rw [gm] at G
      by_cases r0 : r = 0
      · subst r0
        rw [if_pos rfl] at G
        rcases G with ⟨y, -, G⟩ | ⟨y, G, -⟩
        · have ih' := fun a b => (ih none none a b).2
          rw [goF_0] at ih'
          simp (disch := first | assumption | omega | decide | (simp only [ma_wd0, ma_wdi, ma_wdr, ma_wdl, ma_wdn] <;> omega)) only [↓reduceIte, evK, evL, evS, evA, evJ, Option.bind_some, Option.toList, List.cons_append, List.nil_append, nI_add, pk_mul, bI0, ite_not, ev_rbb, up_n, up_s, up_u, pk_us, pk_un, Nat.reduceAdd, nI_ltT, nI_ltF, nI_leT, nI_leF, nI_eqT, nI_eqF, bk_MO_game, ce_MO_wide, t_MO_wide, hw2, ce_MO_heightOf, t_MO_heightOf, z2, G, ih', goF]
        · cases G
      · rw [if_neg r0] at G
        by_cases hb : byN (H i) r ≤ H i
        · rw [if_pos hb] at G
          rcases G with ⟨y, G, -⟩ | ⟨y, G1, G⟩
          · cases G
          · cases G1
            simp (disch := first | assumption | omega | decide | (simp only [ma_wd0, ma_wdi, ma_wdr, ma_wdl, ma_wdn] <;> omega)) only [↓reduceIte, evK, evL, evS, evA, evJ, Option.bind_some, Option.toList, List.cons_append, List.nil_append, nI_add, pk_mul, bI0, ite_not, ev_rbb, up_n, up_s, up_u, pk_us, pk_un, Nat.reduceAdd, nI_ltT, nI_ltF, nI_leT, nI_leF, nI_eqT, nI_eqF, bk_MO_game, ce_MO_wide, t_MO_wide, hw2, ce_MO_heightOf, t_MO_heightOf, z2, G, goF, r0, hb]
        · rw [if_neg hb] at G
          rcases G with ⟨y, -, G⟩ | ⟨y, G1, G⟩
          · have ih' := fun a b => (ih none none a b).2
            simp (disch := first | assumption | omega | decide | (simp only [ma_wd0, ma_wdi, ma_wdr, ma_wdl, ma_wdn] <;> omega)) only [↓reduceIte, evK, evL, evS, evA, evJ, Option.bind_some, Option.toList, List.cons_append, List.nil_append, nI_add, pk_mul, bI0, ite_not, ev_rbb, up_n, up_s, up_u, pk_us, pk_un, Nat.reduceAdd, nI_ltT, nI_ltF, nI_leT, nI_leF, nI_eqT, nI_eqF, bk_MO_game, ce_MO_wide, t_MO_wide, hw2, ce_MO_heightOf, t_MO_heightOf, z2, G, ih', goF, r0, hb]
          · cases G1
theorem p_game (d : Nat) (a : Int32) (h : gR c m) : pub sc w (d + 20) 38 285 [.int a] c m := by
  obtain ⟨W, S, Q, ls, Z, g⟩ := h.e
  obtain ⟨t, j, -, -, -⟩ := id g
  have hw1 := t.1.2.1
  have hW := t.1.2.2.2
  have hq0 := h.q0
  obtain ⟨t0, j0, -, -, -⟩ := g.q0
  generalize hm1 : va_up m 138 (upd (m 138) 0 (nI 0)) = m1 at t0 j0 hq0
  have hw2 := t0.2.1.2.1
  have hZ : ∀ j, j < 14 → nK (Z 0 (5 + j)) < 41 ∧ Z 0 (5 + j) = nI (nK (Z 0 (5 + j))) := fun k hk => by
    obtain ⟨v, hv, e⟩ := nI_ex (n := 40) (j.2.2.1.1 k hk)
    rw [e, nK_nI (by omega)]
    exact ⟨by omega, rfl⟩
  have e1 : ∀ k, k < 14 → c 18 k = nI (nK (Z 0 (5 + k))) := fun k hk => (j.1.2.1 k hk).trans (hZ k hk).2
  have e2 : ∀ k, k < 14 → m1 139 (5 + k) + nI 10 = nI (nK (Z 0 (5 + k))) := fun k hk => (j0.2.1.2.1 k hk).trans (hZ k hk).2
  by_cases h1 : nI 0 ≤ a ∧ a ≤ nI 1
  · obtain ⟨wh, -, hwh, rfl⟩ := rng (by omega) h1.1 h1.2 (by omega)
    obtain ⟨x, y, c3, m3, f1, f2, rfl, hx, rfl, rfl⟩ := sim_loop (w := w) W (fun i (s : Nat) h => ev sc (d + 19) 119 (pm_blk 119 4) [some (.ref 103), some (.int (nI wh)), some (.int (nI s)), some (.int (nI i)), none, none] [] h)
        (fun i (s : Nat) h => ev sc (d + 20) 285 (pm_blk 285 21) [some (.ref 138), some (.int (nI wh)), some (.int (nI s)), some (.int (nI i)), none, none] [] h)
        (fun i s t c' m' => s = t ∧ s < 4 ∧ c = c' ∧ m1 = m') (by
          rintro i s t c3 m3 hi ⟨rfl, hs, rfl, rfl⟩
          have z1 := e1 i (by omega)
          have z2 := e2 i (by omega)
          have hk := (hZ i (by omega)).1
          refine ⟨s ^^^ nK (Z 0 (5 + i)) % 4, s ^^^ nK (Z 0 (5 + i)) % 4, c, m1, fun m0 => ?_, fun c0 => ?_, rfl, xor4 hs (Nat.mod_lt _ (by omega)), rfl, rfl⟩
          · conv => lhs; rw [bh_Thought_goodMove_4]
            simp (disch := first | assumption | omega | decide | (simp only [ma_wd0, ma_wdi, ma_wdr, ma_wdl, ma_wdn] <;> omega)) only [↓reduceIte, evK, evL, evS, evA, evJ, Option.bind_some, Option.toList, List.cons_append, List.nil_append, nI_add, pk_mul, bI0, ite_not, ev_rbb, up_n, up_s, up_u, pk_us, pk_un, Nat.reduceAdd, nI_ltT, nI_ltF, nI_leT, nI_leF, nI_eqT, nI_eqF, bk_Thought_goodMove, gfC, ldC, hw1, z1, n_and, and3, n_xor]
          · conv => lhs; rw [bh_MO_game_21]
            simp (disch := first | assumption | omega | decide | (simp only [ma_wd0, ma_wdi, ma_wdr, ma_wdl, ma_wdn] <;> omega)) only [↓reduceIte, evK, evL, evS, evA, evJ, Option.bind_some, Option.toList, List.cons_append, List.nil_append, nI_add, pk_mul, bI0, ite_not, ev_rbb, up_n, up_s, up_u, pk_us, pk_un, Nat.reduceAdd, nI_ltT, nI_ltF, nI_leT, nI_leF, nI_eqT, nI_eqF, bk_MO_game, ce_MO_wide, t_MO_wide, hw2, ce_MO_heightOf, t_MO_heightOf, z2, iRem_nI, n_xor]) W 0 0 0 c m1 (by omega) ⟨rfl, by omega, rfl, rfl⟩
    obtain ⟨G1, G2⟩ := game_loop (sc := sc) (w := w) (d + 19) (d + 19) wh x (fun k => nK (Z 0 (5 + k))) hx (by omega) hW (fun k hk => (hZ k hk).1) e1 e2 hw1 hw2 W 0 none none none none (by omega)
    refine ⟨c, m1, goF wh x (fun k => nK (Z 0 (5 + k))) W 0, fun m0 => ?_, fun c0 => ?_, hq0⟩
    · simp (disch := first | assumption | omega | decide | (simp only [ma_wd0, ma_wdi, ma_wdr, ma_wdl, ma_wdn] <;> omega)) only [↓reduceIte, evK, evL, evS, evA, evJ, Option.bind_some, Option.toList, List.cons_append, List.nil_append, nI_add, pk_mul, bI0, ite_not, ev_rbb, up_n, up_s, up_u, pk_us, pk_un, Nat.reduceAdd, nI_ltT, nI_ltF, nI_leT, nI_leF, nI_eqT, nI_eqF, en_LH_game, bk_LH_game, gfC, ce_LH_within, t_LH_within, h1, and_self, not_true_eq_false, ce_Thought_goodMove, en_Thought_goodMove, f1]
      rw [bh_Thought_goodMove_4]
      simp (disch := first | assumption | omega | decide | (simp only [ma_wd0, ma_wdi, ma_wdr, ma_wdl, ma_wdn] <;> omega)) only [↓reduceIte, evK, evL, evS, evA, evJ, Option.bind_some, Option.toList, List.cons_append, List.nil_append, nI_add, pk_mul, bI0, ite_not, ev_rbb, up_n, up_s, up_u, pk_us, pk_un, Nat.reduceAdd, nI_ltT, nI_ltF, nI_leT, nI_leF, nI_eqT, nI_eqF, bk_Thought_goodMove, gfC, hw1, G1]
    · simp (disch := first | assumption | omega | decide | (simp only [ma_wd0, ma_wdi, ma_wdr, ma_wdl, ma_wdn] <;> omega)) only [↓reduceIte, evK, evL, evS, evA, evJ, Option.bind_some, Option.toList, List.cons_append, List.nil_append, nI_add, pk_mul, bI0, ite_not, ev_rbb, up_n, up_s, up_u, pk_us, pk_un, Nat.reduceAdd, nI_ltT, nI_ltF, nI_leT, nI_leF, nI_eqT, nI_eqF, en_MO_game, bk_MO_game, pfM, hm1, ce_MO_isIn, t_MO_isIn, h1, and_self, not_true_eq_false, f2]
      rw [bh_MO_game_21]
      simp (disch := first | assumption | omega | decide | (simp only [ma_wd0, ma_wdi, ma_wdr, ma_wdl, ma_wdn] <;> omega)) only [↓reduceIte, evK, evL, evS, evA, evJ, Option.bind_some, Option.toList, List.cons_append, List.nil_append, nI_add, pk_mul, bI0, ite_not, ev_rbb, up_n, up_s, up_u, pk_us, pk_un, Nat.reduceAdd, nI_ltT, nI_ltF, nI_leT, nI_leF, nI_eqT, nI_eqF, bk_MO_game, ce_MO_wide, t_MO_wide, hw2, G2]
  · refine ⟨c, m1, -1, fun m0 => ?_, fun c0 => ?_, hq0⟩
    · simp (disch := first | assumption | omega | decide | (simp only [ma_wd0, ma_wdi, ma_wdr, ma_wdl, ma_wdn] <;> omega)) only [↓reduceIte, evK, evL, evS, evA, evJ, Option.bind_some, Option.toList, List.cons_append, List.nil_append, nI_add, pk_mul, bI0, ite_not, ev_rbb, up_n, up_s, up_u, pk_us, pk_un, Nat.reduceAdd, nI_ltT, nI_ltF, nI_leT, nI_leF, nI_eqT, nI_eqF, en_LH_game, bk_LH_game, gfC, ce_LH_within, t_LH_within, h1, not_false_eq_true]
    · simp (disch := first | assumption | omega | decide | (simp only [ma_wd0, ma_wdi, ma_wdr, ma_wdl, ma_wdn] <;> omega)) only [↓reduceIte, evK, evL, evS, evA, evJ, Option.bind_some, Option.toList, List.cons_append, List.nil_append, nI_add, pk_mul, bI0, ite_not, ev_rbb, up_n, up_s, up_u, pk_us, pk_un, Nat.reduceAdd, nI_ltT, nI_ltF, nI_leT, nI_leF, nI_eqT, nI_eqF, en_MO_game, bk_MO_game, pfM, hm1, ce_MO_isIn, t_MO_isIn, h1, not_false_eq_true]
end P8
