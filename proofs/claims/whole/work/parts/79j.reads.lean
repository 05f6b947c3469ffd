/-! ===== text: tokens are cut, in the reference ===== -/
def tpM (n : Nat) (b : Nat → Nat) (m : Nat → Nat → Int32) : Prop := m 138 16 = nI n ∧ n ≤ 400 ∧ (∀ j, j < n → b j < 256 ∧ m 146 j = nI (b j)) ∧ ∀ j, j < 120 → m 147 j = nI (wdN.getD j 0)
def rwV (n : Nat) (b : Nat → Nat) (x : Nat) : Int32 := if x < n then nI (b x) else -1
theorem upd_sf {f : Nat → Int32} {k : Nat} {v : Int32} (h : f k = v) : upd f k v = f := by
  funext j
  unfold upd
  split
  next e => rw [e, h]
  next => rfl
def mRF (m m' : Nat → Nat → Int32) : Prop := (∀ k, k ≠ 138 → m' k = m k) ∧ ∀ j, j ∉ [17, 18, 19, 20] → m' 138 j = m 138 j
theorem mRF.tr {a b c : Nat → Nat → Int32} (h : mRF a b) (g : mRF b c) : mRF a c := ⟨fun k x => (g.1 k x).trans (h.1 k x), fun j x => (g.2 j x).trans (h.2 j x)⟩
theorem mRF.tp {n : Nat} {b : Nat → Nat} {m m' : Nat → Nat → Int32} (h : mRF m m') (t : tpM n b m) : tpM n b m' := by
  unfold tpM at *
  rw [h.2 16 (by decide), h.1 146 (by omega), h.1 147 (by omega)]
  exact t
theorem mem17 {j : Nat} (h : j ∉ [17, 18, 19, 20]) : j ≠ 17 ∧ j ≠ 18 ∧ j ≠ 19 ∧ j ≠ 20 := by
  simp only [List.mem_cons, List.not_mem_nil, or_false, not_or] at h
  exact h
theorem mRF.u {m : Nat → Nat → Int32} {f : Nat → Int32} (h : ∀ j, j ≠ 17 → j ≠ 18 → j ≠ 19 → j ≠ 20 → f j = m 138 j) : mRF m (va_up m 138 f) := ⟨fun k a => up_n _ _ _ _ a, fun j a => by
  have := mem17 a
  rw [up_s]
  exact h j this.1 this.2.1 this.2.2.1 this.2.2.2⟩
section RE
variable {sc : Nat × (Nat → Int32)} {c : Nat → Nat → Int32} {w : Nat → Int64} {n : Nat} {b : Nat → Nat}
theorem t_raw (d x : Nat) (m : Nat → Nat → Int32) (ht : tpM n b m) (hx : x ≤ 400) : cc sc d 179 [.ref 138, .int (nI x)] (hp c w m) = some (some (.int (rwV n b x)), hp c w m) := by
  have h1 := ht.1
  have hn := ht.2.1
  unfold rwV
  by_cases z : x < n
  · have hb := (ht.2.2.1 x z).2
    rw [if_pos z]
    simp (disch := first | assumption | omega | decide | (simp only [ma_wd0, ma_wdi, ma_wdr, ma_wdl, ma_wdn] <;> omega)) only [↓reduceIte, evK, evL, evS, evA, evJ, Option.bind_some, Option.toList, List.cons_append, List.nil_append, nI_add, pk_mul, bI0, ite_not, ev_rbb, up_n, up_s, up_u, pk_us, pk_un, Nat.reduceAdd, nI_ltT, nI_ltF, nI_leT, nI_leF, nI_eqT, nI_eqF, en_MO_raw, bk_MO_raw, gfC, gfM, ev_r0, ev_r1, eq_self, n_m1e, true_and, and_true, false_and, and_false, and_self, not_true_eq_false, not_false_eq_true, h1, ldM, hb]
  · rw [if_neg z]
    simp (disch := first | assumption | omega | decide | (simp only [ma_wd0, ma_wdi, ma_wdr, ma_wdl, ma_wdn] <;> omega)) only [↓reduceIte, evK, evL, evS, evA, evJ, Option.bind_some, Option.toList, List.cons_append, List.nil_append, nI_add, pk_mul, bI0, ite_not, ev_rbb, up_n, up_s, up_u, pk_us, pk_un, Nat.reduceAdd, nI_ltT, nI_ltF, nI_leT, nI_leF, nI_eqT, nI_eqF, en_MO_raw, bk_MO_raw, gfC, gfM, ev_r0, ev_r1, eq_self, n_m1e, true_and, and_true, false_and, and_false, and_self, not_true_eq_false, not_false_eq_true, h1]
theorem bI_d (p : Prop) [Decidable p] : bI p = if p then nI 1 else nI 0 := rfl
theorem rwV_m : (nI 97 ≤ (-1 : Int32)) = False ∧ (nI 65 ≤ (-1 : Int32)) = False ∧ (nI 48 ≤ (-1 : Int32)) = False := ⟨eq_false (by decide +kernel), eq_false (by decide +kernel), eq_false (by decide +kernel)⟩
theorem t_mLet (d x : Nat) (m : Nat → Nat → Int32) (hx : x < 256) : cc sc (d + 1) 180 [.ref 138, .int (nI x)] (hp c w m) = some (some (.int (bI (isLt x))), hp c w m) := by
  by_cases z1 : 97 ≤ x ∧ x ≤ 122
  · rw [bI_t (Or.inl z1)]
    simp (disch := first | assumption | omega | decide | (simp only [ma_wd0, ma_wdi, ma_wdr, ma_wdl, ma_wdn] <;> omega)) only [↓reduceIte, evK, evL, evS, evA, evJ, Option.bind_some, Option.toList, List.cons_append, List.nil_append, nI_add, pk_mul, bI0, ite_not, ev_rbb, up_n, up_s, up_u, pk_us, pk_un, Nat.reduceAdd, nI_ltT, nI_ltF, nI_leT, nI_leF, nI_eqT, nI_eqF, en_MO_isLetter, bk_MO_isLetter, gfC, gfM, ev_r0, ev_r1, eq_self, n_m1e, true_and, and_true, false_and, and_false, and_self, not_true_eq_false, not_false_eq_true, ce_MO_isIn, t_MO_isIn]
  · have e1 : (nI 97 ≤ nI x ∧ nI x ≤ nI 122) = False := by
      rcases Nat.lt_or_ge x 97 with y | y
      · rw [nI_leF y (by omega)]; simp
      · rw [nI_leF (a := x) (by omega) (by omega)]; simp
    by_cases z2 : 65 ≤ x ∧ x ≤ 90
    · rw [bI_t (Or.inr z2)]
      simp (disch := first | assumption | omega | decide | (simp only [ma_wd0, ma_wdi, ma_wdr, ma_wdl, ma_wdn] <;> omega)) only [↓reduceIte, evK, evL, evS, evA, evJ, Option.bind_some, Option.toList, List.cons_append, List.nil_append, nI_add, pk_mul, bI0, ite_not, ev_rbb, up_n, up_s, up_u, pk_us, pk_un, Nat.reduceAdd, nI_ltT, nI_ltF, nI_leT, nI_leF, nI_eqT, nI_eqF, en_MO_isLetter, bk_MO_isLetter, gfC, gfM, ev_r0, ev_r1, eq_self, n_m1e, true_and, and_true, false_and, and_false, and_self, not_true_eq_false, not_false_eq_true, ce_MO_isIn, t_MO_isIn, e1]
    · rw [bI_f (by unfold isLt; omega)]
      have e2 : (nI 65 ≤ nI x ∧ nI x ≤ nI 90) = False := by
        rcases Nat.lt_or_ge x 65 with y | y
        · rw [nI_leF y (by omega)]; simp
        · rw [nI_leF (a := x) (by omega) (by omega)]; simp
      simp (disch := first | assumption | omega | decide | (simp only [ma_wd0, ma_wdi, ma_wdr, ma_wdl, ma_wdn] <;> omega)) only [↓reduceIte, evK, evL, evS, evA, evJ, Option.bind_some, Option.toList, List.cons_append, List.nil_append, nI_add, pk_mul, bI0, ite_not, ev_rbb, up_n, up_s, up_u, pk_us, pk_un, Nat.reduceAdd, nI_ltT, nI_ltF, nI_leT, nI_leF, nI_eqT, nI_eqF, en_MO_isLetter, bk_MO_isLetter, gfC, gfM, ev_r0, ev_r1, eq_self, n_m1e, true_and, and_true, false_and, and_false, and_self, not_true_eq_false, not_false_eq_true, ce_MO_isIn, t_MO_isIn, e1, e2]
theorem t_mLetN (d : Nat) (m : Nat → Nat → Int32) : cc sc (d + 1) 180 [.ref 138, .int (-1)] (hp c w m) = some (some (.int (nI 0)), hp c w m) := by
  simp (disch := first | assumption | omega | decide | (simp only [ma_wd0, ma_wdi, ma_wdr, ma_wdl, ma_wdn] <;> omega)) only [↓reduceIte, evK, evL, evS, evA, evJ, Option.bind_some, Option.toList, List.cons_append, List.nil_append, nI_add, pk_mul, bI0, ite_not, ev_rbb, up_n, up_s, up_u, pk_us, pk_un, Nat.reduceAdd, nI_ltT, nI_ltF, nI_leT, nI_leF, nI_eqT, nI_eqF, en_MO_isLetter, bk_MO_isLetter, gfC, gfM, ev_r0, ev_r1, eq_self, n_m1e, true_and, and_true, false_and, and_false, and_self, not_true_eq_false, not_false_eq_true, ce_MO_isIn, t_MO_isIn, rwV_m]
theorem t_mDig (d x : Nat) (m : Nat → Nat → Int32) (hx : x < 256) : cc sc (d + 1) 182 [.ref 138, .int (nI x)] (hp c w m) = some (some (.int (bI (isDg x))), hp c w m) := by
  have e : (nI 48 ≤ nI x ∧ nI x ≤ nI 57) = isDg x := by
    unfold isDg
    apply propext
    rw [Int32.le_iff_toInt_le, Int32.le_iff_toInt_le, nI_toInt (by omega), nI_toInt (by omega), nI_toInt (by omega)]
    omega
  by_cases z : isDg x
  · rw [bI_t z]
    simp (disch := first | assumption | omega | decide | (simp only [ma_wd0, ma_wdi, ma_wdr, ma_wdl, ma_wdn] <;> omega)) only [↓reduceIte, evK, evL, evS, evA, evJ, Option.bind_some, Option.toList, List.cons_append, List.nil_append, nI_add, pk_mul, bI0, ite_not, ev_rbb, up_n, up_s, up_u, pk_us, pk_un, Nat.reduceAdd, nI_ltT, nI_ltF, nI_leT, nI_leF, nI_eqT, nI_eqF, en_MO_isDigit, gfC, gfM, ev_r0, ev_r1, eq_self, n_m1e, true_and, and_true, false_and, and_false, and_self, not_true_eq_false, not_false_eq_true, ce_MO_isIn, t_MO_isIn, bI_t (show nI 48 ≤ nI x ∧ nI x ≤ nI 57 by rw [e]; exact z)]
    rfl
  · rw [bI_f z]
    simp (disch := first | assumption | omega | decide | (simp only [ma_wd0, ma_wdi, ma_wdr, ma_wdl, ma_wdn] <;> omega)) only [↓reduceIte, evK, evL, evS, evA, evJ, Option.bind_some, Option.toList, List.cons_append, List.nil_append, nI_add, pk_mul, bI0, ite_not, ev_rbb, up_n, up_s, up_u, pk_us, pk_un, Nat.reduceAdd, nI_ltT, nI_ltF, nI_leT, nI_leF, nI_eqT, nI_eqF, en_MO_isDigit, gfC, gfM, ev_r0, ev_r1, eq_self, n_m1e, true_and, and_true, false_and, and_false, and_self, not_true_eq_false, not_false_eq_true, ce_MO_isIn, t_MO_isIn, bI_f (show ¬ (nI 48 ≤ nI x ∧ nI x ≤ nI 57) by rw [e]; exact z)]
theorem t_mDigN (d : Nat) (m : Nat → Nat → Int32) : cc sc (d + 1) 182 [.ref 138, .int (-1)] (hp c w m) = some (some (.int (nI 0)), hp c w m) := by
  simp (disch := first | assumption | omega | decide | (simp only [ma_wd0, ma_wdi, ma_wdr, ma_wdl, ma_wdn] <;> omega)) only [↓reduceIte, evK, evL, evS, evA, evJ, Option.bind_some, Option.toList, List.cons_append, List.nil_append, nI_add, pk_mul, bI0, ite_not, ev_rbb, up_n, up_s, up_u, pk_us, pk_un, Nat.reduceAdd, nI_ltT, nI_ltF, nI_leT, nI_leF, nI_eqT, nI_eqF, en_MO_isDigit, gfC, gfM, ev_r0, ev_r1, eq_self, n_m1e, true_and, and_true, false_and, and_false, and_self, not_true_eq_false, not_false_eq_true, ce_MO_isIn, t_MO_isIn, bI_f (show ¬ (nI 48 ≤ (-1 : Int32) ∧ (-1 : Int32) ≤ nI 57) by rw [rwV_m.2.2]; simp)]
theorem t_mSig (d x : Nat) (m : Nat → Nat → Int32) (hx : x < 256) : cc sc d 183 [.ref 138, .int (nI x)] (hp c w m) = some (some (.int (bI (isSg x))), hp c w m) := by
  by_cases z : isSg x
  · rw [bI_t z]
    rcases z with rfl | rfl | rfl | rfl | rfl | rfl | rfl | rfl | rfl | rfl
    all_goals simp (disch := first | assumption | omega | decide | (simp only [ma_wd0, ma_wdi, ma_wdr, ma_wdl, ma_wdn] <;> omega)) only [↓reduceIte, evK, evL, evS, evA, evJ, Option.bind_some, Option.toList, List.cons_append, List.nil_append, nI_add, pk_mul, bI0, ite_not, ev_rbb, up_n, up_s, up_u, pk_us, pk_un, Nat.reduceAdd, nI_ltT, nI_ltF, nI_leT, nI_leF, nI_eqT, nI_eqF, en_MO_isMarkSign, bk_MO_isMarkSign, gfC, gfM, ev_r0, ev_r1, eq_self, n_m1e, true_and, and_true, false_and, and_false, and_self, not_true_eq_false, not_false_eq_true]
  · rw [bI_f z]
    unfold isSg at z
    simp (disch := first | assumption | omega | decide | (simp only [ma_wd0, ma_wdi, ma_wdr, ma_wdl, ma_wdn] <;> omega)) only [↓reduceIte, evK, evL, evS, evA, evJ, Option.bind_some, Option.toList, List.cons_append, List.nil_append, nI_add, pk_mul, bI0, ite_not, ev_rbb, up_n, up_s, up_u, pk_us, pk_un, Nat.reduceAdd, nI_ltT, nI_ltF, nI_leT, nI_leF, nI_eqT, nI_eqF, en_MO_isMarkSign, bk_MO_isMarkSign, gfC, gfM, ev_r0, ev_r1, eq_self, n_m1e, true_and, and_true, false_and, and_false, and_self, not_true_eq_false, not_false_eq_true]
/-! wordAt -/
def rwA (m : Nat → Nat → Int32) (k : Nat) (l : List Nat) : Prop := ∀ x y, l[x]? = some y → m 147 (k + x) = nI y
theorem slc_get {a e x : Nat} (h : x < e - a) : (slc b a e)[x]? = some (b (a + x)) := by
  unfold slc
  rw [List.getElem?_map, List.getElem?_range h]
  rfl
theorem slc_len {a e : Nat} : (slc b a e).length = e - a := by unfold slc; rw [List.length_map, List.length_range]
theorem t_wordI (d a e k t : Nat) (v : List Nat) (m : Nat → Nat → Int32) (ht : tpM n b m) (hae : a ≤ e) (hen : e ≤ n) (hlt : ∀ j, a ≤ j → j < e → isLt (b j)) (hv : ∀ x ∈ v, x ≠ 32 ∧ x < 128) (hr : rwA m (k + 1) (v ++ [32])) (hk : k + 1 + v.length < 120) : ∀ (q i : Nat), i + q = v.length → i ≤ e - a → (∀ x, x < i → v[x]? = some (b (a + x))) →
    ∃ i', ∀ c : Nat → Nat → Int32, ev sc d 181 (pm_blk 181 19) [some (.ref 138), some (.int (nI a)), some (.int (nI e)), some (.int (nI t)), some (.int (nI k)), some (.int (nI i))] [] (hp c w m) = if slc b a e = v then some (some (.int (nI t)), hp c w m) else ev sc d 181 (pm_blk 181 87) [some (.ref 138), some (.int (nI a)), some (.int (nI e)), some (.int (nI t)), some (.int (nI k)), some (.int (nI i'))] [] (hp c w m)
  | 0, i, hi, hie, hm => by
    have hn := ht.2.1
    have hi : i = v.length := by omega
    have e32 : m 147 (k + 1 + i) = nI 32 := hr i 32 (by rw [List.getElem?_append_right (by omega), hi]; simp)
    refine ⟨i, fun c => ?_⟩
    rcases Nat.lt_or_ge (a + i) e with z | z
    · have hb := ht.2.2.1 (a + i) (by omega)
      have hl := hlt (a + i) (by omega) z
      have h146 := hb.2
      have hne : 32 ≠ b (a + i) := by unfold isLt at hl; omega
      rw [if_neg (fun y => by have := congrArg List.length y; rw [slc_len] at this; omega)]
      conv => lhs; rw [bh_MO_wordAt_19]
      simp (disch := first | assumption | omega | decide | (simp only [ma_wd0, ma_wdi, ma_wdr, ma_wdl, ma_wdn] <;> omega)) only [↓reduceIte, evK, evL, evS, evA, evJ, Option.bind_some, Option.toList, List.cons_append, List.nil_append, nI_add, pk_mul, bI0, ite_not, ev_rbb, up_n, up_s, up_u, pk_us, pk_un, Nat.reduceAdd, nI_ltT, nI_ltF, nI_leT, nI_leF, nI_eqT, nI_eqF, bk_MO_wordAt, gfC, gfM, ev_r0, ev_r1, eq_self, n_m1e, true_and, and_true, false_and, and_false, and_self, not_true_eq_false, not_false_eq_true, ldM, e32, h146]
    · have hs : slc b a e = v := by
        apply List.ext_getElem?
        intro x
        rcases Nat.lt_or_ge x i with y | y
        · rw [slc_get (by omega), hm x y]
        · rw [List.getElem?_eq_none (by rw [slc_len]; omega), List.getElem?_eq_none (by omega)]
      rw [if_pos hs]
      have hai : a + i = e := by omega
      rw [bh_MO_wordAt_19]
      simp (disch := first | assumption | omega | decide | (simp only [ma_wd0, ma_wdi, ma_wdr, ma_wdl, ma_wdn] <;> omega)) only [↓reduceIte, evK, evL, evS, evA, evJ, Option.bind_some, Option.toList, List.cons_append, List.nil_append, nI_add, pk_mul, bI0, ite_not, ev_rbb, up_n, up_s, up_u, pk_us, pk_un, Nat.reduceAdd, nI_ltT, nI_ltF, nI_leT, nI_leF, nI_eqT, nI_eqF, bk_MO_wordAt, gfC, gfM, ev_r0, ev_r1, eq_self, n_m1e, true_and, and_true, false_and, and_false, and_self, not_true_eq_false, not_false_eq_true, ldM, e32, hai]
  | q + 1, i, hi, hie, hm => by
    have hn := ht.2.1
    have hil : i < v.length := by omega
    have hg : v[i]? = some v[i] := List.getElem?_eq_getElem hil
    have ew : m 147 (k + 1 + i) = nI v[i] := hr i v[i] (by rw [List.getElem?_append_left hil]; exact hg)
    have hvi := hv v[i] (List.getElem_mem hil)
    rcases Nat.lt_or_ge (a + i) e with z | z
    · have hb := ht.2.2.1 (a + i) (by omega)
      have h146 := hb.2
      by_cases y : v[i] = b (a + i)
      · obtain ⟨i', ih⟩ := t_wordI d a e k t v m ht hae hen hlt hv hr hk q (i + 1) (by omega) (by omega) (fun x hx => by
          by_cases u : x = i
          · rw [u, hg, y]
          · exact hm x (by omega))
        refine ⟨i', fun c => ?_⟩
        rw [← ih c]
        rw [y] at ew
        conv => lhs; rw [bh_MO_wordAt_19]
        simp (disch := first | assumption | omega | decide | (simp only [ma_wd0, ma_wdi, ma_wdr, ma_wdl, ma_wdn] <;> omega)) only [↓reduceIte, evK, evL, evS, evA, evJ, Option.bind_some, Option.toList, List.cons_append, List.nil_append, nI_add, pk_mul, bI0, ite_not, ev_rbb, up_n, up_s, up_u, pk_us, pk_un, Nat.reduceAdd, nI_ltT, nI_ltF, nI_leT, nI_leF, nI_eqT, nI_eqF, bk_MO_wordAt, gfC, gfM, ev_r0, ev_r1, eq_self, n_m1e, true_and, and_true, false_and, and_false, and_self, not_true_eq_false, not_false_eq_true, ldM, ew, h146]
      · refine ⟨i, fun c => ?_⟩
        rw [if_neg (fun u => by
          have h1 : (slc b a e)[i]? = v[i]? := by rw [u]
          rw [slc_get (by omega), hg] at h1
          injection h1 with h1
          exact y h1.symm)]
        conv => lhs; rw [bh_MO_wordAt_19]
        simp (disch := first | assumption | omega | decide | (simp only [ma_wd0, ma_wdi, ma_wdr, ma_wdl, ma_wdn] <;> omega)) only [↓reduceIte, evK, evL, evS, evA, evJ, Option.bind_some, Option.toList, List.cons_append, List.nil_append, nI_add, pk_mul, bI0, ite_not, ev_rbb, up_n, up_s, up_u, pk_us, pk_un, Nat.reduceAdd, nI_ltT, nI_ltF, nI_leT, nI_leF, nI_eqT, nI_eqF, bk_MO_wordAt, gfC, gfM, ev_r0, ev_r1, eq_self, n_m1e, true_and, and_true, false_and, and_false, and_self, not_true_eq_false, not_false_eq_true, ldM, ew, h146]
    · refine ⟨i, fun c => ?_⟩
      have hai : a + i = e := by omega
      have h32 := hvi.1
      have hlt := hvi.2
      rw [if_neg (fun y => by have := congrArg List.length y; rw [slc_len] at this; omega)]
      conv => lhs; rw [bh_MO_wordAt_19]
      simp (disch := first | assumption | omega | decide | (simp only [ma_wd0, ma_wdi, ma_wdr, ma_wdl, ma_wdn] <;> omega)) only [↓reduceIte, evK, evL, evS, evA, evJ, Option.bind_some, Option.toList, List.cons_append, List.nil_append, nI_add, pk_mul, bI0, ite_not, ev_rbb, up_n, up_s, up_u, pk_us, pk_un, Nat.reduceAdd, nI_ltT, nI_ltF, nI_leT, nI_leF, nI_eqT, nI_eqF, bk_MO_wordAt, gfC, gfM, ev_r0, ev_r1, eq_self, n_m1e, true_and, and_true, false_and, and_false, and_self, not_true_eq_false, not_false_eq_true, ldM, ew, hai]
theorem t_wordS (d a e k t : Nat) (v : List Nat) (m : Nat → Nat → Int32) (x5 : Option Value) (hv : ∀ x ∈ v, x ≠ 32 ∧ x < 128) (hr : rwA m (k + 1) (v ++ [32])) (hk : k + 1 + v.length < 120) : ∀ (q i : Nat), i + q = v.length → ev sc d 181 (pm_blk 181 93) [some (.ref 138), some (.int (nI a)), some (.int (nI e)), some (.int (nI t)), some (.int (nI (k + 1 + i))), x5] [] (hp c w m) = ev sc d 181 (pm_blk 181 5) [some (.ref 138), some (.int (nI a)), some (.int (nI e)), some (.int (nI t)), some (.int (nI (k + 1 + v.length))), x5] [] (hp c w m)
  | 0, i, hi => by
    have hi : i = v.length := by omega
    have e32 : m 147 (k + 1 + i) = nI 32 := hr i 32 (by rw [List.getElem?_append_right (by omega), hi]; simp)
    conv => lhs; rw [bh_MO_wordAt_93]
    simp (disch := first | assumption | omega | decide | (simp only [ma_wd0, ma_wdi, ma_wdr, ma_wdl, ma_wdn] <;> omega)) only [↓reduceIte, evK, evL, evS, evA, evJ, Option.bind_some, Option.toList, List.cons_append, List.nil_append, nI_add, pk_mul, bI0, ite_not, ev_rbb, up_n, up_s, up_u, pk_us, pk_un, Nat.reduceAdd, nI_ltT, nI_ltF, nI_leT, nI_leF, nI_eqT, nI_eqF, bk_MO_wordAt, gfC, gfM, ev_r0, ev_r1, eq_self, n_m1e, true_and, and_true, false_and, and_false, and_self, not_true_eq_false, not_false_eq_true, ldM, e32]
    rw [hi]
  | q + 1, i, hi => by
    have hil : i < v.length := by omega
    have hg : v[i]? = some v[i] := List.getElem?_eq_getElem hil
    have ew : m 147 (k + 1 + i) = nI v[i] := hr i v[i] (by rw [List.getElem?_append_left hil]; exact hg)
    have hvi := hv v[i] (List.getElem_mem hil)
    have h32 := hvi.1
    have hlt := hvi.2
    rw [← t_wordS d a e k t v m x5 hv hr hk q (i + 1) (by omega)]
    have e1 : k + 1 + i + 1 = k + 1 + (i + 1) := by omega
    conv => lhs; rw [bh_MO_wordAt_93]
    simp (disch := first | assumption | omega | decide | (simp only [ma_wd0, ma_wdi, ma_wdr, ma_wdl, ma_wdn] <;> omega)) only [↓reduceIte, evK, evL, evS, evA, evJ, Option.bind_some, Option.toList, List.cons_append, List.nil_append, nI_add, pk_mul, bI0, ite_not, ev_rbb, up_n, up_s, up_u, pk_us, pk_un, Nat.reduceAdd, nI_ltT, nI_ltF, nI_leT, nI_leF, nI_eqT, nI_eqF, bk_MO_wordAt, gfC, gfM, ev_r0, ev_r1, eq_self, n_m1e, true_and, and_true, false_and, and_false, and_self, not_true_eq_false, not_false_eq_true, ldM, ew, e1]
def oN : Option Nat → Int32
  | some v => nI v
  | none => -1
theorem t_wordL (d a e : Nat) (m : Nat → Nat → Int32) (ht : tpM n b m) (hae : a ≤ e) (hen : e ≤ n) (hlt : ∀ j, a ≤ j → j < e → isLt (b j)) : ∀ (ws : List (List Nat)) (k t : Nat) (nu : Int32) (x5 : Option Value), (∀ v ∈ ws, ∀ x ∈ v, x ≠ 32 ∧ x < 128) → rwA m (k + 1) (ws.flatMap spc) → k + 1 + (ws.flatMap spc).length = 120 → nu + nI 1 = nI t →
    ∀ c : Nat → Nat → Int32, ev sc d 181 (pm_blk 181 5) [some (.ref 138), some (.int (nI a)), some (.int (nI e)), some (.int nu), some (.int (nI k)), x5] [] (hp c w m) = some (some (.int (oN (kwM (slc b a e) ws t))), hp c w m)
  | [], k, t, nu, x5, hw, hr, hk, hnu, c => by
    have hk : k = 119 := by simp at hk; omega
    subst hk
    rw [bh_MO_wordAt_5]
    simp (disch := first | assumption | omega | decide | (simp only [ma_wd0, ma_wdi, ma_wdr, ma_wdl, ma_wdn] <;> omega)) only [↓reduceIte, evK, evL, evS, evA, evJ, Option.bind_some, Option.toList, List.cons_append, List.nil_append, nI_add, pk_mul, bI0, ite_not, ev_rbb, up_n, up_s, up_u, pk_us, pk_un, Nat.reduceAdd, nI_ltT, nI_ltF, nI_leT, nI_leF, nI_eqT, nI_eqF, bk_MO_wordAt, gfC, gfM, ev_r0, ev_r1, eq_self, n_m1e, true_and, and_true, false_and, and_false, and_self, not_true_eq_false, not_false_eq_true, kwM, oN]
  | v :: ws, k, t, nu, x5, hw, hr, hk, hnu, c => by
    have hv := hw v List.mem_cons_self
    have hlen : ((v :: ws).flatMap spc).length = v.length + 1 + (ws.flatMap spc).length := by
      rw [List.flatMap_cons, List.length_append]
      unfold spc
      rw [List.length_append, List.length_singleton]
    have hr1 : rwA m (k + 1) (v ++ [32]) := fun x y hx => hr x y (by
      rw [List.flatMap_cons, spc, List.getElem?_append_left (List.getElem?_eq_some_iff.mp hx).1]
      exact hx)
    have hr2 : rwA m (k + 1 + v.length + 1) (ws.flatMap spc) := fun x y hx => by
      have := hr (v.length + 1 + x) y (by
        rw [List.flatMap_cons, spc, List.getElem?_append_right (by rw [List.length_append, List.length_singleton]; omega), List.length_append, List.length_singleton, show v.length + 1 + x - (v.length + 1) = x by omega]
        exact hx)
      rw [← this]
      congr 1
      omega
    obtain ⟨i', hI⟩ := t_wordI (sc := sc) (w := w) d a e k t v m ht hae hen hlt hv hr1 (by omega) v.length 0 (by omega) (by omega) (fun x hx => by omega)
    have hI := hI c
    have hS := t_wordS (sc := sc) (c := c) (w := w) d a e k t v m (some (.int (nI i'))) hv hr1 (by omega) v.length 0 (by omega)
    have ih := t_wordL d a e m ht hae hen hlt ws (k + 1 + v.length) (t + 1) (nI t) (some (.int (nI i'))) (fun u hu => hw u (List.mem_cons_of_mem _ hu)) hr2 (by omega) (by rw [nI_add]) c
    have hk' : k < 119 := by omega
    rw [bh_MO_wordAt_5]
    simp (disch := first | assumption | omega | decide | (simp only [ma_wd0, ma_wdi, ma_wdr, ma_wdl, ma_wdn] <;> omega)) only [↓reduceIte, evK, evL, evS, evA, evJ, Option.bind_some, Option.toList, List.cons_append, List.nil_append, nI_add, pk_mul, bI0, ite_not, ev_rbb, up_n, up_s, up_u, pk_us, pk_un, Nat.reduceAdd, nI_ltT, nI_ltF, nI_leT, nI_leF, nI_eqT, nI_eqF, hnu]
    rw [hI, kwM]
    by_cases z : slc b a e = v
    · rw [if_pos z, if_pos z]
      rfl
    · rw [if_neg z, if_neg z, ← ih, ← hS]
      simp (disch := first | assumption | omega | decide | (simp only [ma_wd0, ma_wdi, ma_wdr, ma_wdl, ma_wdn] <;> omega)) only [↓reduceIte, evK, evL, evS, evA, evJ, Option.bind_some, Option.toList, List.cons_append, List.nil_append, nI_add, pk_mul, bI0, ite_not, ev_rbb, up_n, up_s, up_u, pk_us, pk_un, Nat.reduceAdd, nI_ltT, nI_ltF, nI_leT, nI_leF, nI_eqT, nI_eqF, bk_MO_wordAt, Nat.add_zero]
theorem t_wordAt (d a e : Nat) (m : Nat → Nat → Int32) (ht : tpM n b m) (hae : a ≤ e) (hen : e ≤ n) (hlt : ∀ j, a ≤ j → j < e → isLt (b j)) (c : Nat → Nat → Int32) : cc sc d 181 [.ref 138, .int (nI a), .int (nI e)] (hp c w m) = some (some (.int (oN (kwM (slc b a e) KWm 0))), hp c w m) := by
  have hr : rwA m (0 + 1) (KWm.flatMap spc) := fun x y hx => by
    have h1 : wdN[x + 1]? = some y := by rw [wd_all]; simpa using hx
    have h2 := (List.getElem?_eq_some_iff.mp h1).1
    have h3 : wdN.length = 120 := by decide +kernel
    have := ht.2.2.2 (0 + 1 + x) (by omega)
    rw [this, List.getD_eq_getElem?_getD, show 0 + 1 + x = x + 1 by omega, h1]
    rfl
  have hl : 0 + 1 + (KWm.flatMap spc).length = 120 := by decide +kernel
  rw [← t_wordL (sc := sc) (w := w) d a e m ht hae hen hlt KWm 0 0 (-1) none km_no hr hl (by decide +kernel) c]
  simp (disch := first | assumption | omega | decide | (simp only [ma_wd0, ma_wdi, ma_wdr, ma_wdl, ma_wdn] <;> omega)) only [↓reduceIte, evK, evL, evS, evA, evJ, Option.bind_some, Option.toList, List.cons_append, List.nil_append, nI_add, pk_mul, bI0, ite_not, ev_rbb, up_n, up_s, up_u, pk_us, pk_un, Nat.reduceAdd, nI_ltT, nI_ltF, nI_leT, nI_leF, nI_eqT, nI_eqF, en_MO_wordAt]
end RE
