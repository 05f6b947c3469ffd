/-! ===== sets of bits; what a pier sees: pierOf, over ===== -/
theorem s_l31 : ∀ n, n < 32 → ((nI n &&& 31).toBitVec.smod 32).toNat = n := by decide +kernel
theorem n_sh {x : Nat} (h : x < 31) : nI 1 <<< (nI x &&& 31) = nI (2 ^ x) := by
  have := pk_shlN (n := 1) (nI x &&& 31) x (s_l31 x (by omega)) (by rw [Nat.one_mul]; exact Nat.pow_lt_pow_right (by decide) (by omega))
  rw [Nat.one_mul] at this
  exact this
theorem n_shr {n k : Nat} (hn : n < 2 ^ 31) (hk : k < 31) : nI n >>> (nI k &&& 31) = nI (n / 2 ^ k) := pk_shrN hn _ k (s_l31 k (by omega))
theorem n_or (a b : Nat) : nI a ||| nI b = nI (a ||| b) := by
  apply Int32.toBitVec_inj.1
  show BitVec.ofNat 32 a ||| BitVec.ofNat 32 b = BitVec.ofNat 32 (a ||| b)
  apply BitVec.eq_of_getLsbD_eq
  intro i hi
  simp [hi]
theorem n_and (a b : Nat) : nI a &&& nI b = nI (a &&& b) := by
  apply Int32.toBitVec_inj.1
  show BitVec.ofNat 32 a &&& BitVec.ofNat 32 b = BitVec.ofNat 32 (a &&& b)
  apply BitVec.eq_of_getLsbD_eq
  intro i hi
  simp [hi]
theorem n_a1 (n : Nat) : nI n + (-1) = nI n - nI 1 := by
  rw [Int32.sub_eq_add_neg]
  rfl
theorem n_bit {n k : Nat} (hn : n < 2 ^ 31) (hk : k < 31) : (nI n >>> (nI k &&& 31) &&& nI 1 = nI 1) = (n.testBit k = true) := by
  rw [n_shr hn hk, n_and, Nat.and_one_is_mod, nI_eq (by have := Nat.mod_lt (n / 2 ^ k) (show 2 > 0 by decide); omega) (by omega), Nat.testBit_eq_decide_div_mod_eq, decide_eq_true_eq]
theorem p2_lt {x n : Nat} (h : x < n) : 2 ^ x < 2 ^ n := Nat.pow_lt_pow_right (by decide) h
def setN (p : Nat → Bool) : Nat → Nat
  | 0 => 0
  | n + 1 => if p n = true then setN p n ||| 2 ^ n else setN p n
theorem setN_t {p : Nat → Bool} {n : Nat} (h : p n = true) : setN p (n + 1) = setN p n ||| 2 ^ n := if_pos h
theorem setN_f {p : Nat → Bool} {n : Nat} (h : ¬ p n = true) : setN p (n + 1) = setN p n := if_neg h
theorem setN_bit (p : Nat → Bool) : ∀ n i, (setN p n).testBit i = (decide (i < n) && p i)
  | 0, i => by simp [setN]
  | n + 1, i => by
    have ih := setN_bit p n i
    have e : decide (i < n + 1) = (decide (i < n) || decide (n = i)) := by
      rw [Bool.eq_iff_iff]
      simp
      omega
    by_cases h : p n = true
    · rw [setN_t h, Nat.testBit_or, ih, Nat.testBit_two_pow, e]
      by_cases z : n = i
      · subst z; simp [h]
      · simp [z]
    · rw [setN_f h, ih, e]
      by_cases z : n = i
      · subst z; simp [h]
      · simp [z]
theorem setN_lt (p : Nat → Bool) : ∀ n, setN p n < 2 ^ n
  | 0 => by simp [setN]
  | n + 1 => by
    have ih := setN_lt p n
    have h2 : 2 ^ n < 2 ^ (n + 1) := p2_lt (by omega)
    by_cases h : p n = true
    · rw [setN_t h]
      exact Nat.or_lt_two_pow (by omega) h2
    · rw [setN_f h]
      omega
theorem setN_eq {s n : Nat} {p : Nat → Bool} (h : ∀ i, s.testBit i = (decide (i < n) && p i)) : s = setN p n := Nat.eq_of_testBit_eq (fun i => by rw [h, setN_bit])
theorem setN_congr {n : Nat} {p q : Nat → Bool} (h : ∀ i, i < n → p i = q i) : setN p n = setN q n := setN_eq (fun i => by
  rw [setN_bit]
  by_cases z : i < n
  · rw [h i z]
  · simp [z])
theorem setN_31 {p : Nat → Bool} {n k : Nat} (h : n ≤ k) (hk : k ≤ 30) : setN p n < 2 ^ k := Nat.lt_of_lt_of_le (setN_lt p n) (Nat.pow_le_pow_right (by decide) h)
/-- seen from at, at the height e -/
def seeB (H : Nat → Int32) (e : Int32) (a x : Nat) : Bool := decide (∀ y, y < max a x → min a x < y → H y ≤ e)
def seeN (W : Nat) (H : Nat → Int32) (e : Int32) (a : Nat) : Nat := setN (seeB H e a) W
theorem seeB_congr {H H' : Nat → Int32} {e : Int32} {a x : Nat} (h : ∀ j, j < 14 → H j = H' j) (ha : a < 14) (hx : x < 14) : seeB H e a x = seeB H' e a x := by
  unfold seeB
  rw [decide_eq_decide]
  constructor
  · intro g y h1 h2
    rw [← h y (by omega)]
    exact g y h1 h2
  · intro g y h1 h2
    rw [h y (by omega)]
    exact g y h1 h2
theorem seeN_congr {W : Nat} {H H' : Nat → Int32} {e : Int32} {a : Nat} (h : ∀ j, j < 14 → H j = H' j) (ha : a < 14) (hW : W ≤ 14) : seeN W H e a = seeN W H' e a := setN_congr (fun i hi => seeB_congr h ha (by omega))
def dnS (H : Nat → Int32) (e : Int32) : Nat → Nat → Nat
  | s, 0 => s
  | s, j + 1 => if H j ≤ e then dnS H e (s ||| 2 ^ j) j else s ||| 2 ^ j
def upS (H : Nat → Int32) (e : Int32) : Nat → Nat → Nat → Nat
  | s, _, 0 => s
  | s, i, k + 1 => if H i ≤ e then upS H e (s ||| 2 ^ i) (i + 1) k else s ||| 2 ^ i
theorem dnS_bit (H : Nat → Int32) (e : Int32) : ∀ j s t, (dnS H e s j).testBit t = (s.testBit t || decide (t < j ∧ ∀ y, y < j → t < y → H y ≤ e))
  | 0, s, t => by simp [dnS]
  | j + 1, s, t => by
    unfold dnS
    by_cases h : H j ≤ e
    · rw [if_pos h, dnS_bit H e j, Nat.testBit_or, Nat.testBit_two_pow, Bool.or_assoc]
      congr 1
      rw [Bool.eq_iff_iff]
      simp only [Bool.or_eq_true, decide_eq_true_eq]
      constructor
      · rintro (z | ⟨z, g⟩)
        · subst z
          exact ⟨by omega, fun y h1 h2 => by omega⟩
        · refine ⟨by omega, fun y h1 h2 => ?_⟩
          by_cases q : y = j
          · rw [q]; exact h
          · exact g y (by omega) h2
      · rintro ⟨z, g⟩
        by_cases q : j = t
        · exact Or.inl q
        · exact Or.inr ⟨by omega, fun y h1 h2 => g y (by omega) h2⟩
    · rw [if_neg h, Nat.testBit_or, Nat.testBit_two_pow]
      congr 1
      rw [decide_eq_decide]
      constructor
      · intro z
        subst z
        exact ⟨by omega, fun y h1 h2 => by omega⟩
      · rintro ⟨z, g⟩
        rcases Nat.lt_or_ge t j with q | q
        · exact absurd (g j (by omega) q) h
        · omega
theorem upS_bit (H : Nat → Int32) (e : Int32) : ∀ k i s t, (upS H e s i k).testBit t = (s.testBit t || decide (i ≤ t ∧ t < i + k ∧ ∀ y, y < t → i ≤ y → H y ≤ e))
  | 0, i, s, t => by
    have : ¬ (i ≤ t ∧ t < i + 0 ∧ ∀ y, y < t → i ≤ y → H y ≤ e) := fun z => by omega
    rw [decide_eq_false this, Bool.or_false]
    rfl
  | k + 1, i, s, t => by
    unfold upS
    by_cases h : H i ≤ e
    · rw [if_pos h, upS_bit H e k, Nat.testBit_or, Nat.testBit_two_pow, Bool.or_assoc]
      congr 1
      rw [Bool.eq_iff_iff]
      simp only [Bool.or_eq_true, decide_eq_true_eq]
      constructor
      · rintro (z | ⟨z, z2, g⟩)
        · subst z
          exact ⟨by omega, by omega, fun y h1 h2 => by omega⟩
        · refine ⟨by omega, by omega, fun y h1 h2 => ?_⟩
          by_cases q : y = i
          · rw [q]; exact h
          · exact g y h1 (by omega)
      · rintro ⟨z, z2, g⟩
        by_cases q : i = t
        · exact Or.inl q
        · exact Or.inr ⟨by omega, by omega, fun y h1 h2 => g y h1 (by omega)⟩
    · rw [if_neg h, Nat.testBit_or, Nat.testBit_two_pow]
      congr 1
      rw [decide_eq_decide]
      constructor
      · intro z
        subst z
        exact ⟨by omega, by omega, fun y h1 h2 => by omega⟩
      · rintro ⟨z, z2, g⟩
        rcases Nat.lt_or_ge i t with q | q
        · exact absurd (g i q (by omega)) h
        · omega
theorem see_math {W a : Nat} (H : Nat → Int32) (e : Int32) (ha : a < W) : upS H e (dnS H e (2 ^ a) a) (a + 1) (W - (a + 1)) = seeN W H e a := by
  apply setN_eq
  intro t
  rw [upS_bit, dnS_bit, Nat.testBit_two_pow]
  unfold seeB
  rw [Bool.eq_iff_iff]
  simp only [Bool.or_eq_true, Bool.and_eq_true, decide_eq_true_eq]
  constructor
  · rintro ((z | ⟨z, g⟩) | ⟨z, z2, g⟩)
    · exact ⟨by omega, fun y h1 h2 => by omega⟩
    · exact ⟨by omega, fun y h1 h2 => g y (by omega) (by omega)⟩
    · exact ⟨by omega, fun y h1 h2 => g y (by omega) (by omega)⟩
  · rintro ⟨z, g⟩
    rcases Nat.lt_trichotomy t a with q | q | q
    · exact Or.inl (Or.inr ⟨q, fun y h1 h2 => g y (by omega) (by omega)⟩)
    · exact Or.inl (Or.inl q.symm)
    · exact Or.inr ⟨by omega, by omega, fun y h1 h2 => g y (by omega) (by omega)⟩
theorem dnS_lt {H : Nat → Int32} {e : Int32} : ∀ j s, s < 2 ^ 14 → j ≤ 14 → dnS H e s j < 2 ^ 14
  | 0, s, h, _ => h
  | j + 1, s, h, hj => by
    have h2 : s ||| 2 ^ j < 2 ^ 14 := Nat.or_lt_two_pow h (p2_lt (by omega))
    unfold dnS
    split
    · exact dnS_lt j _ h2 (by omega)
    · exact h2
theorem n_01 : nI 0 - nI 1 = -1 := by decide +kernel
theorem n_m1lt : (-1 < nI 0) = True := eq_true (by decide +kernel)
theorem iMn_n {a b : Nat} (ha : a < 2 ^ 31) (hb : b < 2 ^ 31) : iMn (nI a) (nI b) = nI (min a b) := by
  unfold iMn
  simp only [nI_ltI ha hb]
  split <;> congr 1 <;> omega
theorem iMx_n {a b : Nat} (ha : a < 2 ^ 31) (hb : b < 2 ^ 31) : iMx (nI a) (nI b) = nI (max a b) := by
  unfold iMx
  simp only [nI_ltI hb ha]
  split <;> congr 1 <;> omega
section SE
variable {sc : Nat × (Nat → Int32)} {c m Z : Nat → Nat → Int32} {w : Nat → Int64}
theorem t_sees_dn (d p o : Nat) (e : Int32) : ∀ j s, j ≤ 14 → s < 2 ^ 14 → ∃ x, ∀ m, ev sc d 91 (pm_blk 91 47) [some (.ref 103), some (.int (nI p)), some (.int (nI o)), some (.int e), some (.int (nI s)), some (.int (nI j - nI 1))] [] (hp c w m) = ev sc d 91 (pm_blk 91 84) [some (.ref 103), some (.int (nI p)), some (.int (nI o)), some (.int e), some (.int (nI (dnS (c 18) e s j))), some (.int x)] [] (hp c w m)
  | 0, s, _, _ => by
    refine ⟨-1, fun m => ?_⟩
    conv => lhs; rw [bh_Thought_sees_47]
    simp (disch := first | assumption | omega | decide | (simp only [ma_wd0, ma_wdi, ma_wdr, ma_wdl, ma_wdn] <;> omega)) only [↓reduceIte, evK, evL, evS, evA, evJ, Option.bind_some, Option.toList, List.cons_append, List.nil_append, nI_add, pk_mul, bI0, ite_not, ev_rbb, up_n, up_s, up_u, pk_us, pk_un, Nat.reduceAdd, nI_ltT, nI_ltF, nI_leT, nI_leF, nI_eqT, nI_eqF, dnS, n_01, n_m1lt]
  | j + 1, s, hj, hs => by
    have h2 : s ||| 2 ^ j < 2 ^ 14 := Nat.or_lt_two_pow hs (p2_lt (by omega))
    obtain ⟨x, ih⟩ := t_sees_dn d p o e j (s ||| 2 ^ j) (by omega) h2
    by_cases h : c 18 j ≤ e
    · refine ⟨x, fun m => ?_⟩
      conv => lhs; rw [bh_Thought_sees_47]
      simp (disch := first | assumption | omega | decide | (simp only [ma_wd0, ma_wdi, ma_wdr, ma_wdl, ma_wdn] <;> omega)) only [↓reduceIte, evK, evL, evS, evA, evJ, Option.bind_some, Option.toList, List.cons_append, List.nil_append, nI_add, pk_mul, bI0, ite_not, ev_rbb, up_n, up_s, up_u, pk_us, pk_un, Nat.reduceAdd, nI_ltT, nI_ltF, nI_leT, nI_leF, nI_eqT, nI_eqF, dnS, bk_Thought_sees, nI_m1, gfC, ldC, n_sh, n_or, h, n_a1, ih]
    · refine ⟨nI j, fun m => ?_⟩
      conv => lhs; rw [bh_Thought_sees_47]
      simp (disch := first | assumption | omega | decide | (simp only [ma_wd0, ma_wdi, ma_wdr, ma_wdl, ma_wdn] <;> omega)) only [↓reduceIte, evK, evL, evS, evA, evJ, Option.bind_some, Option.toList, List.cons_append, List.nil_append, nI_add, pk_mul, bI0, ite_not, ev_rbb, up_n, up_s, up_u, pk_us, pk_un, Nat.reduceAdd, nI_ltT, nI_ltF, nI_leT, nI_leF, nI_eqT, nI_eqF, dnS, nI_m1, gfC, ldC, n_sh, n_or, h]
theorem t_sees_up (d p o W : Nat) (e : Int32) (hW : W ≤ 14) (hw : c 1 0 = nI W) : ∀ k i s, i + k = W → s < 2 ^ 14 → ∀ m, ev sc d 91 (pm_blk 91 89) [some (.ref 103), some (.int (nI p)), some (.int (nI o)), some (.int e), some (.int (nI s)), some (.int (nI i))] [] (hp c w m) = some (some (.int (nI (upS (c 18) e s i k))), hp c w m)
  | 0, i, s, hi, _ => fun m => by
    rw [bh_Thought_sees_89]
    simp (disch := first | assumption | omega | decide | (simp only [ma_wd0, ma_wdi, ma_wdr, ma_wdl, ma_wdn] <;> omega)) only [↓reduceIte, evK, evL, evS, evA, evJ, Option.bind_some, Option.toList, List.cons_append, List.nil_append, nI_add, pk_mul, bI0, ite_not, ev_rbb, up_n, up_s, up_u, pk_us, pk_un, Nat.reduceAdd, nI_ltT, nI_ltF, nI_leT, nI_leF, nI_eqT, nI_eqF, upS, bk_Thought_sees, gfC, hw]
  | k + 1, i, s, hi, hs => fun m => by
    have h2 : s ||| 2 ^ i < 2 ^ 14 := Nat.or_lt_two_pow hs (p2_lt (by omega))
    have ih := t_sees_up d p o W e hW hw k (i + 1) (s ||| 2 ^ i) (by omega) h2
    rw [bh_Thought_sees_89]
    by_cases h : c 18 i ≤ e
    · simp (disch := first | assumption | omega | decide | (simp only [ma_wd0, ma_wdi, ma_wdr, ma_wdl, ma_wdn] <;> omega)) only [↓reduceIte, evK, evL, evS, evA, evJ, Option.bind_some, Option.toList, List.cons_append, List.nil_append, nI_add, pk_mul, bI0, ite_not, ev_rbb, up_n, up_s, up_u, pk_us, pk_un, Nat.reduceAdd, nI_ltT, nI_ltF, nI_leT, nI_leF, nI_eqT, nI_eqF, upS, bk_Thought_sees, gfC, ldC, hw, n_sh, n_or, h, ih]
    · simp (disch := first | assumption | omega | decide | (simp only [ma_wd0, ma_wdi, ma_wdr, ma_wdl, ma_wdn] <;> omega)) only [↓reduceIte, evK, evL, evS, evA, evJ, Option.bind_some, Option.toList, List.cons_append, List.nil_append, nI_add, pk_mul, bI0, ite_not, ev_rbb, up_n, up_s, up_u, pk_us, pk_un, Nat.reduceAdd, nI_ltT, nI_ltF, nI_leT, nI_leF, nI_eqT, nI_eqF, upS, bk_Thought_sees, gfC, ldC, hw, n_sh, n_or, h]
theorem t_Thought_sees (d p a W : Nat) (hp6 : p < 6) (h3 : c 3 p = nI a) (ha : a < W) (hW : W ≤ 14) (hw : c 1 0 = nI W) : cc sc (d + 2) 91 [.ref 103, .int (nI p)] (hp c w m) = some (some (.int (nI (seeN W (c 18) (c 18 a + c 4 p) a))), hp c w m) := by
  obtain ⟨x, e1⟩ := t_sees_dn (sc := sc) (c := c) (w := w) (d + 2) p a (c 18 a + c 4 p) a (2 ^ a) (by omega) (p2_lt (by omega))
  have e2 := t_sees_up (sc := sc) (c := c) (w := w) (d + 2) p a W (c 18 a + c 4 p) hW hw (W - (a + 1)) (a + 1) (dnS (c 18) (c 18 a + c 4 p) (2 ^ a) a) (by omega) (dnS_lt a _ (p2_lt (by omega)) (by omega))
  rw [see_math _ _ ha] at e2
  have kp := fun m => t_Told_kept (sc := sc) (c := c) (m := m) (w := w) d a W ha hW hw
  simp (disch := first | assumption | omega | decide | (simp only [ma_wd0, ma_wdi, ma_wdr, ma_wdl, ma_wdn] <;> omega)) only [↓reduceIte, evK, evL, evS, evA, evJ, Option.bind_some, Option.toList, List.cons_append, List.nil_append, nI_add, pk_mul, bI0, ite_not, ev_rbb, up_n, up_s, up_u, pk_us, pk_un, Nat.reduceAdd, nI_ltT, nI_ltF, nI_leT, nI_leF, nI_eqT, nI_eqF, en_Thought_sees, bk_Thought_sees, gfC, ldC, h3, ce_Told_kept, kp, n_sh, e1, e2]
def allB (p : Nat → Bool) : Nat → Nat → Bool
  | 0, _ => true
  | k + 1, i => p i && allB p k (i + 1)
theorem allB_iff (p : Nat → Bool) : ∀ k i, allB p k i = true ↔ ∀ y, y < i + k → i ≤ y → p y = true
  | 0, i => by
    constructor
    · intro _ y h1 h2; omega
    · intro _; rfl
  | k + 1, i => by
    simp only [allB, Bool.and_eq_true, allB_iff p k (i + 1)]
    constructor
    · rintro ⟨h1, h2⟩ y h3 h4
      by_cases q : y = i
      · rw [q]; exact h1
      · exact h2 y (by omega) (by omega)
    · intro h
      exact ⟨h i (by omega) (by omega), fun y h1 h2 => h y (by omega) (by omega)⟩
theorem t_see_loop (d p a x : Nat) (hp6 : p < 6) (ha : a < 14) (hx : x < 14) : ∀ k y, k = max a x - y → y ≤ 15 → ∀ c, ev sc (d + 1) 250 (pm_blk 250 17) [some (.ref 138), some (.int (nI p)), some (.int (nI x)), some (.int (nI a)), some (.int (nI y))] [] (hp c w m) = some (some (.int (bI (allB (fun y => decide (m 139 (5 + y) + nI 10 ≤ m 139 (5 + a) + nI 10 + m 144 p)) k y = true))), hp c w m)
  | 0, y, hk, hy => fun c => by
    rw [bh_MO_doesSee_17, show allB (fun y => decide (m 139 (5 + y) + nI 10 ≤ m 139 (5 + a) + nI 10 + m 144 p)) 0 y = true from rfl, bI_t rfl]
    simp (disch := first | assumption | omega | decide | (simp only [ma_wd0, ma_wdi, ma_wdr, ma_wdl, ma_wdn] <;> omega)) only [↓reduceIte, evK, evL, evS, evA, evJ, Option.bind_some, Option.toList, List.cons_append, List.nil_append, nI_add, pk_mul, bI0, ite_not, ev_rbb, up_n, up_s, up_u, pk_us, pk_un, Nat.reduceAdd, nI_ltT, nI_ltF, nI_leT, nI_leF, nI_eqT, nI_eqF, bk_MO_doesSee, ce_MO_greater, t_MO_greater, iMx_n]
  | k + 1, y, hk, hy => fun c => by
    have ih := t_see_loop d p a x hp6 ha hx k (y + 1) (by omega) (by omega)
    rw [bh_MO_doesSee_17]
    by_cases h : m 139 (5 + y) + nI 10 ≤ m 139 (5 + a) + nI 10 + m 144 p
    · rw [show allB (fun y => decide (m 139 (5 + y) + nI 10 ≤ m 139 (5 + a) + nI 10 + m 144 p)) (k + 1) y = allB (fun y => decide (m 139 (5 + y) + nI 10 ≤ m 139 (5 + a) + nI 10 + m 144 p)) k (y + 1) by simp [allB, h]]
      simp (disch := first | assumption | omega | decide | (simp only [ma_wd0, ma_wdi, ma_wdr, ma_wdl, ma_wdn] <;> omega)) only [↓reduceIte, evK, evL, evS, evA, evJ, Option.bind_some, Option.toList, List.cons_append, List.nil_append, nI_add, pk_mul, bI0, ite_not, ev_rbb, up_n, up_s, up_u, pk_us, pk_un, Nat.reduceAdd, nI_ltT, nI_ltF, nI_leT, nI_leF, nI_eqT, nI_eqF, bk_MO_doesSee, ce_MO_greater, t_MO_greater, iMx_n, ce_MO_heightOf, t_MO_heightOf, gfM, ldM, h, ih]
    · rw [bI_f (by simp [allB, h])]
      simp (disch := first | assumption | omega | decide | (simp only [ma_wd0, ma_wdi, ma_wdr, ma_wdl, ma_wdn] <;> omega)) only [↓reduceIte, evK, evL, evS, evA, evJ, Option.bind_some, Option.toList, List.cons_append, List.nil_append, nI_add, pk_mul, bI0, ite_not, ev_rbb, up_n, up_s, up_u, pk_us, pk_un, Nat.reduceAdd, nI_ltT, nI_ltF, nI_leT, nI_leF, nI_eqT, nI_eqF, bk_MO_doesSee, ce_MO_greater, t_MO_greater, iMx_n, ce_MO_heightOf, t_MO_heightOf, gfM, ldM, h]
theorem t_MO_doesSee (d p a x : Nat) (hp6 : p < 6) (ha : a < 14) (hx : x < 14) (h3 : m 143 p = nI a) : cc sc (d + 1) 250 [.ref 138, .int (nI p), .int (nI x)] (hp c w m) = some (some (.int (bI (seeB (fun j => m 139 (5 + j) + nI 10) (m 139 (5 + a) + nI 10 + m 144 p) a x = true))), hp c w m) := by
  have hl := t_see_loop (sc := sc) (m := m) (w := w) d p a x hp6 ha hx (max a x - (min a x + 1)) (min a x + 1) rfl (by omega)
  simp (disch := first | assumption | omega | decide | (simp only [ma_wd0, ma_wdi, ma_wdr, ma_wdl, ma_wdn] <;> omega)) only [↓reduceIte, evK, evL, evS, evA, evJ, Option.bind_some, Option.toList, List.cons_append, List.nil_append, nI_add, pk_mul, bI0, ite_not, ev_rbb, up_n, up_s, up_u, pk_us, pk_un, Nat.reduceAdd, nI_ltT, nI_ltF, nI_leT, nI_leF, nI_eqT, nI_eqF, en_MO_doesSee, gfM, ldM, h3, ce_MO_lesser, t_MO_lesser, iMn_n, hl]
  congr 4
  apply bI_c
  rw [allB_iff]
  unfold seeB
  simp only [decide_eq_true_eq]
  constructor
  · intro g y h1 h2
    exact g y (by omega) (by omega)
  · intro g y h1 h2
    exact g y (by omega) (by omega)
theorem t_MO_seenFrom (d p a W : Nat) (hp6 : p < 6) (ha : a < 14) (hW : W ≤ 14) (hw : m 138 6 + nI 10 = nI W) (h3 : m 143 p = nI a) : cc sc (d + 2) 249 [.ref 138, .int (nI p)] (hp c w m) = some (some (.int (nI (seeN W (fun j => m 139 (5 + j) + nI 10) (m 139 (5 + a) + nI 10 + m 144 p) a))), hp c w m) := by
  have hD := fun c x hx => t_MO_doesSee (sc := sc) (c := c) (m := m) (w := w) d p a x hp6 ha hx h3
  unfold seeN
  generalize seeB (fun j => m 139 (5 + j) + nI 10) (m 139 (5 + a) + nI 10 + m 144 p) a = q at hD
  have hl := run_loop (fun i h => ev sc (d + 2) 249 (pm_blk 249 4) [some (.ref 138), some (.int (nI p)), some (.int (nI (setN q i))), some (.int (nI i))] [] h) (fun i => hp c w m) W (by
    intro i hi
    conv => lhs; rw [bh_MO_seenFrom_4]
    by_cases h : q i = true
    · rw [setN_t h]
      simp (disch := first | assumption | omega | decide | (simp only [ma_wd0, ma_wdi, ma_wdr, ma_wdl, ma_wdn] <;> omega)) only [↓reduceIte, evK, evL, evS, evA, evJ, Option.bind_some, Option.toList, List.cons_append, List.nil_append, nI_add, pk_mul, bI0, ite_not, ev_rbb, up_n, up_s, up_u, pk_us, pk_un, Nat.reduceAdd, nI_ltT, nI_ltF, nI_leT, nI_leF, nI_eqT, nI_eqF, bk_MO_seenFrom, ce_MO_wide, t_MO_wide, hw, ce_MO_doesSee, hD, h, n_sh, n_or, not_true_eq_false]
    · rw [setN_f h]
      simp (disch := first | assumption | omega | decide | (simp only [ma_wd0, ma_wdi, ma_wdr, ma_wdl, ma_wdn] <;> omega)) only [↓reduceIte, evK, evL, evS, evA, evJ, Option.bind_some, Option.toList, List.cons_append, List.nil_append, nI_add, pk_mul, bI0, ite_not, ev_rbb, up_n, up_s, up_u, pk_us, pk_un, Nat.reduceAdd, nI_ltT, nI_ltF, nI_leT, nI_leF, nI_eqT, nI_eqF, bk_MO_seenFrom, ce_MO_wide, t_MO_wide, hw, ce_MO_doesSee, hD, h, not_false_eq_true, Bool.false_eq_true])
  rw [show setN q 0 = 0 from rfl] at hl
  simp (disch := first | assumption | omega | decide | (simp only [ma_wd0, ma_wdi, ma_wdr, ma_wdl, ma_wdn] <;> omega)) only [↓reduceIte, evK, evL, evS, evA, evJ, Option.bind_some, Option.toList, List.cons_append, List.nil_append, nI_add, pk_mul, bI0, ite_not, ev_rbb, up_n, up_s, up_u, pk_us, pk_un, Nat.reduceAdd, nI_ltT, nI_ltF, nI_leT, nI_leF, nI_eqT, nI_eqF, en_MO_seenFrom, hl]
  rw [bh_MO_seenFrom_4]
  simp (disch := first | assumption | omega | decide | (simp only [ma_wd0, ma_wdi, ma_wdr, ma_wdl, ma_wdn] <;> omega)) only [↓reduceIte, evK, evL, evS, evA, evJ, Option.bind_some, Option.toList, List.cons_append, List.nil_append, nI_add, pk_mul, bI0, ite_not, ev_rbb, up_n, up_s, up_u, pk_us, pk_un, Nat.reduceAdd, nI_ltT, nI_ltF, nI_leT, nI_leF, nI_eqT, nI_eqF, bk_MO_seenFrom, ce_MO_wide, t_MO_wide, hw]
/-- both see the same -/
theorem j_sees {W S Q p : Nat} {ls : List lL} (d d' : Nat) (t : tR W S Q ls c m) (j : jR 17 W S c m Z) (hp6 : p < Q) : ∃ k, k < 2 ^ W ∧ (∀ m0, cc sc (d' + 2) 91 [.ref 103, .int (nI p)] (hp c w m0) = some (some (.int (nI k)), hp c w m0)) ∧ (∀ c0, cc sc (d + 2) 249 [.ref 138, .int (nI p)] (hp c0 w m) = some (some (.int (nI k)), hp c0 w m)) := by
  obtain ⟨q1, q2, hQ, hq⟩ := t.2.2.2.1
  have hW := t.1.2.2.2
  obtain ⟨a, e, ha, he, r1, r2, r3, r4⟩ := hq p hp6
  have e1 : m 139 (5 + a) + nI 10 = c 18 a := (j.2.1.2.1 a (by omega)).trans (j.1.2.1 a (by omega)).symm
  refine ⟨seeN W (c 18) (c 18 a + nI e) a, setN_lt _ _, fun m0 => ?_, fun c0 => ?_⟩
  · rw [t_Thought_sees d' p a W (by omega) r1 ha hW t.1.2.1, r3]
  · rw [t_MO_seenFrom d p a W (by omega) (by omega) hW t.2.1.2.1 r2, e1, r4, seeN_congr (H' := c 18) (fun k hk => (j.2.1.2.1 k hk).trans (j.1.2.1 k hk).symm) (by omega) hW]
end SE
