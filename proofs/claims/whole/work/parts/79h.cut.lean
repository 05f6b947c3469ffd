/-! ===== text: tokens are cut, in the class ===== -/
def tpC (n : Nat) (b : Nat → Nat) (c : Nat → Nat → Int32) : Prop := c 79 1 = nI n ∧ n ≤ 400 ∧ ∀ j, j < n → b j < 256 ∧ c 80 j = sB (b j)
abbrev tk4 : Type := Nat × Nat × Nat × Nat
def dv (b : Nat → Nat) (a : Nat) : Nat → Nat
  | 0 => 0
  | k + 1 => dv b a k * 10 + (b (a + k) - 48)
/-- a token that is met from a place on -/
def tokAt (b : Nat → Nat) (n s : Nat) (t : tk4) : Prop := s ≤ t.2.1 ∧ (∀ j, s ≤ j → j < t.2.1 → isBl (b j)) ∧ ((t.2.1 = n ∧ t.1 = 0 ∧ t.2.2.1 = 0 ∧ t.2.2.2 = n) ∨ (t.2.1 < n ∧ ¬ isBl (b t.2.1) ∧ t.2.1 < t.2.2.2 ∧ t.2.2.2 ≤ n ∧
  ((isLt (b t.2.1) ∧ (∀ j, t.2.1 ≤ j → j < t.2.2.2 → isLt (b j)) ∧ (t.2.2.2 < n → ¬ isLt (b t.2.2.2)) ∧ t.1 = kwL (slc b t.2.1 t.2.2.2) KWs 256 ∧ t.2.2.1 = 0)
  ∨ (¬ isLt (b t.2.1) ∧ isDg (b t.2.1) ∧ (∀ j, t.2.1 ≤ j → j < t.2.2.2 → isDg (b j)) ∧ (t.2.2.2 < n → ¬ isDg (b t.2.2.2)) ∧ t.1 = (if 4 < t.2.2.2 - t.2.1 then 2 else 1) ∧ t.2.2.1 = dv b t.2.1 (min 4 (t.2.2.2 - t.2.1)))
  ∨ (¬ isLt (b t.2.1) ∧ ¬ isDg (b t.2.1) ∧ t.2.2.2 = t.2.1 + 1 ∧ t.1 = (if isSg (b t.2.1) then b t.2.1 else 2) ∧ t.2.2.1 = 0))))
def chn (b : Nat → Nat) (n : Nat) : Nat → List tk4 → Prop
  | _, [] => False
  | s, t :: r => tokAt b n s t ∧ ((t.1 = 0 ∧ r = []) ∨ (t.1 ≠ 0 ∧ chn b n t.2.2.2 r))
def tlC (L : List tk4) (c : Nat → Nat → Int32) : Prop := c 79 5 = nI L.length ∧ ∀ i t, L[i]? = some t → c 81 i = nI t.1 ∧ c 82 i = nI t.2.1 ∧ c 83 i = nI t.2.2.1
def cTF (c c' : Nat → Nat → Int32) : Prop := (∀ k, k ≠ 79 → k ≠ 81 → k ≠ 82 → k ≠ 83 → c' k = c k) ∧ ∀ j, j ≠ 5 → c' 79 j = c 79 j
theorem cTF.tr {a b c : Nat → Nat → Int32} (h : cTF a b) (g : cTF b c) : cTF a c := ⟨fun k x y z u => (g.1 k x y z u).trans (h.1 k x y z u), fun j x => (g.2 j x).trans (h.2 j x)⟩
theorem cTF.tp {n : Nat} {b : Nat → Nat} {c c' : Nat → Nat → Int32} (h : cTF c c') (t : tpC n b c) : tpC n b c' := by
  unfold tpC at *
  rw [h.2 1 (by omega), h.1 80 (by omega) (by omega) (by omega) (by omega)]
  exact t
theorem run_ex (p : Nat → Prop) (b : Nat → Nat) (n : Nat) : ∀ (k j : Nat), j + k = n → ∃ e, j ≤ e ∧ e ≤ n ∧ (∀ i, j ≤ i → i < e → p (b i)) ∧ (e < n → ¬ p (b e))
  | 0, j, h => ⟨j, by omega, by omega, fun i h1 h2 => by omega, fun h3 => by omega⟩
  | k + 1, j, h => by
    by_cases q : p (b j)
    · obtain ⟨e, h1, h2, h3, h4⟩ := run_ex p b n k (j + 1) (by omega)
      refine ⟨e, by omega, h2, fun i g1 g2 => ?_, h4⟩
      by_cases z : i = j
      · rw [z]; exact q
      · exact h3 i (by omega) g2
    · exact ⟨j, by omega, by omega, fun i h1 h2 => by omega, fun _ => q⟩
theorem dv_lt (b : Nat → Nat) (a : Nat) : ∀ k, (∀ j, j < k → isDg (b (a + j))) → dv b a k < 10 ^ k
  | 0, _ => by simp [dv]
  | k + 1, h => by
    have h1 := dv_lt b a k (fun j hj => h j (by omega))
    have h2 := h k (by omega)
    unfold isDg at h2
    rw [dv, Nat.pow_succ]
    omega
theorem n_m1n {k : Nat} (hk : k < 2 ^ 31) : ((-1 : Int32) < nI k) = True := eq_true (by
  rw [Int32.lt_iff_toInt_lt, nI_toInt hk]
  have e : (-1 : Int32).toInt = -1 := by decide +kernel
  omega)
theorem n_m1q {k : Nat} (hk : k < 2 ^ 31) : ((-1 : Int32) = nI k) = False := eq_false (fun z => by
  have := congrArg Int32.toInt z
  rw [nI_toInt hk] at this
  have e : (-1 : Int32).toInt = -1 := by decide +kernel
  omega)
section CU
variable {sc : Nat × (Nat → Int32)} {c m : Nat → Nat → Int32} {w : Nat → Int64} {n : Nat} {b : Nat → Nat}
def alV : Option Nat → Int32
  | none => -1
  | some a => nI a
theorem kw_128 : ∀ x ∈ pm_kw, x < 128 := by decide +kernel
theorem t_kwL (d fr to : Nat) (ht : tpC n b c) (hft : fr ≤ to) (hto : to ≤ n) : ∀ (rest : List Nat) (i wd : Nat) (al : Option Nat) (x6 : Option Value), i + rest.length = 119 → pm_kw.drop i = rest → wd ≤ 256 + i → (∀ a, al = some a → fr ≤ a ∧ a ≤ to) →
    ev sc (d + 9) 126 (pm_blk 126 10) [some (.ref 79), some (.int (nI fr)), some (.int (nI to)), some (.int (nI wd)), some (.int (alV al)), some (.int (nI i)), x6] [] (hp c w m) = some (some (.int (nI (kwF b fr to rest wd al))), hp c w m)
  | [], i, wd, al, x6, hi, hr, hw, ha => by
    have hi : i = 119 := by simpa using hi
    subst hi
    rw [bh_Tokens_keyword_10]
    simp (disch := first | assumption | omega | decide | (simp only [ma_wd0, ma_wdi, ma_wdr, ma_wdl, ma_wdn] <;> omega)) only [↓reduceIte, evK, evL, evS, evA, evJ, Option.bind_some, Option.toList, List.cons_append, List.nil_append, nI_add, pk_mul, bI0, ite_not, ev_rbb, up_n, up_s, up_u, pk_us, pk_un, Nat.reduceAdd, nI_ltT, nI_ltF, nI_leT, nI_leF, nI_eqT, nI_eqF, bk_Tokens_keyword, gfC, gfM, ev_r0, ev_r1, eq_self, n_m1e, true_and, and_true, false_and, and_false, and_self, not_true_eq_false, not_false_eq_true, ev_s0, ev_tl, kwF]
  | ch :: rest, i, wd, al, x6, hi, hr, hw, ha => by
    have hi' : i + (rest.length + 1) = 119 := by simpa using hi
    have hn := ht.2.1
    have hg : pm_kw[i]? = some ch := by
      have : (pm_kw.drop i)[0]? = some ch := by rw [hr]; rfl
      rw [List.getElem?_drop] at this
      simpa using this
    have hgd : pm_kw.getD i 0 = ch := by rw [List.getD_eq_getElem?_getD, hg]; rfl
    have hch : ch < 128 := kw_128 ch (List.mem_of_getElem? hg)
    have hr2 : pm_kw.drop (i + 1) = rest := by
      rw [← List.drop_drop, hr]; rfl
    have ih := fun wd al x6 h1 h2 => t_kwL d fr to ht hft hto rest (i + 1) wd al x6 (by omega) hr2 h1 h2
    rw [bh_Tokens_keyword_10]
    by_cases z : ch = 32
    · subst z
      simp only [kwF, if_true]
      by_cases y : al = some to
      · subst y
        rw [if_pos rfl]
        simp (disch := first | assumption | omega | decide | (simp only [ma_wd0, ma_wdi, ma_wdr, ma_wdl, ma_wdn] <;> omega)) only [↓reduceIte, evK, evL, evS, evA, evJ, Option.bind_some, Option.toList, List.cons_append, List.nil_append, nI_add, pk_mul, bI0, ite_not, ev_rbb, up_n, up_s, up_u, pk_us, pk_un, Nat.reduceAdd, nI_ltT, nI_ltF, nI_leT, nI_leF, nI_eqT, nI_eqF, bk_Tokens_keyword, gfC, gfM, ev_r0, ev_r1, eq_self, n_m1e, true_and, and_true, false_and, and_false, and_self, not_true_eq_false, not_false_eq_true, ev_s0, ev_tl, ev_tc, hgd, alV]
      · rw [if_neg y, ← ih (wd + 1) (some fr) (some (.int (nI 32))) (by omega) (fun a e => by cases e; omega)]
        cases al with
        | none =>
          have e1 := n_m1q (k := to) (by omega)
          simp (disch := first | assumption | omega | decide | (simp only [ma_wd0, ma_wdi, ma_wdr, ma_wdl, ma_wdn] <;> omega)) only [↓reduceIte, evK, evL, evS, evA, evJ, Option.bind_some, Option.toList, List.cons_append, List.nil_append, nI_add, pk_mul, bI0, ite_not, ev_rbb, up_n, up_s, up_u, pk_us, pk_un, Nat.reduceAdd, nI_ltT, nI_ltF, nI_leT, nI_leF, nI_eqT, nI_eqF, bk_Tokens_keyword, gfC, gfM, ev_r0, ev_r1, eq_self, n_m1e, true_and, and_true, false_and, and_false, and_self, not_true_eq_false, not_false_eq_true, ev_s0, ev_tl, ev_tc, hgd, alV, e1]
        | some a =>
          have := ha a rfl
          have y' : a ≠ to := fun q => y (by rw [q])
          simp (disch := first | assumption | omega | decide | (simp only [ma_wd0, ma_wdi, ma_wdr, ma_wdl, ma_wdn] <;> omega)) only [↓reduceIte, evK, evL, evS, evA, evJ, Option.bind_some, Option.toList, List.cons_append, List.nil_append, nI_add, pk_mul, bI0, ite_not, ev_rbb, up_n, up_s, up_u, pk_us, pk_un, Nat.reduceAdd, nI_ltT, nI_ltF, nI_leT, nI_leF, nI_eqT, nI_eqF, bk_Tokens_keyword, gfC, gfM, ev_r0, ev_r1, eq_self, n_m1e, true_and, and_true, false_and, and_false, and_self, not_true_eq_false, not_false_eq_true, ev_s0, ev_tl, ev_tc, hgd, alV]
    · simp only [kwF, if_neg z]
      cases al with
      | none =>
        have e1 := n_m1n (k := fr) (by omega)
        have := ih wd none (some (.int (nI ch))) (by omega) (fun a e => by cases e)
        dsimp only at this ⊢
        rw [← this]
        simp (disch := first | assumption | omega | decide | (simp only [ma_wd0, ma_wdi, ma_wdr, ma_wdl, ma_wdn] <;> omega)) only [↓reduceIte, evK, evL, evS, evA, evJ, Option.bind_some, Option.toList, List.cons_append, List.nil_append, nI_add, pk_mul, bI0, ite_not, ev_rbb, up_n, up_s, up_u, pk_us, pk_un, Nat.reduceAdd, nI_ltT, nI_ltF, nI_leT, nI_leF, nI_eqT, nI_eqF, bk_Tokens_keyword, gfC, gfM, ev_r0, ev_r1, eq_self, n_m1e, true_and, and_true, false_and, and_false, and_self, not_true_eq_false, not_false_eq_true, ev_s0, ev_tl, ev_tc, hgd, alV, e1]
      | some a =>
        have hfa := ha a rfl
        by_cases q : a < to
        · have hb := ht.2.2 a (by omega)
          have eb := sB_ch hb.1 hch
          have h80 := hb.2
          by_cases q2 : b a = ch
          · have := ih wd (some (a + 1)) (some (.int (nI ch))) (by omega) (fun a' e => by cases e; omega)
            rw [eq_true q2] at eb
            dsimp only
            rw [if_pos ⟨q, q2⟩, ← this]
            simp (disch := first | assumption | omega | decide | (simp only [ma_wd0, ma_wdi, ma_wdr, ma_wdl, ma_wdn] <;> omega)) only [↓reduceIte, evK, evL, evS, evA, evJ, Option.bind_some, Option.toList, List.cons_append, List.nil_append, nI_add, pk_mul, bI0, ite_not, ev_rbb, up_n, up_s, up_u, pk_us, pk_un, Nat.reduceAdd, nI_ltT, nI_ltF, nI_leT, nI_leF, nI_eqT, nI_eqF, bk_Tokens_keyword, gfC, gfM, ev_r0, ev_r1, eq_self, n_m1e, true_and, and_true, false_and, and_false, and_self, not_true_eq_false, not_false_eq_true, ev_s0, ev_tl, ev_tc, hgd, alV, bl80, h80, eb]
          · have := ih wd none (some (.int (nI ch))) (by omega) (fun a' e => by cases e)
            rw [eq_false q2] at eb
            dsimp only
            rw [if_neg (fun u => q2 u.2), ← this]
            simp (disch := first | assumption | omega | decide | (simp only [ma_wd0, ma_wdi, ma_wdr, ma_wdl, ma_wdn] <;> omega)) only [↓reduceIte, evK, evL, evS, evA, evJ, Option.bind_some, Option.toList, List.cons_append, List.nil_append, nI_add, pk_mul, bI0, ite_not, ev_rbb, up_n, up_s, up_u, pk_us, pk_un, Nat.reduceAdd, nI_ltT, nI_ltF, nI_leT, nI_leF, nI_eqT, nI_eqF, bk_Tokens_keyword, gfC, gfM, ev_r0, ev_r1, eq_self, n_m1e, true_and, and_true, false_and, and_false, and_self, not_true_eq_false, not_false_eq_true, ev_s0, ev_tl, ev_tc, hgd, alV, bl80, h80, eb]
        · have := ih wd none (some (.int (nI ch))) (by omega) (fun a' e => by cases e)
          dsimp only
          rw [if_neg (fun u => q u.1), ← this]
          simp (disch := first | assumption | omega | decide | (simp only [ma_wd0, ma_wdi, ma_wdr, ma_wdl, ma_wdn] <;> omega)) only [↓reduceIte, evK, evL, evS, evA, evJ, Option.bind_some, Option.toList, List.cons_append, List.nil_append, nI_add, pk_mul, bI0, ite_not, ev_rbb, up_n, up_s, up_u, pk_us, pk_un, Nat.reduceAdd, nI_ltT, nI_ltF, nI_leT, nI_leF, nI_eqT, nI_eqF, bk_Tokens_keyword, gfC, gfM, ev_r0, ev_r1, eq_self, n_m1e, true_and, and_true, false_and, and_false, and_self, not_true_eq_false, not_false_eq_true, ev_s0, ev_tl, ev_tc, hgd, alV]
theorem t_keyword (d fr to : Nat) (ht : tpC n b c) (hft : fr ≤ to) (hto : to ≤ n) : cc sc (d + 9) 126 [.ref 79, .int (nI fr), .int (nI to)] (hp c w m) = some (some (.int (nI (kwL (slc b fr to) KWs 256))), hp c w m) := by
  have := t_kwL (sc := sc) (w := w) (m := m) d fr to ht hft hto pm_kw 0 256 (some fr) none (by rw [kw_len]) rfl (by omega) (fun a e => by cases e; omega)
  have e : kwF b fr to pm_kw 256 (some fr) = kwL (slc b fr to) KWs 256 := by rw [kw_all]; exact kwF_all b fr to hft KWs 256 (fun w hw x hx => (kw_no w hw x hx).1)
  rw [e] at this
  rw [← this]
  simp (disch := first | assumption | omega | decide | (simp only [ma_wd0, ma_wdi, ma_wdr, ma_wdl, ma_wdn] <;> omega)) only [↓reduceIte, evK, evL, evS, evA, evJ, Option.bind_some, Option.toList, List.cons_append, List.nil_append, nI_add, pk_mul, bI0, ite_not, ev_rbb, up_n, up_s, up_u, pk_us, pk_un, Nat.reduceAdd, nI_ltT, nI_ltF, nI_leT, nI_leF, nI_eqT, nI_eqF, en_Tokens_keyword, alV]
theorem t_numL (d fr to : Nat) (ht : tpC n b c) (hto : to ≤ n) (hd : ∀ j, fr ≤ j → j < to → isDg (b j)) : ∀ (q k : Nat), k + q = min 4 (to - fr) → fr ≤ to → ev sc d 129 (pm_blk 129 5) [some (.ref 79), some (.int (nI fr)), some (.int (nI to)), some (.int (nI (dv b fr k))), some (.int (nI (fr + k)))] [] (hp c w m) = some (some (.int (nI (dv b fr (min 4 (to - fr))))), hp c w m)
  | 0, k, hk, hft => by
    have hn := ht.2.1
    have hk' : k = min 4 (to - fr) := by omega
    subst hk'
    rw [bh_Tokens_number_5]
    by_cases z : fr + min 4 (to - fr) < to
    · have e1 : fr + 4 ≤ fr + min 4 (to - fr) := by omega
      simp (disch := first | assumption | omega | decide | (simp only [ma_wd0, ma_wdi, ma_wdr, ma_wdl, ma_wdn] <;> omega)) only [↓reduceIte, evK, evL, evS, evA, evJ, Option.bind_some, Option.toList, List.cons_append, List.nil_append, nI_add, pk_mul, bI0, ite_not, ev_rbb, up_n, up_s, up_u, pk_us, pk_un, Nat.reduceAdd, nI_ltT, nI_ltF, nI_leT, nI_leF, nI_eqT, nI_eqF, bk_Tokens_number, gfC, gfM, ev_r0, ev_r1, eq_self, n_m1e, true_and, and_true, false_and, and_false, and_self, not_true_eq_false, not_false_eq_true]
    · simp (disch := first | assumption | omega | decide | (simp only [ma_wd0, ma_wdi, ma_wdr, ma_wdl, ma_wdn] <;> omega)) only [↓reduceIte, evK, evL, evS, evA, evJ, Option.bind_some, Option.toList, List.cons_append, List.nil_append, nI_add, pk_mul, bI0, ite_not, ev_rbb, up_n, up_s, up_u, pk_us, pk_un, Nat.reduceAdd, nI_ltT, nI_ltF, nI_leT, nI_leF, nI_eqT, nI_eqF, bk_Tokens_number, gfC, gfM, ev_r0, ev_r1, eq_self, n_m1e, true_and, and_true, false_and, and_false, and_self, not_true_eq_false, not_false_eq_true]
  | q + 1, k, hk, hft => by
    have hn := ht.2.1
    have hb := ht.2.2 (fr + k) (by omega)
    have hg := hd (fr + k) (by omega) (by omega)
    unfold isDg at hg
    have h80 := hb.2
    rw [sB_eq _ (by omega)] at h80
    have ih := t_numL d fr to ht hto hd q (k + 1) (by omega) hft
    have hlt := dv_lt b fr k (fun j hj => hd (fr + j) (by omega) (by omega))
    have hk3 : 10 ^ k ≤ 1000 := by
      have : k = 0 ∨ k = 1 ∨ k = 2 ∨ k = 3 := by omega
      rcases this with rfl | rfl | rfl | rfl <;> decide
    have e1 : nI (dv b fr k * 10 + b (fr + k)) - nI 48 = nI (dv b fr (k + 1)) := by
      rw [pk_sub (by omega), dv]
      congr 1
      omega
    rw [← ih]
    conv => lhs; rw [bh_Tokens_number_5]
    have e2 : fr + k + 1 = fr + (k + 1) := by omega
    simp (disch := first | assumption | omega | decide | (simp only [ma_wd0, ma_wdi, ma_wdr, ma_wdl, ma_wdn] <;> omega)) only [↓reduceIte, evK, evL, evS, evA, evJ, Option.bind_some, Option.toList, List.cons_append, List.nil_append, nI_add, pk_mul, bI0, ite_not, ev_rbb, up_n, up_s, up_u, pk_us, pk_un, Nat.reduceAdd, nI_ltT, nI_ltF, nI_leT, nI_leF, nI_eqT, nI_eqF, bk_Tokens_number, gfC, gfM, ev_r0, ev_r1, eq_self, n_m1e, true_and, and_true, false_and, and_false, and_self, not_true_eq_false, not_false_eq_true, bl80, h80, e1, e2]
theorem t_number (d fr to : Nat) (ht : tpC n b c) (hft : fr ≤ to) (hto : to ≤ n) (hd : ∀ j, fr ≤ j → j < to → isDg (b j)) : cc sc d 129 [.ref 79, .int (nI fr), .int (nI to)] (hp c w m) = some (some (.int (nI (dv b fr (min 4 (to - fr))))), hp c w m) := by
  have := t_numL (sc := sc) (w := w) (m := m) d fr to ht hto hd (min 4 (to - fr)) 0 (by omega) hft
  rw [← this]
  simp (disch := first | assumption | omega | decide | (simp only [ma_wd0, ma_wdi, ma_wdr, ma_wdl, ma_wdn] <;> omega)) only [↓reduceIte, evK, evL, evS, evA, evJ, Option.bind_some, Option.toList, List.cons_append, List.nil_append, nI_add, pk_mul, bI0, ite_not, ev_rbb, up_n, up_s, up_u, pk_us, pk_un, Nat.reduceAdd, nI_ltT, nI_ltF, nI_leT, nI_leF, nI_eqT, nI_eqF, en_Tokens_number, dv, Nat.add_zero]
def adT (q : Nat) (k p v : Int32) (c : Nat → Nat → Int32) : Nat → Nat → Int32 := va_up (va_up (va_up (va_up c 81 (upd (c 81) q k)) 82 (upd (c 82) q p)) 83 (upd (c 83) q v)) 79 (upd (c 79) 5 (nI (q + 1)))
theorem t_add (d q : Nat) (k p v : Int32) (h : c 79 5 = nI q) (hq : q < 401) : cc sc d 127 [.ref 79, .int k, .int p, .int v] (hp c w m) = some (none, hp (adT q k p v c) w m) := by
  unfold adT
  simp (disch := first | assumption | omega | decide | (simp only [ma_wd0, ma_wdi, ma_wdr, ma_wdl, ma_wdn] <;> omega)) only [↓reduceIte, evK, evL, evS, evA, evJ, Option.bind_some, Option.toList, List.cons_append, List.nil_append, nI_add, pk_mul, bI0, ite_not, ev_rbb, up_n, up_s, up_u, pk_us, pk_un, Nat.reduceAdd, nI_ltT, nI_ltF, nI_leT, nI_leF, nI_eqT, nI_eqF, en_Tokens_add, bk_Tokens_add, gfC, gfM, ev_r0, ev_r1, eq_self, n_m1e, true_and, and_true, false_and, and_false, and_self, not_true_eq_false, not_false_eq_true, h, alC, stC, pfC]
theorem adT_F {q : Nat} {k p v : Int32} : cTF c (adT q k p v c) := by
  unfold adT
  refine ⟨fun j a1 a2 a3 a4 => by rw [up_n _ _ _ _ a1, up_n _ _ _ _ a4, up_n _ _ _ _ a3, up_n _ _ _ _ a2], fun j a => by rw [up_s, pk_un a]⟩
theorem tlC.push {L : List tk4} {t : tk4} (h : tlC L c) : tlC (L ++ [t]) (adT L.length (nI t.1) (nI t.2.1) (nI t.2.2.1) c) := by
  unfold adT
  refine ⟨by rw [up_s, pk_us, List.length_append]; rfl, fun i x hx => ?_⟩
  rw [up_n _ _ _ _ (by omega), up_n _ _ _ _ (by omega), up_n _ _ _ _ (by omega), up_s, up_n _ _ _ _ (by omega), up_n _ _ _ _ (by omega), up_s, up_n _ _ _ _ (by omega), up_s]
  rcases snoc_get hx with ⟨h1, h2⟩ | ⟨h1, h2⟩
  · rw [pk_un (by omega), pk_un (by omega), pk_un (by omega)]
    exact h.2 i x h2
  · rw [h1, h2, pk_us, pk_us, pk_us]
    exact ⟨rfl, rfl, rfl⟩
/-- the loops over letters and digits -/
theorem t_let (d s e : Nat) (x3 : Option Value) (ht : tpC n b c) (he : e ≤ n) (hp1 : e < n → ¬ isLt (b e)) : ∀ (k j : Nat), j + k = e → (∀ i, j ≤ i → i < e → isLt (b i)) → ev sc (d + 1) 124 (pm_blk 124 16) [some (.ref 79), some (.int (nI s)), some (.int (nI j)), x3] [] (hp c w m) = ev sc (d + 1) 124 (pm_blk 124 42) [some (.ref 79), some (.int (nI s)), some (.int (nI e)), x3] [] (hp c w m)
  | 0, j, hj, hp2 => by
    have hj : j = e := by omega
    subst hj
    have h1 := ht.1
    have hn := ht.2.1
    conv => lhs; rw [bh_Tokens_cutOne_16]
    rcases Nat.lt_or_ge j n with z | z
    · have hb := ht.2.2 j z
      have h80 := hb.2
      have a1 := fun d h => t_isLetter (sc := sc) (h := h) d (b j) hb.1
      rw [bI_f (hp1 z)] at a1
      simp (disch := first | assumption | omega | decide | (simp only [ma_wd0, ma_wdi, ma_wdr, ma_wdl, ma_wdn] <;> omega)) only [↓reduceIte, evK, evL, evS, evA, evJ, Option.bind_some, Option.toList, List.cons_append, List.nil_append, nI_add, pk_mul, bI0, ite_not, ev_rbb, up_n, up_s, up_u, pk_us, pk_un, Nat.reduceAdd, nI_ltT, nI_ltF, nI_leT, nI_leF, nI_eqT, nI_eqF, bk_Tokens_cutOne, gfC, gfM, ev_r0, ev_r1, eq_self, n_m1e, true_and, and_true, false_and, and_false, and_self, not_true_eq_false, not_false_eq_true, h1, bl80, h80, ce_Tokens_isLetter, a1]
    · simp (disch := first | assumption | omega | decide | (simp only [ma_wd0, ma_wdi, ma_wdr, ma_wdl, ma_wdn] <;> omega)) only [↓reduceIte, evK, evL, evS, evA, evJ, Option.bind_some, Option.toList, List.cons_append, List.nil_append, nI_add, pk_mul, bI0, ite_not, ev_rbb, up_n, up_s, up_u, pk_us, pk_un, Nat.reduceAdd, nI_ltT, nI_ltF, nI_leT, nI_leF, nI_eqT, nI_eqF, bk_Tokens_cutOne, gfC, gfM, ev_r0, ev_r1, eq_self, n_m1e, true_and, and_true, false_and, and_false, and_self, not_true_eq_false, not_false_eq_true, h1]
  | k + 1, j, hj, hp2 => by
    have h1 := ht.1
    have hn := ht.2.1
    have hb := ht.2.2 j (by omega)
    have h80 := hb.2
    have a1 := fun d h => t_isLetter (sc := sc) (h := h) d (b j) hb.1
    rw [bI_t (hp2 j (by omega) (by omega))] at a1
    rw [← t_let d s e x3 ht he hp1 k (j + 1) (by omega) (fun i g1 g2 => hp2 i (by omega) g2)]
    conv => lhs; rw [bh_Tokens_cutOne_16]
    simp (disch := first | assumption | omega | decide | (simp only [ma_wd0, ma_wdi, ma_wdr, ma_wdl, ma_wdn] <;> omega)) only [↓reduceIte, evK, evL, evS, evA, evJ, Option.bind_some, Option.toList, List.cons_append, List.nil_append, nI_add, pk_mul, bI0, ite_not, ev_rbb, up_n, up_s, up_u, pk_us, pk_un, Nat.reduceAdd, nI_ltT, nI_ltF, nI_leT, nI_leF, nI_eqT, nI_eqF, bk_Tokens_cutOne, gfC, gfM, ev_r0, ev_r1, eq_self, n_m1e, true_and, and_true, false_and, and_false, and_self, not_true_eq_false, not_false_eq_true, h1, bl80, h80, ce_Tokens_isLetter, a1]
theorem t_dig (d s e : Nat) (x3 : Option Value) (ht : tpC n b c) (he : e ≤ n) (hp1 : e < n → ¬ isDg (b e)) : ∀ (k j : Nat), j + k = e → (∀ i, j ≤ i → i < e → isDg (b i)) → ev sc (d + 1) 124 (pm_blk 124 69) [some (.ref 79), some (.int (nI s)), some (.int (nI j)), x3] [] (hp c w m) = ev sc (d + 1) 124 (pm_blk 124 95) [some (.ref 79), some (.int (nI s)), some (.int (nI e)), x3] [] (hp c w m)
  | 0, j, hj, hp2 => by
    have hj : j = e := by omega
    subst hj
    have h1 := ht.1
    have hn := ht.2.1
    conv => lhs; rw [bh_Tokens_cutOne_69]
    rcases Nat.lt_or_ge j n with z | z
    · have hb := ht.2.2 j z
      have h80 := hb.2
      have a1 := fun d h => t_isDigit (sc := sc) (h := h) d (b j) hb.1
      rw [bI_f (hp1 z)] at a1
      simp (disch := first | assumption | omega | decide | (simp only [ma_wd0, ma_wdi, ma_wdr, ma_wdl, ma_wdn] <;> omega)) only [↓reduceIte, evK, evL, evS, evA, evJ, Option.bind_some, Option.toList, List.cons_append, List.nil_append, nI_add, pk_mul, bI0, ite_not, ev_rbb, up_n, up_s, up_u, pk_us, pk_un, Nat.reduceAdd, nI_ltT, nI_ltF, nI_leT, nI_leF, nI_eqT, nI_eqF, bk_Tokens_cutOne, gfC, gfM, ev_r0, ev_r1, eq_self, n_m1e, true_and, and_true, false_and, and_false, and_self, not_true_eq_false, not_false_eq_true, h1, bl80, h80, ce_Tokens_isDigit, a1]
    · simp (disch := first | assumption | omega | decide | (simp only [ma_wd0, ma_wdi, ma_wdr, ma_wdl, ma_wdn] <;> omega)) only [↓reduceIte, evK, evL, evS, evA, evJ, Option.bind_some, Option.toList, List.cons_append, List.nil_append, nI_add, pk_mul, bI0, ite_not, ev_rbb, up_n, up_s, up_u, pk_us, pk_un, Nat.reduceAdd, nI_ltT, nI_ltF, nI_leT, nI_leF, nI_eqT, nI_eqF, bk_Tokens_cutOne, gfC, gfM, ev_r0, ev_r1, eq_self, n_m1e, true_and, and_true, false_and, and_false, and_self, not_true_eq_false, not_false_eq_true, h1]
  | k + 1, j, hj, hp2 => by
    have h1 := ht.1
    have hn := ht.2.1
    have hb := ht.2.2 j (by omega)
    have h80 := hb.2
    have a1 := fun d h => t_isDigit (sc := sc) (h := h) d (b j) hb.1
    rw [bI_t (hp2 j (by omega) (by omega))] at a1
    rw [← t_dig d s e x3 ht he hp1 k (j + 1) (by omega) (fun i g1 g2 => hp2 i (by omega) g2)]
    conv => lhs; rw [bh_Tokens_cutOne_69]
    simp (disch := first | assumption | omega | decide | (simp only [ma_wd0, ma_wdi, ma_wdr, ma_wdl, ma_wdn] <;> omega)) only [↓reduceIte, evK, evL, evS, evA, evJ, Option.bind_some, Option.toList, List.cons_append, List.nil_append, nI_add, pk_mul, bI0, ite_not, ev_rbb, up_n, up_s, up_u, pk_us, pk_un, Nat.reduceAdd, nI_ltT, nI_ltF, nI_leT, nI_leF, nI_eqT, nI_eqF, bk_Tokens_cutOne, gfC, gfM, ev_r0, ev_r1, eq_self, n_m1e, true_and, and_true, false_and, and_false, and_self, not_true_eq_false, not_false_eq_true, h1, bl80, h80, ce_Tokens_isDigit, a1]
theorem j_cutOne (d s : Nat) (L : List tk4) (ht : tpC n b c) (hl : tlC L c) (hL : L.length < 401) (hs : s < n) (hbl : ¬ isBl (b s)) : ∃ t : tk4, tokAt b n s t ∧ t.1 ≠ 0 ∧ t.1 < 281 ∧ t.2.2.1 < 10000 ∧ s < t.2.2.2 ∧ t.2.2.2 ≤ n ∧ ∃ c', (∀ m, cc sc (d + 10) 124 [.ref 79, .int (nI s)] (hp c w m) = some (some (.int (nI t.2.2.2)), hp c' w m)) ∧ cTF c c' ∧ tlC (L ++ [t]) c' := by
  have h1 := ht.1
  have hn := ht.2.1
  have hb := ht.2.2 s hs
  have h80 := hb.2
  have a1 := fun d h => t_isLetter (sc := sc) (h := h) d (b s) hb.1
  have a2 := fun d h => t_isDigit (sc := sc) (h := h) d (b s) hb.1
  by_cases z : isLt (b s)
  · obtain ⟨e, e1, e2, e3, e4⟩ := run_ex isLt b n (n - (s + 1)) (s + 1) (by omega)
    have hall : ∀ j, s ≤ j → j < e → isLt (b j) := fun j g1 g2 => by
      by_cases q : j = s
      · rw [q]; exact z
      · exact e3 j (by omega) g2
    have hk := kw_two (slc b s e)
    refine ⟨(kwL (slc b s e) KWs 256, s, 0, e), ⟨Nat.le_refl _, fun j g1 g2 => absurd (Nat.lt_of_le_of_lt g1 g2) (Nat.lt_irrefl _), Or.inr ⟨hs, hbl, by show s < e; omega, e2, Or.inl ⟨z, hall, e4, rfl, rfl⟩⟩⟩, by show kwL _ _ _ ≠ 0; omega, by show kwL _ _ _ < 281; omega, by show 0 < 10000; omega, by show s < e; omega, e2, _, fun m => ?_, adT_F, hl.push⟩
    rw [bI_t z] at a1
    have a3 := fun m => t_let (sc := sc) (w := w) (m := m) (d + 9) s e none ht e2 e4 (e - (s + 1)) (s + 1) (by omega) e3
    have a4 := fun m => t_keyword (sc := sc) (w := w) (m := m) d s e ht (by omega) e2
    have a5 := fun d m => t_add (sc := sc) (w := w) (m := m) d L.length (nI (kwL (slc b s e) KWs 256)) (nI s) (nI 0) hl.1 hL
    simp (disch := first | assumption | omega | decide | (simp only [ma_wd0, ma_wdi, ma_wdr, ma_wdl, ma_wdn] <;> omega)) only [↓reduceIte, evK, evL, evS, evA, evJ, Option.bind_some, Option.toList, List.cons_append, List.nil_append, nI_add, pk_mul, bI0, ite_not, ev_rbb, up_n, up_s, up_u, pk_us, pk_un, Nat.reduceAdd, nI_ltT, nI_ltF, nI_leT, nI_leF, nI_eqT, nI_eqF, en_Tokens_cutOne, gfC, gfM, ev_r0, ev_r1, eq_self, n_m1e, true_and, and_true, false_and, and_false, and_self, not_true_eq_false, not_false_eq_true, bl80, h80, ce_Tokens_isLetter, a1]
    rw [a3]
    simp (disch := first | assumption | omega | decide | (simp only [ma_wd0, ma_wdi, ma_wdr, ma_wdl, ma_wdn] <;> omega)) only [↓reduceIte, evK, evL, evS, evA, evJ, Option.bind_some, Option.toList, List.cons_append, List.nil_append, nI_add, pk_mul, bI0, ite_not, ev_rbb, up_n, up_s, up_u, pk_us, pk_un, Nat.reduceAdd, nI_ltT, nI_ltF, nI_leT, nI_leF, nI_eqT, nI_eqF, bk_Tokens_cutOne, gfC, gfM, ev_r0, ev_r1, eq_self, n_m1e, true_and, and_true, false_and, and_false, and_self, not_true_eq_false, not_false_eq_true, ce_Tokens_keyword, a4, ce_Tokens_add, a5]
  · rw [bI_f z] at a1
    by_cases z2 : isDg (b s)
    · obtain ⟨e, e1, e2, e3, e4⟩ := run_ex isDg b n (n - (s + 1)) (s + 1) (by omega)
      have hall : ∀ j, s ≤ j → j < e → isDg (b j) := fun j g1 g2 => by
        by_cases q : j = s
        · rw [q]; exact z2
        · exact e3 j (by omega) g2
      have hdv : dv b s (min 4 (e - s)) < 10000 := by
        have h4 := dv_lt b s (min 4 (e - s)) (fun j hj => hall (s + j) (by omega) (by omega))
        have : 10 ^ (min 4 (e - s)) ≤ 10 ^ 4 := Nat.pow_le_pow_right (by decide) (by omega)
        omega
      rw [bI_t z2] at a2
      have a3 := fun m => t_dig (sc := sc) (w := w) (m := m) (d + 9) s e none ht e2 e4 (e - (s + 1)) (s + 1) (by omega) e3
      have a4 := fun d m => t_number (sc := sc) (w := w) (m := m) d s e ht (by omega) e2 hall
      have a6 : nI e - nI s = nI (e - s) := pk_sub (by omega)
      by_cases q : 4 < e - s
      · refine ⟨(2, s, dv b s (min 4 (e - s)), e), ⟨Nat.le_refl _, fun j g1 g2 => absurd (Nat.lt_of_le_of_lt g1 g2) (Nat.lt_irrefl _), Or.inr ⟨hs, hbl, by show s < e; omega, e2, Or.inr (Or.inl ⟨z, z2, hall, e4, by show 2 = (if 4 < e - s then 2 else 1); rw [if_pos q], rfl⟩)⟩⟩, by show (2 : Nat) ≠ 0; omega, by show (2 : Nat) < 281; omega, hdv, by show s < e; omega, e2, _, fun m => ?_, adT_F, hl.push⟩
        have a5 := fun d m => t_add (sc := sc) (w := w) (m := m) d L.length (nI 2) (nI s) (nI (dv b s (min 4 (e - s)))) hl.1 hL
        simp (disch := first | assumption | omega | decide | (simp only [ma_wd0, ma_wdi, ma_wdr, ma_wdl, ma_wdn] <;> omega)) only [↓reduceIte, evK, evL, evS, evA, evJ, Option.bind_some, Option.toList, List.cons_append, List.nil_append, nI_add, pk_mul, bI0, ite_not, ev_rbb, up_n, up_s, up_u, pk_us, pk_un, Nat.reduceAdd, nI_ltT, nI_ltF, nI_leT, nI_leF, nI_eqT, nI_eqF, en_Tokens_cutOne, bk_Tokens_cutOne, gfC, gfM, ev_r0, ev_r1, eq_self, n_m1e, true_and, and_true, false_and, and_false, and_self, not_true_eq_false, not_false_eq_true, bl80, h80, ce_Tokens_isLetter, a1, ce_Tokens_isDigit, a2]
        rw [a3]
        simp (disch := first | assumption | omega | decide | (simp only [ma_wd0, ma_wdi, ma_wdr, ma_wdl, ma_wdn] <;> omega)) only [↓reduceIte, evK, evL, evS, evA, evJ, Option.bind_some, Option.toList, List.cons_append, List.nil_append, nI_add, pk_mul, bI0, ite_not, ev_rbb, up_n, up_s, up_u, pk_us, pk_un, Nat.reduceAdd, nI_ltT, nI_ltF, nI_leT, nI_leF, nI_eqT, nI_eqF, bk_Tokens_cutOne, gfC, gfM, ev_r0, ev_r1, eq_self, n_m1e, true_and, and_true, false_and, and_false, and_self, not_true_eq_false, not_false_eq_true, a6, ce_Tokens_number, a4, ce_Tokens_add, a5]
      · refine ⟨(1, s, dv b s (min 4 (e - s)), e), ⟨Nat.le_refl _, fun j g1 g2 => absurd (Nat.lt_of_le_of_lt g1 g2) (Nat.lt_irrefl _), Or.inr ⟨hs, hbl, by show s < e; omega, e2, Or.inr (Or.inl ⟨z, z2, hall, e4, by show 1 = (if 4 < e - s then 2 else 1); rw [if_neg q], rfl⟩)⟩⟩, by show (1 : Nat) ≠ 0; omega, by show (1 : Nat) < 281; omega, hdv, by show s < e; omega, e2, _, fun m => ?_, adT_F, hl.push⟩
        have a5 := fun d m => t_add (sc := sc) (w := w) (m := m) d L.length (nI 1) (nI s) (nI (dv b s (min 4 (e - s)))) hl.1 hL
        simp (disch := first | assumption | omega | decide | (simp only [ma_wd0, ma_wdi, ma_wdr, ma_wdl, ma_wdn] <;> omega)) only [↓reduceIte, evK, evL, evS, evA, evJ, Option.bind_some, Option.toList, List.cons_append, List.nil_append, nI_add, pk_mul, bI0, ite_not, ev_rbb, up_n, up_s, up_u, pk_us, pk_un, Nat.reduceAdd, nI_ltT, nI_ltF, nI_leT, nI_leF, nI_eqT, nI_eqF, en_Tokens_cutOne, bk_Tokens_cutOne, gfC, gfM, ev_r0, ev_r1, eq_self, n_m1e, true_and, and_true, false_and, and_false, and_self, not_true_eq_false, not_false_eq_true, bl80, h80, ce_Tokens_isLetter, a1, ce_Tokens_isDigit, a2]
        rw [a3]
        simp (disch := first | assumption | omega | decide | (simp only [ma_wd0, ma_wdi, ma_wdr, ma_wdl, ma_wdn] <;> omega)) only [↓reduceIte, evK, evL, evS, evA, evJ, Option.bind_some, Option.toList, List.cons_append, List.nil_append, nI_add, pk_mul, bI0, ite_not, ev_rbb, up_n, up_s, up_u, pk_us, pk_un, Nat.reduceAdd, nI_ltT, nI_ltF, nI_leT, nI_leF, nI_eqT, nI_eqF, bk_Tokens_cutOne, gfC, gfM, ev_r0, ev_r1, eq_self, n_m1e, true_and, and_true, false_and, and_false, and_self, not_true_eq_false, not_false_eq_true, a6, ce_Tokens_number, a4, ce_Tokens_add, a5]
    · rw [bI_f z2] at a2
      have a3 := sB_and (b s) hb.1
      have a4 : (sgI (b s) < nI 0) = ¬ isSg (b s) := propext (sgI_lt (b s) hb.1)
      by_cases q : isSg (b s)
      · refine ⟨(b s, s, 0, s + 1), ⟨Nat.le_refl _, fun j g1 g2 => absurd (Nat.lt_of_le_of_lt g1 g2) (Nat.lt_irrefl _), Or.inr ⟨hs, hbl, by show s < s + 1; omega, by show s + 1 ≤ n; omega, Or.inr (Or.inr ⟨z, z2, rfl, by show b s = (if isSg (b s) then b s else 2); rw [if_pos q], rfl⟩)⟩⟩, by show b s ≠ 0; unfold isSg at q; omega, by show b s < 281; omega, by show 0 < 10000; omega, by show s < s + 1; omega, by show s + 1 ≤ n; omega, _, fun m => ?_, adT_F, hl.push⟩
        have a5 := fun d m => t_add (sc := sc) (w := w) (m := m) d L.length (nI (b s)) (nI s) (nI 0) hl.1 hL
        have a4' : (sgI (b s) < nI 0) = False := by rw [a4]; exact eq_false (not_not_intro q)
        simp (disch := first | assumption | omega | decide | (simp only [ma_wd0, ma_wdi, ma_wdr, ma_wdl, ma_wdn] <;> omega)) only [↓reduceIte, evK, evL, evS, evA, evJ, Option.bind_some, Option.toList, List.cons_append, List.nil_append, nI_add, pk_mul, bI0, ite_not, ev_rbb, up_n, up_s, up_u, pk_us, pk_un, Nat.reduceAdd, nI_ltT, nI_ltF, nI_leT, nI_leF, nI_eqT, nI_eqF, en_Tokens_cutOne, bk_Tokens_cutOne, gfC, gfM, ev_r0, ev_r1, eq_self, n_m1e, true_and, and_true, false_and, and_false, and_self, not_true_eq_false, not_false_eq_true, bl80, h80, ce_Tokens_isLetter, a1, ce_Tokens_isDigit, a2, a3, ev_s1, ev_ti, a4', ce_Tokens_add, a5]
      · refine ⟨(2, s, 0, s + 1), ⟨Nat.le_refl _, fun j g1 g2 => absurd (Nat.lt_of_le_of_lt g1 g2) (Nat.lt_irrefl _), Or.inr ⟨hs, hbl, by show s < s + 1; omega, by show s + 1 ≤ n; omega, Or.inr (Or.inr ⟨z, z2, rfl, by show 2 = (if isSg (b s) then b s else 2); rw [if_neg q], rfl⟩)⟩⟩, by show (2 : Nat) ≠ 0; omega, by show (2 : Nat) < 281; omega, by show 0 < 10000; omega, by show s < s + 1; omega, by show s + 1 ≤ n; omega, _, fun m => ?_, adT_F, hl.push⟩
        have a5 := fun d m => t_add (sc := sc) (w := w) (m := m) d L.length (nI 2) (nI s) (nI 0) hl.1 hL
        have a4' : (sgI (b s) < nI 0) = True := by rw [a4]; exact eq_true q
        simp (disch := first | assumption | omega | decide | (simp only [ma_wd0, ma_wdi, ma_wdr, ma_wdl, ma_wdn] <;> omega)) only [↓reduceIte, evK, evL, evS, evA, evJ, Option.bind_some, Option.toList, List.cons_append, List.nil_append, nI_add, pk_mul, bI0, ite_not, ev_rbb, up_n, up_s, up_u, pk_us, pk_un, Nat.reduceAdd, nI_ltT, nI_ltF, nI_leT, nI_leF, nI_eqT, nI_eqF, en_Tokens_cutOne, bk_Tokens_cutOne, gfC, gfM, ev_r0, ev_r1, eq_self, n_m1e, true_and, and_true, false_and, and_false, and_self, not_true_eq_false, not_false_eq_true, bl80, h80, ce_Tokens_isLetter, a1, ce_Tokens_isDigit, a2, a3, ev_s1, ev_ti, a4', ce_Tokens_add, a5]
end CU
