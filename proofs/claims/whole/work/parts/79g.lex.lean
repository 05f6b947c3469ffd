/-! ===== text: tokens are cut: bytes, words ===== -/
def sB (x : Nat) : Int32 := vp_nar .byte (nI x)
abbrev isBl (x : Nat) : Prop := x = 32 ∨ x = 10
abbrev isLt (x : Nat) : Prop := (97 ≤ x ∧ x ≤ 122) ∨ (65 ≤ x ∧ x ≤ 90)
abbrev isDg (x : Nat) : Prop := 48 ≤ x ∧ x ≤ 57
abbrev isSg (x : Nat) : Prop := x = 59 ∨ x = 43 ∨ x = 45 ∨ x = 42 ∨ x = 47 ∨ x = 40 ∨ x = 41 ∨ x = 60 ∨ x = 61 ∨ x = 62
theorem sB_eq : ∀ x, x < 128 → sB x = nI x := by decide +kernel
theorem sB_ge : ∀ x, x < 256 → 128 ≤ x → sB x < nI 0 := by decide +kernel
theorem sB_32 : ∀ x, x < 256 → (sB x = nI 32 ↔ x = 32) := by decide +kernel
theorem sB_10 : ∀ x, x < 256 → (sB x = nI 10 ↔ x = 10) := by decide +kernel
theorem sB_le : ∀ k, k ∈ [97, 122, 65, 90, 48, 57] → ∀ x, x < 256 → ((nI k ≤ sB x ↔ k ≤ x ∧ x < 128) ∧ (sB x ≤ nI k ↔ x ≤ k ∨ 128 ≤ x)) := by decide +kernel
theorem sB_and : ∀ x, x < 256 → ((sB x &&& nI 255).toUInt32 % 65536).toInt32 = nI x := by decide +kernel
theorem sB_ch {x k : Nat} (hx : x < 256) (hk : k < 128) : (sB x = nI k) = (x = k) := by
  apply propext
  rcases Nat.lt_or_ge x 128 with z | z
  · rw [sB_eq x z, nI_eq (by omega) (by omega)]
  · have h := sB_ge x hx z
    constructor
    · intro e
      rw [e] at h
      exact absurd h (nI_nlt (by omega) (by omega))
    · intro e; omega
section LE
variable {sc : Nat × (Nat → Int32)} {c m : Nat → Nat → Int32} {w : Nat → Int64} {h : List ma_C}
theorem t_isBlank (d x : Nat) (hx : x < 256) : cc sc d 123 [.int (sB x)] h = some (some (.int (bI (isBl x))), h) := by
  have e1 : (sB x = nI 32) = (x = 32) := propext (sB_32 x hx)
  have e2 : (sB x = nI 10) = (x = 10) := propext (sB_10 x hx)
  by_cases z1 : x = 32
  · rw [bI_t (Or.inl z1)]
    rw [eq_true z1] at e1
    simp (disch := first | assumption | omega | decide | (simp only [ma_wd0, ma_wdi, ma_wdr, ma_wdl, ma_wdn] <;> omega)) only [↓reduceIte, evK, evL, evS, evA, evJ, Option.bind_some, Option.toList, List.cons_append, List.nil_append, nI_add, pk_mul, bI0, ite_not, ev_rbb, up_n, up_s, up_u, pk_us, pk_un, Nat.reduceAdd, nI_ltT, nI_ltF, nI_leT, nI_leF, nI_eqT, nI_eqF, en_Tokens_isBlank, bk_Tokens_isBlank, gfC, gfM, ev_r0, ev_r1, eq_self, n_m1e, true_and, and_true, false_and, and_false, and_self, not_true_eq_false, not_false_eq_true, e1, e2]
  · by_cases z2 : x = 10
    · rw [bI_t (Or.inr z2)]
      rw [eq_false z1] at e1
      rw [eq_true z2] at e2
      simp (disch := first | assumption | omega | decide | (simp only [ma_wd0, ma_wdi, ma_wdr, ma_wdl, ma_wdn] <;> omega)) only [↓reduceIte, evK, evL, evS, evA, evJ, Option.bind_some, Option.toList, List.cons_append, List.nil_append, nI_add, pk_mul, bI0, ite_not, ev_rbb, up_n, up_s, up_u, pk_us, pk_un, Nat.reduceAdd, nI_ltT, nI_ltF, nI_leT, nI_leF, nI_eqT, nI_eqF, en_Tokens_isBlank, bk_Tokens_isBlank, gfC, gfM, ev_r0, ev_r1, eq_self, n_m1e, true_and, and_true, false_and, and_false, and_self, not_true_eq_false, not_false_eq_true, e1, e2]
    · rw [bI_f (by unfold isBl; omega)]
      simp (disch := first | assumption | omega | decide | (simp only [ma_wd0, ma_wdi, ma_wdr, ma_wdl, ma_wdn] <;> omega)) only [↓reduceIte, evK, evL, evS, evA, evJ, Option.bind_some, Option.toList, List.cons_append, List.nil_append, nI_add, pk_mul, bI0, ite_not, ev_rbb, up_n, up_s, up_u, pk_us, pk_un, Nat.reduceAdd, nI_ltT, nI_ltF, nI_leT, nI_leF, nI_eqT, nI_eqF, en_Tokens_isBlank, bk_Tokens_isBlank, gfC, gfM, ev_r0, ev_r1, eq_self, n_m1e, true_and, and_true, false_and, and_false, and_self, not_true_eq_false, not_false_eq_true, e1, e2, z1, z2]
theorem sB_ltp {k x : Nat} (hk : k ∈ [97, 122, 65, 90, 48, 57]) (hx : x < 256) : (sB x < nI k) = ¬ (k ≤ x ∧ x < 128) := by
  rw [← (sB_le k hk x hx).1]
  apply propext
  rw [Int32.lt_iff_toInt_lt, Int32.le_iff_toInt_le]
  omega
theorem sB_gtp {k x : Nat} (hk : k ∈ [97, 122, 65, 90, 48, 57]) (hx : x < 256) : (nI k < sB x) = ¬ (x ≤ k ∨ 128 ≤ x) := by
  rw [← (sB_le k hk x hx).2]
  apply propext
  rw [Int32.lt_iff_toInt_lt, Int32.le_iff_toInt_le]
  omega
theorem sB_lep {k x : Nat} (hk : k ∈ [97, 122, 65, 90, 48, 57]) (hx : x < 256) : (sB x ≤ nI k) = (x ≤ k ∨ 128 ≤ x) := propext (sB_le k hk x hx).2
theorem t_isLetter (d x : Nat) (hx : x < 256) : cc sc d 125 [.int (sB x)] h = some (some (.int (bI (isLt x))), h) := by
  have e1 := sB_ltp (k := 97) (by decide) hx
  have e2 := sB_lep (k := 122) (by decide) hx
  have e3 := sB_ltp (k := 65) (by decide) hx
  have e4 := sB_lep (k := 90) (by decide) hx
  by_cases z1 : 97 ≤ x ∧ x ≤ 122
  · rw [bI_t (Or.inl z1)]
    have y1 : (¬ (97 ≤ x ∧ x < 128)) = False := eq_false (by omega)
    have y2 : (x ≤ 122 ∨ 128 ≤ x) = True := eq_true (by omega)
    rw [y1] at e1
    rw [y2] at e2
    simp (disch := first | assumption | omega | decide | (simp only [ma_wd0, ma_wdi, ma_wdr, ma_wdl, ma_wdn] <;> omega)) only [↓reduceIte, evK, evL, evS, evA, evJ, Option.bind_some, Option.toList, List.cons_append, List.nil_append, nI_add, pk_mul, bI0, ite_not, ev_rbb, up_n, up_s, up_u, pk_us, pk_un, Nat.reduceAdd, nI_ltT, nI_ltF, nI_leT, nI_leF, nI_eqT, nI_eqF, en_Tokens_isLetter, bk_Tokens_isLetter, gfC, gfM, ev_r0, ev_r1, eq_self, n_m1e, true_and, and_true, false_and, and_false, and_self, not_true_eq_false, not_false_eq_true, e1, e2]
  · by_cases z2 : 65 ≤ x ∧ x ≤ 90
    · rw [bI_t (Or.inr z2)]
      have y1 : (¬ (97 ≤ x ∧ x < 128)) = True := eq_true (by omega)
      have y3 : (¬ (65 ≤ x ∧ x < 128)) = False := eq_false (by omega)
      have y4 : (x ≤ 90 ∨ 128 ≤ x) = True := eq_true (by omega)
      rw [y1] at e1
      rw [y3] at e3
      rw [y4] at e4
      simp (disch := first | assumption | omega | decide | (simp only [ma_wd0, ma_wdi, ma_wdr, ma_wdl, ma_wdn] <;> omega)) only [↓reduceIte, evK, evL, evS, evA, evJ, Option.bind_some, Option.toList, List.cons_append, List.nil_append, nI_add, pk_mul, bI0, ite_not, ev_rbb, up_n, up_s, up_u, pk_us, pk_un, Nat.reduceAdd, nI_ltT, nI_ltF, nI_leT, nI_leF, nI_eqT, nI_eqF, en_Tokens_isLetter, bk_Tokens_isLetter, gfC, gfM, ev_r0, ev_r1, eq_self, n_m1e, true_and, and_true, false_and, and_false, and_self, not_true_eq_false, not_false_eq_true, e1, e3, e4]
    · rw [bI_f (by unfold isLt; omega)]
      by_cases y1 : 97 ≤ x ∧ x < 128
      · have y2 : (x ≤ 122 ∨ 128 ≤ x) = False := eq_false (by omega)
        have y3 : (¬ (65 ≤ x ∧ x < 128)) = False := eq_false (by omega)
        have y4 : (x ≤ 90 ∨ 128 ≤ x) = False := eq_false (by omega)
        rw [eq_true y1] at e1
        rw [y2] at e2
        rw [y3] at e3
        rw [y4] at e4
        simp (disch := first | assumption | omega | decide | (simp only [ma_wd0, ma_wdi, ma_wdr, ma_wdl, ma_wdn] <;> omega)) only [↓reduceIte, evK, evL, evS, evA, evJ, Option.bind_some, Option.toList, List.cons_append, List.nil_append, nI_add, pk_mul, bI0, ite_not, ev_rbb, up_n, up_s, up_u, pk_us, pk_un, Nat.reduceAdd, nI_ltT, nI_ltF, nI_leT, nI_leF, nI_eqT, nI_eqF, en_Tokens_isLetter, bk_Tokens_isLetter, gfC, gfM, ev_r0, ev_r1, eq_self, n_m1e, true_and, and_true, false_and, and_false, and_self, not_true_eq_false, not_false_eq_true, e1, e2, e3, e4]
      · rw [eq_false y1] at e1
        by_cases y3 : 65 ≤ x ∧ x < 128
        · have y4 : (x ≤ 90 ∨ 128 ≤ x) = False := eq_false (by omega)
          rw [eq_true y3] at e3
          rw [y4] at e4
          simp (disch := first | assumption | omega | decide | (simp only [ma_wd0, ma_wdi, ma_wdr, ma_wdl, ma_wdn] <;> omega)) only [↓reduceIte, evK, evL, evS, evA, evJ, Option.bind_some, Option.toList, List.cons_append, List.nil_append, nI_add, pk_mul, bI0, ite_not, ev_rbb, up_n, up_s, up_u, pk_us, pk_un, Nat.reduceAdd, nI_ltT, nI_ltF, nI_leT, nI_leF, nI_eqT, nI_eqF, en_Tokens_isLetter, bk_Tokens_isLetter, gfC, gfM, ev_r0, ev_r1, eq_self, n_m1e, true_and, and_true, false_and, and_false, and_self, not_true_eq_false, not_false_eq_true, e1, e3, e4]
        · rw [eq_false y3] at e3
          simp (disch := first | assumption | omega | decide | (simp only [ma_wd0, ma_wdi, ma_wdr, ma_wdl, ma_wdn] <;> omega)) only [↓reduceIte, evK, evL, evS, evA, evJ, Option.bind_some, Option.toList, List.cons_append, List.nil_append, nI_add, pk_mul, bI0, ite_not, ev_rbb, up_n, up_s, up_u, pk_us, pk_un, Nat.reduceAdd, nI_ltT, nI_ltF, nI_leT, nI_leF, nI_eqT, nI_eqF, en_Tokens_isLetter, bk_Tokens_isLetter, gfC, gfM, ev_r0, ev_r1, eq_self, n_m1e, true_and, and_true, false_and, and_false, and_self, not_true_eq_false, not_false_eq_true, e1, e3]
theorem t_isDigit (d x : Nat) (hx : x < 256) : cc sc d 128 [.int (sB x)] h = some (some (.int (bI (isDg x))), h) := by
  have e1 := sB_ltp (k := 48) (by decide) hx
  have e2 := sB_lep (k := 57) (by decide) hx
  by_cases z1 : 48 ≤ x ∧ x ≤ 57
  · rw [bI_t z1]
    have y1 : (¬ (48 ≤ x ∧ x < 128)) = False := eq_false (by omega)
    have y2 : (x ≤ 57 ∨ 128 ≤ x) = True := eq_true (by omega)
    rw [y1] at e1
    rw [y2] at e2
    simp (disch := first | assumption | omega | decide | (simp only [ma_wd0, ma_wdi, ma_wdr, ma_wdl, ma_wdn] <;> omega)) only [↓reduceIte, evK, evL, evS, evA, evJ, Option.bind_some, Option.toList, List.cons_append, List.nil_append, nI_add, pk_mul, bI0, ite_not, ev_rbb, up_n, up_s, up_u, pk_us, pk_un, Nat.reduceAdd, nI_ltT, nI_ltF, nI_leT, nI_leF, nI_eqT, nI_eqF, en_Tokens_isDigit, bk_Tokens_isDigit, gfC, gfM, ev_r0, ev_r1, eq_self, n_m1e, true_and, and_true, false_and, and_false, and_self, not_true_eq_false, not_false_eq_true, e1, e2]
  · rw [bI_f (by unfold isDg; omega)]
    by_cases y1 : 48 ≤ x ∧ x < 128
    · have y2 : (x ≤ 57 ∨ 128 ≤ x) = False := eq_false (by omega)
      rw [eq_true y1] at e1
      rw [y2] at e2
      simp (disch := first | assumption | omega | decide | (simp only [ma_wd0, ma_wdi, ma_wdr, ma_wdl, ma_wdn] <;> omega)) only [↓reduceIte, evK, evL, evS, evA, evJ, Option.bind_some, Option.toList, List.cons_append, List.nil_append, nI_add, pk_mul, bI0, ite_not, ev_rbb, up_n, up_s, up_u, pk_us, pk_un, Nat.reduceAdd, nI_ltT, nI_ltF, nI_leT, nI_leF, nI_eqT, nI_eqF, en_Tokens_isDigit, bk_Tokens_isDigit, gfC, gfM, ev_r0, ev_r1, eq_self, n_m1e, true_and, and_true, false_and, and_false, and_self, not_true_eq_false, not_false_eq_true, e1, e2]
    · rw [eq_false y1] at e1
      simp (disch := first | assumption | omega | decide | (simp only [ma_wd0, ma_wdi, ma_wdr, ma_wdl, ma_wdn] <;> omega)) only [↓reduceIte, evK, evL, evS, evA, evJ, Option.bind_some, Option.toList, List.cons_append, List.nil_append, nI_add, pk_mul, bI0, ite_not, ev_rbb, up_n, up_s, up_u, pk_us, pk_un, Nat.reduceAdd, nI_ltT, nI_ltF, nI_leT, nI_leF, nI_eqT, nI_eqF, en_Tokens_isDigit, bk_Tokens_isDigit, gfC, gfM, ev_r0, ev_r1, eq_self, n_m1e, true_and, and_true, false_and, and_false, and_self, not_true_eq_false, not_false_eq_true, e1]
/-! the texts of the class -/
theorem ev_s0 {d mm x : Nat} {is : List ma_I} {L : ma_L} {S : List Value} : ev sc d mm ((.ldc x, [1, 0]) :: is) L S h = ev sc d mm is L (.ref 4097 :: S) h := rv_s rfl rfl
theorem ev_s1 {d mm x : Nat} {is : List ma_I} {L : ma_L} {S : List Value} : ev sc d mm ((.ldc x, [1, 1]) :: is) L S h = ev sc d mm is L (.ref 4098 :: S) h := rv_s rfl rfl
theorem kw_len : pm_kw.length = 119 := by decide +kernel
theorem ev_tl {d mm x : Nat} {is : List ma_I} {L : ma_L} {S : List Value} (h8 : ma_wd S ≤ 8) : ev sc (d + 9) mm ((.invokevirtual x, [3, 0]) :: is) L (.ref 4097 :: S) h = ev sc (d + 9) mm is L (.int (nI 119) :: S) h := by
  refine rv_x rfl (by omega) ?_
  show ma_x pm_tx _ _ _ _ = _
  simp only [ma_x, pm_tx, kw_len]
  rw [if_pos ⟨trivial, by rw [ma_wd_eq]; omega⟩]
  rfl
theorem ev_tc {d mm x j : Nat} {is : List ma_I} {L : ma_L} {S : List Value} (hj : j < 119) (h8 : ma_wd S ≤ 8) : ev sc (d + 9) mm ((.invokevirtual x, [4, 0]) :: is) L (.int (nI j) :: .ref 4097 :: S) h = ev sc (d + 9) mm is L (.int (nI (pm_kw.getD j 0)) :: S) h := by
  refine rv_x rfl (by omega) ?_
  show ma_x pm_tx _ _ _ _ = _
  simp only [ma_x, pm_tx, kw_len]
  have e : ¬ (nI j < 0 ∨ 119 ≤ (nI j).toNatClampNeg) := nI_ix hj (by omega)
  rw [if_pos ⟨trivial, by rw [ma_wd_eq]; omega⟩, if_neg e, nI_clamp (by omega)]
  rfl
def sgI (x : Nat) : Int32 := match pm_sg.findIdx? (fun c => c == x) with
  | some n => nI n
  | none => -1
theorem sgI_tx : ∀ x, x < 256 → pm_tx 5 (nI x) = some (sgI x) := by decide +kernel
theorem sgI_lt : ∀ x, x < 256 → (sgI x < nI 0 ↔ ¬ isSg x) := by decide +kernel
theorem ev_ti {d mm x j : Nat} {is : List ma_I} {L : ma_L} {S : List Value} (hj : j < 256) (h8 : ma_wd S ≤ 8) : ev sc (d + 9) mm ((.invokevirtual x, [5, 1]) :: is) L (.int (nI j) :: .ref 4098 :: S) h = ev sc (d + 9) mm is L (.int (sgI j) :: S) h := by
  refine rv_x rfl (by omega) ?_
  show ma_x pm_tx _ _ _ _ = _
  simp only [ma_x]
  rw [if_pos ⟨trivial, by rw [ma_wd_eq]; omega⟩, show 3 * 1 + 2 = 5 from rfl, sgI_tx j hj]
end LE
/-! words -/
def slc (b : Nat → Nat) (a e : Nat) : List Nat := (List.range (e - a)).map (fun i => b (a + i))
theorem slc_nil {b : Nat → Nat} {a e : Nat} (h : e ≤ a) : slc b a e = [] := by
  unfold slc
  rw [show e - a = 0 by omega]
  rfl
theorem slc_cons {b : Nat → Nat} {a e : Nat} (h : a < e) : slc b a e = b a :: slc b (a + 1) e := by
  unfold slc
  rw [show e - a = (e - (a + 1)) + 1 by omega, List.range_succ_eq_map, List.map_cons, List.map_map]
  congr 1
  apply List.map_congr_left
  intro i _
  show b (a + (i + 1)) = b (a + 1 + i)
  congr 1
  omega
def kwF (b : Nat → Nat) (fr to : Nat) : List Nat → Nat → Option Nat → Nat
  | [], _, _ => 2
  | ch :: r, wd, al => if ch = 32 then (if al = some to then wd else kwF b fr to r (wd + 1) (some fr)) else kwF b fr to r wd (match al with
    | some a => if a < to ∧ b a = ch then some (a + 1) else none
    | none => none)
def KWs : List (List Nat) := [[119, 101, 97, 114], [115, 108, 105, 100, 101], [99, 111, 115, 116], [115, 117, 110], [99, 111, 108, 117, 109, 110], [104, 101, 105, 103, 104, 116], [119, 111, 114, 110], [104, 111, 117, 114], [100, 97, 121], [108, 101, 97, 110, 115], [98, 121], [119, 104, 101, 110], [111, 114], [97, 110, 100], [110, 111, 116], [97, 116], [115, 101, 116], [108, 105, 102, 116], [100, 114, 111, 112], [109, 101, 110, 100], [116, 111], [112, 105, 101, 114], [119, 97, 110, 116, 115], [102, 114, 111, 109], [112, 97, 121, 115]]
def KWm : List (List Nat) := [[119, 101, 97, 114], [115, 108, 105, 100, 101], [99, 111, 115, 116], [115, 117, 110], [119, 104, 101, 110], [111, 114], [97, 110, 100], [110, 111, 116], [99, 111, 108, 117, 109, 110], [104, 101, 105, 103, 104, 116], [119, 111, 114, 110], [104, 111, 117, 114], [100, 97, 121], [108, 101, 97, 110, 115], [98, 121], [97, 116], [115, 101, 116], [116, 111], [108, 105, 102, 116], [100, 114, 111, 112], [109, 101, 110, 100], [112, 105, 101, 114], [119, 97, 110, 116, 115], [102, 114, 111, 109], [112, 97, 121, 115]]
def spc (w : List Nat) : List Nat := w ++ [32]
theorem kw_all : pm_kw = KWs.flatMap spc := by decide +kernel
theorem wd_all : wdN = 32 :: KWm.flatMap spc := by decide +kernel
theorem kw_no : ∀ w ∈ KWs, ∀ x ∈ w, x ≠ 32 ∧ x < 128 := by decide +kernel
theorem km_no : ∀ w ∈ KWm, ∀ x ∈ w, x ≠ 32 ∧ x < 128 := by decide +kernel
def kwL (sl : List Nat) : List (List Nat) → Nat → Nat
  | [], _ => 2
  | w :: ws, wd => if sl = w then wd else kwL sl ws (wd + 1)
def kwM (sl : List Nat) : List (List Nat) → Nat → Option Nat
  | [], _ => none
  | w :: ws, n => if sl = w then some n else kwM sl ws (n + 1)
theorem kwF_none (b : Nat → Nat) (fr to wd : Nat) (rest : List Nat) : ∀ w : List Nat, (∀ x ∈ w, x ≠ 32) → kwF b fr to (w ++ 32 :: rest) wd none = kwF b fr to rest (wd + 1) (some fr)
  | [], _ => by simp [kwF]
  | x :: w, h => by
    have h1 := h x List.mem_cons_self
    simp only [List.cons_append, kwF, if_neg h1]
    exact kwF_none b fr to wd rest w (fun y hy => h y (List.mem_cons_of_mem _ hy))
theorem kwF_word (b : Nat → Nat) (fr to wd : Nat) (rest : List Nat) : ∀ (w : List Nat) (a : Nat), (∀ x ∈ w, x ≠ 32) → a ≤ to → kwF b fr to (w ++ 32 :: rest) wd (some a) = if slc b a to = w then wd else kwF b fr to rest (wd + 1) (some fr)
  | [], a, _, ha => by
    by_cases e : a = to
    · subst e
      rw [slc_nil (Nat.le_refl _), if_pos rfl]
      simp [kwF]
    · rw [slc_cons (by omega), if_neg (by simp)]
      simp [kwF, e]
  | x :: w, a, h, ha => by
    have h1 := h x List.mem_cons_self
    have h2 : ∀ y ∈ w, y ≠ 32 := fun y hy => h y (List.mem_cons_of_mem _ hy)
    simp only [List.cons_append, kwF, if_neg h1]
    by_cases e : a < to ∧ b a = x
    · rw [if_pos e, kwF_word b fr to wd rest w (a + 1) h2 (by omega), slc_cons e.1, e.2]
      simp
    · rw [if_neg e, kwF_none b fr to wd rest w h2, if_neg]
      intro z
      by_cases q : a < to
      · rw [slc_cons q] at z
        have := (List.cons.inj z).1
        exact e ⟨q, this⟩
      · rw [slc_nil (by omega)] at z
        cases z
theorem kwF_all (b : Nat → Nat) (fr to : Nat) (hft : fr ≤ to) : ∀ (ws : List (List Nat)) (wd : Nat), (∀ w ∈ ws, ∀ x ∈ w, x ≠ 32) → kwF b fr to (ws.flatMap spc) wd (some fr) = kwL (slc b fr to) ws wd
  | [], wd, _ => rfl
  | w :: ws, wd, h => by
    rw [List.flatMap_cons, spc, List.append_assoc, List.singleton_append, kwF_word b fr to wd _ w fr (h w List.mem_cons_self) hft, kwL, kwF_all b fr to hft ws (wd + 1) (fun v hv => h v (List.mem_cons_of_mem _ hv))]
theorem kwL_out {sl : List Nat} : ∀ (ws : List (List Nat)) (wd : Nat), sl ∉ ws → kwL sl ws wd = 2
  | [], _, _ => rfl
  | w :: ws, wd, h => by
    rw [kwL, if_neg (fun z => h (by rw [z]; exact List.mem_cons_self)), kwL_out ws (wd + 1) (fun z => h (List.mem_cons_of_mem _ z))]
theorem kwM_out {sl : List Nat} : ∀ (ws : List (List Nat)) (wd : Nat), sl ∉ ws → kwM sl ws wd = none
  | [], _, _ => rfl
  | w :: ws, wd, h => by
    rw [kwM, if_neg (fun z => h (by rw [z]; exact List.mem_cons_self)), kwM_out ws (wd + 1) (fun z => h (List.mem_cons_of_mem _ z))]
theorem kw_in : ∀ w ∈ KWs, 256 ≤ kwL w KWs 256 ∧ kwL w KWs 256 < 281 ∧ kwM w KWm 0 = some (tkp (kwL w KWs 256)) := by decide +kernel
theorem km_in : ∀ w ∈ KWm, w ∈ KWs := by decide +kernel
theorem kw_two (sl : List Nat) : (kwL sl KWs 256 = 2 ∧ kwM sl KWm 0 = none) ∨ (256 ≤ kwL sl KWs 256 ∧ kwL sl KWs 256 < 281 ∧ kwM sl KWm 0 = some (tkp (kwL sl KWs 256))) := by
  by_cases h : sl ∈ KWs
  · exact Or.inr (kw_in sl h)
  · exact Or.inl ⟨kwL_out _ _ h, kwM_out _ _ (fun z => h (km_in sl z))⟩
