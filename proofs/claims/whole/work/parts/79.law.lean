/-! ===== text: a line of the law ===== -/
def lF (l : lL) : List lA := l.2.1 ++ l.2.2
def lAcc (ls : List lL) : List lA := ls.flatMap lF
theorem lAcc_app (ls : List lL) (l : lL) : lAcc (ls ++ [l]) = lAcc ls ++ l.2.1 ++ l.2.2 := by
  unfold lAcc
  rw [List.flatMap_append, List.flatMap_cons, List.flatMap_nil, List.append_nil, List.append_assoc]
  rfl
def lnC (ls : List lL) (c : Nat → Nat → Int32) : Prop := c 85 0 = nI ls.length ∧ ∀ i l, ls[i]? = some l → c 86 i = nI l.1 ∧ c 87 i = nI (lAcc (ls.take i)).length ∧ c 88 i = nI ((lAcc (ls.take i)).length + l.2.1.length) ∧ c 89 i = nI ((lAcc (ls.take i)).length + l.2.1.length + l.2.2.length)
def lnM (ls : List lL) (m : Nat → Nat → Int32) : Prop := ∀ i l, ls[i]? = some l → m 149 (32 + i) = nI l.1 ∧ m 150 (32 + i) = nI ((lAcc (ls.take i)).flatMap lB_x).length ∧ m 151 (32 + i) = nI (((lAcc (ls.take i)).flatMap lB_x).length + (l.2.1.flatMap lB_x).length) ∧ m 152 (32 + i) = nI (((lAcc (ls.take i)).flatMap lB_x).length + (l.2.1.flatMap lB_x).length + (l.2.2.flatMap lB_x).length)
def cLF (c c' : Nat → Nat → Int32) : Prop := (∀ k, k ≠ 79 → (k < 85 ∨ 90 < k) → c' k = c k) ∧ ∀ j, j ≠ 6 → j ≠ 7 → j ≠ 8 → c' 79 j = c 79 j
def mLF (m m' : Nat → Nat → Int32) : Prop := (∀ k, k ≠ 138 → (k < 149 ∨ 155 < k) → m' k = m k) ∧ (∀ j, j ∉ [17, 18, 19, 20, 30, 31, 33, 34, 35] → m' 138 j = m 138 j) ∧ (∀ j, j < 800 → m' 153 j = m 153 j ∧ m' 154 j = m 154 j) ∧ ∀ j, j < 32 → m' 149 j = m 149 j ∧ m' 150 j = m 150 j ∧ m' 151 j = m 151 j ∧ m' 152 j = m 152 j
theorem cLF.tr {a b c : Nat → Nat → Int32} (h : cLF a b) (g : cLF b c) : cLF a c := ⟨fun k x y => (g.1 k x y).trans (h.1 k x y), fun j x y z => (g.2 j x y z).trans (h.2 j x y z)⟩
theorem cLF.rf {a : Nat → Nat → Int32} : cLF a a := ⟨fun _ _ _ => rfl, fun _ _ _ _ => rfl⟩
theorem cF.l {a b : Nat → Nat → Int32} (h : cF a b) : cLF a b := ⟨fun k x y => h.1 k x (by omega) (by omega), h.2.1⟩
theorem mLF.rf {a : Nat → Nat → Int32} : mLF a a := ⟨fun _ _ _ => rfl, fun _ _ => rfl, fun _ _ => ⟨rfl, rfl⟩, fun _ _ => ⟨rfl, rfl, rfl, rfl⟩⟩
theorem mLF.tr {a b c : Nat → Nat → Int32} (h : mLF a b) (g : mLF b c) : mLF a c := ⟨fun k x y => (g.1 k x y).trans (h.1 k x y), fun j x => (g.2.1 j x).trans (h.2.1 j x), fun j x => ⟨(g.2.2.1 j x).1.trans (h.2.2.1 j x).1, (g.2.2.1 j x).2.trans (h.2.2.1 j x).2⟩, fun j x => ⟨(g.2.2.2 j x).1.trans (h.2.2.2 j x).1, (g.2.2.2 j x).2.1.trans (h.2.2.2 j x).2.1, (g.2.2.2 j x).2.2.1.trans (h.2.2.2 j x).2.2.1, (g.2.2.2 j x).2.2.2.trans (h.2.2.2 j x).2.2.2⟩⟩
theorem mG.l {a b : Nat → Nat → Int32} (h : mG a b) : mLF a b := ⟨fun k x y => h.1 k x (by omega) (by omega) (by omega), h.2.1, h.2.2, fun j _ => by rw [h.1 149 (by omega) (by omega) (by omega) (by omega), h.1 150 (by omega) (by omega) (by omega) (by omega), h.1 151 (by omega) (by omega) (by omega) (by omega), h.1 152 (by omega) (by omega) (by omega) (by omega)]; exact ⟨rfl, rfl, rfl, rfl⟩⟩
theorem mLF.xK {m0 m m' : Nat → Nat → Int32} (h : mLF m m') (g : xK m0 m) : xK m0 m' := ⟨(h.2.1 16 (by decide)).trans g.1, (h.1 146 (by omega) (by omega)).trans g.2.1, (h.1 147 (by omega) (by omega)).trans g.2.2⟩
theorem lnC.F {ls : List lL} {c c' : Nat → Nat → Int32} (h : lnC ls c) (g : cF c c') : lnC ls c' := by
  unfold lnC at *
  rw [g.2.2 0 (by omega), g.1 86 (by omega) (by omega) (by omega), g.1 87 (by omega) (by omega) (by omega), g.1 88 (by omega) (by omega) (by omega), g.1 89 (by omega) (by omega) (by omega)]
  exact h
theorem lnM.G {ls : List lL} {m m' : Nat → Nat → Int32} (h : lnM ls m) (g : mG m m') : lnM ls m' := by
  unfold lnM at *
  rw [g.1 149 (by omega) (by omega) (by omega) (by omega), g.1 150 (by omega) (by omega) (by omega) (by omega), g.1 151 (by omega) (by omega) (by omega) (by omega), g.1 152 (by omega) (by omega) (by omega) (by omega)]
  exact h
section LX
variable {sc : Nat × (Nat → Int32)} {m0 : Nat → Nat → Int32} {w : Nat → Int64} {N : Nat} {T : Nat → Nat → Nat}
theorem j_any (d' i : Nat) (acc : List lA) (hT : tOK N T) (hR : rdS sc w N T m0) (hi : i < N) (h1 : 1 ≤ i) (hQ : lQ acc 0 i) : ∃ r : oR, oL i 0 N r ∧ oT true [] 22 r ∧ (∀ e c, 21 ≤ e → cA N T i acc c → qC sc w N T e 78 [.ref 84, .int (nI 0)] acc r c) ∧
    ∀ m, xK m0 m → mA N T i acc m → m 138 31 = nI 0 → ∃ m', (∀ c0, cc sc (d' + 8) 201 [.ref 138] (hp c0 w m) = some (some (.int (oV r)), hp c0 w m')) ∧ mG m m' ∧ oM N T acc r m' ∧ (oV r = nI 0 → m' 138 31 = nI 0) := by
  obtain ⟨r, l, t, hc, hm⟩ := (cnd_all (sc := sc) (w := w) (m0 := m0) d' hT hR 8).2 0 i acc (by omega) hi h1 hQ
  refine ⟨r, l, t, fun e c he h => hc e c (by omega) h, fun m hx hA h31 => ?_⟩
  have gM : mG m (va_up m 138 (upd (m 138) 33 (nI 0))) := ⟨fun k a _ _ _ => up_n _ _ _ _ a, fun j a => by rw [up_s, pk_un (mem9 a).2.2], fun j _ => ⟨by rw [up_n _ _ _ _ (by omega)], by rw [up_n _ _ _ _ (by omega)]⟩⟩
  have hA1 : mA N T i acc (va_up m 138 (upd (m 138) 33 (nI 0))) := by
    have hA : mB N T i (acc.flatMap lB_x) m := hA
    unfold mA
    unfold mB at *
    rw [up_s, pk_un (by omega), pk_un (by omega), pk_un (by omega), pk_un (by omega), pk_un (by omega), up_n _ _ _ _ (by omega), up_n _ _ _ _ (by omega)]
    exact hA
  have hP : pM [] (va_up m 138 (upd (m 138) 33 (nI 0))) := ⟨by rw [up_s, pk_us]; rfl, fun j x h => by simp at h⟩
  have := hm [] 0 none _ (gM.xK hx) hA1 hP (lastN_nil _) (lastN_nil _) (lastN_nil _) (by rw [up_s, pk_un (by omega)]; exact h31) (by omega) (by simp) (by simpa using hQ)
  cases r with
  | inr x =>
    obtain ⟨m2, q1, q2, q3⟩ := this
    refine ⟨m2, fun c0 => ?_, gM.tr q2, q3, fun z => absurd z (show ¬ (-1 : Int32) = nI 0 by decide +kernel)⟩
    have q1 := q1 c0
    unfold hAny at q1
    simp (disch := first | assumption | omega | decide | (simp only [ma_wd0, ma_wdi, ma_wdr, ma_wdl, ma_wdn] <;> omega)) only [↓reduceIte, evK, evL, evS, evA, evJ, Option.bind_some, Option.toList, List.cons_append, List.nil_append, nI_add, pk_mul, bI0, ite_not, ev_rbb, up_n, up_s, up_u, pk_us, pk_un, Nat.reduceAdd, nI_ltT, nI_ltF, nI_leT, nI_leF, nI_eqT, nI_eqF, en_MO_readAny, pfM]
    exact q1
  | inl x =>
    obtain ⟨x3, m2, q1, q2, q3, q4, q5⟩ := this
    refine ⟨m2, fun c0 => ?_, gM.tr q2, q3, fun _ => q5⟩
    have q1 := q1 c0
    unfold hAny at q1
    simp (disch := first | assumption | omega | decide | (simp only [ma_wd0, ma_wdi, ma_wdr, ma_wdl, ma_wdn] <;> omega)) only [↓reduceIte, evK, evL, evS, evA, evJ, Option.bind_some, Option.toList, List.cons_append, List.nil_append, nI_add, pk_mul, bI0, ite_not, ev_rbb, up_n, up_s, up_u, pk_us, pk_un, Nat.reduceAdd, nI_ltT, nI_ltF, nI_leT, nI_leF, nI_eqT, nI_eqF, en_MO_readAny, pfM]
    rw [q1]
    unfold hEnd
    simp (disch := first | assumption | omega | decide | (simp only [ma_wd0, ma_wdi, ma_wdr, ma_wdl, ma_wdn] <;> omega)) only [↓reduceIte, evK, evL, evS, evA, evJ, Option.bind_some, Option.toList, List.cons_append, List.nil_append, nI_add, pk_mul, bI0, ite_not, ev_rbb, up_n, up_s, up_u, pk_us, pk_un, Nat.reduceAdd, nI_ltT, nI_ltF, nI_leT, nI_leF, nI_eqT, nI_eqF, gfC, gfM, ev_r0, ev_r1, eq_self, n_m1e, true_and, and_true, false_and, and_false, and_self, not_true_eq_false, not_false_eq_true, oV]
/-- the class: a line is kept -/
def adC (k : Nat) (x y z u : Int32) (c : Nat → Nat → Int32) : Nat → Nat → Int32 := va_up (va_up (va_up (va_up (va_up c 86 (upd (c 86) k x)) 87 (upd (c 87) k y)) 88 (upd (c 88) k z)) 89 (upd (c 89) k u)) 85 (upd (c 85) 0 (nI (k + 1)))
theorem t_addLine (d k : Nat) (x y z : Int32) (c m : Nat → Nat → Int32) (h : c 85 0 = nI k) (hk : k < 16) : cc sc d 61 [.ref 85, .int x, .int y, .int z] (hp c w m) = some (none, hp (adC k x y z (c 85 1) c) w m) := by
  unfold adC
  simp (disch := first | assumption | omega | decide | (simp only [ma_wd0, ma_wdi, ma_wdr, ma_wdl, ma_wdn] <;> omega)) only [↓reduceIte, evK, evL, evS, evA, evJ, Option.bind_some, Option.toList, List.cons_append, List.nil_append, nI_add, pk_mul, bI0, ite_not, ev_rbb, up_n, up_s, up_u, pk_us, pk_un, Nat.reduceAdd, nI_ltT, nI_ltF, nI_leT, nI_leF, nI_eqT, nI_eqF, en_Law_addLine, bk_Law_addLine, gfC, pfC, stC, h]
theorem adC_L {k : Nat} {x y z u : Int32} {c : Nat → Nat → Int32} : cLF c (adC k x y z u c) := by
  unfold adC
  refine ⟨fun j a b => ?_, fun j _ _ _ => ?_⟩
  · rw [up_n _ _ _ _ (by omega), up_n _ _ _ _ (by omega), up_n _ _ _ _ (by omega), up_n _ _ _ _ (by omega), up_n _ _ _ _ (by omega)]
  · rw [up_n _ _ _ _ (by omega), up_n _ _ _ _ (by omega), up_n _ _ _ _ (by omega), up_n _ _ _ _ (by omega), up_n _ _ _ _ (by omega)]
theorem cA.ad {i k : Nat} {x y z u : Int32} {acc : List lA} {c : Nat → Nat → Int32} (h : cA N T i acc c) : cA N T i acc (adC k x y z u c) := by
  unfold cA tkC adC at *
  simp only [up_n _ 85 _ 79 (by omega), up_n _ 85 _ 81 (by omega), up_n _ 85 _ 82 (by omega), up_n _ 85 _ 83 (by omega), up_n _ 85 _ 90 (by omega), up_n _ 89 _ 79 (by omega), up_n _ 89 _ 81 (by omega), up_n _ 89 _ 82 (by omega), up_n _ 89 _ 83 (by omega), up_n _ 89 _ 90 (by omega), up_n _ 88 _ 79 (by omega), up_n _ 88 _ 81 (by omega), up_n _ 88 _ 82 (by omega), up_n _ 88 _ 83 (by omega), up_n _ 88 _ 90 (by omega), up_n _ 87 _ 79 (by omega), up_n _ 87 _ 81 (by omega), up_n _ 87 _ 82 (by omega), up_n _ 87 _ 83 (by omega), up_n _ 87 _ 90 (by omega), up_n _ 86 _ 79 (by omega), up_n _ 86 _ 81 (by omega), up_n _ 86 _ 82 (by omega), up_n _ 86 _ 83 (by omega), up_n _ 86 _ 90 (by omega), up_s, pk_un (show (1 : Nat) ≠ 0 by omega)]
  exact h
theorem lnC.push {ls : List lL} {l : lL} {c : Nat → Nat → Int32} (h : lnC ls c) : lnC (ls ++ [l]) (adC ls.length (nI l.1) (nI (lAcc ls).length) (nI ((lAcc ls).length + l.2.1.length)) (nI ((lAcc ls).length + l.2.1.length + l.2.2.length)) c) := by
  unfold adC
  refine ⟨by rw [up_s, pk_us, List.length_append]; rfl, fun i x hx => ?_⟩
  rw [up_n _ _ _ _ (by omega), up_n _ _ _ _ (by omega), up_n _ _ _ _ (by omega), up_n _ _ _ _ (by omega), up_s, up_n _ _ _ _ (by omega), up_n _ _ _ _ (by omega), up_n _ _ _ _ (by omega), up_s, up_n _ _ _ _ (by omega), up_n _ _ _ _ (by omega), up_s, up_n _ _ _ _ (by omega), up_s]
  by_cases e : i < ls.length
  · rw [List.getElem?_append_left e] at hx
    rw [List.take_append_of_le_length (by omega), pk_un (by omega), pk_un (by omega), pk_un (by omega), pk_un (by omega)]
    exact h.2 i x hx
  · rw [List.getElem?_append_right (by omega)] at hx
    have h0 : i - ls.length < 1 := (List.getElem?_eq_some_iff.mp hx).1
    have : i = ls.length := by omega
    subst this
    simp at hx
    subst hx
    rw [List.take_left, pk_us, pk_us, pk_us, pk_us]
    exact ⟨rfl, rfl, rfl, rfl⟩
/-- the reference's rows 149 .. 152 change at one place from 32 on -/
theorem mB.r {i k j : Nat} {v : Int32} {cd : List (Nat × Nat)} {m : Nat → Nat → Int32} (h : mB N T i cd m) (hk : 149 ≤ k ∧ k ≤ 152) : mB N T i cd (va_up m k (upd (m k) j v)) := by
  unfold mB at *
  rw [up_n _ _ _ _ (by omega), up_n _ _ _ _ (by omega), up_n _ _ _ _ (by omega)]
  exact h
theorem mLF.r {k j : Nat} {v : Int32} {m : Nat → Nat → Int32} (hk : 149 ≤ k ∧ k ≤ 152) (hj : 32 ≤ j) : mLF m (va_up m k (upd (m k) j v)) := by
  refine ⟨fun x a b => up_n _ _ _ _ (by omega), fun x _ => by rw [up_n _ _ _ _ (by omega)], fun x _ => by rw [up_n _ _ _ _ (by omega), up_n _ _ _ _ (by omega)]; exact ⟨rfl, rfl⟩, fun x hx => ?_⟩
  have key : ∀ r, va_up m k (upd (m k) j v) r x = m r x := by
    intro r
    by_cases e : r = k
    · subst e; rw [up_s, pk_un (by omega)]
    · rw [up_n _ _ _ _ e]
  exact ⟨key _, key _, key _, key _⟩
theorem lnM.r {ls : List lL} {k j : Nat} {v : Int32} {m : Nat → Nat → Int32} (h : lnM ls m) (hj : 32 + ls.length ≤ j) : lnM ls (va_up m k (upd (m k) j v)) := by
  intro i l hi
  have hl := (List.getElem?_eq_some_iff.mp hi).1
  have key : ∀ r, va_up m k (upd (m k) j v) r (32 + i) = m r (32 + i) := by
    intro r
    by_cases e : r = k
    · subst e; rw [up_s, pk_un (by omega)]
    · rw [up_n _ _ _ _ e]
  rw [key, key, key, key]
  exact h i l hi
theorem lnM.push {ls : List lL} {l : lL} {m : Nat → Nat → Int32} (h : lnM ls m) (h1 : m 149 (32 + ls.length) = nI l.1) (h2 : m 150 (32 + ls.length) = nI ((lAcc ls).flatMap lB_x).length) (h3 : m 151 (32 + ls.length) = nI (((lAcc ls).flatMap lB_x).length + (l.2.1.flatMap lB_x).length)) (h4 : m 152 (32 + ls.length) = nI (((lAcc ls).flatMap lB_x).length + (l.2.1.flatMap lB_x).length + (l.2.2.flatMap lB_x).length)) : lnM (ls ++ [l]) m := by
  intro i x hx
  by_cases e : i < ls.length
  · rw [List.getElem?_append_left e] at hx
    rw [List.take_append_of_le_length (by omega)]
    exact h i x hx
  · rw [List.getElem?_append_right (by omega)] at hx
    have h0 : i - ls.length < 1 := (List.getElem?_eq_some_iff.mp hx).1
    have : i = ls.length := by omega
    subst this
    simp at hx
    subst hx
    rw [List.take_left]
    exact ⟨h1, h2, h3, h4⟩
end LX
