/-! ===== text: tokens (T 0 kind, T 1 place, T 2 value, T 3 where the next begins), as both hold them ===== -/
def tkS (k : Nat) : Prop := k = 59 ∨ k = 43 ∨ k = 45 ∨ k = 42 ∨ k = 47 ∨ k = 40 ∨ k = 41 ∨ k = 60 ∨ k = 61 ∨ k = 62
def tkp (k : Nat) : Nat := if k < 260 then k - 256 else if k < 267 then k - 252 else if k < 271 then k - 263 else if k < 273 then k - 256 else if k < 276 then k - 255 else if k = 276 then 17 else k - 256
/-- a token in the reference's two fields -/
def mT (k v : Nat) (t x : Int32) : Prop := (k = 0 ∧ t = nI 0) ∨ (k = 1 ∧ t = nI 3 ∧ x = nI v) ∨ (k = 2 ∧ t = nI 1) ∨ (tkS k ∧ t = nI 4 ∧ x = nI k) ∨ (256 ≤ k ∧ k < 281 ∧ t = nI 2 ∧ x = nI (tkp k))
def tOK (N : Nat) (T : Nat → Nat → Nat) : Prop := 0 < N ∧ N ≤ 401 ∧ ∀ i, i < N → (T 0 i = 0 ↔ i + 1 = N) ∧ T 0 i < 281 ∧ T 1 i ≤ 400 ∧ T 2 i < 10000 ∧ T 3 i ≤ 400
def tkC (N : Nat) (T : Nat → Nat → Nat) (c : Nat → Nat → Int32) : Prop := c 79 5 = nI N ∧ ∀ i, i < N → c 81 i = nI (T 0 i) ∧ c 82 i = nI (T 1 i) ∧ c 83 i = nI (T 2 i)
theorem tOK.nx {N : Nat} {T : Nat → Nat → Nat} (h : tOK N T) {i : Nat} (hi : i < N) (h0 : T 0 i ≠ 0) : i + 1 < N := by
  have := (h.2.2 i hi).1
  omega
/-- the class: where it reads, what it has put -/
def cA (N : Nat) (T : Nat → Nat → Nat) (i : Nat) (acc : List lA) (c : Nat → Nat → Int32) : Prop := tkC N T c ∧ c 79 6 = nI i ∧ i < N ∧ c 79 7 = nI 0 ∧ c 79 8 = -1 ∧ c 85 1 = nI acc.length ∧ lA_at (c 90) 0 acc
def cX (f p : Nat) (c : Nat → Nat → Int32) : Prop := c 79 7 = nI f ∧ c 79 8 = nI p ∧ ∃ k, k ≤ 400 ∧ c 85 1 = nI k
def cF (c c' : Nat → Nat → Int32) : Prop := (∀ k, k ≠ 79 → k ≠ 85 → k ≠ 90 → c' k = c k) ∧ (∀ j, j ≠ 6 → j ≠ 7 → j ≠ 8 → c' 79 j = c 79 j) ∧ ∀ j, j ≠ 1 → c' 85 j = c 85 j
theorem cF.rf {c : Nat → Nat → Int32} : cF c c := ⟨fun _ _ _ _ => rfl, fun _ _ _ _ => rfl, fun _ _ => rfl⟩
theorem cF.tr {a b c : Nat → Nat → Int32} (h : cF a b) (g : cF b c) : cF a c := ⟨fun k x y z => (g.1 k x y z).trans (h.1 k x y z), fun j x y z => (g.2.1 j x y z).trans (h.2.1 j x y z), fun j x => (g.2.2 j x).trans (h.2.2 j x)⟩
theorem cF.tk {N : Nat} {T : Nat → Nat → Nat} {c c' : Nat → Nat → Int32} (h : cF c c') (t : tkC N T c) : tkC N T c' := by
  unfold tkC at *
  rw [h.2.1 5 (by omega) (by omega) (by omega), h.1 81 (by omega) (by omega) (by omega), h.1 82 (by omega) (by omega) (by omega), h.1 83 (by omega) (by omega) (by omega)]
  exact t
/-- outcomes: what was put and where it reads on; or fault and place -/
abbrev oR : Type := (List lA × Nat) ⊕ (Nat × Nat)
def oB : oR → Int32
  | .inl _ => nI 1
  | .inr _ => nI 0
def oV : oR → Int32
  | .inl _ => nI 0
  | .inr _ => -1
def oC (N : Nat) (T : Nat → Nat → Nat) (acc : List lA) (r : oR) (c : Nat → Nat → Int32) : Prop := match r with
  | .inl (as, i) => cA N T i (acc ++ as) c
  | .inr (f, p) => cX f p c
/-- an outcome's length: each token gives one code of the reference at most; q ones waited -/
def oL (i q N : Nat) (r : oR) : Prop := match r with
  | .inl (as, j) => i ≤ j ∧ j < N ∧ as.length + i ≤ j + q ∧ (as.flatMap lB_x).length + i ≤ j + q
  | .inr (f, p) => 1 ≤ f ∧ f ≤ 3 ∧ p ≤ 400
def lQ (acc : List lA) (q i : Nat) : Prop := acc.length + q ≤ i ∧ (acc.flatMap lB_x).length + q ≤ i
/-- an outcome's kinds of values -/
def oT (b : Bool) (st : List Bool) (D : Nat) (r : oR) : Prop := match r with
  | .inl (as, _) => ∀ t : List Bool, t.length + D ≤ 32 → lA_T as (st ++ t) = some (b :: t)
  | .inr _ => True
theorem lA_T_app : ∀ (as bs : List lA) (t : List Bool), lA_T (as ++ bs) t = (lA_T as t).bind (lA_T bs)
  | [], _, _ => rfl
  | a :: as, bs, t => by
    simp only [List.cons_append, lA_T]
    split
    · split
      · exact lA_T_app as bs _
      · rfl
    · rfl
def qC (sc : Nat × (Nat → Int32)) (w : Nat → Int64) (N : Nat) (T : Nat → Nat → Nat) (d mm : Nat) (as : List Value) (acc : List lA) (r : oR) (c : Nat → Nat → Int32) : Prop := ∃ c', (∀ m0, cc sc d mm as (hp c w m0) = some (some (.int (oB r)), hp c' w m0)) ∧ cF c c' ∧ oC N T acc r c'
theorem n_m1e : (nI 0 = (-1 : Int32)) = False := eq_false (by decide +kernel)
theorem ev_r1 {sc : Nat × (Nat → Int32)} {d m : Nat} {is : List ma_I} {L : ma_L} {h : List ma_C} : ev sc d m ((.ireturn, [1]) :: is) L [.int (nI 1)] h = some (some (.int (nI 1)), h) := ev_rb _ (Or.inr rfl)
theorem ev_r0 {sc : Nat × (Nat → Int32)} {d m : Nat} {is : List ma_I} {L : ma_L} {h : List ma_C} : ev sc d m ((.ireturn, [1]) :: is) L [.int (nI 0)] h = some (some (.int (nI 0)), h) := ev_rb _ (Or.inl rfl)
section TC
variable {sc : Nat × (Nat → Int32)} {c m : Nat → Nat → Int32} {w : Nat → Int64} {N i : Nat} {T : Nat → Nat → Nat} {acc : List lA}
theorem t_now (d : Nat) (hT : tOK N T) (h : tkC N T c) (h6 : c 79 6 = nI i) (hi : i < N) : cc sc d 130 [.ref 79] (hp c w m) = some (some (.int (nI (T 0 i))), hp c w m) := by
  have h5 := h.1
  have hN := hT.2.1
  have hk := (h.2 i hi).1
  simp (disch := first | assumption | omega | decide | (simp only [ma_wd0, ma_wdi, ma_wdr, ma_wdl, ma_wdn] <;> omega)) only [↓reduceIte, evK, evL, evS, evA, evJ, Option.bind_some, Option.toList, List.cons_append, List.nil_append, nI_add, pk_mul, bI0, ite_not, ev_rbb, up_n, up_s, up_u, pk_us, pk_un, Nat.reduceAdd, nI_ltT, nI_ltF, nI_leT, nI_leF, nI_eqT, nI_eqF, en_Tokens_now, bk_Tokens_now, gfC, ldC, h5, h6, hk]
theorem t_amount (d : Nat) (hT : tOK N T) (h : tkC N T c) (h6 : c 79 6 = nI i) (hi : i < N) : cc sc d 133 [.ref 79] (hp c w m) = some (some (.int (nI (T 2 i))), hp c w m) := by
  have h5 := h.1
  have hN := hT.2.1
  have hk := (h.2 i hi).2.2
  simp (disch := first | assumption | omega | decide | (simp only [ma_wd0, ma_wdi, ma_wdr, ma_wdl, ma_wdn] <;> omega)) only [↓reduceIte, evK, evL, evS, evA, evJ, Option.bind_some, Option.toList, List.cons_append, List.nil_append, nI_add, pk_mul, bI0, ite_not, ev_rbb, up_n, up_s, up_u, pk_us, pk_un, Nat.reduceAdd, nI_ltT, nI_ltF, nI_leT, nI_leF, nI_eqT, nI_eqF, en_Tokens_amount, bk_Tokens_amount, gfC, ldC, h5, h6, hk]
def skC (i : Nat) (c : Nat → Nat → Int32) : Nat → Nat → Int32 := va_up c 79 (upd (c 79) 6 (nI (i + 1)))
theorem t_skip (d : Nat) (h6 : c 79 6 = nI i) : cc sc d 132 [.ref 79] (hp c w m) = some (none, hp (skC i c) w m) := by
  unfold skC
  simp (disch := first | assumption | omega | decide | (simp only [ma_wd0, ma_wdi, ma_wdr, ma_wdl, ma_wdn] <;> omega)) only [↓reduceIte, evK, evL, evS, evA, evJ, Option.bind_some, Option.toList, List.cons_append, List.nil_append, nI_add, pk_mul, bI0, ite_not, ev_rbb, up_n, up_s, up_u, pk_us, pk_un, Nat.reduceAdd, nI_ltT, nI_ltF, nI_leT, nI_leF, nI_eqT, nI_eqF, en_Tokens_skip, gfC, pfC, h6]
def flC (T : Nat → Nat → Nat) (i f : Nat) (c : Nat → Nat → Int32) : Nat → Nat → Int32 := va_up c 79 (upd (upd (c 79) 7 (nI f)) 8 (nI (T 1 i)))
theorem t_fail (d f : Nat) (hT : tOK N T) (h : tkC N T c) (h6 : c 79 6 = nI i) (hi : i < N) : cc sc d 131 [.ref 79, .int (nI f)] (hp c w m) = some (some (.int (nI 0)), hp (flC T i f c) w m) := by
  have h5 := h.1
  have hN := hT.2.1
  have hk := (h.2 i hi).2.1
  unfold flC
  simp (disch := first | assumption | omega | decide | (simp only [ma_wd0, ma_wdi, ma_wdr, ma_wdl, ma_wdn] <;> omega)) only [↓reduceIte, evK, evL, evS, evA, evJ, Option.bind_some, Option.toList, List.cons_append, List.nil_append, nI_add, pk_mul, bI0, ite_not, ev_rbb, up_n, up_s, up_u, pk_us, pk_un, Nat.reduceAdd, nI_ltT, nI_ltF, nI_leT, nI_leF, nI_eqT, nI_eqF, en_Tokens_fail, bk_Tokens_fail, gfC, gfM, ev_r0, ev_r1, eq_self, n_m1e, true_and, and_true, false_and, and_false, and_self, not_true_eq_false, not_false_eq_true, pfC, ldC, h5, h6, hk]
theorem flC_F (f : Nat) : cF c (flC T i f c) := by
  refine ⟨fun k a _ _ => up_n _ _ _ _ a, fun j a b e => ?_, fun j _ => by unfold flC; rw [up_n _ _ _ _ (by omega)]⟩
  unfold flC
  rw [up_s, pk_un e, pk_un b]
theorem flC_X (f : Nat) (h : ∃ k, k ≤ 400 ∧ c 85 1 = nI k) : cX f (T 1 i) (flC T i f c) := by
  refine ⟨?_, ?_, ?_⟩
  · unfold flC; rw [up_s, pk_un (by omega), pk_us]
  · unfold flC; rw [up_s, pk_us]
  · unfold flC; rw [up_n _ _ _ _ (by omega)]; exact h
theorem skC_F : cF c (skC i c) := by
  refine ⟨fun k a _ _ => up_n _ _ _ _ a, fun j a b e => ?_, fun j _ => by unfold skC; rw [up_n _ _ _ _ (by omega)]⟩
  unfold skC
  rw [up_s, pk_un a]
theorem cA.sk (h : cA N T i acc c) (hi : i + 1 < N) : cA N T (i + 1) acc (skC i c) := by
  obtain ⟨h1, h2, h3, h4, h5, h6, h7⟩ := h
  refine ⟨skC_F.tk h1, ?_, hi, ?_, ?_, ?_, ?_⟩
  · unfold skC; rw [up_s, pk_us]
  · unfold skC; rw [up_s, pk_un (by omega)]; exact h4
  · unfold skC; rw [up_s, pk_un (by omega)]; exact h5
  · unfold skC; rw [up_n _ _ _ _ (by omega)]; exact h6
  · unfold skC; rw [up_n _ _ _ _ (by omega)]; exact h7
/-- a step is put -/
def ptC (k : Nat) (a : lA) (c : Nat → Nat → Int32) : Nat → Nat → Int32 := va_up (va_up c 90 (upd (c 90) k (nI (16 * a.2 + a.1)))) 85 (upd (c 85) 1 (nI (k + 1)))
theorem t_put (d k : Nat) (a : lA) (h : c 85 1 = nI k) (hk : k < 400) (ha : a.2 < 10000) (ha2 : a.1 < 16) : cc sc d 59 [.ref 85, .int (nI a.1), .int (nI a.2)] (hp c w m) = some (none, hp (ptC k a c) w m) := by
  have e : nI a.2 * nI 16 + nI a.1 = nI (16 * a.2 + a.1) := by
    rw [pk_mul, nI_add]
    congr 1
    omega
  have e' : nI (a.2 * 16 + a.1) = nI (16 * a.2 + a.1) := by
    congr 1
    omega
  unfold ptC
  simp (disch := first | assumption | omega | decide | (simp only [ma_wd0, ma_wdi, ma_wdr, ma_wdl, ma_wdn] <;> omega)) only [↓reduceIte, evK, evL, evS, evA, evJ, Option.bind_some, Option.toList, List.cons_append, List.nil_append, nI_add, pk_mul, bI0, ite_not, ev_rbb, up_n, up_s, up_u, pk_us, pk_un, Nat.reduceAdd, nI_ltT, nI_ltF, nI_leT, nI_leF, nI_eqT, nI_eqF, en_Law_put, bk_Law_put, gfC, pfC, stC, h, e, e']
theorem t_putX (d k : Nat) (x y : Int32) (h : c 85 1 = nI k) (hk : k ≤ 400) : ∃ c', (∀ m0, cc sc d 59 [.ref 85, .int x, .int y] (hp c w m0) = some (none, hp c' w m0)) ∧ cF c c' ∧ c' 79 = c 79 ∧ ∃ k, k ≤ 400 ∧ c' 85 1 = nI k := by
  rcases Nat.lt_or_ge k 400 with hk | hk'
  · refine ⟨va_up (va_up c 90 (upd (c 90) k (y * nI 16 + x))) 85 (upd (c 85) 1 (nI (k + 1))), fun m0 => ?_, ⟨fun j _ b e => ?_, fun j _ _ _ => ?_, fun j a => ?_⟩, ?_, k + 1, by omega, ?_⟩
    · simp (disch := first | assumption | omega | decide | (simp only [ma_wd0, ma_wdi, ma_wdr, ma_wdl, ma_wdn] <;> omega)) only [↓reduceIte, evK, evL, evS, evA, evJ, Option.bind_some, Option.toList, List.cons_append, List.nil_append, nI_add, pk_mul, bI0, ite_not, ev_rbb, up_n, up_s, up_u, pk_us, pk_un, Nat.reduceAdd, nI_ltT, nI_ltF, nI_leT, nI_leF, nI_eqT, nI_eqF, en_Law_put, bk_Law_put, gfC, pfC, stC, h]
    · rw [up_n _ _ _ _ b, up_n _ _ _ _ e]
    · rw [up_n _ _ _ _ (by omega), up_n _ _ _ _ (by omega)]
    · rw [up_s, pk_un a]
    · rw [up_n _ _ _ _ (by omega), up_n _ _ _ _ (by omega)]
    · rw [up_s, pk_us]
  · refine ⟨c, fun m0 => ?_, cF.rf, rfl, k, hk, h⟩
    simp (disch := first | assumption | omega | decide | (simp only [ma_wd0, ma_wdi, ma_wdr, ma_wdl, ma_wdn] <;> omega)) only [↓reduceIte, evK, evL, evS, evA, evJ, Option.bind_some, Option.toList, List.cons_append, List.nil_append, nI_add, pk_mul, bI0, ite_not, ev_rbb, up_n, up_s, up_u, pk_us, pk_un, Nat.reduceAdd, nI_ltT, nI_ltF, nI_leT, nI_leF, nI_eqT, nI_eqF, en_Law_put, bk_Law_put, gfC, h]
theorem ptC_F (k : Nat) (a : lA) : cF c (ptC k a c) := by
  unfold ptC
  refine ⟨fun j _ b e => ?_, fun j _ _ _ => ?_, fun j a => ?_⟩
  · rw [up_n _ _ _ _ b, up_n _ _ _ _ e]
  · rw [up_n _ _ _ _ (by omega), up_n _ _ _ _ (by omega)]
  · rw [up_s, pk_un a]
theorem lA_at_push {f : Nat → Int32} {as : List lA} {a : lA} (h : lA_at f 0 as) : lA_at (upd f as.length (nI (16 * a.2 + a.1))) 0 (as ++ [a]) := by
  intro j b hj
  rw [Nat.zero_add]
  by_cases e : j < as.length
  · rw [List.getElem?_append_left e] at hj
    rw [pk_un (by omega)]
    have := h j b hj
    rwa [Nat.zero_add] at this
  · rw [List.getElem?_append_right (by omega)] at hj
    have h0 : j - as.length < 1 := (List.getElem?_eq_some_iff.mp hj).1
    have : j = as.length := by omega
    subst this
    simp at hj
    subst hj
    exact pk_us
theorem cA.pt (h : cA N T i acc c) (a : lA) : cA N T i (acc ++ [a]) (ptC acc.length a c) := by
  obtain ⟨h1, h2, h3, h4, h5, h6, h7⟩ := h
  refine ⟨(ptC_F _ _).tk h1, ?_, h3, ?_, ?_, ?_, ?_⟩
  · unfold ptC; rw [up_n _ _ _ _ (by omega), up_n _ _ _ _ (by omega)]; exact h2
  · unfold ptC; rw [up_n _ _ _ _ (by omega), up_n _ _ _ _ (by omega)]; exact h4
  · unfold ptC; rw [up_n _ _ _ _ (by omega), up_n _ _ _ _ (by omega)]; exact h5
  · unfold ptC; rw [up_s, pk_us, List.length_append]; rfl
  · unfold ptC; rw [up_n _ _ _ _ (by omega), up_s]; exact lA_at_push h7
theorem cX.pt {f p : Nat} {c' : Nat → Nat → Int32} (h : cX f p c) (e : c' 79 = c 79) (h2 : ∃ k, k ≤ 400 ∧ c' 85 1 = nI k) : cX f p c' := ⟨by rw [e]; exact h.1, by rw [e]; exact h.2.1, h2⟩
/-- a step is put behind a fault: it doesn't matter -/
theorem cX.put {f p : Nat} (d : Nat) (x y : Int32) (h : cX f p c) : ∃ c', (∀ m0, cc sc d 59 [.ref 85, .int x, .int y] (hp c w m0) = some (none, hp c' w m0)) ∧ cF c c' ∧ cX f p c' := by
  obtain ⟨k, hk, hk2⟩ := h.2.2
  obtain ⟨c', r, g, e, z⟩ := t_putX (sc := sc) (w := w) d k x y hk2 hk
  exact ⟨c', r, g, h.pt e z⟩
/-- one token is taken, or there is fault 1 -/
theorem t_take (d k : Nat) (hT : tOK N T) (h : tkC N T c) (h6 : c 79 6 = nI i) (hi : i < N) (hk : k < 281) : cc sc (d + 1) 134 [.ref 79, .int (nI k)] (hp c w m) = if T 0 i = k then some (some (.int (nI 1)), hp (skC i c) w m) else some (some (.int (nI 0)), hp (flC T i 1 c) w m) := by
  have hk2 := (hT.2.2 i hi).2.1
  by_cases e : T 0 i = k
  · rw [if_pos e]
    unfold skC
    simp (disch := first | assumption | omega | decide | (simp only [ma_wd0, ma_wdi, ma_wdr, ma_wdl, ma_wdn] <;> omega)) only [↓reduceIte, evK, evL, evS, evA, evJ, Option.bind_some, Option.toList, List.cons_append, List.nil_append, nI_add, pk_mul, bI0, ite_not, ev_rbb, up_n, up_s, up_u, pk_us, pk_un, Nat.reduceAdd, nI_ltT, nI_ltF, nI_leT, nI_leF, nI_eqT, nI_eqF, en_Tokens_take, bk_Tokens_take, gfC, gfM, ev_r0, ev_r1, eq_self, n_m1e, true_and, and_true, false_and, and_false, and_self, not_true_eq_false, not_false_eq_true, pfC, ce_Tokens_now, t_now (i := i) _ hT h h6 hi, h6]
  · rw [if_neg e]
    simp (disch := first | assumption | omega | decide | (simp only [ma_wd0, ma_wdi, ma_wdr, ma_wdl, ma_wdn] <;> omega)) only [↓reduceIte, evK, evL, evS, evA, evJ, Option.bind_some, Option.toList, List.cons_append, List.nil_append, nI_add, pk_mul, bI0, ite_not, ev_rbb, up_n, up_s, up_u, pk_us, pk_un, Nat.reduceAdd, nI_ltT, nI_ltF, nI_leT, nI_leF, nI_eqT, nI_eqF, en_Tokens_take, bk_Tokens_take, gfC, gfM, ev_r0, ev_r1, eq_self, n_m1e, true_and, and_true, false_and, and_false, and_self, not_true_eq_false, not_false_eq_true, ce_Tokens_now, t_now (i := i) _ hT h h6 hi, ce_Tokens_fail, t_fail (i := i) _ 1 hT h h6 hi]
end TC
