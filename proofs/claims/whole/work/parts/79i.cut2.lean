/-! ===== text: the whole tape is cut ===== -/
theorem tokAt.back {b : Nat → Nat} {n s : Nat} {t : tk4} (h : tokAt b n (s + 1) t) (hs : isBl (b s)) : tokAt b n s t := by
  obtain ⟨h1, h2, h3⟩ := h
  refine ⟨by omega, fun j g1 g2 => ?_, h3⟩
  by_cases z : j = s
  · rw [z]; exact hs
  · exact h2 j (by omega) g2
theorem chn.back {b : Nat → Nat} {n s : Nat} {L : List tk4} (h : chn b n (s + 1) L) (hs : isBl (b s)) : chn b n s L := by
  cases L with
  | nil => exact h
  | cons t r => exact ⟨h.1.back hs, h.2⟩
/-- what stands in every token -/
def tkG (n : Nat) (t : tk4) : Prop := t.1 < 281 ∧ t.2.1 ≤ n ∧ t.2.2.1 < 10000 ∧ t.2.2.2 ≤ n
section CV
variable {sc : Nat × (Nat → Int32)} {w : Nat → Int64} {n : Nat} {b : Nat → Nat}
theorem t_cutL (d : Nat) : ∀ (k s i : Nat) (L : List tk4) (c : Nat → Nat → Int32), s + k = n → i ≤ s → tpC n b c → tlC L c → L.length ≤ s → ∃ L' c', chn b n s L' ∧ (∀ t ∈ L', tkG n t) ∧ L'.length ≤ k + 1 ∧ (∀ m, ev sc (d + 11) 122 (pm_blk 122 24) [some (.ref 79), some (.int (nI s)), some (.int (nI i))] [] (hp c w m) = some (none, hp c' w m)) ∧ cTF c c' ∧ tlC (L ++ L') c' := by
  intro k
  induction k using Nat.strongRecOn with
  | ind k ih =>
  intro s i L c hs hi ht hl hL
  have h1 := ht.1
  have hn := ht.2.1
  rcases Nat.eq_zero_or_pos k with z | z
  · have e : s = n := by omega
    subst e
    have a5 := fun d m => t_add (sc := sc) (w := w) (c := c) (m := m) d L.length (nI 0) (nI s) (nI 0) hl.1 (by omega)
    refine ⟨[(0, s, 0, s)], _, ⟨⟨Nat.le_refl _, fun j g1 g2 => absurd (Nat.lt_of_le_of_lt g1 g2) (Nat.lt_irrefl _), Or.inl ⟨rfl, rfl, rfl, rfl⟩⟩, Or.inl ⟨rfl, rfl⟩⟩, fun t htt => ?_, by simp, fun m => ?_, adT_F, hl.push (t := (0, s, 0, s))⟩
    · rw [List.mem_singleton.mp htt]
      exact ⟨by show (0 : Nat) < 281; omega, Nat.le_refl _, by show (0 : Nat) < 10000; omega, Nat.le_refl _⟩
    · rw [bh_Tokens_cut_24]
      rcases Nat.lt_or_ge i 400 with q | q
      · simp (disch := first | assumption | omega | decide | (simp only [ma_wd0, ma_wdi, ma_wdr, ma_wdl, ma_wdn] <;> omega)) only [↓reduceIte, evK, evL, evS, evA, evJ, Option.bind_some, Option.toList, List.cons_append, List.nil_append, nI_add, pk_mul, bI0, ite_not, ev_rbb, up_n, up_s, up_u, pk_us, pk_un, Nat.reduceAdd, nI_ltT, nI_ltF, nI_leT, nI_leF, nI_eqT, nI_eqF, bk_Tokens_cut, gfC, gfM, ev_r0, ev_r1, eq_self, n_m1e, true_and, and_true, false_and, and_false, and_self, not_true_eq_false, not_false_eq_true, h1, ce_Tokens_add, a5]
      · simp (disch := first | assumption | omega | decide | (simp only [ma_wd0, ma_wdi, ma_wdr, ma_wdl, ma_wdn] <;> omega)) only [↓reduceIte, evK, evL, evS, evA, evJ, Option.bind_some, Option.toList, List.cons_append, List.nil_append, nI_add, pk_mul, bI0, ite_not, ev_rbb, up_n, up_s, up_u, pk_us, pk_un, Nat.reduceAdd, nI_ltT, nI_ltF, nI_leT, nI_leF, nI_eqT, nI_eqF, bk_Tokens_cut, gfC, gfM, ev_r0, ev_r1, eq_self, n_m1e, true_and, and_true, false_and, and_false, and_self, not_true_eq_false, not_false_eq_true, h1, ce_Tokens_add, a5]
  · have hb := ht.2.2 s (by omega)
    have h80 := hb.2
    have a1 := fun d h => t_isBlank (sc := sc) (h := h) d (b s) hb.1
    by_cases y : isBl (b s)
    · obtain ⟨L', c', g1, g2, g3, g4, g5⟩ := ih (k - 1) (by omega) (s + 1) (i + 1) L c (by omega) (by omega) ht hl (by omega)
      refine ⟨L', c', g1.back y, g2, by omega, fun m => ?_, g5⟩
      rw [bI_t y] at a1
      rw [← g4 m]
      conv => lhs; rw [bh_Tokens_cut_24]
      simp (disch := first | assumption | omega | decide | (simp only [ma_wd0, ma_wdi, ma_wdr, ma_wdl, ma_wdn] <;> omega)) only [↓reduceIte, evK, evL, evS, evA, evJ, Option.bind_some, Option.toList, List.cons_append, List.nil_append, nI_add, pk_mul, bI0, ite_not, ev_rbb, up_n, up_s, up_u, pk_us, pk_un, Nat.reduceAdd, nI_ltT, nI_ltF, nI_leT, nI_leF, nI_eqT, nI_eqF, bk_Tokens_cut, gfC, gfM, ev_r0, ev_r1, eq_self, n_m1e, true_and, and_true, false_and, and_false, and_self, not_true_eq_false, not_false_eq_true, h1, bl80, h80, ce_Tokens_isBlank, a1]
    · obtain ⟨t, t1, t2, t3, t4, t5, t6, c2, q1, q2, q3⟩ := j_cutOne (sc := sc) (w := w) d s L ht hl (by omega) (by omega) y
      obtain ⟨L', c', g1, g2, g3, g4, g5, g6⟩ := ih (n - t.2.2.2) (by omega) t.2.2.2 (i + 1) (L ++ [t]) c2 (by omega) (by omega) (q2.tp ht) q3 (by rw [List.length_append, List.length_singleton]; omega)
      refine ⟨t :: L', c', ⟨t1, Or.inr ⟨t2, g1⟩⟩, fun x hx => ?_, by simp only [List.length_cons]; omega, fun m => ?_, q2.tr g5, by simpa using g6⟩
      · rcases List.mem_cons.mp hx with hx | hx
        · rw [hx]
          refine ⟨t3, ?_, t4, t6⟩
          rcases t1.2.2 with u | u
          · omega
          · omega
        · exact g2 x hx
      · rw [bI_f y] at a1
        rw [← g4 m]
        conv => lhs; rw [bh_Tokens_cut_24]
        simp (disch := first | assumption | omega | decide | (simp only [ma_wd0, ma_wdi, ma_wdr, ma_wdl, ma_wdn] <;> omega)) only [↓reduceIte, evK, evL, evS, evA, evJ, Option.bind_some, Option.toList, List.cons_append, List.nil_append, nI_add, pk_mul, bI0, ite_not, ev_rbb, up_n, up_s, up_u, pk_us, pk_un, Nat.reduceAdd, nI_ltT, nI_ltF, nI_leT, nI_leF, nI_eqT, nI_eqF, bk_Tokens_cut, gfC, gfM, ev_r0, ev_r1, eq_self, n_m1e, true_and, and_true, false_and, and_false, and_self, not_true_eq_false, not_false_eq_true, h1, bl80, h80, ce_Tokens_isBlank, a1, ce_Tokens_cutOne, q1]
def cUF (c c' : Nat → Nat → Int32) : Prop := (∀ k, k ≠ 79 → k ≠ 81 → k ≠ 82 → k ≠ 83 → c' k = c k) ∧ ∀ j, j ≠ 5 → j ≠ 6 → j ≠ 7 → j ≠ 8 → c' 79 j = c 79 j
theorem t_cut (d : Nat) (c : Nat → Nat → Int32) (ht : tpC n b c) : ∃ L c', chn b n 0 L ∧ (∀ t ∈ L, tkG n t) ∧ L.length ≤ 401 ∧ (∀ m, cc sc (d + 11) 122 [.ref 79] (hp c w m) = some (none, hp c' w m)) ∧ cUF c c' ∧ tlC L c' ∧ c' 79 6 = nI 0 ∧ c' 79 7 = nI 0 ∧ c' 79 8 = -1 := by
  have hn := ht.2.1
  have ht1 : tpC n b (va_up c 79 (upd (upd (upd (upd (c 79) 7 (nI 0)) 8 (-1)) 5 (nI 0)) 6 (nI 0))) := by
    unfold tpC at *
    rw [up_s, pk_un (by omega), pk_un (by omega), pk_un (by omega), pk_un (by omega), up_n _ _ _ _ (by omega)]
    exact ht
  have hl1 : tlC [] (va_up c 79 (upd (upd (upd (upd (c 79) 7 (nI 0)) 8 (-1)) 5 (nI 0)) 6 (nI 0))) := ⟨by rw [up_s, pk_un (by omega), pk_us]; rfl, fun i t h => by simp at h⟩
  obtain ⟨L, c', g1, g2, g3, g4, g5, g6⟩ := t_cutL (sc := sc) (w := w) d n 0 0 [] _ (by omega) (by omega) ht1 hl1 (by simp)
  refine ⟨L, c', g1, g2, by omega, fun m => ?_, ⟨fun k x y z u => ?_, fun j x y z u => ?_⟩, by simpa using g6, ?_, ?_, ?_⟩
  · rw [← g4 m]
    simp (disch := first | assumption | omega | decide | (simp only [ma_wd0, ma_wdi, ma_wdr, ma_wdl, ma_wdn] <;> omega)) only [↓reduceIte, evK, evL, evS, evA, evJ, Option.bind_some, Option.toList, List.cons_append, List.nil_append, nI_add, pk_mul, bI0, ite_not, ev_rbb, up_n, up_s, up_u, pk_us, pk_un, Nat.reduceAdd, nI_ltT, nI_ltF, nI_leT, nI_leF, nI_eqT, nI_eqF, en_Tokens_cut, pfC]
  · rw [g5.1 k x y z u, up_n _ _ _ _ x]
  · rw [g5.2 j x, up_s, pk_un y, pk_un x, pk_un u, pk_un z]
  · rw [g5.2 6 (by omega), up_s, pk_us]
  · rw [g5.2 7 (by omega), up_s, pk_un (by omega), pk_un (by omega), pk_un (by omega), pk_us]
  · rw [g5.2 8 (by omega), up_s, pk_un (by omega), pk_un (by omega), pk_us]
/-- the tokens as rows -/
def tkT (L : List tk4) (f i : Nat) : Nat := match L[i]? with
  | some t => if f = 0 then t.1 else if f = 1 then t.2.1 else if f = 2 then t.2.2.1 else t.2.2.2
  | none => 0
theorem chn_end {b : Nat → Nat} {n : Nat} : ∀ (L : List tk4) (s : Nat), chn b n s L → ∀ i t, L[i]? = some t → (t.1 = 0 ↔ i + 1 = L.length)
  | [], s, h, i, t, hi => by simp at hi
  | x :: r, s, h, 0, t, hi => by
    simp at hi
    subst hi
    rcases h.2 with ⟨h1, h2⟩ | ⟨h1, h2⟩
    · subst h2; simp [h1]
    · cases r with
      | nil => exact h2.elim
      | cons y r => simp [h1]
  | x :: r, s, h, i + 1, t, hi => by
    rcases h.2 with ⟨h1, h2⟩ | ⟨h1, h2⟩
    · subst h2; simp at hi
    · have := chn_end r _ h2 i t (by simpa using hi)
      rw [this, List.length_cons]
      omega
theorem chn_at {b : Nat → Nat} {n : Nat} : ∀ (L : List tk4) (s : Nat), chn b n s L → ∀ i t t', L[i]? = some t → L[i + 1]? = some t' → tokAt b n t.2.2.2 t'
  | [], s, h, i, t, t', hi, _ => by simp at hi
  | x :: r, s, h, 0, t, t', hi, hj => by
    simp at hi
    subst hi
    rcases h.2 with ⟨h1, h2⟩ | ⟨h1, h2⟩
    · subst h2; simp at hj
    · cases r with
      | nil => exact h2.elim
      | cons y r => simp at hj; subst hj; exact h2.1
  | x :: r, s, h, i + 1, t, t', hi, hj => by
    rcases h.2 with ⟨h1, h2⟩ | ⟨h1, h2⟩
    · subst h2; simp at hi
    · exact chn_at r _ h2 i t t' (by simpa using hi) (by simpa using hj)
theorem tkT_get {L : List tk4} {i : Nat} {t : tk4} (h : L[i]? = some t) : tkT L 0 i = t.1 ∧ tkT L 1 i = t.2.1 ∧ tkT L 2 i = t.2.2.1 ∧ tkT L 3 i = t.2.2.2 := by
  unfold tkT
  rw [h]
  exact ⟨rfl, rfl, rfl, rfl⟩
theorem tkT_OK {L : List tk4} (hn : n ≤ 400) (h : chn b n 0 L) (hg : ∀ t ∈ L, tkG n t) (hl : L.length ≤ 401) : tOK L.length (tkT L) := by
  refine ⟨?_, hl, fun i hi => ?_⟩
  · cases L with
    | nil => exact h.elim
    | cons _ _ => simp
  · have e : L[i]? = some L[i] := List.getElem?_eq_getElem hi
    obtain ⟨e0, e1, e2, e3⟩ := tkT_get e
    obtain ⟨g1, g2, g3, g4⟩ := hg L[i] (List.getElem_mem hi)
    rw [e0, e1, e2, e3]
    exact ⟨chn_end L 0 h i _ e, g1, by omega, g3, by omega⟩
theorem tkT_C {L : List tk4} {c : Nat → Nat → Int32} (h : tlC L c) : tkC L.length (tkT L) c := by
  refine ⟨h.1, fun i hi => ?_⟩
  have e : L[i]? = some L[i] := List.getElem?_eq_getElem hi
  obtain ⟨e0, e1, e2, e3⟩ := tkT_get e
  rw [e0, e1, e2]
  exact h.2 i _ e
end CV
