/-! ===== the law's lines in the reference ===== -/
def lM1 (r149 r150 r151 r152 r153 r154 : Nat → Int32) (i : Nat) (l : lL) : Prop := ∃ s, r149 i = nI l.1 ∧ r150 i = nI s ∧ r151 i = nI (s + (l.2.1.flatMap lB_x).length) ∧ r152 i = nI (s + (l.2.1.flatMap lB_x).length + (l.2.2.flatMap lB_x).length) ∧ s + (l.2.1.flatMap lB_x).length + (l.2.2.flatMap lB_x).length ≤ 400 ∧ lB_at r153 r154 s l.2.1 ∧ lB_at r153 r154 (s + (l.2.1.flatMap lB_x).length) l.2.2
def lM (m : Nat → Nat → Int32) (ls : List lL) : Prop := m 148 0 = nI ls.length ∧ ls.length ≤ 16 ∧ ∀ i l, ls[i]? = some l → lL_ok l ∧ lM1 (m 149) (m 150) (m 151) (m 152) (m 153) (m 154) i l
theorem lM.junk {m : Nat → Nat → Int32} {ls : List lL} (h : lM m ls) (f : Nat → Int32) : lM (va_up m 159 f) ls := h
theorem lB_x_pos {as : List lA} {t t' : List Bool} (hT : lA_T as t = some t') (h : as ≠ []) : (as.flatMap lB_x).length ≠ 0 := by
  cases as with
  | nil => exact absurd rfl h
  | cons a as =>
    unfold lA_T at hT
    rw [List.flatMap_cons, List.length_append]
    split at hT
    next t1 ht =>
      unfold lA_t at ht
      split at ht <;> first | (cases ht; done) | (simp [lB_x])
    next => cases hT
section LM
variable {sc : Nat × (Nat → Int32)} {c m : Nat → Nat → Int32} {w : Nat → Int64} {h : List ma_C}
set_option maxHeartbeats 4000000 in
theorem t_lineOf_loop (d word : Nat) (hw : word < 4) (ls : List lL) : ∀ (k i : Nat) (m : Nat → Nat → Int32), i + k = ls.length → lM m ls → ∃ f, (∃ j l, ls[j]? = some l ∧ lL_tell (m 158) word (ls.drop i) = some ((lA_r (m 158) l.2.1 []).headD (nI 0)) ∧ ∀ c, ev sc (d + 2) 218 (pm_blk 218 2) [some (.ref 138), some (.int (nI word)), some (.int (nI i))] [] (hp c w m) = some (some (.int (nI j)), hp c w (va_up m 159 f))) ∨
    (lL_tell (m 158) word (ls.drop i) = none ∧ ∀ c, ev sc (d + 2) 218 (pm_blk 218 2) [some (.ref 138), some (.int (nI word)), some (.int (nI i))] [] (hp c w m) = some (some (.int (-1)), hp c w (va_up m 159 f)))
  | 0, i, m, hi, hC => by
    have h1 := hC.1
    have h2 := hC.2.1
    have hi' : i = ls.length := by omega
    refine ⟨m 159, Or.inr ⟨by rw [List.drop_eq_nil_of_le (by omega)]; rfl, fun c => ?_⟩⟩
    rw [bh_MO_lineOf_2, up_self]
    simp (disch := first | assumption | omega | decide | (simp only [ma_wd0, ma_wdi, ma_wdr, ma_wdl, ma_wdn] <;> omega)) only [↓reduceIte, evK, evL, evS, evA, evJ, Option.bind_some, Option.toList, List.cons_append, List.nil_append, nI_add, pk_mul, bI0, ite_not, ev_rbb, bk_MO_lineOf, gfM, ldM, h1, nI_ltT, nI_ltF, nI_leT, nI_leF, nI_eqT, nI_eqF]
  | k + 1, i, m, hi, hC => by
    have h1 := hC.1
    have h2 := hC.2.1
    have hil : i < ls.length := by omega
    obtain ⟨l, hl⟩ : ∃ l, ls[i]? = some l := ⟨ls[i], List.getElem?_eq_getElem hil⟩
    obtain ⟨hok, s, e8, e9, e10, e11, hb, ha1, ha2⟩ := hC.2.2 i l hl
    have hd : ls.drop i = l :: ls.drop (i + 1) := by
      rw [List.drop_eq_getElem_cons hil]
      congr 1
      rw [List.getElem?_eq_getElem hil] at hl
      exact Option.some.inj hl
    have hw4 := hok.1
    rw [hd, lL_tell, bh_MO_lineOf_2]
    by_cases hwd : l.1 = word
    · by_cases hcd : l.2.2 = []
      · have hcl : (l.2.2.flatMap lB_x).length = 0 := by rw [hcd]; rfl
        refine ⟨m 159, Or.inl ⟨i, l, hl, by rw [if_pos ⟨hwd, Or.inl hcd⟩], fun c => ?_⟩⟩
        rw [up_self]
        simp (disch := first | assumption | omega | decide | (simp only [ma_wd0, ma_wdi, ma_wdr, ma_wdl, ma_wdn] <;> omega)) only [↓reduceIte, evK, evL, evS, evA, evJ, Option.bind_some, Option.toList, List.cons_append, List.nil_append, nI_add, pk_mul, bI0, ite_not, ev_rbb, bk_MO_lineOf, gfM, ldM, h1, e8, e9, e10, e11, nI_ltT, nI_ltF, nI_leT, nI_leF, nI_eqT, nI_eqF]
      · have hcl : (l.2.2.flatMap lB_x).length ≠ 0 := lB_x_pos (hok.2.2.resolve_left hcd) hcd
        have hW := fun c => t_MO_runs (sc := sc) (c := c) (m := m) (w := w) d (s + (l.2.1.flatMap lB_x).length) l.2.2 true (hok.2.2.resolve_left hcd) ha2 (by omega)
        rw [lB_0 (hok.2.2.resolve_left hcd)] at hW
        generalize hg : lB_v (m 158) l.2.2 [] (m 159) = g at hW
        by_cases hv : (lA_r (m 158) l.2.2 []).headD (nI 0) = nI 0
        · obtain ⟨f2, ih2⟩ := t_lineOf_loop d word hw ls k (i + 1) (va_up m 159 g) (by omega) (hC.junk g)
          refine ⟨f2, ?_⟩
          rw [if_neg (by rintro ⟨-, z | z⟩; exact hcd z; exact z hv)]
          simp (disch := first | assumption | omega | decide | (simp only [ma_wd0, ma_wdi, ma_wdr, ma_wdl, ma_wdn] <;> omega)) only [↓reduceIte, evK, evL, evS, evA, evJ, Option.bind_some, Option.toList, List.cons_append, List.nil_append, nI_add, pk_mul, bI0, ite_not, ev_rbb, bk_MO_lineOf, gfM, ldM, h1, e8, e9, e10, e11, nI_ltT, nI_ltF, nI_leT, nI_leF, nI_eqT, nI_eqF, ce_MO_runs, hW, hv, up_n]
          rw [up_u] at ih2
          exact ih2
        · refine ⟨g, Or.inl ⟨i, l, hl, by rw [if_pos ⟨hwd, Or.inr hv⟩], fun c => ?_⟩⟩
          simp (disch := first | assumption | omega | decide | (simp only [ma_wd0, ma_wdi, ma_wdr, ma_wdl, ma_wdn] <;> omega)) only [↓reduceIte, evK, evL, evS, evA, evJ, Option.bind_some, Option.toList, List.cons_append, List.nil_append, nI_add, pk_mul, bI0, ite_not, ev_rbb, bk_MO_lineOf, gfM, ldM, h1, e8, e9, e10, e11, nI_ltT, nI_ltF, nI_leT, nI_leF, nI_eqT, nI_eqF, ce_MO_runs, hW, hv, up_n]
    · obtain ⟨f1, ih⟩ := t_lineOf_loop d word hw ls k (i + 1) m (by omega) hC
      refine ⟨f1, ?_⟩
      rw [if_neg (fun z => hwd z.1)]
      simp (disch := first | assumption | omega | decide | (simp only [ma_wd0, ma_wdi, ma_wdr, ma_wdl, ma_wdn] <;> omega)) only [↓reduceIte, evK, evL, evS, evA, evJ, Option.bind_some, Option.toList, List.cons_append, List.nil_append, nI_add, pk_mul, bI0, ite_not, ev_rbb, bk_MO_lineOf, gfM, ldM, h1, e8, e9, e10, e11, nI_ltT, nI_ltF, nI_leT, nI_leF, nI_eqT, nI_eqF]
      exact ih
theorem nI_m1ne {j : Nat} (hj : j < 2 ^ 31) : (nI j = -1) = False := eq_false (fun z => by
  have h1 := congrArg Int32.toInt z
  have h2 : (-1 : Int32).toInt = -1 := by decide +kernel
  rw [nI_toInt hj, h2] at h1
  omega)
theorem t_MO_lawTells (d word : Nat) (hw : word < 4) (ls : List lL) (hC : lM m ls) (wo mo : Int32) : ∃ f, ∀ c, cc sc (d + 3) 217 [.ref 138, .int (nI word), .int wo, .int mo] (hp c w m) = some (some (.int (iHd ((lL_tell (m 158) word ls).getD wo) (nI 0) mo)), hp c w (va_up m 159 f)) := by
  obtain ⟨f, hf⟩ := t_lineOf_loop (sc := sc) (w := w) d word hw ls ls.length 0 m (by omega) hC
  rw [List.drop_zero] at hf
  have hlo : ∀ c r hh, ev sc (d + 2) 218 (pm_blk 218 2) [some (.ref 138), some (.int (nI word)), some (.int (nI 0))] [] (hp c w m) = some (r, hh) → cc sc (d + 2) 218 [.ref 138, .int (nI word)] (hp c w m) = some (r, hh) := by
    intro c r hh e
    simp (disch := first | assumption | omega | decide | (simp only [ma_wd0, ma_wdi, ma_wdr, ma_wdl, ma_wdn] <;> omega)) only [↓reduceIte, evK, evL, evS, evA, evJ, Option.bind_some, Option.toList, List.cons_append, List.nil_append, nI_add, pk_mul, bI0, ite_not, ev_rbb, en_MO_lineOf]
    exact e
  rcases hf with ⟨j, l, hj, e1, e2⟩ | ⟨e1, e2⟩
  · obtain ⟨hok, s, e8, e9, e10, e11, hb, ha1, ha2⟩ := hC.2.2 j l hj
    have hjl : j < 16 := Nat.lt_of_lt_of_le (List.getElem?_eq_some_iff.mp hj).1 hC.2.1
    have hL := fun c => hlo c _ _ (e2 c)
    have hW := fun c => t_MO_runs (sc := sc) (c := c) (m := va_up m 159 f) (w := w) (d + 1) s l.2.1 false hok.2.1 ha1 (by omega)
    rw [lB_0 hok.2.1] at hW
    generalize hg : lB_v ((va_up m 159 f) 158) l.2.1 [] ((va_up m 159 f) 159) = g at hW
    refine ⟨g, fun c => ?_⟩
    rw [e1]
    simp (disch := first | assumption | omega | decide | (simp only [ma_wd0, ma_wdi, ma_wdr, ma_wdl, ma_wdn] <;> omega)) only [↓reduceIte, evK, evL, evS, evA, evJ, Option.bind_some, Option.toList, List.cons_append, List.nil_append, nI_add, pk_mul, bI0, ite_not, ev_rbb, en_MO_lawTells, bk_MO_lawTells, ce_MO_lineOf, hL, nI_m1ne, gfM, ldM, up_n, e9, e10, ce_MO_runs, hW, up_u, ce_MO_held, t_MO_held, Option.getD_some]
  · have hL := fun c => hlo c _ _ (e2 c)
    refine ⟨f, fun c => ?_⟩
    rw [e1]
    simp (disch := first | assumption | omega | decide | (simp only [ma_wd0, ma_wdi, ma_wdr, ma_wdl, ma_wdn] <;> omega)) only [↓reduceIte, evK, evL, evS, evA, evJ, Option.bind_some, Option.toList, List.cons_append, List.nil_append, nI_add, pk_mul, bI0, ite_not, ev_rbb, en_MO_lawTells, bk_MO_lawTells, ce_MO_lineOf, hL, gfM, ldM, ce_MO_held, t_MO_held, Option.getD_none]
end LM
