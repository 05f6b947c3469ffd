/-! ===== the law's lines ===== -/
theorem lB_k {q : Nat → Int32} : ∀ (as : List lA) (st : List Int32) (t t' : List Bool) (f : Nat → Int32), lA_T as t = some t' → lA_c t st → lA_k f st → lA_k (lB_v q as st f) (lA_r q as st) ∧ lA_c t' (lA_r q as st)
  | [], st, t, t', f, hT, hc, hk => by cases hT; exact ⟨hk, hc⟩
  | a :: as, st, t, t', f, hT, hc, hk => by
    unfold lA_T at hT
    split at hT
    next t1 ht =>
      split at hT
      next hlen =>
        have hc1 := lA_safe (q := q) ht hc
        refine lB_k as (lA_s q a st) t1 t' _ hT hc1 ?_
        have key : ∀ (x : Int32) (st2 : List Int32) (g : Nat → Int32), lA_s q a st = x :: st2 → lA_k g st2 → lA_k (upd g ((lA_s q a st).length - 1) ((lA_s q a st).headD (nI 0))) (lA_s q a st) := by
          intro x st2 g e hg
          rw [e]
          exact lA_k_push hg
        unfold lA_t at ht
        split at ht
        · exact key _ _ _ rfl (by rw [if_neg (show ¬ (0 : Nat) = 2 by decide)]; exact hk)
        · exact key _ _ _ rfl (by rw [if_neg (show ¬ (1 : Nat) = 2 by decide)]; exact hk)
        · match st, hc with
          | b :: st, hc => exact key _ _ _ rfl (by rw [if_pos rfl]; exact lA_k_upd (by simp) hk.2)
        · match st, hc with
          | b :: st, hc => exact key _ _ _ rfl (by rw [if_neg (by decide)]; exact hk.2)
        all_goals first
          | (cases ht; done)
          | (match st, hc with
             | b :: a :: st, hc => exact key _ _ _ rfl (by rw [if_neg (by decide)]; exact hk.2.2))
      next => cases hT
    next => cases hT
theorem lB_0 {q : Nat → Int32} {as : List lA} {x : Bool} {f : Nat → Int32} (hT : lA_T as [] = some [x]) : lB_v q as [] f 0 = (lA_r q as []).headD (nI 0) := by
  obtain ⟨h1, h2⟩ := lB_k (q := q) as [] [] [x] f hT trivial trivial
  generalize lA_r q as [] = st at h1 h2
  match st, h1, h2 with
  | [v], h1, _ => exact h1.1
  | [], _, h2 => exact h2.elim
  | _ :: _ :: _, _, h2 => exact h2.2.elim
abbrev lL : Type := Nat × List lA × List lA
def lL_ok (l : lL) : Prop := l.1 < 4 ∧ lA_T l.2.1 [] = some [false] ∧ (l.2.2 = [] ∨ lA_T l.2.2 [] = some [true])
def lL_hd (q : Nat → Int32) (l : lL) : Prop := l.2.2 = [] ∨ ¬ (lA_r q l.2.2 []).headD (nI 0) = nI 0
/-- what the law tells for a word -/
def lL_tell (q : Nat → Int32) (word : Nat) : List lL → Option Int32
  | [] => none
  | l :: ls => if l.1 = word ∧ (l.2.2 = [] ∨ ¬ (lA_r q l.2.2 []).headD (nI 0) = nI 0) then some ((lA_r q l.2.1 []).headD (nI 0)) else lL_tell q word ls
def lL_un (q : Nat → Int32) (word : Nat) : Int32 := if word = 0 then q 5 else if word = 1 then nI 2 else if word = 2 then q 6 else nI 60 - nI 3 * q 3
def lC1 (r8 r9 r10 r11 r12 : Nat → Int32) (i : Nat) (l : lL) : Prop := ∃ s, r8 i = nI l.1 ∧ r9 i = nI s ∧ r10 i = nI (s + l.2.1.length) ∧ r11 i = nI (s + l.2.1.length + l.2.2.length) ∧ s + l.2.1.length + l.2.2.length ≤ 400 ∧ lA_at r12 s l.2.1 ∧ lA_at r12 (s + l.2.1.length) l.2.2
def lC (c : Nat → Nat → Int32) (ls : List lL) : Prop := c 7 0 = nI ls.length ∧ ls.length ≤ 16 ∧ ∀ i l, ls[i]? = some l → lL_ok l ∧ lC1 (c 8) (c 9) (c 10) (c 11) (c 12) i l
theorem lC.junk {c : Nat → Nat → Int32} {ls : List lL} (h : lC c ls) (f : Nat → Int32) : lC (va_up c 95 f) ls := h
section LL
variable {sc : Nat × (Nat → Int32)} {c m : Nat → Nat → Int32} {w : Nat → Int64} {h : List ma_C}
theorem t_Asker_unlessTold (d word : Nat) (hw : word < 4) : cc sc d 48 [.ref 93, .int (nI word)] (hp c w m) = some (some (.int (lL_un (c 94) word)), hp c w m) := by
  unfold lL_un
  rcases (show word = 0 ∨ word = 1 ∨ word = 2 ∨ word = 3 by omega) with rfl | rfl | rfl | rfl <;> simp (disch := first | assumption | omega | decide | (simp only [ma_wd0, ma_wdi, ma_wdr, ma_wdl, ma_wdn] <;> omega)) only [↓reduceIte, evK, evL, evS, evA, evJ, Option.bind_some, Option.toList, List.cons_append, List.nil_append, nI_add, pk_mul, bI0, ite_not, ev_rbb, en_Asker_unlessTold, bk_Asker_unlessTold, nI_ltT, nI_ltF, nI_leT, nI_leF, nI_eqT, nI_eqF, ev_sw, swc_s, swc_0, gfC, ldC, Nat.reduceAdd]
  all_goals first | rfl | (simp; done)
set_option maxHeartbeats 4000000 in
theorem t_tell_loop (d word : Nat) (hw : word < 4) (ls : List lL) : ∀ (k i : Nat) (c : Nat → Nat → Int32), i + k = ls.length → lC c ls → ∃ f, ∀ m, ev sc (d + 1) 46 (pm_blk 46 10) [some (.ref 93), some (.int (nI word)), some (.ref 7), some (.int (nI i))] [] (hp c w m) = some (some (.int ((lL_tell (c 94) word (ls.drop i)).getD (lL_un (c 94) word))), hp (va_up c 95 f) w m)
  | 0, i, c, hi, hC => by
    have h1 := hC.1
    have h2 := hC.2.1
    have hi' : i = ls.length := by omega
    refine ⟨c 95, fun m => ?_⟩
    rw [bh_Asker_tell_10, up_self, List.drop_eq_nil_of_le (by omega)]
    simp (disch := first | assumption | omega | decide | (simp only [ma_wd0, ma_wdi, ma_wdr, ma_wdl, ma_wdn] <;> omega)) only [↓reduceIte, evK, evL, evS, evA, evJ, Option.bind_some, Option.toList, List.cons_append, List.nil_append, nI_add, pk_mul, bI0, ite_not, ev_rbb, bk_Asker_tell, gfC, ldC, h1, nI_ltT, nI_ltF, nI_leT, nI_leF, nI_eqT, nI_eqF, ce_Asker_unlessTold, t_Asker_unlessTold, lL_tell, Option.getD_none]
  | k + 1, i, c, hi, hC => by
    have h1 := hC.1
    have h2 := hC.2.1
    have hil : i < ls.length := by omega
    obtain ⟨l, hl⟩ : ∃ l, ls[i]? = some l := ⟨ls[i], List.getElem?_eq_getElem hil⟩
    obtain ⟨hok, s, e8, e9, e10, e11, hb, ha1, ha2⟩ := hC.2.2 i l hl
    have hd : ls.drop i = l :: ls.drop (i + 1) := by
      rw [List.drop_eq_getElem_cons hil]
      congr 1
      rw [List.getElem?_eq_getElem hil] at hl
      exact Option.some.inj hl
    obtain ⟨f1, ih⟩ := t_tell_loop d word hw ls k (i + 1) c (by omega) hC
    have hw4 := hok.1
    rw [hd, lL_tell, bh_Asker_tell_10]
    by_cases hwd : l.1 = word
    · by_cases hcd : l.2.2 = []
      · have hcl : l.2.2.length = 0 := by rw [hcd]; rfl
        have hW := fun m => t_Asker_work (sc := sc) (c := c) (m := m) (w := w) d s l.2.1 [false] hok.2.1 ha1 (by omega)
        refine ⟨lA_w (c 94) l.2.1 [] (c 95), fun m => ?_⟩
        rw [if_pos ⟨hwd, Or.inl hcd⟩]
        simp (disch := first | assumption | omega | decide | (simp only [ma_wd0, ma_wdi, ma_wdr, ma_wdl, ma_wdn] <;> omega)) only [↓reduceIte, evK, evL, evS, evA, evJ, Option.bind_some, Option.toList, List.cons_append, List.nil_append, nI_add, pk_mul, bI0, ite_not, ev_rbb, bk_Asker_tell, gfC, ldC, h1, e8, e9, e10, e11, nI_ltT, nI_ltF, nI_leT, nI_leF, nI_eqT, nI_eqF, ce_Asker_work, hW, Option.getD_some]
      · have hcl : l.2.2.length ≠ 0 := fun z => hcd (List.eq_nil_of_length_eq_zero z)
        have hW := fun m => t_Asker_work (sc := sc) (c := c) (m := m) (w := w) d (s + l.2.1.length) l.2.2 [true] (hok.2.2.resolve_left hcd) ha2 (by omega)
        generalize hg : lA_w (c 94) l.2.2 [] (c 95) = g at hW
        by_cases hv : (lA_r (c 94) l.2.2 []).headD (nI 0) = nI 0
        · obtain ⟨f2, ih2⟩ := t_tell_loop d word hw ls k (i + 1) (va_up c 95 g) (by omega) (hC.junk g)
          refine ⟨f2, fun m => ?_⟩
          rw [if_neg (by rintro ⟨-, z | z⟩; exact hcd z; exact z hv)]
          simp (disch := first | assumption | omega | decide | (simp only [ma_wd0, ma_wdi, ma_wdr, ma_wdl, ma_wdn] <;> omega)) only [↓reduceIte, evK, evL, evS, evA, evJ, Option.bind_some, Option.toList, List.cons_append, List.nil_append, nI_add, pk_mul, bI0, ite_not, ev_rbb, bk_Asker_tell, gfC, ldC, h1, e8, e9, e10, e11, nI_ltT, nI_ltF, nI_leT, nI_leF, nI_eqT, nI_eqF, ce_Asker_work, hW, hv, up_n]
          rw [ih2, up_u]
          rfl
        · have hW2 := fun m => t_Asker_work (sc := sc) (c := va_up c 95 g) (m := m) (w := w) d s l.2.1 [false] hok.2.1 ha1 (by omega)
          refine ⟨lA_w (c 94) l.2.1 [] g, fun m => ?_⟩
          rw [if_pos ⟨hwd, Or.inr hv⟩]
          simp (disch := first | assumption | omega | decide | (simp only [ma_wd0, ma_wdi, ma_wdr, ma_wdl, ma_wdn] <;> omega)) only [↓reduceIte, evK, evL, evS, evA, evJ, Option.bind_some, Option.toList, List.cons_append, List.nil_append, nI_add, pk_mul, bI0, ite_not, ev_rbb, bk_Asker_tell, gfC, ldC, h1, e8, e9, e10, e11, nI_ltT, nI_ltF, nI_leT, nI_leF, nI_eqT, nI_eqF, ce_Asker_work, hW, hv, up_n, hW2, Option.getD_some, up_u]
          rfl
    · refine ⟨f1, fun m => ?_⟩
      rw [if_neg (fun z => hwd z.1)]
      simp (disch := first | assumption | omega | decide | (simp only [ma_wd0, ma_wdi, ma_wdr, ma_wdl, ma_wdn] <;> omega)) only [↓reduceIte, evK, evL, evS, evA, evJ, Option.bind_some, Option.toList, List.cons_append, List.nil_append, nI_add, pk_mul, bI0, ite_not, ev_rbb, bk_Asker_tell, gfC, ldC, h1, e8, e9, e10, e11, nI_ltT, nI_ltF, nI_leT, nI_leF, nI_eqT, nI_eqF]
      exact ih m
theorem t_Asker_tell (d word : Nat) (hw : word < 4) (ls : List lL) (hC : lC c ls) : ∃ f, ∀ m, cc sc (d + 1) 46 [.ref 93, .int (nI word)] (hp c w m) = some (some (.int ((lL_tell (c 94) word ls).getD (lL_un (c 94) word))), hp (va_up c 95 f) w m) := by
  obtain ⟨f, hf⟩ := t_tell_loop (sc := sc) (w := w) d word hw ls ls.length 0 c (by omega) hC
  refine ⟨f, fun m => ?_⟩
  simp (disch := first | assumption | omega | decide | (simp only [ma_wd0, ma_wdi, ma_wdr, ma_wdl, ma_wdn] <;> omega)) only [↓reduceIte, evK, evL, evS, evA, evJ, Option.bind_some, Option.toList, List.cons_append, List.nil_append, nI_add, pk_mul, bI0, ite_not, ev_rbb, en_Asker_tell, gfC]
  exact hf m
end LL
