/-! ===== text: what waits in the reference's conditions ===== -/
def mG (m m' : Nat → Nat → Int32) : Prop := (∀ k, k ≠ 138 → k ≠ 153 → k ≠ 154 → k ≠ 155 → m' k = m k) ∧ (∀ j, j ∉ [17, 18, 19, 20, 30, 31, 33, 34, 35] → m' 138 j = m 138 j) ∧ ∀ j, j < 800 → m' 153 j = m 153 j ∧ m' 154 j = m 154 j
theorem mG.rf {m : Nat → Nat → Int32} : mG m m := ⟨fun _ _ _ _ _ => rfl, fun _ _ => rfl, fun _ _ => ⟨rfl, rfl⟩⟩
theorem mG.tr {a b c : Nat → Nat → Int32} (h : mG a b) (g : mG b c) : mG a c := ⟨fun k x y z u => (g.1 k x y z u).trans (h.1 k x y z u), fun j x => (g.2.1 j x).trans (h.2.1 j x), fun j x => ⟨(g.2.2 j x).1.trans (h.2.2 j x).1, (g.2.2 j x).2.trans (h.2.2 j x).2⟩⟩
theorem mF.g {m m' : Nat → Nat → Int32} (h : mF m m') : mG m m' := ⟨fun k x y z _ => h.1 k x y z, fun j hj => h.2.1 j (fun z => hj (by simp only [List.mem_cons, List.not_mem_nil, or_false] at z ⊢; omega)), h.2.2⟩
theorem mG.xK {m0 m m' : Nat → Nat → Int32} (h : mG m m') (g : xK m0 m) : xK m0 m' := ⟨(h.2.1 16 (by decide)).trans g.1, (h.1 146 (by omega) (by omega) (by omega) (by omega)).trans g.2.1, (h.1 147 (by omega) (by omega) (by omega) (by omega)).trans g.2.2⟩
/-- what waits -/
def pM (P : List Nat) (m : Nat → Nat → Int32) : Prop := m 138 33 = nI P.length ∧ ∀ j x, P[j]? = some x → m 155 j = nI x
theorem pM.F {P : List Nat} {m m' : Nat → Nat → Int32} (h : pM P m) (g : mF m m') : pM P m' := ⟨by rw [g.2.1 33 (by decide)]; exact h.1, by rw [g.1 155 (by omega) (by omega) (by omega)]; exact h.2⟩
def lastN (P : List Nat) (x : Nat) : Prop := ∀ y, P.getLast? = some y → y ≠ x ∧ y < 100
theorem lastN_nil (x : Nat) : lastN [] x := fun y h => by simp at h
theorem lastN_app (P : List Nat) {x y : Nat} (h : y ≠ x) (hy : y < 100) : lastN (P ++ [y]) x := fun z hz => by
  rw [List.getLast?_append] at hz
  simp at hz
  subst hz
  exact ⟨h, hy⟩
theorem mem9 {j : Nat} (h : j ∉ [17, 18, 19, 20, 30, 31, 33, 34, 35]) : j ∉ [17, 18, 19, 20, 30, 34, 35] ∧ j ≠ 31 ∧ j ≠ 33 := by
  simp only [List.mem_cons, List.not_mem_nil, or_false, not_or] at h ⊢
  omega
section CO
variable {sc : Nat × (Nat → Int32)} {c m m0 : Nat → Nat → Int32} {w : Nat → Int64} {N i : Nat} {T : Nat → Nat → Nat} {acc : List lA} {cd : List (Nat × Nat)}
def wtM (k x : Nat) (m : Nat → Nat → Int32) : Nat → Nat → Int32 := va_up (va_up m 155 (upd (m 155) k (nI x))) 138 (upd (m 138) 33 (nI (k + 1)))
theorem t_waits (d k x : Nat) (h : m 138 33 = nI k) (hk : k < 40) : cc sc d 202 [.ref 138, .int (nI x)] (hp c w m) = some (none, hp c w (wtM k x m)) := by
  unfold wtM
  simp (disch := first | assumption | omega | decide | (simp only [ma_wd0, ma_wdi, ma_wdr, ma_wdl, ma_wdn] <;> omega)) only [↓reduceIte, evK, evL, evS, evA, evJ, Option.bind_some, Option.toList, List.cons_append, List.nil_append, nI_add, pk_mul, bI0, ite_not, ev_rbb, up_n, up_s, up_u, pk_us, pk_un, Nat.reduceAdd, nI_ltT, nI_ltF, nI_leT, nI_leF, nI_eqT, nI_eqF, en_MO_waits, gfM, pfM, stM, h]
theorem wtM_G (k x : Nat) : mG m (wtM k x m) := by
  unfold wtM
  refine ⟨fun j a _ _ b => by rw [up_n _ _ _ _ a, up_n _ _ _ _ b], fun j a => by rw [up_s, pk_un (mem9 a).2.2], fun j _ => ⟨?_, ?_⟩⟩
  · rw [up_n _ _ _ _ (by omega), up_n _ _ _ _ (by omega)]
  · rw [up_n _ _ _ _ (by omega), up_n _ _ _ _ (by omega)]
theorem mB.wt (h : mB N T i cd m) (k x : Nat) : mB N T i cd (wtM k x m) := by
  unfold mB wtM at *
  rw [up_s, pk_un (by omega), pk_un (by omega), pk_un (by omega), pk_un (by omega), pk_un (by omega), up_n _ _ _ _ (by omega), up_n _ _ _ _ (by omega), up_n _ _ _ _ (by omega), up_n _ _ _ _ (by omega)]
  exact h
theorem pM.wt {P : List Nat} (h : pM P m) (x : Nat) : pM (P ++ [x]) (wtM P.length x m) := by
  unfold wtM
  refine ⟨by rw [up_s, pk_us, List.length_append]; rfl, fun j y hj => ?_⟩
  rw [up_n _ _ _ _ (by omega), up_s]
  by_cases e : j < P.length
  · rw [List.getElem?_append_left e] at hj
    rw [pk_un (by omega)]
    exact h.2 j y hj
  · rw [List.getElem?_append_right (by omega)] at hj
    have h0 : j - P.length < 1 := (List.getElem?_eq_some_iff.mp hj).1
    have : j = P.length := by omega
    subst this
    simp at hj
    subst hj
    exact pk_us
theorem wtM_o (k x : Nat) : wtM k x m 138 31 = m 138 31 := by
  unfold wtM
  rw [up_s, pk_un (by omega)]
/-- what of one kind waits on top is written -/
theorem t_settles (d wh : Nat) (P : List Nat) (hP : lastN P wh) (hwh : wh < 100) : ∀ (n o : Nat) (cd : List (Nat × Nat)) (m : Nat → Nat → Int32), mB N T i cd m → pM (P ++ List.replicate n wh) m → m 138 31 = nI o → (wh = 9 → n ≤ o) → o < 1000 → cd.length + n ≤ 400 → P.length + n ≤ 40 →
    ∃ m', (∀ c0, cc sc (d + 1) 204 [.ref 138, .int (nI wh)] (hp c0 w m) = some (none, hp c0 w m')) ∧ mG m m' ∧ mB N T i (cd ++ List.replicate n (wh, 0)) m' ∧ pM P m' ∧ m' 138 31 = nI (if wh = 9 then o - n else o)
  | 0, o, cd, m, hm, hp', ho, hno, ho2, hcd, hl => by
    have h33 : m 138 33 = nI P.length := by have := hp'.1; simpa using this
    refine ⟨m, fun c0 => ?_, mG.rf, by simpa using hm, by simpa using hp', by rw [ho]; split <;> rfl⟩
    rcases List.eq_nil_or_concat P with z | ⟨P1, x, z⟩
    · subst z
      have h33 : m 138 33 = nI 0 := h33
      rw [en_MO_settles, bh_MO_settles_0]
      simp (disch := first | assumption | omega | decide | (simp only [ma_wd0, ma_wdi, ma_wdr, ma_wdl, ma_wdn] <;> omega)) only [↓reduceIte, evK, evL, evS, evA, evJ, Option.bind_some, Option.toList, List.cons_append, List.nil_append, nI_add, pk_mul, bI0, ite_not, ev_rbb, up_n, up_s, up_u, pk_us, pk_un, Nat.reduceAdd, nI_ltT, nI_ltF, nI_leT, nI_leF, nI_eqT, nI_eqF, bk_MO_settles, gfC, gfM, ev_r0, ev_r1, eq_self, n_m1e, true_and, and_true, false_and, and_false, and_self, not_true_eq_false, not_false_eq_true, h33]
    · rw [List.concat_eq_append] at z
      have hx := hP x (by rw [z, List.getLast?_append]; simp)
      have e := hp'.2 P1.length x (by rw [z]; simp)
      have hPl : P.length = P1.length + 1 := by rw [z, List.length_append]; rfl
      rw [hPl] at h33
      have a1 : nI (P1.length + 1) - nI 1 = nI P1.length := nI_pred _
      rw [en_MO_settles, bh_MO_settles_0]
      simp (disch := first | assumption | omega | decide | (simp only [ma_wd0, ma_wdi, ma_wdr, ma_wdl, ma_wdn] <;> omega)) only [↓reduceIte, evK, evL, evS, evA, evJ, Option.bind_some, Option.toList, List.cons_append, List.nil_append, nI_add, pk_mul, bI0, ite_not, ev_rbb, up_n, up_s, up_u, pk_us, pk_un, Nat.reduceAdd, nI_ltT, nI_ltF, nI_leT, nI_leF, nI_eqT, nI_eqF, bk_MO_settles, gfC, gfM, ev_r0, ev_r1, eq_self, n_m1e, true_and, and_true, false_and, and_false, and_self, not_true_eq_false, not_false_eq_true, h33, a1, ldM, e]
  | n + 1, o, cd, m, hm, hp', ho, hno, ho2, hcd, hl => by
    have er : P ++ List.replicate (n + 1) wh = (P ++ List.replicate n wh) ++ [wh] := by rw [List.replicate_succ', List.append_assoc]
    have hPl : (P ++ List.replicate n wh).length = P.length + n := by rw [List.length_append, List.length_replicate]
    rw [er] at hp'
    have h33 : m 138 33 = nI (P.length + n + 1) := by rw [hp'.1, List.length_append, hPl]; rfl
    have e := hp'.2 (P.length + n) wh (by rw [List.getElem?_append_right (by omega)]; simp)
    have a1 : nI (P.length + n + 1) - nI 1 = nI (P.length + n) := nI_pred _
    have hm1 : mB N T i cd (va_up m 138 (upd (m 138) 33 (nI (P.length + n)))) := by
      unfold mB at *
      rw [up_s, pk_un (by omega), pk_un (by omega), pk_un (by omega), pk_un (by omega), pk_un (by omega), up_n _ _ _ _ (by omega), up_n _ _ _ _ (by omega)]
      exact hm
    have hm2 := hm1.em (wh, 0)
    have hp2 : pM (P ++ List.replicate n wh) (emM cd.length (wh, 0) (va_up m 138 (upd (m 138) 33 (nI (P.length + n))))) := by
      refine pM.F ⟨?_, fun j x hj => ?_⟩ (emM_F _ _)
      · rw [up_s, pk_us, hPl]
      · rw [up_n _ _ _ _ (by omega)]
        exact hp'.2 j x (by rw [List.getElem?_append_left (List.getElem?_eq_some_iff.mp hj).1]; exact hj)
    have g1 : mG m (emM cd.length (wh, 0) (va_up m 138 (upd (m 138) 33 (nI (P.length + n))))) := mG.tr ⟨fun k a _ _ _ => up_n _ _ _ _ a, fun j a => by rw [up_s, pk_un (mem9 a).2.2], fun j _ => ⟨by rw [up_n _ _ _ _ (by omega)], by rw [up_n _ _ _ _ (by omega)]⟩⟩ (emM_F _ _).g
    have a2 := fun d c => t_emits (sc := sc) (w := w) (c := c) d cd.length (wh, 0) hm1.2.2.2.2.1 (by omega)
    dsimp only at a2
    have h31 : emM cd.length (wh, 0) (va_up m 138 (upd (m 138) 33 (nI (P.length + n)))) 138 31 = nI o := by
      rw [(emM_F _ _).2.1 31 (by decide), up_s, pk_un (by omega)]; exact ho
    generalize hM : emM cd.length (wh, 0) (va_up m 138 (upd (m 138) 33 (nI (P.length + n)))) = M at *
    have hl2 : (cd ++ [(wh, 0)]).length + n ≤ 400 := by rw [List.length_append, List.length_singleton]; omega
    have ecd : cd ++ [(wh, 0)] ++ List.replicate n (wh, 0) = cd ++ List.replicate (n + 1) (wh, 0) := by rw [List.append_assoc, List.replicate_succ]; rfl
    by_cases h9 : wh = 9
    · subst h9
      have hno' := hno rfl
      obtain ⟨o1, rfl⟩ : ∃ o1, o = o1 + 1 := ⟨o - 1, by omega⟩
      have hm3 : mB N T i (cd ++ [(9, 0)]) (va_up M 138 (upd (M 138) 31 (nI o1))) := by
        unfold mB at *
        rw [up_s, pk_un (by omega), pk_un (by omega), pk_un (by omega), pk_un (by omega), pk_un (by omega), up_n _ _ _ _ (by omega), up_n _ _ _ _ (by omega)]
        exact hm2
      have hp3 : pM (P ++ List.replicate n 9) (va_up M 138 (upd (M 138) 31 (nI o1))) := by
        unfold pM at *
        rw [up_s, pk_un (by omega), up_n _ _ _ _ (by omega)]
        exact hp2
      have g2 : mG M (va_up M 138 (upd (M 138) 31 (nI o1))) := ⟨fun k a _ _ _ => up_n _ _ _ _ a, fun j a => by rw [up_s, pk_un (mem9 a).2.1], fun j _ => ⟨by rw [up_n _ _ _ _ (by omega)], by rw [up_n _ _ _ _ (by omega)]⟩⟩
      obtain ⟨m', r1, r2, r3, r4, r5⟩ := t_settles d 9 P hP hwh n o1 (cd ++ [(9, 0)]) (va_up M 138 (upd (M 138) 31 (nI o1))) hm3 hp3 (by rw [up_s, pk_us]) (fun _ => by omega) (by omega) hl2 (by omega)
      refine ⟨m', fun c0 => ?_, (g1.tr g2).tr r2, by rw [← ecd]; exact r3, r4, by rw [r5, if_pos rfl, if_pos rfl]; congr 1; omega⟩
      have a3 : nI (o1 + 1) - nI 1 = nI o1 := nI_pred _
      rw [← r1 c0, en_MO_settles, en_MO_settles]
      conv => lhs; rw [bh_MO_settles_0]
      simp (disch := first | assumption | omega | decide | (simp only [ma_wd0, ma_wdi, ma_wdr, ma_wdl, ma_wdn] <;> omega)) only [↓reduceIte, evK, evL, evS, evA, evJ, Option.bind_some, Option.toList, List.cons_append, List.nil_append, nI_add, pk_mul, bI0, ite_not, ev_rbb, up_n, up_s, up_u, pk_us, pk_un, Nat.reduceAdd, nI_ltT, nI_ltF, nI_leT, nI_leF, nI_eqT, nI_eqF, bk_MO_settles, gfC, gfM, ev_r0, ev_r1, eq_self, n_m1e, true_and, and_true, false_and, and_false, and_self, not_true_eq_false, not_false_eq_true, h33, a1, ldM, e, pfM, ce_MO_emits, a2, h31, a3]
    · obtain ⟨m', r1, r2, r3, r4, r5⟩ := t_settles d wh P hP hwh n o (cd ++ [(wh, 0)]) M hm2 hp2 h31 (fun z => absurd z h9) ho2 hl2 (by omega)
      refine ⟨m', fun c0 => ?_, g1.tr r2, by rw [← ecd]; exact r3, r4, by rw [r5, if_neg h9, if_neg h9]⟩
      rw [← r1 c0, en_MO_settles, en_MO_settles]
      conv => lhs; rw [bh_MO_settles_0]
      simp (disch := first | assumption | omega | decide | (simp only [ma_wd0, ma_wdi, ma_wdr, ma_wdl, ma_wdn] <;> omega)) only [↓reduceIte, evK, evL, evS, evA, evJ, Option.bind_some, Option.toList, List.cons_append, List.nil_append, nI_add, pk_mul, bI0, ite_not, ev_rbb, up_n, up_s, up_u, pk_us, pk_un, Nat.reduceAdd, nI_ltT, nI_ltF, nI_leT, nI_leF, nI_eqT, nI_eqF, bk_MO_settles, gfC, gfM, ev_r0, ev_r1, eq_self, n_m1e, true_and, and_true, false_and, and_false, and_self, not_true_eq_false, not_false_eq_true, h33, a1, ldM, e, pfM, ce_MO_emits, a2]
end CO
