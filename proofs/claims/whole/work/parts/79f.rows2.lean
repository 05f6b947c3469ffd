/-! ===== text: roster and wants ===== -/
abbrev tsL : Type := Nat × Nat × Nat × Nat
abbrev wnL : Type := Nat × Nat × Nat × Nat × Nat
def rsC (ls : List tsL) (f : Nat → Int32) : Prop := ∀ i t a v o, ls[i]? = some (t, a, v, o) → f (5 * i) = nI t ∧ f (5 * i + 1) = nI a ∧ f (5 * i + 2) = nI v ∧ (a = 0 → f (5 * i + 3) = nI o)
def rsM (ls : List tsL) (f : Nat → Int32) : Prop := ∀ i t a v o, ls[i]? = some (t, a, v, o) → f (64 + 4 * i) = nI t ∧ f (64 + 4 * i + 1) = nI a ∧ f (64 + 4 * i + 2) = nI v ∧ (a = 0 → f (64 + 4 * i + 3) = nI o)
def wsC (ls : List wnL) (f : Nat → Int32) : Prop := ∀ i p h s t y, ls[i]? = some (p, h, s, t, y) → f (5 * i) = nI p ∧ f (5 * i + 1) = nI h ∧ f (5 * i + 2) = nI s ∧ f (5 * i + 3) = nI t ∧ f (5 * i + 4) = nI y
def wsM (ls : List wnL) (f : Nat → Int32) : Prop := ∀ i p h s t y, ls[i]? = some (p, h, s, t, y) → f (60 + 5 * i) = nI p ∧ f (60 + 5 * i + 1) = nI h ∧ f (60 + 5 * i + 2) = nI s ∧ f (60 + 5 * i + 3) = nI t ∧ f (60 + 5 * i + 4) = nI y
def cRF (c c' : Nat → Nat → Int32) : Prop := (∀ k, k ≠ 79 → k ≠ 91 → k ≠ 92 → c' k = c k) ∧ ∀ j, j ≠ 6 → j ≠ 7 → j ≠ 8 → c' 79 j = c 79 j
theorem cRF.rf {a : Nat → Nat → Int32} : cRF a a := ⟨fun _ _ _ _ => rfl, fun _ _ _ _ => rfl⟩
theorem cRF.tr {a b c : Nat → Nat → Int32} (h : cRF a b) (g : cRF b c) : cRF a c := ⟨fun k x y z => (g.1 k x y z).trans (h.1 k x y z), fun j x y z => (g.2 j x y z).trans (h.2 j x y z)⟩
theorem cE.r {a b : Nat → Nat → Int32} (h : cE a b) : cRF a b := ⟨fun k x _ z => h.1 k x z, h.2⟩
def lnU (n : Nat) (c : Nat → Nat → Int32) : Nat → Nat → Int32 := va_up c 91 (upd (c 91) 0 (nI n))
theorem lnU_R {n : Nat} {c : Nat → Nat → Int32} : cRF c (lnU n c) := ⟨fun k _ a _ => up_n _ _ _ _ a, fun j _ _ _ => by unfold lnU; rw [up_n _ _ _ _ (by omega)]⟩
theorem cB.ln {N : Nat} {T : Nat → Nat → Nat} {i n : Nat} {c : Nat → Nat → Int32} (h : cB N T i c) : cB N T i (lnU n c) := by
  unfold cB tkC lnU at *
  rw [up_n _ _ _ _ (by omega), up_n _ _ _ _ (by omega), up_n _ _ _ _ (by omega), up_n _ _ _ _ (by omega)]
  exact h
theorem snoc_get {α : Type} {ls : List α} {x y : α} {i : Nat} (h : (ls ++ [x])[i]? = some y) : (i < ls.length ∧ ls[i]? = some y) ∨ (i = ls.length ∧ y = x) := by
  by_cases e : i < ls.length
  · rw [List.getElem?_append_left e] at h
    exact Or.inl ⟨e, h⟩
  · rw [List.getElem?_append_right (by omega)] at h
    have h0 : i - ls.length < 1 := (List.getElem?_eq_some_iff.mp h).1
    have e2 : i = ls.length := by omega
    subst e2
    simp at h
    exact Or.inr ⟨rfl, h.symm⟩
section RR
variable {sc : Nat × (Nat → Int32)} {m0 : Nat → Nat → Int32} {w : Nat → Int64} {N : Nat} {T : Nat → Nat → Nat}

theorem j_ros (d' V : Nat) (hV3 : 3 ≤ V) (hV : V ≤ 14) (hT : tOK N T) (hR : rdS sc w N T m0) : ∀ (k i : Nat) (ls : List tsL), i + k = N → i < N → ls.length ≤ 16 → (∀ l ∈ ls, tsV V l.1 l.2.1 l.2.2.1 l.2.2.2) → ∃ R : List tsL ⊕ (Nat × Nat),
    (match R with
      | .inl ls' => ls'.length ≤ 16 ∧ ∀ l ∈ ls', tsV V l.1 l.2.1 l.2.2.1 l.2.2.2
      | .inr (f, p) => 1 ≤ f ∧ f ≤ 3 ∧ p ≤ 400) ∧
    (∀ e c, 4 ≤ e → cB N T i c → c 91 0 = nI ls.length → c 1 0 = nI V → rsC ls (c 92) → match R with
      | .inl ls' => ∃ c', (∀ m1, ev sc e 81 (pm_blk 81 10) [some (.ref 84), some (.int (nI 271)), some (.int (nI 16)), some (.int (nI ls.length))] [] (hp c w m1) = some (some (.int (nI 1)), hp c' w m1)) ∧ cRF c c' ∧ c' 91 0 = nI ls'.length ∧ rsC ls' (c' 92) ∧ c' 79 7 = nI 0 ∧ c' 79 8 = -1
      | .inr (f, p) => ∃ c', (∀ m1, ev sc e 81 (pm_blk 81 10) [some (.ref 84), some (.int (nI 271)), some (.int (nI 16)), some (.int (nI ls.length))] [] (hp c w m1) = some (some (.int (nI 0)), hp c' w m1)) ∧ cRF c c' ∧ cY f p c') ∧
    (∀ cd m, xK m0 m → mB N T i cd m → m 138 6 + nI 10 = nI V → rsM ls (m 156) → match R with
      | .inl ls' => ∃ m', (∀ c0, ev sc (d' + 7) 184 (pm_blk 184 2) [some (.ref 138), some (.int (nI ls.length))] [] (hp c0 w m) = some (some (.int (nI ls'.length)), hp c0 w m')) ∧ mW m m' ∧ rsM ls' (m' 156)
      | .inr (f, p) => ∃ m', (∀ c0, ev sc (d' + 7) 184 (pm_blk 184 2) [some (.ref 138), some (.int (nI ls.length))] [] (hp c0 w m) = some (some (.int (-1)), hp c0 w m')) ∧ mW m m' ∧ m' 138 34 = nI f ∧ m' 138 35 = nI p) := by
  intro k
  induction k using Nat.strongRecOn with
  | ind k ih =>
  intro i ls hk hi hl hok
  have hN := hT.2.1
  obtain ⟨k0, k1, k2, k3, k4⟩ := hT.2.2 i hi
  by_cases z0 : T 0 i = 0
  · refine ⟨.inl ls, ⟨hl, hok⟩, fun e c he hc h0 hv hr => ?_, fun cd m hx hm hv hr => ?_⟩
    · obtain ⟨d, rfl⟩ : ∃ d, e = d + 1 := ⟨e - 1, by omega⟩
      refine ⟨c, fun m1 => ?_, cRF.rf, h0, hr, hc.2.2.2⟩
      have a1 := fun d m => t_now (sc := sc) (w := w) (m := m) d hT hc.1 hc.2.1 hi
      rw [z0] at a1
      rw [bh_Reader_readRows_10]
      simp (disch := first | assumption | omega | decide | (simp only [ma_wd0, ma_wdi, ma_wdr, ma_wdl, ma_wdn] <;> omega)) only [↓reduceIte, evK, evL, evS, evA, evJ, Option.bind_some, Option.toList, List.cons_append, List.nil_append, nI_add, pk_mul, bI0, ite_not, ev_rbb, up_n, up_s, up_u, pk_us, pk_un, Nat.reduceAdd, nI_ltT, nI_ltF, nI_leT, nI_leF, nI_eqT, nI_eqF, bk_Reader_readRows, gfC, gfM, ev_r0, ev_r1, eq_self, n_m1e, true_and, and_true, false_and, and_false, and_self, not_true_eq_false, not_false_eq_true, ce_Tokens_now, a1]
    · refine ⟨m, fun c0 => ?_, mW.rf, hr⟩
      have a1 := fun d c => t_isWord (sc := sc) (w := w) (c := c) d 271 15 hm (by omega) (by omega) rfl
      rw [bI_f (by omega)] at a1
      have e19 : m 138 19 = nI 0 := by rw [hm.1.fin]; exact z0
      rw [bh_MO_readRoster_2]
      simp (disch := first | assumption | omega | decide | (simp only [ma_wd0, ma_wdi, ma_wdr, ma_wdl, ma_wdn] <;> omega)) only [↓reduceIte, evK, evL, evS, evA, evJ, Option.bind_some, Option.toList, List.cons_append, List.nil_append, nI_add, pk_mul, bI0, ite_not, ev_rbb, up_n, up_s, up_u, pk_us, pk_un, Nat.reduceAdd, nI_ltT, nI_ltF, nI_leT, nI_leF, nI_eqT, nI_eqF, bk_MO_readRoster, gfC, gfM, ev_r0, ev_r1, eq_self, n_m1e, true_and, and_true, false_and, and_false, and_self, not_true_eq_false, not_false_eq_true, ce_MO_isWord, a1, e19]
  by_cases z1 : T 0 i = 271
  · by_cases z2 : ls.length = 16
    · refine ⟨.inr (3, T 1 i), ⟨by omega, by omega, k2⟩, fun e c he hc h0 hv hr => ?_, fun cd m hx hm hv hr => ?_⟩
      · obtain ⟨d, rfl⟩ : ∃ d, e = d + 1 := ⟨e - 1, by omega⟩
        have a1 := fun d m => t_now (sc := sc) (w := w) (m := m) d hT hc.1 hc.2.1 hi
        have a3 := fun d m => t_fail (sc := sc) (w := w) (m := m) d 3 hT hc.1 hc.2.1 hi
        rw [z1] at a1
        rw [z2] at h0
        refine ⟨_, fun m1 => ?_, (flC_E (T := T) (i := i) 3).r, flC_Y 3⟩
        rw [bh_Reader_readRows_10, z2]
        simp (disch := first | assumption | omega | decide | (simp only [ma_wd0, ma_wdi, ma_wdr, ma_wdl, ma_wdn] <;> omega)) only [↓reduceIte, evK, evL, evS, evA, evJ, Option.bind_some, Option.toList, List.cons_append, List.nil_append, nI_add, pk_mul, bI0, ite_not, ev_rbb, up_n, up_s, up_u, pk_us, pk_un, Nat.reduceAdd, nI_ltT, nI_ltF, nI_leT, nI_leF, nI_eqT, nI_eqF, bk_Reader_readRows, gfC, gfM, ev_r0, ev_r1, eq_self, n_m1e, true_and, and_true, false_and, and_false, and_self, not_true_eq_false, not_false_eq_true, ce_Tokens_now, a1, h0, ce_Tokens_fail, a3]
      · have a1 := fun d c => t_isWord (sc := sc) (w := w) (c := c) d 271 15 hm (by omega) (by omega) rfl
        have a2 := fun d c => t_errs (sc := sc) (w := w) (c := c) d 3 hm
        have eo := erM_o (N := N) (T := T) (acc := []) (m := m) (i := i) 3
        rw [bI_t z1] at a1
        refine ⟨erM T i 3 m, fun c0 => ?_, (erM_E 3).w, eo.1, eo.2⟩
        rw [bh_MO_readRoster_2, z2]
        simp (disch := first | assumption | omega | decide | (simp only [ma_wd0, ma_wdi, ma_wdr, ma_wdl, ma_wdn] <;> omega)) only [↓reduceIte, evK, evL, evS, evA, evJ, Option.bind_some, Option.toList, List.cons_append, List.nil_append, nI_add, pk_mul, bI0, ite_not, ev_rbb, up_n, up_s, up_u, pk_us, pk_un, Nat.reduceAdd, nI_ltT, nI_ltF, nI_leT, nI_leF, nI_eqT, nI_eqF, bk_MO_readRoster, gfC, gfM, ev_r0, ev_r1, eq_self, n_m1e, true_and, and_true, false_and, and_false, and_self, not_true_eq_false, not_false_eq_true, ce_MO_isWord, a1, ce_MO_errs, a2]
    · obtain ⟨r, ok, cl, md⟩ := j_task (sc := sc) (w := w) (m0 := m0) d' i ls.length V hT hR hi z1 (by omega) hV3 hV
      have a1 : ∀ c, cB N T i c → ∀ d m, cc sc d 130 [.ref 79] (hp c w m) = some (some (.int (nI 271)), hp c w m) := fun c hc d m => by rw [← z1]; exact t_now (sc := sc) (w := w) (m := m) d hT hc.1 hc.2.1 hi
      have a2 : ∀ c, cB N T i c → ∀ d m, cc sc (d + 1) 134 [.ref 79, .int (nI 271)] (hp c w m) = some (some (.int (nI 1)), hp (skC i c) w m) := fun c hc d m => (t_take' (sc := sc) (w := w) d i 271 c hT hc (by omega)).1 z1 m
      have a3 : ∀ cd m, mB N T i cd m → ∀ d c, cc sc d 185 [.ref 138, .int (nI 15)] (hp c w m) = some (some (.int (nI 1)), hp c w m) := fun cd m hm d c => by
        rw [t_isWord (sc := sc) (w := w) (c := c) d 271 15 hm (by omega) (by omega) rfl, bI_t z1]
      cases r with
      | inr fp =>
        obtain ⟨f, p⟩ := fp
        refine ⟨.inr (f, p), ok, fun e c he hc h0 hv hr => ?_, fun cd m hx hm hv hr => ?_⟩
        · obtain ⟨d, rfl⟩ : ∃ d, e = d + 4 := ⟨e - 4, by omega⟩
          obtain ⟨c2, q1, q2, q3⟩ := cl d c hc h0 hv
          have a1 := a1 c hc
          have a2 := a2 c hc
          refine ⟨c2, fun m1 => ?_, q2.r, q3⟩
          rw [bh_Reader_readRows_10]
          simp (disch := first | assumption | omega | decide | (simp only [ma_wd0, ma_wdi, ma_wdr, ma_wdl, ma_wdn] <;> omega)) only [↓reduceIte, evK, evL, evS, evA, evJ, Option.bind_some, Option.toList, List.cons_append, List.nil_append, nI_add, pk_mul, bI0, ite_not, ev_rbb, up_n, up_s, up_u, pk_us, pk_un, Nat.reduceAdd, nI_ltT, nI_ltF, nI_leT, nI_leF, nI_eqT, nI_eqF, bk_Reader_readRows, gfC, gfM, ev_r0, ev_r1, eq_self, n_m1e, true_and, and_true, false_and, and_false, and_self, not_true_eq_false, not_false_eq_true, ce_Tokens_now, a1, h0, ce_Tokens_take, a2, ce_Reader_readTask, q1]
        · obtain ⟨m2, q1, q2, q3⟩ := md cd m hx hm hv
          have a3 := a3 cd m hm
          refine ⟨m2, fun c0 => ?_, q2, q3⟩
          rw [bh_MO_readRoster_2]
          simp (disch := first | assumption | omega | decide | (simp only [ma_wd0, ma_wdi, ma_wdr, ma_wdl, ma_wdn] <;> omega)) only [↓reduceIte, evK, evL, evS, evA, evJ, Option.bind_some, Option.toList, List.cons_append, List.nil_append, nI_add, pk_mul, bI0, ite_not, ev_rbb, up_n, up_s, up_u, pk_us, pk_un, Nat.reduceAdd, nI_ltT, nI_ltF, nI_leT, nI_leF, nI_eqT, nI_eqF, bk_MO_readRoster, gfC, gfM, ev_r0, ev_r1, eq_self, n_m1e, true_and, and_true, false_and, and_false, and_self, not_true_eq_false, not_false_eq_true, ce_MO_isWord, a3, ce_MO_readRosterLine, q1]
      | inl x =>
        obtain ⟨j, t, a, v, o⟩ := x
        obtain ⟨g1, g2, g3⟩ := ok
        have kj := hT.2.2 j g2
        by_cases y : T 0 j = 59
        · have hj := hT.nx g2 (by omega)
          have hlen : (ls ++ [(t, a, v, o)]).length = ls.length + 1 := by rw [List.length_append]; rfl
          obtain ⟨R, f1, f2, f3⟩ := ih (N - (j + 1)) (by omega) (j + 1) (ls ++ [(t, a, v, o)]) (by omega) hj (by omega) (fun l hl => by
            rcases List.mem_append.mp hl with hl | hl
            · exact hok l hl
            · rw [List.mem_singleton.mp hl]; exact g3)
          rw [hlen] at f2 f3
          have cls : ∀ e c, 4 ≤ e → cB N T i c → c 91 0 = nI ls.length → c 1 0 = nI V → rsC ls (c 92) → ∃ c', (∀ m1, ev sc e 81 (pm_blk 81 10) [some (.ref 84), some (.int (nI 271)), some (.int (nI 16)), some (.int (nI ls.length))] [] (hp c w m1) = ev sc e 81 (pm_blk 81 10) [some (.ref 84), some (.int (nI 271)), some (.int (nI 16)), some (.int (nI (ls.length + 1)))] [] (hp c' w m1)) ∧ cRF c c' ∧ cB N T (j + 1) c' ∧ c' 91 0 = nI (ls.length + 1) ∧ rsC (ls ++ [(t, a, v, o)]) (c' 92) := by
            intro e c he hc h0 hv hr
            obtain ⟨d, rfl⟩ : ∃ d, e = d + 4 := ⟨e - 4, by omega⟩
            obtain ⟨c2, q1, q2, q3, q4⟩ := cl d c hc h0 hv
            have a1 := a1 c hc
            have a2 := a2 c hc
            have a4 := fun d m => (t_take' (sc := sc) (w := w) d j 59 c2 hT q3 (by omega)).1 y m
            have h91 : skC j c2 91 0 = nI ls.length := by rw [skC_E.1 91 (by omega) (by omega), q2.1 91 (by omega) (by omega)]; exact h0
            refine ⟨lnU (ls.length + 1) (skC j c2), fun m1 => ?_, (q2.r.tr skC_E.r).tr lnU_R, (q3.sk hj).ln, by unfold lnU; rw [up_s, pk_us], ?_⟩
            · conv => lhs; rw [bh_Reader_readRows_10]
              unfold lnU
              simp (disch := first | assumption | omega | decide | (simp only [ma_wd0, ma_wdi, ma_wdr, ma_wdl, ma_wdn] <;> omega)) only [↓reduceIte, evK, evL, evS, evA, evJ, Option.bind_some, Option.toList, List.cons_append, List.nil_append, nI_add, pk_mul, bI0, ite_not, ev_rbb, up_n, up_s, up_u, pk_us, pk_un, Nat.reduceAdd, nI_ltT, nI_ltF, nI_leT, nI_leF, nI_eqT, nI_eqF, bk_Reader_readRows, gfC, gfM, ev_r0, ev_r1, eq_self, n_m1e, true_and, and_true, false_and, and_false, and_self, not_true_eq_false, not_false_eq_true, ce_Tokens_now, a1, h0, ce_Tokens_take, a2, ce_Reader_readTask, q1, a4, h91, pfC]
            · have e92 : lnU (ls.length + 1) (skC j c2) 92 = c2 92 := by unfold lnU skC; rw [up_n _ _ _ _ (by omega), up_n _ _ _ _ (by omega)]
              rw [e92]
              intro x t' a' v' o' hx
              rcases snoc_get hx with ⟨hx1, hx2⟩ | ⟨hx1, hx2⟩
              · have := hr x t' a' v' o' hx2
                rw [q4.1 _ (by omega), q4.1 _ (by omega), q4.1 _ (by omega), q4.1 _ (by omega)]
                exact this
              · cases hx2
                rw [hx1]
                exact q4.2
          have mod : ∀ cd m, xK m0 m → mB N T i cd m → m 138 6 + nI 10 = nI V → rsM ls (m 156) → ∃ m', (∀ c0, ev sc (d' + 7) 184 (pm_blk 184 2) [some (.ref 138), some (.int (nI ls.length))] [] (hp c0 w m) = ev sc (d' + 7) 184 (pm_blk 184 2) [some (.ref 138), some (.int (nI (ls.length + 1)))] [] (hp c0 w m')) ∧ mW m m' ∧ mB N T (j + 1) cd m' ∧ rsM (ls ++ [(t, a, v, o)]) (m' 156) := by
            intro cd m hx hm hv hr
            obtain ⟨M, q1, q2, q3, q4⟩ := md cd m hx hm hv
            obtain ⟨m2, u1, u2, u3, u4⟩ := t_mark (sc := sc) (w := w) (m0 := m0) (d' + 1) j cd M hR (q2.xK hx) q3 (fun _ => hj)
            rw [if_pos y] at u1
            have u5 := fun c0 => q1 c0 _ m2 (u1 c0)
            have a3 := a3 cd m hm
            refine ⟨m2, fun c0 => ?_, q2.tr u2.w, u3 y, ?_⟩
            · conv => lhs; rw [bh_MO_readRoster_2]
              simp (disch := first | assumption | omega | decide | (simp only [ma_wd0, ma_wdi, ma_wdr, ma_wdl, ma_wdn] <;> omega)) only [↓reduceIte, evK, evL, evS, evA, evJ, Option.bind_some, Option.toList, List.cons_append, List.nil_append, nI_add, pk_mul, bI0, ite_not, ev_rbb, up_n, up_s, up_u, pk_us, pk_un, Nat.reduceAdd, nI_ltT, nI_ltF, nI_leT, nI_leF, nI_eqT, nI_eqF, bk_MO_readRoster, gfC, gfM, ev_r0, ev_r1, eq_self, n_m1e, true_and, and_true, false_and, and_false, and_self, not_true_eq_false, not_false_eq_true, ce_MO_isWord, a3, ce_MO_readRosterLine, u5]
            · rw [u2.1 156 (by omega)]
              intro x t' a' v' o' hx
              rcases snoc_get hx with ⟨hx1, hx2⟩ | ⟨hx1, hx2⟩
              · have := hr x t' a' v' o' hx2
                rw [q4.1 _ (by omega), q4.1 _ (by omega), q4.1 _ (by omega), q4.1 _ (by omega)]
                exact this
              · cases hx2
                rw [hx1]
                exact q4.2
          cases R with
          | inr fp =>
            refine ⟨.inr fp, f1, fun e c he hc h0 hv hr => ?_, fun cd m hx hm hv hr => ?_⟩
            · obtain ⟨c2, q1, q2, q3, q4, q5⟩ := cls e c he hc h0 hv hr
              obtain ⟨c3, u1, u2, u3⟩ := f2 e c2 he q3 q4 (by rw [q2.1 1 (by omega) (by omega) (by omega)]; exact hv) q5
              exact ⟨c3, fun m1 => (q1 m1).trans (u1 m1), q2.tr u2, u3⟩
            · obtain ⟨m2, q1, q2, q3, q4⟩ := mod cd m hx hm hv hr
              obtain ⟨m3, u1, u2, u3⟩ := f3 cd m2 (q2.xK hx) q3 (by rw [q2.2.1 6 (by decide)]; exact hv) q4
              exact ⟨m3, fun c0 => (q1 c0).trans (u1 c0), q2.tr u2, u3⟩
          | inl ls' =>
            refine ⟨.inl ls', f1, fun e c he hc h0 hv hr => ?_, fun cd m hx hm hv hr => ?_⟩
            · obtain ⟨c2, q1, q2, q3, q4, q5⟩ := cls e c he hc h0 hv hr
              obtain ⟨c3, u1, u2, u3⟩ := f2 e c2 he q3 q4 (by rw [q2.1 1 (by omega) (by omega) (by omega)]; exact hv) q5
              exact ⟨c3, fun m1 => (q1 m1).trans (u1 m1), q2.tr u2, u3⟩
            · obtain ⟨m2, q1, q2, q3, q4⟩ := mod cd m hx hm hv hr
              obtain ⟨m3, u1, u2, u3⟩ := f3 cd m2 (q2.xK hx) q3 (by rw [q2.2.1 6 (by decide)]; exact hv) q4
              exact ⟨m3, fun c0 => (q1 c0).trans (u1 c0), q2.tr u2, u3⟩
        · refine ⟨.inr (1, T 1 j), ⟨by omega, by omega, kj.2.2.1⟩, fun e c he hc h0 hv hr => ?_, fun cd m hx hm hv hr => ?_⟩
          · obtain ⟨d, rfl⟩ : ∃ d, e = d + 4 := ⟨e - 4, by omega⟩
            obtain ⟨c2, q1, q2, q3, q4⟩ := cl d c hc h0 hv
            have a1 := a1 c hc
            have a2 := a2 c hc
            have a4 := fun d m => (t_take' (sc := sc) (w := w) d j 59 c2 hT q3 (by omega)).2 y m
            refine ⟨_, fun m1 => ?_, q2.r.tr (flC_E (T := T) (i := j) 1).r, flC_Y 1⟩
            rw [bh_Reader_readRows_10]
            simp (disch := first | assumption | omega | decide | (simp only [ma_wd0, ma_wdi, ma_wdr, ma_wdl, ma_wdn] <;> omega)) only [↓reduceIte, evK, evL, evS, evA, evJ, Option.bind_some, Option.toList, List.cons_append, List.nil_append, nI_add, pk_mul, bI0, ite_not, ev_rbb, up_n, up_s, up_u, pk_us, pk_un, Nat.reduceAdd, nI_ltT, nI_ltF, nI_leT, nI_leF, nI_eqT, nI_eqF, bk_Reader_readRows, gfC, gfM, ev_r0, ev_r1, eq_self, n_m1e, true_and, and_true, false_and, and_false, and_self, not_true_eq_false, not_false_eq_true, ce_Tokens_now, a1, h0, ce_Tokens_take, a2, ce_Reader_readTask, q1, a4]
          · obtain ⟨M, q1, q2, q3, q4⟩ := md cd m hx hm hv
            obtain ⟨m2, u1, u2, u3, u4⟩ := t_mark (sc := sc) (w := w) (m0 := m0) (d' + 1) j cd M hR (q2.xK hx) q3 (fun z => absurd z y)
            rw [if_neg y] at u1
            have u5 := fun c0 => q1 c0 _ m2 (u1 c0)
            have a3 := a3 cd m hm
            refine ⟨m2, fun c0 => ?_, q2.tr u2.w, u4 y⟩
            rw [bh_MO_readRoster_2]
            simp (disch := first | assumption | omega | decide | (simp only [ma_wd0, ma_wdi, ma_wdr, ma_wdl, ma_wdn] <;> omega)) only [↓reduceIte, evK, evL, evS, evA, evJ, Option.bind_some, Option.toList, List.cons_append, List.nil_append, nI_add, pk_mul, bI0, ite_not, ev_rbb, up_n, up_s, up_u, pk_us, pk_un, Nat.reduceAdd, nI_ltT, nI_ltF, nI_leT, nI_leF, nI_eqT, nI_eqF, bk_MO_readRoster, gfC, gfM, ev_r0, ev_r1, eq_self, n_m1e, true_and, and_true, false_and, and_false, and_self, not_true_eq_false, not_false_eq_true, ce_MO_isWord, a3, ce_MO_readRosterLine, u5]
  · refine ⟨.inr (1, T 1 i), ⟨by omega, by omega, k2⟩, fun e c he hc h0 hv hr => ?_, fun cd m hx hm hv hr => ?_⟩
    · obtain ⟨d, rfl⟩ : ∃ d, e = d + 2 := ⟨e - 2, by omega⟩
      have a1 := fun d m => t_now (sc := sc) (w := w) (m := m) d hT hc.1 hc.2.1 hi
      have a4 := fun d m => (t_take' (sc := sc) (w := w) d i 271 c hT hc (by omega)).2 z1 m
      refine ⟨_, fun m1 => ?_, (flC_E (T := T) (i := i) 1).r, flC_Y 1⟩
      rw [bh_Reader_readRows_10]
      simp (disch := first | assumption | omega | decide | (simp only [ma_wd0, ma_wdi, ma_wdr, ma_wdl, ma_wdn] <;> omega)) only [↓reduceIte, evK, evL, evS, evA, evJ, Option.bind_some, Option.toList, List.cons_append, List.nil_append, nI_add, pk_mul, bI0, ite_not, ev_rbb, up_n, up_s, up_u, pk_us, pk_un, Nat.reduceAdd, nI_ltT, nI_ltF, nI_leT, nI_leF, nI_eqT, nI_eqF, bk_Reader_readRows, gfC, gfM, ev_r0, ev_r1, eq_self, n_m1e, true_and, and_true, false_and, and_false, and_self, not_true_eq_false, not_false_eq_true, ce_Tokens_now, a1, ce_Tokens_take, a4]
    · have a1 := fun d c => t_isWord (sc := sc) (w := w) (c := c) d 271 15 hm (by omega) (by omega) rfl
      have a2 := fun d c => t_errs (sc := sc) (w := w) (c := c) d 1 hm
      have eo := erM_o (N := N) (T := T) (acc := []) (m := m) (i := i) 1
      have e0 : (m 138 19 = nI 0) = False := by rw [hm.1.fin]; exact eq_false z0
      rw [bI_f z1] at a1
      refine ⟨erM T i 1 m, fun c0 => ?_, (erM_E 1).w, eo.1, eo.2⟩
      rw [bh_MO_readRoster_2]
      simp (disch := first | assumption | omega | decide | (simp only [ma_wd0, ma_wdi, ma_wdr, ma_wdl, ma_wdn] <;> omega)) only [↓reduceIte, evK, evL, evS, evA, evJ, Option.bind_some, Option.toList, List.cons_append, List.nil_append, nI_add, pk_mul, bI0, ite_not, ev_rbb, up_n, up_s, up_u, pk_us, pk_un, Nat.reduceAdd, nI_ltT, nI_ltF, nI_leT, nI_leF, nI_eqT, nI_eqF, bk_MO_readRoster, gfC, gfM, ev_r0, ev_r1, eq_self, n_m1e, true_and, and_true, false_and, and_false, and_self, not_true_eq_false, not_false_eq_true, ce_MO_isWord, a1, e0, ce_MO_errs, a2]

theorem j_wan (d' V : Nat) (hV : V ≤ 6) (hT : tOK N T) (hR : rdS sc w N T m0) : ∀ (k i : Nat) (ls : List wnL), i + k = N → i < N → ls.length ≤ 12 → (∀ l ∈ ls, l.1 < V ∧ l.2.1 ≤ 40 ∧ l.2.2.1 ≤ l.2.2.2.1 ∧ l.2.2.2.1 ≤ 23 ∧ l.2.2.2.2 ≤ 99) → ∃ R : List wnL ⊕ (Nat × Nat),
    (match R with
      | .inl ls' => ls'.length ≤ 12 ∧ ∀ l ∈ ls', l.1 < V ∧ l.2.1 ≤ 40 ∧ l.2.2.1 ≤ l.2.2.2.1 ∧ l.2.2.2.1 ≤ 23 ∧ l.2.2.2.2 ≤ 99
      | .inr (f, p) => 1 ≤ f ∧ f ≤ 3 ∧ p ≤ 400) ∧
    (∀ e c, 4 ≤ e → cB N T i c → c 91 0 = nI ls.length → c 1 5 = nI V → wsC ls (c 92) → match R with
      | .inl ls' => ∃ c', (∀ m1, ev sc e 81 (pm_blk 81 10) [some (.ref 84), some (.int (nI 277)), some (.int (nI 12)), some (.int (nI ls.length))] [] (hp c w m1) = some (some (.int (nI 1)), hp c' w m1)) ∧ cRF c c' ∧ c' 91 0 = nI ls'.length ∧ wsC ls' (c' 92) ∧ c' 79 7 = nI 0 ∧ c' 79 8 = -1
      | .inr (f, p) => ∃ c', (∀ m1, ev sc e 81 (pm_blk 81 10) [some (.ref 84), some (.int (nI 277)), some (.int (nI 12)), some (.int (nI ls.length))] [] (hp c w m1) = some (some (.int (nI 0)), hp c' w m1)) ∧ cRF c c' ∧ cY f p c') ∧
    (∀ cd m, xK m0 m → mB N T i cd m → m 138 10 = nI V → wsM ls (m 157) → match R with
      | .inl ls' => ∃ m', (∀ c0, ev sc (d' + 7) 192 (pm_blk 192 2) [some (.ref 138), some (.int (nI ls.length))] [] (hp c0 w m) = some (some (.int (nI ls'.length)), hp c0 w m')) ∧ mW m m' ∧ wsM ls' (m' 157)
      | .inr (f, p) => ∃ m', (∀ c0, ev sc (d' + 7) 192 (pm_blk 192 2) [some (.ref 138), some (.int (nI ls.length))] [] (hp c0 w m) = some (some (.int (-1)), hp c0 w m')) ∧ mW m m' ∧ m' 138 34 = nI f ∧ m' 138 35 = nI p) := by
  intro k
  induction k using Nat.strongRecOn with
  | ind k ih =>
  intro i ls hk hi hl hok
  have hN := hT.2.1
  obtain ⟨k0, k1, k2, k3, k4⟩ := hT.2.2 i hi
  by_cases z0 : T 0 i = 0
  · refine ⟨.inl ls, ⟨hl, hok⟩, fun e c he hc h0 hv hr => ?_, fun cd m hx hm hv hr => ?_⟩
    · obtain ⟨d, rfl⟩ : ∃ d, e = d + 1 := ⟨e - 1, by omega⟩
      refine ⟨c, fun m1 => ?_, cRF.rf, h0, hr, hc.2.2.2⟩
      have a1 := fun d m => t_now (sc := sc) (w := w) (m := m) d hT hc.1 hc.2.1 hi
      rw [z0] at a1
      rw [bh_Reader_readRows_10]
      simp (disch := first | assumption | omega | decide | (simp only [ma_wd0, ma_wdi, ma_wdr, ma_wdl, ma_wdn] <;> omega)) only [↓reduceIte, evK, evL, evS, evA, evJ, Option.bind_some, Option.toList, List.cons_append, List.nil_append, nI_add, pk_mul, bI0, ite_not, ev_rbb, up_n, up_s, up_u, pk_us, pk_un, Nat.reduceAdd, nI_ltT, nI_ltF, nI_leT, nI_leF, nI_eqT, nI_eqF, bk_Reader_readRows, gfC, gfM, ev_r0, ev_r1, eq_self, n_m1e, true_and, and_true, false_and, and_false, and_self, not_true_eq_false, not_false_eq_true, ce_Tokens_now, a1]
    · refine ⟨m, fun c0 => ?_, mW.rf, hr⟩
      have a1 := fun d c => t_isWord (sc := sc) (w := w) (c := c) d 277 21 hm (by omega) (by omega) rfl
      rw [bI_f (by omega)] at a1
      have e19 : m 138 19 = nI 0 := by rw [hm.1.fin]; exact z0
      rw [bh_MO_readWants_2]
      simp (disch := first | assumption | omega | decide | (simp only [ma_wd0, ma_wdi, ma_wdr, ma_wdl, ma_wdn] <;> omega)) only [↓reduceIte, evK, evL, evS, evA, evJ, Option.bind_some, Option.toList, List.cons_append, List.nil_append, nI_add, pk_mul, bI0, ite_not, ev_rbb, up_n, up_s, up_u, pk_us, pk_un, Nat.reduceAdd, nI_ltT, nI_ltF, nI_leT, nI_leF, nI_eqT, nI_eqF, bk_MO_readWants, gfC, gfM, ev_r0, ev_r1, eq_self, n_m1e, true_and, and_true, false_and, and_false, and_self, not_true_eq_false, not_false_eq_true, ce_MO_isWord, a1, e19]
  by_cases z1 : T 0 i = 277
  · by_cases z2 : ls.length = 12
    · refine ⟨.inr (3, T 1 i), ⟨by omega, by omega, k2⟩, fun e c he hc h0 hv hr => ?_, fun cd m hx hm hv hr => ?_⟩
      · obtain ⟨d, rfl⟩ : ∃ d, e = d + 1 := ⟨e - 1, by omega⟩
        have a1 := fun d m => t_now (sc := sc) (w := w) (m := m) d hT hc.1 hc.2.1 hi
        have a3 := fun d m => t_fail (sc := sc) (w := w) (m := m) d 3 hT hc.1 hc.2.1 hi
        rw [z1] at a1
        rw [z2] at h0
        refine ⟨_, fun m1 => ?_, (flC_E (T := T) (i := i) 3).r, flC_Y 3⟩
        rw [bh_Reader_readRows_10, z2]
        simp (disch := first | assumption | omega | decide | (simp only [ma_wd0, ma_wdi, ma_wdr, ma_wdl, ma_wdn] <;> omega)) only [↓reduceIte, evK, evL, evS, evA, evJ, Option.bind_some, Option.toList, List.cons_append, List.nil_append, nI_add, pk_mul, bI0, ite_not, ev_rbb, up_n, up_s, up_u, pk_us, pk_un, Nat.reduceAdd, nI_ltT, nI_ltF, nI_leT, nI_leF, nI_eqT, nI_eqF, bk_Reader_readRows, gfC, gfM, ev_r0, ev_r1, eq_self, n_m1e, true_and, and_true, false_and, and_false, and_self, not_true_eq_false, not_false_eq_true, ce_Tokens_now, a1, h0, ce_Tokens_fail, a3]
      · have a1 := fun d c => t_isWord (sc := sc) (w := w) (c := c) d 277 21 hm (by omega) (by omega) rfl
        have a2 := fun d c => t_errs (sc := sc) (w := w) (c := c) d 3 hm
        have eo := erM_o (N := N) (T := T) (acc := []) (m := m) (i := i) 3
        rw [bI_t z1] at a1
        refine ⟨erM T i 3 m, fun c0 => ?_, (erM_E 3).w, eo.1, eo.2⟩
        rw [bh_MO_readWants_2, z2]
        simp (disch := first | assumption | omega | decide | (simp only [ma_wd0, ma_wdi, ma_wdr, ma_wdl, ma_wdn] <;> omega)) only [↓reduceIte, evK, evL, evS, evA, evJ, Option.bind_some, Option.toList, List.cons_append, List.nil_append, nI_add, pk_mul, bI0, ite_not, ev_rbb, up_n, up_s, up_u, pk_us, pk_un, Nat.reduceAdd, nI_ltT, nI_ltF, nI_leT, nI_leF, nI_eqT, nI_eqF, bk_MO_readWants, gfC, gfM, ev_r0, ev_r1, eq_self, n_m1e, true_and, and_true, false_and, and_false, and_self, not_true_eq_false, not_false_eq_true, ce_MO_isWord, a1, ce_MO_errs, a2]
    · obtain ⟨r, ok, cl, md⟩ := j_want (sc := sc) (w := w) (m0 := m0) d' i ls.length V hT hR hi z1 (by omega) hV
      have a1 : ∀ c, cB N T i c → ∀ d m, cc sc d 130 [.ref 79] (hp c w m) = some (some (.int (nI 277)), hp c w m) := fun c hc d m => by rw [← z1]; exact t_now (sc := sc) (w := w) (m := m) d hT hc.1 hc.2.1 hi
      have a2 : ∀ c, cB N T i c → ∀ d m, cc sc (d + 1) 134 [.ref 79, .int (nI 277)] (hp c w m) = some (some (.int (nI 1)), hp (skC i c) w m) := fun c hc d m => (t_take' (sc := sc) (w := w) d i 277 c hT hc (by omega)).1 z1 m
      have a3 : ∀ cd m, mB N T i cd m → ∀ d c, cc sc d 185 [.ref 138, .int (nI 21)] (hp c w m) = some (some (.int (nI 1)), hp c w m) := fun cd m hm d c => by
        rw [t_isWord (sc := sc) (w := w) (c := c) d 277 21 hm (by omega) (by omega) rfl, bI_t z1]
      cases r with
      | inr fp =>
        obtain ⟨f, p⟩ := fp
        refine ⟨.inr (f, p), ok, fun e c he hc h0 hv hr => ?_, fun cd m hx hm hv hr => ?_⟩
        · obtain ⟨d, rfl⟩ : ∃ d, e = d + 4 := ⟨e - 4, by omega⟩
          obtain ⟨c2, q1, q2, q3⟩ := cl d c hc h0 hv
          have a1 := a1 c hc
          have a2 := a2 c hc
          refine ⟨c2, fun m1 => ?_, q2.r, q3⟩
          rw [bh_Reader_readRows_10]
          simp (disch := first | assumption | omega | decide | (simp only [ma_wd0, ma_wdi, ma_wdr, ma_wdl, ma_wdn] <;> omega)) only [↓reduceIte, evK, evL, evS, evA, evJ, Option.bind_some, Option.toList, List.cons_append, List.nil_append, nI_add, pk_mul, bI0, ite_not, ev_rbb, up_n, up_s, up_u, pk_us, pk_un, Nat.reduceAdd, nI_ltT, nI_ltF, nI_leT, nI_leF, nI_eqT, nI_eqF, bk_Reader_readRows, gfC, gfM, ev_r0, ev_r1, eq_self, n_m1e, true_and, and_true, false_and, and_false, and_self, not_true_eq_false, not_false_eq_true, ce_Tokens_now, a1, h0, ce_Tokens_take, a2, ce_Reader_readWant, q1]
        · obtain ⟨m2, q1, q2, q3⟩ := md cd m hx hm hv
          have a3 := a3 cd m hm
          refine ⟨m2, fun c0 => ?_, q2, q3⟩
          rw [bh_MO_readWants_2]
          simp (disch := first | assumption | omega | decide | (simp only [ma_wd0, ma_wdi, ma_wdr, ma_wdl, ma_wdn] <;> omega)) only [↓reduceIte, evK, evL, evS, evA, evJ, Option.bind_some, Option.toList, List.cons_append, List.nil_append, nI_add, pk_mul, bI0, ite_not, ev_rbb, up_n, up_s, up_u, pk_us, pk_un, Nat.reduceAdd, nI_ltT, nI_ltF, nI_leT, nI_leF, nI_eqT, nI_eqF, bk_MO_readWants, gfC, gfM, ev_r0, ev_r1, eq_self, n_m1e, true_and, and_true, false_and, and_false, and_self, not_true_eq_false, not_false_eq_true, ce_MO_isWord, a3, ce_MO_readWant, q1]
      | inl x =>
        obtain ⟨j, p, h, s, t, y0⟩ := x
        obtain ⟨g1, g2, g3⟩ := ok
        have kj := hT.2.2 j g2
        by_cases y : T 0 j = 59
        · have hj := hT.nx g2 (by omega)
          have hlen : (ls ++ [(p, h, s, t, y0)]).length = ls.length + 1 := by rw [List.length_append]; rfl
          obtain ⟨R, f1, f2, f3⟩ := ih (N - (j + 1)) (by omega) (j + 1) (ls ++ [(p, h, s, t, y0)]) (by omega) hj (by omega) (fun l hl => by
            rcases List.mem_append.mp hl with hl | hl
            · exact hok l hl
            · rw [List.mem_singleton.mp hl]; exact g3)
          rw [hlen] at f2 f3
          have cls : ∀ e c, 4 ≤ e → cB N T i c → c 91 0 = nI ls.length → c 1 5 = nI V → wsC ls (c 92) → ∃ c', (∀ m1, ev sc e 81 (pm_blk 81 10) [some (.ref 84), some (.int (nI 277)), some (.int (nI 12)), some (.int (nI ls.length))] [] (hp c w m1) = ev sc e 81 (pm_blk 81 10) [some (.ref 84), some (.int (nI 277)), some (.int (nI 12)), some (.int (nI (ls.length + 1)))] [] (hp c' w m1)) ∧ cRF c c' ∧ cB N T (j + 1) c' ∧ c' 91 0 = nI (ls.length + 1) ∧ wsC (ls ++ [(p, h, s, t, y0)]) (c' 92) := by
            intro e c he hc h0 hv hr
            obtain ⟨d, rfl⟩ : ∃ d, e = d + 4 := ⟨e - 4, by omega⟩
            obtain ⟨c2, q1, q2, q3, q4⟩ := cl d c hc h0 hv
            have a1 := a1 c hc
            have a2 := a2 c hc
            have a4 := fun d m => (t_take' (sc := sc) (w := w) d j 59 c2 hT q3 (by omega)).1 y m
            have h91 : skC j c2 91 0 = nI ls.length := by rw [skC_E.1 91 (by omega) (by omega), q2.1 91 (by omega) (by omega)]; exact h0
            refine ⟨lnU (ls.length + 1) (skC j c2), fun m1 => ?_, (q2.r.tr skC_E.r).tr lnU_R, (q3.sk hj).ln, by unfold lnU; rw [up_s, pk_us], ?_⟩
            · conv => lhs; rw [bh_Reader_readRows_10]
              unfold lnU
              simp (disch := first | assumption | omega | decide | (simp only [ma_wd0, ma_wdi, ma_wdr, ma_wdl, ma_wdn] <;> omega)) only [↓reduceIte, evK, evL, evS, evA, evJ, Option.bind_some, Option.toList, List.cons_append, List.nil_append, nI_add, pk_mul, bI0, ite_not, ev_rbb, up_n, up_s, up_u, pk_us, pk_un, Nat.reduceAdd, nI_ltT, nI_ltF, nI_leT, nI_leF, nI_eqT, nI_eqF, bk_Reader_readRows, gfC, gfM, ev_r0, ev_r1, eq_self, n_m1e, true_and, and_true, false_and, and_false, and_self, not_true_eq_false, not_false_eq_true, ce_Tokens_now, a1, h0, ce_Tokens_take, a2, ce_Reader_readWant, q1, a4, h91, pfC]
            · have e92 : lnU (ls.length + 1) (skC j c2) 92 = c2 92 := by unfold lnU skC; rw [up_n _ _ _ _ (by omega), up_n _ _ _ _ (by omega)]
              rw [e92]
              intro x p' h' s' t' y' hx
              rw [q4]
              unfold w5
              rcases snoc_get hx with ⟨hx1, hx2⟩ | ⟨hx1, hx2⟩
              · have := hr x p' h' s' t' y' hx2
                refine ⟨?_, ?_, ?_, ?_, ?_⟩
                · rw [pk_un (by omega), pk_un (by omega), pk_un (by omega), pk_un (by omega), pk_un (by omega)]; exact this.1
                · rw [pk_un (by omega), pk_un (by omega), pk_un (by omega), pk_un (by omega), pk_un (by omega)]; exact this.2.1
                · rw [pk_un (by omega), pk_un (by omega), pk_un (by omega), pk_un (by omega), pk_un (by omega)]; exact this.2.2.1
                · rw [pk_un (by omega), pk_un (by omega), pk_un (by omega), pk_un (by omega), pk_un (by omega)]; exact this.2.2.2.1
                · rw [pk_un (by omega), pk_un (by omega), pk_un (by omega), pk_un (by omega), pk_un (by omega)]; exact this.2.2.2.2
              · cases hx2
                rw [hx1]
                exact ⟨by rw [pk_un (by omega), pk_un (by omega), pk_un (by omega), pk_un (by omega), pk_us], by rw [pk_un (by omega), pk_un (by omega), pk_un (by omega), pk_us], by rw [pk_un (by omega), pk_un (by omega), pk_us], by rw [pk_un (by omega), pk_us], pk_us⟩
          have mod : ∀ cd m, xK m0 m → mB N T i cd m → m 138 10 = nI V → wsM ls (m 157) → ∃ m', (∀ c0, ev sc (d' + 7) 192 (pm_blk 192 2) [some (.ref 138), some (.int (nI ls.length))] [] (hp c0 w m) = ev sc (d' + 7) 192 (pm_blk 192 2) [some (.ref 138), some (.int (nI (ls.length + 1)))] [] (hp c0 w m')) ∧ mW m m' ∧ mB N T (j + 1) cd m' ∧ wsM (ls ++ [(p, h, s, t, y0)]) (m' 157) := by
            intro cd m hx hm hv hr
            obtain ⟨M, q1, q2, q3, q4⟩ := md cd m hx hm hv
            obtain ⟨m2, u1, u2, u3, u4⟩ := t_mark (sc := sc) (w := w) (m0 := m0) (d' + 1) j cd M hR (q2.xK hx) q3 (fun _ => hj)
            rw [if_pos y] at u1
            have u5 := fun c0 => q1 c0 _ m2 (u1 c0)
            have a3 := a3 cd m hm
            refine ⟨m2, fun c0 => ?_, q2.tr u2.w, u3 y, ?_⟩
            · conv => lhs; rw [bh_MO_readWants_2]
              simp (disch := first | assumption | omega | decide | (simp only [ma_wd0, ma_wdi, ma_wdr, ma_wdl, ma_wdn] <;> omega)) only [↓reduceIte, evK, evL, evS, evA, evJ, Option.bind_some, Option.toList, List.cons_append, List.nil_append, nI_add, pk_mul, bI0, ite_not, ev_rbb, up_n, up_s, up_u, pk_us, pk_un, Nat.reduceAdd, nI_ltT, nI_ltF, nI_leT, nI_leF, nI_eqT, nI_eqF, bk_MO_readWants, gfC, gfM, ev_r0, ev_r1, eq_self, n_m1e, true_and, and_true, false_and, and_false, and_self, not_true_eq_false, not_false_eq_true, ce_MO_isWord, a3, ce_MO_readWant, u5]
            · rw [u2.1 157 (by omega)]
              intro x p' h' s' t' y' hx
              rw [q4]
              unfold w5
              rcases snoc_get hx with ⟨hx1, hx2⟩ | ⟨hx1, hx2⟩
              · have := hr x p' h' s' t' y' hx2
                refine ⟨?_, ?_, ?_, ?_, ?_⟩
                · rw [pk_un (by omega), pk_un (by omega), pk_un (by omega), pk_un (by omega), pk_un (by omega)]; exact this.1
                · rw [pk_un (by omega), pk_un (by omega), pk_un (by omega), pk_un (by omega), pk_un (by omega)]; exact this.2.1
                · rw [pk_un (by omega), pk_un (by omega), pk_un (by omega), pk_un (by omega), pk_un (by omega)]; exact this.2.2.1
                · rw [pk_un (by omega), pk_un (by omega), pk_un (by omega), pk_un (by omega), pk_un (by omega)]; exact this.2.2.2.1
                · rw [pk_un (by omega), pk_un (by omega), pk_un (by omega), pk_un (by omega), pk_un (by omega)]; exact this.2.2.2.2
              · cases hx2
                rw [hx1]
                exact ⟨by rw [pk_un (by omega), pk_un (by omega), pk_un (by omega), pk_un (by omega), pk_us], by rw [pk_un (by omega), pk_un (by omega), pk_un (by omega), pk_us], by rw [pk_un (by omega), pk_un (by omega), pk_us], by rw [pk_un (by omega), pk_us], pk_us⟩
          cases R with
          | inr fp =>
            refine ⟨.inr fp, f1, fun e c he hc h0 hv hr => ?_, fun cd m hx hm hv hr => ?_⟩
            · obtain ⟨c2, q1, q2, q3, q4, q5⟩ := cls e c he hc h0 hv hr
              obtain ⟨c3, u1, u2, u3⟩ := f2 e c2 he q3 q4 (by rw [q2.1 1 (by omega) (by omega) (by omega)]; exact hv) q5
              exact ⟨c3, fun m1 => (q1 m1).trans (u1 m1), q2.tr u2, u3⟩
            · obtain ⟨m2, q1, q2, q3, q4⟩ := mod cd m hx hm hv hr
              obtain ⟨m3, u1, u2, u3⟩ := f3 cd m2 (q2.xK hx) q3 (by rw [q2.2.1 10 (by decide)]; exact hv) q4
              exact ⟨m3, fun c0 => (q1 c0).trans (u1 c0), q2.tr u2, u3⟩
          | inl ls' =>
            refine ⟨.inl ls', f1, fun e c he hc h0 hv hr => ?_, fun cd m hx hm hv hr => ?_⟩
            · obtain ⟨c2, q1, q2, q3, q4, q5⟩ := cls e c he hc h0 hv hr
              obtain ⟨c3, u1, u2, u3⟩ := f2 e c2 he q3 q4 (by rw [q2.1 1 (by omega) (by omega) (by omega)]; exact hv) q5
              exact ⟨c3, fun m1 => (q1 m1).trans (u1 m1), q2.tr u2, u3⟩
            · obtain ⟨m2, q1, q2, q3, q4⟩ := mod cd m hx hm hv hr
              obtain ⟨m3, u1, u2, u3⟩ := f3 cd m2 (q2.xK hx) q3 (by rw [q2.2.1 10 (by decide)]; exact hv) q4
              exact ⟨m3, fun c0 => (q1 c0).trans (u1 c0), q2.tr u2, u3⟩
        · refine ⟨.inr (1, T 1 j), ⟨by omega, by omega, kj.2.2.1⟩, fun e c he hc h0 hv hr => ?_, fun cd m hx hm hv hr => ?_⟩
          · obtain ⟨d, rfl⟩ : ∃ d, e = d + 4 := ⟨e - 4, by omega⟩
            obtain ⟨c2, q1, q2, q3, q4⟩ := cl d c hc h0 hv
            have a1 := a1 c hc
            have a2 := a2 c hc
            have a4 := fun d m => (t_take' (sc := sc) (w := w) d j 59 c2 hT q3 (by omega)).2 y m
            refine ⟨_, fun m1 => ?_, q2.r.tr (flC_E (T := T) (i := j) 1).r, flC_Y 1⟩
            rw [bh_Reader_readRows_10]
            simp (disch := first | assumption | omega | decide | (simp only [ma_wd0, ma_wdi, ma_wdr, ma_wdl, ma_wdn] <;> omega)) only [↓reduceIte, evK, evL, evS, evA, evJ, Option.bind_some, Option.toList, List.cons_append, List.nil_append, nI_add, pk_mul, bI0, ite_not, ev_rbb, up_n, up_s, up_u, pk_us, pk_un, Nat.reduceAdd, nI_ltT, nI_ltF, nI_leT, nI_leF, nI_eqT, nI_eqF, bk_Reader_readRows, gfC, gfM, ev_r0, ev_r1, eq_self, n_m1e, true_and, and_true, false_and, and_false, and_self, not_true_eq_false, not_false_eq_true, ce_Tokens_now, a1, h0, ce_Tokens_take, a2, ce_Reader_readWant, q1, a4]
          · obtain ⟨M, q1, q2, q3, q4⟩ := md cd m hx hm hv
            obtain ⟨m2, u1, u2, u3, u4⟩ := t_mark (sc := sc) (w := w) (m0 := m0) (d' + 1) j cd M hR (q2.xK hx) q3 (fun z => absurd z y)
            rw [if_neg y] at u1
            have u5 := fun c0 => q1 c0 _ m2 (u1 c0)
            have a3 := a3 cd m hm
            refine ⟨m2, fun c0 => ?_, q2.tr u2.w, u4 y⟩
            rw [bh_MO_readWants_2]
            simp (disch := first | assumption | omega | decide | (simp only [ma_wd0, ma_wdi, ma_wdr, ma_wdl, ma_wdn] <;> omega)) only [↓reduceIte, evK, evL, evS, evA, evJ, Option.bind_some, Option.toList, List.cons_append, List.nil_append, nI_add, pk_mul, bI0, ite_not, ev_rbb, up_n, up_s, up_u, pk_us, pk_un, Nat.reduceAdd, nI_ltT, nI_ltF, nI_leT, nI_leF, nI_eqT, nI_eqF, bk_MO_readWants, gfC, gfM, ev_r0, ev_r1, eq_self, n_m1e, true_and, and_true, false_and, and_false, and_self, not_true_eq_false, not_false_eq_true, ce_MO_isWord, a3, ce_MO_readWant, u5]
  · refine ⟨.inr (1, T 1 i), ⟨by omega, by omega, k2⟩, fun e c he hc h0 hv hr => ?_, fun cd m hx hm hv hr => ?_⟩
    · obtain ⟨d, rfl⟩ : ∃ d, e = d + 2 := ⟨e - 2, by omega⟩
      have a1 := fun d m => t_now (sc := sc) (w := w) (m := m) d hT hc.1 hc.2.1 hi
      have a4 := fun d m => (t_take' (sc := sc) (w := w) d i 277 c hT hc (by omega)).2 z1 m
      refine ⟨_, fun m1 => ?_, (flC_E (T := T) (i := i) 1).r, flC_Y 1⟩
      rw [bh_Reader_readRows_10]
      simp (disch := first | assumption | omega | decide | (simp only [ma_wd0, ma_wdi, ma_wdr, ma_wdl, ma_wdn] <;> omega)) only [↓reduceIte, evK, evL, evS, evA, evJ, Option.bind_some, Option.toList, List.cons_append, List.nil_append, nI_add, pk_mul, bI0, ite_not, ev_rbb, up_n, up_s, up_u, pk_us, pk_un, Nat.reduceAdd, nI_ltT, nI_ltF, nI_leT, nI_leF, nI_eqT, nI_eqF, bk_Reader_readRows, gfC, gfM, ev_r0, ev_r1, eq_self, n_m1e, true_and, and_true, false_and, and_false, and_self, not_true_eq_false, not_false_eq_true, ce_Tokens_now, a1, ce_Tokens_take, a4]
    · have a1 := fun d c => t_isWord (sc := sc) (w := w) (c := c) d 277 21 hm (by omega) (by omega) rfl
      have a2 := fun d c => t_errs (sc := sc) (w := w) (c := c) d 1 hm
      have eo := erM_o (N := N) (T := T) (acc := []) (m := m) (i := i) 1
      have e0 : (m 138 19 = nI 0) = False := by rw [hm.1.fin]; exact eq_false z0
      rw [bI_f z1] at a1
      refine ⟨erM T i 1 m, fun c0 => ?_, (erM_E 1).w, eo.1, eo.2⟩
      rw [bh_MO_readWants_2]
      simp (disch := first | assumption | omega | decide | (simp only [ma_wd0, ma_wdi, ma_wdr, ma_wdl, ma_wdn] <;> omega)) only [↓reduceIte, evK, evL, evS, evA, evJ, Option.bind_some, Option.toList, List.cons_append, List.nil_append, nI_add, pk_mul, bI0, ite_not, ev_rbb, up_n, up_s, up_u, pk_us, pk_un, Nat.reduceAdd, nI_ltT, nI_ltF, nI_leT, nI_leF, nI_eqT, nI_eqF, bk_MO_readWants, gfC, gfM, ev_r0, ev_r1, eq_self, n_m1e, true_and, and_true, false_and, and_false, and_self, not_true_eq_false, not_false_eq_true, ce_MO_isWord, a1, e0, ce_MO_errs, a2]
end RR
