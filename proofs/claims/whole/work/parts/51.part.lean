/-! ===== part, feed ===== -/
theorem dsk_ex (p : Nat → Bool) : ∀ k i, dsk p k i = -1 ∨ ∃ t, t < i + k ∧ dsk p k i = nI t
  | 0, _ => Or.inl rfl
  | k + 1, i => by
    unfold dsk
    split
    · exact Or.inr ⟨i, by omega, rfl⟩
    · rcases dsk_ex p k (i + 1) with h | ⟨t, ht, h⟩
      · exact Or.inl h
      · exact Or.inr ⟨t, by omega, h⟩
def dkN (ls : List lL) (W : Nat) (Z : Nat → Nat → Int32) (x : Nat) : Nat := if duskS ls W (zH Z) (zN Z) (Z 0 0) x = -1 then 24 else nK (duskS ls W (zH Z) (zN Z) (Z 0 0) x)
theorem dkN_ex (ls : List lL) (W : Nat) (Z : Nat → Nat → Int32) (x : Nat) : (duskS ls W (zH Z) (zN Z) (Z 0 0) x = -1 ∧ dkN ls W Z x = 24) ∨ (duskS ls W (zH Z) (zN Z) (Z 0 0) x = nI (dkN ls W Z x) ∧ dkN ls W Z x < 24) := by
  unfold dkN
  rcases dsk_ex (fun i => decide (sunS ls W (zH Z) (zN Z) (Z 0 0) x (nI i) ≤ zH Z x)) 24 0 with h | ⟨t, ht, h⟩
  · have h' : duskS ls W (zH Z) (zN Z) (Z 0 0) x = -1 := h
    exact Or.inl ⟨h', if_pos h'⟩
  · have h' : duskS ls W (zH Z) (zN Z) (Z 0 0) x = nI t := h
    have h2 : ¬ nI t = -1 := fun z => (nI_m1ne (j := t) (by omega)).mp z
    rw [h', if_neg h2, nK_nI (by omega)]
    exact Or.inr ⟨rfl, by omega⟩
theorem dkN_le (ls : List lL) (W : Nat) (Z : Nat → Nat → Int32) (x : Nat) : dkN ls W Z x ≤ 24 := by
  rcases dkN_ex ls W Z x with h | h <;> omega
theorem gQ.hi {W S Q : Nat} {ls : List lL} {c m Z : Nat → Nat → Int32} (h : gQ W S Q ls c m Z) {k : Nat} (hk : 80 < k) (f : Nat → Int32) : gQ W S Q ls (va_up c k f) m Z := by
  obtain ⟨t, j, p, i, x⟩ := h
  have e : ∀ r, r ≤ 80 → va_up c k f r = c r := fun r hr => up_n _ _ _ _ (by omega)
  refine ⟨t.eq (fun r hr => e r ?_) (fun _ _ => rfl) (fun _ _ => rfl), j.eq (fun r a b => e r (by omega)) (e 23 (by omega)) rfl rfl rfl, p.eq (fun r a b => e r (by omega)) rfl rfl, i.eq (by rw [e 0 (by omega)]) (fun r a b => e r (by omega)) rfl rfl, x.eq (by rw [e 79 (by omega)]) (by rw [e 79 (by omega)]) (by rw [e 79 (by omega)]) (e 80 (by omega)) rfl rfl rfl rfl rfl⟩
  simp only [tRc, List.mem_cons, List.not_mem_nil, or_false] at hr
  omega
def sumF (f : Nat → Nat) : Nat → Nat
  | 0 => 0
  | n + 1 => sumF f n + f n
theorem sumF_le {f : Nat → Nat} {b : Nat} (h : ∀ i, f i ≤ b) : ∀ n, sumF f n ≤ n * b
  | 0 => by simp [sumF]
  | n + 1 => by
    have := sumF_le h n
    have := h n
    simp only [sumF, Nat.succ_mul]
    omega
theorem sumF_ge {f : Nat → Nat} (h : ∀ i, 1 ≤ f i) : ∀ n, n ≤ sumF f n
  | 0 => by simp
  | n + 1 => by
    have := sumF_ge h n
    have := h n
    simp only [sumF]
    omega
def leftF (cv al : Nat) (f : Nat → Nat) : Nat → Int32
  | 0 => nI cv
  | n + 1 => leftF cv al f n - nI (cv * f n) / nI al
def restF (cv al : Nat) (f : Nat → Nat) (n : Nat) : Int32 := iRem (nI (cv * f n)) (nI al)
def aheF (cv al pi : Nat) (f : Nat → Nat) : Nat → Nat
  | 0 => 0
  | n + 1 => if restF cv al f n ≤ restF cv al f pi then (if restF cv al f n = restF cv al f pi then (if n < pi then aheF cv al pi f n + 1 else aheF cv al pi f n) else aheF cv al pi f n) else aheF cv al pi f n + 1
theorem aheF_le (cv al pi : Nat) (f : Nat → Nat) : ∀ n, aheF cv al pi f n ≤ n
  | 0 => by simp [aheF]
  | n + 1 => by
    have := aheF_le cv al pi f n
    unfold aheF
    repeat' split
    all_goals omega
section P9
variable {sc : Nat × (Nat → Int32)} {W S Q : Nat} {ls : List lL} {c m Z : Nat → Nat → Int32} {w : Nat → Int64} {h : List ma_C}
theorem j_wt (d d' x p : Nat) (g : gQ W S Q ls c m Z) (hx : x < W) (hp6 : p < 6) (h3 : m 143 p = nI x) : ∃ g1 f1 g2 f2, (∀ m0, cc sc (d + 3) 108 [.ref 103, .ref 17, .int (nI x)] (hp c w m0) = some (some (.int (nI (dkN ls W Z x))), hp (va_up (va_up c 94 g1) 95 f1) w m0)) ∧ (∀ c0, cc sc (d' + 6) 284 [.ref 138, .int (nI p)] (hp c0 w m) = some (some (.int (nI (dkN ls W Z x + 1))), hp c0 w (va_up (va_up m 158 g2) 159 f2))) := by
  obtain ⟨t, j, -, -, -⟩ := id g
  have hW := t.1.2.2.2
  obtain ⟨g1, f1, hc⟩ := t_Asker_dusk (sc := sc) (c := c) (w := w) d x W 17 ls (Or.inl rfl) hx t.1 j.hB
  obtain ⟨g2, f2, hm⟩ := t_MO_duskOf (sc := sc) (m := m) (w := w) d' x W ls hx t.2.1
  rw [(j.dusk hx hW).1] at hc
  rw [(j.dusk hx hW).2] at hm
  refine ⟨g1, f1, g2, f2, fun m0 => ?_, fun c0 => ?_⟩
  · rcases dkN_ex ls W Z x with ⟨e1, e2⟩ | ⟨e1, e2⟩
    · simp (disch := first | assumption | omega | decide | (simp only [ma_wd0, ma_wdi, ma_wdr, ma_wdl, ma_wdn] <;> omega)) only [↓reduceIte, evK, evL, evS, evA, evJ, Option.bind_some, Option.toList, List.cons_append, List.nil_append, nI_add, pk_mul, bI0, ite_not, ev_rbb, up_n, up_s, up_u, pk_us, pk_un, Nat.reduceAdd, nI_ltT, nI_ltF, nI_leT, nI_leF, nI_eqT, nI_eqF, en_Thought_duskOr24, bk_Thought_duskOr24, gfC, ce_Asker_dusk, hc, e1, e2]
    · simp (disch := first | assumption | omega | decide | (simp only [ma_wd0, ma_wdi, ma_wdr, ma_wdl, ma_wdn] <;> omega)) only [↓reduceIte, evK, evL, evS, evA, evJ, Option.bind_some, Option.toList, List.cons_append, List.nil_append, nI_add, pk_mul, bI0, ite_not, ev_rbb, up_n, up_s, up_u, pk_us, pk_un, Nat.reduceAdd, nI_ltT, nI_ltF, nI_leT, nI_leF, nI_eqT, nI_eqF, en_Thought_duskOr24, bk_Thought_duskOr24, gfC, ce_Asker_dusk, hc, e1, nI_m1ne]
  · rcases dkN_ex ls W Z x with ⟨e1, e2⟩ | ⟨e1, e2⟩
    · simp (disch := first | assumption | omega | decide | (simp only [ma_wd0, ma_wdi, ma_wdr, ma_wdl, ma_wdn] <;> omega)) only [↓reduceIte, evK, evL, evS, evA, evJ, Option.bind_some, Option.toList, List.cons_append, List.nil_append, nI_add, pk_mul, bI0, ite_not, ev_rbb, up_n, up_s, up_u, pk_us, pk_un, Nat.reduceAdd, nI_ltT, nI_ltF, nI_leT, nI_leF, nI_eqT, nI_eqF, en_MO_weightOf, bk_MO_weightOf, gfM, ldM, h3, ce_MO_duskOf, hm, e1, e2]
    · simp (disch := first | assumption | omega | decide | (simp only [ma_wd0, ma_wdi, ma_wdr, ma_wdl, ma_wdn] <;> omega)) only [↓reduceIte, evK, evL, evS, evA, evJ, Option.bind_some, Option.toList, List.cons_append, List.nil_append, nI_add, pk_mul, bI0, ite_not, ev_rbb, up_n, up_s, up_u, pk_us, pk_un, Nat.reduceAdd, nI_ltT, nI_ltF, nI_leT, nI_leF, nI_eqT, nI_eqF, en_MO_weightOf, bk_MO_weightOf, gfM, ldM, h3, ce_MO_duskOf, hm, e1, nI_m1ne]
theorem p_part (d : Nat) (a b : Int32) (h : gR c m) : pub sc w (d + 20) 37 283 [.int a, .int b] c m := by
  obtain ⟨W, S, Q, ls, Z, g⟩ := h.e
  have hq0 := h.q0
  have g0 := g.q0
  generalize hm1 : va_up m 138 (upd (m 138) 0 (nI 0)) = m1 at g0 hq0
  obtain ⟨q1, q2, hQ, hq⟩ := g0.1.2.2.2.1
  by_cases h1 : nI 0 ≤ a ∧ a ≤ nI 9999
  · obtain ⟨cv, -, hcv, rfl⟩ := rng (by omega) h1.1 h1.2 (by omega)
    by_cases h2 : nI 0 ≤ b ∧ b < nI Q
    · obtain ⟨pi, hpi, rfl⟩ := rngl (by omega) h2.1 h2.2
      have hat : ∀ p, p < Q → nK (c 3 p) < W ∧ c 3 p = nI (nK (c 3 p)) ∧ m1 143 p = nI (nK (c 3 p)) := fun p hp => by
        obtain ⟨k, e, hk, -, r1, r2, -, -⟩ := hq p hp
        have hW := g0.1.1.2.2.2
        rw [r1, nK_nI (by omega)]
        exact ⟨hk, rfl, r2⟩
      generalize hwt : (fun p => dkN ls W Z (nK (c 3 p)) + 1) = wt
      have wt1 : ∀ p, 1 ≤ wt p := fun p => by rw [← hwt]; simp only; omega
      have wt25 : ∀ p, wt p ≤ 25 := fun p => by rw [← hwt]; have := dkN_le ls W Z (nK (c 3 p)); simp only; omega
      have wte : ∀ p, dkN ls W Z (nK (c 3 p)) + 1 = wt p := fun p => by rw [← hwt]
      have al1 := sumF_ge wt1 Q
      have al2 := sumF_le wt25 Q
      obtain ⟨x, y, c1, m2, f1, f2, rfl, rfl, g1, hwr, hc3, hm143⟩ := sim_loop (w := w) Q (fun i (s : Nat) h => ev sc (d + 19) 118 (pm_blk 118 5) [some (.ref 103), some (.int (nI cv)), some (.int (nI pi)), some (.int (nI s)), some (.int (nI i)), none, none, none, none] [] h)
        (fun i (s : Nat) h => ev sc (d + 20) 283 (pm_blk 283 32) [some (.ref 138), some (.int (nI cv)), some (.int (nI pi)), some (.int (nI s)), some (.int (nI i)), none, none, none, none] [] h)
        (fun i s t c' m' => s = t ∧ sumF wt i = s ∧ gQ W S Q ls c' m' Z ∧ (∀ p, p < i → c' 137 p = nI (wt p)) ∧ c' 3 = c 3 ∧ m' 143 = m1 143) (by
          rintro i s t c1 m2 hi ⟨rfl, rfl, g1, hwr, hc3, hm143⟩
          obtain ⟨r1, r2, -, -⟩ := g1.1.2.2.2.1
          obtain ⟨ha, ha1, ha2⟩ := hat i hi
          have ha1 : c1 3 i = nI (nK (c 3 i)) := by rw [hc3]; exact ha1
          rw [← hm143] at ha2
          obtain ⟨u1, u2, u3, u4, s1, s2⟩ := j_wt (sc := sc) (w := w) (d + 15) (d + 13) _ i g1 ha (by omega) ha2
          simp only [wte] at s2
          have kp := fun m => t_Told_kept (sc := sc) (c := c1) (m := m) (w := w) (d + 17) (nK (c 3 i)) W ha g1.1.1.2.2.2 g1.1.1.2.1
          refine ⟨sumF wt i + wt i, sumF wt i + wt i, _, _, fun m0 => ?_, fun c0 => ?_, rfl, rfl, (g1.jk u1 u2 u3 u4).hi (k := 137) (by omega) (upd (c1 137) i (nI (wt i))), fun p hp => ?_, ?_, ?_⟩
          · conv => lhs; rw [bh_Thought_shareOf_5]
            simp (disch := first | assumption | omega | decide | (simp only [ma_wd0, ma_wdi, ma_wdr, ma_wdl, ma_wdn] <;> omega)) only [↓reduceIte, evK, evL, evS, evA, evJ, Option.bind_some, Option.toList, List.cons_append, List.nil_append, nI_add, pk_mul, bI0, ite_not, ev_rbb, up_n, up_s, up_u, pk_us, pk_un, Nat.reduceAdd, nI_ltT, nI_ltF, nI_leT, nI_leF, nI_eqT, nI_eqF, gfC, ldC, stC, r1, ha1, ce_Told_kept, kp, ce_Thought_duskOr24, s1, wte]
          · conv => lhs; rw [bh_MO_part_32]
            simp (disch := first | assumption | omega | decide | (simp only [ma_wd0, ma_wdi, ma_wdr, ma_wdl, ma_wdn] <;> omega)) only [↓reduceIte, evK, evL, evS, evA, evJ, Option.bind_some, Option.toList, List.cons_append, List.nil_append, nI_add, pk_mul, bI0, ite_not, ev_rbb, up_n, up_s, up_u, pk_us, pk_un, Nat.reduceAdd, nI_ltT, nI_ltF, nI_leT, nI_leF, nI_eqT, nI_eqF, gfM, r2, ce_MO_weightOf, s2]
          · rw [up_s]
            by_cases e : p = i
            · subst e; exact pk_us
            · rw [pk_un e]; exact hwr p (by omega)
          · simp (disch := first | assumption | omega | decide | (simp only [ma_wd0, ma_wdi, ma_wdr, ma_wdl, ma_wdn] <;> omega)) only [up_n, up_s, up_u, pk_us, pk_un, Nat.reduceAdd]
            exact hc3
          · simp (disch := first | assumption | omega | decide | (simp only [ma_wd0, ma_wdi, ma_wdr, ma_wdl, ma_wdn] <;> omega)) only [up_n, up_s, up_u, pk_us, pk_un, Nat.reduceAdd]
            exact hm143) Q 0 0 0 c m1 (by omega) ⟨rfl, rfl, g0, fun p hp => by omega, rfl, rfl⟩
      generalize hal : sumF wt Q = al at *
      obtain ⟨r1, -, -, -⟩ := g1.1.2.2.2.1
      have hwpi := hwr pi hpi
      have hrr : restF cv al wt pi ≤ restF cv al wt pi := Int32.le_refl _
      have al0 : (nI al = nI 0) = False := nI_eqF (by omega) (by omega) (by omega)
      -- the class's loop
      have C2 : ∀ n, n ≤ Q → ∃ x8, ∀ m0, ev sc (d + 19) 118 (pm_blk 118 95) [some (.ref 103), some (.int (nI cv)), some (.int (nI pi)), some (.int (nI al)), some (.int (nI cv)), some (.int (nI 0)), some (.int (restF cv al wt pi)), some (.int (nI 0)), none] [] (hp c1 w m0) = ev sc (d + 19) 118 (pm_blk 118 95) [some (.ref 103), some (.int (nI cv)), some (.int (nI pi)), some (.int (nI al)), some (.int (leftF cv al wt n)), some (.int (nI (aheF cv al pi wt n))), some (.int (restF cv al wt pi)), some (.int (nI n)), x8] [] (hp c1 w m0) := by
        intro n
        induction n with
        | zero => intro _; exact ⟨none, fun m0 => rfl⟩
        | succ n ih =>
          intro hn
          obtain ⟨x8, ih⟩ := ih (by omega)
          have hwn := hwr n (by omega)
          refine ⟨some (.int (restF cv al wt n)), fun m0 => (ih m0).trans ?_⟩
          conv => lhs; rw [bh_Thought_shareOf_95]
          have er : iRem (nI (cv * wt n)) (nI al) = restF cv al wt n := rfl
          by_cases z1 : restF cv al wt n ≤ restF cv al wt pi
          · by_cases z2 : restF cv al wt n = restF cv al wt pi
            · by_cases z3 : n < pi
              · simp (disch := first | assumption | omega | decide | (simp only [ma_wd0, ma_wdi, ma_wdr, ma_wdl, ma_wdn] <;> omega)) only [↓reduceIte, evK, evL, evS, evA, evJ, Option.bind_some, Option.toList, List.cons_append, List.nil_append, nI_add, pk_mul, bI0, ite_not, ev_rbb, up_n, up_s, up_u, pk_us, pk_un, Nat.reduceAdd, nI_ltT, nI_ltF, nI_leT, nI_leF, nI_eqT, nI_eqF, bk_Thought_shareOf, gfC, ldC, r1, hwn, al0, er, z2, z3, hrr, leftF, aheF]
              · simp (disch := first | assumption | omega | decide | (simp only [ma_wd0, ma_wdi, ma_wdr, ma_wdl, ma_wdn] <;> omega)) only [↓reduceIte, evK, evL, evS, evA, evJ, Option.bind_some, Option.toList, List.cons_append, List.nil_append, nI_add, pk_mul, bI0, ite_not, ev_rbb, up_n, up_s, up_u, pk_us, pk_un, Nat.reduceAdd, nI_ltT, nI_ltF, nI_leT, nI_leF, nI_eqT, nI_eqF, bk_Thought_shareOf, gfC, ldC, r1, hwn, al0, er, z2, z3, hrr, leftF, aheF, Nat.add_zero]
            · simp (disch := first | assumption | omega | decide | (simp only [ma_wd0, ma_wdi, ma_wdr, ma_wdl, ma_wdn] <;> omega)) only [↓reduceIte, evK, evL, evS, evA, evJ, Option.bind_some, Option.toList, List.cons_append, List.nil_append, nI_add, pk_mul, bI0, ite_not, ev_rbb, up_n, up_s, up_u, pk_us, pk_un, Nat.reduceAdd, nI_ltT, nI_ltF, nI_leT, nI_leF, nI_eqT, nI_eqF, bk_Thought_shareOf, gfC, ldC, r1, hwn, al0, er, z1, z2, leftF, aheF, Nat.add_zero]
          · simp (disch := first | assumption | omega | decide | (simp only [ma_wd0, ma_wdi, ma_wdr, ma_wdl, ma_wdn] <;> omega)) only [↓reduceIte, evK, evL, evS, evA, evJ, Option.bind_some, Option.toList, List.cons_append, List.nil_append, nI_add, pk_mul, bI0, ite_not, ev_rbb, up_n, up_s, up_u, pk_us, pk_un, Nat.reduceAdd, nI_ltT, nI_ltF, nI_leT, nI_leF, nI_eqT, nI_eqF, bk_Thought_shareOf, gfC, ldC, r1, hwn, al0, er, z1, leftF, aheF]
      obtain ⟨x8, C2⟩ := C2 Q (Nat.le_refl _)
      -- the reference's loops
      have WT : ∀ (m' : Nat → Nat → Int32) (p : Nat), gQ W S Q ls c1 m' Z → m' 143 = m1 143 → p < Q → ∃ g2 f2, (∀ c0, cc sc (d + 19) 284 [.ref 138, .int (nI p)] (hp c0 w m') = some (some (.int (nI (wt p))), hp c0 w (va_up (va_up m' 158 g2) 159 f2))) ∧ gQ W S Q ls c1 (va_up (va_up m' 158 g2) 159 f2) Z ∧ (va_up (va_up m' 158 g2) 159 f2) 143 = m1 143 := by
        intro m' p gg e143 hp
        obtain ⟨ha, ha1, ha2⟩ := hat p hp
        rw [← e143] at ha2
        obtain ⟨u1, u2, u3, u4, s1, s2⟩ := j_wt (sc := sc) (w := w) (d + 15) (d + 13) _ p gg ha (by omega) ha2
        simp only [wte] at s2
        have gj := gg.jk (c1 94) (c1 95) u3 u4
        simp only [up_self] at gj
        refine ⟨u3, u4, s2, gj, ?_⟩
        simp (disch := first | assumption | omega | decide | (simp only [ma_wd0, ma_wdi, ma_wdr, ma_wdl, ma_wdn] <;> omega)) only [up_n, up_s, up_u, pk_us, pk_un, Nat.reduceAdd]
        exact e143
      obtain ⟨-, y2, -, m3, -, F2, rfl, gx, e3⟩ := sim_loop (w := w) Q (fun i (s : Unit) h => (none : Option (Option Value × List ma_C)))
        (fun i (s : Int32) h => ev sc (d + 20) 283 (pm_blk 283 62) [some (.ref 138), some (.int (nI cv)), some (.int (nI pi)), some (.int (nI al)), some (.int s), some (.int (nI i)), none, none, none] [] h)
        (fun i s t c' m' => leftF cv al wt i = t ∧ gQ W S Q ls c1 m' Z ∧ m' 143 = m1 143) (by
          rintro i s t c' m' hi ⟨rfl, gx, e3⟩
          obtain ⟨-, r2, -, -⟩ := gx.1.2.2.2.1
          obtain ⟨g2, f2, s2, gy, e4⟩ := WT m' i gx e3 hi
          refine ⟨(), leftF cv al wt (i + 1), c', _, fun _ => rfl, fun c0 => ?_, rfl, gy, e4⟩
          conv => lhs; rw [bh_MO_part_62]
          simp (disch := first | assumption | omega | decide | (simp only [ma_wd0, ma_wdi, ma_wdr, ma_wdl, ma_wdn] <;> omega)) only [↓reduceIte, evK, evL, evS, evA, evJ, Option.bind_some, Option.toList, List.cons_append, List.nil_append, nI_add, pk_mul, bI0, ite_not, ev_rbb, up_n, up_s, up_u, pk_us, pk_un, Nat.reduceAdd, nI_ltT, nI_ltF, nI_leT, nI_leF, nI_eqT, nI_eqF, gfM, r2, ce_MO_weightOf, s2, al0, leftF]) Q 0 () (nI cv) c m2 (by omega) ⟨rfl, g1, hm143⟩
      obtain ⟨-, r3, -, -⟩ := gx.1.2.2.2.1
      obtain ⟨g4, f4, W4, gy, e4⟩ := WT m3 pi gx e3 hpi
      obtain ⟨-, y5, -, m5, -, F5, hy5, gz, e5⟩ := sim_loop (w := w) Q (fun i (s : Unit) h => (none : Option (Option Value × List ma_C)))
        (fun i (s : Int32 × Option Value) h => ev sc (d + 20) 283 (pm_blk 283 109) [some (.ref 138), some (.int (nI cv)), some (.int (nI pi)), some (.int (nI al)), some (.int (leftF cv al wt Q)), some (.int (restF cv al wt pi)), some (.int s.1), some (.int (nI i)), s.2] [] h)
        (fun i s t c' m' => t.1 = nI (aheF cv al pi wt i) ∧ gQ W S Q ls c1 m' Z ∧ m' 143 = m1 143) (by
          rintro i s ⟨t, t2⟩ c' m' hi ⟨h0, gx, e3⟩
          simp only at h0
          subst h0
          obtain ⟨-, r2, -, -⟩ := gx.1.2.2.2.1
          obtain ⟨g2, f2, s2, gy, e4⟩ := WT m' i gx e3 hi
          refine ⟨(), (nI (aheF cv al pi wt (i + 1)), some (.int (restF cv al wt i))), c', _, fun _ => rfl, fun c0 => ?_, rfl, gy, e4⟩
          conv => lhs; rw [bh_MO_part_109]
          have er : iRem (nI (cv * wt i)) (nI al) = restF cv al wt i := rfl
          by_cases z1 : restF cv al wt i ≤ restF cv al wt pi
          · by_cases z2 : restF cv al wt i = restF cv al wt pi
            · by_cases z3 : i < pi
              · simp (disch := first | assumption | omega | decide | (simp only [ma_wd0, ma_wdi, ma_wdr, ma_wdl, ma_wdn] <;> omega)) only [↓reduceIte, evK, evL, evS, evA, evJ, Option.bind_some, Option.toList, List.cons_append, List.nil_append, nI_add, pk_mul, bI0, ite_not, ev_rbb, up_n, up_s, up_u, pk_us, pk_un, Nat.reduceAdd, nI_ltT, nI_ltF, nI_leT, nI_leF, nI_eqT, nI_eqF, bk_MO_part, gfM, r2, ce_MO_weightOf, s2, al0, er, z2, z3, hrr, aheF]
              · simp (disch := first | assumption | omega | decide | (simp only [ma_wd0, ma_wdi, ma_wdr, ma_wdl, ma_wdn] <;> omega)) only [↓reduceIte, evK, evL, evS, evA, evJ, Option.bind_some, Option.toList, List.cons_append, List.nil_append, nI_add, pk_mul, bI0, ite_not, ev_rbb, up_n, up_s, up_u, pk_us, pk_un, Nat.reduceAdd, nI_ltT, nI_ltF, nI_leT, nI_leF, nI_eqT, nI_eqF, bk_MO_part, gfM, r2, ce_MO_weightOf, s2, al0, er, z2, z3, hrr, aheF]
            · simp (disch := first | assumption | omega | decide | (simp only [ma_wd0, ma_wdi, ma_wdr, ma_wdl, ma_wdn] <;> omega)) only [↓reduceIte, evK, evL, evS, evA, evJ, Option.bind_some, Option.toList, List.cons_append, List.nil_append, nI_add, pk_mul, bI0, ite_not, ev_rbb, up_n, up_s, up_u, pk_us, pk_un, Nat.reduceAdd, nI_ltT, nI_ltF, nI_leT, nI_leF, nI_eqT, nI_eqF, bk_MO_part, gfM, r2, ce_MO_weightOf, s2, al0, er, z1, z2, aheF]
          · simp (disch := first | assumption | omega | decide | (simp only [ma_wd0, ma_wdi, ma_wdr, ma_wdl, ma_wdn] <;> omega)) only [↓reduceIte, evK, evL, evS, evA, evJ, Option.bind_some, Option.toList, List.cons_append, List.nil_append, nI_add, pk_mul, bI0, ite_not, ev_rbb, up_n, up_s, up_u, pk_us, pk_un, Nat.reduceAdd, nI_ltT, nI_ltF, nI_leT, nI_leF, nI_eqT, nI_eqF, bk_MO_part, gfM, r2, ce_MO_weightOf, s2, al0, er, z1, aheF]) Q 0 () (nI 0, none) c (va_up (va_up m3 158 g4) 159 f4) (by omega) ⟨rfl, gy, e4⟩
      obtain ⟨-, r5, -, -⟩ := gz.1.2.2.2.1
      obtain ⟨g6, f6, W6, gu, e6⟩ := WT m5 pi gz e5 hpi
      obtain ⟨y5, y6⟩ := y5
      simp only at F5 hy5
      subst hy5
      have ero : iRem (nI (cv * wt pi)) (nI al) = restF cv al wt pi := rfl
      have r0 := g1.1.2.2.2.1.2.1
      refine ⟨c1, _, nI (cv * wt pi) / nI al + (if nI (aheF cv al pi wt Q) < leftF cv al wt Q then nI 1 else nI 0), fun m0 => ?_, fun c0 => ?_, gu.g⟩
      · simp (disch := first | assumption | omega | decide | (simp only [ma_wd0, ma_wdi, ma_wdr, ma_wdl, ma_wdn] <;> omega)) only [↓reduceIte, evK, evL, evS, evA, evJ, Option.bind_some, Option.toList, List.cons_append, List.nil_append, nI_add, pk_mul, bI0, ite_not, ev_rbb, up_n, up_s, up_u, pk_us, pk_un, Nat.reduceAdd, nI_ltT, nI_ltF, nI_leT, nI_leF, nI_eqT, nI_eqF, en_LH_part, bk_LH_part, gfC, ce_LH_within, t_LH_within, h1, and_self, not_true_eq_false, ce_Told_isPier, t_Told_isPier, q1, h2, ce_Thought_shareOf, en_Thought_shareOf, f1]
        rw [bh_Thought_shareOf_5]
        simp (disch := first | assumption | omega | decide | (simp only [ma_wd0, ma_wdi, ma_wdr, ma_wdl, ma_wdn] <;> omega)) only [↓reduceIte, evK, evL, evS, evA, evJ, Option.bind_some, Option.toList, List.cons_append, List.nil_append, nI_add, pk_mul, bI0, ite_not, ev_rbb, up_n, up_s, up_u, pk_us, pk_un, Nat.reduceAdd, nI_ltT, nI_ltF, nI_leT, nI_leF, nI_eqT, nI_eqF, bk_Thought_shareOf, gfC, ldC, r1, hwpi, al0, ero, C2]
        rw [bh_Thought_shareOf_95]
        by_cases z : nI (aheF cv al pi wt Q) < leftF cv al wt Q
        · simp (disch := first | assumption | omega | decide | (simp only [ma_wd0, ma_wdi, ma_wdr, ma_wdl, ma_wdn] <;> omega)) only [↓reduceIte, evK, evL, evS, evA, evJ, Option.bind_some, Option.toList, List.cons_append, List.nil_append, nI_add, pk_mul, bI0, ite_not, ev_rbb, up_n, up_s, up_u, pk_us, pk_un, Nat.reduceAdd, nI_ltT, nI_ltF, nI_leT, nI_leF, nI_eqT, nI_eqF, bk_Thought_shareOf, gfC, ldC, r1, hwpi, al0, z]
        · simp (disch := first | assumption | omega | decide | (simp only [ma_wd0, ma_wdi, ma_wdr, ma_wdl, ma_wdn] <;> omega)) only [↓reduceIte, evK, evL, evS, evA, evJ, Option.bind_some, Option.toList, List.cons_append, List.nil_append, nI_add, pk_mul, bI0, ite_not, ev_rbb, up_n, up_s, up_u, pk_us, pk_un, Nat.reduceAdd, nI_ltT, nI_ltF, nI_leT, nI_leF, nI_eqT, nI_eqF, bk_Thought_shareOf, gfC, ldC, r1, hwpi, al0, z]
      · simp (disch := first | assumption | omega | decide | (simp only [ma_wd0, ma_wdi, ma_wdr, ma_wdl, ma_wdn] <;> omega)) only [↓reduceIte, evK, evL, evS, evA, evJ, Option.bind_some, Option.toList, List.cons_append, List.nil_append, nI_add, pk_mul, bI0, ite_not, ev_rbb, up_n, up_s, up_u, pk_us, pk_un, Nat.reduceAdd, nI_ltT, nI_ltF, nI_leT, nI_leF, nI_eqT, nI_eqF, en_MO_part, bk_MO_part, pfM, hm1, ce_MO_isIn, t_MO_isIn, h1, and_self, not_true_eq_false, ce_MO_isPier, t_MO_isPier, q2, h2, f2]
        rw [bh_MO_part_32]
        simp (disch := first | assumption | omega | decide | (simp only [ma_wd0, ma_wdi, ma_wdr, ma_wdl, ma_wdn] <;> omega)) only [↓reduceIte, evK, evL, evS, evA, evJ, Option.bind_some, Option.toList, List.cons_append, List.nil_append, nI_add, pk_mul, bI0, ite_not, ev_rbb, up_n, up_s, up_u, pk_us, pk_un, Nat.reduceAdd, nI_ltT, nI_ltF, nI_leT, nI_leF, nI_eqT, nI_eqF, bk_MO_part, gfM, r0, F2]
        rw [bh_MO_part_62]
        simp (disch := first | assumption | omega | decide | (simp only [ma_wd0, ma_wdi, ma_wdr, ma_wdl, ma_wdn] <;> omega)) only [↓reduceIte, evK, evL, evS, evA, evJ, Option.bind_some, Option.toList, List.cons_append, List.nil_append, nI_add, pk_mul, bI0, ite_not, ev_rbb, up_n, up_s, up_u, pk_us, pk_un, Nat.reduceAdd, nI_ltT, nI_ltF, nI_leT, nI_leF, nI_eqT, nI_eqF, bk_MO_part, gfM, r3, ce_MO_weightOf, W4, al0, ero, F5]
        rw [bh_MO_part_109]
        by_cases z : nI (aheF cv al pi wt Q) < leftF cv al wt Q
        · simp (disch := first | assumption | omega | decide | (simp only [ma_wd0, ma_wdi, ma_wdr, ma_wdl, ma_wdn] <;> omega)) only [↓reduceIte, evK, evL, evS, evA, evJ, Option.bind_some, Option.toList, List.cons_append, List.nil_append, nI_add, pk_mul, bI0, ite_not, ev_rbb, up_n, up_s, up_u, pk_us, pk_un, Nat.reduceAdd, nI_ltT, nI_ltF, nI_leT, nI_leF, nI_eqT, nI_eqF, bk_MO_part, gfM, r5, ce_MO_weightOf, W6, al0, z]
        · simp (disch := first | assumption | omega | decide | (simp only [ma_wd0, ma_wdi, ma_wdr, ma_wdl, ma_wdn] <;> omega)) only [↓reduceIte, evK, evL, evS, evA, evJ, Option.bind_some, Option.toList, List.cons_append, List.nil_append, nI_add, pk_mul, bI0, ite_not, ev_rbb, up_n, up_s, up_u, pk_us, pk_un, Nat.reduceAdd, nI_ltT, nI_ltF, nI_leT, nI_leF, nI_eqT, nI_eqF, bk_MO_part, gfM, r5, ce_MO_weightOf, W6, al0, z]
    · refine ⟨c, m1, -1, fun m0 => ?_, fun c0 => ?_, hq0⟩
      · simp (disch := first | assumption | omega | decide | (simp only [ma_wd0, ma_wdi, ma_wdr, ma_wdl, ma_wdn] <;> omega)) only [↓reduceIte, evK, evL, evS, evA, evJ, Option.bind_some, Option.toList, List.cons_append, List.nil_append, nI_add, pk_mul, bI0, ite_not, ev_rbb, up_n, up_s, up_u, pk_us, pk_un, Nat.reduceAdd, nI_ltT, nI_ltF, nI_leT, nI_leF, nI_eqT, nI_eqF, en_LH_part, bk_LH_part, gfC, ce_LH_within, t_LH_within, h1, and_self, not_true_eq_false, ce_Told_isPier, t_Told_isPier, q1, h2, not_false_eq_true]
      · simp (disch := first | assumption | omega | decide | (simp only [ma_wd0, ma_wdi, ma_wdr, ma_wdl, ma_wdn] <;> omega)) only [↓reduceIte, evK, evL, evS, evA, evJ, Option.bind_some, Option.toList, List.cons_append, List.nil_append, nI_add, pk_mul, bI0, ite_not, ev_rbb, up_n, up_s, up_u, pk_us, pk_un, Nat.reduceAdd, nI_ltT, nI_ltF, nI_leT, nI_leF, nI_eqT, nI_eqF, en_MO_part, bk_MO_part, pfM, hm1, ce_MO_isIn, t_MO_isIn, h1, and_self, not_true_eq_false, ce_MO_isPier, t_MO_isPier, q2, h2, not_false_eq_true]
  · refine ⟨c, m1, -1, fun m0 => ?_, fun c0 => ?_, hq0⟩
    · simp (disch := first | assumption | omega | decide | (simp only [ma_wd0, ma_wdi, ma_wdr, ma_wdl, ma_wdn] <;> omega)) only [↓reduceIte, evK, evL, evS, evA, evJ, Option.bind_some, Option.toList, List.cons_append, List.nil_append, nI_add, pk_mul, bI0, ite_not, ev_rbb, up_n, up_s, up_u, pk_us, pk_un, Nat.reduceAdd, nI_ltT, nI_ltF, nI_leT, nI_leF, nI_eqT, nI_eqF, en_LH_part, bk_LH_part, gfC, ce_LH_within, t_LH_within, h1, not_false_eq_true]
    · simp (disch := first | assumption | omega | decide | (simp only [ma_wd0, ma_wdi, ma_wdr, ma_wdl, ma_wdn] <;> omega)) only [↓reduceIte, evK, evL, evS, evA, evJ, Option.bind_some, Option.toList, List.cons_append, List.nil_append, nI_add, pk_mul, bI0, ite_not, ev_rbb, up_n, up_s, up_u, pk_us, pk_un, Nat.reduceAdd, nI_ltT, nI_ltF, nI_leT, nI_leF, nI_eqT, nI_eqF, en_MO_part, bk_MO_part, pfM, hm1, ce_MO_isIn, t_MO_isIn, h1, not_false_eq_true]
end P9
