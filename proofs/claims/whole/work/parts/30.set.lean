/-! ===== set, move all, mend: side by side ===== -/
theorem mn_eq (g y : Int32) : (if g ≤ y then g else y) = iMn g y := by
  unfold iMn
  split <;> split
  · rfl
  · apply Int32.toInt_inj.mp
    simp only [Int32.lt_iff_toInt_lt, Int32.le_iff_toInt_le] at *
    omega
  · exfalso
    simp only [Int32.lt_iff_toInt_lt, Int32.le_iff_toInt_le] at *
    omega
  · rfl
theorem mx_eq (g y : Int32) : (if g < y then y else g) = iMx g y := by
  unfold iMx
  split <;> split
  · exfalso
    simp only [Int32.lt_iff_toInt_lt, Int32.le_iff_toInt_le] at *
    omega
  · rfl
  · rfl
  · apply Int32.toInt_inj.mp
    simp only [Int32.lt_iff_toInt_lt, Int32.le_iff_toInt_le] at *
    omega
theorem nI_ex {v : Int32} {n : Nat} (h : 0 ≤ v.toInt ∧ v.toInt ≤ n) : ∃ k, k ≤ n ∧ v = nI k := ⟨v.toInt.toNat, by omega, Int32.toInt_inj.mp (by
  have := Int32.toInt_lt v
  rw [nI_toInt (by omega)]; omega)⟩
theorem set_bd {g n : Int32} (hg : 0 ≤ g.toInt ∧ g.toInt ≤ 40) (hn : 0 ≤ n.toInt ∧ n.toInt ≤ 99) : 0 ≤ (iMn g (nI 40 - n / nI 4)).toInt ∧ (iMn g (nI 40 - n / nI 4)).toInt ≤ 40 := by
  obtain ⟨k, hk, rfl⟩ := nI_ex (n := 99) hn
  rw [pk_div (by omega) (by omega) (by omega), pk_sub (by omega)]
  unfold iMn
  split
  · exact hg
  · rw [nI_toInt (by omega)]; omega
def jP (a W S : Nat) (c0 m0 c m : Nat → Nat → Int32) : Prop := ∃ Z, jR a W S c m Z ∧ kR a c m ∧ FR a c0 m0 c m ∧ c (wkA a) 3 = c0 (wkA a) 3
theorem jP.tr {a W S : Nat} {c0 m0 c1 m1 c m : Nat → Nat → Int32} (h1 : jP a W S c0 m0 c1 m1) (h2 : jP a W S c1 m1 c m) : jP a W S c0 m0 c m := by
  obtain ⟨Z1, -, -, f1, p1⟩ := h1
  obtain ⟨Z, j, k, f, p⟩ := h2
  exact ⟨Z, j, k, f1.tr f, p.trans p1⟩
def sJ (sc : Nat × (Nat → Int32)) (w : Nat → Int64) (a W S : Nat) (c m : Nat → Nat → Int32) (dC mC : Nat) (aC : List Value) (dM mM : Nat) (aM : List Value) (vC vM : Option Value) : Prop := ∃ c' m', (∀ m0, cc sc dC mC aC (hp c w m0) = some (vC, hp c' w m0)) ∧ (∀ c0, cc sc dM mM aM (hp c0 w m) = some (vM, hp c0 w m')) ∧ jP a W S c m c' m'
theorem wkA17 : wkA 17 = 96 := rfl
theorem wkA97 : wkA 97 = 102 := rfl
theorem sim_loop {σ τ ρ : Type} {w : Nat → Int64} (n : Nat) (EC : Nat → σ → List ma_C → ρ) (EM : Nat → τ → List ma_C → ρ) (P : Nat → σ → τ → (Nat → Nat → Int32) → (Nat → Nat → Int32) → Prop)
    (step : ∀ i s t c m, i < n → P i s t c m → ∃ s' t' c' m', (∀ m0, EC i s (hp c w m0) = EC (i + 1) s' (hp c' w m0)) ∧ (∀ c0, EM i t (hp c0 w m) = EM (i + 1) t' (hp c0 w m')) ∧ P (i + 1) s' t' c' m') :
    ∀ k i s t c m, i + k = n → P i s t c m → ∃ s' t' c' m', (∀ m0, EC i s (hp c w m0) = EC n s' (hp c' w m0)) ∧ (∀ c0, EM i t (hp c0 w m) = EM n t' (hp c0 w m')) ∧ P n s' t' c' m'
  | 0, i, s, t, c, m, hi, hP => by
    have : i = n := by omega
    subst this
    exact ⟨s, t, c, m, fun _ => rfl, fun _ => rfl, hP⟩
  | k + 1, i, s, t, c, m, hi, hP => by
    obtain ⟨s1, t1, c1, m1, e1, e2, hP1⟩ := step i s t c m (by omega) hP
    obtain ⟨s2, t2, c2, m2, e3, e4, hP2⟩ := sim_loop n EC EM P step k (i + 1) s1 t1 c1 m1 (by omega) hP1
    exact ⟨s2, t2, c2, m2, fun m0 => (e1 m0).trans (e3 m0), fun c0 => (e2 c0).trans (e4 c0), hP2⟩
theorem iHd_bd (v : Int32) : 0 ≤ (iHd v (nI 0) (nI 40)).toInt ∧ (iHd v (nI 0) (nI 40)).toInt ≤ 40 := by
  have k0 : (nI 0).toInt = 0 := by decide +kernel
  have k1 : (nI 40).toInt = 40 := by decide +kernel
  unfold iHd
  simp only [Int32.lt_iff_toInt_lt]
  repeat' split
  all_goals omega
section J2
variable {sc : Nat × (Nat → Int32)} {a W S Q : Nat} {ls : List lL} {c m Z : Nat → Nat → Int32} {w : Nat → Int64}
theorem jR.up (h : jR a W S c m Z) (hS : S ≤ 8) {x : Nat} (hx : x < 14) {v : Int32} (hv : 0 ≤ v.toInt ∧ v.toInt ≤ 40) : jR a W S (va_up c (a + 1) (upd (c (a + 1)) x v)) (va_up m 139 (upd (m 139) (5 + x) (v - nI 10))) (zs Z (5 + x) v) := by
  have ha := h.aa
  obtain ⟨hz, hm, hi, hb, ht⟩ := h
  refine ⟨hz.h hS hx v, ?_, hi.h hS hx hv, fun j hj => ?_, ht⟩
  · have := hm.up hS (i := 5 + x) (by omega) v
    rw [if_pos (by omega)] at this
    exact this
  · rw [up_n _ _ _ _ (by omega), up_n _ _ _ _ (by omega)]
    exact hb j hj
theorem jR.un (h : jR a W S c m Z) (hS : S ≤ 8) {x : Nat} (hx : x < 14) {v : Int32} (hv : 0 ≤ v.toInt ∧ v.toInt ≤ 99) : jR a W S (va_up c (a + 2) (upd (c (a + 2)) x v)) (va_up m 139 (upd (m 139) (19 + x) v)) (zs Z (19 + x) v) := by
  have ha := h.aa
  obtain ⟨hz, hm, hi, hb, ht⟩ := h
  refine ⟨hz.n hS hx v, ?_, hi.n hS hx hv, fun j hj => ?_, ht⟩
  · have := hm.up hS (i := 19 + x) (by omega) v
    rw [if_neg (by omega)] at this
    exact this
  · rw [up_n _ _ _ _ (by omega), up_n _ _ _ _ (by omega)]
    exact hb j hj
theorem jR.ua (h : jR a W S c m Z) (hS : S ≤ 8) {x k : Nat} (hx : x < S) (hk : k < W) : jR a W S (va_up c (a + 3) (upd (c (a + 3)) x (nI k))) (va_up m 139 (upd (m 139) (33 + x) (nI k))) (zs Z (33 + x) (nI k)) := by
  have ha := h.aa
  obtain ⟨hz, hm, hi, hb, ht⟩ := h
  refine ⟨hz.at hS hx _, ?_, hi.at hS hk, fun j hj => ?_, ht⟩
  · have := hm.up hS (i := 33 + x) (by omega) (nI k)
    rw [if_neg (by omega)] at this
    exact this
  · rw [up_n _ _ _ _ (by omega), up_n _ _ _ _ (by omega)]
    exact hb j hj
theorem jR.us (h : jR a W S c m Z) (hS : S ≤ 8) {x : Nat} (hx : x < S) (v : Int32) : jR a W S (va_up c (a + 4) (upd (c (a + 4)) x v)) (va_up m 139 (upd (m 139) (41 + x) v)) (zs Z (41 + x) v) := by
  have ha := h.aa
  obtain ⟨hz, hm, hi, hb, ht⟩ := h
  refine ⟨hz.scr hS hx _, ?_, hi.sc hS (by omega) _, fun j hj => ?_, ht⟩
  · have := hm.up hS (i := 41 + x) (by omega) v
    rw [if_neg (by omega)] at this
    exact this
  · rw [up_n _ _ _ _ (by omega), up_n _ _ _ _ (by omega)]
    exact hb j hj
theorem jR.uf (h : jR a W S c m Z) (hS : S ≤ 8) {f i : Nat} (v : Int32) (hf : (f = 6 ∧ i = 0) ∨ (f = 7 ∧ i = 1) ∨ (f = 4 ∧ i = 3) ∨ (f = 5 ∧ i = 4)) : jR a W S (va_up c a (upd (c a) f v)) (va_up m 139 (upd (m 139) i v)) (zs Z i v) := by
  have ha := h.aa
  obtain ⟨hz, hm, hi, hb, ht⟩ := h
  refine ⟨hz.sc hS _ (by omega), ?_, hi.sc hS (by omega) _, fun j hj => ?_, ht⟩
  · have := hm.up hS (i := i) (by omega) v
    rw [if_neg (by omega)] at this
    exact this
  · rw [up_n _ _ _ _ (by omega), up_n _ _ _ _ (by omega)]
    exact hb j hj
theorem FR.cc {r : Nat} {f g : Nat → Int32} (hr : r ∈ FX a) (h23 : r ≠ 23) {s : Nat} (hs : s ∈ FY) (h138 : s ≠ 138) : FR a c m (va_up c r f) (va_up m s g) :=
  ⟨fr.rf.up hr _, fun _ => up_n _ _ _ _ (Ne.symm h23), fr.rf.up hs _, fun k _ _ => by rw [up_n _ _ _ _ (Ne.symm h138)]⟩
def jS (a W S : Nat) (c0 m0 c m Z : Nat → Nat → Int32) : Prop := jR a W S c m Z ∧ FR a c0 m0 c m ∧ c (wkA a) = c0 (wkA a) ∧ m 138 = m0 138
theorem jR.s (h : jR a W S c m Z) : jS a W S c m c m Z := ⟨h, FR.rf, rfl, rfl⟩
theorem wkA_e (a : Nat) : wkA a = 96 ∨ wkA a = 102 := by unfold wkA; split <;> omega
section J3
variable {c0 m0 : Nat → Nat → Int32}
theorem jS.junk (h : jS a W S c0 m0 c m Z) (g f g' f' : Nat → Int32) : jS a W S c0 m0 (va_up (va_up c 94 g) 95 f) (va_up (va_up m 158 g') 159 f') Z := by
  refine ⟨h.1.junk g f g' f', h.2.1.tr (FR.junk g f g' f'), ?_, ?_⟩
  · rw [up_n _ _ _ _ (by rcases wkA_e a with z | z <;> omega), up_n _ _ _ _ (by rcases wkA_e a with z | z <;> omega)]; exact h.2.2.1
  · exact h.2.2.2
theorem jS.up (h : jS a W S c0 m0 c m Z) (hS : S ≤ 8) {x : Nat} (hx : x < 14) {v : Int32} (hv : 0 ≤ v.toInt ∧ v.toInt ≤ 40) : jS a W S c0 m0 (va_up c (a + 1) (upd (c (a + 1)) x v)) (va_up m 139 (upd (m 139) (5 + x) (v - nI 10))) (zs Z (5 + x) v) := by
  have ha := h.1.aa
  refine ⟨h.1.up hS hx hv, h.2.1.tr (FR.cc (by simp [FX]) (by omega) (by simp [FY]) (by omega)), ?_, h.2.2.2⟩
  rw [up_n _ _ _ _ (by rcases wkA_e a with z | z <;> omega)]; exact h.2.2.1
theorem jS.un (h : jS a W S c0 m0 c m Z) (hS : S ≤ 8) {x : Nat} (hx : x < 14) {v : Int32} (hv : 0 ≤ v.toInt ∧ v.toInt ≤ 99) : jS a W S c0 m0 (va_up c (a + 2) (upd (c (a + 2)) x v)) (va_up m 139 (upd (m 139) (19 + x) v)) (zs Z (19 + x) v) := by
  have ha := h.1.aa
  refine ⟨h.1.un hS hx hv, h.2.1.tr (FR.cc (by simp [FX]) (by omega) (by simp [FY]) (by omega)), ?_, h.2.2.2⟩
  rw [up_n _ _ _ _ (by rcases wkA_e a with z | z <;> omega)]; exact h.2.2.1
theorem jS.ua (h : jS a W S c0 m0 c m Z) (hS : S ≤ 8) {x k : Nat} (hx : x < S) (hk : k < W) : jS a W S c0 m0 (va_up c (a + 3) (upd (c (a + 3)) x (nI k))) (va_up m 139 (upd (m 139) (33 + x) (nI k))) (zs Z (33 + x) (nI k)) := by
  have ha := h.1.aa
  refine ⟨h.1.ua hS hx hk, h.2.1.tr (FR.cc (by simp [FX]) (by omega) (by simp [FY]) (by omega)), ?_, h.2.2.2⟩
  rw [up_n _ _ _ _ (by rcases wkA_e a with z | z <;> omega)]; exact h.2.2.1
theorem jS.us (h : jS a W S c0 m0 c m Z) (hS : S ≤ 8) {x : Nat} (hx : x < S) (v : Int32) : jS a W S c0 m0 (va_up c (a + 4) (upd (c (a + 4)) x v)) (va_up m 139 (upd (m 139) (41 + x) v)) (zs Z (41 + x) v) := by
  have ha := h.1.aa
  refine ⟨h.1.us hS hx v, h.2.1.tr (FR.cc (by simp [FX]) (by omega) (by simp [FY]) (by omega)), ?_, h.2.2.2⟩
  rw [up_n _ _ _ _ (by rcases wkA_e a with z | z <;> omega)]; exact h.2.2.1
theorem jS.uf (h : jS a W S c0 m0 c m Z) (hS : S ≤ 8) {f i : Nat} (v : Int32) (hf : (f = 6 ∧ i = 0) ∨ (f = 7 ∧ i = 1) ∨ (f = 4 ∧ i = 3) ∨ (f = 5 ∧ i = 4)) : jS a W S c0 m0 (va_up c a (upd (c a) f v)) (va_up m 139 (upd (m 139) i v)) (zs Z i v) := by
  have ha := h.1.aa
  refine ⟨h.1.uf hS v hf, h.2.1.tr (FR.cc (by simp [FX]) (by omega) (by simp [FY]) (by omega)), ?_, h.2.2.2⟩
  rw [up_n _ _ _ _ (by rcases wkA_e a with z | z <;> omega)]; exact h.2.2.1
theorem jS.nt (h : jS a W S c0 m0 c m Z) (hS : S ≤ 8) (u b e : Int32) : ∃ Z', jS a W S c0 m0 (nCf a c u b e) (nMf m u b e) Z' ∧ (∀ i, i ≠ 2 → Z' 0 i = Z 0 i) := by
  have ha := h.1.aa
  obtain ⟨Z', h1, h2⟩ := h.1.nt hS u b e
  refine ⟨Z', ⟨h1, h.2.1.tr (FR.nt ha u b e), ?_, ?_⟩, h2⟩
  · rw [(nC_fr ha u b e).1 _ (by simp; rcases wkA_e a with z | z <;> omega)]; exact h.2.2.1
  · rw [nM_fr u b e 138 (by simp)]; exact h.2.2.2
theorem jS.kr (h : jS a W S c0 m0 c m Z) (hk : kR a c0 m0) : kR a c m := by
  intro z
  have := hk z
  subst z
  rw [show c 102 = c0 102 from h.2.2.1, h.2.2.2]
  exact this
theorem jS.pd (h : jS a W S c0 m0 c m Z) : c (wkA a) 3 = c0 (wkA a) 3 := by rw [h.2.2.1]
end J3
theorem j_set (d x : Nat) (g : Int32) (hT : tR W S Q ls c m) (hJ : jR a W S c m Z) (hk : kR a c m) (hx : x < W) (hg : 0 ≤ g.toInt ∧ g.toInt ≤ 40) : ∃ v, sJ sc w a W S c m (d + 9) 146 [.ref (wkA a), .ref a, .int (nI x), .int g] (d + 9) 210 [.ref 138, .int (nI x), .int g] (some (.int v)) (some (.int v)) := by
  have ha := hJ.aa
  have hS := hT.2.2.1.2.2.1
  have hW := hT.1.2.2.2
  obtain ⟨g1, f1, hc⟩ := t_Asker_cost (sc := sc) (c := c) (w := w) (d + 6) x W a ls g hg ha hx hT.1 hJ.hB
  obtain ⟨g2, f2, hm⟩ := t_MO_costOf (sc := sc) (m := m) (w := w) (d + 4) x W ls g hx hT.2.1
  rw [(hJ.cost g hx hW).1] at hc
  rw [(hJ.cost g hx hW).2] at hm
  generalize costS ls W (zH Z) (zN Z) (Z 0 0) x g = v at hc hm
  have hn : 0 ≤ (Z 0 (19 + x)).toInt ∧ (Z 0 (19 + x)).toInt ≤ 99 := hJ.2.2.1.2.1 x (by omega)
  have hJ3 := ((hJ.s.junk g1 f1 g2 f2).uf hS (f := 4) (i := 3) (Z 0 3 - v) (by omega)).up hS (x := x) (by omega) (set_bd hg hn)
  generalize hv : iMn g (nI 40 - Z 0 (19 + x) / nI 4) = hw at hJ3
  obtain ⟨k, hk150, k1, k2⟩ := hJ3.1.k
  obtain ⟨Z', hJ4, -⟩ := hJ3.nt hS (nI 0) (nI x) hw
  have n1 := fun m => t_Works_note (sc := sc) (m := m) (w := w) (d + 6) a k (nI 0) (nI x) hw ha hk150 k1
  have n2 := fun c => t_MO_notes (sc := sc) (c := c) (w := w) (d + 8) k (nI 0) (nI x) hw hk150 k2 hJ3.1.t
  have z1 : c a 4 = Z 0 3 := hJ.1.1.2.2.2.1
  have z2 : m 139 3 = Z 0 3 := hJ.2.1.1.2.2.2.1
  have z3 : c (a + 2) x = Z 0 (19 + x) := hJ.1.2.2.1 x (by omega)
  have z4 : m 139 (19 + x) = Z 0 (19 + x) := hJ.2.1.2.2.1 x (by omega)
  refine ⟨v, _, _, fun m0 => ?_, fun c0 => ?_, Z', hJ4.1, hJ4.kr hk, hJ4.2.1, hJ4.pd⟩
  · rcases ha with rfl | rfl
    · show cc sc (d + 9) 146 [.ref 96, .ref 17, .int (nI x), .int g] (hp c w m0) = _
      simp (disch := first | assumption | omega | decide | (simp only [ma_wd0, ma_wdi, ma_wdr, ma_wdl, ma_wdn] <;> omega)) only [up_n, up_s, up_u, pk_us, pk_un, Nat.reduceAdd, wkA17] at n1 z3
      simp (disch := first | assumption | omega | decide | (simp only [ma_wd0, ma_wdi, ma_wdr, ma_wdl, ma_wdn] <;> omega)) only [↓reduceIte, evK, evL, evS, evA, evJ, Option.bind_some, Option.toList, List.cons_append, List.nil_append, nI_add, pk_mul, bI0, ite_not, ev_rbb, up_n, up_s, up_u, pk_us, pk_un, Nat.reduceAdd, nI_ltT, nI_ltF, nI_leT, nI_leF, nI_eqT, nI_eqF, en_Works_setColumn, gfC, ldC, stC, pfC, ce_Asker_cost, hc, up_n, up_s, up_u, pk_us, pk_un, Nat.reduceAdd, z1, z3, ce_Math_min, t_Math_min, mn_eq, hv, ce_Works_note, n1]
    · show cc sc (d + 9) 146 [.ref 102, .ref 97, .int (nI x), .int g] (hp c w m0) = _
      simp (disch := first | assumption | omega | decide | (simp only [ma_wd0, ma_wdi, ma_wdr, ma_wdl, ma_wdn] <;> omega)) only [up_n, up_s, up_u, pk_us, pk_un, Nat.reduceAdd, wkA97] at n1 z3
      simp (disch := first | assumption | omega | decide | (simp only [ma_wd0, ma_wdi, ma_wdr, ma_wdl, ma_wdn] <;> omega)) only [↓reduceIte, evK, evL, evS, evA, evJ, Option.bind_some, Option.toList, List.cons_append, List.nil_append, nI_add, pk_mul, bI0, ite_not, ev_rbb, up_n, up_s, up_u, pk_us, pk_un, Nat.reduceAdd, nI_ltT, nI_ltF, nI_leT, nI_leF, nI_eqT, nI_eqF, en_Works_setColumn, gfC, ldC, stC, pfC, ce_Asker_cost, hc, up_n, up_s, up_u, pk_us, pk_un, Nat.reduceAdd, z1, z3, ce_Math_min, t_Math_min, mn_eq, hv, ce_Works_note, n1]
  · simp (disch := first | assumption | omega | decide | (simp only [ma_wd0, ma_wdi, ma_wdr, ma_wdl, ma_wdn] <;> omega)) only [up_n, up_s, up_u, pk_us, pk_un, Nat.reduceAdd] at n2
    simp (disch := first | assumption | omega | decide | (simp only [ma_wd0, ma_wdi, ma_wdr, ma_wdl, ma_wdn] <;> omega)) only [↓reduceIte, evK, evL, evS, evA, evJ, Option.bind_some, Option.toList, List.cons_append, List.nil_append, nI_add, pk_mul, bI0, ite_not, ev_rbb, up_n, up_s, up_u, pk_us, pk_un, Nat.reduceAdd, nI_ltT, nI_ltF, nI_leT, nI_leF, nI_eqT, nI_eqF, en_MO_sets, gfM, ldM, stM, ce_MO_costOf, hm, up_n, up_s, up_u, pk_us, pk_un, Nat.reduceAdd, z2, z4, ce_MO_lesser, t_MO_lesser, ce_MO_heightBe, t_MO_heightBe, ce_MO_heightOf, t_MO_heightOf, nI_sa, hv, ce_MO_notes, n2]
theorem j_move (d : Nat) (n : Int32) (hT : tR W S Q ls c m) (hJ : jR a W S c m Z) (hk : kR a c m) : ∃ v, sJ sc w a W S c m (d + 10) 148 [.ref (wkA a), .ref a, .int n] (d + 10) 226 [.ref 138, .int n] (some (.int v)) (some (.int v)) := by
  have ha := hJ.aa
  have hW := hT.1.2.2.2
  obtain ⟨s, t, c', m', e1, e2, hst, hP⟩ := sim_loop (w := w) W (fun i (s : Int32) h => ev sc (d + 10) 148 (pm_blk 148 5) [some (.ref (wkA a)), some (.ref a), some (.int n), some (.int s), some (.int (nI i))] [] h)
    (fun i (s : Int32) h => ev sc (d + 10) 226 (pm_blk 226 4) [some (.ref 138), some (.int n), some (.int s), some (.int (nI i))] [] h)
    (fun i s t c' m' => s = t ∧ jP a W S c m c' m') (by
      rintro i s t c1 m1 hi ⟨rfl, Z1, hJ1, hk1, hF1, hp1⟩
      have hT1 := hT.FR ha hF1
      have hw1 := hT1.1.2.1
      have hw2 := hT1.2.1.2.1
      have z1 : c1 (a + 1) i = Z1 0 (5 + i) := hJ1.1.2.1 i (by omega)
      have z2 : m1 139 (5 + i) + nI 10 = Z1 0 (5 + i) := hJ1.2.1.2.1 i (by omega)
      obtain ⟨v, c2, m2, e1, e2, hP⟩ := j_set (sc := sc) (w := w) d i (iHd (Z1 0 (5 + i) + n) (nI 0) (nI 40)) hT1 hJ1 hk1 (by omega) (iHd_bd _)
      refine ⟨s + v, s + v, c2, m2, fun m0 => ?_, fun c0 => ?_, rfl, jP.tr ⟨Z1, hJ1, hk1, hF1, hp1⟩ hP⟩
      · rcases ha with rfl | rfl
        · simp only [wkA17, Nat.reduceAdd] at e1 z1 ⊢
          conv => lhs; rw [bh_Works_moveAll_5]
          simp (disch := first | assumption | omega | decide | (simp only [ma_wd0, ma_wdi, ma_wdr, ma_wdl, ma_wdn] <;> omega)) only [↓reduceIte, evK, evL, evS, evA, evJ, Option.bind_some, Option.toList, List.cons_append, List.nil_append, nI_add, pk_mul, bI0, ite_not, ev_rbb, up_n, up_s, up_u, pk_us, pk_un, Nat.reduceAdd, nI_ltT, nI_ltF, nI_leT, nI_leF, nI_eqT, nI_eqF, gfC, ldC, hw1, z1, ce_LH_hold, t_LH_hold, ce_Works_setColumn, e1]
        · simp only [wkA97, Nat.reduceAdd] at e1 z1 ⊢
          conv => lhs; rw [bh_Works_moveAll_5]
          simp (disch := first | assumption | omega | decide | (simp only [ma_wd0, ma_wdi, ma_wdr, ma_wdl, ma_wdn] <;> omega)) only [↓reduceIte, evK, evL, evS, evA, evJ, Option.bind_some, Option.toList, List.cons_append, List.nil_append, nI_add, pk_mul, bI0, ite_not, ev_rbb, up_n, up_s, up_u, pk_us, pk_un, Nat.reduceAdd, nI_ltT, nI_ltF, nI_leT, nI_leF, nI_eqT, nI_eqF, gfC, ldC, hw1, z1, ce_LH_hold, t_LH_hold, ce_Works_setColumn, e1]
      · conv => lhs; rw [bh_MO_lifts_4]
        simp (disch := first | assumption | omega | decide | (simp only [ma_wd0, ma_wdi, ma_wdr, ma_wdl, ma_wdn] <;> omega)) only [↓reduceIte, evK, evL, evS, evA, evJ, Option.bind_some, Option.toList, List.cons_append, List.nil_append, nI_add, pk_mul, bI0, ite_not, ev_rbb, up_n, up_s, up_u, pk_us, pk_un, Nat.reduceAdd, nI_ltT, nI_ltF, nI_leT, nI_leF, nI_eqT, nI_eqF, gfM, ldM, ce_MO_wide, t_MO_wide, hw2, ce_MO_heightOf, t_MO_heightOf, z2, ce_MO_held, t_MO_held, ce_MO_sets, e2]) W 0 (nI 0) (nI 0) c m (by omega) ⟨rfl, Z, hJ, hk, FR.rf, rfl⟩
  subst hst
  obtain ⟨Z1, hJ1, hk1, hF1, hp1⟩ := hP
  have hT1 := hT.FR ha hF1
  have hw1 := hT1.1.2.1
  have hw2 := hT1.2.1.2.1
  refine ⟨s, c', m', fun m0 => ?_, fun c0 => ?_, Z1, hJ1, hk1, hF1, hp1⟩
  · rw [en_Works_moveAll]
    rcases ha with rfl | rfl
    · simp only [wkA17] at e1 ⊢
      simp (disch := first | assumption | omega | decide | (simp only [ma_wd0, ma_wdi, ma_wdr, ma_wdl, ma_wdn] <;> omega)) only [↓reduceIte, evK, evL, evS, evA, evJ, Option.bind_some, Option.toList, List.cons_append, List.nil_append, nI_add, pk_mul, bI0, ite_not, ev_rbb, up_n, up_s, up_u, pk_us, pk_un, Nat.reduceAdd, nI_ltT, nI_ltF, nI_leT, nI_leF, nI_eqT, nI_eqF, e1]
      rw [bh_Works_moveAll_5]
      simp (disch := first | assumption | omega | decide | (simp only [ma_wd0, ma_wdi, ma_wdr, ma_wdl, ma_wdn] <;> omega)) only [↓reduceIte, evK, evL, evS, evA, evJ, Option.bind_some, Option.toList, List.cons_append, List.nil_append, nI_add, pk_mul, bI0, ite_not, ev_rbb, up_n, up_s, up_u, pk_us, pk_un, Nat.reduceAdd, nI_ltT, nI_ltF, nI_leT, nI_leF, nI_eqT, nI_eqF, gfC, hw1, bk_Works_moveAll]
    · simp only [wkA97] at e1 ⊢
      simp (disch := first | assumption | omega | decide | (simp only [ma_wd0, ma_wdi, ma_wdr, ma_wdl, ma_wdn] <;> omega)) only [↓reduceIte, evK, evL, evS, evA, evJ, Option.bind_some, Option.toList, List.cons_append, List.nil_append, nI_add, pk_mul, bI0, ite_not, ev_rbb, up_n, up_s, up_u, pk_us, pk_un, Nat.reduceAdd, nI_ltT, nI_ltF, nI_leT, nI_leF, nI_eqT, nI_eqF, e1]
      rw [bh_Works_moveAll_5]
      simp (disch := first | assumption | omega | decide | (simp only [ma_wd0, ma_wdi, ma_wdr, ma_wdl, ma_wdn] <;> omega)) only [↓reduceIte, evK, evL, evS, evA, evJ, Option.bind_some, Option.toList, List.cons_append, List.nil_append, nI_add, pk_mul, bI0, ite_not, ev_rbb, up_n, up_s, up_u, pk_us, pk_un, Nat.reduceAdd, nI_ltT, nI_ltF, nI_leT, nI_leF, nI_eqT, nI_eqF, gfC, hw1, bk_Works_moveAll]
  · rw [en_MO_lifts]
    simp (disch := first | assumption | omega | decide | (simp only [ma_wd0, ma_wdi, ma_wdr, ma_wdl, ma_wdn] <;> omega)) only [↓reduceIte, evK, evL, evS, evA, evJ, Option.bind_some, Option.toList, List.cons_append, List.nil_append, nI_add, pk_mul, bI0, ite_not, ev_rbb, up_n, up_s, up_u, pk_us, pk_un, Nat.reduceAdd, nI_ltT, nI_ltF, nI_leT, nI_leF, nI_eqT, nI_eqF, e2]
    rw [bh_MO_lifts_4]
    simp (disch := first | assumption | omega | decide | (simp only [ma_wd0, ma_wdi, ma_wdr, ma_wdl, ma_wdn] <;> omega)) only [↓reduceIte, evK, evL, evS, evA, evJ, Option.bind_some, Option.toList, List.cons_append, List.nil_append, nI_add, pk_mul, bI0, ite_not, ev_rbb, up_n, up_s, up_u, pk_us, pk_un, Nat.reduceAdd, nI_ltT, nI_ltF, nI_leT, nI_leF, nI_eqT, nI_eqF, ce_MO_wide, t_MO_wide, hw2, bk_MO_lifts]
theorem j_mend (d x : Nat) (hT : tR W S Q ls c m) (hJ : jR a W S c m Z) (hk : kR a c m) (hx : x < W) : ∃ v, sJ sc w a W S c m (d + 9) 149 [.ref (wkA a), .ref a, .int (nI x)] (d + 9) 228 [.ref 138, .int (nI x)] (some (.int v)) (some (.int v)) := by
  have ha := hJ.aa
  have hS := hT.2.2.1.2.2.1
  have hW := hT.1.2.2.2
  have hJ1 := (hJ.s.uf hS (f := 4) (i := 3) (Z 0 3 - Z 0 (19 + x)) (by omega))
  have hJ3 := hJ1.un hS (x := x) (by omega) (v := nI 0) (by decide +kernel)
  obtain ⟨k, hk150, k1, k2⟩ := hJ3.1.k
  obtain ⟨Z', hJ4, -⟩ := hJ3.nt hS (nI 1) (nI x) (Z 0 (19 + x))
  have n1 := fun m => t_Works_note (sc := sc) (m := m) (w := w) (d + 6) a k (nI 1) (nI x) (Z 0 (19 + x)) ha hk150 k1
  have n2 := fun c => t_MO_notes (sc := sc) (c := c) (w := w) (d + 8) k (nI 1) (nI x) (Z 0 (19 + x)) hk150 k2 hJ3.1.t
  have z1 : c a 4 = Z 0 3 := hJ.1.1.2.2.2.1
  have z2 : m 139 3 = Z 0 3 := hJ.2.1.1.2.2.2.1
  have z3 : c (a + 2) x = Z 0 (19 + x) := hJ.1.2.2.1 x (by omega)
  have z4 : m 139 (19 + x) = Z 0 (19 + x) := hJ.2.1.2.2.1 x (by omega)
  refine ⟨Z 0 (19 + x), _, _, fun m0 => ?_, fun c0 => ?_, Z', hJ4.1, hJ4.kr hk, hJ4.2.1, hJ4.pd⟩
  · rw [up_c c a (a + 2) _ _ (by omega)] at n1 ⊢
    rcases ha with rfl | rfl
    · show cc sc (d + 9) 149 [.ref 96, .ref 17, .int (nI x)] (hp c w m0) = _
      simp (disch := first | assumption | omega | decide | (simp only [ma_wd0, ma_wdi, ma_wdr, ma_wdl, ma_wdn] <;> omega)) only [up_n, up_s, up_u, pk_us, pk_un, Nat.reduceAdd, wkA17] at n1 z3
      simp (disch := first | assumption | omega | decide | (simp only [ma_wd0, ma_wdi, ma_wdr, ma_wdl, ma_wdn] <;> omega)) only [↓reduceIte, evK, evL, evS, evA, evJ, Option.bind_some, Option.toList, List.cons_append, List.nil_append, nI_add, pk_mul, bI0, ite_not, ev_rbb, up_n, up_s, up_u, pk_us, pk_un, Nat.reduceAdd, nI_ltT, nI_ltF, nI_leT, nI_leF, nI_eqT, nI_eqF, en_Works_mendColumn, gfC, ldC, stC, pfC, z1, z3, ce_Works_note, n1]
    · show cc sc (d + 9) 149 [.ref 102, .ref 97, .int (nI x)] (hp c w m0) = _
      simp (disch := first | assumption | omega | decide | (simp only [ma_wd0, ma_wdi, ma_wdr, ma_wdl, ma_wdn] <;> omega)) only [up_n, up_s, up_u, pk_us, pk_un, Nat.reduceAdd, wkA97] at n1 z3
      simp (disch := first | assumption | omega | decide | (simp only [ma_wd0, ma_wdi, ma_wdr, ma_wdl, ma_wdn] <;> omega)) only [↓reduceIte, evK, evL, evS, evA, evJ, Option.bind_some, Option.toList, List.cons_append, List.nil_append, nI_add, pk_mul, bI0, ite_not, ev_rbb, up_n, up_s, up_u, pk_us, pk_un, Nat.reduceAdd, nI_ltT, nI_ltF, nI_leT, nI_leF, nI_eqT, nI_eqF, en_Works_mendColumn, gfC, ldC, stC, pfC, z1, z3, ce_Works_note, n1]
  · simp (disch := first | assumption | omega | decide | (simp only [ma_wd0, ma_wdi, ma_wdr, ma_wdl, ma_wdn] <;> omega)) only [up_n, up_s, up_u, pk_us, pk_un, Nat.reduceAdd] at n2
    simp (disch := first | assumption | omega | decide | (simp only [ma_wd0, ma_wdi, ma_wdr, ma_wdl, ma_wdn] <;> omega)) only [↓reduceIte, evK, evL, evS, evA, evJ, Option.bind_some, Option.toList, List.cons_append, List.nil_append, nI_add, pk_mul, bI0, ite_not, ev_rbb, up_n, up_s, up_u, pk_us, pk_un, Nat.reduceAdd, nI_ltT, nI_ltF, nI_leT, nI_leF, nI_eqT, nI_eqF, en_MO_mends, gfM, ldM, stM, z2, z4, ce_MO_notes, n2]
end J2
