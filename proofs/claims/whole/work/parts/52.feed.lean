/-! ===== feed ===== -/
theorem byte_m (y : Int32) : (y &&& nI 255).toInt8 = y.toInt8 := by
  have h255 : ∀ i, i < 8 → (nI 255).toBitVec.getLsbD i = true := by decide +kernel
  apply Int8.toBitVec_inj.mp
  rw [Int32.toBitVec_toInt8, Int32.toBitVec_toInt8]
  apply BitVec.eq_of_getLsbD_eq
  intro i hi
  rw [BitVec.getLsbD_signExtend, BitVec.getLsbD_signExtend, Int32.toBitVec_and, BitVec.getLsbD_and, h255 i hi]
  simp [hi, show i < 32 by omega]
def byC (v : Int32) (k : Nat) : Int32 := vp_nar .byte ((v >>> (nI k &&& 31)).toInt8.toInt32)
def byM (v : Int32) (k : Nat) : Int32 := (v >>> (nI k &&& 31)) &&& nI 255
theorem by_rel (v : Int32) (k : Nat) : ∃ b, b < 256 ∧ byM v k = nI b ∧ byC v k = vp_nar .byte (nI b) := by
  obtain ⟨b, hb, e⟩ := pk_andE (v >>> (nI k &&& 31)) (m := nI 255) 8 (by decide +kernel)
  refine ⟨b, hb, e, ?_⟩
  rw [← e]
  unfold byC
  rw [pk_vb]
  show _ = ((v >>> (nI k &&& 31)) &&& nI 255).toInt8.toInt32
  rw [byte_m]
def apR (f : Nat → Int32) (g : Nat → Int32) (n : Nat) : Nat → Int32 := upd (upd (upd (upd f n (g 24)) (n + 1) (g 16)) (n + 2) (g 8)) (n + 3) (g 0)
def apC (c : Nat → Nat → Int32) (n : Nat) (v : Int32) : Nat → Nat → Int32 := va_up (va_up c 80 (apR (c 80) (byC v) n)) 79 (upd (c 79) 1 (nI (n + 4)))
def apM (m : Nat → Nat → Int32) (n : Nat) (v : Int32) : Nat → Nat → Int32 := va_up (va_up m 146 (apR (m 146) (byM v) n)) 138 (upd (m 138) 16 (nI (n + 4)))
theorem m8a : nI 24 + (-8) = nI 16 := by decide +kernel
theorem m8b : nI 16 + (-8) = nI 8 := by decide +kernel
theorem m8c : nI 8 + (-8) = nI 0 := by decide +kernel
theorem m8d : (nI 0 + (-8) < nI 0) = True := eq_true (by decide +kernel)
theorem sw80 (c : Nat → Nat → Int32) (f g f' : Nat → Int32) : va_up (va_up (va_up c 80 f) 79 g) 80 f' = va_up (va_up c 80 f') 79 g := by
  rw [up_c _ 79 80 _ _ (by omega), up_u]
theorem sw146 (c : Nat → Nat → Int32) (f g f' : Nat → Int32) : va_up (va_up (va_up c 146 f) 138 g) 146 f' = va_up (va_up c 146 f') 138 g := by
  rw [up_c _ 138 146 _ _ (by omega), up_u]
def xN (n : Nat) (c m : Nat → Nat → Int32) : Prop := c 79 1 = nI n ∧ m 138 16 = nI n ∧ ∀ j, j < n → ∃ b, b < 256 ∧ m 146 j = nI b ∧ c 80 j = vp_nar .byte (nI b)
def apP (c m c' m' : Nat → Nat → Int32) : Prop := (∀ k, k ≠ 79 → k ≠ 80 → c' k = c k) ∧ (∀ k, k ≠ 1 → c' 79 k = c 79 k) ∧ (∀ k, k ≠ 138 → k ≠ 146 → m' k = m k) ∧ ∀ k, k ≠ 16 → m' 138 k = m 138 k
theorem apP.tr {c m c1 m1 c2 m2 : Nat → Nat → Int32} (h : apP c m c1 m1) (h' : apP c1 m1 c2 m2) : apP c m c2 m2 :=
  ⟨fun k a b => (h'.1 k a b).trans (h.1 k a b), fun k a => (h'.2.1 k a).trans (h.2.1 k a), fun k a b => (h'.2.2.1 k a b).trans (h.2.2.1 k a b), fun k a => (h'.2.2.2 k a).trans (h.2.2.2 k a)⟩
section PA
variable {sc : Nat × (Nat → Int32)} {W S Q : Nat} {ls : List lL} {c m Z : Nat → Nat → Int32} {w : Nat → Int64} {h : List ma_C}
theorem bl80 {d mm i : Nat} {is : List ma_I} {L : ma_L} {S : List Value} {o : List Nat} (hi : i < 400) : ev sc d mm ((.baload, o) :: is) L (.int (nI i) :: .ref 80 :: S) (hp c w m) = ev sc d mm is L (.int (c 80 i) :: S) (hp c w m) := ev_bl (k := 80) (n := 400) (f := c 80) (by decide) rfl (by decide) hi
theorem bs80 {d mm i : Nat} {is : List ma_I} {L : ma_L} {S : List Value} {o : List Nat} {v : Int32} (hi : i < 400) : ev sc d mm ((.bastore, o) :: is) L (.int v :: .int (nI i) :: .ref 80 :: S) (hp c w m) = ev sc d mm is L S (hp (va_up c 80 (upd (c 80) i (vp_nar .byte v))) w m) := ev_bsC (k := 80) (n := 400) (by decide) (fun _ => rfl) (by decide) hi
theorem t_Tokens_append (d n : Nat) (v : Int32) (hn : n + 4 ≤ 400) (h1 : c 79 1 = nI n) : cc sc d 121 [.ref 79, .int v] (hp c w m) = some (none, hp (apC c n v) w m) := by
  simp (disch := first | assumption | omega | decide | (simp only [ma_wd0, ma_wdi, ma_wdr, ma_wdl, ma_wdn] <;> omega)) only [↓reduceIte, evK, evL, evS, evA, evJ, Option.bind_some, Option.toList, List.cons_append, List.nil_append, nI_add, pk_mul, bI0, ite_not, ev_rbb, up_n, up_s, up_u, pk_us, pk_un, Nat.reduceAdd, nI_ltT, nI_ltF, nI_leT, nI_leF, nI_eqT, nI_eqF, en_Tokens_append, bh_Tokens_append_3, bk_Tokens_append, gfC, pfC, bs80, h1, m8a, m8b, m8c, m8d, sw80, upd_uu]
  rfl
theorem t_MO_types (d n : Nat) (v : Int32) (hn : n + 4 ≤ 400) (h1 : m 138 16 = nI n) : cc sc d 174 [.ref 138, .int v] (hp c w m) = some (none, hp c w (apM m n v)) := by
  simp (disch := first | assumption | omega | decide | (simp only [ma_wd0, ma_wdi, ma_wdr, ma_wdl, ma_wdn] <;> omega)) only [↓reduceIte, evK, evL, evS, evA, evJ, Option.bind_some, Option.toList, List.cons_append, List.nil_append, nI_add, pk_mul, bI0, ite_not, ev_rbb, up_n, up_s, up_u, pk_us, pk_un, Nat.reduceAdd, nI_ltT, nI_ltF, nI_leT, nI_leF, nI_eqT, nI_eqF, en_MO_types, bh_MO_types_3, bk_MO_types, gfM, pfM, stM, h1, m8a, m8b, m8c, m8d, sw146, upd_uu]
  rfl
theorem j_app (n : Nat) (v : Int32) (hx : xN n c m) : xN (n + 4) (apC c n v) (apM m n v) ∧ apP c m (apC c n v) (apM m n v) := by
  obtain ⟨h1, h2, h3⟩ := hx
  refine ⟨⟨?_, ?_, fun j hj => ?_⟩, fun k a b => ?_, fun k a => ?_, fun k a b => ?_, fun k a => ?_⟩
  · unfold apC; rw [up_s, pk_us]
  · unfold apM; rw [up_s, pk_us]
  · unfold apC apM
    rw [up_n _ _ _ _ (by omega), up_s, up_n _ _ _ _ (by omega), up_s]
    unfold apR upd
    by_cases e3 : j = n + 3
    · rw [if_pos e3, if_pos e3]; exact by_rel v 0
    rw [if_neg e3, if_neg e3]
    by_cases e2 : j = n + 2
    · rw [if_pos e2, if_pos e2]; exact by_rel v 8
    rw [if_neg e2, if_neg e2]
    by_cases e1 : j = n + 1
    · rw [if_pos e1, if_pos e1]; exact by_rel v 16
    rw [if_neg e1, if_neg e1]
    by_cases e0 : j = n
    · rw [if_pos e0, if_pos e0]; exact by_rel v 24
    rw [if_neg e0, if_neg e0]
    exact h3 j (by omega)
  · unfold apC; rw [up_n _ _ _ _ a, up_n _ _ _ _ b]
  · unfold apC; rw [up_s, pk_un a]
  · unfold apM; rw [up_n _ _ _ _ a, up_n _ _ _ _ b]
  · unfold apM; rw [up_s, pk_un a]
theorem gQ.ap {c' m' : Nat → Nat → Int32} {n : Nat} (g : gQ W S Q ls c m Z) (hp : apP c m c' m') (hx : xN n c' m') (hn : n ≤ 400) : gQ W S Q ls c' m' Z := by
  obtain ⟨t, j, p, i, x⟩ := g
  obtain ⟨p1, p2, p3, p4⟩ := hp
  refine ⟨t.eq (fun k hk => p1 k ?_ ?_) (fun k hk => p3 k ?_ ?_) (fun k hk => p4 k ?_), j.eq (fun k a b => p1 k (by omega) (by omega)) (p1 _ (by omega) (by omega)) (p3 _ (by omega) (by omega)) (p3 _ (by omega) (by omega)) (p4 _ (by omega)), p.eq (fun k a b => p1 k (by omega) (by omega)) (p3 _ (by omega) (by omega)) (p4 _ (by omega)), i.eq (by rw [p1 0 (by omega) (by omega)]) (fun k a b => p1 k (by omega) (by omega)) (p3 _ (by omega) (by omega)) (p4 _ (by omega)), ⟨n, hn, hx⟩, ?_, ?_, ?_⟩
  · simp only [tRc, List.mem_cons, List.not_mem_nil, or_false] at hk; omega
  · simp only [tRc, List.mem_cons, List.not_mem_nil, or_false] at hk; omega
  · simp only [tRm, List.mem_cons, List.not_mem_nil, or_false] at hk; omega
  · simp only [tRm, List.mem_cons, List.not_mem_nil, or_false] at hk; omega
  · simp only [tRf, List.mem_cons, List.not_mem_nil, or_false] at hk; omega
  · rw [p2 7 (by omega), p4 36 (by omega)]; exact x.2.1
  · rw [p2 8 (by omega), p4 37 (by omega)]; exact x.2.2.1
  · intro k hk
    rw [p3 147 (by omega) (by omega)]
    exact x.2.2.2 k hk
theorem p_feed (d : Nat) (a1 a2 a3 a4 a5 : Int32) (h : gR c m) : pub sc w (d + 20) 14 173 [.int a1, .int a2, .int a3, .int a4, .int a5] c m := by
  obtain ⟨W, S, Q, ls, Z, g⟩ := h.e
  have g0 := g.q0
  have hq0 := h.q0
  generalize hm1 : va_up m 138 (upd (m 138) 0 (nI 0)) = m1 at g0 hq0
  obtain ⟨n, hn, x0⟩ := g0.2.2.2.2.1
  have x0 : xN n c m1 := x0
  have n1 := x0.1
  have n2 := x0.2.1
  by_cases h1 : n ≤ 380
  · obtain ⟨x1, p1⟩ := j_app n a1 x0
    have A1 := fun m => t_Tokens_append (sc := sc) (m := m) (w := w) (d + 19) n a1 (by omega) x0.1
    have B1 := fun c => t_MO_types (sc := sc) (c := c) (w := w) (d + 19) n a1 (by omega) x0.2.1
    generalize apC c n a1 = c1 at x1 p1 A1
    generalize apM m1 n a1 = m2 at x1 p1 B1
    obtain ⟨x2, p2⟩ := j_app (n + 4) a2 x1
    have A2 := fun m => t_Tokens_append (sc := sc) (m := m) (w := w) (d + 19) (n + 4) a2 (by omega) x1.1
    have B2 := fun c => t_MO_types (sc := sc) (c := c) (w := w) (d + 19) (n + 4) a2 (by omega) x1.2.1
    generalize apC c1 (n + 4) a2 = c2 at x2 p2 A2
    generalize apM m2 (n + 4) a2 = m3 at x2 p2 B2
    obtain ⟨x3, p3⟩ := j_app (n + 4 + 4) a3 x2
    have A3 := fun m => t_Tokens_append (sc := sc) (m := m) (w := w) (d + 19) (n + 4 + 4) a3 (by omega) x2.1
    have B3 := fun c => t_MO_types (sc := sc) (c := c) (w := w) (d + 19) (n + 4 + 4) a3 (by omega) x2.2.1
    generalize apC c2 (n + 4 + 4) a3 = c3 at x3 p3 A3
    generalize apM m3 (n + 4 + 4) a3 = m4 at x3 p3 B3
    obtain ⟨x4, p4⟩ := j_app (n + 4 + 4 + 4) a4 x3
    have A4 := fun m => t_Tokens_append (sc := sc) (m := m) (w := w) (d + 19) (n + 4 + 4 + 4) a4 (by omega) x3.1
    have B4 := fun c => t_MO_types (sc := sc) (c := c) (w := w) (d + 19) (n + 4 + 4 + 4) a4 (by omega) x3.2.1
    generalize apC c3 (n + 4 + 4 + 4) a4 = c4 at x4 p4 A4
    generalize apM m4 (n + 4 + 4 + 4) a4 = m5 at x4 p4 B4
    obtain ⟨x5, p5⟩ := j_app (n + 4 + 4 + 4 + 4) a5 x4
    have A5 := fun m => t_Tokens_append (sc := sc) (m := m) (w := w) (d + 19) (n + 4 + 4 + 4 + 4) a5 (by omega) x4.1
    have B5 := fun c => t_MO_types (sc := sc) (c := c) (w := w) (d + 19) (n + 4 + 4 + 4 + 4) a5 (by omega) x4.2.1
    generalize apC c4 (n + 4 + 4 + 4 + 4) a5 = c5 at x5 p5 A5
    generalize apM m5 (n + 4 + 4 + 4 + 4) a5 = m6 at x5 p5 B5
    have e1 := x5.1
    have e2 := x5.2.1
    refine ⟨c5, m6, nI (n + 4 + 4 + 4 + 4 + 4), fun m0 => ?_, fun c0 => ?_, (g0.ap ((((p1.tr p2).tr p3).tr p4).tr p5) x5 (by omega)).g⟩
    · simp (disch := first | assumption | omega | decide | (simp only [ma_wd0, ma_wdi, ma_wdr, ma_wdl, ma_wdn] <;> omega)) only [↓reduceIte, evK, evL, evS, evA, evJ, Option.bind_some, Option.toList, List.cons_append, List.nil_append, nI_add, pk_mul, bI0, ite_not, ev_rbb, up_n, up_s, up_u, pk_us, pk_un, Nat.reduceAdd, nI_ltT, nI_ltF, nI_leT, nI_leF, nI_eqT, nI_eqF, en_LH_feed, bk_LH_feed, gfC, n1, ce_Tokens_append, A1, A2, A3, A4, A5, e1]
    · simp (disch := first | assumption | omega | decide | (simp only [ma_wd0, ma_wdi, ma_wdr, ma_wdl, ma_wdn] <;> omega)) only [↓reduceIte, evK, evL, evS, evA, evJ, Option.bind_some, Option.toList, List.cons_append, List.nil_append, nI_add, pk_mul, bI0, ite_not, ev_rbb, up_n, up_s, up_u, pk_us, pk_un, Nat.reduceAdd, nI_ltT, nI_ltF, nI_leT, nI_leF, nI_eqT, nI_eqF, en_MO_feed, bk_MO_feed, gfM, pfM, hm1, n2, ce_MO_types, B1, B2, B3, B4, B5, e2]
  · refine ⟨c, m1, -1, fun m0 => ?_, fun c0 => ?_, hq0⟩
    · simp (disch := first | assumption | omega | decide | (simp only [ma_wd0, ma_wdi, ma_wdr, ma_wdl, ma_wdn] <;> omega)) only [↓reduceIte, evK, evL, evS, evA, evJ, Option.bind_some, Option.toList, List.cons_append, List.nil_append, nI_add, pk_mul, bI0, ite_not, ev_rbb, up_n, up_s, up_u, pk_us, pk_un, Nat.reduceAdd, nI_ltT, nI_ltF, nI_leT, nI_leF, nI_eqT, nI_eqF, en_LH_feed, bk_LH_feed, gfC, n1]
    · simp (disch := first | assumption | omega | decide | (simp only [ma_wd0, ma_wdi, ma_wdr, ma_wdl, ma_wdn] <;> omega)) only [↓reduceIte, evK, evL, evS, evA, evJ, Option.bind_some, Option.toList, List.cons_append, List.nil_append, nI_add, pk_mul, bI0, ite_not, ev_rbb, up_n, up_s, up_u, pk_us, pk_un, Nat.reduceAdd, nI_ltT, nI_ltF, nI_leT, nI_leF, nI_eqT, nI_eqF, en_MO_feed, bk_MO_feed, gfM, pfM, hm1, n2]
end PA
