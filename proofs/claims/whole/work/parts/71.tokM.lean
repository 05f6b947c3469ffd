/-! ===== text: the reference's small methods ===== -/
def mB (N : Nat) (T : Nat → Nat → Nat) (i : Nat) (cd : List (Nat × Nat)) (m : Nat → Nat → Int32) : Prop := mT (T 0 i) (T 2 i) (m 138 19) (m 138 20) ∧ m 138 18 = nI (T 1 i) ∧ m 138 17 = nI (T 3 i) ∧ i < N ∧ m 138 30 = nI cd.length ∧ ∀ j a, cd[j]? = some a → m 153 (800 + j) = nI a.1 ∧ m 154 (800 + j) = nI a.2
def mA (N : Nat) (T : Nat → Nat → Nat) (i : Nat) (acc : List lA) (m : Nat → Nat → Int32) : Prop := mB N T i (acc.flatMap lB_x) m
/-- what the reading of a sum leaves as it was -/
def mF (m m' : Nat → Nat → Int32) : Prop := (∀ k, k ≠ 138 → k ≠ 153 → k ≠ 154 → m' k = m k) ∧ (∀ j, j ∉ [17, 18, 19, 20, 30, 34, 35] → m' 138 j = m 138 j) ∧ ∀ j, j < 800 → m' 153 j = m 153 j ∧ m' 154 j = m 154 j
theorem mF.rf {m : Nat → Nat → Int32} : mF m m := ⟨fun _ _ _ _ => rfl, fun _ _ => rfl, fun _ _ => ⟨rfl, rfl⟩⟩
theorem mF.tr {a b c : Nat → Nat → Int32} (h : mF a b) (g : mF b c) : mF a c := ⟨fun k x y z => (g.1 k x y z).trans (h.1 k x y z), fun j x => (g.2.1 j x).trans (h.2.1 j x), fun j x => ⟨(g.2.2 j x).1.trans (h.2.2 j x).1, (g.2.2 j x).2.trans (h.2.2 j x).2⟩⟩
/-- the tape and the words stand -/
def xK (m m' : Nat → Nat → Int32) : Prop := m' 138 16 = m 138 16 ∧ m' 146 = m 146 ∧ m' 147 = m 147
theorem mF.xK {m0 m m' : Nat → Nat → Int32} (h : mF m m') (g : xK m0 m) : xK m0 m' := ⟨(h.2.1 16 (by decide)).trans g.1, (h.1 146 (by omega) (by omega) (by omega)).trans g.2.1, (h.1 147 (by omega) (by omega) (by omega)).trans g.2.2⟩
def oM (N : Nat) (T : Nat → Nat → Nat) (acc : List lA) (r : oR) (m : Nat → Nat → Int32) : Prop := match r with
  | .inl (as, i) => mA N T i (acc ++ as) m
  | .inr (f, p) => m 138 34 = nI f ∧ m 138 35 = nI p
def qM (sc : Nat × (Nat → Int32)) (w : Nat → Int64) (N : Nat) (T : Nat → Nat → Nat) (d mm : Nat) (as : List Value) (acc : List lA) (r : oR) (m : Nat → Nat → Int32) : Prop := ∃ m', (∀ c0, cc sc d mm as (hp c0 w m) = some (some (.int (oV r)), hp c0 w m')) ∧ mF m m' ∧ oM N T acc r m'
/-- reading on, what it must do (proved where tokens are cut) -/
def rdS (sc : Nat × (Nat → Int32)) (w : Nat → Int64) (N : Nat) (T : Nat → Nat → Nat) (m0 : Nat → Nat → Int32) : Prop := ∀ (d i : Nat) (cd : List (Nat × Nat)) (m : Nat → Nat → Int32), xK m0 m → mB N T i cd m → i + 1 < N → ∃ m', (∀ c0, cc sc (d + 3) 178 [.ref 138] (hp c0 w m) = some (none, hp c0 w m')) ∧ (∀ k, k ≠ 138 → m' k = m k) ∧ (∀ j, j ∉ [17, 18, 19, 20] → m' 138 j = m 138 j) ∧ mB N T (i + 1) cd m'
theorem mem4 {j : Nat} (h : j ∉ [17, 18, 19, 20, 30, 34, 35]) : j ∉ [17, 18, 19, 20] ∧ j ≠ 30 ∧ j ≠ 34 ∧ j ≠ 35 := by
  simp only [List.mem_cons, List.not_mem_nil, or_false, not_or] at h ⊢
  omega
section TM
variable {sc : Nat × (Nat → Int32)} {c m m0 : Nat → Nat → Int32} {w : Nat → Int64} {N i : Nat} {T : Nat → Nat → Nat} {acc : List lA} {cd : List (Nat × Nat)}
theorem rd_F {m' : Nat → Nat → Int32} (h1 : ∀ k, k ≠ 138 → m' k = m k) (h2 : ∀ j, j ∉ [17, 18, 19, 20] → m' 138 j = m 138 j) : mF m m' := ⟨fun k a _ _ => h1 k a, fun j a => h2 j (mem4 a).1, fun j _ => ⟨by rw [h1 153 (by omega)], by rw [h1 154 (by omega)]⟩⟩
def erM (T : Nat → Nat → Nat) (i f : Nat) (m : Nat → Nat → Int32) : Nat → Nat → Int32 := va_up m 138 (upd (upd (m 138) 34 (nI f)) 35 (nI (T 1 i)))
theorem t_errs (d f : Nat) (h : mB N T i cd m) : cc sc d 186 [.ref 138, .int (nI f)] (hp c w m) = some (some (.int (-1)), hp c w (erM T i f m)) := by
  have h1 := h.2.1
  simp (disch := first | assumption | omega | decide | (simp only [ma_wd0, ma_wdi, ma_wdr, ma_wdl, ma_wdn] <;> omega)) only [↓reduceIte, evK, evL, evS, evA, evJ, Option.bind_some, Option.toList, List.cons_append, List.nil_append, nI_add, pk_mul, bI0, ite_not, ev_rbb, up_n, up_s, up_u, pk_us, pk_un, Nat.reduceAdd, nI_ltT, nI_ltF, nI_leT, nI_leF, nI_eqT, nI_eqF, en_MO_errs, gfM, pfM, h1]
  rfl
theorem erM_F (f : Nat) : mF m (erM T i f m) := by
  refine ⟨fun k a _ _ => up_n _ _ _ _ a, fun j a => ?_, fun j _ => ⟨by unfold erM; rw [up_n _ _ _ _ (by omega)], by unfold erM; rw [up_n _ _ _ _ (by omega)]⟩⟩
  unfold erM
  rw [up_s, pk_un (mem4 a).2.2.2, pk_un (mem4 a).2.2.1]
theorem erM_o (f : Nat) : oM N T acc (.inr (f, T 1 i)) (erM T i f m) := by
  unfold erM
  exact ⟨by rw [up_s, pk_un (by omega), pk_us], by rw [up_s, pk_us]⟩
def emM (k : Nat) (a : Nat × Nat) (m : Nat → Nat → Int32) : Nat → Nat → Int32 := va_up (va_up (va_up m 153 (upd (m 153) (800 + k) (nI a.1))) 154 (upd (m 154) (800 + k) (nI a.2))) 138 (upd (m 138) 30 (nI (k + 1)))
theorem t_emits (d k : Nat) (a : Nat × Nat) (h : m 138 30 = nI k) (hk : k < 400) : cc sc d 200 [.ref 138, .int (nI a.1), .int (nI a.2)] (hp c w m) = some (none, hp c w (emM k a m)) := by
  unfold emM
  simp (disch := first | assumption | omega | decide | (simp only [ma_wd0, ma_wdi, ma_wdr, ma_wdl, ma_wdn] <;> omega)) only [↓reduceIte, evK, evL, evS, evA, evJ, Option.bind_some, Option.toList, List.cons_append, List.nil_append, nI_add, pk_mul, bI0, ite_not, ev_rbb, up_n, up_s, up_u, pk_us, pk_un, Nat.reduceAdd, nI_ltT, nI_ltF, nI_leT, nI_leF, nI_eqT, nI_eqF, en_MO_emits, gfM, pfM, stM, h]
theorem emM_F (k : Nat) (a : Nat × Nat) : mF m (emM k a m) := by
  unfold emM
  refine ⟨fun j x y z => by rw [up_n _ _ _ _ x, up_n _ _ _ _ z, up_n _ _ _ _ y], fun j x => by rw [up_s, pk_un (mem4 x).2.1], fun j x => ⟨?_, ?_⟩⟩
  · rw [up_n _ _ _ _ (by omega), up_n _ _ _ _ (by omega), up_s, pk_un (by omega)]
  · rw [up_n _ _ _ _ (by omega), up_s, pk_un (by omega)]
theorem mB.em (h : mB N T i cd m) (a : Nat × Nat) : mB N T i (cd ++ [a]) (emM cd.length a m) := by
  obtain ⟨h1, h2, h3, h4, h5, h6⟩ := h
  unfold emM
  refine ⟨?_, ?_, ?_, h4, ?_, fun j b hj => ?_⟩
  · rw [up_s, pk_un (by omega), pk_un (by omega)]; exact h1
  · rw [up_s, pk_un (by omega)]; exact h2
  · rw [up_s, pk_un (by omega)]; exact h3
  · rw [up_s, pk_us, List.length_append]; rfl
  · rw [up_n _ _ _ _ (by omega), up_n _ _ _ _ (by omega), up_s, up_n _ _ _ _ (by omega), up_s]
    by_cases e : j < cd.length
    · rw [List.getElem?_append_left e] at hj
      rw [pk_un (by omega), pk_un (by omega)]
      exact h6 j b hj
    · rw [List.getElem?_append_right (by omega)] at hj
      have h0 : j - cd.length < 1 := (List.getElem?_eq_some_iff.mp hj).1
      have : j = cd.length := by omega
      subst this
      simp at hj
      subst hj
      exact ⟨pk_us, pk_us⟩
theorem mA.em (h : mA N T i acc m) (a : lA) (b : Nat × Nat) (hb : lB_x a = [b]) : mA N T i (acc ++ [a]) (emM (acc.flatMap lB_x).length b m) := by
  unfold mA
  rw [List.flatMap_append, List.flatMap_cons, List.flatMap_nil, hb, List.append_nil]
  exact mB.em h b
/-- the kind of a token, out of the two fields -/
theorem mT.num {k v : Nat} {t x : Int32} (h : mT k v t x) : (t = nI 3) = (k = 1) := by
  apply propext
  rcases h with ⟨rfl, rfl⟩ | ⟨rfl, rfl, _⟩ | ⟨rfl, rfl⟩ | ⟨h, rfl, _⟩ | ⟨h1, h2, rfl, _⟩
  · exact ⟨fun z => absurd z (by decide +kernel), fun z => by omega⟩
  · exact ⟨fun _ => rfl, fun _ => rfl⟩
  · exact ⟨fun z => absurd z (by decide +kernel), fun z => by omega⟩
  · unfold tkS at h; exact ⟨fun z => absurd z (by decide +kernel), fun z => by omega⟩
  · exact ⟨fun z => absurd z (by decide +kernel), fun z => by omega⟩
theorem mT.fin {k v : Nat} {t x : Int32} (h : mT k v t x) : (t = nI 0) = (k = 0) := by
  apply propext
  rcases h with ⟨rfl, rfl⟩ | ⟨rfl, rfl, _⟩ | ⟨rfl, rfl⟩ | ⟨h, rfl, _⟩ | ⟨h1, h2, rfl, _⟩
  · exact ⟨fun _ => rfl, fun _ => rfl⟩
  · exact ⟨fun z => absurd z (by decide +kernel), fun z => by omega⟩
  · exact ⟨fun z => absurd z (by decide +kernel), fun z => by omega⟩
  · unfold tkS at h; exact ⟨fun z => absurd z (by decide +kernel), fun z => by omega⟩
  · exact ⟨fun z => absurd z (by decide +kernel), fun z => by omega⟩
theorem mT.wrd {k v : Nat} {t x : Int32} (h : mT k v t x) : (t = nI 2) = (256 ≤ k ∧ k < 281) := by
  apply propext
  rcases h with ⟨rfl, rfl⟩ | ⟨rfl, rfl, _⟩ | ⟨rfl, rfl⟩ | ⟨h, rfl, _⟩ | ⟨h1, h2, rfl, _⟩
  · exact ⟨fun z => absurd z (by decide +kernel), fun z => by omega⟩
  · exact ⟨fun z => absurd z (by decide +kernel), fun z => by omega⟩
  · exact ⟨fun z => absurd z (by decide +kernel), fun z => by omega⟩
  · unfold tkS at h; exact ⟨fun z => absurd z (by decide +kernel), fun z => by omega⟩
  · exact ⟨fun _ => ⟨h1, h2⟩, fun _ => rfl⟩
theorem mT.sgn {k v : Nat} {t x : Int32} (h : mT k v t x) : (t = nI 4) = tkS k := by
  apply propext
  rcases h with ⟨rfl, rfl⟩ | ⟨rfl, rfl, _⟩ | ⟨rfl, rfl⟩ | ⟨h, rfl, _⟩ | ⟨h1, h2, rfl, _⟩
  · exact ⟨fun z => absurd z (by decide +kernel), fun z => by unfold tkS at z; omega⟩
  · exact ⟨fun z => absurd z (by decide +kernel), fun z => by unfold tkS at z; omega⟩
  · exact ⟨fun z => absurd z (by decide +kernel), fun z => by unfold tkS at z; omega⟩
  · exact ⟨fun _ => h, fun _ => rfl⟩
  · exact ⟨fun z => absurd z (by decide +kernel), fun z => by unfold tkS at z; omega⟩
theorem mT.vN {k v : Nat} {t x : Int32} (h : mT k v t x) (hk : k = 1) : x = nI v := by
  rcases h with ⟨rfl, rfl⟩ | ⟨rfl, rfl, e⟩ | ⟨rfl, rfl⟩ | ⟨h, rfl, _⟩ | ⟨h1, h2, rfl, _⟩
  · omega
  · exact e
  · omega
  · unfold tkS at h; omega
  · omega
theorem mT.vS {k v : Nat} {t x : Int32} (h : mT k v t x) (hk : tkS k) : x = nI k := by
  unfold tkS at hk
  rcases h with ⟨rfl, rfl⟩ | ⟨rfl, rfl, e⟩ | ⟨rfl, rfl⟩ | ⟨h, rfl, e⟩ | ⟨h1, h2, rfl, _⟩
  · omega
  · omega
  · omega
  · exact e
  · omega
theorem mT.vW {k v : Nat} {t x : Int32} (h : mT k v t x) (hk : 256 ≤ k) : x = nI (tkp k) := by
  rcases h with ⟨rfl, rfl⟩ | ⟨rfl, rfl, e⟩ | ⟨rfl, rfl⟩ | ⟨h, rfl, e⟩ | ⟨h1, h2, rfl, e⟩
  · omega
  · omega
  · omega
  · unfold tkS at h; omega
  · exact e
theorem tkp_lt {k : Nat} (h : 256 ≤ k) (h2 : k < 281) : tkp k < 25 := by
  unfold tkp
  repeat' split
  all_goals omega
theorem tkp_inj {a b : Nat} (h : 256 ≤ a) (h2 : a < 281) (h3 : 256 ≤ b) (h4 : b < 281) (e : tkp a = tkp b) : a = b := by
  unfold tkp at e
  repeat' split at e
  all_goals omega
/-- is it this word, this sign -/
theorem t_isWord (d K x : Nat) (h : mB N T i cd m) (hK : 256 ≤ K) (hK2 : K < 281) (hx : tkp K = x) : cc sc d 185 [.ref 138, .int (nI x)] (hp c w m) = some (some (.int (bI (T 0 i = K))), hp c w m) := by
  have ht := h.1
  have e2 := ht.wrd
  by_cases hk : 256 ≤ T 0 i ∧ T 0 i < 281
  · have ev := ht.vW hk.1
    have e1 := tkp_lt hk.1 hk.2
    have e3 := tkp_lt hK hK2
    by_cases q : T 0 i = K
    · rw [q, hx] at ev
      rw [bI_t q]
      simp (disch := first | assumption | omega | decide | (simp only [ma_wd0, ma_wdi, ma_wdr, ma_wdl, ma_wdn] <;> omega)) only [↓reduceIte, evK, evL, evS, evA, evJ, Option.bind_some, Option.toList, List.cons_append, List.nil_append, nI_add, pk_mul, bI0, ite_not, ev_rbb, up_n, up_s, up_u, pk_us, pk_un, Nat.reduceAdd, nI_ltT, nI_ltF, nI_leT, nI_leF, nI_eqT, nI_eqF, en_MO_isWord, bk_MO_isWord, gfC, gfM, ev_r0, ev_r1, eq_self, n_m1e, true_and, and_true, false_and, and_false, and_self, not_true_eq_false, not_false_eq_true, e2, ev, hk]
    · have q2 : tkp (T 0 i) ≠ x := fun z => q (tkp_inj hk.1 hk.2 hK hK2 (z.trans hx.symm))
      rw [bI_f q]
      simp (disch := first | assumption | omega | decide | (simp only [ma_wd0, ma_wdi, ma_wdr, ma_wdl, ma_wdn] <;> omega)) only [↓reduceIte, evK, evL, evS, evA, evJ, Option.bind_some, Option.toList, List.cons_append, List.nil_append, nI_add, pk_mul, bI0, ite_not, ev_rbb, up_n, up_s, up_u, pk_us, pk_un, Nat.reduceAdd, nI_ltT, nI_ltF, nI_leT, nI_leF, nI_eqT, nI_eqF, en_MO_isWord, bk_MO_isWord, gfC, gfM, ev_r0, ev_r1, eq_self, n_m1e, true_and, and_true, false_and, and_false, and_self, not_true_eq_false, not_false_eq_true, e2, ev, hk]
  · rw [bI_f (by omega)]
    simp (disch := first | assumption | omega | decide | (simp only [ma_wd0, ma_wdi, ma_wdr, ma_wdl, ma_wdn] <;> omega)) only [↓reduceIte, evK, evL, evS, evA, evJ, Option.bind_some, Option.toList, List.cons_append, List.nil_append, nI_add, pk_mul, bI0, ite_not, ev_rbb, up_n, up_s, up_u, pk_us, pk_un, Nat.reduceAdd, nI_ltT, nI_ltF, nI_leT, nI_leF, nI_eqT, nI_eqF, en_MO_isWord, bk_MO_isWord, gfC, gfM, ev_r0, ev_r1, eq_self, n_m1e, true_and, and_true, false_and, and_false, and_self, not_true_eq_false, not_false_eq_true, e2, hk]
theorem t_isSign (d K : Nat) (h : mB N T i cd m) (hK : tkS K) : cc sc d 191 [.ref 138, .int (nI K)] (hp c w m) = some (some (.int (bI (T 0 i = K))), hp c w m) := by
  have ht := h.1
  have e2 := ht.sgn
  by_cases hk : tkS (T 0 i)
  · have ev := ht.vS hk
    have b1 : T 0 i < 100 := by unfold tkS at hk; omega
    have b2 : K < 100 := by unfold tkS at hK; omega
    by_cases q : T 0 i = K
    · rw [bI_t q]
      simp (disch := first | assumption | omega | decide | (simp only [ma_wd0, ma_wdi, ma_wdr, ma_wdl, ma_wdn] <;> omega)) only [↓reduceIte, evK, evL, evS, evA, evJ, Option.bind_some, Option.toList, List.cons_append, List.nil_append, nI_add, pk_mul, bI0, ite_not, ev_rbb, up_n, up_s, up_u, pk_us, pk_un, Nat.reduceAdd, nI_ltT, nI_ltF, nI_leT, nI_leF, nI_eqT, nI_eqF, en_MO_isSign, bk_MO_isSign, gfC, gfM, ev_r0, ev_r1, eq_self, n_m1e, true_and, and_true, false_and, and_false, and_self, not_true_eq_false, not_false_eq_true, e2, ev, hk]
    · rw [bI_f q]
      simp (disch := first | assumption | omega | decide | (simp only [ma_wd0, ma_wdi, ma_wdr, ma_wdl, ma_wdn] <;> omega)) only [↓reduceIte, evK, evL, evS, evA, evJ, Option.bind_some, Option.toList, List.cons_append, List.nil_append, nI_add, pk_mul, bI0, ite_not, ev_rbb, up_n, up_s, up_u, pk_us, pk_un, Nat.reduceAdd, nI_ltT, nI_ltF, nI_leT, nI_leF, nI_eqT, nI_eqF, en_MO_isSign, bk_MO_isSign, gfC, gfM, ev_r0, ev_r1, eq_self, n_m1e, true_and, and_true, false_and, and_false, and_self, not_true_eq_false, not_false_eq_true, e2, ev, hk]
  · rw [bI_f (fun z => hk (by rw [z]; exact hK))]
    simp (disch := first | assumption | omega | decide | (simp only [ma_wd0, ma_wdi, ma_wdr, ma_wdl, ma_wdn] <;> omega)) only [↓reduceIte, evK, evL, evS, evA, evJ, Option.bind_some, Option.toList, List.cons_append, List.nil_append, nI_add, pk_mul, bI0, ite_not, ev_rbb, up_n, up_s, up_u, pk_us, pk_un, Nat.reduceAdd, nI_ltT, nI_ltF, nI_leT, nI_leF, nI_eqT, nI_eqF, en_MO_isSign, bk_MO_isSign, gfC, gfM, ev_r0, ev_r1, eq_self, n_m1e, true_and, and_true, false_and, and_false, and_self, not_true_eq_false, not_false_eq_true, e2, hk]
end TM
