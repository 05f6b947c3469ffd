/-! ===== moors: the class ===== -/
theorem wb_tb (n : Nat) : (lN n).toBitVec = BitVec.ofNat 64 n := rfl
theorem wb_inj {a b : Int64} (h : a.toBitVec = b.toBitVec) : a = b := Int64.toBitVec_inj.mp h
theorem wb_c : ∀ k, k < 64 → ((nI k).toInt64 &&& 63) = lN k := by decide +kernel
theorem wb_sm : ∀ k, k < 64 → (BitVec.ofNat 64 k).smod 64 = BitVec.ofNat 64 k := by decide +kernel
theorem wb_shl (n : Nat) {k : Nat} (hk : k < 64) : lN n <<< ((nI k).toInt64 &&& 63) = lN (n * 2 ^ k) := by
  rw [wb_c k hk]
  apply wb_inj
  rw [Int64.toBitVec_shiftLeft, wb_tb, wb_tb, wb_tb, wb_sm k hk]
  apply BitVec.eq_of_toNat_eq
  rw [BitVec.shiftLeft_eq', BitVec.toNat_shiftLeft, BitVec.toNat_ofNat, BitVec.toNat_ofNat, BitVec.toNat_ofNat, Nat.mod_eq_of_lt (show k < 2 ^ 64 by omega), Nat.shiftLeft_eq, Nat.mul_mod, Nat.mod_mod, ← Nat.mul_mod]
theorem wb_shl2 (n : Nat) {k : Nat} (hk : k < 64) : lN n <<< (lN k &&& 63) = lN (n * 2 ^ k) := by
  rw [← nI_l (show k < 2 ^ 31 by omega)]
  exact wb_shl n hk
theorem wb_and {a b : Nat} (ha : a < 2 ^ 64) (hb : b < 2 ^ 64) : lN a &&& lN b = lN (a &&& b) := by
  apply wb_inj
  rw [Int64.toBitVec_and, wb_tb, wb_tb, wb_tb]
  apply BitVec.eq_of_toNat_eq
  rw [BitVec.toNat_and, BitVec.toNat_ofNat, BitVec.toNat_ofNat, BitVec.toNat_ofNat, Nat.mod_eq_of_lt ha, Nat.mod_eq_of_lt hb, Nat.mod_eq_of_lt (Nat.and_lt_two_pow _ hb)]
theorem wb_m15 {n : Nat} (hn : n < 2 ^ 64) : lN n &&& lN 15 = lN (n % 16) := by
  rw [wb_and hn (by decide)]
  congr 1
  exact Nat.and_two_pow_sub_one_eq_mod n 4
theorem pf_lI {a : Nat} (h : a < 2 ^ 63) : (lN a).toInt = (a : Int) := lg_ofNat_toInt h
theorem pf_shr {a d : Nat} {D : Int64} (hD : (D.toBitVec.smod 64).toNat = d) (h : a < 2 ^ 62) : lN a >>> D = lN (a / 2 ^ d) := by
  have hd : a / 2 ^ d ≤ a := Nat.div_le_self _ _
  apply Int64.toInt_inj.mp
  have e : (lN a >>> D).toInt = (lN a).toInt >>> d := by
    rw [← hD]
    exact BitVec.toInt_sshiftRight ..
  rw [e, Int.shiftRight_eq_div_pow, pf_lI (by omega), pf_lI (by omega)]
  rfl
theorem s_l63 : ∀ k, k < 64 → (((nI k).toInt64 &&& 63).toBitVec.smod 64).toNat = k := by decide +kernel
theorem l_shr {a k : Nat} (hk : k < 64) (h : a < 2 ^ 62) : lN a >>> ((nI k).toInt64 &&& 63) = lN (a / 2 ^ k) := pf_shr (s_l63 k hk) h
theorem lit62 : (4611686018427387904 : Int64) = lN noW := by decide +kernel
theorem litL0 : (0 : Int64) = lN 0 := rfl
theorem lit15 : (15 : Int64) = lN 15 := rfl
theorem lcE {a b : Nat} (ha : a < 2 ^ 63) (hb : b < 2 ^ 63) : (lg_cmp (lN a) (lN b) = nI 0) = (a = b) := by
  unfold lg_cmp
  simp only [gt_iff_lt, pk_lLT hb ha, pk_lEQ ha hb]
  apply propext
  by_cases h1 : b < a
  · rw [if_pos h1]
    exact ⟨fun z => absurd z (by decide), fun z => by omega⟩
  · rw [if_neg h1]
    by_cases h2 : a = b
    · rw [if_pos h2]
      exact ⟨fun _ => h2, fun _ => rfl⟩
    · rw [if_neg h2]
      exact ⟨fun z => absurd z (by decide), fun z => absurd z h2⟩
theorem lcL {a b : Nat} (ha : a < 2 ^ 63) (hb : b < 2 ^ 63) : (lg_cmp (lN a) (lN b) ≤ nI 0) = (a ≤ b) := by
  apply propext
  rw [← pk_lLE ha hb]
  exact lg_cmp_le _ _
theorem p16 (e : Nat) : 2 ^ (4 * e) = 16 ^ e := by rw [Nat.pow_mul]
theorem clr_less {set s : Nat} (h : set.testBit s = true) : clr set (2 ^ s) < set := by
  have h1 : clr set (2 ^ s) &&& 2 ^ s = 0 := by
    apply Nat.eq_of_testBit_eq
    intro i
    rw [Nat.testBit_and, clr_bit, Nat.zero_testBit]
    cases set.testBit i <;> cases (2 ^ s).testBit i <;> rfl
  have hle : clr set (2 ^ s) ≤ set := by
    have : clr set (2 ^ s) = clr set (2 ^ s) &&& set := by
      apply Nat.eq_of_testBit_eq
      intro i
      rw [Nat.testBit_and, clr_bit]
      cases set.testBit i <;> cases (2 ^ s).testBit i <;> rfl
    rw [this]
    exact Nat.and_le_right
  rcases Nat.lt_or_ge (clr set (2 ^ s)) set with z | z
  · exact z
  · exfalso
    have e : clr set (2 ^ s) = set := by omega
    have := clr_bit set (2 ^ s) s
    rw [e, h, Nat.testBit_two_pow_self] at this
    cases this
section PT
variable {sc : Nat × (Nat → Int32)} {S W : Nat} {c m : Nat → Nat → Int32} {w : Nat → Int64} {H g a : Nat → Nat} {D : Nat → Nat → Nat} {ok : Nat → Nat → Bool}
theorem WnN_b (hS : S ≤ 8) (hD : ∀ s x, x < 14 → D s x ≤ 13) {c set : Nat} (hc : c ≤ 14) (hset : set < 2 ^ S) : WnN S D ok c set = noW ∨ WnN S D ok c set ≤ 8 * tC := by
  rcases (WnN_min (ok := ok) hS hD c set hc hset).2 with z | ⟨f, hf, e⟩
  · exact Or.inl z
  · right
    rw [e]
    exact Nat.le_trans (vlN_le (fun s hs => ⟨hD s _ (by have := (hf.1 s hs).1; omega), by have := (hf.1 s hs).1; omega⟩) S) (Nat.mul_le_mul_right _ hS)
theorem WnN_0 : ∀ c, WnN S D ok c 0 = 0
  | 0 => rfl
  | c + 1 => by
    have : WnN S D ok (c + 1) 0 = min (WnN S D ok c 0) (wwN D ok (WnN S D ok c) c 0 S) := rfl
    rw [this, WnN_0 c, Nat.zero_min]
theorem t_Math_min_l (d x y : Nat) (hx : x < 2 ^ 63) (hy : y < 2 ^ 63) (h : List ma_C) : cc sc d 295 [.long (lN x), .long (lN y)] h = some (some (.long (lN (min x y))), h) := by
  by_cases z : x ≤ y
  · rw [Nat.min_eq_left z]
    simp (disch := first | assumption | omega | decide | (simp only [ma_wd0, ma_wdi, ma_wdr, ma_wdl, ma_wdn] <;> omega)) only [↓reduceIte, evK, evL, evS, evA, evJ, Option.bind_some, Option.toList, List.cons_append, List.nil_append, nI_add, pk_mul, bI0, ite_not, ev_rbb, en_Math_min_l, bk_Math_min_l, lcL, z]
  · rw [Nat.min_eq_right (by omega)]
    simp (disch := first | assumption | omega | decide | (simp only [ma_wd0, ma_wdi, ma_wdr, ma_wdl, ma_wdn] <;> omega)) only [↓reduceIte, evK, evL, evS, evA, evJ, Option.bind_some, Option.toList, List.cons_append, List.nil_append, nI_add, pk_mul, bI0, ite_not, ev_rbb, en_Math_min_l, bk_Math_min_l, lcL, z]
theorem wwN_b {W' : Nat → Nat} {x set : Nat} (hx : x < 14) (hD : ∀ s x, x < 14 → D s x ≤ 13) (hW' : ∀ s, set.testBit s = true → W' (clr set (2 ^ s)) = noW ∨ W' (clr set (2 ^ s)) ≤ 8 * tC) (n : Nat) : wwN D ok W' x set n ≤ noW ∧ (wwN D ok W' x set n = noW ∨ wwN D ok W' x set n ≤ 9 * tC) := by
  have h9 : 9 * tC ≤ noW := by decide
  rcases wwN_at (D := D) (ok := ok) (W' := W') (c := x) (set := set) n with z | ⟨s, hs, ⟨z1, z2, z3⟩, z4⟩
  · exact ⟨by omega, Or.inl z⟩
  · have h1 := (hW' s z1).resolve_left z3
    have h2 := tmN_le (D := D) (hD s x hx) hx
    have h3 : wwN D ok W' x set n ≤ 9 * tC := by
      rw [z4, show 9 * tC = 8 * tC + tC by unfold tC; decide]
      exact Nat.add_le_add h1 h2
    exact ⟨Nat.le_trans h3 h9, Or.inr h3⟩
theorem t_wayWith (d x set : Nat) (W' : Nat → Nat) (hS : S ≤ 8) (hx : x < W) (hW : W ≤ 14) (hset : set < 2 ^ S) (hw3 : c 1 3 = nI S) (hH : ∀ j, H j ≤ 40) (hg : ∀ s, g s ≤ 40) (ha : ∀ s, a s < 14) (h18 : c 18 x = nI (H x)) (h2 : ∀ s, s < S → c 2 s = nI (g s)) (h20 : ∀ s, s < S → c 20 s = nI (a s)) (hww : ∀ s, set.testBit s = true → w (clr set (2 ^ s)) = lN (W' (clr set (2 ^ s)))) (hW' : ∀ s, set.testBit s = true → W' (clr set (2 ^ s)) = noW ∨ W' (clr set (2 ^ s)) ≤ 8 * tC) : ∀ m, cc sc (d + 1) 116 [.ref 103, .int (nI set), .int (nI x)] (hp c w m) = some (some (.long (lN (wwN (fun s x => dN (a s) x) (fun s x => decide (g s ≤ H x)) W' x set S))), hp c w m) := by
  intro m
  have hD : ∀ s x, x < 14 → (fun s x => dN (a s) x) s x ≤ 13 := fun s x hx => by have := ha s; simp only [dN]; omega
  have h256 : set < 256 := Nat.lt_of_lt_of_le hset (Nat.le_trans (Nat.pow_le_pow_right (by decide) hS) (by decide))
  have hHx := hH x
  generalize hDe : (fun s x => dN (a s) x) = D at *
  generalize hoe : (fun s x => decide (g s ≤ H x)) = ok at *
  have n62 : noW < 2 ^ 63 := by decide
  have n9 : 9 * tC < 2 ^ 63 := by decide
  have wb := wwN_b (ok := ok) (W' := W') (x := x) (set := set) (by omega) hD hW'
  have hl := sim_loop (w := w) S (fun i (s : Option Value × Option Value) h => ev sc (d + 1) 116 (pm_blk 116 7) [some (.ref 103), some (.int (nI set)), some (.int (nI x)), some (.long (lN (wwN D ok W' x set i))), none, some (.int (nI i)), s.1, s.2] [] h)
    (fun i (s : Unit) h => (none : Option (Option Value × List ma_C)))
    (fun i s t c' m' => c = c') (by
      rintro i ⟨s6, s7⟩ t c' m' hi rfl
      have d2 := h2 i hi
      have d20 := h20 i hi
      have hgi := hg i
      have hai := ha i
      have hb1 := (wb i).1
      by_cases z1 : set.testBit i = true
      · have hcl := clr_less z1
        have hwc := hww i z1
        have hWb := hW' i z1
        by_cases z2 : g i ≤ H x
        · have eo : ok i x = true := by rw [← hoe]; exact decide_eq_true z2
          by_cases z3 : W' (clr set (2 ^ i)) = noW
          · have es : wwN D ok W' x set (i + 1) = wwN D ok W' x set i := if_neg (fun q => q.2.2 z3)
            refine ⟨(s6, s7), (), c, m', fun m0 => ?_, fun _ => rfl, rfl⟩
            conv => lhs; rw [bh_Thought_wayWith_7]
            rw [es]
            simp (disch := first | assumption | omega | decide | (simp only [ma_wd0, ma_wdi, ma_wdr, ma_wdl, ma_wdn] <;> omega)) only [↓reduceIte, evK, evL, evS, evA, evJ, Option.bind_some, Option.toList, List.cons_append, List.nil_append, nI_add, pk_mul, bI0, ite_not, ev_rbb, up_n, up_s, up_u, pk_us, pk_un, Nat.reduceAdd, nI_ltT, nI_ltF, nI_leT, nI_leF, nI_eqT, nI_eqF, bk_Thought_wayWith, gfC, ldC, hw3, n_bit, z1, h18, d2, n_sh, n_clr, ev_ll, hwc, z3, lit62, lcE]
          · have hWs := hWb.resolve_left z3
            have hWlt : W' (clr set (2 ^ i)) < 2 ^ 63 := Nat.lt_of_le_of_lt hWs (by decide)
            have es : wwN D ok W' x set (i + 1) = min (wwN D ok W' x set i) (W' (clr set (2 ^ i)) + tmN D i x) := if_pos ⟨z1, eo, z3⟩
            have ht := tmN_le (D := D) (hD i x (by omega)) (show x < 14 by omega)
            have hsum : W' (clr set (2 ^ i)) + tmN D i x < 2 ^ 63 := Nat.lt_of_le_of_lt (Nat.add_le_add hWs ht) (by decide)
            have ab := ab_n (a := a i) (b := x) (by omega) (by omega)
            have hdn : dN (a i) x < 2 ^ 31 := by unfold dN; omega
            have et : W' (clr set (2 ^ i)) + dN (a i) x * 2 ^ 32 + x * 16 ^ (7 - i) = W' (clr set (2 ^ i)) + tmN D i x := by
              unfold tmN
              rw [← hDe]
              simp only
              rw [show (2 : Nat) ^ 32 = 4294967296 by decide, Nat.add_assoc]
            rw [show (2 : Nat) ^ 32 = 4294967296 by decide] at et
            have mn := fun h => t_Math_min_l (sc := sc) d (wwN D ok W' x set i) (W' (clr set (2 ^ i)) + tmN D i x) (by omega) hsum h
            refine ⟨(some (.long (lN (dN (a i) x))), none), (), c, m', fun m0 => ?_, fun _ => rfl, rfl⟩
            conv => lhs; rw [bh_Thought_wayWith_7]
            rw [es]
            simp (disch := first | assumption | omega | decide | (simp only [ma_wd0, ma_wdi, ma_wdr, ma_wdl, ma_wdn] <;> omega)) only [↓reduceIte, evK, evL, evS, evA, evJ, Option.bind_some, Option.toList, List.cons_append, List.nil_append, nI_add, pk_mul, bI0, ite_not, ev_rbb, up_n, up_s, up_u, pk_us, pk_un, Nat.reduceAdd, nI_ltT, nI_ltF, nI_leT, nI_leF, nI_eqT, nI_eqF, bk_Thought_wayWith, gfC, ldC, hw3, n_bit, z1, h18, d2, d20, n_sh, n_clr, ev_ll, hwc, z3, lit62, lcE, ce_Math_abs, t_Math_abs, ab, nI_l, wb_shl2, Nat.reducePow, ce_Thought_shiftOf, en_Thought_shiftOf, pk_sub, p16, lN_add, et, ce_Math_min_l, mn]
        · have eo : ok i x = false := by rw [← hoe]; exact decide_eq_false z2
          have es : wwN D ok W' x set (i + 1) = wwN D ok W' x set i := if_neg (fun q => by rw [eo] at q; exact Bool.noConfusion q.2.1)
          refine ⟨(s6, s7), (), c, m', fun m0 => ?_, fun _ => rfl, rfl⟩
          conv => lhs; rw [bh_Thought_wayWith_7]
          rw [es]
          simp (disch := first | assumption | omega | decide | (simp only [ma_wd0, ma_wdi, ma_wdr, ma_wdl, ma_wdn] <;> omega)) only [↓reduceIte, evK, evL, evS, evA, evJ, Option.bind_some, Option.toList, List.cons_append, List.nil_append, nI_add, pk_mul, bI0, ite_not, ev_rbb, up_n, up_s, up_u, pk_us, pk_un, Nat.reduceAdd, nI_ltT, nI_ltF, nI_leT, nI_leF, nI_eqT, nI_eqF, bk_Thought_wayWith, gfC, ldC, hw3, n_bit, z1, h18, d2]
      · have es : wwN D ok W' x set (i + 1) = wwN D ok W' x set i := if_neg (fun q => z1 q.1)
        refine ⟨(s6, s7), (), c, m', fun m0 => ?_, fun _ => rfl, rfl⟩
        conv => lhs; rw [bh_Thought_wayWith_7]
        rw [es]
        simp (disch := first | assumption | omega | decide | (simp only [ma_wd0, ma_wdi, ma_wdr, ma_wdl, ma_wdn] <;> omega)) only [↓reduceIte, evK, evL, evS, evA, evJ, Option.bind_some, Option.toList, List.cons_append, List.nil_append, nI_add, pk_mul, bI0, ite_not, ev_rbb, up_n, up_s, up_u, pk_us, pk_un, Nat.reduceAdd, nI_ltT, nI_ltF, nI_leT, nI_leF, nI_eqT, nI_eqF, bk_Thought_wayWith, gfC, ldC, hw3, n_bit, z1, Bool.false_eq_true]) S 0 (none, none) () c c (by omega) rfl
  obtain ⟨⟨s6, s7⟩, -, c', -, e1, -, rfl⟩ := hl
  simp only at e1
  rw [show wwN D ok W' x set 0 = noW from rfl] at e1
  simp (disch := first | assumption | omega | decide | (simp only [ma_wd0, ma_wdi, ma_wdr, ma_wdl, ma_wdn] <;> omega)) only [↓reduceIte, evK, evL, evS, evA, evJ, Option.bind_some, Option.toList, List.cons_append, List.nil_append, nI_add, pk_mul, bI0, ite_not, ev_rbb, up_n, up_s, up_u, pk_us, pk_un, Nat.reduceAdd, nI_ltT, nI_ltF, nI_leT, nI_leF, nI_eqT, nI_eqF, en_Thought_wayWith, lit62, e1]
  rw [bh_Thought_wayWith_7]
  simp (disch := first | assumption | omega | decide | (simp only [ma_wd0, ma_wdi, ma_wdr, ma_wdl, ma_wdn] <;> omega)) only [↓reduceIte, evK, evL, evS, evA, evJ, Option.bind_some, Option.toList, List.cons_append, List.nil_append, nI_add, pk_mul, bI0, ite_not, ev_rbb, up_n, up_s, up_u, pk_us, pk_un, Nat.reduceAdd, nI_ltT, nI_ltF, nI_leT, nI_leF, nI_eqT, nI_eqF, bk_Thought_wayWith, gfC, hw3]
end PT
