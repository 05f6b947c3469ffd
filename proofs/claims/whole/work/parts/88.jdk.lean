/-! ===== texts: the walks of the JDK's methods (printed) ===== -/
section JT
variable {base : Nat} {adK adV : Nat → Nat} {l : Launch}
theorem jm_coder {i : Nat} (hi : i < 2) : jM pm_G base adK adV l jq_coder 0 [.ref (adK i)] (some (.int 0)) := by
  refine jM.of pm_good (by decide +kernel) (Nat.le_refl _) ?_
  refine jW.compact (by decide +kernel) jf_compact ?_
  refine jW.if_eq_f 13 (off := 10) (by decide +kernel) (by decide) (by decide) ?_
  refine jW.aload_n (k := 0) 0 (by decide +kernel) rfl ?_
  refine jW.coder hi (by decide +kernel) jf_coder ?_
  refine jW.goto 14 (off := 4) (by decide +kernel) (by decide) ?_
  exact jW.zret .byte rfl (by decide +kernel) (by decide +kernel) rfl
theorem jm_lat {i : Nat} (hi : i < 2) : jM pm_G base adK adV l jq_lat 0 [.ref (adK i)] (some (.int 1)) := by
  refine jM.of pm_good (by decide +kernel) (Nat.le_refl _) ?_
  refine jW.compact (by decide +kernel) jf_compact ?_
  refine jW.if_eq_f 17 (off := 14) (by decide +kernel) (by decide) (by decide) ?_
  refine jW.aload_n (k := 0) 0 (by decide +kernel) rfl ?_
  refine jW.coder hi (by decide +kernel) jf_coder ?_
  refine jW.if_ne_f 17 (off := 7) (by decide +kernel) (by decide) (by decide) ?_
  refine jW.iconst (z := 1) (by decide +kernel) rfl ?_
  refine jW.goto 18 (off := 4) (by decide +kernel) (by decide) ?_
  exact jW.zret .boolean rfl (by decide +kernel) (by decide +kernel) rfl
theorem jm_len {i : Nat} (hi : i < 2) : jM pm_G base adK adV l jq_len 1 [.ref (adK i)] (some (.int (Int32.ofNat (jLen.getD i 0)))) := by
  refine jM.of pm_good (by decide +kernel) (Nat.le_refl _) ?_
  refine jW.aload_n (k := 0) 0 (by decide +kernel) rfl ?_
  refine jW.value hi (by decide +kernel) jf_value ?_
  refine jW.alen hi rfl (by decide +kernel) ?_
  refine jW.aload_n (k := 0) 0 (by decide +kernel) rfl ?_
  refine jW.callV (As := []) (jm_coder hi) hi (by decide) jc_335_coder jv_coder (by decide +kernel) rfl rfl (by simp [Value.category]) rfl ?_
  refine jW.ishr (v := Int32.ofNat (jLen.getD i 0)) ?_ (by decide +kernel) ?_
  · rcases (by omega : i = 0 ∨ i = 1) with rfl | rfl <;> decide +kernel
  · exact jW.iret rfl (by decide +kernel) rfl
theorem jm_pci {j n : Int32} {v : Value} (hv : v.category = 1) (h0 : ¬ j < 0) (h1 : j < n) : jM pm_G base adK adV l jq_pci 0 [.int j, .int n, v] (some (.int j)) := by
  refine jM.of pm_good (by decide +kernel) ?_ ?_
  · have e1 : (Value.int j).category = 1 := rfl
    have e2 : (Value.int n).category = 1 := rfl
    simp [lg_sl, hv, e1, e2, jq_pci]
  refine jW.iload_n (k := 0) 0 (by decide +kernel) rfl ?_
  refine jW.if_lt_f 9 (off := 8) (by decide +kernel) (by decide) h0 ?_
  refine jW.iload_n (k := 0) 0 (by decide +kernel) rfl ?_
  refine jW.iload_n (k := 1) 1 (by decide +kernel) rfl ?_
  refine jW.icmp_lt_t 16 (off := 10) (by decide +kernel) (by decide) h1 ?_
  refine jW.iload_n (k := 0) 0 (by decide +kernel) rfl ?_
  exact jW.iret rfl (by decide +kernel) rfl
theorem jm_ci {j n : Int32} (h0 : ¬ j < 0) (h1 : j < n) : jM pm_G base adK adV l jq_ci 1 [.int j, .int n] none := by
  refine jM.of pm_good (by decide +kernel) (Nat.le_refl _) ?_
  refine jW.iload_n (k := 0) 0 (by decide +kernel) rfl ?_
  refine jW.iload_n (k := 1) 1 (by decide +kernel) rfl ?_
  refine jW.sioobe (by decide +kernel) jf_sioobe (fun v hv => ?_)
  refine jW.callS (As := [.int j, .int n, v]) (rest := []) (jm_pci hv h0 h1) (by decide) jc_1059_pci js_pci (by decide +kernel) rfl rfl (by decide) rfl ?_
  refine jW.pop rfl (by decide +kernel) ?_
  exact jW.vret rfl (by decide +kernel) rfl
def jb (j : Nat) : Int32 := Int32.ofNat (pm_kw.getD j 0)
theorem jb_f : ∀ j, j < 119 → (jByt.getD 0 []).getD j 0 = jb j ∧ jb j &&& 255 = jb j ∧ ((jb j).toUInt32 % 65536).toInt32 = jb j ∧ narrow .char (.int (jb j)) = .int (jb j) := by decide +kernel
theorem jm_lchr {j : Nat} (hj : j < 119) : jM pm_G base adK adV l jq_lchr 2 [.ref (adV 0), .int (nI j)] (some (.int (jb j))) := by
  obtain ⟨f1, f2, f3, f4⟩ := jb_f j hj
  refine jM.of pm_good (by decide +kernel) (Nat.le_refl _) ?_
  refine jW.iload_n (k := 1) 1 (by decide +kernel) rfl ?_
  refine jW.aload_n (k := 0) 0 (by decide +kernel) rfl ?_
  refine jW.alen (i := 0) (by decide) (v := 119) rfl (by decide +kernel) ?_
  refine jW.callS (As := [.int (nI j), .int 119]) (rest := []) (jm_ci (nI_pos (by omega)) (nI_lt (b := 119) hj (by decide))) (by decide) jc_9_ci js_ci (by decide +kernel) rfl rfl (by decide) rfl ?_
  refine jW.aload_n (k := 0) 0 (by decide +kernel) rfl ?_
  refine jW.iload_n (k := 1) 1 (by decide +kernel) rfl ?_
  refine jW.bal (i := 0) (by decide) (v := jb j) (vp_in_nI hj (by decide)) (by rw [nI_clamp (by omega)]; exact f1) (by decide +kernel) ?_
  refine jW.sipush (z := 255) (v := 255) (by decide +kernel) (by decide +kernel) ?_
  refine jW.iand f2 (by decide +kernel) ?_
  refine jW.i2c f3 (by decide +kernel) ?_
  exact jW.zret .char rfl f4 (by decide +kernel) rfl
theorem jm_chr {j : Nat} (hj : j < 119) : jM pm_G base adK adV l jq_chr 3 [.ref (adK 0), .int (nI j)] (some (.int (jb j))) := by
  refine jM.of pm_good (by decide +kernel) (Nat.le_refl _) ?_
  refine jW.aload_n (k := 0) 0 (by decide +kernel) rfl ?_
  refine jW.callV (As := []) (rest := []) (jm_lat (i := 0) (by decide)) (by decide) (by decide) jc_492_lat jv_lat (by decide +kernel) rfl rfl (by decide) rfl ?_
  refine jW.if_eq_f 16 (off := 12) (by decide +kernel) (by decide) (by decide) ?_
  refine jW.aload_n (k := 0) 0 (by decide +kernel) rfl ?_
  refine jW.value (i := 0) (by decide) (by decide +kernel) jf_value ?_
  refine jW.iload_n (k := 1) 1 (by decide +kernel) rfl ?_
  refine jW.callS (As := [.ref (adV 0), .int (nI j)]) (rest := []) (jm_lchr hj) (by decide) jc_495_lchr js_lchr (by decide +kernel) rfl rfl (by decide) rfl ?_
  exact jW.zret .char rfl (jb_f j hj).2.2.2 (by decide +kernel) rfl
theorem jm_max : jM pm_G base adK adV l jq_max 0 [.int 0, .int 0] (some (.int 0)) := by
  refine jM.of pm_good (by decide +kernel) (Nat.le_refl _) ?_
  refine jW.iload_n (k := 0) 0 (by decide +kernel) rfl ?_
  refine jW.iload_n (k := 1) 1 (by decide +kernel) rfl ?_
  refine jW.icmp_lt_f 9 (off := 7) (by decide +kernel) (by decide) (by decide) ?_
  refine jW.iload_n (k := 0) 0 (by decide +kernel) rfl ?_
  refine jW.goto 10 (off := 4) (by decide +kernel) (by decide) ?_
  exact jW.iret rfl (by decide +kernel) rfl
theorem jm_min : jM pm_G base adK adV l jq_min 0 [.int 10, .int 10] (some (.int 10)) := by
  refine jM.of pm_good (by decide +kernel) (Nat.le_refl _) ?_
  refine jW.iload_n (k := 0) 0 (by decide +kernel) rfl ?_
  refine jW.iload_n (k := 1) 1 (by decide +kernel) rfl ?_
  refine jW.icmp_gt_f 9 (off := 7) (by decide +kernel) (by decide) (by decide) ?_
  refine jW.iload_n (k := 0) 0 (by decide +kernel) rfl ?_
  refine jW.goto 10 (off := 4) (by decide +kernel) (by decide) ?_
  exact jW.iret rfl (by decide +kernel) rfl
theorem jm_can {j : Nat} (hj : j < 256) : jM pm_G base adK adV l jq_can 0 [.int (nI j)] (some (.int 1)) := by
  refine jM.of pm_good (by decide +kernel) (Nat.le_refl _) ?_
  refine jW.iload_n (k := 0) 0 (by decide +kernel) rfl ?_
  refine jW.if_lt_f 15 (off := 14) (by decide +kernel) (by decide) (nI_pos (by omega)) ?_
  refine jW.iload_n (k := 0) 0 (by decide +kernel) rfl ?_
  refine jW.sipush (z := 255) (v := 255) (by decide +kernel) (by decide +kernel) ?_
  refine jW.icmp_gt_f 15 (off := 7) (by decide +kernel) (by decide) (nI_nlt (a := 255) (b := j) (by omega) (by decide)) ?_
  refine jW.iconst (z := 1) (by decide +kernel) rfl ?_
  refine jW.goto 16 (off := 4) (by decide +kernel) (by decide) ?_
  exact jW.zret .boolean rfl (by decide +kernel) (by decide +kernel) rfl
def jio (cb : Int32) : Nat → Nat → Int32
  | 0, _ => -1
  | n + 1, k => if (jByt.getD 1 []).getD k 0 = cb then nI k else jio cb n (k + 1)
theorem jio_sg : ∀ x, x < 256 → jio (nI x).toInt8.toInt32 10 0 = sgI x := by decide +kernel
theorem jm_iocL {x : Nat} {cb : Int32} : ∀ (n k : Nat), n + k = 10 → jW pm_G base adK adV l jq_ioc 0 (some (.int (jio cb n k))) 7 [(5, .int (nI k)), (4, .int cb), (0, .ref (adV 1)), (1, .int (nI x)), (2, .int 0), (3, .int 10)] []
  | 0, k, h => by
    obtain rfl : k = 10 := by omega
    refine jW.iload (k := 5) 0 (by decide +kernel) rfl ?_
    refine jW.iload_n (k := 3) 5 (by decide +kernel) rfl ?_
    refine jW.icmp_ge_t 31 (off := 21) (by decide +kernel) (by decide) (by decide) ?_
    refine jW.iconst (z := -1) (by decide +kernel) rfl ?_
    exact jW.iret rfl (by decide +kernel) rfl
  | n + 1, k, h => by
    refine jW.iload (k := 5) 0 (by decide +kernel) rfl ?_
    refine jW.iload_n (k := 3) 5 (by decide +kernel) rfl ?_
    refine jW.icmp_ge_f 31 (off := 21) (by decide +kernel) (by decide) (nI_ge (a := k) (b := 10) (by omega) (by decide)) ?_
    refine jW.aload_n (k := 0) 2 (by decide +kernel) rfl ?_
    refine jW.iload (k := 5) 0 (by decide +kernel) rfl ?_
    refine jW.bal (i := 1) (by decide) (v := (jByt.getD 1 []).getD k 0) (vp_in_nI (N := 10) (by omega) (by decide)) (by rw [nI_clamp (by omega)]) (by decide +kernel) ?_
    refine jW.iload (k := 4) 1 (by decide +kernel) rfl ?_
    by_cases hc : (jByt.getD 1 []).getD k 0 = cb
    · refine jW.icmp_ne_f 25 (off := 6) (by decide +kernel) (by decide) (fun z => z hc) ?_
      refine jW.iload (k := 5) 0 (by decide +kernel) rfl ?_
      refine jW.iret rfl (by decide +kernel) ?_
      show some (Value.int (if _ then _ else _)) = _
      rw [if_pos hc]
    · refine jW.icmp_ne_t 25 (off := 6) (by decide +kernel) (by decide) hc ?_
      refine jW.iinc (k := 5) (z := 1) 0 (by decide +kernel) rfl (v' := nI (k + 1)) (nI_succ k).symm (by decide) rfl ?_
      refine jW.goto 7 (off := -21) (by decide +kernel) (by decide) ?_
      have e : jio cb (n + 1) k = jio cb n (k + 1) := by
        show (if _ then _ else _) = _
        rw [if_neg hc]
      rw [e]
      exact jm_iocL n (k + 1) (by omega)
theorem jm_ioc {x : Nat} (hx : x < 256) : jM pm_G base adK adV l jq_ioc 0 [.ref (adV 1), .int (nI x), .int 0, .int 10] (some (.int (sgI x))) := by
  refine jM.of pm_good (by decide +kernel) (by simp [lg_sl, Value.category, jq_ioc]) ?_
  refine jW.iload_n (k := 1) 1 (by decide +kernel) rfl ?_
  refine jW.i2b rfl (by decide +kernel) ?_
  refine jW.istore (k := 4) (by decide +kernel) (by decide) rfl ?_
  refine jW.iload_n (k := 2) 3 (by decide +kernel) rfl ?_
  refine jW.istore (k := 5) (by decide +kernel) (by decide) rfl ?_
  rw [← jio_sg x hx]
  exact jm_iocL 10 0 rfl
theorem jm_lio {x : Nat} (hx : x < 256) : jM pm_G base adK adV l jq_lio 1 [.ref (adV 1), .int (nI x), .int 0, .int 10] (some (.int (sgI x))) := by
  refine jM.of pm_good (by decide +kernel) (Nat.le_refl _) ?_
  refine jW.iload_n (k := 1) 1 (by decide +kernel) rfl ?_
  refine jW.callS (As := [.int (nI x)]) (rest := []) (jm_can hx) (by decide) jc_88_can js_can (by decide +kernel) rfl rfl (by decide) rfl ?_
  refine jW.if_ne_t 9 (off := 5) (by decide +kernel) (by decide) (by decide) ?_
  refine jW.iload_n (k := 2) 2 (by decide +kernel) rfl ?_
  refine jW.iconst (z := 0) (by decide +kernel) rfl ?_
  refine jW.callS (As := [.int 0, .int 0]) (rest := []) jm_max (by decide) jc_92_max js_max (by decide +kernel) rfl rfl (by decide) rfl ?_
  refine jW.istore_n (k := 2) (by decide +kernel) (by decide) rfl ?_
  refine jW.iload_n (k := 3) 3 (by decide +kernel) rfl ?_
  refine jW.aload_n (k := 0) 1 (by decide +kernel) rfl ?_
  refine jW.alen (i := 1) (by decide) (v := 10) rfl (by decide +kernel) ?_
  refine jW.callS (As := [.int 10, .int 10]) (rest := []) jm_min (by decide) jc_38_min js_min (by decide +kernel) rfl rfl (by decide) rfl ?_
  refine jW.istore_n (k := 3) (by decide +kernel) (by decide) rfl ?_
  refine jW.iload_n (k := 2) 1 (by decide +kernel) rfl ?_
  refine jW.iload_n (k := 3) 0 (by decide +kernel) rfl ?_
  refine jW.icmp_lt_t 29 (off := 5) (by decide +kernel) (by decide) (by decide) ?_
  refine jW.aload_n (k := 0) 2 (by decide +kernel) rfl ?_
  refine jW.iload_n (k := 1) 3 (by decide +kernel) rfl ?_
  refine jW.iload_n (k := 2) 1 (by decide +kernel) rfl ?_
  refine jW.iload_n (k := 3) 0 (by decide +kernel) rfl ?_
  refine jW.callS (As := [.ref (adV 1), .int (nI x), .int 0, .int 10]) (rest := []) (jm_ioc hx) (by decide) jc_95_ioc js_ioc (by decide +kernel) rfl rfl (by decide) rfl ?_
  exact jW.iret rfl (by decide +kernel) rfl
theorem jm_io2 {x : Nat} (hx : x < 256) : jM pm_G base adK adV l jq_io2 2 [.ref (adK 1), .int (nI x), .int 0] (some (.int (sgI x))) := by
  refine jM.of pm_good (by decide +kernel) (Nat.le_refl _) ?_
  refine jW.aload_n (k := 0) 0 (by decide +kernel) rfl ?_
  refine jW.callV (As := []) (rest := []) (jm_lat (i := 1) (by decide)) (by decide) (by decide) jc_492_lat jv_lat (by decide +kernel) rfl rfl (by decide) rfl ?_
  refine jW.if_eq_f 23 (off := 19) (by decide +kernel) (by decide) (by decide) ?_
  refine jW.aload_n (k := 0) 0 (by decide +kernel) rfl ?_
  refine jW.value (i := 1) (by decide) (by decide +kernel) jf_value ?_
  refine jW.iload_n (k := 1) 1 (by decide +kernel) rfl ?_
  refine jW.iload_n (k := 2) 2 (by decide +kernel) rfl ?_
  refine jW.aload_n (k := 0) 0 (by decide +kernel) rfl ?_
  refine jW.callV (As := []) (rest := [.int 0, .int (nI x), .ref (adV 1)]) (jm_len (i := 1) (by decide)) (by decide) (by decide) jc_505_len jv_len (by decide +kernel) rfl rfl (by simp [Value.category]) rfl ?_
  refine jW.callS (As := [.ref (adV 1), .int (nI x), .int 0, .int 10]) (rest := []) (jm_lio hx) (by decide) jc_637_lio js_lio (by decide +kernel) rfl rfl (by decide) rfl ?_
  refine jW.goto 36 (off := 16) (by decide +kernel) (by decide) ?_
  exact jW.iret rfl (by decide +kernel) rfl
theorem jm_io {x : Nat} (hx : x < 256) : jM pm_G base adK adV l jq_io 3 [.ref (adK 1), .int (nI x)] (some (.int (sgI x))) := by
  refine jM.of pm_good (by decide +kernel) (Nat.le_refl _) ?_
  refine jW.aload_n (k := 0) 0 (by decide +kernel) rfl ?_
  refine jW.iload_n (k := 1) 1 (by decide +kernel) rfl ?_
  refine jW.iconst (z := 0) (by decide +kernel) rfl ?_
  refine jW.callV (As := [.int (nI x), .int 0]) (rest := []) (jm_io2 hx) (by decide) (by decide) jc_633_io2 jv_io2 (by decide +kernel) rfl rfl (by decide) rfl ?_
  exact jW.iret rfl (by decide +kernel) rfl
end JT
