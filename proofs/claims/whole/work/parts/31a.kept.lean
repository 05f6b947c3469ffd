/-! ===== a kept column is looked at again ===== -/
section KE
variable {sc : Nat × (Nat → Int32)} {c m : Nat → Nat → Int32} {w : Nat → Int64}
theorem t_Told_kept (d k W : Nat) (hk : k < W) (hW : W ≤ 14) (hw : c 1 0 = nI W) : cc sc (d + 1) 140 [.ref 1, .int (nI k)] (hp c w m) = some (some (.int (nI k)), hp c w m) := by
  simp (disch := first | assumption | omega | decide | (simp only [ma_wd0, ma_wdi, ma_wdr, ma_wdl, ma_wdn] <;> omega)) only [↓reduceIte, evK, evL, evS, evA, evJ, Option.bind_some, Option.toList, List.cons_append, List.nil_append, nI_add, pk_mul, bI0, ite_not, ev_rbb, up_n, up_s, up_u, pk_us, pk_un, Nat.reduceAdd, nI_ltT, nI_ltF, nI_leT, nI_leF, nI_eqT, nI_eqF, en_Told_kept, bk_Told_kept, ce_Told_isColumn, t_Told_isColumn, hw, and_self, not_true_eq_false]
end KE
