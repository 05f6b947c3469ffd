section T1
variable {sc : Nat × (Nat → Int32)} {h : List ma_C} {c m : Nat → Nat → Int32} {w : Nat → Int64}
/-- a condition as a Java boolean -/
def bI (p : Prop) [Decidable p] : Int32 := if p then nI 1 else nI 0
theorem t_wide (d : Nat) : cc sc d 166 [.ref 138] (hp c w m) = some (some (.int (m 138 6 + nI 10)), hp c w m) := by
  simp only [en_MO_wide, evK, evL, evA, evJ, gfM]
theorem t_isColumn1 (d : Nat) (x : Int32) : ev sc (d + 1) 165 [(Instr.invokevirtual 122, [0, 166, 1, 12]), (Instr.if_icmp Cond.ge 7, [16]), (Instr.iconst 1, []), (Instr.goto 4, [17])] [some (Value.ref 138), some (Value.int x)] [Value.ref 138, Value.int x] (hp c w m) = none := by
  simp (disch := first | omega | (simp only [ma_wd0, ma_wdi, ma_wdr, ma_wdl, ma_wdn] <;> omega)) only [ce_MO_wide]
  trace_state
  sorry
end T1
