/-! ===== first of all: a row that needs the whole library (so a round finds out at once) ===== -/
theorem j_ao {ty : FieldType} {A A' : Array Value} {u U : State} (h : u.vm.Alike U.vm) (hb : (Jvm.Cond.arrayOver ty).before A u = true) : (Jvm.Cond.arrayOver ty).before A' U = true := by
  have e := Cond.arrayOver_setVmC (args := A) (s := u) h ty
  simp only [Cond.before, Cond.holds, Cond.value, State.vm_setVm] at e hb ⊢
  exact e.trans hb
