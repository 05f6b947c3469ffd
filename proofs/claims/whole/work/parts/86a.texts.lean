/-! ===== texts: what is known of them, and the walk of a method that reads only them ===== -/
abbrev jA (base : Nat) : Nat → Prop := fun q => base ≤ q
def jLen : List Nat := [119, 10]
def jByt : List (List Int32) := [pm_kw.map Int32.ofNat, pm_sg.map Int32.ofNat]
def jtR (own : String) (k a : Nat) (U : State) : Prop := ∃ tx : String, vk_R own k tx a U
def jTF (G : List Jvm.Cond) (base : Nat) (adK adV : Nat → Nat) (U : State) (H : Heap) : Prop :=
  vk_S 2 jLen jByt adK adV (jA base) U H ∧ va_Z "java/lang/String" "COMPACT_STRINGS" "Z" (.int 1) (jA base) U H ∧ va_Zq "jdk/internal/util/Preconditions" "SIOOBE_FORMATTER" "Ljava/util/function/BiFunction;" (jA base) U H ∧ jtR "LetHorizon$Tokens" 73 (adK 0) U ∧ jtR "LetHorizon$Tokens" 66 (adK 1) U ∧ ∀ w ∈ G, pm_nw w = true → w.before #[] U = true
theorem j_nw_same {w : Jvm.Cond} {A A' : Array Value} {u U : State} (hn : pm_nw w = true) (h : u.vm = U.vm) (hb : w.before A u = true) : w.before A' U = true := by
  match w, hn with
  | .fieldLinkNest _ _ _ _ _ _, _ => exact va_tabs rfl h hb
  | .methodLinkNest _ _ _ _, _ => exact va_tabs rfl h hb
  | .arrayOver ty, _ => exact j_ao (by rw [h]; exact Vm.Alike.refl _) hb
theorem j_nw_warm {w : Jvm.Cond} {u U : State} (hn : pm_nw w = true) (h : u.WarmedH U.vm) (hb : w.before #[] u = true) : w.before #[] U = true := by
  match w, hn with
  | .fieldLinkNest _ _ _ _ _ _, _ => exact va_Nw.warmF h hb
  | .methodLinkNest _ _ _ _, _ => exact va_Nw.warmM h hb
  | .arrayOver ty, _ => exact j_ao h.alike hb
theorem j_TF (G : List Jvm.Cond) (base : Nat) (adK adV : Nat → Nat) : ma_TF base (jTF G base adK adV) := by
  refine ⟨fun u U H hW ⟨q1, q2, q3, ⟨t4, q4⟩, ⟨t5, q5⟩, q6⟩ => ⟨q1.moved hW.alike, q2.moved hW.alike, q3.moved hW.alike, ⟨t4, q4.warm hW⟩, ⟨t5, q5.warm hW⟩, fun w hw hn => j_nw_warm hn hW (q6 w hw hn)⟩,
    fun u U H hv ⟨q1, q2, q3, ⟨t4, q4⟩, ⟨t5, q5⟩, q6⟩ => ?_, fun U H H1 hq ⟨q1, q2, q3, q4, q5, q6⟩ => ?_⟩
  · have ha : u.vm.Alike U.vm := by rw [hv]; exact Vm.Alike.refl _
    exact ⟨q1.moved ha, q2.moved ha, q3.moved ha, ⟨t4, q4.same hv.symm⟩, ⟨t5, q5.same hv.symm⟩, fun w hw hn => j_nw_same hn hv (q6 w hw hn)⟩
  · have hk : ∀ a : Nat, a < H.size → ¬ jA base a → H1[a]? = H[a]? := fun a _ ha => hq a (Nat.lt_of_not_le ha)
    exact ⟨q1.kept hk, q2.kept hk, q3.kept hk, q4, q5, q6⟩
