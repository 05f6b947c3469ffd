/-! ===== an array of arrays ===== -/
section MY
variable {D : va_G} {cl : List vw_C} {ks : Nat → List Nat} {ad : Nat → Nat} {base : Nat} {G : List Jvm.Cond} {own : String} {ini : Bool} {p : Program} {l : Launch} {e : Env} {R : Room} {s : State} {m : MethodId} {args : Array Value} {below : List Frame} {meth : Method} {c : Code} {cc : ByteArray} {nL pc : Nat} {Q : State → Prop} {sc : Nat × (Nat → Int32)} {o : List Nat} {L : ma_L} {S S' : List Value} {h h' : List ma_C} {cells slots : Nat} {TF : State → Heap → Prop}
theorem ma_o_multi {x : Nat} {L' : ma_L} (X : ma_X D cl ks ad base sc G own ini p s m args meth c cc nL) (hdg : decode cc pc = .ok (.multianewarray x 2, 4)) (hlk : Jvm.Cond.classLink own x ("[" ++ (FieldType.array .int).toString) ∈ G ∧ Jvm.Cond.arrayOver (.array .int) ∈ G ∧ Jvm.Cond.arrayClass .int ∈ G)
    (hs : ma_s sc ks (.multianewarray x 2) o L S h = some (L', S', h')) (hce : cells + (h'.length - h.length) ≤ R.cells) (hsl : slots + (ma_sl h' - ma_sl h) ≤ R.slots) (k : ma_G D cl ad base p l e R s m args below meth c Q nL (pc + 4) L' S' h' (cells + (h'.length - h.length)) (slots + (ma_sl h' - ma_sl h))) : ma_G D cl ad base p l e R s m args below meth c Q nL pc L S h cells slots := by
  sorry
end MY
