/-! ===== what an hour can change, apart from both programs: Z 0 hour, draws, lines of the book, coin, breaks, heights (5..), worn (19..), where ships are (33..), what they scraped (41..); Z 1 the book; Z 2 paid, first scraped, first broken ===== -/
def zs (Z : Nat → Nat → Int32) (i : Nat) (v : Int32) : Nat → Nat → Int32 := va_up Z 0 (upd (Z 0) i v)
def zC (a : Nat) (c Z : Nat → Nat → Int32) (S : Nat) : Prop :=
  (c a 6 = Z 0 0 ∧ c a 7 = Z 0 1 ∧ c a 8 = Z 0 2 ∧ c a 4 = Z 0 3 ∧ c a 5 = Z 0 4) ∧ (∀ j, j < 14 → c (a + 1) j = Z 0 (5 + j)) ∧ (∀ j, j < 14 → c (a + 2) j = Z 0 (19 + j)) ∧ (∀ j, j < S → c (a + 3) j = Z 0 (33 + j)) ∧ ∀ j, j < S → c (a + 4) j = Z 0 (41 + j)
def zM (m Z : Nat → Nat → Int32) (S : Nat) : Prop :=
  (m 139 0 = Z 0 0 ∧ m 139 1 = Z 0 1 ∧ m 139 2 = Z 0 2 ∧ m 139 3 = Z 0 3 ∧ m 139 4 = Z 0 4) ∧ (∀ j, j < 14 → m 139 (5 + j) + nI 10 = Z 0 (5 + j)) ∧ (∀ j, j < 14 → m 139 (19 + j) = Z 0 (19 + j)) ∧ (∀ j, j < S → m 139 (33 + j) = Z 0 (33 + j)) ∧ ∀ j, j < S → m 139 (41 + j) = Z 0 (41 + j)
def zI (W S : Nat) (Z : Nat → Nat → Int32) : Prop :=
  (∀ j, j < 14 → 0 ≤ (Z 0 (5 + j)).toInt ∧ (Z 0 (5 + j)).toInt ≤ 40) ∧ (∀ j, j < 14 → 0 ≤ (Z 0 (19 + j)).toInt ∧ (Z 0 (19 + j)).toInt ≤ 99) ∧ (∀ j, j < S → ∃ k, k < W ∧ Z 0 (33 + j) = nI k) ∧ ∃ k, k ≤ 150 ∧ Z 0 2 = nI k
def fr (X : List Nat) (c c' : Nat → Nat → Int32) : Prop := ∀ k, k ∉ X → c' k = c k
theorem fr.rf {X : List Nat} {c : Nat → Nat → Int32} : fr X c c := fun _ _ => rfl
theorem fr.tr {X : List Nat} {a b c : Nat → Nat → Int32} (h1 : fr X a b) (h2 : fr X b c) : fr X a c := fun k hk => (h2 k hk).trans (h1 k hk)
theorem fr.mono {X Y : List Nat} {a b : Nat → Nat → Int32} (h : fr X a b) (hs : ∀ k ∈ X, k ∈ Y) : fr Y a b := fun k hk => h k (fun z => hk (hs k z))
theorem fr.up {X : List Nat} {a b : Nat → Nat → Int32} (h : fr X a b) {k : Nat} (hk : k ∈ X) (f : Nat → Int32) : fr X a (va_up b k f) := fun j hj => by
  rw [up_n _ _ _ _ (fun z => hj (by rw [z]; exact hk))]
  exact h j hj
theorem aC.fr {X : List Nat} {c c' : Nat → Nat → Int32} {ls : List lL} {W : Nat} (h : aC c ls W) (hf : fr X c c') (h1 : 1 ∉ X ∧ 7 ∉ X ∧ 8 ∉ X ∧ 9 ∉ X ∧ 10 ∉ X ∧ 11 ∉ X ∧ 12 ∉ X) : aC c' ls W := by
  obtain ⟨q1, q7, q8, q9, q10, q11, q12⟩ := h1
  unfold aC lC at *
  rw [hf 1 q1, hf 7 q7, hf 8 q8, hf 9 q9, hf 10 q10, hf 11 q11, hf 12 q12]
  exact h
theorem zs_0 (Z : Nat → Nat → Int32) (i : Nat) (v : Int32) : zs Z i v 0 i = v := pk_us
theorem zs_n {Z : Nat → Nat → Int32} {i j : Nat} (v : Int32) (h : j ≠ i) : zs Z i v 0 j = Z 0 j := pk_un h
theorem zs_r {Z : Nat → Nat → Int32} {i r : Nat} (v : Int32) (h : r ≠ 0) : zs Z i v r = Z r := up_n _ _ _ _ h
section ZC
variable {a S W : Nat} {c m Z : Nat → Nat → Int32}
theorem zC.row (h : zC a c Z S) {r : Nat} (f : Nat → Int32) (hr : r < a ∨ a + 4 < r) : zC a (va_up c r f) Z S := by
  unfold zC at *
  rw [up_n _ _ _ _ (show a ≠ r by omega), up_n _ _ _ _ (show a + 1 ≠ r by omega), up_n _ _ _ _ (show a + 2 ≠ r by omega), up_n _ _ _ _ (show a + 3 ≠ r by omega), up_n _ _ _ _ (show a + 4 ≠ r by omega)]
  exact h
theorem zC.z (h : zC a c Z S) {r : Nat} (f : Nat → Int32) (hr : r ≠ 0) : zC a c (va_up Z r f) S := by
  unfold zC at *
  rw [up_n _ _ _ _ (Ne.symm hr)]
  exact h
theorem zM.z (h : zM m Z S) {r : Nat} (f : Nat → Int32) (hr : r ≠ 0) : zM m (va_up Z r f) S := by
  unfold zM at *
  rw [up_n _ _ _ _ (Ne.symm hr)]
  exact h
theorem zI.z (h : zI W S Z) {r : Nat} (f : Nat → Int32) (hr : r ≠ 0) : zI W S (va_up Z r f) := by
  unfold zI at *
  rw [up_n _ _ _ _ (Ne.symm hr)]
  exact h
theorem zM.row (h : zM m Z S) {r : Nat} (f : Nat → Int32) (hr : r ≠ 139) : zM (va_up m r f) Z S := by
  unfold zM at *
  rw [up_n _ _ _ _ (Ne.symm hr)]
  exact h
theorem zC.sc (h : zC a c Z S) (hS : S ≤ 8) {f i : Nat} (v : Int32) (hf : (f = 6 ∧ i = 0) ∨ (f = 7 ∧ i = 1) ∨ (f = 8 ∧ i = 2) ∨ (f = 4 ∧ i = 3) ∨ (f = 5 ∧ i = 4)) : zC a (va_up c a (upd (c a) f v)) (zs Z i v) S := by
  obtain ⟨⟨h1, h2, h3, h4, h5⟩, h6, h7, h8, h9⟩ := h
  refine ⟨?_, fun j hj => ?_, fun j hj => ?_, fun j hj => ?_, fun j hj => ?_⟩
  · rw [up_s]
    rcases hf with ⟨rfl, rfl⟩ | ⟨rfl, rfl⟩ | ⟨rfl, rfl⟩ | ⟨rfl, rfl⟩ | ⟨rfl, rfl⟩ <;> simp [zs, up_s, upd, *]
  all_goals rw [up_n _ _ _ _ (by omega), zs_n _ (by omega)]
  · exact h6 j hj
  · exact h7 j hj
  · exact h8 j hj
  · exact h9 j hj
theorem zC.h (h : zC a c Z S) (hS : S ≤ 8) {x : Nat} (hx : x < 14) (v : Int32) : zC a (va_up c (a + 1) (upd (c (a + 1)) x v)) (zs Z (5 + x) v) S := by
  obtain ⟨⟨h1, h2, h3, h4, h5⟩, h6, h7, h8, h9⟩ := h
  refine ⟨?_, fun j hj => ?_, fun j hj => ?_, fun j hj => ?_, fun j hj => ?_⟩
  · rw [up_n _ _ _ _ (by omega), zs_n _ (by omega), zs_n _ (by omega), zs_n _ (by omega), zs_n _ (by omega), zs_n _ (by omega)]
    exact ⟨h1, h2, h3, h4, h5⟩
  · rw [up_s]
    by_cases e : j = x
    · subst e; rw [pk_us, zs_0]
    · rw [pk_un e, zs_n _ (by omega)]; exact h6 j hj
  all_goals rw [up_n _ _ _ _ (by omega), zs_n _ (by omega)]
  · exact h7 j hj
  · exact h8 j hj
  · exact h9 j hj
theorem zC.n (h : zC a c Z S) (hS : S ≤ 8) {x : Nat} (hx : x < 14) (v : Int32) : zC a (va_up c (a + 2) (upd (c (a + 2)) x v)) (zs Z (19 + x) v) S := by
  obtain ⟨⟨h1, h2, h3, h4, h5⟩, h6, h7, h8, h9⟩ := h
  refine ⟨?_, fun j hj => ?_, fun j hj => ?_, fun j hj => ?_, fun j hj => ?_⟩
  · rw [up_n _ _ _ _ (by omega), zs_n _ (by omega), zs_n _ (by omega), zs_n _ (by omega), zs_n _ (by omega), zs_n _ (by omega)]
    exact ⟨h1, h2, h3, h4, h5⟩
  · rw [up_n _ _ _ _ (by omega), zs_n _ (by omega)]; exact h6 j hj
  · rw [up_s]
    by_cases e : j = x
    · subst e; rw [pk_us, zs_0]
    · rw [pk_un e, zs_n _ (by omega)]; exact h7 j hj
  all_goals rw [up_n _ _ _ _ (by omega), zs_n _ (by omega)]
  · exact h8 j hj
  · exact h9 j hj
theorem zC.at (h : zC a c Z S) (hS : S ≤ 8) {x : Nat} (hx : x < S) (v : Int32) : zC a (va_up c (a + 3) (upd (c (a + 3)) x v)) (zs Z (33 + x) v) S := by
  obtain ⟨⟨h1, h2, h3, h4, h5⟩, h6, h7, h8, h9⟩ := h
  refine ⟨?_, fun j hj => ?_, fun j hj => ?_, fun j hj => ?_, fun j hj => ?_⟩
  · rw [up_n _ _ _ _ (by omega), zs_n _ (by omega), zs_n _ (by omega), zs_n _ (by omega), zs_n _ (by omega), zs_n _ (by omega)]
    exact ⟨h1, h2, h3, h4, h5⟩
  · rw [up_n _ _ _ _ (by omega), zs_n _ (by omega)]; exact h6 j hj
  · rw [up_n _ _ _ _ (by omega), zs_n _ (by omega)]; exact h7 j hj
  · rw [up_s]
    by_cases e : j = x
    · subst e; rw [pk_us, zs_0]
    · rw [pk_un e, zs_n _ (by omega)]; exact h8 j hj
  · rw [up_n _ _ _ _ (by omega), zs_n _ (by omega)]; exact h9 j hj
theorem zC.scr (h : zC a c Z S) (hS : S ≤ 8) {x : Nat} (hx : x < S) (v : Int32) : zC a (va_up c (a + 4) (upd (c (a + 4)) x v)) (zs Z (41 + x) v) S := by
  obtain ⟨⟨h1, h2, h3, h4, h5⟩, h6, h7, h8, h9⟩ := h
  refine ⟨?_, fun j hj => ?_, fun j hj => ?_, fun j hj => ?_, fun j hj => ?_⟩
  · rw [up_n _ _ _ _ (by omega), zs_n _ (by omega), zs_n _ (by omega), zs_n _ (by omega), zs_n _ (by omega), zs_n _ (by omega)]
    exact ⟨h1, h2, h3, h4, h5⟩
  · rw [up_n _ _ _ _ (by omega), zs_n _ (by omega)]; exact h6 j hj
  · rw [up_n _ _ _ _ (by omega), zs_n _ (by omega)]; exact h7 j hj
  · rw [up_n _ _ _ _ (by omega), zs_n _ (by omega)]; exact h8 j hj
  · rw [up_s]
    by_cases e : j = x
    · subst e; rw [pk_us, zs_0]
    · rw [pk_un e, zs_n _ (by omega)]; exact h9 j hj
theorem nI_sa (v : Int32) : v - nI 10 + nI 10 = v := Int32.sub_add_cancel v (nI 10)
/-- the reference: a place of its row, heights less ten -/
theorem zM.up (h : zM m Z S) (hS : S ≤ 8) {i : Nat} (hi : i < 49) (v : Int32) : zM (va_up m 139 (upd (m 139) i (if 5 ≤ i ∧ i < 19 then v - nI 10 else v))) (zs Z i v) S := by
  obtain ⟨⟨h1, h2, h3, h4, h5⟩, h6, h7, h8, h9⟩ := h
  unfold zM
  simp only [up_s]
  have key : ∀ j, (j < 5 ∨ 19 ≤ j) → m 139 j = Z 0 j → upd (m 139) i (if 5 ≤ i ∧ i < 19 then v - nI 10 else v) j = zs Z i v 0 j := by
    intro j hj e
    by_cases z : j = i
    · subst z; rw [pk_us, zs_0, if_neg (by omega)]
    · rw [pk_un z, zs_n _ z]; exact e
  refine ⟨⟨key 0 (by omega) h1, key 1 (by omega) h2, key 2 (by omega) h3, key 3 (by omega) h4, key 4 (by omega) h5⟩, fun j hj => ?_, fun j hj => key _ (by omega) (h7 j hj), fun j hj => key _ (by omega) (h8 j hj), fun j hj => key _ (by omega) (h9 j hj)⟩
  by_cases z : 5 + j = i
  · subst z; rw [pk_us, zs_0, if_pos (by omega), nI_sa]
  · rw [pk_un z, zs_n _ z]; exact h6 j hj
theorem zI.sc (h : zI W S Z) (hS : S ≤ 8) {i : Nat} (hi : i = 0 ∨ i = 1 ∨ i = 3 ∨ i = 4 ∨ 41 ≤ i) (v : Int32) : zI W S (zs Z i v) := by
  obtain ⟨h1, h2, h3, h4⟩ := h
  refine ⟨fun j hj => ?_, fun j hj => ?_, fun j hj => ?_, ?_⟩
  all_goals rw [zs_n _ (by omega)]
  · exact h1 j hj
  · exact h2 j hj
  · exact h3 j hj
  · exact h4
theorem zI.h (h : zI W S Z) (hS : S ≤ 8) {x : Nat} (hx : x < 14) {v : Int32} (hv : 0 ≤ v.toInt ∧ v.toInt ≤ 40) : zI W S (zs Z (5 + x) v) := by
  obtain ⟨h1, h2, h3, h4⟩ := h
  refine ⟨fun j hj => ?_, fun j hj => ?_, fun j hj => ?_, ?_⟩
  · by_cases e : 5 + j = 5 + x
    · rw [e, zs_0]; exact hv
    · rw [zs_n _ e]; exact h1 j hj
  all_goals rw [zs_n _ (by omega)]
  · exact h2 j hj
  · exact h3 j hj
  · exact h4
theorem zI.n (h : zI W S Z) (hS : S ≤ 8) {x : Nat} (hx : x < 14) {v : Int32} (hv : 0 ≤ v.toInt ∧ v.toInt ≤ 99) : zI W S (zs Z (19 + x) v) := by
  obtain ⟨h1, h2, h3, h4⟩ := h
  refine ⟨fun j hj => ?_, fun j hj => ?_, fun j hj => ?_, ?_⟩
  · rw [zs_n _ (by omega)]; exact h1 j hj
  · by_cases e : 19 + j = 19 + x
    · rw [e, zs_0]; exact hv
    · rw [zs_n _ e]; exact h2 j hj
  all_goals rw [zs_n _ (by omega)]
  · exact h3 j hj
  · exact h4
theorem zI.at (h : zI W S Z) (hS : S ≤ 8) {x k : Nat} (hk : k < W) : zI W S (zs Z (33 + x) (nI k)) := by
  obtain ⟨h1, h2, h3, h4⟩ := h
  refine ⟨fun j hj => ?_, fun j hj => ?_, fun j hj => ?_, ?_⟩
  · rw [zs_n _ (by omega)]; exact h1 j hj
  · rw [zs_n _ (by omega)]; exact h2 j hj
  · by_cases e : 33 + j = 33 + x
    · rw [e, zs_0]; exact ⟨k, hk, rfl⟩
    · rw [zs_n _ e]; exact h3 j hj
  · rw [zs_n _ (by omega)]; exact h4
theorem zI.bk (h : zI W S Z) (hS : S ≤ 8) {k : Nat} (hk : k ≤ 150) : zI W S (zs Z 2 (nI k)) := by
  obtain ⟨h1, h2, h3, h4⟩ := h
  refine ⟨fun j hj => ?_, fun j hj => ?_, fun j hj => ?_, ?_⟩
  · rw [zs_n _ (by omega)]; exact h1 j hj
  · rw [zs_n _ (by omega)]; exact h2 j hj
  · rw [zs_n _ (by omega)]; exact h3 j hj
  · rw [zs_0]; exact ⟨k, hk, rfl⟩
end ZC
def zH (Z : Nat → Nat → Int32) : Nat → Int32 := fun j => Z 0 (5 + j)
def zN (Z : Nat → Nat → Int32) : Nat → Int32 := fun j => Z 0 (19 + j)
theorem leanS_congr {W x : Nat} {H H' : Nat → Int32} (hx : x < W) (hW : W ≤ 14) (h : ∀ j, j < 14 → H j = H' j) : leanS W H x = leanS W H' x := by
  unfold leanS
  rw [h x (by omega), h (x - 1) (by omega)]
  by_cases z : x + 1 < W
  · rw [if_pos z, if_pos z, h (x + 1) (by omega)]
  · rw [if_neg z, if_neg z]
theorem aQS_congr {W x : Nat} {H H' N N' : Nat → Int32} (hx : x < W) (hW : W ≤ 14) (h : ∀ j, j < 14 → H j = H' j) (h' : ∀ j, j < 14 → N j = N' j) (hr dy b : Int32) : aQS W H N hr dy b x = aQS W H' N' hr dy b x := by
  unfold aQS
  rw [leanS_congr hx hW h, h x (by omega), h' x (by omega)]
section CG
variable {W x : Nat} {H H' N N' : Nat → Int32} {ls : List lL} {t : Int32} (hx : x < W) (hW : W ≤ 14) (h : ∀ j, j < 14 → H j = H' j) (h' : ∀ j, j < 14 → N j = N' j)
theorem wearS_congr (hx : x < W) (hW : W ≤ 14) (h : ∀ j, j < 14 → H j = H' j) (h' : ∀ j, j < 14 → N j = N' j) : wearS ls W H N t x = wearS ls W H' N' t x := by
  unfold wearS
  rw [leanS_congr hx hW h, aQS_congr hx hW h h']
theorem slideS_congr (hx : x < W) (hW : W ≤ 14) (h : ∀ j, j < 14 → H j = H' j) (h' : ∀ j, j < 14 → N j = N' j) : slideS ls W H N t x = slideS ls W H' N' t x := by
  unfold slideS
  rw [aQS_congr hx hW h h']
theorem costS_congr (g : Int32) (hx : x < W) (hW : W ≤ 14) (h : ∀ j, j < 14 → H j = H' j) (h' : ∀ j, j < 14 → N j = N' j) : costS ls W H N t x g = costS ls W H' N' t x g := by
  unfold costS byS
  rw [aQS_congr hx hW h h', h x (by omega)]
theorem sunS_congr (g : Int32) (hx : x < W) (hW : W ≤ 14) (h : ∀ j, j < 14 → H j = H' j) (h' : ∀ j, j < 14 → N j = N' j) : sunS ls W H N t x g = sunS ls W H' N' t x g := by
  unfold sunS
  rw [aQS_congr hx hW h h']
theorem duskS_congr (hx : x < W) (hW : W ≤ 14) (h : ∀ j, j < 14 → H j = H' j) (h' : ∀ j, j < 14 → N j = N' j) : duskS ls W H N t x = duskS ls W H' N' t x := by
  unfold duskS
  have : (fun i => decide (sunS ls W H N t x (nI i) ≤ H x)) = (fun i => decide (sunS ls W H' N' t x (nI i) ≤ H' x)) := by
    funext i
    rw [sunS_congr _ hx hW h h', h x (by omega)]
  rw [this]
end CG
