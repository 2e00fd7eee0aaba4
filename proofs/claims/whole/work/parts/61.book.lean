/-! ===== a book, as numbers: how many lines; rows (0 cue, 1 who, 2 scene, 3 harm, 4 harm done, 5 back from, 6 back to, 7 dries, 8 child); followers; 0 backs, 1 free, 2 cut ===== -/
abbrev MB : Type := Nat × (Nat → Nat → Int32) × (Nat → List Nat) × (Nat → Int32)
def mbL (m : MB) : Nat := m.1
def mbR (m : MB) : Nat → Nat → Int32 := m.2.1
def mbF (m : MB) : Nat → List Nat := m.2.2.1
def mbP (m : MB) : Nat → Int32 := m.2.2.2
/-- what holds of every book that was told -/
def MBok (m : MB) : Prop := mbL m ≤ 20 ∧ (∀ l, l < mbL m → (mbF m l).length ≤ 20 ∧ ∀ x ∈ mbF m l, x < mbL m) ∧ (∀ l, l < mbL m → ∃ p, p < 6 ∧ mbR m 1 l = nI p) ∧ (∀ l, l < mbL m → (mbF m l).Nodup)
  ∧ (∀ l, l < mbL m → (∃ q, q < 20 ∧ mbR m 0 l = nI q) ∧ (∃ q, q < 10 ∧ mbR m 2 l = nI q) ∧ (∃ q, q < 10 ∧ mbR m 3 l = nI q) ∧ ∃ q, q < 10 ∧ mbR m 4 l = nI q)
  ∧ (∀ p, p < 6 → (∃ d, d ≤ 10 ∧ mbR m 7 p = nI d) ∧ (mbR m 8 p = nI 0 ∨ mbR m 8 p = nI 1)) ∧ (∃ f, f < 10 ∧ mbP m 1 = nI f) ∧ ∃ c, 0 < c ∧ c < 10 ∧ mbP m 2 = nI c
def bkL : List (Nat × Nat) := [(1, 20), (1, 20), (1, 20), (1, 20), (1, 20), (1, 8), (1, 8), (1, 6), (1, 6), (1, 400), (1, 20), (0, 0), (0, 0), (0, 0), (0, 0)]
/-- the class's book at the address a -/
def CB (h : qH) (a : Nat) (m : MB) : Prop := MBok m ∧ ∃ (A : Nat → Nat → Int32) (B : Nat → Nat → Int64) (I : Nat → Int32) (J : Nat → Int64), OB h a 0 bkL A B I J ∧ (I 12 = nI (mbL m) ∧ I 13 = mbP m 1 ∧ I 14 = mbP m 2) ∧ (∀ k l, k < 5 → l < mbL m → A k l = mbR m k l) ∧ (∀ p, p < 6 → A 7 p = mbR m 7 p ∧ A 8 p = mbR m 8 p) ∧ ∀ l, l < mbL m → A 10 l = nI (mbF m l).length ∧ ∀ k, k < (mbF m l).length → A 9 (20 * l + k) = nI ((mbF m l).getD k 0)
theorem CB.kept {h h' : qH} {a : Nat} {m : MB} (c : CB h a m) (hk : ∀ q, a ≤ q → q < a + 12 → h' q = h q) : CB h' a m := by
  obtain ⟨h0, A, B, I, J, o, hI, h1⟩ := c
  exact ⟨h0, A, B, I, J, o.kept (fun q q1 q2 => hk q q1 q2), hI, h1⟩
theorem CB.ob {h : qH} {a : Nat} {m : MB} (c : CB h a m) : q_ob h a 0 = some () := by
  obtain ⟨h0, A, B, I, J, o, hI, h1⟩ := c
  exact o.ob
/-- a number that names none of n things -/
def nOut (x : Int32) (n : Nat) : Prop := x < 0 ∨ nI n ≤ x
theorem nOut_or (x : Int32) {n : Nat} (hn : n < 2 ^ 31) : nOut x n ∨ ∃ j, j < n ∧ x = nI j := by
  rcases pk_ix x hn with h | h | h
  · exact Or.inl (Or.inl h)
  · exact Or.inl (Or.inr h)
  · exact Or.inr h
theorem nOut_m1 (n : Nat) : nOut (-1) n := Or.inl (by decide)
theorem nI_cl {n : Nat} (h : n < 2 ^ 31) : (nI n).toNatClampNeg = n := nI_clamp h
theorem nI_nn {n : Nat} (h : n < 2 ^ 31) : (0 : Int32) ≤ nI n := nI_pos' h
theorem c_lines {h : qH} {a : Nat} {m : MB} (c : CB h a m) : q_fI h a 0 12 = some (nI (mbL m)) := by
  obtain ⟨h0, A, B, I, J, o, hI, h1⟩ := c
  rw [o.fI (k := 12) rfl, hI.1]
theorem c_has_in {h : qH} {a : Nat} {m : MB} (c : CB h a m) {j : Nat} (hj : j < mbL m) : F_X0_has h a (nI j) = some 1 := by
  have hL := c.1.1
  unfold F_X0_has
  rw [if_neg (nI_pos (by omega)), c_lines c, Option.bind_some, if_neg (nI_ge hj (by omega)), if_neg (show ¬ (20 : Int32) ≤ nI j from nI_ge (b := 20) (by omega) (by omega))]
theorem c_has_out {h : qH} {a : Nat} {m : MB} (c : CB h a m) {x : Int32} (hx : nOut x (mbL m)) : F_X0_has h a x = some 0 := by
  unfold F_X0_has
  by_cases h0 : x < 0
  · rw [if_pos h0]
  · rw [if_neg h0, c_lines c, Option.bind_some, if_pos (hx.resolve_left h0)]
theorem c_cnt_in {h : qH} {a : Nat} {m : MB} (c : CB h a m) {j : Nat} (hj : j < mbL m) : F_X0_howManyFollow h a (nI j) = some (nI (mbF m j).length) := by
  have hL := c.1.1
  have hl := c_lines c
  obtain ⟨h0, A, B, I, J, o, hI, h1, h2, h3⟩ := c
  unfold F_X0_howManyFollow
  rw [if_neg (nI_pos (by omega)), hl, Option.bind_some, if_neg (nI_ge hj (by omega)), if_neg (show ¬ (20 : Int32) ≤ nI j from nI_ge (b := 20) (by omega) (by omega)), o.fR (k := 10) rfl rfl, Option.bind_some,
    o.aI (k := 10) (n := 20) rfl (nI_nn (by omega)) (by rw [nI_cl (by omega)]; omega), Option.bind_some, nI_cl (by omega), (h3 j hj).1]
theorem c_cnt_out {h : qH} {a : Nat} {m : MB} (c : CB h a m) {x : Int32} (hx : nOut x (mbL m)) : F_X0_howManyFollow h a x = some 0 := by
  unfold F_X0_howManyFollow
  by_cases h0 : x < 0
  · rw [if_pos h0]
  · rw [if_neg h0, c_lines c, Option.bind_some, if_pos (hx.resolve_left h0)]
theorem c_fol_in {h : qH} {a : Nat} {m : MB} (c : CB h a m) {j k : Nat} (hj : j < mbL m) (hk : k < (mbF m j).length) : F_X0_following h a (nI j) (nI k) = some (nI ((mbF m j).getD k 0)) := by
  have hL := c.1.1
  have hl := c_lines c
  have hF := (c.1.2.1 j hj).1
  obtain ⟨h0, A, B, I, J, o, hI, h1, h2, h3⟩ := c
  have e1 : nI j * (20 : Int32) + nI k = nI (20 * j + k) := by
    rw [show (20 : Int32) = nI 20 from rfl, pk_mul, nI_add, Nat.mul_comm]
  unfold F_X0_following
  rw [if_neg (nI_pos (by omega)), hl, Option.bind_some, if_neg (nI_ge hj (by omega)), if_pos (show nI j < (20 : Int32) from nI_lt (b := 20) (by omega) (by omega)), if_neg (nI_pos (by omega)), o.fR (k := 10) rfl rfl, Option.bind_some,
    o.aI (k := 10) (n := 20) rfl (nI_nn (by omega)) (by rw [nI_cl (by omega)]; omega), Option.bind_some, nI_cl (by omega), (h3 j hj).1, if_neg (nI_ge hk (by omega)), if_neg (show ¬ (20 : Int32) ≤ nI k from nI_ge (b := 20) (by omega) (by omega)), o.fR (k := 9) rfl rfl, Option.bind_some, e1,
    o.aI (k := 9) (n := 400) rfl (nI_nn (by omega)) (by rw [nI_cl (by omega)]; omega), Option.bind_some, nI_cl (by omega), (h3 j hj).2 k hk]
theorem c_fol_outk {h : qH} {a : Nat} {m : MB} (c : CB h a m) {j : Nat} {y : Int32} (hj : j < mbL m) (hy : nOut y (mbF m j).length) : F_X0_following h a (nI j) y = some (-1) := by
  have hL := c.1.1
  have hl := c_lines c
  have hF := (c.1.2.1 j hj).1
  obtain ⟨h0, A, B, I, J, o, hI, h1, h2, h3⟩ := c
  unfold F_X0_following
  rw [if_neg (nI_pos (by omega)), hl, Option.bind_some, if_neg (nI_ge hj (by omega)), if_pos (show nI j < (20 : Int32) from nI_lt (b := 20) (by omega) (by omega))]
  by_cases hy0 : y < 0
  · rw [if_pos hy0]
  · rw [if_neg hy0, o.fR (k := 10) rfl rfl, Option.bind_some, o.aI (k := 10) (n := 20) rfl (nI_nn (by omega)) (by rw [nI_cl (by omega)]; omega), Option.bind_some, nI_cl (by omega), (h3 j hj).1, if_pos (hy.resolve_left hy0)]
theorem c_fol_out {h : qH} {a : Nat} {m : MB} (c : CB h a m) {x y : Int32} (hx : nOut x (mbL m)) : F_X0_following h a x y = some (-1) := by
  unfold F_X0_following
  by_cases h0 : x < 0
  · rw [if_pos h0]
  · rw [if_neg h0, c_lines c, Option.bind_some, if_pos (hx.resolve_left h0)]
/-- a line or none, as the programs have it -/
def oI (o : Option Nat) : Int32 := match o with
  | none => -1
  | some j => nI j
theorem oI_out (n : Nat) : nOut (oI none) n := nOut_m1 n
/-- the k-th follower -/
theorem c_fol {h : qH} {a : Nat} {m : MB} (c : CB h a m) {j k : Nat} (hj : j < mbL m) (hk : k < 2 ^ 31) : F_X0_following h a (nI j) (nI k) = some (oI ((mbF m j)[k]?)) := by
  have hF := (c.1.2.1 j hj).1
  rcases Nat.lt_or_ge k (mbF m j).length with h1 | h1
  · rw [c_fol_in c hj h1, List.getElem?_eq_getElem h1, List.getD_eq_getElem?_getD, List.getElem?_eq_getElem h1]
    rfl
  · rw [c_fol_outk c hj (Or.inr (nI_le h1 hk)), List.getElem?_eq_none h1]
    rfl
/-- the line that comes next -/
def nxt (m : MB) (o : Option Nat) : Option Nat := o.bind fun j => (mbF m j)[0]?
def okL (m : MB) (o : Option Nat) : Prop := ∀ j, o = some j → j < mbL m
theorem okL_none (m : MB) : okL m none := fun j h => by cases h
theorem okL_fol {m : MB} (hm : MBok m) {j : Nat} (hj : j < mbL m) (k : Nat) : okL m ((mbF m j)[k]?) := fun x hx => (hm.2.1 j hj).2 x (List.mem_of_getElem? hx)
theorem okL_nxt {m : MB} (hm : MBok m) {o : Option Nat} (ho : okL m o) : okL m (nxt m o) := by
  cases o with
  | none => exact okL_none m
  | some j => exact okL_fol hm (ho j rfl) 0
theorem c_next {h : qH} {a : Nat} {m : MB} (c : CB h a m) {o : Option Nat} (ho : okL m o) : F_X0_nextOf h a (oI o) = some (oI (nxt m o)) := by
  unfold F_X0_nextOf
  rw [c.ob, Option.bind_some]
  cases o with
  | none => rw [c_fol_out c (oI_out _)]; rfl
  | some j =>
    show (F_X0_following h a (nI j) (0 : Int32)).bind _ = _
    rw [show (0 : Int32) = nI 0 from rfl, c_fol c (ho j rfl) (by omega)]
    rfl
theorem c_has {h : qH} {a : Nat} {m : MB} (c : CB h a m) {o : Option Nat} (ho : okL m o) : F_X0_has h a (oI o) = some (if o = none then 0 else 1) := by
  cases o with
  | none => rw [c_has_out c (oI_out _)]; rfl
  | some j => exact c_has_in c (ho j rfl)
theorem oI_eq {o : Option Nat} {j : Nat} (ho : ∀ x, o = some x → x < 2 ^ 31) (hj : j < 2 ^ 31) : oI o = nI j ↔ o = some j := by
  cases o with
  | none =>
    refine ⟨fun h => ?_, fun h => by cases h⟩
    have h1 := nI_toInt hj
    rw [← h] at h1
    have h2 : (oI none).toInt = -1 := by decide
    rw [h2] at h1
    omega
  | some x =>
    rw [show oI (some x) = nI x from rfl, nI_eq (ho x rfl) hj]
    exact ⟨fun h => by rw [h], fun h => Option.some.inj h⟩
theorem oI_m1 {o : Option Nat} (ho : ∀ x, o = some x → x < 2 ^ 31) : oI o = -1 ↔ o = none := by
  cases o with
  | none => exact ⟨fun _ => rfl, fun _ => rfl⟩
  | some x =>
    refine ⟨fun h => ?_, fun h => by cases h⟩
    have h1 := nI_toInt (ho x rfl)
    have h2 : (oI (some x)).toInt = -1 := by rw [h]; decide
    rw [show oI (some x) = nI x from rfl, h1] at h2
    omega
theorem oI_inj {o o' : Option Nat} (ho : ∀ x, o = some x → x < 2 ^ 31) (ho' : ∀ x, o' = some x → x < 2 ^ 31) : oI o = oI o' ↔ o = o' := by
  cases o' with
  | none => exact oI_m1 ho
  | some j => exact oI_eq ho (ho' j rfl)
theorem okL_31 {m : MB} (hm : MBok m) {o : Option Nat} (ho : okL m o) : ∀ x, o = some x → x < 2 ^ 31 := fun x hx => by
  have := ho x hx
  have := hm.1
  omega
/-- a step to the k-th follower is a straying, but the first -/
theorem c_stray {h : qH} {a : Nat} {m : MB} (c : CB h a m) {j k : Nat} (hj : j < mbL m) (hk : k < (mbF m j).length) : F_X0_strayingOf h a (nI j) (nI ((mbF m j).getD k 0)) = some (if (mbF m j).getD k 0 = (mbF m j).getD 0 0 then 0 else 1) := by
  have hm := c.1
  have hx : (mbF m j).getD k 0 < mbL m := by
    rw [List.getD_eq_getElem?_getD, List.getElem?_eq_getElem hk]
    exact (hm.2.1 j hj).2 _ (List.getElem_mem hk)
  have hL := hm.1
  have e0 : (mbF m j)[0]? = some ((mbF m j).getD 0 0) := by
    rw [List.getD_eq_getElem?_getD, List.getElem?_eq_getElem (show 0 < (mbF m j).length by omega)]
    rfl
  unfold F_X0_strayingOf
  rw [c.ob, Option.bind_some, show nI j = oI (some j) from rfl, c_next c (o := some j) (fun x hx => by cases hx; exact hj), Option.bind_some]
  show (if oI ((mbF m j)[0]?) = nI ((mbF m j).getD k 0) then some (0 : Int32) else some 1) = _
  have h2 := oI_eq (o := (mbF m j)[0]?) (j := (mbF m j).getD k 0) (okL_31 hm (okL_fol hm hj 0)) (by omega)
  by_cases hh : (mbF m j).getD k 0 = (mbF m j).getD 0 0
  · rw [if_pos (h2.mpr (by rw [e0, hh])), if_pos hh]
  · rw [if_neg (fun q => hh (by have := h2.mp q; rw [e0] at this; exact (Option.some.inj this).symm)), if_neg hh]
theorem c_row {h : qH} {a : Nat} {m : MB} (c : CB h a m) {k l : Nat} (hk : k < 5) (hl : l < mbL m) : (q_fR h a 0 k).bind (fun x => q_aI h .int x (nI l)) = some (mbR m k l) := by
  have hL := c.1.1
  obtain ⟨h0, A, B, I, J, o, hI, h1, h2, h3⟩ := c
  have hk2 : bkL[k]? = some (1, 20) := by
    rcases (show k = 0 ∨ k = 1 ∨ k = 2 ∨ k = 3 ∨ k = 4 by omega) with rfl | rfl | rfl | rfl | rfl <;> rfl
  rw [o.fR hk2 rfl, Option.bind_some, o.aI hk2 (nI_nn (by omega)) (by rw [nI_cl (by omega)]; omega), nI_cl (by omega), h1 k l hk hl]
theorem q_bb {α β γ : Type} (o : Option α) (f : α → Option β) (g : β → Option γ) : (o.bind fun x => (f x).bind g) = (o.bind f).bind g := by cases o <;> rfl
theorem c_who_in {h : qH} {a : Nat} {m : MB} (c : CB h a m) {j : Nat} (hj : j < mbL m) : F_X0_whoSays h a (nI j) = some (mbR m 1 j) := by
  have hL := c.1.1
  unfold F_X0_whoSays
  rw [if_neg (nI_pos (by omega)), c_lines c, Option.bind_some, if_neg (nI_ge hj (by omega)), if_neg (show ¬ (20 : Int32) ≤ nI j from nI_ge (b := 20) (by omega) (by omega)), q_bb, c_row c (by omega) hj]
  rfl
theorem c_who_out {h : qH} {a : Nat} {m : MB} (c : CB h a m) {x : Int32} (hx : nOut x (mbL m)) : F_X0_whoSays h a x = some (-1) := by
  unfold F_X0_whoSays
  by_cases h0 : x < 0
  · rw [if_pos h0]
  · rw [if_neg h0, c_lines c, Option.bind_some, if_pos (hx.resolve_left h0)]
theorem c_harm_in {h : qH} {a : Nat} {m : MB} (c : CB h a m) {j : Nat} (hj : j < mbL m) : F_X0_harmDone h a (nI j) = some (mbR m 4 j) := by
  have hL := c.1.1
  unfold F_X0_harmDone
  rw [if_neg (nI_pos (by omega)), c_lines c, Option.bind_some, if_neg (nI_ge hj (by omega)), if_neg (show ¬ (20 : Int32) ≤ nI j from nI_ge (b := 20) (by omega) (by omega)), q_bb, c_row c (by omega) hj]
  rfl
theorem c_harm_out {h : qH} {a : Nat} {m : MB} (c : CB h a m) {x : Int32} (hx : nOut x (mbL m)) : F_X0_harmDone h a x = some 0 := by
  unfold F_X0_harmDone
  by_cases h0 : x < 0
  · rw [if_pos h0]
  · rw [if_neg h0, c_lines c, Option.bind_some, if_pos (hx.resolve_left h0)]
theorem c_scene_in {h : qH} {a : Nat} {m : MB} (c : CB h a m) {j : Nat} (hj : j < mbL m) : F_X0_sceneOf h a (nI j) = some (mbR m 2 j) := by
  unfold F_X0_sceneOf
  rw [c.ob, Option.bind_some, c_has_in c hj, Option.bind_some, if_neg (by decide), q_bb, c_row c (by omega) hj]
  rfl
theorem c_scene_out {h : qH} {a : Nat} {m : MB} (c : CB h a m) {x : Int32} (hx : nOut x (mbL m)) : F_X0_sceneOf h a x = some (-1) := by
  unfold F_X0_sceneOf
  rw [c.ob, Option.bind_some, c_has_out c hx, Option.bind_some, if_pos rfl]
