/-! ===== tools: loops, objects with rows of numbers ===== -/
theorem q_lp_stop {σ ρ : Type} {step : σ → Option (σ ⊕ ρ)} {n : Nat} {s : σ} {r : ρ} (hs : step s = some (.inr r)) : q_lp step (n + 1) s = some r := by
  unfold q_lp
  rw [hs]
theorem q_lp_go {σ ρ : Type} {step : σ → Option (σ ⊕ ρ)} {n : Nat} {s s' : σ} (hs : step s = some (.inl s')) : q_lp step (n + 1) s = q_lp step n s' := by
  show (match step s with | none => none | some (.inl s1) => q_lp step n s1 | some (.inr r) => some r) = _
  rw [hs]
/-- a loop whose states are f 0, f 1 .. f N, and that ends there -/
theorem q_lp_for {σ ρ : Type} {step : σ → Option (σ ⊕ ρ)} (f : Nat → σ) (N : Nat) {r : ρ} (hs : ∀ i, i < N → step (f i) = some (.inl (f (i + 1)))) (he : step (f N) = some (.inr r)) : ∀ n, N < n → q_lp step n (f 0) = some r := by
  have key : ∀ k n, k ≤ N → N - k < n → q_lp step n (f k) = some r := by
    intro k n
    induction n generalizing k with
    | zero => intro _ h; omega
    | succ n ih =>
      intro hk hn
      rcases Nat.lt_or_ge k N with h | h
      · rw [q_lp_go (hs k h)]
        exact ih (k + 1) (by omega) (by omega)
      · have : k = N := by omega
        subst this
        exact q_lp_stop he
  exact fun n hn => key 0 n (Nat.zero_le _) (by omega)
/-- a loop by an invariant and a measure -/
theorem q_lp_inv {σ ρ : Type} {step : σ → Option (σ ⊕ ρ)} (P : σ → Prop) (μ : σ → Nat) (Q : ρ → Prop) (hs : ∀ s, P s → (∃ s', step s = some (.inl s') ∧ P s' ∧ μ s' < μ s) ∨ ∃ r, step s = some (.inr r) ∧ Q r) : ∀ n s, P s → μ s < n → ∃ r, q_lp step n s = some r ∧ Q r := by
  intro n
  induction n with
  | zero => intro s _ h; omega
  | succ n ih =>
    intro s hP hn
    rcases hs s hP with ⟨s', h1, h2, h3⟩ | ⟨r, h1, h2⟩
    · rw [q_lp_go h1]
      exact ih s' h2 (by omega)
    · exact ⟨r, q_lp_stop h1, h2⟩
theorem q_lt_N {n : Nat} (h : n < 1000000) : n < q_N := h
/-- outside lo .. hi nothing has changed -/
def Fr (h h' : qH) (lo hi : Nat) : Prop := ∀ q, (q < lo ∨ hi ≤ q) → h' q = h q
theorem Fr.rf {h : qH} {lo hi : Nat} : Fr h h lo hi := fun _ _ => rfl
theorem Fr.tr {h h1 h2 : qH} {lo hi : Nat} (a : Fr h h1 lo hi) (b : Fr h1 h2 lo hi) : Fr h h2 lo hi := fun q hq => (b q hq).trans (a q hq)
theorem Fr.wd {h h1 : qH} {lo hi lo' hi' : Nat} (a : Fr h h1 lo hi) (h1' : lo' ≤ lo) (h2' : hi ≤ hi') : Fr h h1 lo' hi' := fun q hq => a q (by omega)
/-! an object by the layout of its fields: 0 an int, 2 a long, 1 a row of ints, 3 of longs, 4 of bytes, 5 of booleans (with its length); the rows lie behind it in the fields' order -/
def isRow (kd : Nat) : Bool := kd != 0 && kd != 2
def rk (lay : List (Nat × Nat)) (k : Nat) : Nat := ((lay.take k).filter (fun q => isRow q.1)).length
def obF (lay : List (Nat × Nat)) (a : Nat) (I : Nat → Int32) (J : Nat → Int64) (k : Nat) : Value := match (lay.getD k (9, 0)).1 with
  | 0 => .int (I k)
  | 2 => .long (J k)
  | _ => .ref (a + 1 + rk lay k)
def obC (A : Nat → Nat → Int32) (B : Nat → Nat → Int64) (kd n k : Nat) : FieldType × vp_A := match kd with
  | 1 => (.int, n, .inl (A k))
  | 4 => (.byte, n, .inl (A k))
  | 5 => (.boolean, n, .inl (A k))
  | _ => (.long, n, .inr (.inl (B k)))
def OB (h : qH) (a ci : Nat) (lay : List (Nat × Nat)) (A : Nat → Nat → Int32) (B : Nat → Nat → Int64) (I : Nat → Int32) (J : Nat → Int64) : Prop :=
  h a = some (.inr (.inl (ci, (List.range lay.length).map (obF lay a I J)))) ∧ ∀ k kd n, lay[k]? = some (kd, n) → isRow kd = true → h (a + 1 + rk lay k) = some (.inl (obC A B kd n k))
theorem rk_mono (lay : List (Nat × Nat)) {k k' : Nat} (h : k ≤ k') : rk lay k ≤ rk lay k' := by
  unfold rk
  have : lay.take k = (lay.take k').take k := by rw [List.take_take, Nat.min_eq_left h]
  rw [this]
  exact (List.Sublist.filter _ (List.take_sublist _ _)).length_le
theorem rk_succ (lay : List (Nat × Nat)) {k : Nat} {q : Nat × Nat} (hk : lay[k]? = some q) (hr : isRow q.1 = true) : rk lay (k + 1) = rk lay k + 1 := by
  unfold rk
  have hl : k < lay.length := (List.getElem?_eq_some_iff.mp hk).1
  have he : lay[k] = q := (List.getElem?_eq_some_iff.mp hk).2
  rw [List.take_succ_eq_append_getElem hl, List.filter_append, List.length_append, he]
  simp [hr]
theorem rk_lt (lay : List (Nat × Nat)) {k k' : Nat} {q : Nat × Nat} (hk : lay[k]? = some q) (hr : isRow q.1 = true) (h : k < k') : rk lay k < rk lay k' := by
  have h1 := rk_succ lay hk hr
  have h2 := rk_mono lay (show k + 1 ≤ k' from h)
  omega
theorem rk_ne (lay : List (Nat × Nat)) {k k' : Nat} {q q' : Nat × Nat} (hk : lay[k]? = some q) (hr : isRow q.1 = true) (hk' : lay[k']? = some q') (hr' : isRow q'.1 = true) (h : k ≠ k') : rk lay k ≠ rk lay k' := by
  rcases Nat.lt_or_gt_of_ne h with h | h
  · have := rk_lt lay hk hr h; omega
  · have := rk_lt lay hk' hr' h; omega
/-- how many cells an object and its rows are -/
def obZ (lay : List (Nat × Nat)) : Nat := 1 + rk lay lay.length
theorem rk_in (lay : List (Nat × Nat)) {k : Nat} {q : Nat × Nat} (hk : lay[k]? = some q) (hr : isRow q.1 = true) : 1 + rk lay k < obZ lay := by
  have hl : k < lay.length := (List.getElem?_eq_some_iff.mp hk).1
  have := rk_lt lay hk hr hl
  unfold obZ
  omega
theorem obF_at {lay : List (Nat × Nat)} {a : Nat} {I : Nat → Int32} {J : Nat → Int64} {k : Nat} (hk : k < lay.length) : ((List.range lay.length).map (obF lay a I J))[k]? = some (obF lay a I J k) := by
  simp [hk]
section OBS
variable {h : qH} {a ci : Nat} {lay : List (Nat × Nat)} {A : Nat → Nat → Int32} {B : Nat → Nat → Int64} {I : Nat → Int32} {J : Nat → Int64} {k n : Nat}
theorem OB.ob (o : OB h a ci lay A B I J) : q_ob h a ci = some () := by
  simp [q_ob, o.1]
theorem lay_D {q : Nat × Nat} (hk : lay[k]? = some q) : lay.getD k (9, 0) = q := by
  simp [List.getD_eq_getElem?_getD, hk]
theorem OB.fI (o : OB h a ci lay A B I J) (hk : lay[k]? = some (0, n)) : q_fI h a ci k = some (I k) := by
  have hl : k < lay.length := (List.getElem?_eq_some_iff.mp hk).1
  have e : obF lay a I J k = .int (I k) := by unfold obF; rw [lay_D hk]; rfl
  simp only [q_fI, o.1, if_true, obF_at hl, e]
theorem OB.fL (o : OB h a ci lay A B I J) (hk : lay[k]? = some (2, n)) : q_fL h a ci k = some (J k) := by
  have hl : k < lay.length := (List.getElem?_eq_some_iff.mp hk).1
  have e : obF lay a I J k = .long (J k) := by unfold obF; rw [lay_D hk]; rfl
  simp only [q_fL, o.1, if_true, obF_at hl, e]
theorem OB.fR {kd : Nat} (o : OB h a ci lay A B I J) (hk : lay[k]? = some (kd, n)) (hr : isRow kd = true) : q_fR h a ci k = some (a + 1 + rk lay k) := by
  have hl : k < lay.length := (List.getElem?_eq_some_iff.mp hk).1
  have e : obF lay a I J k = .ref (a + 1 + rk lay k) := by
    unfold obF
    rw [lay_D hk]
    dsimp only
    split
    · simp [isRow] at hr
    · simp [isRow] at hr
    · rfl
  simp only [q_fR, o.1, if_true, obF_at hl, e]
theorem OB.aI (o : OB h a ci lay A B I J) {i : Int32} (hk : lay[k]? = some (1, n)) (h0 : 0 ≤ i) (h1 : i.toNatClampNeg < n) : q_aI h .int (a + 1 + rk lay k) i = some (A k i.toNatClampNeg) := by
  simp [q_aI, o.2 k 1 n hk rfl, obC, h0, h1]
theorem OB.aB (o : OB h a ci lay A B I J) {i : Int32} (hk : lay[k]? = some (4, n)) (h0 : 0 ≤ i) (h1 : i.toNatClampNeg < n) : q_aI h .byte (a + 1 + rk lay k) i = some (A k i.toNatClampNeg) := by
  simp [q_aI, o.2 k 4 n hk rfl, obC, h0, h1]
theorem OB.aZ (o : OB h a ci lay A B I J) {i : Int32} (hk : lay[k]? = some (5, n)) (h0 : 0 ≤ i) (h1 : i.toNatClampNeg < n) : q_aI h .boolean (a + 1 + rk lay k) i = some (A k i.toNatClampNeg) := by
  simp [q_aI, o.2 k 5 n hk rfl, obC, h0, h1]
theorem OB.aL (o : OB h a ci lay A B I J) {i : Int32} (hk : lay[k]? = some (3, n)) (h0 : 0 ≤ i) (h1 : i.toNatClampNeg < n) : q_aL h (a + 1 + rk lay k) i = some (B k i.toNatClampNeg) := by
  simp [q_aL, o.2 k 3 n hk rfl, obC, h0, h1]
theorem OB.len {kd : Nat} (o : OB h a ci lay A B I J) (hk : lay[k]? = some (kd, n)) (hr : isRow kd = true) : q_len h (a + 1 + rk lay k) = some (Int32.ofNat n) := by
  have e : ∃ t A', obC A B kd n k = (t, n, A') := by
    unfold obC
    split <;> exact ⟨_, _, rfl⟩
  obtain ⟨t, A', e⟩ := e
  unfold q_len
  rw [o.2 k kd n hk hr, e]
theorem OB.kept {h' : qH} (o : OB h a ci lay A B I J) (hk : ∀ q, a ≤ q → q < a + obZ lay → h' q = h q) : OB h' a ci lay A B I J := by
  have hz : 0 < obZ lay := by unfold obZ; omega
  refine ⟨by rw [hk a (Nat.le_refl _) (by omega)]; exact o.1, fun k kd n hn hr => ?_⟩
  have := rk_in lay hn hr
  rw [hk _ (by omega) (by omega)]
  exact o.2 k kd n hn hr
end OBS
/-- one of a family of rows is changed -/
def upF {α : Type} (A : Nat → Nat → α) (k : Nat) (f : Nat → α) : Nat → Nat → α := fun j => if j = k then f else A j
theorem upF_self {α : Type} (A : Nat → Nat → α) (k : Nat) (f : Nat → α) : upF A k f k = f := by simp [upF]
theorem upF_ne {α : Type} (A : Nat → Nat → α) {k j : Nat} (f : Nat → α) (h : j ≠ k) : upF A k f j = A j := by simp [upF, h]
section OBW
variable {h : qH} {a ci : Nat} {lay : List (Nat × Nat)} {A : Nat → Nat → Int32} {B : Nat → Nat → Int64} {I : Nat → Int32} {J : Nat → Int64} {k n : Nat}
theorem obC_A {A A' : Nat → Nat → Int32} {B B' : Nat → Nat → Int64} {kd n k : Nat} (h1 : A k = A' k) (h2 : B k = B' k) : obC A B kd n k = obC A' B' kd n k := by
  unfold obC
  split <;> simp [h1, h2]
theorem OB.row (o : OB h a ci lay A B I J) {kd : Nat} (hk : lay[k]? = some (kd, n)) (hr : isRow kd = true) {A' : Nat → Nat → Int32} {B' : Nat → Nat → Int64} (hA : ∀ j, j ≠ k → A' j = A j) (hB : ∀ j, j ≠ k → B' j = B j) : OB (va_up h (a + 1 + rk lay k) (some (.inl (obC A' B' kd n k)))) a ci lay A' B' I J := by
  refine ⟨by rw [va_up_ne _ _ (by omega)]; exact o.1, fun j kd' m hm hr' => ?_⟩
  by_cases hj : j = k
  · subst hj
    rw [hk] at hm
    cases hm
    rw [va_up_self]
  · have := rk_ne lay hm hr' hk hr hj
    rw [va_up_ne _ _ (by omega), o.2 j kd' m hm hr', obC_A (hA j hj).symm (hB j hj).symm]
theorem OB.frm {kd : Nat} {c : qC} (hk : lay[k]? = some (kd, n)) (hr : isRow kd = true) : Fr h (va_up h (a + 1 + rk lay k) (some c)) a (a + obZ lay) := by
  intro q hq
  have := rk_in lay hk hr
  exact va_up_ne _ _ (by omega)
theorem OB.sI (o : OB h a ci lay A B I J) {i x : Int32} (hk : lay[k]? = some (1, n)) (h0 : 0 ≤ i) (h1 : i.toNatClampNeg < n) : ∃ h', q_sI h .int (a + 1 + rk lay k) i x = some h' ∧ OB h' a ci lay (upF A k (upd (A k) i.toNatClampNeg x)) B I J ∧ Fr h h' a (a + obZ lay) := by
  refine ⟨_, ?_, o.row hk rfl (fun j hj => upF_ne _ _ hj) (fun j _ => rfl), OB.frm hk rfl⟩
  simp [q_sI, o.2 k 1 n hk rfl, obC, h0, h1, upF_self, q_nar]
theorem OB.sB (o : OB h a ci lay A B I J) {i x : Int32} (hk : lay[k]? = some (4, n)) (h0 : 0 ≤ i) (h1 : i.toNatClampNeg < n) : ∃ h', q_sI h .byte (a + 1 + rk lay k) i x = some h' ∧ OB h' a ci lay (upF A k (upd (A k) i.toNatClampNeg (vp_nar .byte x))) B I J ∧ Fr h h' a (a + obZ lay) := by
  refine ⟨_, ?_, o.row hk rfl (fun j hj => upF_ne _ _ hj) (fun j _ => rfl), OB.frm hk rfl⟩
  simp [q_sI, o.2 k 4 n hk rfl, obC, h0, h1, upF_self, q_nar]
theorem OB.sZ (o : OB h a ci lay A B I J) {i x : Int32} (hk : lay[k]? = some (5, n)) (h0 : 0 ≤ i) (h1 : i.toNatClampNeg < n) : ∃ h', q_sI h .boolean (a + 1 + rk lay k) i x = some h' ∧ OB h' a ci lay (upF A k (upd (A k) i.toNatClampNeg (vp_nar .boolean x))) B I J ∧ Fr h h' a (a + obZ lay) := by
  refine ⟨_, ?_, o.row hk rfl (fun j hj => upF_ne _ _ hj) (fun j _ => rfl), OB.frm hk rfl⟩
  simp [q_sI, o.2 k 5 n hk rfl, obC, h0, h1, upF_self, q_nar]
theorem OB.sL (o : OB h a ci lay A B I J) {i : Int32} {x : Int64} (hk : lay[k]? = some (3, n)) (h0 : 0 ≤ i) (h1 : i.toNatClampNeg < n) : ∃ h', q_sL h (a + 1 + rk lay k) i x = some h' ∧ OB h' a ci lay A (upF B k (vp_updL (B k) i.toNatClampNeg x)) I J ∧ Fr h h' a (a + obZ lay) := by
  refine ⟨_, ?_, o.row hk rfl (fun j _ => rfl) (fun j hj => upF_ne _ _ hj), OB.frm hk rfl⟩
  simp [q_sL, o.2 k 3 n hk rfl, obC, h0, h1, upF_self]
theorem obF_I {x : Int32} (hk : lay[k]? = some (0, n)) : ((List.range lay.length).map (obF lay a I J)).set k (.int x) = (List.range lay.length).map (obF lay a (upd I k x) J) := by
  apply List.ext_getElem?
  intro j
  rw [List.getElem?_set]
  by_cases hj : j < lay.length
  · by_cases hjk : k = j
    · subst hjk
      have e : obF lay a (upd I k x) J k = .int x := by unfold obF; rw [lay_D hk]; simp [upd]
      simp [hj, e]
    · have e : obF lay a (upd I k x) J j = obF lay a I J j := by unfold obF; simp [upd, Ne.symm hjk]
      simp [hjk, hj, e]
  · have hk' : ¬ k = j := fun e => hj (e ▸ (List.getElem?_eq_some_iff.mp hk).1)
    simp [hj, hk']
theorem obF_J {x : Int64} (hk : lay[k]? = some (2, n)) : ((List.range lay.length).map (obF lay a I J)).set k (.long x) = (List.range lay.length).map (obF lay a I (vp_updL J k x)) := by
  apply List.ext_getElem?
  intro j
  rw [List.getElem?_set]
  by_cases hj : j < lay.length
  · by_cases hjk : k = j
    · subst hjk
      have e : obF lay a I (vp_updL J k x) k = .long x := by unfold obF; rw [lay_D hk]; simp [vp_updL]
      simp [hj, e]
    · have e : obF lay a I (vp_updL J k x) j = obF lay a I J j := by unfold obF; simp [vp_updL, Ne.symm hjk]
      simp [hjk, hj, e]
  · have hk' : ¬ k = j := fun e => hj (e ▸ (List.getElem?_eq_some_iff.mp hk).1)
    simp [hj, hk']
theorem OB.pI (o : OB h a ci lay A B I J) {x : Int32} (hk : lay[k]? = some (0, n)) : ∃ h', q_put h a ci k (.int x) = some h' ∧ OB h' a ci lay A B (upd I k x) J ∧ Fr h h' a (a + obZ lay) := by
  have hl : k < lay.length := (List.getElem?_eq_some_iff.mp hk).1
  have hz : 0 < obZ lay := by unfold obZ; omega
  refine ⟨_, by simp only [q_put, o.1, List.length_map, List.length_range, hl, and_self, if_true]; rfl, ⟨?_, fun j kd m hm hr => ?_⟩, fun q hq => va_up_ne _ _ (by omega)⟩
  · rw [va_up_self, obF_I hk]
  · rw [va_up_ne _ _ (by omega)]
    exact o.2 j kd m hm hr
theorem OB.pJ (o : OB h a ci lay A B I J) {x : Int64} (hk : lay[k]? = some (2, n)) : ∃ h', q_put h a ci k (.long x) = some h' ∧ OB h' a ci lay A B I (vp_updL J k x) ∧ Fr h h' a (a + obZ lay) := by
  have hl : k < lay.length := (List.getElem?_eq_some_iff.mp hk).1
  have hz : 0 < obZ lay := by unfold obZ; omega
  refine ⟨_, by simp only [q_put, o.1, List.length_map, List.length_range, hl, and_self, if_true]; rfl, ⟨?_, fun j kd m hm hr => ?_⟩, fun q hq => va_up_ne _ _ (by omega)⟩
  · rw [va_up_self, obF_J hk]
  · rw [va_up_ne _ _ (by omega)]
    exact o.2 j kd m hm hr
end OBW
