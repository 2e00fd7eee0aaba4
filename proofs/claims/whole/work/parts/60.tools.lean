/-! ===== tools: loops, objects with rows of numbers ===== -/
theorem q_lp_stop {σ ρ : Type} {step : σ → Option (σ ⊕ ρ)} {n : Nat} {s : σ} {r : ρ} (hs : step s = some (.inr r)) : q_lp step (n + 1) s = some r := by
  unfold q_lp
  rw [hs]
theorem q_lp_go {σ ρ : Type} {step : σ → Option (σ ⊕ ρ)} {n : Nat} {s s' : σ} (hs : step s = some (.inl s')) : q_lp step (n + 1) s = q_lp step n s' := by
  show (match step s with | none => none | some (.inl s1) => q_lp step n s1 | some (.inr r) => some r) = _
  rw [hs]
/-- a loop whose states are f 0, f 1 .. f N, and that ends there -/
theorem q_lp_for {σ ρ : Type} {step : σ → Option (σ ⊕ ρ)} (f : Nat → σ) (N : Nat) {r : ρ} (hs : ∀ i, i < N → step (f i) = some (.inl (f (i + 1)))) (he : step (f N) = some (.inr r)) : ∀ n, N < n → q_lp step n (f 0) = some r := by
  have key : ∀ k n, k ≤ N → N - k < n → q_lp step n (f k) = some r := by
    intro k n
    induction n generalizing k with
    | zero => intro _ h; omega
    | succ n ih =>
      intro hk hn
      rcases Nat.lt_or_ge k N with h | h
      · rw [q_lp_go (hs k h)]
        exact ih (k + 1) (by omega) (by omega)
      · have : k = N := by omega
        subst this
        exact q_lp_stop he
  exact fun n hn => key 0 n (Nat.zero_le _) (by omega)
/-- a loop by an invariant and a measure -/
theorem q_lp_inv {σ ρ : Type} {step : σ → Option (σ ⊕ ρ)} (P : σ → Prop) (μ : σ → Nat) (Q : ρ → Prop) (hs : ∀ s, P s → (∃ s', step s = some (.inl s') ∧ P s' ∧ μ s' < μ s) ∨ ∃ r, step s = some (.inr r) ∧ Q r) : ∀ n s, P s → μ s < n → ∃ r, q_lp step n s = some r ∧ Q r := by
  intro n
  induction n with
  | zero => intro s _ h; omega
  | succ n ih =>
    intro s hP hn
    rcases hs s hP with ⟨s', h1, h2, h3⟩ | ⟨r, h1, h2⟩
    · rw [q_lp_go h1]
      exact ih s' h2 (by omega)
    · exact ⟨r, q_lp_stop h1, h2⟩
theorem q_lt_N {n : Nat} (h : n < 1000000) : n < q_N := h
/-- an object: first its rows of ints, that lie behind it in their order, then its ints -/
def Ob (h : qH) (a ci : Nat) (lens : List Nat) (A : Nat → Nat → Int32) (I : List Int32) : Prop :=
  h a = some (.inr (.inl (ci, (List.range lens.length).map (fun k => .ref (a + 1 + k)) ++ I.map .int))) ∧ ∀ k n, lens[k]? = some n → h (a + 1 + k) = some (.inl (.int, n, .inl (A k)))
theorem Ob.ob {h : qH} {a ci : Nat} {lens : List Nat} {A : Nat → Nat → Int32} {I : List Int32} (o : Ob h a ci lens A I) : q_ob h a ci = some () := by
  simp [q_ob, o.1]
theorem Ob.fR {h : qH} {a ci : Nat} {lens : List Nat} {A : Nat → Nat → Int32} {I : List Int32} (o : Ob h a ci lens A I) {k : Nat} (hk : k < lens.length) : q_fR h a ci k = some (a + 1 + k) := by
  simp [q_fR, o.1, List.getElem?_append_left, hk]
theorem Ob.fI {h : qH} {a ci : Nat} {lens : List Nat} {A : Nat → Nat → Int32} {I : List Int32} (o : Ob h a ci lens A I) {k j : Nat} {x : Int32} (hk : k = lens.length + j) (hj : I[j]? = some x) : q_fI h a ci k = some x := by
  subst hk
  simp [q_fI, o.1, List.getElem?_append_right, hj]
theorem Ob.aI {h : qH} {a ci : Nat} {lens : List Nat} {A : Nat → Nat → Int32} {I : List Int32} (o : Ob h a ci lens A I) {k n : Nat} {i : Int32} (hk : lens[k]? = some n) (h0 : 0 ≤ i) (h1 : i.toNatClampNeg < n) : q_aI h .int (a + 1 + k) i = some (A k i.toNatClampNeg) := by
  simp [q_aI, o.2 k n hk, h0, h1]
/-- outside lo .. hi nothing has changed -/
def Fr (h h' : qH) (lo hi : Nat) : Prop := ∀ q, (q < lo ∨ hi ≤ q) → h' q = h q
theorem Fr.rf {h : qH} {lo hi : Nat} : Fr h h lo hi := fun _ _ => rfl
theorem Fr.tr {h h1 h2 : qH} {lo hi : Nat} (a : Fr h h1 lo hi) (b : Fr h1 h2 lo hi) : Fr h h2 lo hi := fun q hq => (b q hq).trans (a q hq)
theorem Fr.wd {h h1 : qH} {lo hi lo' hi' : Nat} (a : Fr h h1 lo hi) (h1' : lo' ≤ lo) (h2' : hi ≤ hi') : Fr h h1 lo' hi' := fun q hq => a q (by omega)
theorem Ob.kept {h h' : qH} {a ci : Nat} {lens : List Nat} {A : Nat → Nat → Int32} {I : List Int32} (o : Ob h a ci lens A I) (hk : ∀ q, a ≤ q → q < a + 1 + lens.length → h' q = h q) : Ob h' a ci lens A I := by
  refine ⟨by rw [hk a (Nat.le_refl _) (by omega)]; exact o.1, fun k n hn => ?_⟩
  have hl : k < lens.length := (List.getElem?_eq_some_iff.mp hn).1
  rw [hk (a + 1 + k) (by omega) (by omega)]
  exact o.2 k n hn
/-- rows of contents, one of them changed -/
def upA (A : Nat → Nat → Int32) (k : Nat) (f : Nat → Int32) : Nat → Nat → Int32 := fun j => if j = k then f else A j
theorem upA_self (A : Nat → Nat → Int32) (k : Nat) (f : Nat → Int32) : upA A k f k = f := by simp [upA]
theorem upA_ne (A : Nat → Nat → Int32) {k j : Nat} (f : Nat → Int32) (h : j ≠ k) : upA A k f j = A j := by simp [upA, h]
theorem Ob.row {h : qH} {a ci : Nat} {lens : List Nat} {A : Nat → Nat → Int32} {I : List Int32} (o : Ob h a ci lens A I) {k n : Nat} (hk : lens[k]? = some n) (f : Nat → Int32) : Ob (va_up h (a + 1 + k) (some (.inl (.int, n, .inl f)))) a ci lens (upA A k f) I := by
  refine ⟨by rw [va_up_ne _ _ (by omega)]; exact o.1, fun j m hm => ?_⟩
  by_cases hj : j = k
  · subst hj
    rw [hk] at hm
    cases hm
    rw [va_up_self, upA_self]
  · rw [va_up_ne _ _ (by omega), upA_ne _ _ hj]
    exact o.2 j m hm
theorem Ob.sI {h : qH} {a ci : Nat} {lens : List Nat} {A : Nat → Nat → Int32} {I : List Int32} (o : Ob h a ci lens A I) {k n : Nat} {i x : Int32} (hk : lens[k]? = some n) (h0 : 0 ≤ i) (h1 : i.toNatClampNeg < n) : ∃ h', q_sI h .int (a + 1 + k) i x = some h' ∧ Ob h' a ci lens (upA A k (upd (A k) i.toNatClampNeg x)) I ∧ Fr h h' a (a + 1 + lens.length) := by
  refine ⟨_, by simp only [q_sI, o.2 k n hk, h0, h1, and_self, if_true]; rfl, o.row hk _, fun q hq => ?_⟩
  have hl : k < lens.length := (List.getElem?_eq_some_iff.mp hk).1
  exact va_up_ne _ _ (by omega)
theorem Ob.pI {h : qH} {a ci : Nat} {lens : List Nat} {A : Nat → Nat → Int32} {I : List Int32} (o : Ob h a ci lens A I) {k j : Nat} {x : Int32} (hk : k = lens.length + j) (hj : j < I.length) : ∃ h', q_put h a ci k (.int x) = some h' ∧ Ob h' a ci lens A (I.set j x) ∧ Fr h h' a (a + 1 + lens.length) := by
  subst hk
  refine ⟨_, by simp only [q_put, o.1, List.length_append, List.length_map, List.length_range, Nat.add_lt_add_iff_left, hj, and_self, if_true]; rfl, ⟨?_, fun k n hn => ?_⟩, fun q hq => va_up_ne _ _ (by omega)⟩
  · rw [va_up_self]
    simp [List.set_append, List.map_set]
  · rw [va_up_ne _ _ (by omega)]
    exact o.2 k n hn
