/-! ===== numbers: one pack of rules for simp ===== -/
def m1 : Int32 := -1
def m2 : Int32 := -2
theorem n_lit (n : Nat) : (OfNat.ofNat n : Int32) = nI n := rfl
theorem m1_toInt : m1.toInt = -1 := by decide
theorem m2_toInt : m2.toInt = -2 := by decide
theorem nm1_eq {a : Nat} (h : a < 2 ^ 31) : (nI a = m1) ↔ False := ⟨fun e => by have h1 := nI_toInt h; rw [e, m1_toInt] at h1; omega, False.elim⟩
theorem nm2_eq {a : Nat} (h : a < 2 ^ 31) : (nI a = m2) ↔ False := ⟨fun e => by have h1 := nI_toInt h; rw [e, m2_toInt] at h1; omega, False.elim⟩
theorem m1_eq {a : Nat} (h : a < 2 ^ 31) : (m1 = nI a) ↔ False := ⟨fun e => (nm1_eq h).mp e.symm, False.elim⟩
theorem m2_eq {a : Nat} (h : a < 2 ^ 31) : (m2 = nI a) ↔ False := ⟨fun e => (nm2_eq h).mp e.symm, False.elim⟩
theorem m1_lt {a : Nat} (h : a < 2 ^ 31) : (m1 < nI a) ↔ True := ⟨fun _ => trivial, fun _ => Int32.lt_iff_toInt_lt.mpr (by rw [m1_toInt, nI_toInt h]; omega)⟩
theorem m1_le {a : Nat} (h : a < 2 ^ 31) : (m1 ≤ nI a) ↔ True := ⟨fun _ => trivial, fun _ => Int32.le_iff_toInt_le.mpr (by rw [m1_toInt, nI_toInt h]; omega)⟩
theorem lt_m1 {a : Nat} (h : a < 2 ^ 31) : (nI a < m1) ↔ False := ⟨fun e => by have := Int32.lt_iff_toInt_lt.mp e; rw [m1_toInt, nI_toInt h] at this; omega, False.elim⟩
theorem le_m1 {a : Nat} (h : a < 2 ^ 31) : (nI a ≤ m1) ↔ False := ⟨fun e => by have := Int32.le_iff_toInt_le.mp e; rw [m1_toInt, nI_toInt h] at this; omega, False.elim⟩
theorem m2_lt {a : Nat} (h : a < 2 ^ 31) : (m2 < nI a) ↔ True := ⟨fun _ => trivial, fun _ => Int32.lt_iff_toInt_lt.mpr (by rw [m2_toInt, nI_toInt h]; omega)⟩
theorem m2_le {a : Nat} (h : a < 2 ^ 31) : (m2 ≤ nI a) ↔ True := ⟨fun _ => trivial, fun _ => Int32.le_iff_toInt_le.mpr (by rw [m2_toInt, nI_toInt h]; omega)⟩
theorem n_rem {a d : Nat} (ha : a < 2 ^ 31) (h0 : 0 < d) (hd : d < 2 ^ 31) : q_rem (nI a) (nI d) = nI (a % d) := pk_rem ha h0 hd
/-- the pack: literals, order, sums, products, differences, quotients -/
theorem nS : (∀ n : Nat, (OfNat.ofNat n : Int32) = nI n) ∧ (-nI 1 = m1) ∧ (-nI 2 = m2)
  ∧ (∀ a b : Nat, a < 2 ^ 31 → b < 2 ^ 31 → (nI a < nI b ↔ a < b)) ∧ (∀ a b : Nat, a < 2 ^ 31 → b < 2 ^ 31 → (nI a ≤ nI b ↔ a ≤ b)) ∧ (∀ a b : Nat, a < 2 ^ 31 → b < 2 ^ 31 → (nI a = nI b ↔ a = b))
  ∧ (∀ a b : Nat, nI a + nI b = nI (a + b)) ∧ (∀ a b : Nat, nI a * nI b = nI (a * b)) ∧ (∀ a b : Nat, b ≤ a → nI a - nI b = nI (a - b))
  ∧ (∀ a d : Nat, a < 2 ^ 31 → 0 < d → d < 2 ^ 31 → nI a / nI d = nI (a / d)) ∧ (∀ a d : Nat, a < 2 ^ 31 → 0 < d → d < 2 ^ 31 → q_rem (nI a) (nI d) = nI (a % d))
  ∧ (∀ a : Nat, a < 2 ^ 31 → (nI a = m1 ↔ False)) ∧ (∀ a : Nat, a < 2 ^ 31 → (nI a = m2 ↔ False)) ∧ (∀ a : Nat, a < 2 ^ 31 → (m1 = nI a ↔ False)) ∧ (∀ a : Nat, a < 2 ^ 31 → (m2 = nI a ↔ False))
  ∧ (∀ a : Nat, a < 2 ^ 31 → (m1 < nI a ↔ True)) ∧ (∀ a : Nat, a < 2 ^ 31 → (m1 ≤ nI a ↔ True)) ∧ (∀ a : Nat, a < 2 ^ 31 → (nI a < m1 ↔ False)) ∧ (∀ a : Nat, a < 2 ^ 31 → (nI a ≤ m1 ↔ False))
  ∧ (∀ a : Nat, a < 2 ^ 31 → (m2 < nI a ↔ True)) ∧ (∀ a : Nat, a < 2 ^ 31 → (m2 ≤ nI a ↔ True)) ∧ (m1 + nI 1 = nI 0) ∧ (nI 0 - nI 1 = m1) ∧ (m1 = m2 ↔ False) ∧ (m2 = m1 ↔ False) ∧ (m1 < m2 ↔ False) ∧ (m2 < m1 ↔ True)
  ∧ (∀ (α : Type) (c : Prop) [Decidable c] (t e : α), c → (if c then t else e) = t) ∧ (∀ (α : Type) (c : Prop) [Decidable c] (t e : α), ¬ c → (if c then t else e) = e) ∧ (∀ (α : Type) (t e : α), (if True then t else e) = t) ∧ (∀ (α : Type) (t e : α), (if False then t else e) = e)
  ∧ (∀ (α β : Type) (x : α) (f : α → Option β), (some x).bind f = f x) ∧ (q_z (nI 0) = some (nI 0)) ∧ (q_z (nI 1) = some (nI 1)) ∧ (∀ (α β : Type) (x : α) (A : β) (f : α → β), (some x).elim A f = f x) ∧ (∀ (α β : Type) (A : β) (f : α → β), (none : Option α).elim A f = A)
  ∧ (∀ (α β γ : Type) (x : α) (f : α → γ) (g : β → γ), Sum.elim f g (Sum.inl x) = f x) ∧ (∀ (α β γ : Type) (x : β) (f : α → γ) (g : β → γ), Sum.elim f g (Sum.inr x) = g x) :=
  ⟨fun _ => rfl, rfl, rfl, fun _ _ => nI_ltI, fun _ _ => nI_leI, fun _ _ => nI_eq, nI_add, pk_mul, fun _ _ => pk_sub, fun _ _ => pk_div, fun _ _ => n_rem, fun _ => nm1_eq, fun _ => nm2_eq, fun _ => m1_eq, fun _ => m2_eq, fun _ => m1_lt, fun _ => m1_le, fun _ => lt_m1, fun _ => le_m1, fun _ => m2_lt, fun _ => m2_le, by decide, by decide, by decide, by decide, by decide, by decide, fun _ _ _ _ _ h => if_pos h, fun _ _ _ _ _ h => if_neg h, fun _ _ _ => if_pos trivial, fun _ _ _ => if_neg id, fun _ _ _ _ => rfl, rfl, rfl, fun _ _ _ _ _ => rfl, fun _ _ _ _ => rfl, fun _ _ _ _ _ _ => rfl, fun _ _ _ _ _ _ => rfl⟩
/-- a number is below 0 or one of ours -/
theorem nSg (x : Int32) : x < nI 0 ∨ ∃ j, j < 2 ^ 31 ∧ x = nI j := by
  by_cases h : x < 0
  · exact Or.inl h
  · exact Or.inr (nI_of h)
theorem nSg3 (x : Int32) : x < m1 ∨ x = m1 ∨ ∃ j, j < 2 ^ 31 ∧ x = nI j := by
  rcases nSg x with h | h
  · by_cases h1 : x = m1
    · exact Or.inr (Or.inl h1)
    · refine Or.inl (Int32.lt_iff_toInt_lt.mpr ?_)
      have h2 := Int32.lt_iff_toInt_lt.mp h
      have h3 : x.toInt ≠ m1.toInt := fun e => h1 (Int32.toInt_inj.mp e)
      rw [m1_toInt] at *
      have : (nI 0).toInt = 0 := by decide
      omega
  · exact Or.inr (Or.inr h)
/-- what is said of a number below 0 -/
theorem gN {x : Int32} (hx : x < nI 0) : (∀ k, k < 2 ^ 31 → (x < nI k ↔ True)) ∧ (∀ k, k < 2 ^ 31 → (x ≤ nI k ↔ True)) ∧ (∀ k, k < 2 ^ 31 → (nI k ≤ x ↔ False)) ∧ (∀ k, k < 2 ^ 31 → (nI k < x ↔ False)) ∧ (∀ k, k < 2 ^ 31 → (x = nI k ↔ False)) ∧ (∀ k, k < 2 ^ 31 → (nI k = x ↔ False)) ∧ (m1 < x ↔ False) := by
  have h0 := Int32.lt_iff_toInt_lt.mp hx
  have e0 : (nI 0).toInt = 0 := by decide
  rw [e0] at h0
  refine ⟨fun k hk => iff_of_true (Int32.lt_iff_toInt_lt.mpr ?_) trivial, fun k hk => iff_of_true (Int32.le_iff_toInt_le.mpr ?_) trivial, fun k hk => iff_of_false (fun e => ?_) id, fun k hk => iff_of_false (fun e => ?_) id, fun k hk => iff_of_false (fun e => ?_) id, fun k hk => iff_of_false (fun e => ?_) id, iff_of_false (fun e => ?_) id⟩
  · rw [nI_toInt hk]; omega
  · rw [nI_toInt hk]; omega
  · have := Int32.le_iff_toInt_le.mp e; rw [nI_toInt hk] at this; omega
  · have := Int32.lt_iff_toInt_lt.mp e; rw [nI_toInt hk] at this; omega
  · rw [e, nI_toInt hk] at h0; omega
  · rw [← e, nI_toInt hk] at h0; omega
  · have := Int32.lt_iff_toInt_lt.mp e; rw [m1_toInt] at this; omega
/-- what is said of a number below -1 -/
theorem gN1 {x : Int32} (hx : x < m1) : x < nI 0 ∧ (x = m1 ↔ False) ∧ (m1 ≤ x ↔ False) ∧ (x < m1 ↔ True) := by
  have h0 := Int32.lt_iff_toInt_lt.mp hx
  have e0 : (nI 0).toInt = 0 := by decide
  rw [m1_toInt] at h0
  refine ⟨Int32.lt_iff_toInt_lt.mpr (by omega), iff_of_false (fun e => ?_) id, iff_of_false (fun e => ?_) id, iff_of_true hx trivial⟩
  · rw [e, m1_toInt] at h0; omega
  · have := Int32.le_iff_toInt_le.mp e; rw [m1_toInt] at this; omega
