/-! ===== numbers: one pack of rules for simp ===== -/
def m1 : Int32 := -1
def m2 : Int32 := -2
theorem n_lit (n : Nat) : (OfNat.ofNat n : Int32) = nI n := rfl
theorem m1_toInt : m1.toInt = -1 := by decide
theorem m2_toInt : m2.toInt = -2 := by decide
theorem nm1_eq {a : Nat} (h : a < 2 ^ 31) : (nI a = m1) ↔ False := ⟨fun e => by have h1 := nI_toInt h; rw [e, m1_toInt] at h1; omega, False.elim⟩
theorem nm2_eq {a : Nat} (h : a < 2 ^ 31) : (nI a = m2) ↔ False := ⟨fun e => by have h1 := nI_toInt h; rw [e, m2_toInt] at h1; omega, False.elim⟩
theorem m1_eq {a : Nat} (h : a < 2 ^ 31) : (m1 = nI a) ↔ False := ⟨fun e => (nm1_eq h).mp e.symm, False.elim⟩
theorem m2_eq {a : Nat} (h : a < 2 ^ 31) : (m2 = nI a) ↔ False := ⟨fun e => (nm2_eq h).mp e.symm, False.elim⟩
theorem m1_lt {a : Nat} (h : a < 2 ^ 31) : (m1 < nI a) ↔ True := ⟨fun _ => trivial, fun _ => Int32.lt_iff_toInt_lt.mpr (by rw [m1_toInt, nI_toInt h]; omega)⟩
theorem m1_le {a : Nat} (h : a < 2 ^ 31) : (m1 ≤ nI a) ↔ True := ⟨fun _ => trivial, fun _ => Int32.le_iff_toInt_le.mpr (by rw [m1_toInt, nI_toInt h]; omega)⟩
theorem lt_m1 {a : Nat} (h : a < 2 ^ 31) : (nI a < m1) ↔ False := ⟨fun e => by have := Int32.lt_iff_toInt_lt.mp e; rw [m1_toInt, nI_toInt h] at this; omega, False.elim⟩
theorem le_m1 {a : Nat} (h : a < 2 ^ 31) : (nI a ≤ m1) ↔ False := ⟨fun e => by have := Int32.le_iff_toInt_le.mp e; rw [m1_toInt, nI_toInt h] at this; omega, False.elim⟩
theorem m2_lt {a : Nat} (h : a < 2 ^ 31) : (m2 < nI a) ↔ True := ⟨fun _ => trivial, fun _ => Int32.lt_iff_toInt_lt.mpr (by rw [m2_toInt, nI_toInt h]; omega)⟩
theorem m2_le {a : Nat} (h : a < 2 ^ 31) : (m2 ≤ nI a) ↔ True := ⟨fun _ => trivial, fun _ => Int32.le_iff_toInt_le.mpr (by rw [m2_toInt, nI_toInt h]; omega)⟩
theorem n_rem {a d : Nat} (ha : a < 2 ^ 31) (h0 : 0 < d) (hd : d < 2 ^ 31) : q_rem (nI a) (nI d) = nI (a % d) := pk_rem ha h0 hd
/-- the pack: literals, order, sums, products, differences, quotients -/
theorem nS : (∀ n : Nat, (OfNat.ofNat n : Int32) = nI n) ∧ (-nI 1 = m1) ∧ (-nI 2 = m2)
  ∧ (∀ a b : Nat, a < 2 ^ 31 → b < 2 ^ 31 → (nI a < nI b ↔ a < b)) ∧ (∀ a b : Nat, a < 2 ^ 31 → b < 2 ^ 31 → (nI a ≤ nI b ↔ a ≤ b)) ∧ (∀ a b : Nat, a < 2 ^ 31 → b < 2 ^ 31 → (nI a = nI b ↔ a = b))
  ∧ (∀ a b : Nat, nI a + nI b = nI (a + b)) ∧ (∀ a b : Nat, nI a * nI b = nI (a * b)) ∧ (∀ a b : Nat, b ≤ a → nI a - nI b = nI (a - b))
  ∧ (∀ a d : Nat, a < 2 ^ 31 → 0 < d → d < 2 ^ 31 → nI a / nI d = nI (a / d)) ∧ (∀ a d : Nat, a < 2 ^ 31 → 0 < d → d < 2 ^ 31 → q_rem (nI a) (nI d) = nI (a % d))
  ∧ (∀ a : Nat, a < 2 ^ 31 → (nI a = m1 ↔ False)) ∧ (∀ a : Nat, a < 2 ^ 31 → (nI a = m2 ↔ False)) ∧ (∀ a : Nat, a < 2 ^ 31 → (m1 = nI a ↔ False)) ∧ (∀ a : Nat, a < 2 ^ 31 → (m2 = nI a ↔ False))
  ∧ (∀ a : Nat, a < 2 ^ 31 → (m1 < nI a ↔ True)) ∧ (∀ a : Nat, a < 2 ^ 31 → (m1 ≤ nI a ↔ True)) ∧ (∀ a : Nat, a < 2 ^ 31 → (nI a < m1 ↔ False)) ∧ (∀ a : Nat, a < 2 ^ 31 → (nI a ≤ m1 ↔ False))
  ∧ (∀ a : Nat, a < 2 ^ 31 → (m2 < nI a ↔ True)) ∧ (∀ a : Nat, a < 2 ^ 31 → (m2 ≤ nI a ↔ True)) ∧ (m1 + nI 1 = nI 0) ∧ (nI 0 - nI 1 = m1) ∧ (m1 = m2 ↔ False) ∧ (m2 = m1 ↔ False) ∧ (m1 < m2 ↔ False) ∧ (m2 < m1 ↔ True) :=
  ⟨fun _ => rfl, rfl, rfl, fun _ _ => nI_ltI, fun _ _ => nI_leI, fun _ _ => nI_eq, nI_add, pk_mul, fun _ _ => pk_sub, fun _ _ => pk_div, fun _ _ => n_rem, fun _ => nm1_eq, fun _ => nm2_eq, fun _ => m1_eq, fun _ => m2_eq, fun _ => m1_lt, fun _ => m1_le, fun _ => lt_m1, fun _ => le_m1, fun _ => m2_lt, fun _ => m2_le, by decide, by decide, by decide, by decide, by decide, by decide⟩
theorem n_try1 (i : Nat) (hi : i < 20) : (if (nI i * (20 : Int32) + 1 < (500 : Int32)) then (if nI i = (-1 : Int32) then none else some (nI i + 1)) else none) = some (nI (i + 1)) := by
  simp (disch := omega) only [nS]
  simp only [if_false, if_pos (show i * 20 + 1 < 500 by omega)]
