/-! ===== bits: sets of lines, people, houses ===== -/
theorem sm_ok : ∀ k, k < 32 → ((nI k &&& 31).toBitVec.smod 32).toNat = k := by decide +kernel
theorem b_shl {k : Nat} (hk : k < 31) : q_shl (nI 1) (nI k) = nI (2 ^ k) := by
  unfold q_shl
  have h2 : (2 : Nat) ^ k < 2 ^ 32 := Nat.pow_lt_pow_right (by omega) (by omega)
  rw [pk_shlN _ k (sm_ok k (by omega)) (by rw [Nat.one_mul]; exact h2), Nat.one_mul]
theorem p2_lt {k : Nat} (hk : k < 31) : 2 ^ k < 2 ^ 31 := Nat.pow_lt_pow_right (by omega) (by omega)
theorem nI_bv (a : Nat) : (nI a).toBitVec = BitVec.ofNat 32 a := rfl
theorem b_or {a b : Nat} (ha : a < 2 ^ 31) (hb : b < 2 ^ 31) : nI a ||| nI b = nI (a ||| b) := by
  apply Int32.toBitVec_inj.mp
  apply BitVec.eq_of_toNat_eq
  have := Nat.or_lt_two_pow ha hb
  rw [Int32.toBitVec_or, BitVec.toNat_or, nI_bv, nI_bv, nI_bv, BitVec.toNat_ofNat, BitVec.toNat_ofNat, BitVec.toNat_ofNat, Nat.mod_eq_of_lt (by omega), Nat.mod_eq_of_lt (by omega), Nat.mod_eq_of_lt (by omega)]
theorem b_and {a b : Nat} (ha : a < 2 ^ 31) (hb : b < 2 ^ 31) : nI a &&& nI b = nI (a &&& b) := by
  apply Int32.toBitVec_inj.mp
  apply BitVec.eq_of_toNat_eq
  have := Nat.and_lt_two_pow a hb
  rw [Int32.toBitVec_and, BitVec.toNat_and, nI_bv, nI_bv, nI_bv, BitVec.toNat_ofNat, BitVec.toNat_ofNat, BitVec.toNat_ofNat, Nat.mod_eq_of_lt (by omega), Nat.mod_eq_of_lt (by omega), Nat.mod_eq_of_lt (by omega)]
def tb (a k : Nat) : Nat := if a.testBit k then 1 else 0
theorem tb_le (a k : Nat) : tb a k < 2 := by unfold tb; split <;> omega
theorem b_shr {a k : Nat} (ha : a < 2 ^ 31) (hk : k < 32) : q_shr (nI a) (nI k) &&& nI 1 = nI (tb a k) := by
  unfold q_shr
  have h1 : a / 2 ^ k < 2 ^ 31 := Nat.lt_of_le_of_lt (Nat.div_le_self _ _) ha
  rw [pk_shrN ha _ k (sm_ok k hk), b_and h1 (by omega)]
  unfold tb
  rw [Nat.and_one_is_mod, Nat.testBit_eq_decide_div_mod_eq]
  congr 1
  have := Nat.mod_lt (a / 2 ^ k) (show 0 < 2 by omega)
  by_cases h : a / 2 ^ k % 2 = 1
  · simp [h]
  · simp [h]; omega
theorem b_has {h : qH} {a k : Nat} (ha : a < 2 ^ 31) (hk : k < 32) : F_X12_has h (nI a) (nI k) = some (nI (tb a k)) := by
  unfold F_X12_has
  rw [n_lit 1, n_lit 0, b_shr ha hk]
  have := tb_le a k
  by_cases h1 : tb a k = 1
  · rw [h1, if_pos rfl]
  · rw [if_neg (fun e => h1 ((nI_eq (by omega) (by omega)).mp e)), show tb a k = 0 by omega]
theorem tb_or (a b k : Nat) : tb (a ||| b) k = if tb a k = 1 ∨ tb b k = 1 then 1 else 0 := by
  unfold tb
  rw [Nat.testBit_or]
  cases a.testBit k <;> cases b.testBit k <;> simp
theorem tb_pow (k j : Nat) : tb (2 ^ k) j = if j = k then 1 else 0 := by
  unfold tb
  rw [Nat.testBit_two_pow]
  by_cases h : k = j
  · simp [h]
  · simp [h, Ne.symm h]
theorem tb_0 (k : Nat) : tb 0 k = 0 := by simp [tb]
theorem or_lt {a b n : Nat} (ha : a < 2 ^ n) (hb : b < 2 ^ n) : a ||| b < 2 ^ n := Nat.or_lt_two_pow ha hb
theorem orp_lt {a k n : Nat} (ha : a < 2 ^ n) (hk : k < n) : a ||| 2 ^ k < 2 ^ n := Nat.or_lt_two_pow ha (Nat.pow_lt_pow_right (by omega) hk)
theorem tb_ext {a b n : Nat} (ha : a < 2 ^ n) (hb : b < 2 ^ n) (h : ∀ k, k < n → tb a k = tb b k) : a = b := by
  apply Nat.eq_of_testBit_eq
  intro k
  rcases Nat.lt_or_ge k n with hk | hk
  · have := h k hk
    unfold tb at this
    cases e1 : a.testBit k <;> cases e2 : b.testBit k <;> simp_all
  · rw [Nat.testBit_lt_two_pow (Nat.lt_of_lt_of_le ha (Nat.pow_le_pow_right (by omega) hk)), Nat.testBit_lt_two_pow (Nat.lt_of_lt_of_le hb (Nat.pow_le_pow_right (by omega) hk))]
/-- the pack of bits -/
theorem bS : (∀ k, k < 31 → q_shl (nI 1) (nI k) = nI (2 ^ k)) ∧ (∀ a b, a < 2 ^ 31 → b < 2 ^ 31 → nI a ||| nI b = nI (a ||| b)) ∧ (∀ a b, a < 2 ^ 31 → b < 2 ^ 31 → nI a &&& nI b = nI (a &&& b)) ∧ (∀ a k, a < 2 ^ 31 → k < 32 → q_shr (nI a) (nI k) &&& nI 1 = nI (tb a k)) ∧ (∀ (h : qH) a k, a < 2 ^ 31 → k < 32 → F_X12_has h (nI a) (nI k) = some (nI (tb a k))) := ⟨fun _ => b_shl, fun _ _ => b_or, fun _ _ => b_and, fun _ _ => b_shr, fun _ _ _ => b_has⟩
/-! how many of the first n are not in a set -/
def cz (n a : Nat) : Nat := (List.range n).countP (fun i => !a.testBit i)
theorem cz_le (n a : Nat) : cz n a ≤ n := by
  have := List.countP_le_length (p := fun i => !a.testBit i) (l := List.range n)
  rw [List.length_range] at this
  exact this
theorem cz_succ (n a : Nat) : cz (n + 1) a = cz n a + (1 - tb a n) := by
  unfold cz tb
  rw [List.range_succ, List.countP_append]
  simp only [List.countP_cons, List.countP_nil, Nat.zero_add]
  cases a.testBit n <;> simp
theorem cz_out {n a l : Nat} (hl : n ≤ l) : cz n (a ||| 2 ^ l) = cz n a := by
  induction n with
  | zero => rfl
  | succ n ih =>
    rw [cz_succ, cz_succ, ih (by omega), tb_or, tb_pow, if_neg (show ¬ n = l by omega)]
    have := tb_le a n
    by_cases h : tb a n = 1
    · rw [if_pos (Or.inl h), h]
    · rw [if_neg (by omega), show tb a n = 0 by omega]
theorem cz_add {n a l : Nat} (hl : l < n) (h0 : tb a l = 0) : cz n (a ||| 2 ^ l) + 1 = cz n a := by
  induction n with
  | zero => omega
  | succ n ih =>
    rw [cz_succ, cz_succ]
    by_cases hn : l = n
    · subst hn
      rw [cz_out (Nat.le_refl _), tb_or, tb_pow, if_pos (Or.inr (by rw [if_pos rfl])), h0]
    · have := ih (by omega)
      rw [tb_or, tb_pow, if_neg (show ¬ n = l by omega)]
      have := tb_le a n
      by_cases h : tb a n = 1
      · rw [if_pos (Or.inl h), h]; omega
      · rw [if_neg (by omega), show tb a n = 0 by omega]; omega
theorem cz_0 {n a l : Nat} (h : cz n a = 0) (hl : l < n) : tb a l = 1 := by
  have := tb_le a l
  by_cases h1 : tb a l = 1
  · exact h1
  · have := cz_add hl (show tb a l = 0 by omega)
    omega
