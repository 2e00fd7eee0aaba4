/-! ===== longs; fractions ===== -/
def lM1 : Int64 := -1
def lM2 : Int64 := -2
theorem l_nz {a : Nat} (h0 : 0 < a) (ha : a < 2 ^ 63) : q_lnz (lN a) = some () := by
  unfold q_lnz
  rw [if_neg]
  intro e
  have := (pk_lEQ ha (by omega)).mp (show lN a = lN 0 from e)
  omega
theorem l_rem {a b : Nat} (ha : a < 2 ^ 63) (h0 : 0 < b) (hb : b < 2 ^ 63) : q_lrem (lN a) (lN b) = lN (a % b) := pk_lRem ha h0 hb
/-- the pack of longs -/
theorem lS : (∀ n : Nat, (OfNat.ofNat n : Int64) = lN n) ∧ (-lN 1 = lM1) ∧ (-lN 2 = lM2) ∧ (∀ a b : Nat, lN a + lN b = lN (a + b)) ∧ (∀ a b : Nat, lN a * lN b = lN (a * b))
  ∧ (∀ x y : Int64, lg_cmp x y = nI 0 ↔ x = y) ∧ (∀ x y : Int64, lg_cmp x y < nI 0 ↔ x < y) ∧ (∀ x y : Int64, lg_cmp x y ≤ nI 0 ↔ x ≤ y) ∧ (∀ x y : Int64, nI 0 < lg_cmp x y ↔ y < x) ∧ (∀ x y : Int64, nI 0 ≤ lg_cmp x y ↔ y ≤ x)
  ∧ (∀ a b : Nat, a < 2 ^ 63 → b < 2 ^ 63 → (lN a < lN b ↔ a < b)) ∧ (∀ a b : Nat, a < 2 ^ 63 → b < 2 ^ 63 → (lN a ≤ lN b ↔ a ≤ b)) ∧ (∀ a b : Nat, a < 2 ^ 63 → b < 2 ^ 63 → (lN a = lN b ↔ a = b))
  ∧ (∀ a b : Nat, a < 2 ^ 63 → 0 < b → b < 2 ^ 63 → lN a / lN b = lN (a / b)) ∧ (∀ a b : Nat, a < 2 ^ 63 → 0 < b → b < 2 ^ 63 → q_lrem (lN a) (lN b) = lN (a % b)) ∧ (∀ a : Nat, 0 < a → a < 2 ^ 63 → q_lnz (lN a) = some ()) ∧ (∀ n : Nat, n < 2 ^ 31 → (nI n).toInt64 = lN n) ∧ (m1.toInt64 = lM1) ∧ (m2.toInt64 = lM2) :=
  ⟨fun _ => rfl, rfl, rfl, lN_add, lN_mul, lg_cmp_eq, lg_cmp_lt, lg_cmp_le, lg_cmp_gt, lg_cmp_ge, fun _ _ => pk_lLT, fun _ _ => pk_lLE, fun _ _ => pk_lEQ, fun _ _ => pk_lDiv, fun _ _ => l_rem, fun _ => l_nz, fun _ => nI_l, by decide, by decide⟩
/-- Euclid's steps: as many as 2 k if the second number has k bits -/
theorem eu_half {r y : Nat} (h : 0 < r) (hy : r < y) : y % r < (y + 1) / 2 := by
  have h1 := Nat.mod_lt y h
  have h2 := Nat.mod_add_div y r
  have h3 : 0 < y / r := Nat.div_pos (by omega) h
  have h4 : r ≤ r * (y / r) := Nat.le_mul_of_pos_right r h3
  omega
/-- the class's Euclid, bounded by 100 -/
theorem c_gcd {h : qH} {a : Nat} {p q : Int64} : ∀ k x y i N, y < 2 ^ k → x < 2 ^ 63 → k ≤ 60 → i + 2 * k ≤ 99 → 2 * k + 1 < N → q_lp (s_X5_reduce_9 h a p q) N (lN x, lN y, nI i) = some (lN (Nat.gcd x y)) := by
  intro k
  induction k with
  | zero =>
    intro x y i N hy hx hk hi hN
    obtain ⟨N, rfl⟩ : ∃ N', N = N' + 1 := ⟨N - 1, by omega⟩
    have : y = 0 := by simpa using hy
    subst this
    refine q_lp_stop ?_
    simp (disch := omega) only [s_X5_reduce_9, b_X5_reduce_9, nS, lS, Nat.gcd_zero_right]
  | succ k ih =>
    intro x y i N hy hx hk hi hN
    have hp : 2 ^ (k + 1) ≤ 2 ^ 61 := Nat.pow_le_pow_right (by omega) (by omega)
    have hp2 : 2 ^ (k + 1) = 2 * 2 ^ k := by rw [Nat.pow_succ, Nat.mul_comm]
    obtain ⟨N, rfl⟩ : ∃ N', N = N' + 1 := ⟨N - 1, by omega⟩
    rcases Nat.eq_zero_or_pos y with h0 | h0
    · subst h0
      refine q_lp_stop ?_
      simp (disch := omega) only [s_X5_reduce_9, b_X5_reduce_9, nS, lS, Nat.gcd_zero_right]
    · have hr := Nat.mod_lt x h0
      have g1 : Nat.gcd x y = Nat.gcd y (x % y) := by rw [Nat.gcd_comm x y, Nat.gcd_rec, Nat.gcd_comm]
      rw [q_lp_go (s' := (lN y, lN (x % y), nI (i + 1)))]
      · obtain ⟨N, rfl⟩ : ∃ N', N = N' + 1 := ⟨N - 1, by omega⟩
        rcases Nat.eq_zero_or_pos (x % y) with h1 | h1
        · rw [g1, h1]
          refine q_lp_stop ?_
          simp (disch := omega) only [s_X5_reduce_9, b_X5_reduce_9, nS, lS, Nat.gcd_zero_right]
        · have hh := eu_half h1 hr
          have g2 : Nat.gcd y (x % y) = Nat.gcd (x % y) (y % (x % y)) := by rw [Nat.gcd_comm y, Nat.gcd_rec, Nat.gcd_comm]
          rw [q_lp_go (s' := (lN (x % y), lN (y % (x % y)), nI (i + 2)))]
          · rw [g1, g2]
            exact ih _ _ _ _ (by omega) (by omega) (by omega) (by omega) (by omega)
          · simp (disch := omega) only [s_X5_reduce_9, b_X5_reduce_9, nS, lS]
      · simp (disch := omega) only [s_X5_reduce_9, b_X5_reduce_9, nS, lS]
theorem d_gcd {h : qH} : ∀ y x N, y < 2 ^ 63 → x < 2 ^ 63 → ∀ k, y < 2 ^ k → k ≤ 60 → 2 * k + 1 < N → q_lp (s_X12_common_6 h) N (lN x, lN y) = some (lN (Nat.gcd x y)) := by
  have key : ∀ k x y N, y < 2 ^ k → x < 2 ^ 63 → k ≤ 60 → 2 * k + 1 < N → q_lp (s_X12_common_6 h) N (lN x, lN y) = some (lN (Nat.gcd x y)) := by
    intro k
    induction k with
    | zero =>
      intro x y N hy hx hk hN
      obtain ⟨N, rfl⟩ : ∃ N', N = N' + 1 := ⟨N - 1, by omega⟩
      have : y = 0 := by simpa using hy
      subst this
      refine q_lp_stop ?_
      simp (disch := omega) only [s_X12_common_6, b_X12_common_6, nS, lS, Nat.gcd_zero_right]
    | succ k ih =>
      intro x y N hy hx hk hN
      have hp : 2 ^ (k + 1) ≤ 2 ^ 61 := Nat.pow_le_pow_right (by omega) (by omega)
      have hp2 : 2 ^ (k + 1) = 2 * 2 ^ k := by rw [Nat.pow_succ, Nat.mul_comm]
      obtain ⟨N, rfl⟩ : ∃ N', N = N' + 1 := ⟨N - 1, by omega⟩
      rcases Nat.eq_zero_or_pos y with h0 | h0
      · subst h0
        refine q_lp_stop ?_
        simp (disch := omega) only [s_X12_common_6, b_X12_common_6, nS, lS, Nat.gcd_zero_right]
      · have hr := Nat.mod_lt x h0
        have g1 : Nat.gcd x y = Nat.gcd y (x % y) := by rw [Nat.gcd_comm x y, Nat.gcd_rec, Nat.gcd_comm]
        rw [q_lp_go (s' := (lN y, lN (x % y)))]
        · obtain ⟨N, rfl⟩ : ∃ N', N = N' + 1 := ⟨N - 1, by omega⟩
          rcases Nat.eq_zero_or_pos (x % y) with h1 | h1
          · rw [g1, h1]
            refine q_lp_stop ?_
            simp (disch := omega) only [s_X12_common_6, b_X12_common_6, nS, lS, Nat.gcd_zero_right]
          · have hh := eu_half h1 hr
            have g2 : Nat.gcd y (x % y) = Nat.gcd (x % y) (y % (x % y)) := by rw [Nat.gcd_comm y, Nat.gcd_rec, Nat.gcd_comm]
            rw [q_lp_go (s' := (lN (x % y), lN (y % (x % y))))]
            · rw [g1, g2]
              exact ih _ _ _ (by omega) (by omega) (by omega) (by omega)
            · simp (disch := omega) only [s_X12_common_6, b_X12_common_6, nS, lS]
        · simp (disch := omega) only [s_X12_common_6, b_X12_common_6, nS, lS]
  intro y x N _ hx k hy hk hN
  exact key k x y N hy hx hk hN
/-- a fraction in its lowest terms -/
def frc (up down : Nat) (y : Int32) : Nat := if y = 0 then up / Nat.gcd down up else down / Nat.gcd down up
theorem d_part {h : qH} {up down : Nat} {y : Int32} (hu : up < 2 ^ 40) (hd : down < 2 ^ 40) (h0 : 0 < down) : F_X12_part h (lN up) (lN down) y = some (lN (frc up down y)) := by
  have hg : 0 < Nat.gcd down up := Nat.gcd_pos_of_pos_left _ h0
  have hg2 := Nat.gcd_le_left up h0
  have key := d_gcd (h := h) up down q_N (by omega) (by omega) 40 hu (by omega) (q_lt_N (by omega))
  unfold frc
  by_cases hy : y = 0
  · simp only [F_X12_part, if_pos hy, F_X12_common, key, Option.bind_some]
    simp (disch := omega) only [nS, lS]
  · simp only [F_X12_part, if_neg hy, F_X12_common, key, Option.bind_some]
    simp (disch := omega) only [nS, lS]
theorem c_reduce {h : qH} {a : Nat} {A : Nat → Nat → Int32} {B : Nat → Nat → Int64} {I : Nat → Int32} {J : Nat → Int64} (o : OB h a 5 odL A B I J) {up down : Nat} (hu : up < 2 ^ 40) (hd : down < 2 ^ 40) (h0 : 0 < down) : ∃ h' J', F_X5_reduce h a (lN up) (lN down) = some h' ∧ OB h' a 5 odL A B I J' ∧ Fr h h' a (a + 3) ∧ J' 2 = lN (frc up down 0) ∧ J' 3 = lN (frc up down 1) := by
  have hg : 0 < Nat.gcd down up := Nat.gcd_pos_of_pos_left _ h0
  have hg2 := Nat.gcd_le_left up h0
  have key := c_gcd (h := h) (a := a) (p := lN up) (q := lN down) 40 down up 0 q_N hu (by omega) (by omega) (by omega) (q_lt_N (by omega))
  obtain ⟨h1, e1, o1, r1⟩ := X5_p2 o (lN (up / Nat.gcd down up))
  obtain ⟨h2, e2, o2, r2⟩ := X5_p3 o1 (lN (down / Nat.gcd down up))
  refine ⟨h2, _, ?_, o2, r1.tr r2, rfl, rfl⟩
  simp (disch := omega) only [F_X5_reduce, j_X5_reduce_44, nS, lS, key, e1, e2]
