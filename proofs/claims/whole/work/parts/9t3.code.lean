/-! ===== the call text: words as longs ===== -/
def pkN (x : Nat) (l : List Nat) : Nat := l.foldl (fun y c => y * 256 + c) x
theorem l_or2 {a b : Nat} (ha : a < 2 ^ 64) (hb : b < 2 ^ 64) : lN a ||| lN b = lN (a ||| b) := by
  apply Int64.toBitVec_inj.mp
  apply BitVec.eq_of_toNat_eq
  have := Nat.or_lt_two_pow ha hb
  show (BitVec.ofNat 64 a ||| BitVec.ofNat 64 b).toNat = (BitVec.ofNat 64 (a ||| b)).toNat
  rw [BitVec.toNat_or, BitVec.toNat_ofNat, BitVec.toNat_ofNat, BitVec.toNat_ofNat, Nat.mod_eq_of_lt ha, Nat.mod_eq_of_lt hb, Nat.mod_eq_of_lt this]
theorem l_shl8 {x : Nat} (hx : x * 256 < 2 ^ 64) : lN x <<< ((nI 8).toInt64 &&& 63) = lN (x * 256) := by
  apply Int64.toBitVec_inj.mp
  apply BitVec.eq_of_toNat_eq
  show ((BitVec.ofNat 64 x) <<< ((nI 8).toInt64 &&& 63).toBitVec.smod 64).toNat = (BitVec.ofNat 64 (x * 256)).toNat
  rw [show ((nI 8).toInt64 &&& 63).toBitVec.smod 64 = 8#64 by decide, BitVec.shiftLeft_eq', BitVec.toNat_shiftLeft, BitVec.toNat_ofNat, BitVec.toNat_ofNat, Nat.mod_eq_of_lt (show x < 2 ^ 64 by omega), Nat.shiftLeft_eq]
  rfl
theorem pk_one {x c : Nat} (hx : x < 256 ^ 7) (hc : c < 256) : q_lshl (lN x) (nI 8) ||| (nI c).toInt64 = lN (x * 256 + c) := by
  have h7 : (256 : Nat) ^ 7 = 72057594037927936 := by decide
  rw [h7] at hx
  unfold q_lshl
  rw [l_shl8 (by omega), nI_l (by omega), l_or2 (by omega) (by omega)]
  have := Nat.two_pow_add_eq_or_of_lt (i := 8) (b := c) hc x
  rw [show (2 : Nat) ^ 8 = 256 by decide] at this
  rw [Nat.mul_comm x 256, this]
theorem pkW_N : ∀ (l : List Nat) (x k : Nat), k + l.length ≤ 8 → x < 256 ^ k → (∀ c, c ∈ l → c < 256) → l.foldl (fun y c => q_lshl y (nI 8) ||| (nI c).toInt64) (lN x) = lN (pkN x l) ∧ pkN x l < 256 ^ (k + l.length) := by
  intro l
  induction l with
  | nil => intro x k _ hx _; exact ⟨rfl, hx⟩
  | cons c l ih =>
    intro x k hk hx hc
    rw [List.length_cons] at hk ⊢
    have hc0 := hc c (List.mem_cons_self)
    have h7 : x < 256 ^ 7 := Nat.lt_of_lt_of_le hx (Nat.pow_le_pow_right (by omega) (by omega))
    have hx1 : x * 256 + c < 256 ^ (k + 1) := by rw [Nat.pow_succ]; omega
    have := ih (x * 256 + c) (k + 1) (by omega) hx1 (fun d hd => hc d (List.mem_cons_of_mem _ hd))
    rw [show k + 1 + l.length = k + (l.length + 1) by omega] at this
    rw [List.foldl_cons, pk_one h7 hc0]
    exact this
