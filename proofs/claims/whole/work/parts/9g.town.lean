/-! ===== call: town ===== -/
def tw (t : Nat → Int32) (k : Nat) : Nat := (t (1 + k)).toNatClampNeg
def tk (t : Nat → Int32) (k : Nat) : Nat := (t (9 + k)).toNatClampNeg
def tl (t : Nat → Int32) (k : Nat) : Nat := (t (18 + k)).toNatClampNeg
theorem tv_ok {t : Nat → Int32} (v : TV t) : t 0 = nI (eN t) ∧ 2 ≤ eN t ∧ eN t ≤ 9 ∧ (∀ k, k < 8 → t (1 + k) = nI (tw t k) ∧ tw t k < 10) ∧ ∀ k, k < 9 → (t (9 + k) = nI (tk t k) ∧ tk t k < 2) ∧ t (18 + k) = nI (tl t k) ∧ tl t k < 10 := by
  obtain ⟨n, h1, h2, h3, h4, h5⟩ := v
  have : eN t = n := by unfold eN; rw [h3, nI_cl (by omega)]
  rw [this]
  refine ⟨h3, h1, h2, fun k hk => ?_, fun k hk => ⟨?_, ?_⟩⟩
  · obtain ⟨w, w1, w2, w3⟩ := h4 k hk
    unfold tw
    rw [w3, nI_cl (by omega)]
    exact ⟨rfl, w2⟩
  · obtain ⟨⟨w, w1, w2⟩, -⟩ := h5 k hk
    unfold tk
    rw [w2, nI_cl (by omega)]
    exact ⟨rfl, w1⟩
  · obtain ⟨-, ⟨w, w1, w2⟩⟩ := h5 k hk
    unfold tl
    rw [w2, nI_cl (by omega)]
    exact ⟨rfl, w1⟩
def wb (t : Nat → Int32) (lo d : Nat) : Nat := sm (fun i => tw t (lo + i)) d
/-- one house is heard in another -/
def hr (t : Nat → Int32) (i j : Nat) : Bool := decide (wb t (min i j) (max i j - min i j) < tl t i)
def hmk (t : Nat → Int32) (i : Nat) : Nat → Nat
  | 0 => 0
  | j + 1 => if hr t i j then hmk t i j ||| 2 ^ j else hmk t i j
theorem hmk_lt (t : Nat → Int32) (i : Nat) : ∀ j, j ≤ 9 → hmk t i j < 2 ^ 9 := by
  intro j
  induction j with
  | zero => intro _; show 0 < 2 ^ 9; omega
  | succ j ih =>
    intro hj
    unfold hmk
    split
    · exact orp_lt (ih (by omega)) (by omega)
    · exact ih (by omega)
theorem hmk_tb (t : Nat → Int32) (i : Nat) : ∀ n j, tb (hmk t i n) j = if j < n ∧ hr t i j = true then 1 else 0 := by
  intro n
  induction n with
  | zero => intro j; rw [if_neg (fun q => by omega)]; exact tb_0 j
  | succ n ih =>
    intro j
    unfold hmk
    split
    · next hh =>
      rw [tb_or, ih, tb_pow]
      by_cases hj : j = n
      · subst hj
        rw [if_pos (Or.inr (if_pos rfl)), if_pos ⟨by omega, hh⟩]
      · rw [if_neg hj]
        by_cases hc : j < n ∧ hr t i j = true
        · rw [if_pos hc, if_pos (Or.inl rfl), if_pos ⟨by omega, hc.2⟩]
        · rw [if_neg hc, if_neg (fun q => by omega), if_neg (fun q => hc ⟨by omega, q.2⟩)]
    · next hh =>
      rw [ih]
      by_cases hj : j = n
      · subst hj
        rw [if_neg (fun q => by omega), if_neg (fun q => hh q.2)]
      · by_cases hc : j < n ∧ hr t i j = true
        · rw [if_pos hc, if_pos ⟨by omega, hc.2⟩]
        · rw [if_neg hc, if_neg (fun q => hc ⟨by omega, q.2⟩)]
def ot (t : Nat → Int32) (j : Nat) : Nat → Nat
  | 0 => 0
  | i + 1 => ot t j i + (if i = j then 0 else if hr t i j then 1 else 0)
theorem ot_le (t : Nat → Int32) (j : Nat) : ∀ i, ot t j i ≤ i := by
  intro i
  induction i with
  | zero => exact Nat.le_refl _
  | succ i ih =>
    unfold ot
    have : (if i = j then 0 else if hr t i j then 1 else 0) ≤ 1 := by
      split
      · omega
      · split <;> omega
    omega
def bl (t : Nat → Int32) : Nat → Nat
  | 0 => 0
  | i + 1 => if ot t (i + 1) (eN t) ≤ ot t (bl t i) (eN t) then bl t i else i + 1
theorem bl_le (t : Nat → Int32) : ∀ i, bl t i ≤ i := by
  intro i
  induction i with
  | zero => exact Nat.le_refl _
  | succ i ih =>
    unfold bl
    split <;> omega
/-- a house keeps guard, is silent, or is heard by one of the guards -/
def co (t : Nat → Int32) (M i : Nat) : Prop := tb M i = 1 ∨ tl t i = 0 ∨ ¬ (hmk t i (eN t) &&& M = 0)
noncomputable def gdT (t : Nat → Int32) (M : Nat) : Bool := @decide (∀ i, i < eN t → co t M i) (Classical.propDecidable _)
theorem gdT_iff {t : Nat → Int32} {M : Nat} : gdT t M = true ↔ ∀ i, i < eN t → co t M i := by
  unfold gdT
  exact @decide_eq_true_iff _ (Classical.propDecidable _)
theorem on_full : ∀ n, n < 10 → ∀ x, x < 2 ^ n - 1 → on x < on (2 ^ n - 1) := by decide +kernel
theorem tb_full : ∀ n, n < 10 → ∀ i, i < n → tb (2 ^ n - 1) i = 1 := by decide +kernel
noncomputable def gu2 (t : Nat → Int32) : Nat → Nat := fun K => (bb (gdT t) K).getD K
def wcp (t : Nat → Int32) : Nat → Nat
  | 0 => 0
  | k + 1 => wcp t k + if tk t k = tk t (k + 1) then 0 else if tl t k ≤ tw t k then 0 else if tl t (k + 1) ≤ tw t k then 0 else 1
theorem wcp_le (t : Nat → Int32) : ∀ i, wcp t i ≤ i := by
  intro i
  induction i with
  | zero => exact Nat.le_refl _
  | succ i ih =>
    unfold wcp
    have : (if tk t i = tk t (i + 1) then 0 else if tl t i ≤ tw t i then 0 else if tl t (i + 1) ≤ tw t i then 0 else 1) ≤ 1 := by
      split
      · omega
      · split
        · omega
        · split <;> omega
    omega
def hu (t : Nat → Int32) : Nat → Nat
  | 0 => 0
  | k + 1 => max (hu t k) (max (tl t k) (tl t (k + 1)) - tw t k)
theorem hu_lt {t : Nat → Int32} (v : TV t) : ∀ k, k < eN t → hu t k < 10 := by
  intro k
  induction k with
  | zero => intro _; show 0 < 10; omega
  | succ k ih =>
    intro hk
    have hn := (tv_ok v).2.2.1
    have h1 := ((tv_ok v).2.2.2.2 k (by omega)).2.2
    have h2 := ((tv_ok v).2.2.2.2 (k + 1) (by omega)).2.2
    have h3 := ih (by omega)
    unfold hu
    omega
theorem wb_le {t : Nat → Int32} (v : TV t) {lo d : Nat} (h : lo + d ≤ 8) : wb t lo d ≤ 10 * d := by
  unfold wb
  refine sm_le d (fun i hi => ?_)
  have := ((tv_ok v).2.2.2.1 (lo + i) (by omega)).2
  omega
theorem c_min2 (h : qH) {a b : Nat} (ha : a < 2 ^ 31) (hb : b < 2 ^ 31) : F_J9_min_7cf53 h (nI a) (nI b) = some (nI (min a b)) := by
  rcases Nat.lt_or_ge b a with h1 | h1
  · rw [Nat.min_eq_right (by omega)]; simp (disch := omega) only [F_J9_min_7cf53, nS]
  · rw [Nat.min_eq_left (by omega)]; simp (disch := omega) only [F_J9_min_7cf53, nS]
theorem c_max2 (h : qH) {a b : Nat} (ha : a < 2 ^ 31) (hb : b < 2 ^ 31) : F_J9_max_7cf53 h (nI a) (nI b) = some (nI (max a b)) := by
  rcases Nat.lt_or_ge a b with h1 | h1
  · rw [Nat.max_eq_right (by omega)]; simp (disch := omega) only [F_J9_max_7cf53, nS]
  · rw [Nat.max_eq_left (by omega)]; simp (disch := omega) only [F_J9_max_7cf53, nS]
theorem d_les2 (h : qH) {a b : Nat} (ha : a < 2 ^ 31) (hb : b < 2 ^ 31) : F_X12_lesser h (nI a) (nI b) = some (nI (min a b)) := by
  rcases Nat.lt_or_ge a b with h1 | h1
  · rw [Nat.min_eq_left (by omega)]; simp (disch := omega) only [F_X12_lesser, nS]
  · rw [Nat.min_eq_right (by omega)]; simp (disch := omega) only [F_X12_lesser, nS]
theorem d_gre2 (h : qH) {a b : Nat} (ha : a < 2 ^ 31) (hb : b < 2 ^ 31) : F_X12_greater h (nI a) (nI b) = some (nI (max a b)) := by
  rcases Nat.lt_or_ge b a with h1 | h1
  · rw [Nat.max_eq_left (by omega)]; simp (disch := omega) only [F_X12_greater, nS]
  · rw [Nat.max_eq_right (by omega)]; simp (disch := omega) only [F_X12_greater, nS]
/-- the greater of one and a difference -/
theorem c_maxd (h : qH) {a b c : Nat} (ha : a < 2 ^ 31) (hb : b < 2 ^ 31) (hc : c < 2 ^ 31) : F_J9_max_7cf53 h (nI a) (nI b - nI c) = some (nI (max a (b - c))) := by
  rcases Nat.lt_or_ge b c with h1 | h1
  · have := n_neg h1 (by omega)
    rw [show b - c = 0 by omega, Nat.max_zero]
    simp (disch := omega) only [F_J9_max_7cf53, gN this, nS]
  · rw [pk_sub h1]
    exact c_max2 h ha (by omega)
theorem d_gred (h : qH) {a b c : Nat} (ha : a < 2 ^ 31) (hb : b < 2 ^ 31) (hc : c < 2 ^ 31) : F_X12_greater h (nI a) (nI b - nI c) = some (nI (max a (b - c))) := by
  rcases Nat.lt_or_ge b c with h1 | h1
  · have := n_neg h1 (by omega)
    rw [show b - c = 0 by omega, Nat.max_zero]
    simp (disch := omega) only [F_X12_greater, gN this, nS]
  · rw [pk_sub h1]
    exact d_gre2 h ha (by omega)
section TWC
variable {h : qH} {a : Nat} {t : Nat → Int32} {A : Nat → Nat → Int32} {B : Nat → Nat → Int64} {I : Nat → Int32} {J : Nat → Int64}
theorem wS (o : OB h a 10 twL A B I J) (w : CWc t A I) (v : TV t) : q_ob h a 10 = some () ∧ q_fI h a 10 4 = some (nI (eN t)) ∧ q_fR h a 10 0 = some (a + 1) ∧ q_fR h a 10 1 = some (a + 2) ∧ q_fR h a 10 2 = some (a + 3) ∧ q_fR h a 10 3 = some (a + 4) ∧ (∀ k, k < 8 → q_aI h .int (a + 1) (nI k) = some (nI (tw t k))) ∧ (∀ k, k < 9 → q_aI h .int (a + 2) (nI k) = some (nI (tk t k))) ∧ (∀ k, k < 9 → q_aI h .int (a + 3) (nI k) = some (nI (tl t k))) ∧ (∀ k, k < 9 → q_aI h .int (a + 4) (nI k) = some (A 3 k)) ∧ (∀ k, k < eN t → F_X10_has h a (nI k) = some (nI 1)) ∧ ∀ k, eN t ≤ k → k < 2 ^ 31 → F_X10_has h a (nI k) = some (nI 0) := by
  obtain ⟨v0, v2, v9, vw, vk⟩ := tv_ok v
  obtain ⟨w4, w0, w12⟩ := w
  rw [v0] at w4
  refine ⟨o.ob, by rw [← w4]; exact o.fI (k := 4) rfl, o.fR (k := 0) rfl rfl, o.fR (k := 1) rfl rfl, o.fR (k := 2) rfl rfl, o.fR (k := 3) rfl rfl, fun k hk => ?_, fun k hk => ?_, fun k hk => ?_, fun k hk => ?_, fun k hk => ?_, fun k h1 h2 => ?_⟩
  · rw [← (vw k hk).1, ← w0 k hk]; simp (disch := omega) only [X10_rd o]
  · rw [← (vk k hk).1.1, ← (w12 k hk).1]; simp (disch := omega) only [X10_rd o]
  · rw [← (vk k hk).2.1, ← (w12 k hk).2]; simp (disch := omega) only [X10_rd o]
  · simp (disch := omega) only [X10_rd o]
  · simp (disch := omega) only [F_X10_has, nS, X10_rd o, w4]
  · rcases Nat.lt_or_ge k 9 with h9 | h9
    · simp (disch := omega) only [F_X10_has, nS, X10_rd o, w4]
    · simp (disch := omega) only [F_X10_has, nS, X10_rd o, w4]
theorem c_walls (o : OB h a 10 twL A B I J) (w : CWc t A I) (v : TV t) {lo d : Nat} (hd : lo + d < eN t) : F_X10_wallsBetween h a (nI lo) (nI (lo + d)) = some (nI (wb t lo d)) := by
  obtain ⟨v0, v2, v9, vw, vk⟩ := tv_ok v
  have lp : q_lp (s_X10_wallsBetween_5 h a (nI (lo + d))) q_N (nI 0, nI lo) = some (nI (wb t lo d)) := by
    refine q_lp_for (fun i => (nI (wb t lo i), nI (lo + i))) d (fun i hi => ?_) ?_ q_N (q_lt_N (by omega))
    · show _ = some (Sum.inl (nI (wb t lo i + tw t (lo + i)), nI (lo + (i + 1))))
      rw [← Nat.add_assoc lo i 1]
      simp (disch := omega) only [s_X10_wallsBetween_5, b_X10_wallsBetween_5, nS, wS o w v]
    · simp (disch := omega) only [s_X10_wallsBetween_5, b_X10_wallsBetween_5, nS]
  simp (disch := omega) only [F_X10_wallsBetween, nS, lp]
theorem c_where (o : OB h a 10 twL A B I J) (w : CWc t A I) (v : TV t) {i : Nat} (hi : i < eN t) : F_X10_whereHeard h a (nI i) = some (nI (hmk t i (eN t))) := by
  obtain ⟨v0, v2, v9, vw, vk⟩ := tv_ok v
  have ld : F_X10_loudOf h a (nI i) = some (nI (tl t i)) := by simp (disch := omega) only [F_X10_loudOf, nS, wS o w v]
  have hl := (vk i (by omega)).2.2
  have lp : q_lp (s_X10_whereHeard_4 h a (nI i)) q_N (nI 0, nI 0) = some (nI (hmk t i (eN t))) := by
    refine q_lp_for (fun j => (nI (hmk t i j), nI j)) (eN t) (fun j hj => ?_) ?_ q_N (q_lt_N (by omega))
    · have hlt := hmk_lt t i j (by omega)
      have hb := wb_le v (lo := min i j) (d := max i j - min i j) (by omega)
      have ew := c_walls o w v (lo := min i j) (d := max i j - min i j) (by omega)
      rw [show min i j + (max i j - min i j) = max i j by omega] at ew
      have hp : 2 ^ j < 2 ^ 31 := p2_lt (by omega)
      show _ = some (Sum.inl (nI (if hr t i j then hmk t i j ||| 2 ^ j else hmk t i j), nI (j + 1)))
      by_cases hh : wb t (min i j) (max i j - min i j) < tl t i
      · have : hr t i j = true := decide_eq_true hh
        rw [if_pos this]
        simp (disch := omega) only [s_X10_whereHeard_4, b_X10_whereHeard_4, nS, bS, wS o w v, c_min2 h, c_max2 h, ew, ld]
      · have : ¬ hr t i j = true := fun q => hh (of_decide_eq_true q)
        rw [if_neg this]
        simp (disch := omega) only [s_X10_whereHeard_4, b_X10_whereHeard_4, nS, bS, wS o w v, c_min2 h, c_max2 h, ew, ld]
    · simp (disch := omega) only [s_X10_whereHeard_4, b_X10_whereHeard_4, nS, wS o w v]
  simp (disch := omega) only [F_X10_whereHeard, nS, lp]
theorem c_others (o : OB h a 10 twL A B I J) (w : CWc t A I) (v : TV t) {j : Nat} (hj : j < eN t) : F_X10_othersHeardIn h a (nI j) = some (nI (ot t j (eN t))) := by
  obtain ⟨v0, v2, v9, vw, vk⟩ := tv_ok v
  have lp : q_lp (s_X10_othersHeardIn_4 h a (nI j)) q_N (nI 0, nI 0) = some (nI (ot t j (eN t))) := by
    refine q_lp_for (fun i => (nI (ot t j i), nI i)) (eN t) (fun i hi => ?_) ?_ q_N (q_lt_N (by omega))
    · have ew := c_where o w v hi
      have hlt := hmk_lt t i (eN t) (by omega)
      have ht := hmk_tb t i (eN t) j
      have ho := ot_le t j i
      show _ = some (Sum.inl (nI (ot t j i + (if i = j then 0 else if hr t i j then 1 else 0)), nI (i + 1)))
      by_cases hij : i = j
      · rw [if_pos hij, Nat.add_zero]
        subst hij
        simp (disch := omega) only [s_X10_othersHeardIn_4, b_X10_othersHeardIn_4, nS, wS o w v]
      · rw [if_neg hij]
        by_cases hh : hr t i j = true
        · rw [if_pos hh]
          rw [if_pos ⟨hj, hh⟩] at ht
          simp (disch := omega) only [s_X10_othersHeardIn_4, b_X10_othersHeardIn_4, nS, bS, wS o w v, ew, ht]
        · rw [if_neg hh, Nat.add_zero]
          rw [if_neg (fun q => hh q.2)] at ht
          simp (disch := omega) only [s_X10_othersHeardIn_4, b_X10_othersHeardIn_4, nS, bS, wS o w v, ew, ht]
    · simp (disch := omega) only [s_X10_othersHeardIn_4, b_X10_othersHeardIn_4, nS, wS o w v]
  simp (disch := omega) only [F_X10_othersHeardIn, nS, lp]
theorem c_listen (o : OB h a 10 twL A B I J) (w : CWc t A I) (v : TV t) : F_X10_bestToListen h a = some (nI (bl t (eN t - 1))) := by
  obtain ⟨v0, v2, v9, vw, vk⟩ := tv_ok v
  have e0 := c_others o w v (j := 0) (by omega)
  have lp : q_lp (s_X10_bestToListen_10 h a) q_N (nI 0, nI (ot t 0 (eN t)), nI 1) = some (nI (bl t (eN t - 1))) := by
    refine q_lp_for (fun i => (nI (bl t i), nI (ot t (bl t i) (eN t)), nI (i + 1))) (eN t - 1) (fun i hi => ?_) ?_ q_N (q_lt_N (by omega))
    · have ew := c_others o w v (j := i + 1) (by omega)
      have h1 := ot_le t (i + 1) (eN t)
      have h2 := ot_le t (bl t i) (eN t)
      have hbl : bl t (i + 1) = if ot t (i + 1) (eN t) ≤ ot t (bl t i) (eN t) then bl t i else i + 1 := rfl
      rw [hbl]
      by_cases hh : ot t (i + 1) (eN t) ≤ ot t (bl t i) (eN t)
      · rw [if_pos hh]
        simp (disch := omega) only [s_X10_bestToListen_10, b_X10_bestToListen_10, nS, wS o w v, ew]
      · rw [if_neg hh]
        simp (disch := omega) only [s_X10_bestToListen_10, b_X10_bestToListen_10, nS, wS o w v, ew]
    · rw [show eN t - 1 + 1 = eN t by omega]
      simp (disch := omega) only [s_X10_bestToListen_10, b_X10_bestToListen_10, nS, wS o w v]
  simp (disch := omega) only [F_X10_bestToListen, nS, o.ob, e0, lp]
theorem c_wrong (o : OB h a 10 twL A B I J) (w : CWc t A I) (v : TV t) : F_X10_wrongCouples h a = some (nI (wcp t (eN t - 1))) := by
  obtain ⟨v0, v2, v9, vw, vk⟩ := tv_ok v
  have lp : q_lp (s_X10_wrongCouples_4 h a) q_N (nI 0, nI 0) = some (nI (wcp t (eN t - 1))) := by
    refine q_lp_for (fun i => (nI (wcp t i), nI i)) (eN t - 1) (fun k hk => ?_) ?_ q_N (q_lt_N (by omega))
    · have b1 := (vw k (by omega)).2
      have b2 := (vk k (by omega)).1.2
      have b3 := (vk (k + 1) (by omega)).1.2
      have b4 := (vk k (by omega)).2.2
      have b5 := (vk (k + 1) (by omega)).2.2
      show _ = some (Sum.inl (nI (wcp t k + if tk t k = tk t (k + 1) then 0 else if tl t k ≤ tw t k then 0 else if tl t (k + 1) ≤ tw t k then 0 else 1), nI (k + 1)))
      by_cases h1 : tk t k = tk t (k + 1)
      · rw [if_pos h1, Nat.add_zero]
        rcases Nat.lt_or_ge (tw t k) (tl t k) with h2 | h2
        · rcases Nat.lt_or_ge (tw t k) (tl t (k + 1)) with h3 | h3
          · simp (disch := omega) only [s_X10_wrongCouples_4, b_X10_wrongCouples_4, j_X10_wrongCouples_58, j_X10_wrongCouples_59, nS, wS o w v]
          · simp (disch := omega) only [s_X10_wrongCouples_4, b_X10_wrongCouples_4, j_X10_wrongCouples_58, j_X10_wrongCouples_59, nS, wS o w v]
        · simp (disch := omega) only [s_X10_wrongCouples_4, b_X10_wrongCouples_4, j_X10_wrongCouples_58, j_X10_wrongCouples_59, nS, wS o w v]
      · rw [if_neg h1]
        rcases Nat.lt_or_ge (tw t k) (tl t k) with h2 | h2
        · rw [if_neg (by omega)]
          rcases Nat.lt_or_ge (tw t k) (tl t (k + 1)) with h3 | h3
          · rw [if_neg (by omega)]
            simp (disch := omega) only [s_X10_wrongCouples_4, b_X10_wrongCouples_4, j_X10_wrongCouples_58, j_X10_wrongCouples_59, nS, wS o w v]
          · rw [if_pos (by omega), Nat.add_zero]
            simp (disch := omega) only [s_X10_wrongCouples_4, b_X10_wrongCouples_4, j_X10_wrongCouples_58, j_X10_wrongCouples_59, nS, wS o w v]
        · rw [if_pos (by omega), Nat.add_zero]
          simp (disch := omega) only [s_X10_wrongCouples_4, b_X10_wrongCouples_4, j_X10_wrongCouples_58, j_X10_wrongCouples_59, nS, wS o w v]
    · simp (disch := omega) only [s_X10_wrongCouples_4, b_X10_wrongCouples_4, nS, wS o w v]
  simp (disch := omega) only [F_X10_wrongCouples, nS, lp]
theorem c_hush (o : OB h a 10 twL A B I J) (w : CWc t A I) (v : TV t) : F_X10_hushing h a = some (nI (hu t (eN t - 1))) := by
  obtain ⟨v0, v2, v9, vw, vk⟩ := tv_ok v
  have lp : q_lp (s_X10_hushing_4 h a) q_N (nI 0, nI 0) = some (nI (hu t (eN t - 1))) := by
    refine q_lp_for (fun i => (nI (hu t i), nI i)) (eN t - 1) (fun k hk => ?_) ?_ q_N (q_lt_N (by omega))
    · have b1 := (vw k (by omega)).2
      have b4 := (vk k (by omega)).2.2
      have b5 := (vk (k + 1) (by omega)).2.2
      have b6 := hu_lt v k (by omega)
      show _ = some (Sum.inl (nI (max (hu t k) (max (tl t k) (tl t (k + 1)) - tw t k)), nI (k + 1)))
      have em := c_max2 h (a := tl t k) (b := tl t (k + 1)) (by omega) (by omega)
      have ed := c_maxd h (a := hu t k) (b := max (tl t k) (tl t (k + 1))) (c := tw t k) (by omega) (by omega) (by omega)
      simp (disch := omega) only [s_X10_hushing_4, b_X10_hushing_4, nS, wS o w v, em, ed]
    · simp (disch := omega) only [s_X10_hushing_4, b_X10_hushing_4, nS, wS o w v]
  simp (disch := omega) only [F_X10_hushing, nS, lp]
end TWC
