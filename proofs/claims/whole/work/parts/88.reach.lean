/-! ===== what can be said: closures; bar, must ===== -/
def al (m : MB) (out : Nat) (w : Option Nat) (j : Nat) : Prop := j < mbL m ∧ ¬ w = some j ∧ tb out (wh m j) = 0
def rc (m : MB) (out : Nat) (w : Option Nat) : Nat → Nat → Prop
  | 0, l => l = 0 ∧ al m out w 0
  | n + 1, l => rc m out w n l ∨ (al m out w l ∧ ∃ l' k, rc m out w n l' ∧ k < fn m l' ∧ l = gg m l' k)
def Re (m : MB) (out : Nat) (w : Option Nat) (l : Nat) : Prop := ∃ n, rc m out w n l
theorem rc_al {m : MB} {out : Nat} {w : Option Nat} : ∀ n l, rc m out w n l → al m out w l := by
  intro n
  induction n with
  | zero => rintro l ⟨rfl, h⟩; exact h
  | succ n ih =>
    intro l h
    rcases h with h | ⟨h, -⟩
    · exact ih l h
    · exact h
theorem Re_al {m : MB} {out : Nat} {w : Option Nat} {l : Nat} (h : Re m out w l) : al m out w l := by
  obtain ⟨n, h⟩ := h
  exact rc_al n l h
theorem Re_0 {m : MB} {out : Nat} {w : Option Nat} (h : al m out w 0) : Re m out w 0 := ⟨0, rfl, h⟩
theorem Re_s {m : MB} {out : Nat} {w : Option Nat} {l k : Nat} (h : Re m out w l) (hk : k < fn m l) (ha : al m out w (gg m l k)) : Re m out w (gg m l k) := by
  obtain ⟨n, h⟩ := h
  exact ⟨n + 1, Or.inr ⟨ha, l, k, h, hk, rfl⟩⟩
/-- a set that is closed and holds nothing else -/
def Cl (m : MB) (out : Nat) (w : Option Nat) (S : Nat) : Prop := S < 2 ^ 20 ∧ ∀ l, tb S l = 1 ↔ Re m out w l
theorem Cl.mk {m : MB} {out : Nat} {w : Option Nat} {S : Nat} (hS : S < 2 ^ 20) (h1 : ∀ l, tb S l = 1 → Re m out w l) (h0 : al m out w 0 → tb S 0 = 1) (hc : ∀ l, tb S l = 1 → ∀ k, k < fn m l → al m out w (gg m l k) → tb S (gg m l k) = 1) : Cl m out w S := by
  refine ⟨hS, fun l => ⟨h1 l, ?_⟩⟩
  rintro ⟨n, h⟩
  induction n generalizing l with
  | zero =>
    obtain ⟨rfl, h⟩ := h
    exact h0 h
  | succ n ih =>
    rcases h with h | ⟨ha, l', k, h, hk, rfl⟩
    · exact ih l h
    · exact hc l' (ih l' h) k hk ha
theorem Cl.eq {m : MB} {out : Nat} {w : Option Nat} {S S' : Nat} (h : Cl m out w S) (h' : Cl m out w S') : S = S' := by
  refine tb_ext h.1 h'.1 (fun k _ => ?_)
  have h1 := h.2 k
  have h2 := h'.2 k
  have b1 := tb_le S k
  have b2 := tb_le S' k
  by_cases hr : Re m out w k
  · rw [h1.mpr hr, h2.mpr hr]
  · have : ¬ tb S k = 1 := fun e => hr (h1.mp e)
    have : ¬ tb S' k = 1 := fun e => hr (h2.mp e)
    omega
/-- one line more is looked at -/
def Ex (m : MB) (out : Nat) (w : Option Nat) (l S S' : Nat) : Prop := S' < 2 ^ 20 ∧ (∀ j, tb S j = 1 → tb S' j = 1) ∧ ((∀ j, tb S j = 1 → Re m out w j) → Re m out w l → ∀ j, tb S' j = 1 → Re m out w j) ∧ ∀ k, k < fn m l → al m out w (gg m l k) → tb S' (gg m l k) = 1
theorem tb_orp (S j i : Nat) : tb (S ||| 2 ^ j) i = 1 ↔ tb S i = 1 ∨ i = j := by
  rw [tb_or, tb_pow]
  by_cases h1 : tb S i = 1
  · simp [h1]
  · by_cases h2 : i = j
    · simp [h2]
    · simp [h1, h2]
theorem bm_eq {a b : Nat} (ha : a < 2 ^ 31) (hb : b < 2 ^ 31) : nI a &&& (nI b ^^^ m1) = nI (a &&& (b ^^^ (2 ^ 32 - 1))) := by
  apply Int32.toBitVec_inj.mp
  apply BitVec.eq_of_toNat_eq
  have h1 : a &&& (b ^^^ (2 ^ 32 - 1)) ≤ a := Nat.and_le_left
  have e : m1.toBitVec.toNat = 2 ^ 32 - 1 := by decide
  rw [Int32.toBitVec_and, BitVec.toNat_and, Int32.toBitVec_xor, BitVec.toNat_xor, e, nI_bv, nI_bv, nI_bv, BitVec.toNat_ofNat, BitVec.toNat_ofNat, BitVec.toNat_ofNat, Nat.mod_eq_of_lt (by omega), Nat.mod_eq_of_lt (by omega), Nat.mod_eq_of_lt (by omega)]
theorem bm_tb {a b k : Nat} (hk : k < 32) : tb (a &&& (b ^^^ (2 ^ 32 - 1))) k = 1 ↔ tb a k = 1 ∧ tb b k = 0 := by
  unfold tb
  rw [Nat.testBit_and, Nat.testBit_xor, Nat.testBit_two_pow_sub_one, decide_eq_true hk]
  cases a.testBit k <;> cases b.testBit k <;> simp
section RCC
variable {h : qH} {a b : Nat} {m : MB}
theorem c_may (c : CB h b m) {out : Nat} {w : Option Nat} (ho : out < 64) (hw : okL m w) {j : Nat} (hj : j < mbL m) : (al m out w j ∧ F_X6_mayBeSaid h b (nI j) (nI out) (oI w) = some (nI 1)) ∨ (¬ al m out w j ∧ F_X6_mayBeSaid h b (nI j) (nI out) (oI w) = some (nI 0)) := by
  have ok := c.1
  have hL := L_le ok
  have hwh := (wh_ok ok hj).2
  have ht := tb_le out (wh m j)
  by_cases h1 : w = some j
  · refine Or.inr ⟨fun q => q.2.1 h1, ?_⟩
    subst h1
    rw [oI_some]
    simp (disch := omega) only [F_X6_mayBeSaid, nS, cS c]
  · have hne : (nI j = oI w) ↔ False := iff_of_false (fun e => h1 ((oI_eq (okL_31 ok hw) (by omega)).mp e.symm)) id
    by_cases h2 : tb out (wh m j) = 0
    · exact Or.inl ⟨⟨hj, h1, h2⟩, by simp (disch := omega) only [F_X6_mayBeSaid, nS, cS c, hne, bS, h2]⟩
    · have h3 : tb out (wh m j) = 1 := by omega
      exact Or.inr ⟨fun q => h2 q.2.2, by simp (disch := omega) only [F_X6_mayBeSaid, nS, cS c, hne, bS, h3]⟩
theorem c_can67 (c : CB h b m) {out : Nat} {w : Option Nat} (ho : out < 64) (hw : okL m w) {x5 x6 : Int32} {F l S : Nat} (hF : F < 2 ^ 31) (hl : l < mbL m) (hf1 : tb F l = 1) (hS : S < 2 ^ 20) : ∃ S', q_lp (s_X6_canBeSaid_67 h b (nI out) (oI w) x5 x6 (nI F) (nI l)) q_N (nI S, nI 0) = some (nI S') ∧ Ex m out w l S S' := by
  have ok := c.1
  have hL := L_le ok
  have hf := fn_le ok hl
  have lp := q_lp_idx (step := s_X6_canBeSaid_67 h b (nI out) (oI w) x5 x6 (nI F) (nI l)) (fun k s => s.2 = nI k ∧ ∃ S1, s.1 = nI S1 ∧ S1 < 2 ^ 20 ∧ (∀ j, tb S j = 1 → tb S1 j = 1) ∧ ((∀ j, tb S j = 1 → Re m out w j) → Re m out w l → ∀ j, tb S1 j = 1 → Re m out w j) ∧ ∀ k', k' < k → al m out w (gg m l k') → tb S1 (gg m l k') = 1) (fn m l) (fun r => ∃ S', r = nI S' ∧ Ex m out w l S S')
    (by
      rintro k ⟨y1, y2⟩ hk ⟨hy, S1, hy1, s1, s2, s3, s4⟩
      dsimp only at hy hy1
      subst hy hy1
      have hg := gg_lt ok hl hk
      rcases c_may c ho hw hg with ⟨ha, e⟩ | ⟨ha, e⟩
      · have hp := p2_lt (k := gg m l k) (by omega)
        refine ⟨(nI (S1 ||| 2 ^ gg m l k), nI (k + 1)), ?_, rfl, _, rfl, orp_lt s1 (by omega), fun j hj => (tb_orp _ _ _).mpr (Or.inl (s2 j hj)), fun q1 q2 j hj => ?_, fun k' hk' ha' => ?_⟩
        · simp (disch := omega) only [s_X6_canBeSaid_67, b_X6_canBeSaid_67, nS, cS c, bS, hf1, e]
        · rcases (tb_orp _ _ _).mp hj with hj | rfl
          · exact s3 q1 q2 j hj
          · exact Re_s q2 hk ha
        · by_cases hkk : k' = k
          · subst hkk; exact (tb_orp _ _ _).mpr (Or.inr rfl)
          · exact (tb_orp _ _ _).mpr (Or.inl (s4 k' (by omega) ha'))
      · refine ⟨(nI S1, nI (k + 1)), ?_, rfl, _, rfl, s1, s2, s3, fun k' hk' ha' => ?_⟩
        · simp (disch := omega) only [s_X6_canBeSaid_67, b_X6_canBeSaid_67, nS, cS c, bS, hf1, e, Nat.or_zero]
        · by_cases hkk : k' = k
          · subst hkk; exact absurd ha' ha
          · exact s4 k' (by omega) ha')
    (by
      rintro ⟨y1, y2⟩ ⟨hy, S1, hy1, s1, s2, s3, s4⟩
      dsimp only at hy hy1
      subst hy hy1
      exact ⟨nI S1, by simp (disch := omega) only [s_X6_canBeSaid_67, b_X6_canBeSaid_67, nS, cS c, bS, hf1], S1, rfl, s1, s2, s3, s4⟩)
    q_N (nI S, nI 0) ⟨rfl, S, rfl, hS, fun j hj => hj, fun q1 _ => q1, fun k hk => by omega⟩ (q_lt_N (by omega))
  obtain ⟨r, e, S', rfl, he⟩ := lp
  exact ⟨S', e, he⟩
theorem c_can55 (c : CB h b m) {out : Nat} {w : Option Nat} (ho : out < 64) (hw : okL m w) {x5 x6 : Int32} {F S : Nat} (hF : F < 2 ^ 31) (hFS : ∀ l, l < mbL m → tb F l = 1 → tb S l = 1) (hS : S < 2 ^ 20) (hR : ∀ j, tb S j = 1 → Re m out w j) : ∃ S', q_lp (s_X6_canBeSaid_55 h b (nI out) (oI w) x5 x6 (nI F)) q_N (nI S, nI 0) = some (nI S') ∧ S' < 2 ^ 20 ∧ (∀ j, tb S j = 1 → tb S' j = 1) ∧ (∀ j, tb S' j = 1 → Re m out w j) ∧ ∀ l, l < mbL m → tb F l = 1 → ∀ k, k < fn m l → al m out w (gg m l k) → tb S' (gg m l k) = 1 := by
  have ok := c.1
  have hL := L_le ok
  have lp := q_lp_idx (step := s_X6_canBeSaid_55 h b (nI out) (oI w) x5 x6 (nI F)) (fun l s => s.2 = nI l ∧ ∃ S1, s.1 = nI S1 ∧ S1 < 2 ^ 20 ∧ (∀ j, tb S j = 1 → tb S1 j = 1) ∧ (∀ j, tb S1 j = 1 → Re m out w j) ∧ ∀ l', l' < l → tb F l' = 1 → ∀ k, k < fn m l' → al m out w (gg m l' k) → tb S1 (gg m l' k) = 1) (mbL m) (fun r => ∃ S', r = nI S' ∧ S' < 2 ^ 20 ∧ (∀ j, tb S j = 1 → tb S' j = 1) ∧ (∀ j, tb S' j = 1 → Re m out w j) ∧ ∀ l, l < mbL m → tb F l = 1 → ∀ k, k < fn m l → al m out w (gg m l k) → tb S' (gg m l k) = 1)
    (by
      rintro l ⟨y1, y2⟩ hl ⟨hy, S1, hy1, s1, s2, s3, s4⟩
      dsimp only at hy hy1
      subst hy hy1
      have ht := tb_le F l
      by_cases hf1 : tb F l = 1
      · obtain ⟨S2, e2, x1, x2, x3, x4⟩ := c_can67 c ho hw (x5 := x5) (x6 := x6) hF hl hf1 s1
        refine ⟨(nI S2, nI (l + 1)), ?_, rfl, S2, rfl, x1, fun j hj => x2 j (s2 j hj), x3 s3 (hR l (hFS l hl hf1)), fun l' hl' q k hk ha => ?_⟩
        · simp (disch := omega) only [s_X6_canBeSaid_55, b_X6_canBeSaid_55, nS, cS c, e2]
        · by_cases hll : l' = l
          · subst hll; exact x4 k hk ha
          · exact x2 _ (s4 l' (by omega) q k hk ha)
      · have hf0 : tb F l = 0 := by omega
        have e2 : q_lp (s_X6_canBeSaid_67 h b (nI out) (oI w) x5 x6 (nI F) (nI l)) q_N (nI S1, nI 0) = some (nI S1) := by
          refine q_lp_stop (n := 999999) ?_
          simp (disch := omega) only [s_X6_canBeSaid_67, b_X6_canBeSaid_67, nS, bS, hf0]
        refine ⟨(nI S1, nI (l + 1)), ?_, rfl, S1, rfl, s1, s2, s3, fun l' hl' q k hk ha => ?_⟩
        · simp (disch := omega) only [s_X6_canBeSaid_55, b_X6_canBeSaid_55, nS, cS c, e2]
        · by_cases hll : l' = l
          · subst hll; exact absurd q hf1
          · exact s4 l' (by omega) q k hk ha)
    (by
      rintro ⟨y1, y2⟩ ⟨hy, S1, hy1, s1, s2, s3, s4⟩
      dsimp only at hy hy1
      subst hy hy1
      exact ⟨nI S1, by simp (disch := omega) only [s_X6_canBeSaid_55, b_X6_canBeSaid_55, nS, cS c], S1, rfl, s1, s2, s3, s4⟩)
    q_N (nI S, nI 0) ⟨rfl, S, rfl, hS, fun j hj => hj, hR, fun k hk => by omega⟩ (q_lt_N (by omega))
  obtain ⟨r, e, S', rfl, he⟩ := lp
  exact ⟨S', e, he⟩
theorem c_can (c : CB h b m) {out : Nat} {w : Option Nat} (ho : out < 64) (hw : okL m w) : ∃ S, F_X6_canBeSaid h a b (nI out) (oI w) = some (nI S) ∧ Cl m out w S := by
  have ok := c.1
  have hL := L_le ok
  have lp : ∀ S0, S0 < 2 ^ 20 → (∀ j, tb S0 j = 1 → Re m out w j) → (al m out w 0 → tb S0 0 = 1) → ∃ r, q_lp (s_X6_canBeSaid_23 h b (nI out) (oI w)) q_N (nI S0, nI 0, nI 0) = some r ∧ ∃ S, r = nI S ∧ Cl m out w S := by
    intro S0 hS0 hR0 h00
    refine q_lp_inv (fun s => ∃ S lk r, s = (nI S, nI lk, nI r) ∧ S < 2 ^ 20 ∧ lk < 2 ^ 20 ∧ r ≤ mbL m ∧ (∀ j, tb lk j = 1 → tb S j = 1) ∧ (∀ j, tb S j = 1 → Re m out w j) ∧ (al m out w 0 → tb S 0 = 1) ∧ (∀ l, tb lk l = 1 → ∀ k, k < fn m l → al m out w (gg m l k) → tb S (gg m l k) = 1) ∧ r ≤ cnp (fun l => tb lk l = 1) (mbL m)) (fun s => mbL m - s.2.2.toNatClampNeg) _ ?_ q_N (nI S0, nI 0, nI 0) ⟨S0, 0, 0, rfl, hS0, by omega, Nat.zero_le _, fun j hj => by rw [tb_0] at hj; omega, hR0, h00, fun l hl => by rw [tb_0] at hl; omega, Nat.zero_le _⟩ (q_lt_N (by dsimp only; omega))
    rintro s ⟨S, lk, r, rfl, hS, hlk, hr, i1, i2, i3, i4, i5⟩
    by_cases hrL : r = mbL m
    · refine Or.inr ⟨nI S, ?_, S, rfl, ?_⟩
      · simp (disch := omega) only [s_X6_canBeSaid_23, b_X6_canBeSaid_23, nS, cS c]
      · have hall := cnp_all (p := fun l => tb lk l = 1) (n := mbL m) (by omega)
        exact Cl.mk hS i2 i3 (fun l hl => i4 l (hall l (Re_al (i2 l hl)).1))
    · by_cases hsl : lk = S
      · subst hsl
        refine Or.inr ⟨nI lk, ?_, lk, rfl, Cl.mk hS i2 i3 i4⟩
        simp (disch := omega) only [s_X6_canBeSaid_23, b_X6_canBeSaid_23, nS, cS c]
      · have hF1 : S &&& (lk ^^^ (2 ^ 32 - 1)) ≤ S := Nat.and_le_left
        have bq := bm_eq (a := S) (b := lk) (by omega) (by omega)
        have bt := @bm_tb S lk
        obtain ⟨F, hF⟩ : ∃ F, F = S &&& (lk ^^^ (2 ^ 32 - 1)) := ⟨_, rfl⟩
        rw [← hF] at hF1 bq bt
        obtain ⟨S2, e2, x1, x2, x3, x4⟩ := c_can55 c ho hw (x5 := nI S) (x6 := nI r) (F := F) (S := S) (by omega) (fun l hl hf => ((bt (by omega)).mp hf).1) hS i2
        refine Or.inl ⟨(nI S2, nI S, nI (r + 1)), ?_, ⟨S2, S, r + 1, rfl, x1, hS, by omega, x2, x3, fun q => x2 _ (i3 q), fun l hl k hk ha => ?_, ?_⟩, ?_⟩
        · simp (disch := omega) only [s_X6_canBeSaid_23, b_X6_canBeSaid_23, nS, cS c, bq, e2]
        · have hlL := (Re_al (i2 l hl)).1
          have ht := tb_le lk l
          by_cases h1 : tb lk l = 1
          · exact x2 _ (i4 l h1 k hk ha)
          · exact x4 l hlL ((bt (by omega)).mpr ⟨hl, by omega⟩) k hk ha
        · have : cnp (fun l => tb lk l = 1) (mbL m) < cnp (fun l => tb S l = 1) (mbL m) := by
            refine cnp_st _ (fun l _ hl => i1 l hl) ?_
            apply Classical.byContradiction
            intro hn
            refine hsl (tb_ext hlk hS (fun k _ => ?_))
            have b1 := tb_le lk k
            have b2 := tb_le S k
            by_cases h1 : tb S k = 1
            · by_cases h2 : tb lk k = 1
              · rw [h1, h2]
              · exact absurd ⟨k, (Re_al (i2 k h1)).1, h1, h2⟩ hn
            · have : ¬ tb lk k = 1 := fun e => h1 (i1 k e)
              omega
          omega
        · show mbL m - (nI (r + 1)).toNatClampNeg < mbL m - (nI r).toNatClampNeg
          rw [nI_cl (by omega), nI_cl (by omega)]
          omega
  have fin : ∀ S0, S0 < 2 ^ 20 → (∀ j, tb S0 j = 1 → Re m out w j) → (al m out w 0 → tb S0 0 = 1) → ∃ S, j_X6_canBeSaid_15 h b (nI out) (oI w) (nI S0) = some (nI S) ∧ Cl m out w S := by
    intro S0 q1 q2 q3
    obtain ⟨r, e, S, rfl, hc⟩ := lp S0 q1 q2 q3
    exact ⟨S, by simp (disch := omega) only [j_X6_canBeSaid_15, nS, e], hc⟩
  have f0 : ¬ al m out w 0 → ∃ S, j_X6_canBeSaid_15 h b (nI out) (oI w) (nI 0) = some (nI S) ∧ Cl m out w S := fun hn => fin 0 (by omega) (fun j hj => by rw [tb_0] at hj; omega) (fun q => absurd q hn)
  have t1 : ∀ j, tb 1 j = 1 ↔ j = 0 := fun j => by
    have := tb_pow 0 j
    rw [Nat.pow_zero] at this
    rw [this]
    by_cases h : j = 0 <;> simp [h]
  rcases Nat.eq_zero_or_pos (mbL m) with h0 | h0
  · obtain ⟨S, e, hc⟩ := f0 (fun q => by have := q.1; omega)
    refine ⟨S, ?_, hc⟩
    simp (disch := omega) only [F_X6_canBeSaid, F_X6_mayBeSaid, nS, cS c, e]
  · rcases c_may c ho hw h0 with ⟨ha, em⟩ | ⟨ha, em⟩
    · obtain ⟨S, e, hc⟩ := fin 1 (by omega) (fun j hj => by rw [(t1 j).mp hj]; exact Re_0 ha) (fun _ => (t1 0).mpr rfl)
      refine ⟨S, ?_, hc⟩
      simp (disch := omega) only [F_X6_canBeSaid, nS, em, e]
    · obtain ⟨S, e, hc⟩ := f0 ha
      refine ⟨S, ?_, hc⟩
      simp (disch := omega) only [F_X6_canBeSaid, nS, em, e]
end RCC
section RCD
variable {h : qH} {a : Nat} {A : Nat → Nat → Int32} {B : Nat → Nat → Int64} {I : Nat → Int32} {J : Nat → Int64} {b : Nat → Int32} {k : Nat}
theorem d_re54 (o : OB h a 12 mdL A B I J) (hb : HB A I b k) {out : Nat} {w : Option Nat} (ho : out < 64) (hw : okL (bMB b) w) {x4 : Int32} {l S : Nat} (hl : l < mbL (bMB b)) (hf1 : tb S l = 1) (hS : S < 2 ^ 20) : ∃ S', q_lp (s_X12_reachable_54 h a (nI out) (oI w) x4 (nI l)) q_N (nI S, nI 0) = some (nI S') ∧ Ex (bMB b) out w l S S' := by
  have ok := bMB_ok hb.1
  have hL := L_le ok
  have hf := fn_le ok hl
  have lp := q_lp_idx (step := s_X12_reachable_54 h a (nI out) (oI w) x4 (nI l)) (fun k s => s.2 = nI k ∧ ∃ S1, s.1 = nI S1 ∧ S1 < 2 ^ 20 ∧ (∀ j, tb S j = 1 → tb S1 j = 1) ∧ ((∀ j, tb S j = 1 → Re (bMB b) out w j) → Re (bMB b) out w l → ∀ j, tb S1 j = 1 → Re (bMB b) out w j) ∧ ∀ k', k' < k → al (bMB b) out w (gg (bMB b) l k') → tb S1 (gg (bMB b) l k') = 1) (fn (bMB b) l) (fun r => ∃ S', r = nI S' ∧ Ex (bMB b) out w l S S')
    (by
      rintro k ⟨y1, y2⟩ hk ⟨hy, S1, hy1, s1, s2, s3, s4⟩
      dsimp only at hy hy1
      subst hy hy1
      have hg := gg_lt ok hl hk
      have hwh := (wh_ok ok hg).2
      have ht := tb_le out (wh (bMB b) (gg (bMB b) l k))
      have hsl := s2 l hf1
      have hp := p2_lt (k := gg (bMB b) l k) (by omega)
      have bad : ¬ al (bMB b) out w (gg (bMB b) l k) → s_X12_reachable_54 h a (nI out) (oI w) x4 (nI l) (nI S1, nI k) = some (.inl (nI S1, nI (k + 1))) → ∃ s', s_X12_reachable_54 h a (nI out) (oI w) x4 (nI l) (nI S1, nI k) = some (.inl s') ∧ s'.2 = nI (k + 1) ∧ ∃ S2, s'.1 = nI S2 ∧ S2 < 2 ^ 20 ∧ (∀ j, tb S j = 1 → tb S2 j = 1) ∧ ((∀ j, tb S j = 1 → Re (bMB b) out w j) → Re (bMB b) out w l → ∀ j, tb S2 j = 1 → Re (bMB b) out w j) ∧ ∀ k', k' < k + 1 → al (bMB b) out w (gg (bMB b) l k') → tb S2 (gg (bMB b) l k') = 1 := fun ha e => ⟨_, e, rfl, S1, rfl, s1, s2, s3, fun k' hk' ha' => by
        by_cases hkk : k' = k
        · subst hkk; exact absurd ha' ha
        · exact s4 k' (by omega) ha'⟩
      by_cases h1 : w = some (gg (bMB b) l k)
      · refine bad (fun q => q.2.1 h1) ?_
        rw [h1, oI_some]
        simp (disch := omega) only [s_X12_reachable_54, b_X12_reachable_54, nS, X12_rd o, d_pack o hb, bS, hsl, Nat.or_zero]
      · have hne : (nI (gg (bMB b) l k) = oI w) ↔ False := iff_of_false (fun e => h1 ((oI_eq (okL_31 ok hw) (by omega)).mp e.symm)) id
        by_cases h2 : tb out (wh (bMB b) (gg (bMB b) l k)) = 0
        · refine ⟨(nI (S1 ||| 2 ^ gg (bMB b) l k), nI (k + 1)), ?_, rfl, _, rfl, orp_lt s1 (by omega), fun j hj => (tb_orp _ _ _).mpr (Or.inl (s2 j hj)), fun q1 q2 j hj => ?_, fun k' hk' ha' => ?_⟩
          · simp (disch := omega) only [s_X12_reachable_54, b_X12_reachable_54, nS, X12_rd o, d_pack o hb, bS, hsl, hne, h2]
          · rcases (tb_orp _ _ _).mp hj with hj | rfl
            · exact s3 q1 q2 j hj
            · exact Re_s q2 hk ⟨hg, h1, h2⟩
          · by_cases hkk : k' = k
            · subst hkk; exact (tb_orp _ _ _).mpr (Or.inr rfl)
            · exact (tb_orp _ _ _).mpr (Or.inl (s4 k' (by omega) ha'))
        · have h3 : tb out (wh (bMB b) (gg (bMB b) l k)) = 1 := by omega
          refine bad (fun q => h2 q.2.2) ?_
          simp (disch := omega) only [s_X12_reachable_54, b_X12_reachable_54, nS, X12_rd o, d_pack o hb, bS, hsl, hne, h3, Nat.or_zero])
    (by
      rintro ⟨y1, y2⟩ ⟨hy, S1, hy1, s1, s2, s3, s4⟩
      dsimp only at hy hy1
      subst hy hy1
      exact ⟨nI S1, by simp (disch := omega) only [s_X12_reachable_54, b_X12_reachable_54, nS, X12_rd o, d_pack o hb], S1, rfl, s1, s2, s3, s4⟩)
    q_N (nI S, nI 0) ⟨rfl, S, rfl, hS, fun j hj => hj, fun q1 _ => q1, fun k hk => by omega⟩ (q_lt_N (by omega))
  obtain ⟨r, e, S', rfl, he⟩ := lp
  exact ⟨S', e, he⟩
theorem d_re42 (o : OB h a 12 mdL A B I J) (hb : HB A I b k) {out : Nat} {w : Option Nat} (ho : out < 64) (hw : okL (bMB b) w) {x4 : Int32} {S : Nat} (hS : S < 2 ^ 20) (hR : ∀ j, tb S j = 1 → Re (bMB b) out w j) : ∃ S', q_lp (s_X12_reachable_42 h a (nI out) (oI w) x4) q_N (nI S, nI 0) = some (nI S') ∧ S' < 2 ^ 20 ∧ (∀ j, tb S j = 1 → tb S' j = 1) ∧ (∀ j, tb S' j = 1 → Re (bMB b) out w j) ∧ ∀ l, tb S l = 1 → ∀ k, k < fn (bMB b) l → al (bMB b) out w (gg (bMB b) l k) → tb S' (gg (bMB b) l k) = 1 := by
  have ok := bMB_ok hb.1
  have hL := L_le ok
  have lp := q_lp_idx (step := s_X12_reachable_42 h a (nI out) (oI w) x4) (fun l s => s.2 = nI l ∧ ∃ S1, s.1 = nI S1 ∧ S1 < 2 ^ 20 ∧ (∀ j, tb S j = 1 → tb S1 j = 1) ∧ (∀ j, tb S1 j = 1 → Re (bMB b) out w j) ∧ ∀ l', l' < l → tb S l' = 1 → ∀ k, k < fn (bMB b) l' → al (bMB b) out w (gg (bMB b) l' k) → tb S1 (gg (bMB b) l' k) = 1) (mbL (bMB b)) (fun r => ∃ S', r = nI S' ∧ S' < 2 ^ 20 ∧ (∀ j, tb S j = 1 → tb S' j = 1) ∧ (∀ j, tb S' j = 1 → Re (bMB b) out w j) ∧ ∀ l, l < mbL (bMB b) → tb S l = 1 → ∀ k, k < fn (bMB b) l → al (bMB b) out w (gg (bMB b) l k) → tb S' (gg (bMB b) l k) = 1)
    (by
      rintro l ⟨y1, y2⟩ hl ⟨hy, S1, hy1, s1, s2, s3, s4⟩
      dsimp only at hy hy1
      subst hy hy1
      have ht := tb_le S1 l
      have hf := fn_le ok hl
      by_cases hf1 : tb S1 l = 1
      · obtain ⟨S2, e2, x1, x2, x3, x4⟩ := d_re54 o hb ho hw (x4 := x4) hl hf1 s1
        refine ⟨(nI S2, nI (l + 1)), ?_, rfl, S2, rfl, x1, fun j hj => x2 j (s2 j hj), x3 s3 (s3 l hf1), fun l' hl' q k hk ha => ?_⟩
        · simp (disch := omega) only [s_X12_reachable_42, b_X12_reachable_42, nS, d_pack o hb, e2]
        · by_cases hll : l' = l
          · subst hll; exact x4 k hk ha
          · exact x2 _ (s4 l' (by omega) q k hk ha)
      · have hf0 : tb S1 l = 0 := by omega
        have e2 : q_lp (s_X12_reachable_54 h a (nI out) (oI w) x4 (nI l)) q_N (nI S1, nI 0) = some (nI S1) := by
          refine q_lp_stop (n := 999999) ?_
          rcases Nat.eq_zero_or_pos (fn (bMB b) l) with h0 | h0
          · simp (disch := omega) only [s_X12_reachable_54, b_X12_reachable_54, nS, X12_rd o, d_pack o hb]
          · simp (disch := omega) only [s_X12_reachable_54, b_X12_reachable_54, nS, X12_rd o, d_pack o hb, bS, hf0]
        refine ⟨(nI S1, nI (l + 1)), ?_, rfl, S1, rfl, s1, s2, s3, fun l' hl' q k hk ha => ?_⟩
        · simp (disch := omega) only [s_X12_reachable_42, b_X12_reachable_42, nS, d_pack o hb, e2]
        · by_cases hll : l' = l
          · subst hll; exact absurd (s2 _ q) hf1
          · exact s4 l' (by omega) q k hk ha)
    (by
      rintro ⟨y1, y2⟩ ⟨hy, S1, hy1, s1, s2, s3, s4⟩
      dsimp only at hy hy1
      subst hy hy1
      exact ⟨nI S1, by simp (disch := omega) only [s_X12_reachable_42, b_X12_reachable_42, nS, d_pack o hb], S1, rfl, s1, s2, s3, s4⟩)
    q_N (nI S, nI 0) ⟨rfl, S, rfl, hS, fun j hj => hj, hR, fun k hk => by omega⟩ (q_lt_N (by omega))
  obtain ⟨r, e, S', rfl, x1, x2, x3, x4⟩ := lp
  exact ⟨S', e, x1, x2, x3, fun l hl => x4 l (Re_al (hR l hl)).1 hl⟩
theorem d_reach (o : OB h a 12 mdL A B I J) (hb : HB A I b k) {out : Nat} {w : Option Nat} (ho : out < 64) (hw : okL (bMB b) w) : ∃ S, F_X12_reachable h a (nI out) (oI w) = some (nI S) ∧ Cl (bMB b) out w S := by
  have ok := bMB_ok hb.1
  have hL := L_le ok
  have lp : ∀ S0, S0 < 2 ^ 20 → (∀ j, tb S0 j = 1 → Re (bMB b) out w j) → (al (bMB b) out w 0 → tb S0 0 = 1) → ∃ r, q_lp (s_X12_reachable_30 h a (nI out) (oI w)) q_N (nI S0, m1) = some r ∧ ∃ S, r = nI S ∧ Cl (bMB b) out w S := by
    intro S0 hS0 hR0 h00
    refine q_lp_inv (fun s => ∃ S, s.1 = nI S ∧ S < 2 ^ 20 ∧ (∀ j, tb S j = 1 → Re (bMB b) out w j) ∧ (al (bMB b) out w 0 → tb S 0 = 1) ∧ (s.2 = m1 ∨ ∃ O, s.2 = nI O ∧ O < 2 ^ 20 ∧ ∀ l, tb O l = 1 → ∀ k, k < fn (bMB b) l → al (bMB b) out w (gg (bMB b) l k) → tb S (gg (bMB b) l k) = 1)) (fun s => 2 * (20 - cnp (fun l => tb s.1.toNatClampNeg l = 1) 20) + if s.1 = s.2 then 0 else 1) _ ?_ q_N (nI S0, m1) ⟨S0, rfl, hS0, hR0, h00, Or.inl rfl⟩ (q_lt_N (by dsimp only; split <;> omega))
    rintro ⟨y1, y2⟩ ⟨S, hy1, hS, i2, i3, i4⟩
    dsimp only at hy1 i4
    subst hy1
    by_cases hsl : nI S = y2
    · refine Or.inr ⟨nI S, ?_, S, rfl, Cl.mk hS i2 i3 ?_⟩
      · simp only [s_X12_reachable_30, b_X12_reachable_30, if_pos hsl]
      · rcases i4 with e | ⟨O, e, hO, i4⟩
        · rw [e] at hsl; exact absurd hsl (fun q => (nm1_eq (by omega)).mp q)
        · rw [e] at hsl
          rw [(nI_eq (by omega) (by omega)).mp hsl] at i4 ⊢
          exact i4
    · obtain ⟨S2, e2, x1, x2, x3, x4⟩ := d_re42 o hb ho hw (x4 := nI S) hS i2
      refine Or.inl ⟨(nI S2, nI S), ?_, ⟨S2, rfl, x1, x3, fun q => x2 _ (i3 q), Or.inr ⟨S, rfl, hS, x4⟩⟩, ?_⟩
      · simp only [s_X12_reachable_30, b_X12_reachable_30, if_neg hsl, nS, e2]
      · show 2 * (20 - cnp (fun l => tb (nI S2).toNatClampNeg l = 1) 20) + (if nI S2 = nI S then 0 else 1) < 2 * (20 - cnp (fun l => tb (nI S).toNatClampNeg l = 1) 20) + (if nI S = y2 then 0 else 1)
        rw [if_neg hsl, nI_cl (by omega), nI_cl (by omega)]
        have hle := cnp_le (fun l => tb S2 l = 1) 20
        by_cases hq : S2 = S
        · rw [if_pos (by rw [hq]), hq]; omega
        · have : cnp (fun l => tb S l = 1) 20 < cnp (fun l => tb S2 l = 1) 20 := by
            refine cnp_st _ (fun l _ hl => x2 l hl) ?_
            apply Classical.byContradiction
            intro hn
            refine hq (tb_ext x1 hS (fun k hk => ?_))
            have b1 := tb_le S2 k
            have b2 := tb_le S k
            by_cases h1 : tb S2 k = 1
            · by_cases h2 : tb S k = 1
              · rw [h1, h2]
              · exact absurd ⟨k, hk, h1, h2⟩ hn
            · have : ¬ tb S k = 1 := fun e => h1 (x2 k e)
              omega
          split <;> omega
  have f0 : ¬ al (bMB b) out w 0 → ∃ r, q_lp (s_X12_reachable_30 h a (nI out) (oI w)) q_N (nI 0, m1) = some r ∧ ∃ S, r = nI S ∧ Cl (bMB b) out w S := fun hn => lp 0 (by omega) (fun j hj => by rw [tb_0] at hj; omega) (fun q => absurd q hn)
  have t1 : ∀ j, tb 1 j = 1 ↔ j = 0 := fun j => by
    have := tb_pow 0 j
    rw [Nat.pow_zero] at this
    rw [this]
    by_cases h : j = 0 <;> simp [h]
  rcases Nat.eq_zero_or_pos (mbL (bMB b)) with h0 | h0
  · obtain ⟨r, e, S, rfl, hc⟩ := f0 (fun q => by have := q.1; omega)
    refine ⟨S, ?_, hc⟩
    simp (disch := omega) only [F_X12_reachable, nS, d_pack o hb, e]
  · have hwh := (wh_ok ok h0).2
    have ht := tb_le out (wh (bMB b) 0)
    by_cases h1 : w = some 0
    · obtain ⟨r, e, S, rfl, hc⟩ := f0 (fun q => q.2.1 h1)
      refine ⟨S, ?_, hc⟩
      have hw0 : oI w = nI 0 := by rw [h1]; rfl
      simp (disch := omega) only [F_X12_reachable, nS, d_pack o hb, if_pos hw0, e]
    · have hne : (oI w = nI 0) ↔ False := iff_of_false (fun e => h1 ((oI_eq (okL_31 ok hw) (by omega)).mp e)) id
      by_cases h2 : tb out (wh (bMB b) 0) = 0
      · have ha : al (bMB b) out w 0 := ⟨h0, h1, h2⟩
        obtain ⟨r, e, S, rfl, hc⟩ := lp 1 (by omega) (fun j hj => by rw [(t1 j).mp hj]; exact Re_0 ha) (fun _ => (t1 0).mpr rfl)
        refine ⟨S, ?_, hc⟩
        simp (disch := omega) only [F_X12_reachable, nS, o.ob, d_pack o hb, hne, bS, h2, e]
      · have h3 : tb out (wh (bMB b) 0) = 1 := by omega
        obtain ⟨r, e, S, rfl, hc⟩ := f0 (fun q => h2 q.2.2)
        refine ⟨S, ?_, hc⟩
        simp (disch := omega) only [F_X12_reachable, nS, o.ob, d_pack o hb, hne, bS, h3, e]
end RCD
