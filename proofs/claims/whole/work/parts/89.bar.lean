/-! ===== calls: bar, must ===== -/
section FRM
variable {h : qH} {c nx : Nat} {σ : SG} {im : Nat → Option SG} {v : Int32} {f : Option Int32} {g : Option (Int32 × qH)}
theorem QR.bad (rm : RM h (c + 80) σ im) (hf : f = some v) (hg : ∀ h1, q_put h (c + 80) 12 0 (.int (nI 0)) = some h1 → q_ob h1 (c + 80) 12 = some () → g = some (v, h1)) : QR h c nx σ im f g := by
  obtain ⟨h1, A, B, I, J, e1, o1, pm, ki, r1⟩ := rm.p0
  exact ⟨v, h1, hf, hg h1 e1 o1.ob, r1, ⟨A, B, I, J, o1, pm, ki⟩⟩
theorem QR.nob (ok : SGok σ) (rm : RM h (c + 80) σ im) {x : Int32} (hx : nOut x (sC σ 0)) (hf : f = some v) (hg : ∀ h1 h2, q_put h (c + 80) 12 0 (.int (nI 0)) = some h1 → q_ob h1 (c + 80) 12 = some () → F_X12_hand h1 (c + 80) x = some (nI 0, h2) → g = some (v, h2)) : QR h c nx σ im f g := by
  obtain ⟨h1, A, B, I, J, e1, o1, pm, ki, r1⟩ := rm.p0
  obtain ⟨h2, e2, rm2, r2⟩ := hand_out o1 pm ki ok hx
  exact ⟨v, h2, hf, hg h1 h2 e1 o1.ob e2, r1.tr r2, rm2⟩
theorem QR.go (S : List Nat) (ok : SGok σ) (rm : RM h (c + 80) σ im) {k : Nat} (hk : k < sC σ 0) (hf : f = some v) (hS : ∀ k, k ∈ S → 10 ≤ k ∧ k ≠ 48) (hg : ∀ h1 h2 A B I J, q_put h (c + 80) 12 0 (.int (nI 0)) = some h1 → q_ob h1 (c + 80) 12 = some () → F_X12_hand h1 (c + 80) (nI k) = some (nI 1, h2) → OB h2 (c + 80) 12 mdL A B I J → HB A I (sB σ k) k → ∃ h' A' B' I' J', g = some (v, h') ∧ OB h' (c + 80) 12 mdL A' B' I' J' ∧ Fr h2 h' (c + 80) (c + 80 + 27) ∧ On S A A') : QR h c nx σ im f g := by
  obtain ⟨h1, A, B, I, J, e1, o1, pm, ki, r1⟩ := rm.p0
  obtain ⟨h2, A2, I2, e2, o2, hb, pm2, ki2, r2⟩ := hand_in o1 pm ki ok hk
  obtain ⟨h', A', B', I', J', e3, o3, r3, n3⟩ := hg h1 h2 A2 B I2 J e1 o1.ob e2 o2 hb
  exact ⟨v, h', hf, e3, (r1.tr r2).tr r3, RM.mk pm2 ki2 o3 n3 hS⟩
end FRM
noncomputable def gB (m : MB) (s out : Nat) (w : Option Nat) : Bool := @decide (∃ l, Re m out w l ∧ sc m l = s) (Classical.propDecidable _)
theorem gB_iff {m : MB} {s out : Nat} {w : Option Nat} : gB m s out w = true ↔ ∃ l, Re m out w l ∧ sc m l = s := by
  unfold gB
  exact @decide_eq_true_iff _ (Classical.propDecidable _)
theorem and_z {S W n : Nat} (hS : S < 2 ^ n) : S &&& W = 0 ↔ ∀ l, l < n → ¬ (tb S l = 1 ∧ tb W l = 1) := by
  constructor
  · intro h l _ hh
    have h2 : (S &&& W).testBit l = false := by rw [h]; exact Nat.zero_testBit l
    rw [Nat.testBit_and] at h2
    unfold tb at hh
    obtain ⟨a1, a2⟩ := hh
    split at a1
    · split at a2
      · next b1 b2 => rw [b1, b2] at h2; cases h2
      · omega
    · omega
  · intro h
    apply Nat.eq_of_testBit_eq
    intro l
    rw [Nat.zero_testBit, Nat.testBit_and]
    rcases Nat.lt_or_ge l n with hl | hl
    · cases h1 : S.testBit l with
      | false => rfl
      | true =>
        cases h2 : W.testBit l with
        | false => rfl
        | true => exact absurd ⟨by unfold tb; rw [h1]; rfl, by unfold tb; rw [h2]; rfl⟩ (h l hl)
    · rw [Nat.testBit_lt_two_pow (Nat.lt_of_lt_of_le hS (Nat.pow_le_pow_right (by omega) hl))]
      rfl
def on (x : Nat) : Nat := sm (tb x) 9
theorem on_63 : ∀ i, i < 63 → on i < 6 := by decide +kernel
theorem on_le (x : Nat) : on x ≤ 9 := by
  have := sm_le (f := tb x) (k := 1) 9 (fun i _ => by have := tb_le x i; omega)
  unfold on
  omega
theorem bc_512 : ∀ x, x < 512 → F_J6_bitCount_0f7a4 (fun _ => none) (nI x) = some (nI (on x)) := by
  unfold F_J6_bitCount_0f7a4
  decide +kernel
theorem c_bits (h : qH) {x : Nat} (hx : x < 512) : F_J6_bitCount_0f7a4 h (nI x) = some (nI (on x)) := bc_512 x hx
theorem d_ones (h : qH) {x : Nat} (hx : x < 2 ^ 31) : F_X12_ones h (nI x) = some (nI (on x)) := by
  have lp : q_lp (s_X12_ones_4 h (nI x)) q_N (nI 0, nI 0) = some (nI (on x)) := by
    refine q_lp_for (fun i => (nI (sm (tb x) i), nI i)) 9 (fun i hi => ?_) ?_ q_N (q_lt_N (by omega))
    · have ht := tb_le x i
      show _ = some (Sum.inl (nI (sm (tb x) i + tb x i), nI (i + 1)))
      by_cases h1 : tb x i = 1
      · rw [h1]
        simp (disch := omega) only [s_X12_ones_4, b_X12_ones_4, nS, bS, h1]
      · have h1 : tb x i = 0 := by omega
        rw [h1]
        simp (disch := omega) only [s_X12_ones_4, b_X12_ones_4, nS, bS, h1]
    · simp (disch := omega) only [s_X12_ones_4, b_X12_ones_4, nS]
      rfl
  simp (disch := omega) only [F_X12_ones, nS, lp]
section BRC
variable {h : qH} {a b : Nat} {m : MB}
theorem c_linesOf (c : CB h b m) {s : Nat} (hs : s < 10) : ∃ W, F_X6_linesOf h b (nI s) = some (nI W) ∧ W < 2 ^ 20 ∧ ∀ l, tb W l = 1 ↔ l < mbL m ∧ sc m l = s := by
  have ok := c.1
  have hL := L_le ok
  have lp := q_lp_idx (step := s_X6_linesOf_4 h b (nI s)) (fun l s' => s'.2 = nI l ∧ ∃ W, s'.1 = nI W ∧ W < 2 ^ 20 ∧ ∀ j, tb W j = 1 ↔ j < l ∧ sc m j = s) (mbL m) (fun r => ∃ W, r = nI W ∧ W < 2 ^ 20 ∧ ∀ l, tb W l = 1 ↔ l < mbL m ∧ sc m l = s)
    (by
      rintro l ⟨y1, y2⟩ hl ⟨hy, W, hy1, s1, s2⟩
      dsimp only at hy hy1
      subst hy hy1
      have hsc := (sc_ok ok hl).2
      have hp := p2_lt (k := l) (by omega)
      by_cases h1 : sc m l = s
      · refine ⟨(nI (W ||| 2 ^ l), nI (l + 1)), ?_, rfl, _, rfl, orp_lt s1 (by omega), fun j => ?_⟩
        · simp (disch := omega) only [s_X6_linesOf_4, b_X6_linesOf_4, nS, cS c, bS]
        · rw [tb_orp, s2]
          constructor
          · rintro (⟨q1, q2⟩ | rfl)
            · exact ⟨by omega, q2⟩
            · exact ⟨by omega, h1⟩
          · rintro ⟨q1, q2⟩
            by_cases hj : j = l
            · exact Or.inr hj
            · exact Or.inl ⟨by omega, q2⟩
      · refine ⟨(nI W, nI (l + 1)), ?_, rfl, _, rfl, s1, fun j => ?_⟩
        · simp (disch := omega) only [s_X6_linesOf_4, b_X6_linesOf_4, nS, cS c, bS, Nat.or_zero]
        · rw [s2]
          constructor
          · rintro ⟨q1, q2⟩; exact ⟨by omega, q2⟩
          · rintro ⟨q1, q2⟩
            refine ⟨?_, q2⟩
            rcases Nat.lt_or_ge j l with h2 | h2
            · exact h2
            · exact absurd (show sc m l = s by rw [← show j = l by omega]; exact q2) h1)
    (by
      rintro ⟨y1, y2⟩ ⟨hy, W, hy1, s1, s2⟩
      dsimp only at hy hy1
      subst hy hy1
      exact ⟨nI W, by simp (disch := omega) only [s_X6_linesOf_4, b_X6_linesOf_4, nS, cS c], W, rfl, s1, s2⟩)
    q_N (nI 0, nI 0) ⟨rfl, 0, rfl, by omega, fun j => by rw [tb_0]; constructor <;> intro q <;> omega⟩ (q_lt_N (by omega))
  obtain ⟨r, e, W, rfl, x1, x2⟩ := lp
  exact ⟨W, by simp (disch := omega) only [F_X6_linesOf, nS, e], x1, x2⟩
/-- whether a line of the scene can be said, as the class asks -/
theorem c_ask (c : CB h b m) {s W out : Nat} {w : Option Nat} (hW : W < 2 ^ 20) (hW2 : ∀ l, tb W l = 1 ↔ l < mbL m ∧ sc m l = s) (ho : out < 64) (hw : okL m w) : ∃ S, S < 2 ^ 20 ∧ F_X6_canBeSaid h a b (nI out) (oI w) = some (nI S) ∧ (nI S &&& nI W = nI 0 ↔ gB m s out w = false) := by
  obtain ⟨S, e, hS, hc⟩ := c_can (a := a) c ho hw
  refine ⟨S, hS, e, ?_⟩
  have hand : S &&& W < 2 ^ 31 := Nat.lt_of_le_of_lt Nat.and_le_left (by omega)
  rw [b_and (by omega) (by omega), nI_eq hand (by omega), and_z hS]
  constructor
  · intro hh
    cases hg : gB m s out w with
    | false => rfl
    | true =>
      obtain ⟨l, hl, hsl⟩ := gB_iff.mp hg
      have hlL := (Re_al hl).1
      have hL := L_le c.1
      exact absurd ⟨(hc l).mpr hl, (hW2 l).mpr ⟨hlL, hsl⟩⟩ (hh l (by omega))
  · intro hg l _ hh
    have : gB m s out w = true := gB_iff.mpr ⟨l, (hc l).mp hh.1, ((hW2 l).mp hh.2).2⟩
    rw [hg] at this
    cases this
end BRC
section BRD
variable {h : qH} {a : Nat} {A : Nat → Nat → Int32} {B : Nat → Nat → Int64} {I : Nat → Int32} {J : Nat → Int64} {b : Nat → Int32} {k : Nat}
theorem d_ask (o : OB h a 12 mdL A B I J) (hb : HB A I b k) {s out : Nat} {w : Option Nat} (hs : s < 10) (ho : out < 64) (hw : okL (bMB b) w) : ∃ S, F_X12_reachable h a (nI out) (oI w) = some (nI S) ∧ F_X12_isSceneIn h a (nI S) (nI s) = some (nI (if gB (bMB b) s out w then 1 else 0)) := by
  have ok := bMB_ok hb.1
  have hL := L_le ok
  obtain ⟨S, e, hS, hc⟩ := d_reach o hb ho hw
  refine ⟨S, e, ?_⟩
  have st : ∀ i, i < mbL (bMB b) → s_X12_isSceneIn_2 h a (nI S) (nI s) (nI i) = if tb S i = 1 ∧ sc (bMB b) i = s then some (.inr (.inl ())) else some (.inl (nI (i + 1))) := by
    intro i hi
    have hsc := (sc_ok ok hi).2
    have ht := tb_le S i
    by_cases h1 : tb S i = 1
    · by_cases h2 : sc (bMB b) i = s
      · rw [if_pos ⟨h1, h2⟩]
        simp (disch := omega) only [s_X12_isSceneIn_2, b_X12_isSceneIn_2, nS, o.ob, d_pack o hb, bS, h1, h2]
      · rw [if_neg (fun q => h2 q.2)]
        simp (disch := omega) only [s_X12_isSceneIn_2, b_X12_isSceneIn_2, nS, o.ob, d_pack o hb, bS, h1]
    · have h1 : tb S i = 0 := by omega
      rw [if_neg (fun q => by omega)]
      simp (disch := omega) only [s_X12_isSceneIn_2, b_X12_isSceneIn_2, nS, d_pack o hb, bS, h1]
  have hstop : s_X12_isSceneIn_2 h a (nI S) (nI s) (nI (mbL (bMB b))) = some (.inr (.inr ())) := by
    simp (disch := omega) only [s_X12_isSceneIn_2, b_X12_isSceneIn_2, nS, d_pack o hb]
  rcases q_lp_find (ρ := Unit ⊕ Unit) (step := s_X12_isSceneIn_2 h a (nI S) (nI s)) (mbL (bMB b)) (by omega) (fun i => tb S i = 1 ∧ sc (bMB b) i = s) (yes := fun _ => .inl ()) (no := .inr ()) (fun i hi hp => by rw [st i hi, if_pos hp]) (fun i hi hp => by rw [st i hi, if_neg hp]) hstop (N := q_N) (q_lt_N (by omega)) with ⟨i, hi, hp, -, he⟩ | ⟨hp, he⟩
  · have : gB (bMB b) s out w = true := gB_iff.mpr ⟨i, (hc i).mp hp.1, hp.2⟩
    rw [this]
    simp only [F_X12_isSceneIn, nS, he]
  · have : gB (bMB b) s out w = false := by
      cases hg : gB (bMB b) s out w with
      | false => rfl
      | true =>
        obtain ⟨l, hl, hsl⟩ := gB_iff.mp hg
        exact absurd ⟨(hc l).mpr hl, hsl⟩ (hp l (Re_al hl).1)
    rw [this]
    simp only [F_X12_isSceneIn, nS, he]
    rfl
end BRD
/-- the first with the fewest -/
def bb (good : Nat → Bool) : Nat → Option Nat
  | 0 => none
  | n + 1 => match bb good n with
    | none => if good n then some n else none
    | some x => if on n < on x ∧ good n = true then some n else some x
theorem bb_lt {good : Nat → Bool} : ∀ n x, bb good n = some x → x < n := by
  intro n
  induction n with
  | zero => intro x hx; cases hx
  | succ n ih =>
    intro x hx
    unfold bb at hx
    split at hx
    · split at hx
      · cases hx; omega
      · cases hx
    · next y hy =>
      have := ih y hy
      split at hx
      · cases hx; omega
      · cases hx; omega
section BRC
variable {h : qH} {a b : Nat} {m : MB} {A : Nat → Nat → Int32} {B : Nat → Nat → Int64} {I : Nat → Int32} {J : Nat → Int64}
theorem c_bar (o : OB h a 6 ptL A B I J) (c : CB h b m) {s : Nat} (hs : s < 10) : F_X6_fewestOut h a b (nI s) = some (nI ((bb (fun out => !gB m s out none) 64).getD 63)) := by
  have ok := c.1
  have hL := L_le ok
  obtain ⟨W, eW, hW, hW2⟩ := c_linesOf c hs
  have lp : q_lp (s_X6_fewestOut_13 h a b (nI W)) q_N (nI 63, nI 0) = some (nI ((bb (fun out => !gB m s out none) 64).getD 63)) := by
    refine q_lp_for (fun i => (nI ((bb (fun out => !gB m s out none) i).getD 63), nI i)) 64 (fun i hi => ?_) ?_ q_N (q_lt_N (by omega))
    · obtain ⟨S, hS, e, hz⟩ := c_ask (a := a) c hW hW2 (out := i) (w := none) (by omega) (okL_none m)
      rw [oI_none] at e
      have oi := on_le i
      have hlt := bb_lt (good := fun out => !gB m s out none) i
      have hbb : bb (fun out => !gB m s out none) (i + 1) = match bb (fun out => !gB m s out none) i with
        | none => if (!gB m s i none) then some i else none
        | some x => if on i < on x ∧ (!gB m s i none) = true then some i else some x := rfl
      rw [hbb]
      generalize bb (fun out => !gB m s out none) i = B0 at hlt
      cases B0 with
      | none =>
        show s_X6_fewestOut_13 h a b (nI W) (nI 63, nI i) = some (.inl (nI ((if (!gB m s i none) then some i else none).getD 63), nI (i + 1)))
        have o63 : on 63 = 6 := by decide +kernel
        have b1 := c_bits h (x := i) (by omega)
        have b2 := c_bits h (x := 63) (by omega)
        rw [o63] at b2
        by_cases hi6 : i = 63
        · subst hi6
          have : ((if (!gB m s 63 none) then some 63 else none).getD 63) = 63 := by split <;> rfl
          rw [this]
          simp (disch := omega) only [s_X6_fewestOut_13, b_X6_fewestOut_13, nS, b2]
        · have := on_63 i (by omega)
          cases hg : gB m s i none with
          | false =>
            have hz2 := hz.mpr hg
            simp (disch := omega) only [s_X6_fewestOut_13, b_X6_fewestOut_13, nS, b1, b2, o.ob, e, if_pos hz2]
            rfl
          | true =>
            have hz2 : ¬ (nI S &&& nI W = nI 0) := fun q => by rw [hz.mp q] at hg; cases hg
            simp (disch := omega) only [s_X6_fewestOut_13, b_X6_fewestOut_13, nS, b1, b2, o.ob, e, if_neg hz2]
            rfl
      | some x =>
        have hx := hlt x rfl
        show s_X6_fewestOut_13 h a b (nI W) (nI x, nI i) = some (.inl (nI ((if on i < on x ∧ (!gB m s i none) = true then some i else some x).getD 63), nI (i + 1)))
        have b1 := c_bits h (x := i) (by omega)
        have b2 := c_bits h (x := x) (by omega)
        have ox := on_le x
        rcases Nat.lt_or_ge (on i) (on x) with h1 | h1
        · cases hg : gB m s i none with
          | false =>
            have hz2 := hz.mpr hg
            rw [if_pos ⟨h1, rfl⟩]
            simp (disch := omega) only [s_X6_fewestOut_13, b_X6_fewestOut_13, nS, b1, b2, o.ob, e, if_pos hz2]
            rfl
          | true =>
            have hz2 : ¬ (nI S &&& nI W = nI 0) := fun q => by rw [hz.mp q] at hg; cases hg
            rw [if_neg (fun q => by cases q.2)]
            simp (disch := omega) only [s_X6_fewestOut_13, b_X6_fewestOut_13, nS, b1, b2, o.ob, e, if_neg hz2]
            rfl
        · rw [if_neg (fun q => by omega)]
          simp (disch := omega) only [s_X6_fewestOut_13, b_X6_fewestOut_13, nS, b1, b2]
          rfl
    · simp (disch := omega) only [s_X6_fewestOut_13, b_X6_fewestOut_13, nS]
  simp (disch := omega) only [F_X6_fewestOut, nS, eW, lp]
def mu (m : MB) (g : Nat → Bool) (s : Nat) : Nat → Nat
  | 0 => 0
  | l + 1 => if ¬ sc m l = s ∧ g l = false then mu m g s l ||| 2 ^ l else mu m g s l
theorem mu_lt (m : MB) (g : Nat → Bool) (s : Nat) : ∀ l, l ≤ 20 → mu m g s l < 2 ^ 20 := by
  intro l
  induction l with
  | zero => intro _; show 0 < 2 ^ 20; omega
  | succ l ih =>
    intro hl
    have := ih (by omega)
    unfold mu
    split
    · exact orp_lt this (by omega)
    · exact this
theorem c_must (o : OB h a 6 ptL A B I J) (c : CB h b m) {s : Nat} (hs : s < 10) : F_X6_neededFor h a b (nI s) = some (if gB m s 0 none = true then nI (mu m (fun l => gB m s 0 (some l)) s (mbL m)) else m1) := by
  have ok := c.1
  have hL := L_le ok
  obtain ⟨W, eW, hW, hW2⟩ := c_linesOf c hs
  obtain ⟨S0, hS0, e0, hz0⟩ := c_ask (a := a) c hW hW2 (out := 0) (w := none) (by omega) (okL_none m)
  rw [oI_none] at e0
  have lp : q_lp (s_X6_neededFor_26 h a b (nI s) (nI W)) q_N (nI 0, nI 0) = some (nI (mu m (fun l => gB m s 0 (some l)) s (mbL m))) := by
    refine q_lp_for (fun l => (nI (mu m (fun l => gB m s 0 (some l)) s l), nI l)) (mbL m) (fun l hl => ?_) ?_ q_N (q_lt_N (by omega))
    · obtain ⟨S, hS, e, hz⟩ := c_ask (a := a) c hW hW2 (out := 0) (w := some l) (by omega) (fun j hj => by cases hj; exact hl)
      rw [oI_some] at e
      have hsc := (sc_ok ok hl).2
      have hm := mu_lt m (fun l => gB m s 0 (some l)) s l (by omega)
      have hp := p2_lt (k := l) (by omega)
      show _ = some (Sum.inl (nI (if ¬ sc m l = s ∧ gB m s 0 (some l) = false then mu m (fun l => gB m s 0 (some l)) s l ||| 2 ^ l else mu m (fun l => gB m s 0 (some l)) s l), nI (l + 1)))
      generalize mu m (fun l => gB m s 0 (some l)) s l = M at hm
      by_cases h1 : sc m l = s
      · rw [if_neg (fun q => q.1 h1)]
        simp (disch := omega) only [s_X6_neededFor_26, b_X6_neededFor_26, nS, cS c]
      · cases hg : gB m s 0 (some l) with
        | false =>
          have hz2 := hz.mpr hg
          have hz3 : nI (S &&& W) = nI 0 := by rw [← b_and (by omega) (by omega)]; exact hz2
          rw [if_pos ⟨h1, rfl⟩]
          simp (disch := omega) only [s_X6_neededFor_26, b_X6_neededFor_26, nS, cS c, o.ob, e, bS, if_pos hz3]
        | true =>
          have hz2 : ¬ (nI S &&& nI W = nI 0) := fun q => by rw [hz.mp q] at hg; cases hg
          rw [if_neg (fun q => by cases q.2)]
          simp (disch := omega) only [s_X6_neededFor_26, b_X6_neededFor_26, nS, cS c, o.ob, e, if_neg hz2]
    · simp (disch := omega) only [s_X6_neededFor_26, b_X6_neededFor_26, nS, cS c]
  cases hg : gB m s 0 none with
  | false =>
    have hz2 := hz0.mpr hg
    rw [if_neg (fun q => by cases q)]
    simp (disch := omega) only [F_X6_neededFor, nS, eW, o.ob, e0, if_pos hz2]
  | true =>
    have hz2 : ¬ (nI S0 &&& nI W = nI 0) := fun q => by rw [hz0.mp q] at hg; cases hg
    rw [if_pos rfl]
    simp (disch := omega) only [F_X6_neededFor, nS, eW, o.ob, e0, if_neg hz2, lp]
end BRC
section BRD
variable {h : qH} {a : Nat} {A : Nat → Nat → Int32} {B : Nat → Nat → Int64} {I : Nat → Int32} {J : Nat → Int64} {b : Nat → Int32} {k : Nat}
theorem d_bar (o : OB h a 12 mdL A B I J) (hb : HB A I b k) {s : Nat} (hs : s < 10) : q_lp (s_X12_bar_27 h a (nI s)) q_N (m1, nI 0) = some (oI (bb (fun out => !gB (bMB b) s out none) 64)) := by
  have ok := bMB_ok hb.1
  have hL := L_le ok
  refine q_lp_for (fun i => (oI (bb (fun out => !gB (bMB b) s out none) i), nI i)) 64 (fun i hi => ?_) ?_ q_N (q_lt_N (by omega))
  · obtain ⟨S, e, es⟩ := d_ask o hb hs (out := i) (w := none) (by omega) (okL_none _)
    rw [oI_none] at e
    have oi := on_le i
    have hlt := bb_lt (good := fun out => !gB (bMB b) s out none) i
    have hbb : bb (fun out => !gB (bMB b) s out none) (i + 1) = match bb (fun out => !gB (bMB b) s out none) i with
      | none => if (!gB (bMB b) s i none) then some i else none
      | some x => if on i < on x ∧ (!gB (bMB b) s i none) = true then some i else some x := rfl
    rw [hbb]
    generalize bb (fun out => !gB (bMB b) s out none) i = B0 at hlt
    cases B0 with
    | none =>
      cases hg : gB (bMB b) s i none with
      | false =>
        rw [hg] at es
        have es : F_X12_isSceneIn h a (nI S) (nI s) = some (nI 0) := es
        show s_X12_bar_27 h a (nI s) (m1, nI i) = some (.inl (nI i, nI (i + 1)))
        simp (disch := omega) only [s_X12_bar_27, b_X12_bar_27, j_X12_bar_51, j_X12_bar_71, nS, o.ob, e, es]
      | true =>
        rw [hg] at es
        have es : F_X12_isSceneIn h a (nI S) (nI s) = some (nI 1) := es
        show s_X12_bar_27 h a (nI s) (m1, nI i) = some (.inl (m1, nI (i + 1)))
        simp (disch := omega) only [s_X12_bar_27, b_X12_bar_27, j_X12_bar_51, j_X12_bar_70, j_X12_bar_71, nS, o.ob, e, es]
    | some x =>
      have hx := hlt x rfl
      have b1 := d_ones h (x := i) (by omega)
      have b2 := d_ones h (x := x) (by omega)
      have ox := on_le x
      dsimp only
      rw [oI_some]
      rcases Nat.lt_or_ge (on i) (on x) with h1 | h1
      · cases hg : gB (bMB b) s i none with
        | false =>
          rw [hg] at es
          have es : F_X12_isSceneIn h a (nI S) (nI s) = some (nI 0) := es
          rw [if_pos ⟨h1, rfl⟩, oI_some]
          simp (disch := omega) only [s_X12_bar_27, b_X12_bar_27, j_X12_bar_51, j_X12_bar_71, nS, b1, b2, o.ob, e, es]
        | true =>
          rw [hg] at es
          have es : F_X12_isSceneIn h a (nI S) (nI s) = some (nI 1) := es
          rw [if_neg (fun q => by cases q.2), oI_some]
          simp (disch := omega) only [s_X12_bar_27, b_X12_bar_27, j_X12_bar_51, j_X12_bar_70, j_X12_bar_71, nS, b1, b2, o.ob, e, es]
      · rw [if_neg (fun q => by omega), oI_some]
        simp (disch := omega) only [s_X12_bar_27, b_X12_bar_27, j_X12_bar_70, j_X12_bar_71, nS, b1, b2]
  · simp (disch := omega) only [s_X12_bar_27, b_X12_bar_27, nS]
theorem bb_63 {m : MB} (ok : MBok m) {s : Nat} : oI (bb (fun out => !gB m s out none) 64) = nI ((bb (fun out => !gB m s out none) 64).getD 63) := by
  have h63 : gB m s 63 none = false := by
    cases hg : gB m s 63 none with
    | false => rfl
    | true =>
      obtain ⟨l, hl, -⟩ := gB_iff.mp hg
      have h1 := Re_al hl
      have hw := (wh_ok ok h1.1).2
      have : ∀ p, p < 6 → tb 63 p = 1 := by decide +kernel
      have h2 := this _ hw
      have h3 := h1.2.2
      omega
  have hbb : bb (fun out => !gB m s out none) 64 = match bb (fun out => !gB m s out none) 63 with
    | none => if (!gB m s 63 none) then some 63 else none
    | some x => if on 63 < on x ∧ (!gB m s 63 none) = true then some 63 else some x := rfl
  rw [hbb, h63]
  cases bb (fun out => !gB m s out none) 63 with
  | none => rfl
  | some x =>
    dsimp only
    split <;> rfl
theorem d_mustL (o : OB h a 12 mdL A B I J) (hb : HB A I b k) {s : Nat} (hs : s < 10) : q_lp (s_X12_must_41 h a (nI s)) q_N (nI 0, nI 0) = some (nI (mu (bMB b) (fun l => gB (bMB b) s 0 (some l)) s (mbL (bMB b)))) := by
  have ok := bMB_ok hb.1
  have hL := L_le ok
  refine q_lp_for (fun l => (nI (mu (bMB b) (fun l => gB (bMB b) s 0 (some l)) s l), nI l)) (mbL (bMB b)) (fun l hl => ?_) ?_ q_N (q_lt_N (by omega))
  · obtain ⟨S, e, es⟩ := d_ask o hb hs (out := 0) (w := some l) (by omega) (fun j hj => by cases hj; exact hl)
    rw [oI_some] at e
    have hsc := (sc_ok ok hl).2
    have hm := mu_lt (bMB b) (fun l => gB (bMB b) s 0 (some l)) s l (by omega)
    have hp := p2_lt (k := l) (by omega)
    show _ = some (Sum.inl (nI (if ¬ sc (bMB b) l = s ∧ gB (bMB b) s 0 (some l) = false then mu (bMB b) (fun l => gB (bMB b) s 0 (some l)) s l ||| 2 ^ l else mu (bMB b) (fun l => gB (bMB b) s 0 (some l)) s l), nI (l + 1)))
    generalize mu (bMB b) (fun l => gB (bMB b) s 0 (some l)) s l = M at hm
    by_cases h1 : sc (bMB b) l = s
    · rw [if_neg (fun q => q.1 h1)]
      simp (disch := omega) only [s_X12_must_41, b_X12_must_41, nS, o.ob, d_pack o hb, bS, Nat.or_zero]
    · cases hg : gB (bMB b) s 0 (some l) with
      | false =>
        rw [hg] at es
        have es : F_X12_isSceneIn h a (nI S) (nI s) = some (nI 0) := es
        rw [if_pos ⟨h1, rfl⟩]
        simp (disch := omega) only [s_X12_must_41, b_X12_must_41, nS, o.ob, d_pack o hb, e, es, bS]
      | true =>
        rw [hg] at es
        have es : F_X12_isSceneIn h a (nI S) (nI s) = some (nI 1) := es
        rw [if_neg (fun q => by cases q.2)]
        simp (disch := omega) only [s_X12_must_41, b_X12_must_41, nS, o.ob, d_pack o hb, e, es, bS, Nat.or_zero]
  · simp (disch := omega) only [s_X12_must_41, b_X12_must_41, nS, d_pack o hb]
end BRD
section CALLS
variable {h : qH} {c nx : Nat} {σ : SG} {im : Nat → Option SG}
theorem q_bar (s : ST h c nx σ im) (x y : Int32) : QR h c nx σ im (F_X11_bar h c x y) (F_X12_bar h (c + 80) x y) := by
  obtain ⟨ok, ⟨xc, td, sc, -⟩, rm, -⟩ := s
  have hc0 := ok.2.1 0 (by omega)
  rcases scn y with ⟨s1, s2⟩ | ⟨s, hs, rfl, s1, s2⟩
  · refine QR.bad (v := m1) rm ?_ (fun h1 e1 ob1 => ?_)
    · rcases nOut_or x (n := sC σ 0) (by omega) with hx | ⟨k, hk, rfl⟩
      · simp (disch := omega) only [F_X11_bar, xS xc, tS td, nS, t_bookOut td hx]
      · simp (disch := omega) only [F_X11_bar, xS xc, tS td, nS, t_bookIn td ok hk, s1]
    · simp (disch := omega) only [F_X12_bar, nS, e1, s2]
  rcases nOut_or x (n := sC σ 0) (by omega) with hx | ⟨k, hk, rfl⟩
  · refine QR.nob (v := m1) ok rm hx ?_ (fun h1 h2 e1 ob1 e2 => ?_)
    · simp (disch := omega) only [F_X11_bar, xS xc, tS td, nS, t_bookOut td hx]
    · simp (disch := omega) only [F_X12_bar, nS, e1, s2, ob1, e2]
  have cb := t_CB td ok hk
  obtain ⟨-, -, ⟨A6, B6, I6, J6, o6⟩, -, -, -⟩ := sc
  refine QR.go (v := nI ((bb (fun out => !gB (bMB (sB σ k)) s out none) 64).getD 63)) [] ok rm hk ?_ (by decide) (fun h1 h2 A B I J e1 ob1 e2 o2 hb => ⟨h2, A, B, I, J, ?_, o2, Fr.rf, On.rf⟩)
  · simp (disch := omega) only [F_X11_bar, xS xc, tS td, nS, t_bookIn td ok hk, s1, o6.ob, c_bar o6 cb hs]
  · rw [← bb_63 cb.1]
    simp (disch := omega) only [F_X12_bar, nS, e1, s2, ob1, e2, d_bar o2 hb hs]
theorem q_must (s : ST h c nx σ im) (x y : Int32) : QR h c nx σ im (F_X11_must h c x y) (F_X12_must h (c + 80) x y) := by
  obtain ⟨ok, ⟨xc, td, sc, -⟩, rm, -⟩ := s
  have hc0 := ok.2.1 0 (by omega)
  rcases scn y with ⟨s1, s2⟩ | ⟨s, hs, rfl, s1, s2⟩
  · refine QR.bad (v := m1) rm ?_ (fun h1 e1 ob1 => ?_)
    · rcases nOut_or x (n := sC σ 0) (by omega) with hx | ⟨k, hk, rfl⟩
      · simp (disch := omega) only [F_X11_must, xS xc, tS td, nS, t_bookOut td hx]
      · simp (disch := omega) only [F_X11_must, xS xc, tS td, nS, t_bookIn td ok hk, s1]
    · simp (disch := omega) only [F_X12_must, nS, e1, s2]
  rcases nOut_or x (n := sC σ 0) (by omega) with hx | ⟨k, hk, rfl⟩
  · refine QR.nob (v := m1) ok rm hx ?_ (fun h1 h2 e1 ob1 e2 => ?_)
    · simp (disch := omega) only [F_X11_must, xS xc, tS td, nS, t_bookOut td hx]
    · simp (disch := omega) only [F_X12_must, nS, e1, s2, ob1, e2]
  have cb := t_CB td ok hk
  obtain ⟨-, -, ⟨A6, B6, I6, J6, o6⟩, -, -, -⟩ := sc
  refine QR.go (v := if gB (bMB (sB σ k)) s 0 none = true then nI (mu (bMB (sB σ k)) (fun l => gB (bMB (sB σ k)) s 0 (some l)) s (mbL (bMB (sB σ k)))) else m1) [] ok rm hk ?_ (by decide) (fun h1 h2 A B I J e1 ob1 e2 o2 hb => ⟨h2, A, B, I, J, ?_, o2, Fr.rf, On.rf⟩)
  · simp (disch := omega) only [F_X11_must, xS xc, tS td, nS, t_bookIn td ok hk, s1, o6.ob, c_must o6 cb hs]
  · obtain ⟨S, e, es⟩ := d_ask o2 hb hs (out := 0) (w := none) (by omega) (okL_none _)
    rw [oI_none] at e
    cases hg : gB (bMB (sB σ k)) s 0 none with
    | false =>
      rw [hg] at es
      have es : F_X12_isSceneIn h2 (c + 80) (nI S) (nI s) = some (nI 0) := es
      rw [if_neg (fun q => by cases q)]
      simp (disch := omega) only [F_X12_must, nS, e1, s2, ob1, e2, o2.ob, e, es]
    | true =>
      rw [hg] at es
      have es : F_X12_isSceneIn h2 (c + 80) (nI S) (nI s) = some (nI 1) := es
      rw [if_pos rfl]
      simp (disch := omega) only [F_X12_must, nS, e1, s2, ob1, e2, o2.ob, e, es, d_mustL o2 hb hs]
end CALLS
