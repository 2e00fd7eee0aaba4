/-! ===== calls: town, feed ===== -/
section TSH
variable {h : qH} {a : Nat} {t : Nat → Int32} {j : Nat} {A : Nat → Nat → Int32} {B : Nat → Nat → Int64} {I : Nat → Int32} {J : Nat → Int64}
def d_tans (h14 : qH) (a0 : Nat) (a2 : Int32) : Option (Int32 × qH) := (F_X12_in h14 a2 (10 : Int32) (49 : Int32)).bind fun x16 => (if x16 = 0 then (if a2 = 0 then (q_fI h14 a0 12 45).bind fun x20 => some (x20, h14) else if a2 = 1 then (q_ob h14 a0 12).bind fun _ => (F_X12_listen h14 a0).bind fun x25 => some (x25, h14) else if a2 = 2 then (q_ob h14 a0 12).bind fun _ => (F_X12_listen h14 a0).bind fun x30 => (q_ob h14 a0 12).bind fun _ => (F_X12_othersIn h14 a0 x30).bind fun x34 => some (x34, h14) else if a2 = 3 then (q_ob h14 a0 12).bind fun _ => (F_X12_guard h14 a0).bind fun x39 => some (x39, h14) else if a2 = 4 then (q_ob h14 a0 12).bind fun _ => (F_X12_wrong h14 a0).bind fun x44 => some (x44, h14) else if a2 = 5 then (q_ob h14 a0 12).bind fun _ => (F_X12_hush h14 a0).bind fun x49 => some (x49, h14) else some ((-1 : Int32), h14)) else (q_fI h14 a0 12 45).bind fun x51 => (if x51 ≤ (q_rem a2 (10 : Int32)) then some ((-1 : Int32), h14) else (q_ob h14 a0 12).bind fun _ => (F_X12_ofHouse h14 a0 (a2 / (10 : Int32)) (q_rem a2 (10 : Int32))).bind fun x56 => some (x56, h14)))
theorem d_tshow (o : OB h a 12 mdL A B I J) (ht : HT A I t j) (x : Int32) : d_tans h a x = some (if x < nI 0 then m1 else aT t x.toNatClampNeg, h) := by
  obtain ⟨v0, v2, v9, vw, vk⟩ := tv_ok ht.1
  rcases nSg x with hx | ⟨q, hq, rfl⟩
  · rw [if_pos hx]
    have := in_out h (y := x) (lo := 10) (hi := 49) (by omega) (by omega) (Or.inl hx)
    simp (disch := omega) only [d_tans, nS, this, gN hx]
  rw [if_neg (fun e => by have := (nI_ltI hq (by omega)).mp e; omega), nI_cl hq]
  have hbl := bl_le t (eN t - 1)
  rcases (show (q < 10 ∨ 49 < q) ∨ (10 ≤ q ∧ q < 50) by omega) with hq2 | ⟨q1, q2⟩
  · have hin := in_out h (y := nI q) (lo := 10) (hi := 49) (by omega) (by omega) (Or.inr ⟨q, rfl, hq, hq2⟩)
    rcases (show q = 0 ∨ q = 1 ∨ q = 2 ∨ q = 3 ∨ q = 4 ∨ q = 5 ∨ (6 ≤ q ∧ (q < 10 ∨ 50 ≤ q)) by omega) with rfl | rfl | rfl | rfl | rfl | rfl | ⟨q1, q2⟩
    · show d_tans h a (nI 0) = some (nI (eN t), h)
      simp (disch := omega) only [d_tans, nS, hin, tS2 o ht]
    · show d_tans h a (nI 1) = some (nI (bl t (eN t - 1)), h)
      simp (disch := omega) only [d_tans, nS, hin, o.ob, d_listen o ht]
    · show d_tans h a (nI 2) = some (nI (ot t (bl t (eN t - 1)) (eN t)), h)
      have := d_others o ht (x := bl t (eN t - 1)) (by omega)
      simp (disch := omega) only [d_tans, nS, hin, o.ob, d_listen o ht, this]
    · show d_tans h a (nI 3) = some (nI (gu2 t (2 ^ eN t - 1)), h)
      have e' := d_guard o ht
      generalize gu2 t (2 ^ eN t - 1) = G at e' ⊢
      simp (disch := omega) only [d_tans, nS, hin, o.ob, e']
    · show d_tans h a (nI 4) = some (nI (wcp t (eN t - 1)), h)
      simp (disch := omega) only [d_tans, nS, hin, o.ob, d_wrong o ht]
    · show d_tans h a (nI 5) = some (nI (hu t (eN t - 1)), h)
      simp (disch := omega) only [d_tans, nS, hin, o.ob, d_hush o ht]
    · rw [aT_m q1 q2]
      simp (disch := omega) only [d_tans, nS, hin]
  · have hin := in_in h (n := q) (lo := 10) (hi := 49) (by omega) q1 (by omega)
    rcases Nat.lt_or_ge (q % 10) (eN t) with hc | hc
    · have := d_house o ht q1 q2 hc
      simp (disch := omega) only [d_tans, nS, hin, tS2 o ht, this]
    · rw [aT_h q1 q2, if_pos hc]
      have hr := Nat.mod_lt q (show 0 < 10 by omega)
      simp (disch := omega) only [d_tans, nS, hin, tS2 o ht]
end TSH
/-! a byte is fed -/
theorem i2b_eq (x : Int32) (i : Nat) (hi : i < 4) : q_i2b (q_ushr x (nI (24 - 8 * i))) = q_i2b (q_shr x (nI (24 - 8 * i))) := by
  have hs : 24 - 8 * i < 32 := by omega
  have h1 : (q_shr x (nI (24 - 8 * i))).toBitVec = x.toBitVec.sshiftRight (24 - 8 * i) := by
    have := sm_ok (24 - 8 * i) hs
    unfold q_shr
    show x.toBitVec.sshiftRight (((nI (24 - 8 * i) &&& 31).toBitVec.smod 32).toNat) = _
    rw [this]
  have h2 : (q_ushr x (nI (24 - 8 * i))).toBitVec = x.toBitVec >>> (24 - 8 * i) := by
    apply BitVec.eq_of_toNat_eq
    unfold q_ushr
    rw [pk_ushr x _ (24 - 8 * i) (by rcases (show i = 0 ∨ i = 1 ∨ i = 2 ∨ i = 3 by omega) with rfl | rfl | rfl | rfl <;> decide), BitVec.toNat_ushiftRight, Nat.shiftRight_eq_div_pow]
  unfold q_i2b
  congr 1
  apply Int8.toBitVec_inj.mp
  show (q_ushr x (nI (24 - 8 * i))).toBitVec.signExtend 8 = (q_shr x (nI (24 - 8 * i))).toBitVec.signExtend 8
  rw [h1, h2]
  apply BitVec.eq_of_getLsbD_eq
  intro k hk
  rw [BitVec.getLsbD_signExtend, BitVec.getLsbD_signExtend, BitVec.getLsbD_ushiftRight, BitVec.getLsbD_sshiftRight]
  have k1 : k < 32 := by omega
  have k2 : 24 - 8 * i + k < 32 := by omega
  have k3 : ¬ 32 ≤ k := by omega
  simp [k1, k2, k3]
def by8 (x : Int32) (i : Nat) : Int32 := q_i2b (q_shr x (nI (24 - 8 * i)))
theorem by8_fit (x : Int32) (i : Nat) : fits .byte (.int (by8 x i)) = true := pk_fb _
theorem by8_nar (x : Int32) (i : Nat) : vp_nar .byte (by8 x i) = by8 x i := pk_vb _
def pb (σ : SG) (y : Int32) : SG := sgZ (sgT σ (upd (sT σ) (sZ σ) y)) (sZ σ + 1)
def fd (σ : SG) (x : Int32) : Nat → SG
  | 0 => σ
  | i + 1 => pb (fd σ x i) (by8 x i)
theorem fd_Z (σ : SG) (x : Int32) : ∀ i, sZ (fd σ x i) = sZ σ + i := by
  intro i
  induction i with
  | zero => rfl
  | succ i ih => show sZ (fd σ x i) + 1 = _; rw [ih]; rfl
theorem pb_ok {σ : SG} (ok : SGok σ) {y : Int32} (hz : sZ σ < 600) (hy : fits .byte (.int y) = true) : SGok (pb σ y) := by
  obtain ⟨o1, o2, o3, o4, o5, o6, o7⟩ := ok
  refine ⟨show sZ σ + 1 ≤ 600 by omega, o2, o3, o4, o5, o6, fun i => ?_⟩
  show fits .byte (.int (upd (sT σ) (sZ σ) y i)) = true
  by_cases e : i = sZ σ
  · subst e; rw [pk_us]; exact hy
  · rw [pk_un e]; exact o7 i
theorem fd_ok {σ : SG} (ok : SGok σ) (x : Int32) : ∀ i, sZ σ + i ≤ 600 → SGok (fd σ x i) := by
  intro i
  induction i with
  | zero => intro _; exact ok
  | succ i ih =>
    intro hi
    exact pb_ok (ih (by omega)) (by rw [fd_Z]; omega) (by8_fit x i)
def shi : Nat → Int32
  | 0 => nI 24
  | 1 => nI 16
  | 2 => nI 8
  | 3 => nI 0
  | _ => -nI 8
theorem shi_ok (i : Nat) (hi : i < 4) : shi i = nI (24 - 8 * i) ∧ shi i + -nI 8 = shi (i + 1) ∧ ¬ shi i < nI 0 := by
  rcases (show i = 0 ∨ i = 1 ∨ i = 2 ∨ i = 3 by omega) with rfl | rfl | rfl | rfl <;> decide
theorem shi_end : shi 4 < nI 0 := by decide
theorem c_add {h : qH} {t : Nat} {σ : SG} (d : TD h t σ) (x : Int32) (hz : sZ σ + 4 ≤ 600) : ∃ h', F_X9_addNumber h t x = some h' ∧ TD h' t (fd σ x 4) ∧ Fr h h' t (t + 2) := by
  obtain ⟨h', e', d', r'⟩ := q_lp_idx (step := s_X9_addNumber_3 t x) (fun i s => s.1 = shi i ∧ TD s.2 t (fd σ x i) ∧ Fr h s.2 t (t + 2)) 4 (fun h' => TD h' t (fd σ x 4) ∧ Fr h h' t (t + 2)) (by
    rintro i ⟨y, h1⟩ hi ⟨hy, d1, r1⟩
    dsimp only at hy d1 r1
    subst hy
    obtain ⟨k1, k2, k3⟩ := shi_ok i hi
    have hzi := fd_Z σ x i
    obtain ⟨h2, e2, d2, r2⟩ := d1.sB (i := sZ (fd σ x i)) (by omega) (q_i2b (q_ushr x (shi i)))
    obtain ⟨h3, e3, d3, r3⟩ := d2.p6 (sZ (fd σ x i) + 1)
    have e6 : q_fI h2 t 9 6 = some (nI (sZ (fd σ x i))) := (tS d2).2.1
    refine ⟨(shi (i + 1), h3), ?_, rfl, ?_, (r1.tr (r2.wd (by omega) (by omega))).tr (r3.wd (by omega) (by omega))⟩
    · simp (disch := omega) only [s_X9_addNumber_3, b_X9_addNumber_3, nS, if_neg k3, tS d1, e2, e6, e3, k2]
    · have : vp_nar .byte (q_i2b (q_ushr x (shi i))) = by8 x i := by rw [k1, i2b_eq x i hi]; exact by8_nar x i
      rw [this] at d3
      exact d3) (by
    rintro ⟨y, h1⟩ ⟨hy, d1, r1⟩
    dsimp only at hy d1 r1
    subst hy
    exact ⟨h1, by simp (disch := omega) only [s_X9_addNumber_3, b_X9_addNumber_3, nS, gN shi_end], d1, r1⟩) q_N (nI 24, h) ⟨rfl, d, Fr.rf⟩ (q_lt_N (by omega))
  refine ⟨h', ?_, d', r'⟩
  simp (disch := omega) only [F_X9_addNumber, nS, e']
theorem d_four {h : qH} {a : Nat} {A : Nat → Nat → Int32} {B : Nat → Nat → Int64} {I : Nat → Int32} {J : Nat → Int64} {σ : SG} {im : Nat → Option SG} (o : OB h a 12 mdL A B I J) (pm : PM A 0 σ) (ki : KI A im) (x : Int32) (hz : sZ σ + 4 ≤ 600) : ∃ h' A', F_X12_four h a x = some h' ∧ OB h' a 12 mdL A' B I J ∧ PM A' 0 (fd σ x 4) ∧ KI A' im ∧ Fr h h' a (a + 27) := by
  obtain ⟨h', e', A', o', pm', ki', r'⟩ := q_lp_idx (step := s_X12_four_3 a x) (fun i s => s.1 = shi i ∧ ∃ A', OB s.2 a 12 mdL A' B I J ∧ PM A' 0 (fd σ x i) ∧ KI A' im ∧ Fr h s.2 a (a + 27)) 4 (fun h' => ∃ A', OB h' a 12 mdL A' B I J ∧ PM A' 0 (fd σ x 4) ∧ KI A' im ∧ Fr h h' a (a + 27)) (by
    rintro i ⟨y, h1⟩ hi ⟨hy, A1, o1, pm1, ki1, r1⟩
    dsimp only at hy o1 r1
    subst hy
    obtain ⟨k1, k2, k3⟩ := shi_ok i hi
    have hzi := fd_Z σ x i
    have a20 : A1 2 0 = nI (sZ (fd σ x i)) := pm1.2.1
    obtain ⟨h2, e2, o2, r2⟩ := X12_s1 o1 (i := sZ (fd σ x i)) (q_i2b (q_shr x (shi i))) (by omega)
    have a20' : upF A1 1 (upd (A1 1) (sZ (fd σ x i)) (vp_nar .byte (q_i2b (q_shr x (shi i))))) 2 0 = nI (sZ (fd σ x i)) := by rw [upF_ne _ _ (by decide)]; exact a20
    have hb : vp_nar .byte (q_i2b (q_shr x (shi i))) = by8 x i := by rw [k1]; exact by8_nar x i
    obtain ⟨h3, e3, o3, r3⟩ := X12_s2 o2 (i := 0) (nI (sZ (fd σ x i) + 1)) (by omega)
    refine ⟨(shi (i + 1), h3), ?_, rfl, _, o3, ?_, ?_, (r1.tr r2).tr r3⟩
    · simp (disch := omega) only [s_X12_four_3, b_X12_four_3, nS, if_neg k3, X12_rd o1, a20, e2, X12_rd o2, a20', e3, k2]
    · rw [hb]
      exact (pm1.t (i := sZ (fd σ x i)) (by8 x i)).z (sZ (fd σ x i) + 1)
    · exact (ki1.kl (KL.up (by omega) (by omega) (show sZ (fd σ x i) < 600 by omega) _)).kl (KL.up (by omega) (by omega) (show 0 < 1 by omega) _)) (by
    rintro ⟨y, h1⟩ ⟨hy, A1, o1, pm1, ki1, r1⟩
    dsimp only at hy o1 r1
    subst hy
    exact ⟨h1, by simp (disch := omega) only [s_X12_four_3, b_X12_four_3, nS, gN shi_end], A1, o1, pm1, ki1, r1⟩) q_N (nI 24, h) ⟨rfl, A, o, pm, ki, Fr.rf⟩ (q_lt_N (by omega))
  refine ⟨h', A', ?_, o', pm', ki', r'⟩
  simp (disch := omega) only [F_X12_four, nS, e']
section CALLS
variable {h : qH} {c nx : Nat} {σ : SG} {im : Nat → Option SG}
theorem q_feed (s : ST h c nx σ im) (x1 x2 x3 x4 x5 : Int32) : QT h c nx (F_X11_feed h c x1 x2 x3 x4 x5) (fun h1 => F_X12_feed h1 (c + 80) x1 x2 x3 x4 x5) := by
  obtain ⟨ok, rc, rm, hn⟩ := s
  have xc := rc.1
  have td := rc.2.1
  have hz := ok.1
  rcases Nat.lt_or_ge 600 (sZ σ + 20) with hf | hf
  · obtain ⟨h1, A, B, I, J, e1, o1, pm, ki, r1⟩ := rm.p0
    have a20 : A 2 0 = nI (sZ σ) := pm.2.1
    refine ⟨m1, h, h1, σ, im, ?_, ?_, fun _ _ => rfl, fun q hq => r1 q (by omega), rm.ob, ok, rc.m r1, ⟨A, B, I, J, o1, pm, ki⟩, hn⟩
    · simp (disch := omega) only [F_X11_feed, nS, xS xc, tS td]
    · simp (disch := omega) only [F_X12_feed, nS, e1, X12_rd o1, a20]
  · have xk : ∀ {h'}, Fr h h' (c + 1) (c + 1 + 2) → XC h' c := fun r => by unfold XC at *; rw [r _ (by omega)]; exact xc
    have z1 := fd_Z σ x1 4
    obtain ⟨h1, e1, d1, r1⟩ := c_add td x1 (by omega)
    have z2 := fd_Z (fd σ x1 4) x2 4
    obtain ⟨h2, e2, d2, r2⟩ := c_add d1 x2 (by omega)
    have z3 := fd_Z (fd (fd σ x1 4) x2 4) x3 4
    obtain ⟨h3, e3, d3, r3⟩ := c_add d2 x3 (by omega)
    have z4 := fd_Z (fd (fd (fd σ x1 4) x2 4) x3 4) x4 4
    obtain ⟨h4, e4, d4, r4⟩ := c_add d3 x4 (by omega)
    have z5 := fd_Z (fd (fd (fd (fd σ x1 4) x2 4) x3 4) x4 4) x5 4
    obtain ⟨h5, e5, d5, r5⟩ := c_add d4 x5 (by omega)
    have k1 := fd_ok ok x1 4 (by omega)
    have k2 := fd_ok k1 x2 4 (by omega)
    have k3 := fd_ok k2 x3 4 (by omega)
    have k4 := fd_ok k3 x4 4 (by omega)
    have k5 := fd_ok k4 x5 4 (by omega)
    have s2 := r1.tr r2
    have s3 := s2.tr r3
    have s4 := s3.tr r4
    have s5 := s4.tr r5
    have s5' : Fr h h5 (c + 1) (c + 52) := s5.wd (by omega) (by omega)
    have rm5 := rm.c s5' (Or.inl (by omega))
    obtain ⟨g0, A, B, I, J, f0, o0, pm0, ki0, t0⟩ := rm5.p0
    obtain ⟨g1, A1, f1, o1, pm1, ki1, t1⟩ := d_four o0 pm0 ki0 x1 (by omega)
    obtain ⟨g2, A2, f2, o2, pm2, ki2, t2⟩ := d_four o1 pm1 ki1 x2 (by omega)
    obtain ⟨g3, A3, f3, o3, pm3, ki3, t3⟩ := d_four o2 pm2 ki2 x3 (by omega)
    obtain ⟨g4, A4, f4, o4, pm4, ki4, t4⟩ := d_four o3 pm3 ki3 x4 (by omega)
    obtain ⟨g5, A5, f5, o5, pm5, ki5, t5⟩ := d_four o4 pm4 ki4 x5 (by omega)
    have tt := (((t0.tr t1).tr t2).tr t3).tr (t4.tr t5)
    have zz : sZ (fd (fd (fd (fd (fd σ x1 4) x2 4) x3 4) x4 4) x5 4) = sZ σ + 20 := by omega
    have a20 : A 2 0 = nI (sZ σ) := pm0.2.1
    have a25 : A5 2 0 = nI (sZ σ + 20) := by rw [← zz]; exact pm5.2.1
    have v5 : q_fI h5 (c + 1) 9 6 = some (nI (sZ σ + 20)) := by rw [← zz]; exact (tS d5).2.1
    refine ⟨nI (sZ σ + 20), h5, g5, _, im, ?_, ?_, fun q hq => s5' q (by omega), fun q hq => (tt q (by omega)).trans (s5' q (by omega)), rm5.ob, k5, (rc.t s5' d5).m tt, ⟨A5, B, I, J, o5, pm5, ki5⟩, hn⟩
    · clear z1 z2 z3 z4 z5 zz
      simp (disch := omega) only [F_X11_feed, nS, xS xc, tS td, e1, xS (xk r1), (tS d1).1, e2, xS (xk s2), (tS d2).1, e3, xS (xk s3), (tS d3).1, e4, xS (xk s4), (tS d4).1, e5, xS (xk s5), v5]
    · clear z1 z2 z3 z4 z5 zz
      simp (disch := omega) only [F_X12_feed, nS, f0, X12_rd o0, a20, f1, o1.ob, f2, o2.ob, f3, o3.ob, f4, o4.ob, f5, X12_rd o5, a25]
theorem q_town (s : ST h c nx σ im) (x y : Int32) : QT h c nx (F_X11_town h c x y) (fun h1 => F_X12_town h1 (c + 80) x y) := by
  obtain ⟨ok, rc, rm, hn⟩ := s
  have xc := rc.1
  have td := rc.2.1
  have hc3 := ok.2.1 3 (by omega)
  rcases nOut_or x (n := sC σ 3) (by omega) with hx | ⟨k, hk, rfl⟩
  · obtain ⟨h1, A, B, I, J, e1, o1, pm, ki, r1⟩ := rm.p0
    obtain ⟨h2, e2, o2, r2⟩ := X12_p44 o1 x
    refine ⟨m1, h, h2, σ, im, ?_, ?_, fun _ _ => rfl, fun q hq => (r2 q (by omega)).trans (r1 q (by omega)), rm.ob, ok, rc.m (r1.tr r2), ⟨A, B, _, J, o2, pm, ki⟩, hn⟩
    · simp (disch := omega) only [F_X11_town, nS, xS xc, tS td, t_townOut td hx]
    · show F_X12_town h (c + 80) x y = some (m1, h2)
      have ei := d_is_out o2 pm ok (s := 3) (by omega) hx
      unfold F_X12_town
      have e1 : q_put h (c + 80) 12 0 (.int (0 : Int32)) = some h1 := e1
      rw [e1, Option.bind_some, e2, Option.bind_some, o2.ob, Option.bind_some, n_lit 3, ei, Option.bind_some, if_pos (by decide)]
      rfl
  · have tv := ok.2.2.2.2.2.1 k hk
    obtain ⟨A, B, I, J, o, hw⟩ := td.2.2.2.2.2.2.2 k (by omega)
    obtain ⟨h1, A1, e1, o1, w1, r1⟩ := c_tshow o (hw hk) tv y
    have r1' : Fr h h1 (c + 1) (c + 52) := r1.wd (by omega) (by omega)
    have td1 : TD h1 (c + 1) σ := td.tw (by omega) r1 ⟨A1, B, I, J, o1, fun _ => w1⟩
    have rm1 := rm.c r1' (Or.inl (by omega))
    obtain ⟨h2, A2, B2, I2, J2, e2, o2, pm, ki, r2⟩ := rm1.p0
    obtain ⟨h3, e3, o3, r3⟩ := X12_p44 o2 (nI k)
    have ht0 := tv_ok tv
    have hrow : ∀ i, i < 27 → A2 9 (27 * k + i) = sW σ k i := fun i hi => by
      have := pm.2.2.2.2.2.2.2.2 k i (by omega) hi
      rw [show 54 * 0 + (27 * k + i) = 27 * k + i by omega] at this
      exact this
    have i44 : upd I2 44 (nI k) 44 = nI k := by simp (disch := omega) only [uS]
    have hr0 : A2 9 (27 * k + 0) = nI (eN (sW σ k)) := by rw [hrow 0 (by omega)]; exact ht0.1
    have et : F_X12_townOf h3 (c + 80) (nI 0) = some (nI (eN (sW σ k))) := by
      simp (disch := omega) only [F_X12_townOf, nS, X12_rd o3, i44, hr0]
    obtain ⟨h4, e4, o4, r4⟩ := X12_p45 o3 (nI (eN (sW σ k)))
    have ht : HT A2 (upd (upd I2 44 (nI k)) 45 (nI (eN (sW σ k)))) (sW σ k) k := ⟨tv, by omega, by simp (disch := omega) only [uS], by simp (disch := omega) only [uS], hrow⟩
    have es := d_tshow o4 ht y
    have ei := d_is_in o3 pm ok (s := 3) (by omega) hk
    generalize (if y < nI 0 then m1 else aT (sW σ k) y.toNatClampNeg) = v at e1 es
    refine ⟨v, h1, h4, σ, im, ?_, ?_, fun q hq => r1' q (by omega), fun q hq => (r4 q (by omega)).trans ((r3 q (by omega)).trans ((r2 q (by omega)).trans (r1' q (by omega)))), rm1.ob, ok, (rc.t r1' td1).m ((r2.tr r3).tr r4), ⟨A2, B2, _, J2, o4, pm, ki⟩, hn⟩
    · simp (disch := omega) only [F_X11_town, nS, xS xc, tS td, t_townIn td ok hk, o.ob, e1]
    · show F_X12_town h1 (c + 80) (nI k) y = some (v, h4)
      unfold F_X12_town
      have e2 : q_put h1 (c + 80) 12 0 (.int (0 : Int32)) = some h2 := e2
      rw [e2, Option.bind_some, e3, Option.bind_some, o3.ob, Option.bind_some, n_lit 3, ei, Option.bind_some, if_neg (by decide), Option.bind_some, n_lit 0, et, Option.bind_some, e4, Option.bind_some]
      exact es
end CALLS
