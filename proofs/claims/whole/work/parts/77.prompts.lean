/-! ===== calls: prompts, parted ===== -/
/-- a question for which the class uses what it works with -/
def QW {α : Type} (h : qH) (c : Nat) (σ : SG) (im : Nat → Option SG) (f : Option (α × qH)) (g : qH → Option (α × qH)) : Prop := ∃ v h1 h', f = some (v, h1) ∧ g h1 = some (v, h') ∧ Fr h h1 (c + 53) (c + 80) ∧ SC h1 c ∧ Fr h1 h' (c + 80) (c + 80 + 27) ∧ RM h' (c + 80) σ im
/-- a loop that looks for the first -/
theorem q_lp_ff {σ ρ : Type} {step : σ → Option (σ ⊕ ρ)} (f : Nat → σ) (n : Nat) (P : Nat → Prop) [DecidablePred P] {yes : Nat → ρ} {no : ρ} (h1 : ∀ i, i < n → P i → step (f i) = some (.inr (yes i))) (h2 : ∀ i, i < n → ¬ P i → step (f i) = some (.inl (f (i + 1)))) (h3 : step (f n) = some (.inr no)) {N : Nat} (hN : n < N) : (∃ i, i < n ∧ P i ∧ (∀ j, j < i → ¬ P j) ∧ q_lp step N (f 0) = some (yes i)) ∨ ((∀ i, i < n → ¬ P i) ∧ q_lp step N (f 0) = some no) := by
  have key : ∀ d i N, n - i = d → i ≤ n → n - i < N → (∀ j, j < i → ¬ P j) → (∃ i0, i0 < n ∧ P i0 ∧ (∀ j, j < i0 → ¬ P j) ∧ q_lp step N (f i) = some (yes i0)) ∨ ((∀ j, j < n → ¬ P j) ∧ q_lp step N (f i) = some no) := by
    intro d
    induction d with
    | zero =>
      intro i N hd hi hN hj
      have : i = n := by omega
      subst this
      obtain ⟨N', rfl⟩ : ∃ N', N = N' + 1 := ⟨N - 1, by omega⟩
      exact Or.inr ⟨hj, q_lp_stop h3⟩
    | succ d ih =>
      intro i N hd hi hN hj
      obtain ⟨N', rfl⟩ : ∃ N', N = N' + 1 := ⟨N - 1, by omega⟩
      by_cases hp : P i
      · exact Or.inl ⟨i, by omega, hp, hj, q_lp_stop (h1 i (by omega) hp)⟩
      · rw [q_lp_go (h2 i (by omega) hp)]
        exact ih (i + 1) N' (by omega) (by omega) (by omega) (fun j hj2 => by
          rcases Nat.lt_or_ge j i with h | h
          · exact hj j h
          · have : j = i := by omega
            exact this ▸ hp)
  exact key n 0 N (by omega) (by omega) (by omega) (fun j hj => by omega)
theorem frc_ne (up down : Nat) {y : Int32} (hy : ¬ y = 0) : frc up down y = frc up down 1 := by
  unfold frc
  rw [if_neg hy, if_neg (by decide)]
section CALLS
variable {h : qH} {c nx : Nat} {σ : SG} {im : Nat → Option SG}
theorem q_prompts (s : ST h c nx σ im) (x y z : Int32) : QW h c σ im (F_X11_prompts h c x y z) (fun h1 => F_X12_prompts h1 (c + 80) x y z) := by
  obtain ⟨ok, ⟨xc, td, sc, -⟩, rm, -⟩ := s
  -- nothing done by the class
  have triv : (∃ h', F_X12_prompts h (c + 80) x y z = some (lM1, h') ∧ Fr h h' (c + 80) (c + 80 + 27) ∧ RM h' (c + 80) σ im) → F_X11_prompts h c x y z = some (lM1, h) → QW h c σ im (F_X11_prompts h c x y z) (fun h1 => F_X12_prompts h1 (c + 80) x y z) := fun ⟨h', e1, e2, e3⟩ e4 => ⟨lM1, h, h', e4, e1, Fr.rf, sc, e2, e3⟩
  obtain ⟨h1, A, B, I, J, e1, o1, pm, ki, r1⟩ := rm.p0
  have hr1 : RM h1 (c + 80) σ im := ⟨A, B, I, J, o1, pm, ki⟩
  have hy : (y < nI 0 ∨ (∃ n, y = nI n ∧ n < 2 ^ 31 ∧ (n < 1 ∨ 20 < n))) ∨ ∃ n, y = nI n ∧ 1 ≤ n ∧ n ≤ 20 := by
    rcases nSg y with h0 | ⟨n, hn, rfl⟩
    · exact Or.inl (Or.inl h0)
    · rcases (show (n < 1 ∨ 20 < n) ∨ (1 ≤ n ∧ n ≤ 20) by omega) with h0 | h0
      · exact Or.inl (Or.inr ⟨n, rfl, hn, h0⟩)
      · exact Or.inr ⟨n, rfl, h0⟩
  rcases hy with hy | ⟨n, rfl, hn1, hn2⟩
  · refine triv ⟨h1, ?_, r1, hr1⟩ ?_
    · rcases hy with h0 | ⟨n, rfl, hn, h0 | h0⟩
      · simp (disch := omega) only [F_X12_prompts, F_X12_in, nS, lS, e1, gN h0]
      · simp (disch := omega) only [F_X12_prompts, F_X12_in, nS, lS, e1]
      · simp (disch := omega) only [F_X12_prompts, F_X12_in, nS, lS, e1]
    · rcases nOut_or x (n := sC σ 0) (by have := ok.2.1 0 (by omega); omega) with hx | ⟨k, hk, rfl⟩
      · simp (disch := omega) only [F_X11_prompts, xS xc, tS td, nS, lS, t_bookOut td hx]
      · rcases hy with h0 | ⟨n, rfl, hn, h0 | h0⟩
        · simp (disch := omega) only [F_X11_prompts, xS xc, tS td, nS, lS, t_bookIn td ok hk, gN h0]
        · simp (disch := omega) only [F_X11_prompts, xS xc, tS td, nS, lS, t_bookIn td ok hk]
        · simp (disch := omega) only [F_X11_prompts, xS xc, tS td, nS, lS, t_bookIn td ok hk]
  · rcases nOut_or x (n := sC σ 0) (by have := ok.2.1 0 (by omega); omega) with hx | ⟨k, hk, rfl⟩
    · obtain ⟨h2, e2, rm2, r2⟩ := hand_out o1 pm ki ok hx
      refine triv ⟨h2, ?_, r1.tr r2, rm2⟩ ?_
      · simp (disch := omega) only [F_X12_prompts, F_X12_in, nS, lS, e1, o1.ob, e2]
      · simp (disch := omega) only [F_X11_prompts, xS xc, tS td, nS, lS, t_bookOut td hx]
    · clear triv e1 o1 pm ki r1 hr1 A B I J h1
      have cb := t_CB td ok hk
      have okm := cb.1
      have hL := L_le okm
      obtain ⟨b, hbe⟩ : ∃ b, b = sB σ k := ⟨_, rfl⟩
      rw [← hbe] at cb okm hL
      have hsc := sc
      obtain ⟨-, -, -, ⟨A5, B5, I5, J5, o5⟩, -, -⟩ := sc
      obtain ⟨hc, J6, e6, o6, r6, j2, j3⟩ := c_driesByNext o5 cb (n := n) hn2
      have xc6 : XC hc c := by unfold XC at *; rw [r6 _ (by omega)]; exact xc
      have fr6 : Fr h hc (c + 53) (c + 80) := r6.wd (by omega) (by omega)
      have sc6 : SC hc c := hsc.u5 r6 ⟨A5, B5, I5, J6, o6⟩
      obtain ⟨h1, A, B, I, J, e1, o1, pm, ki, r1⟩ := (rm.c fr6 (Or.inl (Nat.le_refl _))).p0
      obtain ⟨h2, A2, I2, e2, o2, hb, pm2, ki2, r2⟩ := hand_in o1 pm ki ok hk
      rw [← hbe] at hb
      obtain ⟨h3, A3, e3, o3, r3, n3, z3⟩ := d_layRow o2 hb (r := 34) (q := c + 80 + 19) (Or.inl ⟨rfl, rfl⟩) (n := n) hn2
      have hpl := pl_le (bMB b) n (st0 (bMB b))
      obtain ⟨h4, e4, o4, r4⟩ := X12_p36 o3 (nI (pl (bMB b) n (st0 (bMB b))))
      have hb4 : HB A3 (upd I2 36 (nI (pl (bMB b) n (st0 (bMB b))))) b k := hb.cg (n3 6 (by decide)) (n3 25 (by decide)) (n3 26 (by decide)) rfl rfl
      have hd := drs_le okm n
      have lp : q_lp (s_X12_prompts_46 h4 (c + 80) z) q_N (lN 0, nI 0) = some (lN (drs (bMB b) n)) := by
        refine q_lp_for (fun i => (lN (sm (fun i => dr (bMB b) (wr (bMB b) i)) i), nI i)) (pl (bMB b) n (st0 (bMB b))) (fun i hi => ?_) ?_ q_N (q_lt_N (by omega))
        · obtain ⟨l, w1, w2, w3, w4⟩ := wr_lt okm hi
          have hdr := (dr_ok okm w4).2
          have z := z3 i hi
          rw [w3] at z
          show s_X12_prompts_46 h4 (c + 80) _ (lN (sm (fun i => dr (bMB b) (wr (bMB b) i)) i), nI i) = some (.inl (lN (sm (fun i => dr (bMB b) (wr (bMB b) i)) i + dr (bMB b) (wr (bMB b) i)), nI (i + 1)))
          rw [w3]
          have hdd := (d_pack o4 hb4).2.2.2.2.2.2.2.2.1 (wh (bMB b) l) w4
          simp (disch := omega) only [s_X12_prompts_46, b_X12_prompts_46, nS, lS, X12_rd o4, show upd I2 36 (nI (pl (bMB b) n (st0 (bMB b)))) 36 = nI (pl (bMB b) n (st0 (bMB b))) from rfl, z, hdd]
        · show s_X12_prompts_46 h4 (c + 80) _ (lN (drs (bMB b) n), nI (pl (bMB b) n (st0 (bMB b)))) = _
          simp (disch := omega) only [s_X12_prompts_46, b_X12_prompts_46, nS, lS, X12_rd o4, show upd I2 36 (nI (pl (bMB b) n (st0 (bMB b)))) 36 = nI (pl (bMB b) n (st0 (bMB b))) from rfl]
      have hpt := d_part (h := h4) (up := drs (bMB b) n) (down := 10) (y := z) (by omega) (by omega) (by omega)
      refine ⟨lN (frc (drs (bMB b) n) 10 z), hc, h4, ?_, ?_, fr6, sc6, ((r1.tr r2).tr r3).tr r4, RM.mk pm2 ki2 o4 n3 (by decide)⟩
      · by_cases hz : z = nI 0
        · subst hz
          simp (disch := omega) only [F_X11_prompts, xS xc, tS td, nS, lS, t_bookIn td ok hk, o5.ob, e6, xS xc6, X5_rd o6, j2]
        · have hz' : (z = nI 0) ↔ False := iff_of_false hz id
          rw [frc_ne _ _ hz]
          simp (disch := omega) only [F_X11_prompts, xS xc, tS td, nS, lS, t_bookIn td ok hk, o5.ob, e6, xS xc6, X5_rd o6, j3, hz']
      · simp (disch := omega) only [F_X12_prompts, F_X12_in, nS, lS, e1, o1.ob, e2, X12_rd o2, e3, e4, lp, hpt]
/-- who says the i-th line by next, -1 if there is none -/
def ow (m : MB) (i : Nat) : Int32 := match itr m i (st0 m) with
  | none => m1
  | some l => nI (wh m l)
theorem c_ow {a : Nat} {m : MB} (cb : CB h a m) (i : Nat) : F_X0_whoSays h a (oI (itr m i (st0 m))) = some (ow m i) := by
  have hk := itr_ok cb.1 i (st0_ok m)
  unfold ow
  cases hh : itr m i (st0 m) with
  | none => simp (disch := omega) only [oI_none, cS cb]
  | some l =>
    have := hk l hh
    simp (disch := omega) only [oI_some, cS cb]
theorem ow_in {m : MB} (ok : MBok m) {i : Nat} (hi : i < pl m 20 (st0 m)) : ow m i = nI (wr m i) ∧ wr m i < 6 := by
  obtain ⟨l, h1, h2, h3, h4⟩ := wr_lt ok hi
  unfold ow
  rw [h1, h3]
  exact ⟨rfl, h4⟩
theorem ow_out {m : MB} {i : Nat} (hi : pl m 20 (st0 m) ≤ i) (hi2 : i < 20) : ow m i = m1 := by
  unfold ow
  rcases pl_end m 20 (st0 m) with h | h
  · omega
  · rw [← Nat.sub_add_cancel hi, itr_add, h, itr_none]
/-- the class's answer -/
theorem c_unlike {a b : Nat} {m m' : MB} {mg : Nat} (cb : CB h a m) (cc : CB h b m') : (∃ i, i < 20 ∧ ow m i ≠ ow m' i ∧ (∀ j, j < i → ow m j = ow m' j) ∧ F_X4_firstUnlike h mg a b = some (nI i)) ∨ ((∀ j, j < 20 → ow m j = ow m' j) ∧ F_X4_firstUnlike h mg a b = some m1) := by
  have fin : F_X4_firstUnlike h mg a b = (q_lp (s_X4_firstUnlike_32 h a b) q_N (oI (st0 m), oI (st0 m'), nI 0)).bind (Sum.elim (fun o3 => some o3) (fun _ => some m1)) := by
    rcases st0_oI (m := m) with ⟨h0, e0⟩ | ⟨h0, e0⟩ <;> rcases st0_oI (m := m') with ⟨h1, e1⟩ | ⟨h1, e1⟩ <;> rw [e0, e1] <;> simp (disch := omega) only [F_X4_firstUnlike, j_X4_firstUnlike_13, j_X4_firstUnlike_27, cS cb, cS cc, nS]
  rw [fin]
  rcases q_lp_ff (step := s_X4_firstUnlike_32 h a b) (fun i => (oI (itr m i (st0 m)), oI (itr m' i (st0 m')), nI i)) 20 (fun i => ow m i ≠ ow m' i) (yes := fun i => .inl (nI i)) (no := .inr ()) (fun i hi hp => by
      simp (disch := omega) only [s_X4_firstUnlike_32, b_X4_firstUnlike_32, nS, cS cb, cS cc, c_ow cb i, c_ow cc i, if_neg hp]) (fun i hi hp => by
      have hp : ow m i = ow m' i := Decidable.of_not_not hp
      simp (disch := omega) only [s_X4_firstUnlike_32, b_X4_firstUnlike_32, nS, cS cb, cS cc, c_ow cb i, c_ow cc i, if_pos hp, c_next cb (itr_ok cb.1 i (st0_ok m)), c_next cc (itr_ok cc.1 i (st0_ok m')), itr_succ]) (by
      simp (disch := omega) only [s_X4_firstUnlike_32, b_X4_firstUnlike_32, nS]) (N := q_N) (by decide) with ⟨i, h1, h2, h3, h4⟩ | ⟨h1, h2⟩
  · refine Or.inl ⟨i, h1, h2, fun j hj => Decidable.of_not_not (h3 j hj), ?_⟩
    have h4 : q_lp (s_X4_firstUnlike_32 h a b) q_N (oI (st0 m), oI (st0 m'), nI 0) = some (.inl (nI i)) := h4
    rw [h4]
    rfl
  · refine Or.inr ⟨fun j hj => Decidable.of_not_not (h1 j hj), ?_⟩
    have h2 : q_lp (s_X4_firstUnlike_32 h a b) q_N (oI (st0 m), oI (st0 m'), nI 0) = some (.inr ()) := h2
    rw [h2]
    rfl
theorem q_parted (s : ST h c nx σ im) (x y : Int32) : QR h c nx σ im (F_X11_parted h c x y) (F_X12_parted h (c + 80) x y) := by
  obtain ⟨ok, ⟨xc, td, sc, -⟩, rm, -⟩ := s
  obtain ⟨-, -, -, -, ⟨A4, B4, I4, J4, o4⟩, -⟩ := sc
  obtain ⟨h1, A, B, I, J, e1, o1, pm, ki, r1⟩ := rm.p0
  rcases nOut_or x (n := sC σ 0) (by have := ok.2.1 0 (by omega); omega) with hx | ⟨k, hk, rfl⟩
  · obtain ⟨h2, e2, rm2, r2⟩ := hand_out o1 pm ki ok hx
    refine ⟨m1, h2, ?_, ?_, r1.tr r2, rm2⟩
    · rcases nOut_or y (n := sC σ 0) (by have := ok.2.1 0 (by omega); omega) with hy | ⟨k, hk, rfl⟩
      · simp (disch := omega) only [F_X11_parted, xS xc, tS td, nS, t_bookOut td hx, t_bookOut td hy]
      · simp (disch := omega) only [F_X11_parted, xS xc, tS td, nS, t_bookOut td hx, t_bookIn td ok hk]
    · simp (disch := omega) only [F_X12_parted, nS, e1, o1.ob, e2]
  obtain ⟨h2, A2, I2, e2, o2, hb, pm2, ki2, r2⟩ := hand_in o1 pm ki ok hk
  have cb := t_CB td ok hk
  obtain ⟨h3, A3, e3, o3, r3, n3, z3⟩ := d_layRow o2 hb (r := 34) (q := c + 80 + 19) (Or.inl ⟨rfl, rfl⟩) (n := 20) (by omega)
  obtain ⟨b, hbe⟩ : ∃ b, b = sB σ k := ⟨_, rfl⟩
  rw [← hbe] at hb cb e3 z3
  have hpl := pl_le (bMB b) 20 (st0 (bMB b))
  obtain ⟨h5, e5, o5, r5⟩ := X12_p36 o3 (nI (pl (bMB b) 20 (st0 (bMB b))))
  have pm5 := pm2.cg n3 (by decide)
  have ki5 := ki2.cg n3 (by decide)
  rcases nOut_or y (n := sC σ 0) (by have := ok.2.1 0 (by omega); omega) with hy | ⟨k', hk', rfl⟩
  · obtain ⟨h6, e6, rm6, r6⟩ := hand_out o5 pm5 ki5 ok hy
    refine ⟨m1, h6, ?_, ?_, (((r1.tr r2).tr r3).tr r5).tr r6, rm6⟩
    · simp (disch := omega) only [F_X11_parted, xS xc, tS td, nS, t_bookIn td ok hk, t_bookOut td hy]
    · simp (disch := omega) only [F_X12_parted, nS, e1, o1.ob, e2, X12_rd o2, e3, e5, o5.ob, e6]
  obtain ⟨h6, A6, I6, e6, o6, r6, n6, ni6, hb6⟩ := d_hand_in o5 pm5 ok hk'
  have cc := t_CB td ok hk'
  obtain ⟨h7, A7, e7, o7, r7, n7, z7⟩ := d_layRow o6 hb6 (r := 35) (q := c + 80 + 20) (Or.inr ⟨rfl, rfl⟩) (n := 20) (by omega)
  obtain ⟨b', hbe'⟩ : ∃ b, b = sB σ k' := ⟨_, rfl⟩
  rw [← hbe'] at hb6 cc e7 z7
  have hpl' := pl_le (bMB b') 20 (st0 (bMB b'))
  obtain ⟨h8, e8, o8, r8⟩ := X12_p37 o7 (nI (pl (bMB b') 20 (st0 (bMB b'))))
  obtain ⟨l1, hl1⟩ : ∃ l, l = pl (bMB b) 20 (st0 (bMB b)) := ⟨_, rfl⟩
  obtain ⟨l2, hl2⟩ : ∃ l, l = pl (bMB b') 20 (st0 (bMB b')) := ⟨_, rfl⟩
  have i36 : upd I6 37 (nI l2) 36 = nI l1 := by
    show I6 36 = nI l1
    rw [ni6 36 (by decide), hl1]
    rfl
  have i37 : upd I6 37 (nI l2) 37 = nI l2 := rfl
  rw [← hl1] at hpl e3 e5 z3
  rw [← hl2] at hpl' e7 e8 z7 o8
  have z34 : ∀ i, i < l1 → A7 34 i = ow (bMB b) i := fun i hi => by
    rw [n7 34 (by decide), n6 34 (by decide), z3 i hi, (ow_in cb.1 (by omega)).1]
  have z35 : ∀ i, i < l2 → A7 35 i = ow (bMB b') i := fun i hi => by
    rw [z7 i hi, (ow_in cc.1 (by omega)).1]
  have out1 : ∀ i, l1 ≤ i → i < 20 → ow (bMB b) i = m1 := fun i h1 h2 => ow_out (by omega) h2
  have out2 : ∀ i, l2 ≤ i → i < 20 → ow (bMB b') i = m1 := fun i h1 h2 => ow_out (by omega) h2
  have ne1 : ∀ i, i < l1 → ow (bMB b) i ≠ m1 := fun i hi e => by
    obtain ⟨q1, q2⟩ := ow_in cb.1 (i := i) (by omega)
    rw [q1] at e
    exact (nm1_eq (by omega)).mp e
  have ne2 : ∀ i, i < l2 → ow (bMB b') i ≠ m1 := fun i hi e => by
    obtain ⟨q1, q2⟩ := ow_in cc.1 (i := i) (by omega)
    rw [q1] at e
    exact (nm1_eq (by omega)).mp e
  have rmF : RM h8 (c + 80) σ im := RM.mk (S := [35, 25, 26]) pm5 ki5 o8 ((n6.mo (by decide)).tr (n7.mo (by decide))) (by decide)
  have frF : Fr h h8 (c + 80) (c + 80 + 27) := ((((((r1.tr r2).tr r3).tr r5).tr r6).tr r7).tr r8)
  have dl := q_lp_ff (step := s_X12_parted_55 h8 (c + 80)) (fun i => nI i) (max l1 l2) (fun i => ow (bMB b) i ≠ ow (bMB b') i) (yes := fun i => .inl (nI i)) (no := .inr ()) (fun i hi hp => by
      rcases Nat.lt_or_ge i l1 with q1 | q1 <;> rcases Nat.lt_or_ge i l2 with q2 | q2
      · rcases Nat.le_total l1 l2 with q3 | q3
        · simp (disch := omega) only [s_X12_parted_55, b_X12_parted_55, F_X12_greater, nS, X12_rd o8, i36, i37, z34 i q1, z35 i q2, if_neg hp]
        · rcases Nat.lt_or_ge l2 l1 with q4 | q4
          · simp (disch := omega) only [s_X12_parted_55, b_X12_parted_55, F_X12_greater, nS, X12_rd o8, i36, i37, z34 i q1, z35 i q2, if_neg hp]
          · simp (disch := omega) only [s_X12_parted_55, b_X12_parted_55, F_X12_greater, nS, X12_rd o8, i36, i37, z34 i q1, z35 i q2, if_neg hp]
      · simp (disch := omega) only [s_X12_parted_55, b_X12_parted_55, F_X12_greater, nS, X12_rd o8, i36, i37]
      · simp (disch := omega) only [s_X12_parted_55, b_X12_parted_55, F_X12_greater, nS, X12_rd o8, i36, i37]
      · omega) (fun i hi hp => by
      have hp : ow (bMB b) i = ow (bMB b') i := Decidable.of_not_not hp
      rcases Nat.lt_or_ge i l1 with q1 | q1 <;> rcases Nat.lt_or_ge i l2 with q2 | q2
      · rcases Nat.lt_or_ge l2 l1 with q4 | q4
        · simp (disch := omega) only [s_X12_parted_55, b_X12_parted_55, F_X12_greater, nS, X12_rd o8, i36, i37, z34 i q1, z35 i q2, if_pos hp]
        · simp (disch := omega) only [s_X12_parted_55, b_X12_parted_55, F_X12_greater, nS, X12_rd o8, i36, i37, z34 i q1, z35 i q2, if_pos hp]
      · exact absurd (hp.trans (out2 i q2 (by omega))) (ne1 i q1)
      · exact absurd (hp.symm.trans (out1 i q1 (by omega))) (ne2 i q2)
      · omega) (by
      rcases Nat.lt_or_ge l2 l1 with q4 | q4
      · simp (disch := omega) only [s_X12_parted_55, b_X12_parted_55, F_X12_greater, nS, X12_rd o8, i36, i37]
      · simp (disch := omega) only [s_X12_parted_55, b_X12_parted_55, F_X12_greater, nS, X12_rd o8, i36, i37]) (N := q_N) (q_lt_N (by omega))
  have finD : F_X12_parted h (c + 80) (nI k) (nI k') = (q_lp (s_X12_parted_55 h8 (c + 80)) q_N (nI 0)).bind (Sum.elim (fun o31 => some (o31, h8)) (fun _ => some (m1, h8))) := by
    simp (disch := omega) only [F_X12_parted, nS, e1, o1.ob, e2, X12_rd o2, e3, e5, o5.ob, e6, X12_rd o6, e7, e8]
  have finC : F_X11_parted h c (nI k) (nI k') = F_X4_firstUnlike h (c + 71) (c + 1 + 7 + 22 * k) (c + 1 + 7 + 22 * k') := by
    simp (disch := omega) only [F_X11_parted, xS xc, tS td, nS, t_bookIn td ok hk, t_bookIn td ok hk', o4.ob]
    cases F_X4_firstUnlike h (c + 71) (c + 1 + 7 + 22 * k) (c + 1 + 7 + 22 * k') <;> rfl
  have last : ∀ j, max l1 l2 ≤ j → j < 20 → ow (bMB b) j = ow (bMB b') j := fun j h1 h2 => by rw [out1 j (by omega) h2, out2 j (by omega) h2]
  rcases c_unlike (mg := c + 71) cb cc with ⟨i, q1, q2, q3, q4⟩ | ⟨q1, q4⟩
  · refine ⟨nI i, h8, by rw [finC, q4], ?_, frF, rmF⟩
    rw [finD]
    rcases dl with ⟨j, w1, w2, w3, w4⟩ | ⟨w1, w4⟩
    · have : i = j := by
        rcases Nat.lt_trichotomy i j with h | h | h
        · exact absurd q2 (w3 i h)
        · exact h
        · exact absurd (q3 j h) w2
      subst this
      have w4 : q_lp (s_X12_parted_55 h8 (c + 80)) q_N (nI 0) = some (.inl (nI i)) := w4
      rw [w4]; rfl
    · rcases Nat.lt_or_ge i (max l1 l2) with h | h
      · exact absurd q2 (w1 i h)
      · exact absurd (last i h q1) q2
  · refine ⟨m1, h8, by rw [finC, q4], ?_, frF, rmF⟩
    rw [finD]
    rcases dl with ⟨j, w1, w2, w3, w4⟩ | ⟨w1, w4⟩
    · exact absurd (q1 j (by omega)) w2
    · have w4 : q_lp (s_X12_parted_55 h8 (c + 80)) q_N (nI 0) = some (.inr ()) := w4
      rw [w4]; rfl
end CALLS
