/-! ===== calls: count, fault, book, follower ===== -/
theorem cS2 {h : qH} {a : Nat} {m : MB} (c : CB h a m) : q_fR h a 0 0 = some (a + 1) ∧ q_fR h a 0 1 = some (a + 2) ∧ q_fR h a 0 2 = some (a + 3) ∧ q_fR h a 0 3 = some (a + 4) ∧ q_fR h a 0 4 = some (a + 5) ∧ q_fR h a 0 7 = some (a + 8) ∧ q_fR h a 0 8 = some (a + 9)
  ∧ (∀ l, l < mbL m → q_aI h .int (a + 1) (nI l) = some (mbR m 0 l)) ∧ (∀ l, l < mbL m → q_aI h .int (a + 2) (nI l) = some (mbR m 1 l)) ∧ (∀ l, l < mbL m → q_aI h .int (a + 3) (nI l) = some (mbR m 2 l)) ∧ (∀ l, l < mbL m → q_aI h .int (a + 4) (nI l) = some (mbR m 3 l)) ∧ (∀ p, p < 6 → q_aI h .int (a + 8) (nI p) = some (nI (dr m p))) ∧ (∀ p, p < 6 → q_aI h .int (a + 9) (nI p) = some (mbR m 8 p)) := by
  have ok := c.1
  have hL := L_le ok
  obtain ⟨h0, A, B, I, J, o, hI, h1, h2, h3⟩ := c
  refine ⟨(o.fR (k := 0) rfl rfl), (o.fR (k := 1) rfl rfl), (o.fR (k := 2) rfl rfl), (o.fR (k := 3) rfl rfl), (o.fR (k := 4) rfl rfl), (o.fR (k := 7) rfl rfl), (o.fR (k := 8) rfl rfl), fun l hl => ?_, fun l hl => ?_, fun l hl => ?_, fun l hl => ?_, fun p hp => ?_, fun p hp => ?_⟩
  · rw [← h1 0 l (by omega) hl]; simp (disch := omega) only [X0_rd o]
  · rw [← h1 1 l (by omega) hl]; simp (disch := omega) only [X0_rd o]
  · rw [← h1 2 l (by omega) hl]; simp (disch := omega) only [X0_rd o]
  · rw [← h1 3 l (by omega) hl]; simp (disch := omega) only [X0_rd o]
  · rw [← (dr_ok ok hp).1, ← (h2 p hp).1]; simp (disch := omega) only [X0_rd o]
  · rw [← (h2 p hp).2]; simp (disch := omega) only [X0_rd o]
/-- the reference after its first step -/
theorem RM.p0 {h : qH} {a : Nat} {σ : SG} {im : Nat → Option SG} (r : RM h a σ im) : ∃ h1 A B I J, q_put h a 12 0 (.int (nI 0)) = some h1 ∧ OB h1 a 12 mdL A B I J ∧ PM A 0 σ ∧ KI A im ∧ Fr h h1 a (a + 27) := by
  obtain ⟨A, B, I, J, o, pm, ki⟩ := r
  obtain ⟨h1, e1, o1, r1⟩ := X12_p0 o (nI 0)
  exact ⟨h1, A, B, _, J, e1, o1, pm, ki, r1⟩
theorem RM.mk {h : qH} {a : Nat} {σ : SG} {im : Nat → Option SG} {A A' : Nat → Nat → Int32} {B : Nat → Nat → Int64} {I : Nat → Int32} {J : Nat → Int64} {S : List Nat} (pm : PM A 0 σ) (ki : KI A im) (o : OB h a 12 mdL A' B I J) (n : On S A A') (hS : ∀ k, k ∈ S → 10 ≤ k ∧ k ≠ 48) : RM h a σ im := ⟨A', B, I, J, o, pm.cg n (fun k hk => (hS k hk).1), ki.cg n hS⟩
/-- a question to which the class answers without changing anything -/
def QR (h : qH) (c nx : Nat) (σ : SG) (im : Nat → Option SG) (f : Option Int32) (g : Option (Int32 × qH)) : Prop := ∃ v h', f = some v ∧ g = some (v, h') ∧ Fr h h' (c + 80) (c + 80 + 27) ∧ RM h' (c + 80) σ im
section HANDED
variable {h : qH} {a : Nat} {A : Nat → Nat → Int32} {B : Nat → Nat → Int64} {I : Nat → Int32} {J : Nat → Int64} {σ : SG} {im : Nat → Option SG}
theorem hand_in (o : OB h a 12 mdL A B I J) (pm : PM A 0 σ) (ki : KI A im) (ok : SGok σ) {k : Nat} (hk : k < sC σ 0) : ∃ h2 A2 I2, F_X12_hand h a (nI k) = some (nI 1, h2) ∧ OB h2 a 12 mdL A2 B I2 J ∧ HB A2 I2 (sB σ k) k ∧ PM A2 0 σ ∧ KI A2 im ∧ Fr h h2 a (a + 27) := by
  obtain ⟨h2, A2, I2, e2, o2, r2, n2, -, hb⟩ := d_hand_in o pm ok hk
  exact ⟨h2, A2, I2, e2, o2, hb, pm.cg n2 (by decide), ki.cg n2 (by decide), r2⟩
theorem hand_out (o : OB h a 12 mdL A B I J) (pm : PM A 0 σ) (ki : KI A im) (ok : SGok σ) {x : Int32} (hx : nOut x (sC σ 0)) : ∃ h2, F_X12_hand h a x = some (nI 0, h2) ∧ RM h2 a σ im ∧ Fr h h2 a (a + 27) := by
  obtain ⟨h2, I2, e2, o2, r2, n2⟩ := d_hand_out o pm ok hx
  exact ⟨h2, e2, ⟨A, B, I2, J, o2, pm, ki⟩, r2⟩
theorem d_line_in {b : Nat → Int32} {k : Nat} (o : OB h a 12 mdL A B I J) (hb : HB A I b k) {l : Nat} (hl : l < mbL (bMB b)) : F_X12_isLine h a (nI l) = some (nI 1) := by
  have := L_le (bMB_ok hb.1)
  unfold F_X12_isLine
  rw [(d_pack o hb).1, n_lit 0, n_lit 1, Option.bind_some, d_in_in h hl (by omega)]
  rfl
theorem d_line_out {b : Nat → Int32} {k : Nat} (o : OB h a 12 mdL A B I J) (hb : HB A I b k) {x : Int32} (hx : nOut x (mbL (bMB b))) : F_X12_isLine h a x = some (nI 0) := by
  have := L_le (bMB_ok hb.1)
  unfold F_X12_isLine
  rw [(d_pack o hb).1, n_lit 0, n_lit 1, Option.bind_some, d_in_out h hx (by omega)]
  rfl
end HANDED
section CALLS
variable {h : qH} {c nx : Nat} {σ : SG} {im : Nat → Option SG}
theorem q_count (s : ST h c nx σ im) (x : Int32) : QR h c nx σ im (F_X11_count h c x) (F_X12_count h (c + 80) x) := by
  obtain ⟨ok, ⟨xc, td, -, -⟩, rm, -⟩ := s
  obtain ⟨h1, A, B, I, J, e1, o1, pm, ki, r1⟩ := rm.p0
  have hr := RM.mk (S := []) pm ki o1 On.rf (by decide)
  rcases nSg x with hx | ⟨s, hs, rfl⟩
  · refine ⟨m2, h1, ?_, ?_, r1, hr⟩
    · simp (disch := omega) only [F_X11_count, xS xc, tS td, F_X9_howMany, nS, gN hx]
    · simp (disch := omega) only [F_X12_count, F_X12_in, nS, e1, gN hx]
  · rcases Nat.lt_or_ge s 4 with h4 | h4
    · have := ok.2.1 s h4
      have e := pm.2.2.2.2.1 s h4
      simp only [Nat.mul_zero, Nat.zero_add] at e
      refine ⟨nI (sC σ s), h1, ?_, ?_, r1, hr⟩
      · simp (disch := omega) only [F_X11_count, xS xc, tS td, F_X9_howMany, nS]
      · simp (disch := omega) only [F_X12_count, F_X12_in, nS, e1, X12_rd o1, e]
    · refine ⟨m2, h1, ?_, ?_, r1, hr⟩
      · simp (disch := omega) only [F_X11_count, xS xc, tS td, F_X9_howMany, nS]
      · simp (disch := omega) only [F_X12_count, F_X12_in, nS, e1]
theorem q_fault (s : ST h c nx σ im) (x : Int32) : QR h c nx σ im (F_X11_fault h c x) (F_X12_fault h (c + 80) x) := by
  obtain ⟨ok, ⟨xc, td, -, -⟩, rm, -⟩ := s
  obtain ⟨h1, A, B, I, J, e1, o1, pm, ki, r1⟩ := rm.p0
  have hr := RM.mk (S := []) pm ki o1 On.rf (by decide)
  have e3 := pm.2.2.1
  have e4 := pm.2.2.2.1
  rcases nSg x with hx | ⟨w, hw, rfl⟩
  · refine ⟨m1, h1, ?_, ?_, r1, hr⟩
    · simp (disch := omega) only [F_X11_fault, nS, gN hx]
    · simp (disch := omega) only [F_X12_fault, nS, gN hx, e1]
  · rcases (show w = 0 ∨ w = 1 ∨ 2 ≤ w by omega) with rfl | rfl | h2
    · refine ⟨sF σ, h1, ?_, ?_, r1, hr⟩
      · simp (disch := omega) only [F_X11_fault, nS, xS xc, tS td]
      · simp (disch := omega) only [F_X12_fault, nS, e1, X12_rd o1, e3]
    · refine ⟨sP σ, h1, ?_, ?_, r1, hr⟩
      · simp (disch := omega) only [F_X11_fault, nS, xS xc, tS td]
      · simp (disch := omega) only [F_X12_fault, nS, e1, X12_rd o1, e4]
    · refine ⟨m1, h1, ?_, ?_, r1, hr⟩
      · simp (disch := omega) only [F_X11_fault, nS]
      · simp (disch := omega) only [F_X12_fault, nS, e1]
theorem q_follower (s : ST h c nx σ im) (x y z : Int32) : QR h c nx σ im (F_X11_follower h c x y z) (F_X12_follower h (c + 80) x y z) := by
  obtain ⟨ok, ⟨xc, td, -, -⟩, rm, -⟩ := s
  obtain ⟨h1, A, B, I, J, e1, o1, pm, ki, r1⟩ := rm.p0
  rcases nOut_or x (n := sC σ 0) (by have := ok.2.1 0 (by omega); omega) with hx | ⟨k, hk, rfl⟩
  · obtain ⟨h2, e2, rm2, r2⟩ := hand_out o1 pm ki ok hx
    refine ⟨m1, h2, ?_, ?_, r1.tr r2, rm2⟩
    · simp (disch := omega) only [F_X11_follower, xS xc, tS td, nS, t_bookOut td hx]
    · simp (disch := omega) only [F_X12_follower, nS, e1, o1.ob, e2]
  · obtain ⟨h2, A2, I2, e2, o2, hb, pm2, ki2, r2⟩ := hand_in o1 pm ki ok hk
    have cb := t_CB td ok hk
    have okm := cb.1
    have hL := L_le okm
    obtain ⟨b, hbe⟩ : ∃ b, b = sB σ k := ⟨_, rfl⟩
    rw [← hbe] at hb cb okm hL
    have hr := RM.mk (S := []) pm2 ki2 o2 On.rf (by decide)
    rcases nOut_or y (n := mbL (bMB b)) (by omega) with hy | ⟨l, hl, rfl⟩
    · refine ⟨m1, h2, ?_, ?_, r1.tr r2, hr⟩
      · simp (disch := omega) only [F_X11_follower, xS xc, tS td, nS, t_bookIn td ok hk, cb.ob, c_fol_out cb hy]
      · simp (disch := omega) only [F_X12_follower, nS, e1, o1.ob, e2, o2.ob, d_line_out o2 hb hy]
    · have hf := fn_le okm hl
      rcases nSg z with hz | ⟨j, hj, rfl⟩
      · refine ⟨m1, h2, ?_, ?_, r1.tr r2, hr⟩
        · simp (disch := omega) only [F_X11_follower, xS xc, tS td, nS, t_bookIn td ok hk, cb.ob, c_fol_outk cb hl (Or.inl hz)]
        · simp (disch := omega) only [F_X12_follower, nS, e1, o1.ob, e2, o2.ob, d_line_in o2 hb hl, gN hz]
      · rcases Nat.lt_or_ge j (fn (bMB b) l) with hj2 | hj2
        · refine ⟨nI (gg (bMB b) l j), h2, ?_, ?_, r1.tr r2, hr⟩
          · simp (disch := omega) only [F_X11_follower, xS xc, tS td, nS, t_bookIn td ok hk, cS cb]
          · simp (disch := omega) only [F_X12_follower, nS, e1, o1.ob, e2, o2.ob, d_line_in o2 hb hl, d_pack o2 hb]
        · refine ⟨m1, h2, ?_, ?_, r1.tr r2, hr⟩
          · simp (disch := omega) only [F_X11_follower, xS xc, tS td, nS, t_bookIn td ok hk, cS cb]
          · simp (disch := omega) only [F_X12_follower, nS, e1, o1.ob, e2, o2.ob, d_line_in o2 hb hl, d_pack o2 hb]
theorem q_book (s : ST h c nx σ im) (x y : Int32) : QR h c nx σ im (F_X11_book h c x y) (F_X12_book h (c + 80) x y) := by
  obtain ⟨ok, ⟨xc, td, -, -⟩, rm, -⟩ := s
  obtain ⟨h1, A, B, I, J, e1, o1, pm, ki, r1⟩ := rm.p0
  rcases nOut_or x (n := sC σ 0) (by have := ok.2.1 0 (by omega); omega) with hx | ⟨k, hk, rfl⟩
  · obtain ⟨h2, e2, rm2, r2⟩ := hand_out o1 pm ki ok hx
    refine ⟨m2, h2, ?_, ?_, r1.tr r2, rm2⟩
    · simp (disch := omega) only [F_X11_book, xS xc, tS td, nS, t_bookOut td hx]
    · simp (disch := omega) only [F_X12_book, nS, e1, o1.ob, e2]
  · obtain ⟨h2, A2, I2, e2, o2, hb, pm2, ki2, r2⟩ := hand_in o1 pm ki ok hk
    have cb := t_CB td ok hk
    have okm := cb.1
    have hL := L_le okm
    obtain ⟨b, hbe⟩ : ∃ b, b = sB σ k := ⟨_, rfl⟩
    rw [← hbe] at hb cb okm hL
    have hr := RM.mk (S := []) pm2 ki2 o2 On.rf (by decide)
    have cl : F_X11_book h c (nI k) y = F_X0_show h (c + 1 + 7 + 22 * k) y := by
      simp (disch := omega) only [F_X11_book, xS xc, tS td, nS, t_bookIn td ok hk, cb.ob]
      cases F_X0_show h (c + 1 + 7 + 22 * k) y <;> rfl
    have hch : ∀ p, p < 6 → b (106 + p) = nI 0 ∨ b (106 + p) = nI 1 := fun p hp => (okm.2.2.2.2.2.1 p hp).2
    rw [cl]
    rcases nSg y with hy | ⟨w, hw, rfl⟩
    · refine ⟨m2, h2, ?_, ?_, r1.tr r2, hr⟩
      · simp (disch := omega) only [F_X0_show, j_X0_show_40, j_X0_show_69, nS, gN hy]
      · simp (disch := omega) only [F_X12_book, nS, e1, o1.ob, e2, F_X12_in, gN hy]
    rcases (show w = 0 ∨ w = 1 ∨ w = 2 ∨ (3 ≤ w ∧ w < 10) ∨ (10 ≤ w ∧ w < 16) ∨ (16 ≤ w ∧ w < 20) ∨ (20 ≤ w ∧ w < 26) ∨ (26 ≤ w ∧ w < 30) ∨ (30 ≤ w ∧ w < 100) ∨ 700 ≤ w ∨ (100 ≤ w ∧ w < 700) by omega) with rfl | rfl | rfl | hw1 | hw1 | hw1 | hw1 | hw1 | hw1 | hw1 | hw1
    · refine ⟨nI (mbL (bMB b)), h2, ?_, ?_, r1.tr r2, hr⟩
      · simp (disch := omega) only [F_X0_show, j_X0_show_40, j_X0_show_69, nS, cS cb]
      · simp (disch := omega) only [F_X12_book, nS, e1, o1.ob, e2, o2.ob, F_X12_in, d_pack o2 hb]
    · refine ⟨nI (fre (bMB b)), h2, ?_, ?_, r1.tr r2, hr⟩
      · simp (disch := omega) only [F_X0_show, j_X0_show_40, j_X0_show_69, nS, cS cb]
      · simp (disch := omega) only [F_X12_book, nS, e1, o1.ob, e2, o2.ob, F_X12_in, d_pack o2 hb]
        exact congrArg (fun v => some (v, h2)) (fre_ok okm).1
    · refine ⟨nI (ctt (bMB b)), h2, ?_, ?_, r1.tr r2, hr⟩
      · simp (disch := omega) only [F_X0_show, j_X0_show_40, j_X0_show_69, nS, cS cb]
      · simp (disch := omega) only [F_X12_book, nS, e1, o1.ob, e2, o2.ob, F_X12_in, d_pack o2 hb]
        exact congrArg (fun v => some (v, h2)) (ctt_ok okm).1
    · refine ⟨m2, h2, ?_, ?_, r1.tr r2, hr⟩
      · simp (disch := omega) only [F_X0_show, j_X0_show_40, j_X0_show_69, nS, cS cb]
      · simp (disch := omega) only [F_X12_book, nS, e1, o1.ob, e2, o2.ob, F_X12_in, d_pack o2 hb]
    · refine ⟨nI (dr (bMB b) (w % 10)), h2, ?_, ?_, r1.tr r2, hr⟩
      · rw [show w % 10 = w - 10 by omega]
        simp (disch := omega) only [F_X0_show, F_X0_driesOf, F_X11_isPerson, nS, cS cb, cS2 cb]
      · simp (disch := omega) only [F_X12_book, nS, e1, o1.ob, e2, o2.ob, F_X12_in, F_X12_isPerson, d_pack o2 hb]
        exact congrArg (fun v => some (v, h2)) (dr_ok okm (p := w % 10) (by omega)).1
    · refine ⟨m2, h2, ?_, ?_, r1.tr r2, hr⟩
      · simp (disch := omega) only [F_X0_show, j_X0_show_40, j_X0_show_69, nS, cS cb]
      · simp (disch := omega) only [F_X12_book, nS, e1, o1.ob, e2, o2.ob, F_X12_in, F_X12_isPerson, d_pack o2 hb]
    · refine ⟨b (106 + w % 10), h2, ?_, ?_, r1.tr r2, hr⟩
      · have e : mbR (bMB b) 8 (w - 20) = b (106 + w % 10) := by rw [show w % 10 = w - 20 by omega]; rfl
        rcases hch (w % 10) (by omega) with e0 | e0
        · simp (disch := omega) only [F_X0_show, j_X0_show_40, F_X0_isChild, nS, cS cb, cS2 cb, e, e0]
        · simp (disch := omega) only [F_X0_show, j_X0_show_40, F_X0_isChild, nS, cS cb, cS2 cb, e, e0]
      · simp (disch := omega) only [F_X12_book, nS, e1, o1.ob, e2, o2.ob, F_X12_in, F_X12_isPerson, d_pack o2 hb]
    · refine ⟨m2, h2, ?_, ?_, r1.tr r2, hr⟩
      · simp (disch := omega) only [F_X0_show, j_X0_show_40, j_X0_show_69, nS, cS cb]
      · simp (disch := omega) only [F_X12_book, nS, e1, o1.ob, e2, o2.ob, F_X12_in, F_X12_isPerson, d_pack o2 hb]
    · refine ⟨m2, h2, ?_, ?_, r1.tr r2, hr⟩
      · simp (disch := omega) only [F_X0_show, j_X0_show_40, j_X0_show_69, nS, cS cb]
      · simp (disch := omega) only [F_X12_book, nS, e1, o1.ob, e2, o2.ob, F_X12_in, d_pack o2 hb]
    · refine ⟨m2, h2, ?_, ?_, r1.tr r2, hr⟩
      · rcases Nat.lt_or_ge (w % 100) (mbL (bMB b)) with hl | hl
        · simp (disch := omega) only [F_X0_show, F_X0_showLine, nS, cS cb]
        · simp (disch := omega) only [F_X0_show, F_X0_showLine, nS, cS cb]
      · simp (disch := omega) only [F_X12_book, nS, e1, o1.ob, e2, o2.ob, F_X12_in, d_pack o2 hb]
    · rcases Nat.lt_or_ge (w % 100) (mbL (bMB b)) with hl | hl
      · rcases (show w / 100 = 1 ∨ w / 100 = 2 ∨ w / 100 = 3 ∨ w / 100 = 4 ∨ w / 100 = 5 ∨ w / 100 = 6 by omega) with hh | hh | hh | hh | hh | hh
        · refine ⟨b (4 + w % 100), h2, ?_, ?_, r1.tr r2, hr⟩
          · simp (disch := omega) only [F_X0_show, F_X0_showLine, nS, cS cb, cS2 cb, hh]; rfl
          · simp (disch := omega) only [F_X12_book, nS, e1, o1.ob, e2, o2.ob, F_X12_in, F_X12_ofLine, d_line_in o2 hb hl, d_pack o2 hb, hh]
        · refine ⟨b (24 + w % 100), h2, ?_, ?_, r1.tr r2, hr⟩
          · simp (disch := omega) only [F_X0_show, F_X0_showLine, nS, cS cb, cS2 cb, hh]; rfl
          · simp (disch := omega) only [F_X12_book, nS, e1, o1.ob, e2, o2.ob, F_X12_in, F_X12_ofLine, d_line_in o2 hb hl, d_pack o2 hb, hh]
        · refine ⟨b (44 + w % 100), h2, ?_, ?_, r1.tr r2, hr⟩
          · simp (disch := omega) only [F_X0_show, F_X0_showLine, nS, cS cb, cS2 cb, hh]; rfl
          · simp (disch := omega) only [F_X12_book, nS, e1, o1.ob, e2, o2.ob, F_X12_in, F_X12_ofLine, d_line_in o2 hb hl, d_pack o2 hb, hh]
        · refine ⟨b (64 + w % 100), h2, ?_, ?_, r1.tr r2, hr⟩
          · simp (disch := omega) only [F_X0_show, F_X0_showLine, nS, cS cb, cS2 cb, hh]; rfl
          · simp (disch := omega) only [F_X12_book, nS, e1, o1.ob, e2, o2.ob, F_X12_in, F_X12_ofLine, d_line_in o2 hb hl, d_pack o2 hb, hh]
        · rcases Nat.eq_zero_or_pos (fn (bMB b) (w % 100)) with hf | hf
          · refine ⟨m1, h2, ?_, ?_, r1.tr r2, hr⟩
            · simp (disch := omega) only [F_X0_show, F_X0_showLine, nS, cS cb, hh]
            · simp (disch := omega) only [F_X12_book, nS, e1, o1.ob, e2, o2.ob, F_X12_in, F_X12_ofLine, d_line_in o2 hb hl, d_pack o2 hb, hh]
          · refine ⟨nI (gg (bMB b) (w % 100) 0), h2, ?_, ?_, r1.tr r2, hr⟩
            · simp (disch := omega) only [F_X0_show, F_X0_showLine, nS, cS cb, hh]
            · simp (disch := omega) only [F_X12_book, nS, e1, o1.ob, e2, o2.ob, F_X12_in, F_X12_ofLine, d_line_in o2 hb hl, d_pack o2 hb, hh]
        · refine ⟨nI (fn (bMB b) (w % 100)), h2, ?_, ?_, r1.tr r2, hr⟩
          · simp (disch := omega) only [F_X0_show, F_X0_showLine, nS, cS cb, hh]
          · simp (disch := omega) only [F_X12_book, nS, e1, o1.ob, e2, o2.ob, F_X12_in, F_X12_ofLine, d_line_in o2 hb hl, X12_rd o2, d_pack o2 hb, hh]
      · refine ⟨m2, h2, ?_, ?_, r1.tr r2, hr⟩
        · simp (disch := omega) only [F_X0_show, F_X0_showLine, nS, cS cb]
        · simp (disch := omega) only [F_X12_book, nS, e1, o1.ob, e2, o2.ob, F_X12_in, d_line_out o2 hb (Or.inr (nI_le hl (by omega)))]
end CALLS
