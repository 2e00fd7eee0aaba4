/-! ===== calls: deed, voice ===== -/
theorem ev_ok {e : Nat → Int32} (v : EV e) : e 0 = nI (eN e) ∧ eN e ≤ 40 := by
  obtain ⟨n, h1, h2, -⟩ := v
  have : eN e = n := by unfold eN; rw [h2, nI_cl (by omega)]
  rw [this]
  exact ⟨h2, h1⟩
theorem lv_ok {e : Nat → Int32} (v : LV e) : e 0 = nI (eN e) ∧ eN e ≤ 12 := by
  obtain ⟨n, h1, h2, -⟩ := v
  have : eN e = n := by unfold eN; rw [h2, nI_cl (by omega)]
  rw [this]
  exact ⟨h2, h1⟩
/-- the class's evening -/
def CE (h : qH) (a : Nat) (e : Nat → Int32) : Prop := EV e ∧ CEx h a True e
def CG (h : qH) (a : Nat) (e : Nat → Int32) : Prop := LV e ∧ CGx h a True e
theorem eS {h : qH} {a : Nat} {e : Nat → Int32} (c : CE h a e) : q_ob h a 1 = some () ∧ q_fI h a 1 2 = some (nI (eN e)) ∧ (∀ k, k < eN e → F_X1_deedAt h a (nI k) = some (e (1 + 2 * k))) ∧ (∀ k, k < eN e → F_X1_numberAt h a (nI k) = some (e (2 + 2 * k))) ∧ (∀ k, eN e ≤ k → k < 2 ^ 31 → F_X1_deedAt h a (nI k) = some m2) ∧ (∀ k, eN e ≤ k → k < 2 ^ 31 → F_X1_numberAt h a (nI k) = some m2) ∧ (∀ x, x < nI 0 → F_X1_deedAt h a x = some m2) ∧ ∀ x, x < nI 0 → F_X1_numberAt h a x = some m2 := by
  obtain ⟨v, A, B, I, J, o, hc⟩ := c
  obtain ⟨i2, hk⟩ := hc trivial
  obtain ⟨e0, hn⟩ := ev_ok v
  rw [e0] at i2
  refine ⟨o.ob, by rw [← i2]; exact o.fI (k := 2) rfl, fun k h1 => ?_, fun k h1 => ?_, fun k h1 h2 => ?_, fun k h1 h2 => ?_, fun x hx => ?_, fun x hx => ?_⟩
  · simp (disch := omega) only [F_X1_deedAt, F_X1_has, X1_rd o, nS, i2, (hk k h1).1]
  · simp (disch := omega) only [F_X1_numberAt, F_X1_has, X1_rd o, nS, i2, (hk k h1).2]
  · simp (disch := omega) only [F_X1_deedAt, F_X1_has, X1_rd o, nS, i2]
  · simp (disch := omega) only [F_X1_numberAt, F_X1_has, X1_rd o, nS, i2]
  · simp (disch := omega) only [F_X1_deedAt, F_X1_has, X1_rd o, nS, gN hx]
  · simp (disch := omega) only [F_X1_numberAt, F_X1_has, X1_rd o, nS, gN hx]
theorem gS {h : qH} {a : Nat} {e : Nat → Int32} (c : CG h a e) : q_ob h a 3 = some () ∧ q_fI h a 3 1 = some (nI (eN e)) ∧ q_fR h a 3 0 = some (a + 1) ∧ (∀ k, k < eN e → F_X3_has h a (nI k) = some (nI 1)) ∧ (∀ k, eN e ≤ k → k < 2 ^ 31 → F_X3_has h a (nI k) = some (nI 0)) ∧ (∀ x, x < nI 0 → F_X3_has h a x = some (nI 0)) ∧ ∀ k, k < eN e → q_aI h .int (a + 1) (nI k) = some (e (1 + k)) := by
  obtain ⟨v, A, B, I, J, o, hc⟩ := c
  obtain ⟨i2, hk⟩ := hc trivial
  obtain ⟨e0, hn⟩ := lv_ok v
  rw [e0] at i2
  refine ⟨o.ob, by rw [← i2]; exact o.fI (k := 1) rfl, o.fR (k := 0) rfl rfl, fun k h1 => ?_, fun k h1 h2 => ?_, fun x hx => ?_, fun k h1 => ?_⟩
  · simp (disch := omega) only [F_X3_has, X3_rd o, nS, i2]
  · simp (disch := omega) only [F_X3_has, X3_rd o, nS, i2]
  · simp (disch := omega) only [F_X3_has, X3_rd o, nS, gN hx]
  · rw [← hk k h1]; simp (disch := omega) only [X3_rd o]
/-- the reference with an evening, with a log -/
def HE (A : Nat → Nat → Int32) (I : Nat → Int32) (e : Nat → Int32) (j : Nat) : Prop := EV e ∧ j < 2 ∧ I 27 = nI j ∧ ∀ i, i < 81 → A 7 (81 * j + i) = e i
def HG (A : Nat → Nat → Int32) (I : Nat → Int32) (e : Nat → Int32) (j : Nat) : Prop := LV e ∧ j < 2 ∧ I 39 = nI j ∧ ∀ i, i < 13 → A 8 (13 * j + i) = e i
section HEV
variable {h : qH} {a : Nat} {A : Nat → Nat → Int32} {B : Nat → Nat → Int64} {I : Nat → Int32} {J : Nat → Int64} {σ : SG} {im : Nat → Option SG}
theorem e_pack {e : Nat → Int32} {j : Nat} (o : OB h a 12 mdL A B I J) (he : HE A I e j) : F_X12_deeds h a = some (nI (eN e)) ∧ (∀ k, k < eN e → F_X12_deedOf h a (nI k) (nI 0) = some (e (1 + 2 * k))) ∧ ∀ k, k < eN e → F_X12_deedOf h a (nI k) (nI 1) = some (e (2 + 2 * k)) := by
  obtain ⟨v, hj, i27, hr⟩ := he
  obtain ⟨e0, hn⟩ := ev_ok v
  have hr' : ∀ i q, q = 81 * j + i → i < 81 → A 7 q = e i := fun i q hq hi => by rw [hq]; exact hr i hi
  refine ⟨?_, fun k hk => ?_, fun k hk => ?_⟩
  · simp (disch := omega) only [F_X12_deeds, X12_rd o, nS, i27, hr' 0 (81 * j) rfl (by omega), e0]
  · simp (disch := omega) only [F_X12_deedOf, X12_rd o, nS, i27, hr' (1 + 2 * k) (81 * j + 1 + 2 * k + 0) (by omega) (by omega)]
  · simp (disch := omega) only [F_X12_deedOf, X12_rd o, nS, i27, hr' (2 + 2 * k) (81 * j + 1 + 2 * k + 1) (by omega) (by omega)]
theorem g_pack {e : Nat → Int32} {j : Nat} (o : OB h a 12 mdL A B I J) (he : HG A I e j) : F_X12_voices h a = some (nI (eN e)) ∧ (∀ k, k < eN e → F_X12_voiceOf h a (nI k) = some (e (1 + k))) := by
  obtain ⟨v, hj, i27, hr⟩ := he
  obtain ⟨e0, hn⟩ := lv_ok v
  have hr' : ∀ i q, q = 13 * j + i → i < 13 → A 8 q = e i := fun i q hq hi => by rw [hq]; exact hr i hi
  refine ⟨?_, fun k hk => ?_⟩
  · simp (disch := omega) only [F_X12_voices, X12_rd o, nS, i27, hr' 0 (13 * j) rfl (by omega), e0]
  · simp (disch := omega) only [F_X12_voiceOf, X12_rd o, nS, i27, hr' (1 + k) (13 * j + 1 + k) (by omega) (by omega)]
theorem ev_in (o : OB h a 12 mdL A B I J) (pm : PM A 0 σ) (ok : SGok σ) {j : Nat} (hj : j < sC σ 1) : ∃ h2 I2, F_X12_hasEvening h a (nI j) = some (nI 1, h2) ∧ OB h2 a 12 mdL A B I2 J ∧ HE A I2 (sE σ j) j ∧ On [27] I I2 ∧ Fr h h2 a (a + 27) := by
  have := ok.2.1 1 (by omega)
  obtain ⟨h1, e1, o1, r1⟩ := X12_p27 o (nI j)
  refine ⟨h1, _, ?_, o1, ⟨ok.2.2.2.1 j hj, by omega, rfl, fun i hi => ?_⟩, On.ud (by decide), r1⟩
  · simp (disch := omega) only [F_X12_hasEvening, e1, nS, o1.ob, d_is_in o1 pm ok (s := 1) (by omega) hj]
  · have := pm.2.2.2.2.2.2.1 j i (by omega) hi
    rw [show 162 * 0 + (81 * j + i) = 81 * j + i by omega] at this
    exact this
theorem ev_out (o : OB h a 12 mdL A B I J) (pm : PM A 0 σ) (ok : SGok σ) {x : Int32} (hx : nOut x (sC σ 1)) : ∃ h2 I2, F_X12_hasEvening h a x = some (nI 0, h2) ∧ OB h2 a 12 mdL A B I2 J ∧ On [27] I I2 ∧ Fr h h2 a (a + 27) := by
  obtain ⟨h1, e1, o1, r1⟩ := X12_p27 o x
  refine ⟨h1, _, ?_, o1, On.ud (by decide), r1⟩
  simp (disch := omega) only [F_X12_hasEvening, e1, nS, o1.ob, d_is_out o1 pm ok (s := 1) (by omega) hx]
theorem lg_in (o : OB h a 12 mdL A B I J) (pm : PM A 0 σ) (ok : SGok σ) {j : Nat} (hj : j < sC σ 2) : ∃ h2 I2, F_X12_hasLog h a (nI j) = some (nI 1, h2) ∧ OB h2 a 12 mdL A B I2 J ∧ HG A I2 (sG σ j) j ∧ On [39] I I2 ∧ Fr h h2 a (a + 27) := by
  have := ok.2.1 2 (by omega)
  obtain ⟨h1, e1, o1, r1⟩ := X12_p39 o (nI j)
  refine ⟨h1, _, ?_, o1, ⟨ok.2.2.2.2.1 j hj, by omega, rfl, fun i hi => ?_⟩, On.ud (by decide), r1⟩
  · simp (disch := omega) only [F_X12_hasLog, e1, nS, o1.ob, d_is_in o1 pm ok (s := 2) (by omega) hj]
  · have := pm.2.2.2.2.2.2.2.1 j i (by omega) hi
    rw [show 26 * 0 + (13 * j + i) = 13 * j + i by omega] at this
    exact this
theorem lg_out (o : OB h a 12 mdL A B I J) (pm : PM A 0 σ) (ok : SGok σ) {x : Int32} (hx : nOut x (sC σ 2)) : ∃ h2 I2, F_X12_hasLog h a x = some (nI 0, h2) ∧ OB h2 a 12 mdL A B I2 J ∧ On [39] I I2 ∧ Fr h h2 a (a + 27) := by
  obtain ⟨h1, e1, o1, r1⟩ := X12_p39 o x
  refine ⟨h1, _, ?_, o1, On.ud (by decide), r1⟩
  simp (disch := omega) only [F_X12_hasLog, e1, nS, o1.ob, d_is_out o1 pm ok (s := 2) (by omega) hx]
end HEV
section CALLS
variable {h : qH} {c nx : Nat} {σ : SG} {im : Nat → Option SG} {t : Nat}
theorem t_CE (d : TD h t σ) (ok : SGok σ) {k : Nat} (hk : k < sC σ 1) : CE h (t + 19 + 22 * k) (sE σ k) := by
  have := ok.2.1 1 (by omega)
  obtain ⟨A, B, I, J, o, hc⟩ := d.2.2.2.2.2.1 k (by omega)
  exact ⟨ok.2.2.2.1 k hk, A, B, I, J, o, fun _ => hc hk⟩
theorem t_CG (d : TD h t σ) (ok : SGok σ) {k : Nat} (hk : k < sC σ 2) : CG h (t + 22 + 22 * k) (sG σ k) := by
  have := ok.2.1 2 (by omega)
  obtain ⟨A, B, I, J, o, hc⟩ := d.2.2.2.2.2.2.1 k (by omega)
  exact ⟨ok.2.2.2.2.1 k hk, A, B, I, J, o, fun _ => hc hk⟩
theorem q_voice (s : ST h c nx σ im) (x y : Int32) : QR h c nx σ im (F_X11_voice h c x y) (F_X12_voice h (c + 80) x y) := by
  obtain ⟨ok, ⟨xc, td, -, -⟩, rm, -⟩ := s
  obtain ⟨h1, A, B, I, J, e1, o1, pm, ki, r1⟩ := rm.p0
  rcases nOut_or x (n := sC σ 2) (by have := ok.2.1 2 (by omega); omega) with hx | ⟨k, hk, rfl⟩
  · obtain ⟨h2, I2, e2, o2, n2, r2⟩ := lg_out o1 pm ok hx
    refine ⟨m1, h2, ?_, ?_, r1.tr r2, ⟨A, B, I2, J, o2, pm, ki⟩⟩
    · simp (disch := omega) only [F_X11_voice, xS xc, tS td, nS, t_logOut td hx]
    · simp (disch := omega) only [F_X12_voice, nS, e1, o1.ob, e2]
  · obtain ⟨h2, I2, e2, o2, he, n2, r2⟩ := lg_in o1 pm ok hk
    have cg := t_CG td ok hk
    obtain ⟨e, hee⟩ : ∃ e, e = sG σ k := ⟨_, rfl⟩
    rw [← hee] at he cg
    have hn := (lv_ok cg.1).2
    have hr : RM h2 (c + 80) σ im := ⟨A, B, I2, J, o2, pm, ki⟩
    rcases nSg3 y with hy | rfl | ⟨j, hj, rfl⟩
    · have hy0 := (gN1 hy).1
      refine ⟨m1, h2, ?_, ?_, r1.tr r2, hr⟩
      · simp (disch := first | omega | assumption) only [F_X11_voice, F_X3_show, xS xc, tS td, nS, t_logIn td ok hk, gN1 hy, gS cg]
      · simp (disch := omega) only [F_X12_voice, nS, e1, o1.ob, e2, gN1 hy, o2.ob, g_pack o2 he, F_X12_in, gN hy0]
    · refine ⟨nI (eN e), h2, ?_, ?_, r1.tr r2, hr⟩
      · simp (disch := omega) only [F_X11_voice, F_X3_show, xS xc, tS td, nS, t_logIn td ok hk, gS cg]
      · simp (disch := omega) only [F_X12_voice, nS, e1, o1.ob, e2, o2.ob, g_pack o2 he]
    · rcases Nat.lt_or_ge j (eN e) with hj2 | hj2
      · refine ⟨e (1 + j), h2, ?_, ?_, r1.tr r2, hr⟩
        · simp (disch := omega) only [F_X11_voice, F_X3_show, xS xc, tS td, nS, t_logIn td ok hk, gS cg]
        · have := d_in_in h2 hj2 (by omega)
          rw [pk_sub (by omega)] at this
          simp (disch := omega) only [F_X12_voice, nS, e1, o1.ob, e2, o2.ob, g_pack o2 he, this]
      · refine ⟨m1, h2, ?_, ?_, r1.tr r2, hr⟩
        · simp (disch := omega) only [F_X11_voice, F_X3_show, xS xc, tS td, nS, t_logIn td ok hk, gS cg]
        · have := d_in_out h2 (x := nI j) (n := eN e) (Or.inr (nI_le hj2 hj)) (by omega)
          simp (disch := omega) only [F_X12_voice, nS, e1, o1.ob, e2, o2.ob, g_pack o2 he, this]
theorem q_deed (s : ST h c nx σ im) (x y z : Int32) : QR h c nx σ im (F_X11_deed h c x y z) (F_X12_deed h (c + 80) x y z) := by
  obtain ⟨ok, ⟨xc, td, -, -⟩, rm, -⟩ := s
  obtain ⟨h1, A, B, I, J, e1, o1, pm, ki, r1⟩ := rm.p0
  rcases nOut_or x (n := sC σ 1) (by have := ok.2.1 1 (by omega); omega) with hx | ⟨k, hk, rfl⟩
  · obtain ⟨h2, I2, e2, o2, n2, r2⟩ := ev_out o1 pm ok hx
    refine ⟨m2, h2, ?_, ?_, r1.tr r2, ⟨A, B, I2, J, o2, pm, ki⟩⟩
    · simp (disch := omega) only [F_X11_deed, xS xc, tS td, nS, t_evOut td hx]
    · simp (disch := omega) only [F_X12_deed, nS, e1, o1.ob, e2]
  · obtain ⟨h2, I2, e2, o2, he, n2, r2⟩ := ev_in o1 pm ok hk
    have cg := t_CE td ok hk
    obtain ⟨e, hee⟩ : ∃ e, e = sE σ k := ⟨_, rfl⟩
    rw [← hee] at he cg
    have hn := (ev_ok cg.1).2
    have hr : RM h2 (c + 80) σ im := ⟨A, B, I2, J, o2, pm, ki⟩
    have hz : (z = nI 0 ∨ z = nI 1) ∨ ((z = nI 0 ↔ False) ∧ (z = nI 1 ↔ False) ∧ ∀ hh, F_X12_in hh z (nI 0) (nI 1) = some (nI 0)) := by
      rcases nSg z with h0 | ⟨q, hq, rfl⟩
      · refine Or.inr ⟨?_, ?_, fun hh => ?_⟩
        · simp (disch := omega) only [gN h0]
        · simp (disch := omega) only [gN h0]
        · simp (disch := omega) only [F_X12_in, nS, gN h0]
      · rcases (show q = 0 ∨ q = 1 ∨ 2 ≤ q by omega) with rfl | rfl | h2
        · exact Or.inl (Or.inl rfl)
        · exact Or.inl (Or.inr rfl)
        · refine Or.inr ⟨iff_of_false (fun e => ?_) id, iff_of_false (fun e => ?_) id, fun hh => ?_⟩
          · have := (nI_eq hq (by omega)).mp e; omega
          · have := (nI_eq hq (by omega)).mp e; omega
          · simp (disch := omega) only [F_X12_in, nS]
    rcases nSg3 y with hy | rfl | ⟨j, hj, rfl⟩
    · have hy0 := (gN1 hy).1
      refine ⟨m2, h2, ?_, ?_, r1.tr r2, hr⟩
      · rcases hz with (rfl | rfl) | hz
        · simp (disch := first | omega | assumption) only [F_X11_deed, F_X1_show, xS xc, tS td, nS, t_evIn td ok hk, gN1 hy, eS cg]
        · simp (disch := first | omega | assumption) only [F_X11_deed, F_X1_show, xS xc, tS td, nS, t_evIn td ok hk, gN1 hy, eS cg]
        · simp (disch := first | omega | assumption) only [F_X11_deed, F_X1_show, xS xc, tS td, nS, t_evIn td ok hk, gN1 hy, eS cg, hz]
      · simp (disch := omega) only [F_X12_deed, nS, e1, o1.ob, e2, gN1 hy, o2.ob, e_pack o2 he, F_X12_in, gN hy0]
    · rcases hz with (rfl | rfl) | hz
      · refine ⟨nI (eN e), h2, ?_, ?_, r1.tr r2, hr⟩
        · simp (disch := omega) only [F_X11_deed, F_X1_show, xS xc, tS td, nS, t_evIn td ok hk, eS cg]
        · simp (disch := omega) only [F_X12_deed, nS, e1, o1.ob, e2, o2.ob, e_pack o2 he]
      · refine ⟨m2, h2, ?_, ?_, r1.tr r2, hr⟩
        · simp (disch := omega) only [F_X11_deed, F_X1_show, xS xc, tS td, nS, t_evIn td ok hk, eS cg]
        · simp (disch := omega) only [F_X12_deed, nS, e1, o1.ob, e2, o2.ob, e_pack o2 he]
      · refine ⟨m2, h2, ?_, ?_, r1.tr r2, hr⟩
        · simp (disch := omega) only [F_X11_deed, F_X1_show, xS xc, tS td, nS, t_evIn td ok hk, eS cg, hz]
        · simp (disch := omega) only [F_X12_deed, nS, e1, o1.ob, e2, o2.ob, e_pack o2 he, hz]
    · rcases Nat.lt_or_ge j (eN e) with hj2 | hj2
      · have hin := d_in_in h2 hj2 (by omega)
        rw [pk_sub (by omega)] at hin
        rcases hz with (rfl | rfl) | hz
        · refine ⟨e (1 + 2 * j), h2, ?_, ?_, r1.tr r2, hr⟩
          · simp (disch := omega) only [F_X11_deed, F_X1_show, xS xc, tS td, nS, t_evIn td ok hk, eS cg]
          · simp (disch := omega) only [F_X12_deed, nS, e1, o1.ob, e2, o2.ob, e_pack o2 he, hin, F_X12_in]
        · refine ⟨e (2 + 2 * j), h2, ?_, ?_, r1.tr r2, hr⟩
          · simp (disch := omega) only [F_X11_deed, F_X1_show, xS xc, tS td, nS, t_evIn td ok hk, eS cg]
          · simp (disch := omega) only [F_X12_deed, nS, e1, o1.ob, e2, o2.ob, e_pack o2 he, hin, F_X12_in]
        · refine ⟨m2, h2, ?_, ?_, r1.tr r2, hr⟩
          · simp (disch := omega) only [F_X11_deed, F_X1_show, xS xc, tS td, nS, t_evIn td ok hk, eS cg, hz]
          · simp (disch := omega) only [F_X12_deed, nS, e1, o1.ob, e2, o2.ob, e_pack o2 he, hin, hz]
      · have hin := d_in_out h2 (x := nI j) (n := eN e) (Or.inr (nI_le hj2 hj)) (by omega)
        refine ⟨m2, h2, ?_, ?_, r1.tr r2, hr⟩
        · rcases hz with (rfl | rfl) | hz
          · simp (disch := omega) only [F_X11_deed, F_X1_show, xS xc, tS td, nS, t_evIn td ok hk, eS cg]
          · simp (disch := omega) only [F_X11_deed, F_X1_show, xS xc, tS td, nS, t_evIn td ok hk, eS cg]
          · simp (disch := omega) only [F_X11_deed, F_X1_show, xS xc, tS td, nS, t_evIn td ok hk, eS cg, hz]
        · simp (disch := omega) only [F_X12_deed, nS, e1, o1.ob, e2, o2.ob, e_pack o2 he, hin]
end CALLS
