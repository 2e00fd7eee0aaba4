/-! ===== the class's objects ===== -/
def CBc (m : MB) (A : Nat → Nat → Int32) (I : Nat → Int32) : Prop := (I 12 = nI (mbL m) ∧ I 13 = mbP m 1 ∧ I 14 = mbP m 2) ∧ (∀ k l, k < 5 → l < mbL m → A k l = mbR m k l) ∧ (∀ p, p < 6 → A 7 p = mbR m 7 p ∧ A 8 p = mbR m 8 p) ∧ ∀ l, l < mbL m → A 10 l = nI (mbF m l).length ∧ ∀ k, k < (mbF m l).length → A 9 (20 * l + k) = nI ((mbF m l).getD k 0)
def CBx (h : qH) (a : Nat) (p : Prop) (b : Nat → Int32) : Prop := ∃ (A : Nat → Nat → Int32) (B : Nat → Nat → Int64) (I : Nat → Int32) (J : Nat → Int64), OB h a 0 bkL A B I J ∧ (p → CBc (bMB b) A I)
def eN (e : Nat → Int32) : Nat := (e 0).toNatClampNeg
def CEc (e : Nat → Int32) (A : Nat → Nat → Int32) (I : Nat → Int32) : Prop := I 2 = e 0 ∧ ∀ k, k < eN e → A 0 k = e (1 + 2 * k) ∧ A 1 k = e (2 + 2 * k)
def CEx (h : qH) (a : Nat) (p : Prop) (e : Nat → Int32) : Prop := ∃ (A : Nat → Nat → Int32) (B : Nat → Nat → Int64) (I : Nat → Int32) (J : Nat → Int64), OB h a 1 evL A B I J ∧ (p → CEc e A I)
def CGc (g : Nat → Int32) (A : Nat → Nat → Int32) (I : Nat → Int32) : Prop := I 1 = g 0 ∧ ∀ k, k < eN g → A 0 k = g (1 + k)
def CGx (h : qH) (a : Nat) (p : Prop) (g : Nat → Int32) : Prop := ∃ (A : Nat → Nat → Int32) (B : Nat → Nat → Int64) (I : Nat → Int32) (J : Nat → Int64), OB h a 3 lgL A B I J ∧ (p → CGc g A I)
def CWc (t : Nat → Int32) (A : Nat → Nat → Int32) (I : Nat → Int32) : Prop := I 4 = t 0 ∧ (∀ k, k < 8 → A 0 k = t (1 + k)) ∧ ∀ k, k < 9 → A 1 k = t (9 + k) ∧ A 2 k = t (18 + k)
def CWx (h : qH) (a : Nat) (p : Prop) (t : Nat → Int32) : Prop := ∃ (A : Nat → Nat → Int32) (B : Nat → Nat → Int64) (I : Nat → Int32) (J : Nat → Int64), OB h a 10 twL A B I J ∧ (p → CWc t A I)
abbrev refs (ty : String) (n : Nat) (f : Nat → Option Nat) : qC := .inl (.object ty, n, .inr (.inr (.inr (.inr f))))
/-- the told object of 51 cells at t -/
def TDo (h : qH) (t : Nat) (σ : SG) : Prop := h t = some (.inr (.inl (9, [.ref (t + 1), .ref (t + 2), .ref (t + 3), .ref (t + 4), .ref (t + 5), .ref (t + 6), .int (nI (sZ σ)), .int (sF σ), .int (sP σ)])))
def TDt (h : qH) (t : Nat) (σ : SG) : Prop := ∃ f, h (t + 1) = some (.inl (.byte, 600, .inl f)) ∧ ∀ i, i < 600 → f i = sT σ i
def TDc (h : qH) (t : Nat) (σ : SG) : Prop := ∃ f, h (t + 2) = some (.inl (.int, 4, .inl f)) ∧ ∀ s, s < 4 → f s = nI (sC σ s)
def TDr (h : qH) (t : Nat) : Prop := (∃ f, h (t + 3) = some (refs RX0 2 f) ∧ ∀ k, k < 2 → f k = some (t + 7 + 22 * k)) ∧ (∃ f, h (t + 4) = some (refs RX1 2 f) ∧ ∀ k, k < 2 → f k = some (t + 19 + 22 * k)) ∧ (∃ f, h (t + 5) = some (refs RX3 2 f) ∧ ∀ k, k < 2 → f k = some (t + 22 + 22 * k)) ∧ ∃ f, h (t + 6) = some (refs RX10 2 f) ∧ ∀ k, k < 2 → f k = some (t + 24 + 22 * k)
def TD (h : qH) (t : Nat) (σ : SG) : Prop := TDo h t σ ∧ TDt h t σ ∧ TDc h t σ ∧ TDr h t ∧ (∀ k, k < 2 → CBx h (t + 7 + 22 * k) (k < sC σ 0) (sB σ k)) ∧ (∀ k, k < 2 → CEx h (t + 19 + 22 * k) (k < sC σ 1) (sE σ k)) ∧ (∀ k, k < 2 → CGx h (t + 22 + 22 * k) (k < sC σ 2) (sG σ k)) ∧ ∀ k, k < 2 → CWx h (t + 24 + 22 * k) (k < sC σ 3) (sW σ k)
section TDS
variable {h h' : qH} {t : Nat} {σ : SG}
theorem CBx.kept {a : Nat} {p : Prop} {b : Nat → Int32} (c : CBx h a p b) (hk : ∀ q, a ≤ q → q < a + 12 → h' q = h q) : CBx h' a p b := by
  obtain ⟨A, B, I, J, o, hc⟩ := c
  exact ⟨A, B, I, J, o.kept hk, hc⟩
theorem CEx.kept {a : Nat} {p : Prop} {b : Nat → Int32} (c : CEx h a p b) (hk : ∀ q, a ≤ q → q < a + 3 → h' q = h q) : CEx h' a p b := by
  obtain ⟨A, B, I, J, o, hc⟩ := c
  exact ⟨A, B, I, J, o.kept hk, hc⟩
theorem CGx.kept {a : Nat} {p : Prop} {b : Nat → Int32} (c : CGx h a p b) (hk : ∀ q, a ≤ q → q < a + 2 → h' q = h q) : CGx h' a p b := by
  obtain ⟨A, B, I, J, o, hc⟩ := c
  exact ⟨A, B, I, J, o.kept hk, hc⟩
theorem CWx.kept {a : Nat} {p : Prop} {b : Nat → Int32} (c : CWx h a p b) (hk : ∀ q, a ≤ q → q < a + 5 → h' q = h q) : CWx h' a p b := by
  obtain ⟨A, B, I, J, o, hc⟩ := c
  exact ⟨A, B, I, J, o.kept hk, hc⟩
theorem TDr.kept (d : TDr h t) (hk : ∀ q, t + 3 ≤ q → q < t + 7 → h' q = h q) : TDr h' t := by
  unfold TDr at d ⊢
  rw [hk _ (by omega) (by omega), hk _ (by omega) (by omega), hk _ (by omega) (by omega), hk _ (by omega) (by omega)]
  exact d
theorem TD.kept (d : TD h t σ) (hk : ∀ q, t ≤ q → q < t + 51 → h' q = h q) : TD h' t σ := by
  obtain ⟨d1, d2, d3, d4, d5, d6, d7, d8⟩ := d
  refine ⟨?_, ?_, ?_, d4.kept (fun q h1 h2 => hk q (by omega) (by omega)), fun k hk2 => (d5 k hk2).kept (fun q h1 h2 => hk q (by omega) (by omega)), fun k hk2 => (d6 k hk2).kept (fun q h1 h2 => hk q (by omega) (by omega)), fun k hk2 => (d7 k hk2).kept (fun q h1 h2 => hk q (by omega) (by omega)), fun k hk2 => (d8 k hk2).kept (fun q h1 h2 => hk q (by omega) (by omega))⟩
  · unfold TDo at *; rw [hk _ (by omega) (by omega)]; exact d1
  · unfold TDt at *; rw [hk _ (by omega) (by omega)]; exact d2
  · unfold TDc at *; rw [hk _ (by omega) (by omega)]; exact d3
/-- reads of the told object -/
theorem tS (d : TD h t σ) : q_ob h t 9 = some () ∧ q_fI h t 9 6 = some (nI (sZ σ)) ∧ q_fI h t 9 7 = some (sF σ) ∧ q_fI h t 9 8 = some (sP σ) ∧ q_fR h t 9 0 = some (t + 1) ∧ q_fR h t 9 1 = some (t + 2) ∧ q_fR h t 9 2 = some (t + 3) ∧ q_fR h t 9 3 = some (t + 4) ∧ q_fR h t 9 4 = some (t + 5) ∧ q_fR h t 9 5 = some (t + 6)
  ∧ (∀ i, i < 600 → q_aI h .byte (t + 1) (nI i) = some (sT σ i)) ∧ (∀ s, s < 4 → q_aI h .int (t + 2) (nI s) = some (nI (sC σ s)))
  ∧ (∀ k, k < 2 → q_aR h RX0 (t + 3) (nI k) = some (some (t + 7 + 22 * k))) ∧ (∀ k, k < 2 → q_aR h RX1 (t + 4) (nI k) = some (some (t + 19 + 22 * k))) ∧ (∀ k, k < 2 → q_aR h RX3 (t + 5) (nI k) = some (some (t + 22 + 22 * k))) ∧ ∀ k, k < 2 → q_aR h RX10 (t + 6) (nI k) = some (some (t + 24 + 22 * k)) := by
  obtain ⟨d1, ⟨f2, d2, e2⟩, ⟨f3, d3, e3⟩, ⟨⟨f4, d4, e4⟩, ⟨f5, d5, e5⟩, ⟨f6, d6, e6⟩, ⟨f7, d7, e7⟩⟩, -⟩ := d
  unfold TDo at d1
  refine ⟨by simp [q_ob, d1], by simp [q_fI, d1], by simp [q_fI, d1], by simp [q_fI, d1], by simp [q_fR, d1], by simp [q_fR, d1], by simp [q_fR, d1], by simp [q_fR, d1], by simp [q_fR, d1], by simp [q_fR, d1], fun i hi => ?_, fun i hi => ?_, fun i hi => ?_, fun i hi => ?_, fun i hi => ?_, fun i hi => ?_⟩
  · simp [q_aI, d2, nI_nn (show i < 2 ^ 31 by omega), nI_cl (show i < 2 ^ 31 by omega), hi, e2 i hi]
  · simp [q_aI, d3, nI_nn (show i < 2 ^ 31 by omega), nI_cl (show i < 2 ^ 31 by omega), hi, e3 i hi]
  · simp [q_aR, d4, refs, nI_nn (show i < 2 ^ 31 by omega), nI_cl (show i < 2 ^ 31 by omega), hi, e4 i hi]
  · simp [q_aR, d5, refs, nI_nn (show i < 2 ^ 31 by omega), nI_cl (show i < 2 ^ 31 by omega), hi, e5 i hi]
  · simp [q_aR, d6, refs, nI_nn (show i < 2 ^ 31 by omega), nI_cl (show i < 2 ^ 31 by omega), hi, e6 i hi]
  · simp [q_aR, d7, refs, nI_nn (show i < 2 ^ 31 by omega), nI_cl (show i < 2 ^ 31 by omega), hi, e7 i hi]
theorem t_bookIn (d : TD h t σ) (ok : SGok σ) {k : Nat} (hk : k < sC σ 0) : F_X9_bookAt h t (nI k) = some (some (t + 7 + 22 * k)) := by
  have := ok.2.1 0 (by omega)
  simp (disch := omega) only [F_X9_bookAt, tS d, nS, Option.bind_some, if_neg, Option.elim_some]
theorem t_evIn (d : TD h t σ) (ok : SGok σ) {k : Nat} (hk : k < sC σ 1) : F_X9_eveningAt h t (nI k) = some (some (t + 19 + 22 * k)) := by
  have := ok.2.1 1 (by omega)
  simp (disch := omega) only [F_X9_eveningAt, tS d, nS, Option.bind_some, if_neg, Option.elim_some]
theorem t_logIn (d : TD h t σ) (ok : SGok σ) {k : Nat} (hk : k < sC σ 2) : F_X9_logAt h t (nI k) = some (some (t + 22 + 22 * k)) := by
  have := ok.2.1 2 (by omega)
  simp (disch := omega) only [F_X9_logAt, tS d, nS, Option.bind_some, if_neg, Option.elim_some]
theorem t_townIn (d : TD h t σ) (ok : SGok σ) {k : Nat} (hk : k < sC σ 3) : F_X9_townAt h t (nI k) = some (some (t + 24 + 22 * k)) := by
  have := ok.2.1 3 (by omega)
  simp (disch := omega) only [F_X9_townAt, tS d, nS, Option.bind_some, if_neg, Option.elim_some]
theorem t_bookOut (d : TD h t σ) {x : Int32} (hx : nOut x (sC σ 0)) : F_X9_bookAt h t x = some none := by
  unfold F_X9_bookAt
  by_cases h0 : x < 0
  · rw [if_pos h0]
  · rw [if_neg h0, n_lit 0]
    simp (disch := omega) only [tS d, Option.bind_some, if_pos (hx.resolve_left h0)]
theorem t_evOut (d : TD h t σ) {x : Int32} (hx : nOut x (sC σ 1)) : F_X9_eveningAt h t x = some none := by
  unfold F_X9_eveningAt
  by_cases h0 : x < 0
  · rw [if_pos h0]
  · rw [if_neg h0, n_lit 1]
    simp (disch := omega) only [tS d, Option.bind_some, if_pos (hx.resolve_left h0)]
theorem t_logOut (d : TD h t σ) {x : Int32} (hx : nOut x (sC σ 2)) : F_X9_logAt h t x = some none := by
  unfold F_X9_logAt
  by_cases h0 : x < 0
  · rw [if_pos h0]
  · rw [if_neg h0, n_lit 2]
    simp (disch := omega) only [tS d, Option.bind_some, if_pos (hx.resolve_left h0)]
theorem t_townOut (d : TD h t σ) {x : Int32} (hx : nOut x (sC σ 3)) : F_X9_townAt h t x = some none := by
  unfold F_X9_townAt
  by_cases h0 : x < 0
  · rw [if_pos h0]
  · rw [if_neg h0, n_lit 3]
    simp (disch := omega) only [tS d, Option.bind_some, if_pos (hx.resolve_left h0)]
theorem t_CB (d : TD h t σ) (ok : SGok σ) {k : Nat} (hk : k < sC σ 0) : CB h (t + 7 + 22 * k) (bMB (sB σ k)) := by
  have := ok.2.1 0 (by omega)
  obtain ⟨A, B, I, J, o, hc⟩ := d.2.2.2.2.1 k (by omega)
  exact ⟨bMB_ok (ok.2.2.1 k hk), A, B, I, J, o, hc hk⟩
end TDS
/-! ===== the whole ===== -/
def XC (h : qH) (c : Nat) : Prop := h c = some (.inr (.inl (11, [.ref (c + 1), .ref (c + 52), .ref (c + 53), .ref (c + 57), .ref (c + 60), .ref (c + 68), .ref (c + 71), .ref (c + 76)])))
def OBx (h : qH) (a ci : Nat) (lay : List (Nat × Nat)) : Prop := ∃ (A : Nat → Nat → Int32) (B : Nat → Nat → Int64) (I : Nat → Int32) (J : Nat → Int64), OB h a ci lay A B I J
def SC (h : qH) (c : Nat) : Prop := OBx h (c + 53) 7 rdL ∧ OBx h (c + 57) 8 stL ∧ OBx h (c + 60) 6 ptL ∧ OBx h (c + 68) 5 odL ∧ OBx h (c + 71) 4 mgL ∧ OBx h (c + 76) 2 fiL
def IM (h : qH) (c nx : Nat) (im : Nat → Option SG) : Prop := ∃ f, h (c + 52) = some (refs RX9 3 f) ∧ (∀ k, k < 3 → (f k = none ∧ im k = none) ∨ ∃ t τ, f k = some t ∧ im k = some τ ∧ c + 107 ≤ t ∧ t + 51 ≤ nx ∧ TD h t τ ∧ SGok τ) ∧ ∀ k j t u, k < 3 → j < 3 → k ≠ j → f k = some t → f j = some u → t + 51 ≤ u ∨ u + 51 ≤ t
def RC (h : qH) (c nx : Nat) (σ : SG) (im : Nat → Option SG) : Prop := XC h c ∧ TD h (c + 1) σ ∧ SC h c ∧ IM h c nx im
def KI (A : Nat → Nat → Int32) (im : Nat → Option SG) : Prop := ∀ k, k < 3 → (A 48 k = nI 0 ∧ im k = none) ∨ (A 48 k = nI 1 ∧ ∃ τ, im k = some τ ∧ PM A (k + 1) τ)
def RM (h : qH) (a : Nat) (σ : SG) (im : Nat → Option SG) : Prop := ∃ (A : Nat → Nat → Int32) (B : Nat → Nat → Int64) (I : Nat → Int32) (J : Nat → Int64), OB h a 12 mdL A B I J ∧ PM A 0 σ ∧ KI A im
def ST (h : qH) (c nx : Nat) (σ : SG) (im : Nat → Option SG) : Prop := SGok σ ∧ RC h c nx σ im ∧ RM h (c + 80) σ im ∧ c + 107 ≤ nx
theorem OBx.kept {h h' : qH} {a ci : Nat} {lay : List (Nat × Nat)} (c : OBx h a ci lay) (hk : ∀ q, a ≤ q → q < a + obZ lay → h' q = h q) : OBx h' a ci lay := by
  obtain ⟨A, B, I, J, o⟩ := c
  exact ⟨A, B, I, J, o.kept hk⟩
theorem SC.kept {h h' : qH} {c : Nat} (s : SC h c) (hk : ∀ q, c + 53 ≤ q → q < c + 80 → h' q = h q) : SC h' c := by
  obtain ⟨s1, s2, s3, s4, s5, s6⟩ := s
  refine ⟨s1.kept fun q h1 h2 => hk q ?_ ?_, s2.kept fun q h1 h2 => hk q ?_ ?_, s3.kept fun q h1 h2 => hk q ?_ ?_, s4.kept fun q h1 h2 => hk q ?_ ?_, s5.kept fun q h1 h2 => hk q ?_ ?_, s6.kept fun q h1 h2 => hk q ?_ ?_⟩
  all_goals (first | rw [X7_Z] at h2 | rw [X8_Z] at h2 | rw [X6_Z] at h2 | rw [X5_Z] at h2 | rw [X4_Z] at h2 | rw [X2_Z] at h2)
  all_goals omega
theorem IM.kept {h h' : qH} {c nx : Nat} {im : Nat → Option SG} (i : IM h c nx im) (hk : ∀ q, (q = c + 52 ∨ c + 107 ≤ q) → h' q = h q) : IM h' c nx im := by
  obtain ⟨f, h1, h2, h3⟩ := i
  refine ⟨f, by rw [hk _ (Or.inl rfl)]; exact h1, fun k hk2 => ?_, h3⟩
  rcases h2 k hk2 with e | ⟨t, τ, e1, e2, e3, e4, e5, e6⟩
  · exact Or.inl e
  · exact Or.inr ⟨t, τ, e1, e2, e3, e4, e5.kept (fun q q1 q2 => hk q (Or.inr (by omega))), e6⟩
/-- the class has changed no more than what it works with -/
theorem RC.q {h h' : qH} {c nx : Nat} {σ : SG} {im : Nat → Option SG} (r : RC h c nx σ im) (f : Fr h h' (c + 53) (c + 80)) (s : SC h' c) : RC h' c nx σ im := by
  obtain ⟨r1, r2, r3, r4⟩ := r
  refine ⟨by unfold XC at *; rw [f _ (by omega)]; exact r1, r2.kept (fun q q1 q2 => f q (by omega)), s, r4.kept (fun q hq => f q (by omega))⟩
theorem RC.m {h h' : qH} {c nx : Nat} {σ : SG} {im : Nat → Option SG} (r : RC h c nx σ im) (f : Fr h h' (c + 80) (c + 80 + 27)) : RC h' c nx σ im := by
  obtain ⟨r1, r2, r3, r4⟩ := r
  refine ⟨by unfold XC at *; rw [f _ (by omega)]; exact r1, r2.kept (fun q q1 q2 => f q (by omega)), r3.kept (fun q q1 q2 => f q (by omega)), r4.kept (fun q hq => f q (by omega))⟩
theorem RM.c {h h' : qH} {a lo hi : Nat} {σ : SG} {im : Nat → Option SG} (r : RM h a σ im) (f : Fr h h' lo hi) (hh : hi ≤ a ∨ a + 27 ≤ lo) : RM h' a σ im := by
  obtain ⟨A, B, I, J, o, pm, ki⟩ := r
  exact ⟨A, B, I, J, o.kept (fun q q1 q2 => f q (by rw [X12_Z] at q2; omega)), pm, ki⟩
theorem KI.cg {A A' : Nat → Nat → Int32} {im : Nat → Option SG} {S : List Nat} (k : KI A im) (hA : On S A A') (hS : ∀ k, k ∈ S → 10 ≤ k ∧ k ≠ 48) : KI A' im := by
  intro j hj
  have e : A' 48 = A 48 := hA 48 (fun q => (hS _ q).2 rfl)
  rcases k j hj with h | ⟨h1, τ, h2, h3⟩
  · exact Or.inl (by rw [e]; exact h)
  · exact Or.inr ⟨by rw [e]; exact h1, τ, h2, h3.cg hA (fun k hk => (hS k hk).1)⟩
/-- reads of the class's own object -/
theorem xS {h : qH} {c : Nat} (x : XC h c) : q_ob h c 11 = some () ∧ q_fR h c 11 0 = some (c + 1) ∧ q_fR h c 11 1 = some (c + 52) ∧ q_fR h c 11 2 = some (c + 53) ∧ q_fR h c 11 3 = some (c + 57) ∧ q_fR h c 11 4 = some (c + 60) ∧ q_fR h c 11 5 = some (c + 68) ∧ q_fR h c 11 6 = some (c + 71) ∧ q_fR h c 11 7 = some (c + 76) := by
  unfold XC at x
  exact ⟨by simp [q_ob, x], by simp [q_fR, x], by simp [q_fR, x], by simp [q_fR, x], by simp [q_fR, x], by simp [q_fR, x], by simp [q_fR, x], by simp [q_fR, x], by simp [q_fR, x]⟩
