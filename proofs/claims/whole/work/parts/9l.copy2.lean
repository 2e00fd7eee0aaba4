/-! ===== one told object into another ===== -/
section TCP
variable {h h' : qH} {t u : Nat} {σ τ : SG}
theorem TDo.kept (o : TDo h t σ) (hk : h' t = h t) : TDo h' t σ := by unfold TDo at *; rw [hk]; exact o
theorem TDt.kept (o : TDt h t σ) (hk : h' (t + 1) = h (t + 1)) : TDt h' t σ := by unfold TDt at *; rw [hk]; exact o
theorem TDc.kept (o : TDc h t σ) (hk : h' (t + 2) = h (t + 2)) : TDc h' t σ := by unfold TDc at *; rw [hk]; exact o
theorem TDo.p6 (o : TDo h t σ) (z : Nat) : ∃ h', q_put h t 9 6 (.int (nI z)) = some h' ∧ TDo h' t (sgZ σ z) ∧ Fr h h' t (t + 1) := by
  unfold TDo at o
  refine ⟨va_up h t (some (.inr (.inl (9, [.ref (t + 1), .ref (t + 2), .ref (t + 3), .ref (t + 4), .ref (t + 5), .ref (t + 6), .int (nI z), .int (sF σ), .int (sP σ)])))), by simp [q_put, o], ?_, va_fr⟩
  unfold TDo; rw [va_up_self]; rfl
theorem TDo.p7 (o : TDo h t σ) (x : Int32) : ∃ h', q_put h t 9 7 (.int x) = some h' ∧ TDo h' t (sgF σ x (sP σ)) ∧ Fr h h' t (t + 1) := by
  unfold TDo at o
  refine ⟨va_up h t (some (.inr (.inl (9, [.ref (t + 1), .ref (t + 2), .ref (t + 3), .ref (t + 4), .ref (t + 5), .ref (t + 6), .int (nI (sZ σ)), .int x, .int (sP σ)])))), by simp [q_put, o], ?_, va_fr⟩
  unfold TDo; rw [va_up_self]; rfl
theorem TDo.p8 (o : TDo h t σ) (x : Int32) : ∃ h', q_put h t 9 8 (.int x) = some h' ∧ TDo h' t (sgF σ (sF σ) x) ∧ Fr h h' t (t + 1) := by
  unfold TDo at o
  refine ⟨va_up h t (some (.inr (.inl (9, [.ref (t + 1), .ref (t + 2), .ref (t + 3), .ref (t + 4), .ref (t + 5), .ref (t + 6), .int (nI (sZ σ)), .int (sF σ), .int x])))), by simp [q_put, o], ?_, va_fr⟩
  unfold TDo; rw [va_up_self]; rfl
/-- its references -/
theorem tR (o : TDo h t σ) (r : TDr h t) : q_ob h t 9 = some () ∧ q_fR h t 9 0 = some (t + 1) ∧ q_fR h t 9 1 = some (t + 2) ∧ q_fR h t 9 2 = some (t + 3) ∧ q_fR h t 9 3 = some (t + 4) ∧ q_fR h t 9 4 = some (t + 5) ∧ q_fR h t 9 5 = some (t + 6) ∧ (∀ k, k < 2 → q_aR h RX0 (t + 3) (nI k) = some (some (t + 7 + 22 * k))) ∧ (∀ k, k < 2 → q_aR h RX1 (t + 4) (nI k) = some (some (t + 19 + 22 * k))) ∧ (∀ k, k < 2 → q_aR h RX3 (t + 5) (nI k) = some (some (t + 22 + 22 * k))) ∧ ∀ k, k < 2 → q_aR h RX10 (t + 6) (nI k) = some (some (t + 24 + 22 * k)) := by
  obtain ⟨⟨f4, d4, e4⟩, ⟨f5, d5, e5⟩, ⟨f6, d6, e6⟩, ⟨f7, d7, e7⟩⟩ := r
  unfold TDo at o
  refine ⟨by simp [q_ob, o], by simp [q_fR, o], by simp [q_fR, o], by simp [q_fR, o], by simp [q_fR, o], by simp [q_fR, o], by simp [q_fR, o], fun i hi => ?_, fun i hi => ?_, fun i hi => ?_, fun i hi => ?_⟩
  · simp [q_aR, d4, refs, nI_nn (show i < 2 ^ 31 by omega), nI_cl (show i < 2 ^ 31 by omega), hi, e4 i hi]
  · simp [q_aR, d5, refs, nI_nn (show i < 2 ^ 31 by omega), nI_cl (show i < 2 ^ 31 by omega), hi, e5 i hi]
  · simp [q_aR, d6, refs, nI_nn (show i < 2 ^ 31 by omega), nI_cl (show i < 2 ^ 31 by omega), hi, e6 i hi]
  · simp [q_aR, d7, refs, nI_nn (show i < 2 ^ 31 by omega), nI_cl (show i < 2 ^ 31 by omega), hi, e7 i hi]
theorem cpI_go {ty : FieldType} {a b n : Nat} {f g : Nat → Int32} (h31 : n < 2 ^ 31) (ha : h a = some (.inl (ty, n, .inl f))) (hb : h b = some (.inl (ty, n, .inl g))) (hf : ∀ i, i < n → fits ty (.int (f i)) = true) : q_cpI h ty a (nI 0) b (nI 0) (nI n) = some (va_up h b (some (.inl (ty, n, .inl (va_cpy f g 0 0 n))))) := by
  unfold q_cpI
  rw [ha, hb]
  have h0 : (nI 0).toNatClampNeg = 0 := rfl
  simp only [nI_cl h31, h0]
  rw [if_pos ⟨trivial, trivial, by decide, by decide, nI_nn h31, by omega, by omega, fun i hi => by rw [Nat.zero_add]; exact hf i hi⟩]
theorem c_copyLoop (d : TQ h t τ (fun _ _ => False)) (s : TD h u τ) (ok : SGok τ) (hd : t + 51 ≤ u ∨ u + 51 ≤ t) : ∃ h', q_lp (s_X9_copy_56 t u) q_N (nI 0, h) = some h' ∧ TD h' t τ ∧ Fr h h' t (t + 51) := by
  obtain ⟨h', e', d', r'⟩ := q_lp1 (step := s_X9_copy_56 t u) (fun i h' => TQ h' t τ (fun s k => k < i ∧ k < sC τ s) ∧ Fr h h' t (t + 51)) 2 0 (by omega)
    (fun i g hi ⟨d, r⟩ => by
      have s0 : TD g u τ := s.kept (fun q q1 q2 => r q (by omega))
      obtain ⟨q1, q2, q3, q4, q5, q6, q7, q8⟩ := d
      have sb := s0.2.2.2.2.1 i (by omega)
      obtain ⟨g1, e1, c1, r1⟩ := c_cpB (q5 i (by omega)) sb (fun hp => ok.2.2.1 i hp) (by omega)
      have s1 : TD g1 u τ := s0.kept (fun q q1 q2 => r1 q (by omega))
      have o1 : TDo g1 t τ := q1.kept (r1 _ (by omega))
      have p1 : TDr g1 t := q4.kept (fun q q1 q2 => r1 q (by omega))
      obtain ⟨g2, e2, c2, r2⟩ := c_cpE ((q6 i (by omega)).kept (h' := g1) (fun q q1 q2 => r1 q (by omega))) (s1.2.2.2.2.2.1 i (by omega)) (fun hp => ok.2.2.2.1 i hp) (by omega)
      have s2 : TD g2 u τ := s1.kept (fun q q1 q2 => r2 q (by omega))
      have o2 : TDo g2 t τ := o1.kept (r2 _ (by omega))
      have p2 : TDr g2 t := p1.kept (fun q q1 q2 => r2 q (by omega))
      obtain ⟨g3, e3, c3, r3⟩ := c_cpG (((q7 i (by omega)).kept (h' := g1) (fun q q1 q2 => r1 q (by omega))).kept (h' := g2) (fun q q1 q2 => r2 q (by omega))) (s2.2.2.2.2.2.2.1 i (by omega)) (fun hp => ok.2.2.2.2.1 i hp) (by omega)
      have s3 : TD g3 u τ := s2.kept (fun q q1 q2 => r3 q (by omega))
      have o3 : TDo g3 t τ := o2.kept (r3 _ (by omega))
      have p3 : TDr g3 t := p2.kept (fun q q1 q2 => r3 q (by omega))
      obtain ⟨g4, e4, c4, r4⟩ := c_cpW ((((q8 i (by omega)).kept (h' := g1) (fun q q1 q2 => r1 q (by omega))).kept (h' := g2) (fun q q1 q2 => r2 q (by omega))).kept (h' := g3) (fun q q1 q2 => r3 q (by omega))) (s3.2.2.2.2.2.2.2 i (by omega)) (by omega)
      have rr : ∀ q, (q < t + 7 + 22 * i ∨ t + 7 + 22 * i + 22 ≤ q) → g4 q = g q := fun q hq => (r4 q (by omega)).trans ((r3 q (by omega)).trans ((r2 q (by omega)).trans (r1 q (by omega))))
      have b1 : q_ob g (t + 7 + 22 * i) 0 = some () := by obtain ⟨A, B, I, J, o, -⟩ := q5 i (by omega); exact o.ob
      have b2 : q_ob g1 (t + 19 + 22 * i) 1 = some () := by obtain ⟨A, B, I, J, o, -⟩ := (q6 i (by omega)).kept (h' := g1) (fun q q1 q2 => r1 q (by omega)); exact o.ob
      have b3 : q_ob g2 (t + 22 + 22 * i) 3 = some () := by obtain ⟨A, B, I, J, o, -⟩ := ((q7 i (by omega)).kept (h' := g1) (fun q q1 q2 => r1 q (by omega))).kept (h' := g2) (fun q q1 q2 => r2 q (by omega)); exact o.ob
      have b4 : q_ob g3 (t + 24 + 22 * i) 10 = some () := by obtain ⟨A, B, I, J, o, -⟩ := (((q8 i (by omega)).kept (h' := g1) (fun q q1 q2 => r1 q (by omega))).kept (h' := g2) (fun q q1 q2 => r2 q (by omega))).kept (h' := g3) (fun q q1 q2 => r3 q (by omega)); exact o.ob
      refine ⟨g4, ?_, ⟨q1.kept (rr _ (by omega)), q2.kept (rr _ (by omega)), q3.kept (rr _ (by omega)), q4.kept (fun q q1 q2 => rr q (by omega)), fun k hk => ?_, fun k hk => ?_, fun k hk => ?_, fun k hk => ?_⟩, fun q hq => (rr q (by omega)).trans (r q hq)⟩
      · simp (disch := omega) only [s_X9_copy_56, b_X9_copy_56, nS, Nat.add_zero, tR q1 q4, tR s0.1 s0.2.2.2.1, b1, e1, tR o1 p1, tR s1.1 s1.2.2.2.1, b2, e2, tR o2 p2, tR s2.1 s2.2.2.2.1, b3, e3, tR o3 p3, tR s3.1 s3.2.2.2.1, b4, e4]
      · by_cases e : k = i
        · subst e
          exact (c1.kept (fun q q1 q2 => (r4 q (by omega)).trans ((r3 q (by omega)).trans (r2 q (by omega))))).mo (fun hp => hp.2)
        · exact ((q5 k hk).kept (fun q q1 q2 => rr q (by omega))).mo (fun hp => ⟨by omega, hp.2⟩)
      · by_cases e : k = i
        · subst e
          exact (c2.kept (fun q q1 q2 => (r4 q (by omega)).trans (r3 q (by omega)))).mo (fun hp => hp.2)
        · exact ((q6 k hk).kept (fun q q1 q2 => rr q (by omega))).mo (fun hp => ⟨by omega, hp.2⟩)
      · by_cases e : k = i
        · subst e
          exact (c3.kept (fun q q1 q2 => r4 q (by omega))).mo (fun hp => hp.2)
        · exact ((q7 k hk).kept (fun q q1 q2 => rr q (by omega))).mo (fun hp => ⟨by omega, hp.2⟩)
      · by_cases e : k = i
        · subst e
          exact c4.mo (fun hp => hp.2)
        · exact ((q8 k hk).kept (fun q q1 q2 => rr q (by omega))).mo (fun hp => ⟨by omega, hp.2⟩))
    (fun g _ => by simp (disch := omega) only [s_X9_copy_56, b_X9_copy_56, nS, Nat.add_zero])
    (h := h) ⟨⟨d.1, d.2.1, d.2.2.1, d.2.2.2.1, fun k hk => (d.2.2.2.2.1 k hk).mo (fun hp => by omega), fun k hk => (d.2.2.2.2.2.1 k hk).mo (fun hp => by omega), fun k hk => (d.2.2.2.2.2.2.1 k hk).mo (fun hp => by omega), fun k hk => (d.2.2.2.2.2.2.2 k hk).mo (fun hp => by omega)⟩, Fr.rf⟩
  refine ⟨h', e', ?_, r'⟩
  obtain ⟨q1, q2, q3, q4, q5, q6, q7, q8⟩ := d'
  exact ⟨q1, q2, q3, q4, fun k hk => (q5 k hk).mo (fun hp => ⟨hk, hp⟩), fun k hk => (q6 k hk).mo (fun hp => ⟨hk, hp⟩), fun k hk => (q7 k hk).mo (fun hp => ⟨hk, hp⟩), fun k hk => (q8 k hk).mo (fun hp => ⟨hk, hp⟩)⟩
theorem c_copyT (d : TD h t σ) (s : TD h u τ) (ok : SGok τ) (hd : t + 51 ≤ u ∨ u + 51 ≤ t) : ∃ h', F_X9_copy h t u = some h' ∧ TD h' t τ ∧ Fr h h' t (t + 51) := by
  obtain ⟨d1, ⟨g, d2, -⟩, ⟨gc, d3, -⟩, d4, d5, d6, d7, d8⟩ := d
  have sk : ∀ {h'}, Fr h h' t (t + 51) → TD h' u τ := fun r => s.kept (fun q q1 q2 => r q (by omega))
  obtain ⟨f, s2, f2⟩ := s.2.1
  have e1 := cpI_go (h := h) (ty := .byte) (a := u + 1) (b := t + 1) (n := 600) (by omega) s2 d2 (fun i hi => by rw [f2 i hi]; exact ok.2.2.2.2.2.2 i)
  obtain ⟨h1, hh1⟩ : ∃ h1, h1 = va_up h (t + 1) (some (.inl (.byte, 600, .inl (va_cpy f g 0 0 600)))) := ⟨_, rfl⟩
  rw [← hh1] at e1
  have r1 : Fr h h1 (t + 1) (t + 2) := by rw [hh1]; exact va_fr
  have c1 : h1 (t + 1) = some (.inl (.byte, 600, .inl (va_cpy f g 0 0 600))) := by rw [hh1]; exact va_up_self _ _ _
  have w1 : Fr h h1 t (t + 51) := r1.wd (by omega) (by omega)
  obtain ⟨fc, s3, f3⟩ := (sk w1).2.2.1
  have e2 := cpI_go (h := h1) (ty := .int) (a := u + 2) (b := t + 2) (n := 4) (by omega) s3 ((r1 _ (by omega)).trans d3) (fun i hi => rfl)
  obtain ⟨h2, hh2⟩ : ∃ h2, h2 = va_up h1 (t + 2) (some (.inl (.int, 4, .inl (va_cpy fc gc 0 0 4)))) := ⟨_, rfl⟩
  rw [← hh2] at e2
  have r2 : Fr h1 h2 (t + 2) (t + 3) := by rw [hh2]; exact va_fr
  have c2 : h2 (t + 2) = some (.inl (.int, 4, .inl (va_cpy fc gc 0 0 4))) := by rw [hh2]; exact va_up_self _ _ _
  have w2 : Fr h h2 t (t + 51) := w1.tr (r2.wd (by omega) (by omega))
  have o2 : TDo h2 t σ := (d1.kept (r1 _ (by omega))).kept (r2 _ (by omega))
  obtain ⟨h3, e3, o3, r3⟩ := o2.p6 (sZ τ)
  have w3 : Fr h h3 t (t + 51) := w2.tr (r3.wd (by omega) (by omega))
  obtain ⟨h4, e4, o4, r4⟩ := o3.p7 (sF τ)
  have w4 : Fr h h4 t (t + 51) := w3.tr (r4.wd (by omega) (by omega))
  obtain ⟨h5, e5, o5, r5⟩ := o4.p8 (sP τ)
  have w5 : Fr h h5 t (t + 51) := w4.tr (r5.wd (by omega) (by omega))
  have low : ∀ q, t + 1 ≤ q → h5 q = h2 q := fun q hq => (r5 q (by omega)).trans ((r4 q (by omega)).trans (r3 q (by omega)))
  have low2 : ∀ q, t + 3 ≤ q → h5 q = h q := fun q hq => (low q (by omega)).trans ((r2 q (by omega)).trans (r1 q (by omega)))
  have o5' : TDo h5 t τ := o5
  have tq : TQ h5 t τ (fun _ _ => False) := ⟨o5', ⟨_, (low _ (by omega)).trans ((r2 _ (by omega)).trans c1), fun i hi => by rw [cpy_in hi]; exact f2 i hi⟩, ⟨_, (low _ (by omega)).trans c2, fun i hi => by rw [cpy_in hi]; exact f3 i hi⟩, d4.kept (fun q q1 q2 => low2 q (by omega)), fun k hk => ((d5 k hk).kept (fun q q1 q2 => low2 q (by omega))).no, fun k hk => ((d6 k hk).kept (fun q q1 q2 => low2 q (by omega))).no, fun k hk => ((d7 k hk).kept (fun q q1 q2 => low2 q (by omega))).no, fun k hk => ((d8 k hk).kept (fun q q1 q2 => low2 q (by omega))).no⟩
  obtain ⟨h6, e6, td6, r6⟩ := c_copyLoop tq (sk w5) ok hd
  refine ⟨h6, ?_, td6, w5.tr r6⟩
  have a1 := d4.kept (h' := h1) (fun q q1 q2 => r1 q (by omega))
  have ts0 := tS s
  have ts1 := tS (sk w1)
  have ts2 := tS (sk w2)
  have ts3 := tS (sk w3)
  have ts4 := tS (sk w4)
  unfold F_X9_copy
  have e1 : q_cpI h .byte (u + 1) (0 : Int32) (t + 1) (0 : Int32) (600 : Int32) = some h1 := e1
  have e2 : q_cpI h1 .int (u + 2) (0 : Int32) (t + 2) (0 : Int32) (4 : Int32) = some h2 := e2
  have e6 : q_lp (s_X9_copy_56 t u) q_N ((0 : Int32), h5) = some h6 := e6
  rw [ts0.2.2.2.2.1, Option.bind_some, (tR d1 d4).2.1, Option.bind_some, e1, Option.bind_some]
  rw [ts1.2.2.2.2.2.1, Option.bind_some, (tR (d1.kept (h' := h1) (r1 _ (by omega))) a1).2.2.1, Option.bind_some, e2, Option.bind_some]
  rw [ts2.2.1, Option.bind_some, e3, Option.bind_some, ts3.2.2.1, Option.bind_some, e4, Option.bind_some, ts4.2.2.2.1, Option.bind_some, e5, Option.bind_some, e6, Option.bind_some]
end TCP
