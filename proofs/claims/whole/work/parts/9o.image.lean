/-! ===== calls: image, again ===== -/
def s0 : SG := (fun _ => 0, 0, 0, m1, fun _ => 0, zA, zA, zA, zA)
theorem s0_ok : SGok s0 := ⟨Nat.zero_le _, fun _ _ => Nat.zero_le _, fun k hk => absurd hk (Nat.not_lt_zero k), fun k hk => absurd hk (Nat.not_lt_zero k), fun k hk => absurd hk (Nat.not_lt_zero k), fun k hk => absurd hk (Nat.not_lt_zero k), fun _ => rfl⟩
theorem sR_go {h : qH} {ci N x i nx : Nat} {C : String} {f : Nat → Option Nat} (hx : h x = some (refs C N f)) (ho : q_ob h nx ci = some ()) (hi : i < N) (hN : N < 2 ^ 31) : q_sR h ci C x (nI i) nx = some (va_up h x (some (refs C N (va_up f i (some nx))))) := by
  unfold q_sR
  rw [hx]
  dsimp only [refs]
  rw [if_pos ⟨rfl, nI_nn (by omega), by rw [nI_cl (by omega)]; exact hi, ho⟩, nI_cl (by omega)]
def RA (h : qH) (x : Nat) (C : String) (n : Nat) (g : Nat → Nat) : Prop := ∃ f, h x = some (refs C 2 f) ∧ ∀ k, k < n → f k = some (g k)
theorem RA.kept {h h' : qH} {x n : Nat} {C : String} {g : Nat → Nat} (r : RA h x C n g) (hk : h' x = h x) : RA h' x C n g := by
  obtain ⟨f, h1, h2⟩ := r
  exact ⟨f, by rw [hk]; exact h1, h2⟩
theorem RA.set {h : qH} {x i nx ci : Nat} {C : String} {g : Nat → Nat} (r : RA h x C i g) (ho : q_ob h nx ci = some ()) (hi : i < 2) (hg : g i = nx) : ∃ h', q_sR h ci C x (nI i) nx = some h' ∧ RA h' x C (i + 1) g ∧ Fr h h' x (x + 1) := by
  obtain ⟨f, h1, h2⟩ := r
  refine ⟨_, sR_go h1 ho hi (by omega), ⟨_, va_up_self _ _ _, fun k hk => ?_⟩, va_fr⟩
  by_cases e : k = i
  · subst e; rw [va_up_self, hg]
  · rw [va_up_ne _ _ e]; exact h2 k (by omega)
def IT (h0 h : qH) (t i : Nat) : Prop := TDo h t s0 ∧ TDt h t s0 ∧ TDc h t s0 ∧ (RA h (t + 3) RX0 i (fun k => t + 7 + 22 * k) ∧ RA h (t + 4) RX1 i (fun k => t + 19 + 22 * k) ∧ RA h (t + 5) RX3 i (fun k => t + 22 + 22 * k) ∧ RA h (t + 6) RX10 i (fun k => t + 24 + 22 * k)) ∧ (∀ k, k < i → CBx h (t + 7 + 22 * k) False zI) ∧ (∀ k, k < i → CEx h (t + 19 + 22 * k) False zI) ∧ (∀ k, k < i → CGx h (t + 22 + 22 * k) False zI) ∧ (∀ k, k < i → CWx h (t + 24 + 22 * k) False zI) ∧ Fr h0 h t (t + 7 + 22 * i)
theorem it_fR {h : qH} {t : Nat} {σ : SG} (o : TDo h t σ) : q_fR h t 9 2 = some (t + 3) ∧ q_fR h t 9 3 = some (t + 4) ∧ q_fR h t 9 4 = some (t + 5) ∧ q_fR h t 9 5 = some (t + 6) := by
  unfold TDo at o
  exact ⟨by simp [q_fR, o], by simp [q_fR, o], by simp [q_fR, o], by simp [q_fR, o]⟩
theorem it_step {h0 h : qH} {t i : Nat} (hi : i < 2) (it : IT h0 h t i) : ∃ h', s_X9_init_59 t (nI i, h, t + 7 + 22 * i) = some (.inl (nI (i + 1), h', t + 7 + 22 * (i + 1))) ∧ IT h0 h' t (i + 1) := by
  obtain ⟨o, tt, cc, ⟨a1, a2, a3, a4⟩, b1, b2, b3, b4, r⟩ := it
  obtain ⟨g1, e1, n1, r1⟩ := n_X0 h (t + 7 + 22 * i)
  obtain ⟨g2, e2, k2, r2⟩ := (a1.kept (h' := g1) (r1 _ (by omega))).set (ci := 0) (nx := t + 7 + 22 * i) n1.ob hi rfl
  have q2 : ∀ q, q ≠ t + 3 → (q < t + 7 + 22 * i ∨ t + 7 + 22 * i + 12 ≤ q) → g2 q = h q := fun q h1 h2 => (r2 q (by omega)).trans (r1 q h2)
  obtain ⟨g3, e3, n3, r3⟩ := n_X1 g2 (t + 7 + 22 * i + 12)
  obtain ⟨g4, e4, k4, r4⟩ := (a2.kept (h' := g3) ((r3 _ (by omega)).trans (q2 _ (by omega) (by omega)))).set (ci := 1) (nx := t + 7 + 22 * i + 12) n3.ob hi (show t + 19 + 22 * i = _ by omega)
  have q4 : ∀ q, q ≠ t + 3 → q ≠ t + 4 → (q < t + 7 + 22 * i ∨ t + 7 + 22 * i + 15 ≤ q) → g4 q = h q := fun q h1 h2 h3 => (r4 q (by omega)).trans ((r3 q (by omega)).trans (q2 q h1 (by omega)))
  obtain ⟨g5, e5, n5, r5⟩ := n_X3 g4 (t + 7 + 22 * i + 12 + 3)
  obtain ⟨g6, e6, k6, r6⟩ := (a3.kept (h' := g5) ((r5 _ (by omega)).trans (q4 _ (by omega) (by omega) (by omega)))).set (ci := 3) (nx := t + 7 + 22 * i + 12 + 3) n5.ob hi (show t + 22 + 22 * i = _ by omega)
  have q6 : ∀ q, q ≠ t + 3 → q ≠ t + 4 → q ≠ t + 5 → (q < t + 7 + 22 * i ∨ t + 7 + 22 * i + 17 ≤ q) → g6 q = h q := fun q h1 h2 h3 h4 => (r6 q (by omega)).trans ((r5 q (by omega)).trans (q4 q h1 h2 (by omega)))
  obtain ⟨g7, e7, n7, r7⟩ := n_X10 g6 (t + 7 + 22 * i + 12 + 3 + 2)
  obtain ⟨g8, e8, k8, r8⟩ := (a4.kept (h' := g7) ((r7 _ (by omega)).trans (q6 _ (by omega) (by omega) (by omega) (by omega)))).set (ci := 10) (nx := t + 7 + 22 * i + 12 + 3 + 2) n7.ob hi (show t + 24 + 22 * i = _ by omega)
  have q8 : ∀ q, q ≠ t + 3 → q ≠ t + 4 → q ≠ t + 5 → q ≠ t + 6 → (q < t + 7 + 22 * i ∨ t + 7 + 22 * i + 22 ≤ q) → g8 q = h q := fun q h1 h2 h3 h4 h5 => (r8 q (by omega)).trans ((r7 q (by omega)).trans (q6 q h1 h2 h3 (by omega)))
  have z1 : TDo g1 t s0 := o.kept (r1 _ (by omega))
  have z2 : TDo g2 t s0 := o.kept (q2 _ (by omega) (by omega))
  have z4 : TDo g4 t s0 := o.kept (q4 _ (by omega) (by omega) (by omega))
  have z6 : TDo g6 t s0 := o.kept (q6 _ (by omega) (by omega) (by omega) (by omega))
  refine ⟨g8, ?_, o.kept (q8 _ (by omega) (by omega) (by omega) (by omega) (by omega)), tt.kept (q8 _ (by omega) (by omega) (by omega) (by omega) (by omega)), cc.kept (q8 _ (by omega) (by omega) (by omega) (by omega) (by omega)), ⟨?_, ?_, ?_, k8⟩, fun k hk => ?_, fun k hk => ?_, fun k hk => ?_, fun k hk => ?_, fun q hq => ?_⟩
  · rw [show t + 7 + 22 * (i + 1) = t + 7 + 22 * i + 12 + 3 + 2 + 5 by omega]
    generalize t + 7 + 22 * i = nx at e1 e2 e3 e4 e5 e6 e7 e8
    clear q2 q4 q6 q8
    show b_X9_init_59 t (nI i) h nx = _
    unfold b_X9_init_59
    rw [if_neg (show ¬ (2 : Int32) ≤ nI i from fun q => by have := (nI_leI (a := 2) (by omega) (by omega)).mp q; omega), (it_fR o).1, Option.bind_some, e1, Option.bind_some]
    dsimp only
    rw [e2, Option.bind_some, (it_fR z2).2.1, Option.bind_some, e3, Option.bind_some]
    dsimp only
    rw [e4, Option.bind_some, (it_fR z4).2.2.1, Option.bind_some, e5, Option.bind_some]
    dsimp only
    rw [e6, Option.bind_some, (it_fR z6).2.2.2, Option.bind_some, e7, Option.bind_some]
    dsimp only
    rw [e8, Option.bind_some]
    have : nI i + 1 = nI (i + 1) := by simp only [nS]
    rw [this]
  · exact k2.kept ((r8 _ (by omega)).trans ((r7 _ (by omega)).trans ((r6 _ (by omega)).trans ((r5 _ (by omega)).trans ((r4 _ (by omega)).trans (r3 _ (by omega)))))))
  · exact k4.kept ((r8 _ (by omega)).trans ((r7 _ (by omega)).trans ((r6 _ (by omega)).trans (r5 _ (by omega)))))
  · exact k6.kept ((r8 _ (by omega)).trans (r7 _ (by omega)))
  · by_cases e : k = i
    · subst e
      exact CBx.kept ⟨_, _, _, _, n1, False.elim⟩ (fun q h1 h2 => (r8 q (by omega)).trans ((r7 q (by omega)).trans ((r6 q (by omega)).trans ((r5 q (by omega)).trans ((r4 q (by omega)).trans ((r3 q (by omega)).trans (r2 q (by omega))))))))
    · exact (b1 k (by omega)).kept (fun q h1 h2 => q8 q (by omega) (by omega) (by omega) (by omega) (by omega))
  · by_cases e : k = i
    · subst e
      rw [show t + 19 + 22 * k = t + 7 + 22 * k + 12 by omega]
      exact CEx.kept ⟨_, _, _, _, n3, False.elim⟩ (fun q h1 h2 => (r8 q (by omega)).trans ((r7 q (by omega)).trans ((r6 q (by omega)).trans ((r5 q (by omega)).trans (r4 q (by omega))))))
    · exact (b2 k (by omega)).kept (fun q h1 h2 => q8 q (by omega) (by omega) (by omega) (by omega) (by omega))
  · by_cases e : k = i
    · subst e
      rw [show t + 22 + 22 * k = t + 7 + 22 * k + 12 + 3 by omega]
      exact CGx.kept ⟨_, _, _, _, n5, False.elim⟩ (fun q h1 h2 => (r8 q (by omega)).trans ((r7 q (by omega)).trans (r6 q (by omega))))
    · exact (b3 k (by omega)).kept (fun q h1 h2 => q8 q (by omega) (by omega) (by omega) (by omega) (by omega))
  · by_cases e : k = i
    · subst e
      rw [show t + 24 + 22 * k = t + 7 + 22 * k + 12 + 3 + 2 by omega]
      exact CWx.kept ⟨_, _, _, _, n7, False.elim⟩ (fun q h1 h2 => r8 q (by omega))
    · exact (b4 k (by omega)).kept (fun q h1 h2 => q8 q (by omega) (by omega) (by omega) (by omega) (by omega))
  · exact (q8 q (by omega) (by omega) (by omega) (by omega) (by omega)).trans (r q (by omega))
theorem n_X9 (h : qH) (t : Nat) : ∃ h', F_X9_init (q_new h t 9 df_X9) (t + 1) t = some (h', t + 51) ∧ TD h' t s0 ∧ Fr h h' t (t + 51) := by
  have p0 : PO h (q_new h t 9 df_X9) t 9 df_X9 [] := PO.new
  obtain ⟨h1, e1, p1⟩ := p0.add (nx := t + 1) (k := 0) (.inl (.byte, 600, .inl (fun _ => 0))) rfl (Nat.le_of_ble_eq_true rfl)
  obtain ⟨h2, e2, p2⟩ := p1.add (nx := t + 2) (k := 1) (.inl (.int, 4, .inl (fun _ => 0))) rfl (Nat.le_of_ble_eq_true rfl)
  obtain ⟨h3, e3, p3⟩ := p2.add (nx := t + 3) (k := 2) (refs RX0 2 (fun _ => none)) rfl (Nat.le_of_ble_eq_true rfl)
  obtain ⟨h4, e4, p4⟩ := p3.add (nx := t + 4) (k := 3) (refs RX1 2 (fun _ => none)) rfl (Nat.le_of_ble_eq_true rfl)
  obtain ⟨h5, e5, p5⟩ := p4.add (nx := t + 5) (k := 4) (refs RX3 2 (fun _ => none)) rfl (Nat.le_of_ble_eq_true rfl)
  obtain ⟨h6, e6, p6⟩ := p5.add (nx := t + 6) (k := 5) (refs RX10 2 (fun _ => none)) rfl (Nat.le_of_ble_eq_true rfl)
  obtain ⟨h7, e7, p7⟩ := p6.put (k := 8) (.int m1) (Nat.le_of_ble_eq_true rfl)
  have it0 : IT h h7 t 0 := by
    obtain ⟨c1, c2, c3⟩ := p7
    exact ⟨c1, ⟨_, c2 0 _ rfl, fun _ _ => rfl⟩, ⟨_, c2 1 _ rfl, fun _ _ => rfl⟩, ⟨⟨_, c2 2 _ rfl, fun k hk => absurd hk (Nat.not_lt_zero k)⟩, ⟨_, c2 3 _ rfl, fun k hk => absurd hk (Nat.not_lt_zero k)⟩, ⟨_, c2 4 _ rfl, fun k hk => absurd hk (Nat.not_lt_zero k)⟩, ⟨_, c2 5 _ rfl, fun k hk => absurd hk (Nat.not_lt_zero k)⟩⟩, fun k hk => absurd hk (Nat.not_lt_zero k), fun k hk => absurd hk (Nat.not_lt_zero k), fun k hk => absurd hk (Nat.not_lt_zero k), fun k hk => absurd hk (Nat.not_lt_zero k), c3⟩
  obtain ⟨⟨h8, n8⟩, e8, hn8, it8⟩ := q_lp_idx (step := s_X9_init_59 t) (fun i s => s.1 = nI i ∧ s.2.2 = t + 7 + 22 * i ∧ IT h s.2.1 t i) 2 (fun r => r.2 = t + 51 ∧ IT h r.1 t 2) (by
    rintro i ⟨x, g, n⟩ hi ⟨hx, hn, it⟩
    dsimp only at hx hn it
    subst hx hn
    obtain ⟨g', e', it'⟩ := it_step hi it
    exact ⟨_, e', rfl, rfl, it'⟩) (by
    rintro ⟨x, g, n⟩ ⟨hx, hn, it⟩
    dsimp only at hx hn it
    subst hx hn
    refine ⟨(g, t + 7 + 22 * 2), ?_, rfl, it⟩
    show b_X9_init_59 t (nI 2) g (t + 7 + 22 * 2) = _
    unfold b_X9_init_59
    rw [if_pos (by decide)]) 3 (nI 0, h7, t + 7) ⟨rfl, rfl, it0⟩ (by omega)
  dsimp only at hn8 it8
  subst hn8
  obtain ⟨o, tt, cc, ⟨a1, a2, a3, a4⟩, b1, b2, b3, b4, r⟩ := it8
  refine ⟨h8, ?_, ⟨o, tt, cc, ⟨a1, a2, a3, a4⟩, fun k hk => (b1 k hk).mo (fun hp => absurd hp (Nat.not_lt_zero k)), fun k hk => (b2 k hk).mo (fun hp => absurd hp (Nat.not_lt_zero k)), fun k hk => (b3 k hk).mo (fun hp => absurd hp (Nat.not_lt_zero k)), fun k hk => (b4 k hk).mo (fun hp => absurd hp (Nat.not_lt_zero k))⟩, fun q hq => r q (by omega)⟩
  unfold F_X9_init
  have e1 : q_put (q_nwI (q_new h t 9 df_X9) (t + 1) .byte 600) t 9 0 (.ref (t + 1)) = some h1 := e1
  have e2 : q_put (q_nwI h1 (t + 1 + 1) .int 4) t 9 1 (.ref (t + 1 + 1)) = some h2 := e2
  have e3 : q_put (q_nwR h2 (t + 1 + 1 + 1) RX0 2) t 9 2 (.ref (t + 1 + 1 + 1)) = some h3 := e3
  have e4 : q_put (q_nwR h3 (t + 1 + 1 + 1 + 1) RX1 2) t 9 3 (.ref (t + 1 + 1 + 1 + 1)) = some h4 := e4
  have e5 : q_put (q_nwR h4 (t + 1 + 1 + 1 + 1 + 1) RX3 2) t 9 4 (.ref (t + 1 + 1 + 1 + 1 + 1)) = some h5 := e5
  have e6 : q_put (q_nwR h5 (t + 1 + 1 + 1 + 1 + 1 + 1) RX10 2) t 9 5 (.ref (t + 1 + 1 + 1 + 1 + 1 + 1)) = some h6 := e6
  have e7 : q_put h6 t 9 8 (.int (-1 : Int32)) = some h7 := e7
  have e8 : q_lp (s_X9_init_59 t) 3 ((0 : Int32), h7, t + 1 + 1 + 1 + 1 + 1 + 1 + 1) = some (h8, t + 51) := e8
  rw [e1, Option.bind_some, e2, Option.bind_some, e3, Option.bind_some, e4, Option.bind_some, e5, Option.bind_some, e6, Option.bind_some, e7, Option.bind_some, e8, Option.bind_some]
def QN (h : qH) (c nx : Nat) (f : Option (Int32 × qH × Nat)) (g : qH → Option (Int32 × qH)) : Prop := ∃ v h1 nx1 h' σ' im', f = some (v, h1, nx1) ∧ g h1 = some (v, h') ∧ (∀ q, q < c → h1 q = h q) ∧ (∀ q, q < c → h' q = h q) ∧ q_ob h1 (c + 80) 12 = some () ∧ ST h' c nx1 σ' im'
theorem RM.kept {h h' : qH} {a : Nat} {σ : SG} {im : Nat → Option SG} (r : RM h a σ im) (f : ∀ q, a ≤ q → q < a + 27 → h' q = h q) : RM h' a σ im := by
  obtain ⟨A, B, I, J, o, pm, ki⟩ := r
  exact ⟨A, B, I, J, o.kept (fun q q1 q2 => f q q1 (by rw [X12_Z] at q2; exact q2)), pm, ki⟩
theorem aR_go {h : qH} {N x i : Nat} {C : String} {f : Nat → Option Nat} (hx : h x = some (refs C N f)) (hi : i < N) (hN : N < 2 ^ 31) : q_aR h C x (nI i) = some (f i) := by
  unfold q_aR
  rw [hx]
  dsimp only [refs]
  rw [if_pos ⟨rfl, nI_nn (by omega), by rw [nI_cl (by omega)]; exact hi⟩, nI_cl (by omega)]
/-- the reference keeps an image -/
theorem d_image {h : qH} {a k : Nat} {σ : SG} {im : Nat → Option SG} (rm : RM h a σ im) (ok : SGok σ) (hk : k < 3) : ∃ h', F_X12_image h a (nI k) = some (nI 1, h') ∧ RM h' a σ (fun q => if q = k then some σ else im q) ∧ Fr h h' a (a + 27) := by
  obtain ⟨h1, A, B, I, J, e1, o1, pm, ki, r1⟩ := rm.p0
  obtain ⟨h2, A2, e2, o2, r2, pm2, oth, e48⟩ := d_copyAll o1 (j := 0) (k := k + 1) (by omega) (by omega) (by omega) pm ok
  obtain ⟨h3, e3, o3, r3⟩ := X12_s48 o2 (i := k) (nI 1) (by omega)
  have n3 : On [48] A2 (upF A2 48 (upd (A2 48) k (vp_nar .boolean (nI 1)))) := On.up (by decide)
  have hv : vp_nar .boolean (nI 1) = nI 1 := by decide
  rw [hv] at o3 n3
  refine ⟨h3, ?_, ⟨_, B, I, J, o3, (oth 0 σ (by omega) pm).cg n3 (by decide), fun q hq => ?_⟩, (r1.tr r2).tr r3⟩
  · have hin := in_in h1 (n := k) (lo := 0) (hi := 2) (by omega) (by omega) (by omega)
    simp (disch := omega) only [F_X12_image, nS, e1, hin, o1.ob, e2, X12_rd o2, e3]
  · rw [upF_self]
    by_cases e : q = k
    · subst e
      exact Or.inr ⟨pk_us, σ, if_pos rfl, pm2.cg n3 (by decide)⟩
    · have e48' : A2 48 q = A 48 q := by rw [e48]
      rw [pk_un e]
      dsimp only
      rw [if_neg e]
      rcases ki q hq with ⟨k1, k2⟩ | ⟨k1, τ, k2, k3⟩
      · exact Or.inl ⟨e48'.trans k1, k2⟩
      · exact Or.inr ⟨e48'.trans k1, τ, k2, (oth (q + 1) τ (by omega) k3).cg n3 (by decide)⟩
theorem d_again {h : qH} {a k : Nat} {σ τ : SG} {im : Nat → Option SG} (rm : RM h a σ im) (ok : SGok τ) (hk : k < 3) (hi : im k = some τ) : ∃ h', F_X12_again h a (nI k) = some (nI 1, h') ∧ RM h' a τ im ∧ Fr h h' a (a + 27) := by
  obtain ⟨h1, A, B, I, J, e1, o1, pm, ki, r1⟩ := rm.p0
  obtain ⟨p48, pk⟩ : A 48 k = nI 1 ∧ PM A (k + 1) τ := by
    rcases ki k hk with ⟨-, h2⟩ | ⟨k1, τ', k2, k3⟩
    · rw [h2] at hi; cases hi
    · rw [k2] at hi; cases hi; exact ⟨k1, k3⟩
  obtain ⟨h2, A2, e2, o2, r2, pm2, oth, e48⟩ := d_copyAll o1 (j := k + 1) (k := 0) (by omega) (by omega) (by omega) pk ok
  refine ⟨h2, ?_, ⟨A2, B, I, J, o2, pm2, fun q hq => ?_⟩, r1.tr r2⟩
  · have hin := in_in h1 (n := k) (lo := 0) (hi := 2) (by omega) (by omega) (by omega)
    simp (disch := omega) only [F_X12_again, nS, e1, hin, o1.ob, X12_rd o1, p48, e2]
  · rw [e48]
    rcases ki q hq with h | ⟨k1, τ', k2, k3⟩
    · exact Or.inl h
    · exact Or.inr ⟨k1, τ', k2, oth (q + 1) τ' (by omega) k3⟩
section CALLS
variable {h : qH} {c nx : Nat} {σ : SG} {im : Nat → Option SG}
theorem q_again (s : ST h c nx σ im) (x : Int32) : QT h c nx (F_X11_again h c x) (fun h1 => F_X12_again h1 (c + 80) x) := by
  obtain ⟨ok, rc, rm, hn⟩ := s
  have xc := rc.1
  have td := rc.2.1
  obtain ⟨f, i1, i2, i3⟩ := rc.2.2.2
  rcases nRg x 0 2 (by omega) with hx | ⟨k, rfl, -, hk⟩
  · obtain ⟨h1, A, B, I, J, e1, o1, pm, ki, r1⟩ := rm.p0
    refine ⟨nI 0, h, h1, σ, im, ?_, ?_, fun _ _ => rfl, fun q hq => r1 q (by omega), rm.ob, ok, rc.m r1, ⟨A, B, I, J, o1, pm, ki⟩, hn⟩
    · rcases hx with hx | ⟨n, rfl, hn1, hn2⟩
      · simp (disch := omega) only [F_X11_again, nS, gN hx]
      · simp (disch := omega) only [F_X11_again, nS]
    · have hin := in_out h1 (y := x) (lo := 0) (hi := 2) (by omega) (by omega) hx
      simp (disch := omega) only [F_X12_again, nS, e1, hin]
  · have ea := aR_go i1 (i := k) (by omega) (by omega)
    rcases i2 k (by omega) with ⟨fk, ik⟩ | ⟨t, τ, fk, ik, t1, t2, tdt, okt⟩
    · rw [fk] at ea
      obtain ⟨h1, A, B, I, J, e1, o1, pm, ki, r1⟩ := rm.p0
      have p48 : A 48 k = nI 0 := by
        rcases ki k (by omega) with ⟨h1, -⟩ | ⟨-, τ', k2, -⟩
        · exact h1
        · rw [k2] at ik; cases ik
      refine ⟨nI 0, h, h1, σ, im, ?_, ?_, fun _ _ => rfl, fun q hq => r1 q (by omega), rm.ob, ok, rc.m r1, ⟨A, B, I, J, o1, pm, ki⟩, hn⟩
      · simp (disch := omega) only [F_X11_again, nS, xS xc, ea]
      · have hin := in_in h1 (n := k) (lo := 0) (hi := 2) (by omega) (by omega) hk
        simp (disch := omega) only [F_X12_again, nS, e1, hin, X12_rd o1, p48]
    · rw [fk] at ea
      obtain ⟨h1, e1, td1, r1⟩ := c_copyT td tdt okt (by omega)
      have r1' : Fr h h1 (c + 1) (c + 52) := r1.wd (by omega) (by omega)
      have rm1 := rm.c r1' (Or.inl (by omega))
      obtain ⟨h2, e2, rm2, r2⟩ := d_again rm1 okt (k := k) (by omega) ik
      refine ⟨nI 1, h1, h2, τ, im, ?_, e2, fun q hq => r1' q (by omega), fun q hq => (r2 q (by omega)).trans (r1' q (by omega)), rm1.ob, okt, (rc.t r1' td1).m r2, rm2, hn⟩
      simp (disch := omega) only [F_X11_again, nS, xS xc, ea, tS td, e1]
theorem q_image (s : ST h c nx σ im) (x : Int32) : QN h c nx (F_X11_image h nx c x) (fun h1 => F_X12_image h1 (c + 80) x) := by
  obtain ⟨ok, rc, rm, hn⟩ := s
  have xc := rc.1
  have td := rc.2.1
  obtain ⟨f, i1, i2, i3⟩ := rc.2.2.2
  rcases nRg x 0 2 (by omega) with hx | ⟨k, rfl, -, hk⟩
  · obtain ⟨h1, A, B, I, J, e1, o1, pm, ki, r1⟩ := rm.p0
    refine ⟨nI 0, h, nx, h1, σ, im, ?_, ?_, fun _ _ => rfl, fun q hq => r1 q (by omega), rm.ob, ok, rc.m r1, ⟨A, B, I, J, o1, pm, ki⟩, hn⟩
    · rcases hx with hx | ⟨n, rfl, hn1, hn2⟩
      · simp (disch := omega) only [F_X11_image, nS, gN hx]
      · simp (disch := omega) only [F_X11_image, nS]
    · have hin := in_out h1 (y := x) (lo := 0) (hi := 2) (by omega) (by omega) hx
      simp (disch := omega) only [F_X12_image, nS, e1, hin]
  · have ea := aR_go i1 (i := k) (by omega) (by omega)
    rcases i2 k (by omega) with ⟨fk, ik⟩ | ⟨t, τ, fk, ik, t1, t2, tdt, okt⟩
    · rw [fk] at ea
      obtain ⟨h1, e1, td1, r1⟩ := n_X9 h nx
      have ob1 : q_ob h1 nx 9 = some () := (tS td1).1
      have e2 := sR_go (h := h1) (ci := 9) (C := RX9) (N := 3) (x := c + 52) (i := k) (nx := nx) ((r1 _ (by omega)).trans i1) ob1 (by omega) (by omega)
      obtain ⟨h2, hh2⟩ : ∃ h2, h2 = va_up h1 (c + 52) (some (refs RX9 3 (va_up f k (some nx)))) := ⟨_, rfl⟩
      rw [← hh2] at e2
      have r2 : Fr h1 h2 (c + 52) (c + 53) := by rw [hh2]; exact va_fr
      have c2 : h2 (c + 52) = some (refs RX9 3 (va_up f k (some nx))) := by rw [hh2]; exact va_up_self _ _ _
      have td2 : TD h2 nx s0 := td1.kept (fun q q1 q2 => r2 q (by omega))
      have tc2 : TD h2 (c + 1) σ := td.kept (fun q q1 q2 => (r2 q (by omega)).trans (r1 q (by omega)))
      obtain ⟨h3, e3, td3, r3⟩ := c_copyT td2 tc2 ok (by omega)
      have low : ∀ q, q < nx → q ≠ c + 52 → h3 q = h q := fun q q1 q2 => (r3 q (by omega)).trans ((r2 q (by omega)).trans (r1 q (by omega)))
      have xk : ∀ {h'}, h' c = h c → XC h' c := fun r => by unfold XC at *; rw [r]; exact xc
      have xc1 := xk (r1 c (by omega))
      have xc2 := xk ((r2 c (by omega)).trans (r1 c (by omega)))
      have rm3 : RM h3 (c + 80) σ im := rm.kept (fun q q1 q2 => low q (by omega) (by omega))
      obtain ⟨h4, e4, rm4, r4⟩ := d_image rm3 ok (k := k) (by omega)
      have rc3 : RC h3 c (nx + 51) σ (fun q => if q = k then some σ else im q) := by
        refine ⟨xk (low c (by omega) (by omega)), td.kept (fun q q1 q2 => low q (by omega) (by omega)), rc.2.2.1.kept (fun q q1 q2 => low q (by omega) (by omega)), ⟨va_up f k (some nx), (r3 _ (by omega)).trans c2, fun j hj => ?_, fun j1 j2 t u hj1 hj2 hne ht hu => ?_⟩⟩
        · by_cases e : j = k
          · subst e
            exact Or.inr ⟨nx, σ, va_up_self _ _ _, if_pos rfl, hn, Nat.le_refl _, td3, ok⟩
          · rw [va_up_ne _ _ e]
            dsimp only
            rw [if_neg e]
            rcases i2 j hj with h | ⟨t, τ, f1, f2, f3, f4, f5, f6⟩
            · exact Or.inl h
            · exact Or.inr ⟨t, τ, f1, f2, f3, by omega, f5.kept (fun q q1 q2 => low q (by omega) (by omega)), f6⟩
        · by_cases e1 : j1 = k
          · subst e1
            rw [va_up_self] at ht
            cases ht
            rw [va_up_ne _ _ (fun e => hne e.symm)] at hu
            rcases i2 j2 hj2 with ⟨h, -⟩ | ⟨t, τ, f1, f2, f3, f4, f5, f6⟩
            · rw [h] at hu; cases hu
            · rw [f1] at hu; cases hu; exact Or.inr f4
          · rw [va_up_ne _ _ e1] at ht
            by_cases e2 : j2 = k
            · subst e2
              rw [va_up_self] at hu
              cases hu
              rcases i2 j1 hj1 with ⟨h, -⟩ | ⟨t, τ, f1, f2, f3, f4, f5, f6⟩
              · rw [h] at ht; cases ht
              · rw [f1] at ht; cases ht; exact Or.inl f4
            · rw [va_up_ne _ _ e2] at hu
              exact i3 j1 j2 t u hj1 hj2 hne ht hu
      refine ⟨nI 1, h3, nx + 51, h4, σ, _, ?_, e4, fun q hq => low q (by omega) (by omega), fun q hq => (r4 q (by omega)).trans (low q (by omega) (by omega)), rm3.ob, ok, rc3.m r4, rm4, by omega⟩
      show F_X11_image h nx c (nI k) = some (nI 1, h3, nx + 51)
      unfold F_X11_image
      rw [if_neg (show ¬ nI k < 0 from fun q => by have := (nI_ltI (a := k) (b := 0) (by omega) (by omega)).mp q; omega), if_pos (show nI k < 3 from (nI_ltI (a := k) (b := 3) (by omega) (by omega)).mpr (by omega)), (xS xc).2.2.1, Option.bind_some, ea, Option.bind_some, Option.elim_none, e1, Option.bind_some]
      dsimp only
      rw [(xS xc1).2.2.1, Option.bind_some, e2, Option.bind_some, (xS xc2).2.1, Option.bind_some, (tS td2).1, Option.bind_some, e3, Option.bind_some]
      rfl
    · rw [fk] at ea
      obtain ⟨h1, e1, td1, r1⟩ := c_copyT tdt td ok (by omega)
      have rm1 : RM h1 (c + 80) σ im := rm.kept (fun q q1 q2 => r1 q (by omega))
      obtain ⟨h2, e2, rm2, r2⟩ := d_image rm1 ok (k := k) (by omega)
      have rc1 : RC h1 c nx σ (fun q => if q = k then some σ else im q) := by
        refine ⟨by unfold XC at *; rw [r1 _ (by omega)]; exact xc, td.kept (fun q q1 q2 => r1 q (by omega)), rc.2.2.1.kept (fun q q1 q2 => r1 q (by omega)), ⟨f, (r1 _ (by omega)).trans i1, fun j hj => ?_, i3⟩⟩
        by_cases e : j = k
        · subst e
          exact Or.inr ⟨t, σ, fk, if_pos rfl, t1, t2, td1, ok⟩
        · dsimp only
          rw [if_neg e]
          rcases i2 j hj with h | ⟨u, υ, f1, f2, f3, f4, f5, f6⟩
          · exact Or.inl h
          · have := i3 j k u t hj (by omega) e f1 fk
            exact Or.inr ⟨u, υ, f1, f2, f3, f4, f5.kept (fun q q1 q2 => r1 q (by omega)), f6⟩
      refine ⟨nI 1, h1, nx, h2, σ, _, ?_, e2, fun q hq => r1 q (by omega), fun q hq => (r2 q (by omega)).trans (r1 q (by omega)), rm1.ob, ok, rc1.m r2, rm2, hn⟩
      show F_X11_image h nx c (nI k) = some (nI 1, h1, nx)
      simp (disch := omega) only [F_X11_image, nS, xS xc, ea, tS tdt, e1]
end CALLS
