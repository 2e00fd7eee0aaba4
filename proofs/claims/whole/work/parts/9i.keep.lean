/-! ===== calls that change what is kept: town (a row of its own), feed, end ===== -/
def QT {α : Type} (h : qH) (c nx : Nat) (f : Option (α × qH)) (g : qH → Option (α × qH)) : Prop := ∃ v h1 h' σ' im', f = some (v, h1) ∧ g h1 = some (v, h') ∧ (∀ q, q < c → h1 q = h q) ∧ (∀ q, q < c → h' q = h q) ∧ q_ob h1 (c + 80) 12 = some () ∧ ST h' c nx σ' im'
def QP (h : qH) (c nx : Nat) (f : Option Int32) (g : Option (Int32 × qH)) : Prop := ∃ v h' σ' im', f = some v ∧ g = some (v, h') ∧ (∀ q, q < c → h' q = h q) ∧ ST h' c nx σ' im'
section CONV
variable {α : Type} {h : qH} {c nx : Nat} {σ : SG} {im : Nat → Option SG}
theorem RM.ob {a : Nat} (r : RM h a σ im) : q_ob h a 12 = some () := by
  obtain ⟨A, B, I, J, o, -⟩ := r
  exact o.ob
theorem QW.qt {f : Option (α × qH)} {g : qH → Option (α × qH)} (s : ST h c nx σ im) (w : QW h c σ im f g) : QT h c nx f g := by
  obtain ⟨v, h1, h', e1, e2, f1, sc, f2, rm⟩ := w
  obtain ⟨ok, rc, rm0, hn⟩ := s
  exact ⟨v, h1, h', σ, im, e1, e2, fun q hq => f1 q (by omega), fun q hq => (f2 q (by omega)).trans (f1 q (by omega)), (rm0.c f1 (Or.inl (Nat.le_refl _))).ob, ok, (rc.q f1 sc).m f2, rm, hn⟩
theorem QR.qp {f : Option Int32} {g : Option (Int32 × qH)} (s : ST h c nx σ im) (w : QR h c nx σ im f g) : QP h c nx f g := by
  obtain ⟨v, h', e1, e2, f2, rm⟩ := w
  obtain ⟨ok, rc, rm0, hn⟩ := s
  exact ⟨v, h', σ, im, e1, e2, fun q hq => f2 q (by omega), ok, rc.m f2, rm, hn⟩
end CONV
section TDU
variable {h h' : qH} {t : Nat} {σ σ' : SG}
theorem TD.re (d : TD h t σ) (r : ∀ q, t + 3 ≤ q → q < t + 51 → h' q = h q) (o : TDo h' t σ') (tt : TDt h' t σ') (cc : TDc h' t σ') (eC : sC σ' = sC σ) (eB : sB σ' = sB σ) (eE : sE σ' = sE σ) (eG : sG σ' = sG σ) (eW : sW σ' = sW σ) : TD h' t σ' := by
  obtain ⟨d1, d2, d3, d4, d5, d6, d7, d8⟩ := d
  unfold TD
  rw [eC, eB, eE, eG, eW]
  exact ⟨o, tt, cc, d4.kept (fun q h1 h2 => r q (by omega) (by omega)), fun k hk2 => (d5 k hk2).kept (fun q h1 h2 => r q (by omega) (by omega)), fun k hk2 => (d6 k hk2).kept (fun q h1 h2 => r q (by omega) (by omega)), fun k hk2 => (d7 k hk2).kept (fun q h1 h2 => r q (by omega) (by omega)), fun k hk2 => (d8 k hk2).kept (fun q h1 h2 => r q (by omega) (by omega))⟩
/-- the town of one number has changed -/
theorem TD.tw (d : TD h t σ) {k : Nat} (hk : k < 2) (r : Fr h h' (t + 24 + 22 * k) (t + 24 + 22 * k + 5)) (x : CWx h' (t + 24 + 22 * k) (k < sC σ 3) (sW σ k)) : TD h' t σ := by
  obtain ⟨d1, d2, d3, d4, d5, d6, d7, d8⟩ := d
  refine ⟨?_, ?_, ?_, d4.kept (fun q h1 h2 => r q (by omega)), fun k2 hk2 => (d5 k2 hk2).kept (fun q h1 h2 => r q (by omega)), fun k2 hk2 => (d6 k2 hk2).kept (fun q h1 h2 => r q (by omega)), fun k2 hk2 => (d7 k2 hk2).kept (fun q h1 h2 => r q (by omega)), fun k2 hk2 => ?_⟩
  · unfold TDo at *; rw [r _ (by omega)]; exact d1
  · unfold TDt at *; rw [r _ (by omega)]; exact d2
  · unfold TDc at *; rw [r _ (by omega)]; exact d3
  · by_cases e : k2 = k
    · subst e; exact x
    · exact (d8 k2 hk2).kept (fun q h1 h2 => r q (by omega))
def sgZ (σ : SG) (z : Nat) : SG := (σ.1, z, σ.2.2)
def sgT (σ : SG) (f : Nat → Int32) : SG := (f, σ.2)
def sgF (σ : SG) (f p : Int32) : SG := (σ.1, σ.2.1, f, p, σ.2.2.2.2)
def sgC (σ : SG) (n : Nat → Nat) : SG := (σ.1, σ.2.1, σ.2.2.1, σ.2.2.2.1, n, σ.2.2.2.2.2)
theorem va_fr {v : Option qC} : Fr h (va_up h t v) t (t + 1) := fun q hq => va_up_ne _ _ (by omega)
theorem TD.p6 (d : TD h t σ) (z : Nat) : ∃ h', q_put h t 9 6 (.int (nI z)) = some h' ∧ TD h' t (sgZ σ z) ∧ Fr h h' t (t + 1) := by
  have d1 := d.1
  have d2 := d.2.1
  have d3 := d.2.2.1
  unfold TDo at d1
  refine ⟨va_up h t (some (.inr (.inl (9, [.ref (t + 1), .ref (t + 2), .ref (t + 3), .ref (t + 4), .ref (t + 5), .ref (t + 6), .int (nI z), .int (sF σ), .int (sP σ)])))), by simp [q_put, d1], d.re (fun q q1 q2 => va_fr q (by omega)) ?_ ?_ ?_ rfl rfl rfl rfl rfl, va_fr⟩
  · unfold TDo; rw [va_up_self]; rfl
  · unfold TDt at *; rw [va_fr _ (by omega)]; exact d2
  · unfold TDc at *; rw [va_fr _ (by omega)]; exact d3
theorem TD.p7 (d : TD h t σ) (x : Int32) : ∃ h', q_put h t 9 7 (.int x) = some h' ∧ TD h' t (sgF σ x (sP σ)) ∧ Fr h h' t (t + 1) := by
  have d1 := d.1
  have d2 := d.2.1
  have d3 := d.2.2.1
  unfold TDo at d1
  refine ⟨va_up h t (some (.inr (.inl (9, [.ref (t + 1), .ref (t + 2), .ref (t + 3), .ref (t + 4), .ref (t + 5), .ref (t + 6), .int (nI (sZ σ)), .int x, .int (sP σ)])))), by simp [q_put, d1], d.re (fun q q1 q2 => va_fr q (by omega)) ?_ ?_ ?_ rfl rfl rfl rfl rfl, va_fr⟩
  · unfold TDo; rw [va_up_self]; rfl
  · unfold TDt at *; rw [va_fr _ (by omega)]; exact d2
  · unfold TDc at *; rw [va_fr _ (by omega)]; exact d3
theorem TD.p8 (d : TD h t σ) (x : Int32) : ∃ h', q_put h t 9 8 (.int x) = some h' ∧ TD h' t (sgF σ (sF σ) x) ∧ Fr h h' t (t + 1) := by
  have d1 := d.1
  have d2 := d.2.1
  have d3 := d.2.2.1
  unfold TDo at d1
  refine ⟨va_up h t (some (.inr (.inl (9, [.ref (t + 1), .ref (t + 2), .ref (t + 3), .ref (t + 4), .ref (t + 5), .ref (t + 6), .int (nI (sZ σ)), .int (sF σ), .int x])))), by simp [q_put, d1], d.re (fun q q1 q2 => va_fr q (by omega)) ?_ ?_ ?_ rfl rfl rfl rfl rfl, va_fr⟩
  · unfold TDo; rw [va_up_self]; rfl
  · unfold TDt at *; rw [va_fr _ (by omega)]; exact d2
  · unfold TDc at *; rw [va_fr _ (by omega)]; exact d3
theorem TD.sB (d : TD h t σ) {i : Nat} (hi : i < 600) (x : Int32) : ∃ h', q_sI h .byte (t + 1) (nI i) x = some h' ∧ TD h' t (sgT σ (upd (sT σ) i (vp_nar .byte x))) ∧ Fr h h' (t + 1) (t + 2) := by
  have d1 := d.1
  obtain ⟨f, d2, e2⟩ := d.2.1
  have d3 := d.2.2.1
  refine ⟨va_up h (t + 1) (some (.inl (.byte, 600, .inl (upd f i (vp_nar .byte x))))), by simp [q_sI, d2, nI_nn (show i < 2 ^ 31 by omega), nI_cl (show i < 2 ^ 31 by omega), hi, q_nar], d.re (fun q q1 q2 => va_fr q (by omega)) ?_ ⟨_, va_up_self _ _ _, fun j hj => ?_⟩ ?_ rfl rfl rfl rfl rfl, va_fr⟩
  · unfold TDo at *; rw [va_fr _ (by omega)]; exact d1
  · show upd f i (vp_nar .byte x) j = upd (sT σ) i (vp_nar .byte x) j
    by_cases e : j = i
    · subst e; rw [pk_us, pk_us]
    · rw [pk_un e, pk_un e]; exact e2 j hj
  · unfold TDc at *; rw [va_fr _ (by omega)]; exact d3
end TDU
/-! the reference's rows when the first slot changes -/
def wd (r : Nat) : Nat := match r with
  | 1 => 600
  | 5 => 4
  | 6 => 224
  | 7 => 162
  | 8 => 26
  | 9 => 54
  | _ => 1
def KL (A A' : Nat → Nat → Int32) : Prop := (∀ r i, 1 ≤ r → r < 10 → wd r ≤ i → A' r i = A r i) ∧ A' 48 = A 48
theorem KL.rf {A : Nat → Nat → Int32} : KL A A := ⟨fun _ _ _ _ _ => rfl, rfl⟩
theorem KL.tr {A A1 A2 : Nat → Nat → Int32} (a : KL A A1) (b : KL A1 A2) : KL A A2 := ⟨fun r i h1 h2 h3 => (b.1 r i h1 h2 h3).trans (a.1 r i h1 h2 h3), b.2.trans a.2⟩
theorem KL.on {A A' : Nat → Nat → Int32} {S : List Nat} (n : On S A A') (hS : ∀ k, k ∈ S → 10 ≤ k ∧ k ≠ 48) : KL A A' := ⟨fun r i h1 h2 h3 => by rw [n r (fun q => by have := (hS r q).1; omega)], n 48 (fun q => (hS _ q).2 rfl)⟩
theorem KL.up {A : Nat → Nat → Int32} {r i : Nat} (h1 : 1 ≤ r) (h2 : r < 10) (hi : i < wd r) (x : Int32) : KL A (upF A r (upd (A r) i x)) := by
  refine ⟨fun r' i' q1 q2 q3 => ?_, upF_ne _ _ (by omega)⟩
  by_cases e : r' = r
  · subst e
    rw [upF_self, pk_un (by omega)]
  · rw [upF_ne _ _ e]
theorem KI.kl {A A' : Nat → Nat → Int32} {im : Nat → Option SG} (k : KI A im) (l : KL A A') : KI A' im := by
  intro j hj
  rcases k j hj with h | ⟨h1, τ, h2, p1, p2, p3, p4, p5, p6, p7, p8, p9⟩
  · exact Or.inl (by rw [l.2]; exact h)
  · have g : ∀ r i, 1 ≤ r → r < 10 → wd r ≤ i → A' r i = A r i := l.1
    refine Or.inr ⟨by rw [l.2]; exact h1, τ, h2, fun i hi => ?_, ?_, ?_, ?_, fun s hs => ?_, fun k i hk hi => ?_, fun k i hk hi => ?_, fun k i hk hi => ?_, fun k i hk hi => ?_⟩
    · rw [g 1 _ (by omega) (by omega) (show 600 ≤ _ by omega)]; exact p1 i hi
    · rw [g 2 _ (by omega) (by omega) (show 1 ≤ _ by omega)]; exact p2
    · rw [g 3 _ (by omega) (by omega) (show 1 ≤ _ by omega)]; exact p3
    · rw [g 4 _ (by omega) (by omega) (show 1 ≤ _ by omega)]; exact p4
    · rw [g 5 _ (by omega) (by omega) (show 4 ≤ _ by omega)]; exact p5 s hs
    · rw [g 6 _ (by omega) (by omega) (show 224 ≤ _ by omega)]; exact p6 k i hk hi
    · rw [g 7 _ (by omega) (by omega) (show 162 ≤ _ by omega)]; exact p7 k i hk hi
    · rw [g 8 _ (by omega) (by omega) (show 26 ≤ _ by omega)]; exact p8 k i hk hi
    · rw [g 9 _ (by omega) (by omega) (show 54 ≤ _ by omega)]; exact p9 k i hk hi
theorem PM.z {A : Nat → Nat → Int32} {σ : SG} (p : PM A 0 σ) (z : Nat) : PM (upF A 2 (upd (A 2) 0 (nI z))) 0 (sgZ σ z) := by
  obtain ⟨p1, p2, p3, p4, p5, p6, p7, p8, p9⟩ := p
  unfold PM
  rw [upF_self, upF_ne _ _ (show (1 : Nat) ≠ 2 by decide), upF_ne _ _ (show (3 : Nat) ≠ 2 by decide), upF_ne _ _ (show (4 : Nat) ≠ 2 by decide), upF_ne _ _ (show (5 : Nat) ≠ 2 by decide), upF_ne _ _ (show (6 : Nat) ≠ 2 by decide), upF_ne _ _ (show (7 : Nat) ≠ 2 by decide), upF_ne _ _ (show (8 : Nat) ≠ 2 by decide), upF_ne _ _ (show (9 : Nat) ≠ 2 by decide)]
  exact ⟨p1, pk_us, p3, p4, p5, p6, p7, p8, p9⟩
theorem PM.t {A : Nat → Nat → Int32} {σ : SG} (p : PM A 0 σ) {i : Nat} (x : Int32) : PM (upF A 1 (upd (A 1) i x)) 0 (sgT σ (upd (sT σ) i x)) := by
  obtain ⟨p1, p2, p3, p4, p5, p6, p7, p8, p9⟩ := p
  unfold PM
  rw [upF_self, upF_ne _ _ (show (2 : Nat) ≠ 1 by decide), upF_ne _ _ (show (3 : Nat) ≠ 1 by decide), upF_ne _ _ (show (4 : Nat) ≠ 1 by decide), upF_ne _ _ (show (5 : Nat) ≠ 1 by decide), upF_ne _ _ (show (6 : Nat) ≠ 1 by decide), upF_ne _ _ (show (7 : Nat) ≠ 1 by decide), upF_ne _ _ (show (8 : Nat) ≠ 1 by decide), upF_ne _ _ (show (9 : Nat) ≠ 1 by decide)]
  refine ⟨fun j hj => ?_, p2, p3, p4, p5, p6, p7, p8, p9⟩
  have p1 := p1 j hj
  rw [show 600 * 0 + j = j by omega] at p1 ⊢
  show upd (A 1) i x j = upd (sT σ) i x j
  by_cases e : j = i
  · subst e; rw [pk_us, pk_us]
  · rw [pk_un e, pk_un e]; exact p1
/-! ===== call: end ===== -/
section CALLS
variable {h : qH} {c nx : Nat} {σ : SG} {im : Nat → Option SG}
/-- the class has changed what it was told, and nothing behind it -/
theorem RC.t {h' : qH} {σ' : SG} (r : RC h c nx σ im) (f : Fr h h' (c + 1) (c + 52)) (d : TD h' (c + 1) σ') : RC h' c nx σ' im := by
  obtain ⟨r1, r2, r3, r4⟩ := r
  exact ⟨by unfold XC at *; rw [f _ (by omega)]; exact r1, d, r3.kept (fun q q1 q2 => f q (by omega)), r4.kept (fun q hq => f q (by omega))⟩
theorem q_end (s : ST h c nx σ im) (x : Int32) : QT h c nx (F_X11_end h c x) (fun h1 => F_X12_end h1 (c + 80) x) := by
  have s0 := s
  obtain ⟨ok, rc, rm, hn⟩ := s
  have xc := rc.1
  have td := rc.2.1
  have hz := ok.1
  have a20 : ∀ {A}, PM A 0 σ → A 2 0 = nI (sZ σ) := fun pm => pm.2.1
  have bad : F_X11_end h c x = some (m1, h) → (∀ h1, F_X12_in h1 x (nI 0) (nI (sZ σ)) = some (nI 0)) → QT h c nx (F_X11_end h c x) (fun h1 => F_X12_end h1 (c + 80) x) := by
    intro ec ei
    obtain ⟨h1, A, B, I, J, e1, o1, pm, ki, r1⟩ := rm.p0
    refine ⟨m1, h, h1, σ, im, ec, ?_, fun _ _ => rfl, fun q hq => r1 q (by omega), rm.ob, ok, rc.m r1, ⟨A, B, I, J, o1, pm, ki⟩, hn⟩
    simp (disch := omega) only [F_X12_end, nS, e1, X12_rd o1, a20 pm, ei]
  rcases nRg x 0 (sZ σ) (by omega) with hx | ⟨q, rfl, -, hq⟩
  · refine bad ?_ (fun h1 => in_out h1 (by omega) (by omega) hx)
    rcases hx with hx | ⟨n, rfl, hn1, hn2⟩
    · simp (disch := omega) only [F_X11_end, nS, gN hx]
    · simp (disch := omega) only [F_X11_end, nS, xS xc, tS td]
  · obtain ⟨h1, e1, td1, r1⟩ := td.p6 q
    have r1' : Fr h h1 (c + 1) (c + 52) := r1.wd (by omega) (by omega)
    obtain ⟨h2, A, B, I, J, e2, o2, pm, ki, r2⟩ := (rm.c r1' (Or.inl (by omega))).p0
    obtain ⟨h3, e3, o3, r3⟩ := X12_s2 o2 (i := 0) (nI q) (by omega)
    have ii := in_in h2 (n := q) (lo := 0) (hi := sZ σ) (by omega) (by omega) hq
    refine ⟨nI q, h1, h3, sgZ σ q, im, ?_, ?_, fun q hq => r1 q (by omega), fun q hq => (r3 q (by omega)).trans ((r2 q (by omega)).trans (r1 q (by omega))), (rm.c r1' (Or.inl (by omega))).ob, ⟨show q ≤ 600 by omega, ok.2⟩, (rc.t r1' td1).m (r2.tr r3), ⟨_, B, I, J, o3, pm.z q, ki.kl (KL.up (by omega) (by omega) (show 0 < 1 by omega) _)⟩, hn⟩
    · simp (disch := omega) only [F_X11_end, nS, xS xc, tS td, e1]
    · simp (disch := omega) only [F_X12_end, nS, e2, X12_rd o2, a20 pm, ii, e3]
end CALLS
