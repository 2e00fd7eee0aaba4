/-! ===== calls: till, state, after ===== -/
section FRM
variable {h : qH} {c : Nat} {σ : SG} {im : Nat → Option SG} {A : Nat → Nat → Int32} {B : Nat → Nat → Int64} {I : Nat → Int32} {J : Nat → Int64}
theorem lay_out {a : Nat} (o : OB h a 12 mdL A B I J) (pm : PM A 0 σ) (ki : KI A im) (ok : SGok σ) {x y : Int32} (hxy : nOut x (sC σ 0) ∨ nOut y (sC σ 1)) : ∃ h2, F_X12_layAll h a x y = some (nI 0, h2) ∧ RM h2 a σ im ∧ Fr h h2 a (a + 27) := by
  rcases nOut_or y (n := sC σ 1) (by have := ok.2.1 1 (by omega); omega) with hy | ⟨j, hj, rfl⟩
  · obtain ⟨h2, I2, e2, o2, n2, r2⟩ := ev_out o pm ok hy
    refine ⟨h2, ?_, ⟨A, B, I2, J, o2, pm, ki⟩, r2⟩
    simp (disch := omega) only [F_X12_layAll, nS, o.ob, e2]
  · have hx : nOut x (sC σ 0) := by
      rcases hxy with q | q
      · exact q
      · have := ok.2.1 1 (by omega)
        rcases q with q | q
        · exact absurd (show nI j < nI 0 from q) (fun q => by have := (nI_ltI (by omega) (by omega)).mp q; omega)
        · exact absurd ((nI_leI (by omega) (by omega)).mp q) (by omega)
    obtain ⟨h2, I2, e2, o2, he2, n2, r2⟩ := ev_in o pm ok hj
    obtain ⟨h3, e3, rm3, r3⟩ := hand_out o2 pm ki ok hx
    refine ⟨h3, ?_, rm3, r2.tr r3⟩
    simp (disch := omega) only [F_X12_layAll, nS, o.ob, e2, o2.ob, e3]
theorem lay_in {a : Nat} (o : OB h a 12 mdL A B I J) (pm : PM A 0 σ) (ki : KI A im) (ok : SGok σ) {k j : Nat} (hk : k < sC σ 0) (hj : j < sC σ 1) : ∃ h2 A2 I2, F_X12_layAll h a (nI k) (nI j) = some (nI 1, h2) ∧ OB h2 a 12 mdL A2 B I2 J ∧ HB A2 I2 (sB σ k) k ∧ HE A2 I2 (sE σ j) j ∧ PM A2 0 σ ∧ KI A2 im ∧ Fr h h2 a (a + 27) := by
  obtain ⟨h2, I2, e2, o2, he2, n2, r2⟩ := ev_in o pm ok hj
  obtain ⟨h3, A3, I3, e3, o3, r3, n3, i3, hb3⟩ := d_hand_in o2 pm ok hk
  refine ⟨h3, A3, I3, ?_, o3, hb3, ⟨he2.1, he2.2.1, by rw [i3 27 (by decide)]; exact he2.2.2.1, by rw [n3 7 (by decide)]; exact he2.2.2.2⟩, pm.cg n3 (by decide), ki.cg n3 (by decide), r2.tr r3⟩
  simp (disch := omega) only [F_X12_layAll, nS, o.ob, e2, o2.ob, e3]
variable {α : Type} {v : α} {f : Option (α × qH)} {g : qH → Option (α × qH)}
theorem QW.nol (ok : SGok σ) (rm : RM h (c + 80) σ im) (sc : SC h c) {x y : Int32} (hxy : nOut x (sC σ 0) ∨ nOut y (sC σ 1)) (hf : f = some (v, h)) (hg : ∀ h1 h2, q_put h (c + 80) 12 0 (.int (nI 0)) = some h1 → q_ob h1 (c + 80) 12 = some () → F_X12_layAll h1 (c + 80) x y = some (nI 0, h2) → g h = some (v, h2)) : QW h c σ im f g := by
  obtain ⟨h1, A, B, I, J, e1, o1, pm, ki, r1⟩ := rm.p0
  obtain ⟨h2, e2, rm2, r2⟩ := lay_out o1 pm ki ok hxy
  exact ⟨v, h, h2, hf, hg h1 h2 e1 o1.ob e2, Fr.rf, sc, r1.tr r2, rm2⟩
theorem QW.gol (S : List Nat) (ok : SGok σ) (rm : RM h (c + 80) σ im) {k j : Nat} (hk : k < sC σ 0) (hj : j < sC σ 1) {hc : qH} (hf : f = some (v, hc)) (fr : Fr h hc (c + 53) (c + 80)) (sc : SC hc c) (hS : ∀ k, k ∈ S → 10 ≤ k ∧ k ≠ 48) (hg : ∀ h1 h2 A B I J, q_put hc (c + 80) 12 0 (.int (nI 0)) = some h1 → q_ob h1 (c + 80) 12 = some () → F_X12_layAll h1 (c + 80) (nI k) (nI j) = some (nI 1, h2) → OB h2 (c + 80) 12 mdL A B I J → HB A I (sB σ k) k → HE A I (sE σ j) j → ∃ h' A' B' I' J', g hc = some (v, h') ∧ OB h' (c + 80) 12 mdL A' B' I' J' ∧ Fr h2 h' (c + 80) (c + 80 + 27) ∧ On S A A') : QW h c σ im f g := by
  obtain ⟨h1, A, B, I, J, e1, o1, pm, ki, r1⟩ := (rm.c fr (Or.inl (Nat.le_refl _))).p0
  obtain ⟨h2, A2, I2, e2, o2, hb, he, pm2, ki2, r2⟩ := lay_in o1 pm ki ok hk hj
  obtain ⟨h', A', B', I', J', e3, o3, r3, n3⟩ := hg h1 h2 A2 B I2 J e1 o1.ob e2 o2 hb he
  exact ⟨v, hc, h', hf, e3, fr, sc, (r1.tr r2).tr r3, RM.mk pm2 ki2 o3 n3 hS⟩
end FRM
theorem CS.xb {h0 h : qH} {a : Nat} {B : Nat → Nat → Int64} {J : Nat → Int64} {s : SS} (cs : CS h0 h a B J s) : OBx h a 8 stL ∧ Fr h0 h a (a + 3) ∧ q_ob h a 8 = some () := by
  obtain ⟨A, I, o, r, -⟩ := cs
  exact ⟨⟨A, B, I, J, o⟩, r, o.ob⟩
theorem DS.xb {h0 h : qH} {a : Nat} {A0 : Nat → Nat → Int32} {B : Nat → Nat → Int64} {I : Nat → Int32} {J : Nat → Int64} {m : MB} {s : SS} (ds : DS h0 h a A0 B I J m s) : ∃ A, OB h a 12 mdL A B I J ∧ Fr h0 h a (a + 27) ∧ On [28] A0 A := by
  obtain ⟨A, o, r, n, -⟩ := ds
  exact ⟨A, o, r, n⟩
/-- whether a book, whether an evening -/
theorem be_or {σ : SG} (ok : SGok σ) (x y : Int32) : (nOut x (sC σ 0) ∨ nOut y (sC σ 1)) ∨ ∃ k j, k < sC σ 0 ∧ j < sC σ 1 ∧ x = nI k ∧ y = nI j := by
  rcases nOut_or x (n := sC σ 0) (by have := ok.2.1 0 (by omega); omega) with hx | ⟨k, hk, rfl⟩
  · exact Or.inl (Or.inl hx)
  · rcases nOut_or y (n := sC σ 1) (by have := ok.2.1 1 (by omega); omega) with hy | ⟨j, hj, rfl⟩
    · exact Or.inl (Or.inr hy)
    · exact Or.inr ⟨k, j, hk, hj, rfl, rfl⟩
theorem t_be {h : qH} {t : Nat} {σ : SG} (td : TD h t σ) (ok : SGok σ) {x y : Int32} (hxy : nOut x (sC σ 0) ∨ nOut y (sC σ 1)) : (F_X9_bookAt h t x = some none ∧ ∃ q, F_X9_eveningAt h t y = some q) ∨ ∃ q, F_X9_bookAt h t x = some (some q) ∧ F_X9_eveningAt h t y = some none := by
  rcases nOut_or x (n := sC σ 0) (by have := ok.2.1 0 (by omega); omega) with hx | ⟨k, hk, rfl⟩
  · refine Or.inl ⟨t_bookOut td hx, ?_⟩
    rcases nOut_or y (n := sC σ 1) (by have := ok.2.1 1 (by omega); omega) with hy | ⟨j, hj, rfl⟩
    · exact ⟨none, t_evOut td hy⟩
    · exact ⟨_, t_evIn td ok hj⟩
  · have := ok.2.1 0 (by omega)
    refine Or.inr ⟨_, t_bookIn td ok hk, t_evOut td (hxy.resolve_left (fun q => ?_))⟩
    rcases q with q | q
    · exact absurd ((nI_ltI (by omega) (by omega)).mp (show nI k < nI 0 from q)) (by omega)
    · exact absurd ((nI_leI (by omega) (by omega)).mp q) (by omega)
section CALLS
variable {h : qH} {c nx : Nat} {σ : SG} {im : Nat → Option SG}
theorem q_till (s : ST h c nx σ im) (x y : Int32) : QW h c σ im (F_X11_till h c x y) (fun h1 => F_X12_till h1 (c + 80) x y) := by
  obtain ⟨ok, ⟨xc, td, sc, -⟩, rm, -⟩ := s
  rcases be_or ok x y with hxy | ⟨k, j, hk, hj, rfl, rfl⟩
  · refine QW.nol (v := m1) ok rm sc hxy ?_ (fun h1 h2 e1 ob1 e2 => ?_)
    · rcases t_be td ok hxy with ⟨q1, q, q2⟩ | ⟨q, q1, q2⟩
      · cases q with
        | none => simp (disch := omega) only [F_X11_till, xS xc, tS td, nS, q1, q2]
        | some q => simp (disch := omega) only [F_X11_till, xS xc, tS td, nS, q1, q2]
      · simp (disch := omega) only [F_X11_till, xS xc, tS td, nS, q1, q2]
    · simp (disch := omega) only [F_X12_till, nS, e1, ob1, e2]
  have hc0 := ok.2.1 0 (by omega)
  have hc1 := ok.2.1 1 (by omega)
  have cb := t_CB td ok hk
  have ce := t_CE td ok hj
  have hsc := sc
  obtain ⟨-, ⟨A8, B8, I8, J8, o8⟩, -, -, -, -⟩ := sc
  obtain ⟨hc, e7, cs⟩ := c_play o8 cb (by omega) ce (by omega) (Nat.le_refl _)
  obtain ⟨xb, r7, -⟩ := cs.xb
  have fr7 : Fr h hc (c + 53) (c + 80) := r7.wd (by omega) (by omega)
  refine QW.gol (v := nI (ay (bMB (sB σ k)) (sE σ j) (eN (sE σ j))).1) [28] ok rm hk hj ?_ fr7 (hsc.u8 r7 xb) (by decide) (fun h1 h2 A B I J e1 ob1 e2 o2 hb he => ?_)
  · simp (disch := omega) only [F_X11_till, xS xc, tS td, nS, t_bookIn td ok hk, t_evIn td ok hj, eS ce, o8.ob, e7]
  · obtain ⟨h3, e3, ds⟩ := d_play o2 hb he (Nat.le_refl _)
    obtain ⟨A3, o3, r3, n3⟩ := ds.xb
    refine ⟨h3, A3, B, I, J, ?_, o3, r3, n3⟩
    simp (disch := omega) only [F_X12_till, nS, e1, ob1, e2, o2.ob, e_pack o2 he, e3]
theorem q_state (s : ST h c nx σ im) (x y z w : Int32) : QW h c σ im (F_X11_state h c x y z w) (fun h1 => F_X12_state h1 (c + 80) x y z w) := by
  obtain ⟨ok, ⟨xc, td, sc, -⟩, rm, -⟩ := s
  rcases be_or ok x y with hxy | ⟨k, j, hk, hj, rfl, rfl⟩
  · refine QW.nol (v := m2) ok rm sc hxy ?_ (fun h1 h2 e1 ob1 e2 => ?_)
    · rcases t_be td ok hxy with ⟨q1, q, q2⟩ | ⟨q, q1, q2⟩
      · cases q with
        | none => simp (disch := omega) only [F_X11_state, xS xc, tS td, nS, q1, q2]
        | some q => simp (disch := omega) only [F_X11_state, xS xc, tS td, nS, q1, q2]
      · simp (disch := omega) only [F_X11_state, xS xc, tS td, nS, q1, q2]
    · simp (disch := omega) only [F_X12_state, nS, e1, ob1, e2]
  have hc0 := ok.2.1 0 (by omega)
  have hc1 := ok.2.1 1 (by omega)
  have cb := t_CB td ok hk
  have ce := t_CE td ok hj
  have hN := (ev_ok ce.1).2
  have hsc := sc
  obtain ⟨-, ⟨A8, B8, I8, J8, o8⟩, -, -, -, -⟩ := sc
  rcases nRg z 0 (eN (sE σ j)) (by omega) with hz | ⟨n, rfl, -, hn⟩
  · refine QW.gol (v := m2) [] ok rm hk hj (hc := h) ?_ Fr.rf hsc (by decide) (fun h1 h2 A B I J e1 ob1 e2 o2 hb he => ⟨h2, A, B, I, J, ?_, o2, Fr.rf, On.rf⟩)
    · rcases hz with h0 | ⟨n, rfl, hn, h0⟩
      · simp (disch := omega) only [F_X11_state, xS xc, tS td, nS, t_bookIn td ok hk, t_evIn td ok hj, gN h0]
      · simp (disch := omega) only [F_X11_state, xS xc, tS td, nS, t_bookIn td ok hk, t_evIn td ok hj, eS ce]
    · have := in_out h2 (by omega) (by omega) hz
      simp (disch := omega) only [F_X12_state, nS, e1, ob1, e2, o2.ob, e_pack o2 he, this]
  have i1 : ∀ h1, F_X12_in h1 (nI n) (nI 0) (nI (eN (sE σ j))) = some (nI 1) := fun h1 => in_in h1 (by omega) (by omega) hn
  obtain ⟨hc, e7, cs⟩ := c_play o8 cb (by omega) ce (by omega) hn
  obtain ⟨xb, r7, ob7⟩ := cs.xb
  have fr7 : Fr h hc (c + 53) (c + 80) := r7.wd (by omega) (by omega)
  have xc7 := xc.kept fr7
  have hle := ay_le (bMB (sB σ k)) (sE σ j) n
  have goC : F_X11_state h c (nI k) (nI j) (nI n) w = if n ≤ (ay (bMB (sB σ k)) (sE σ j) n).1 then (F_X8_show hc (c + 57) (c + 1 + 7 + 22 * k) w).bind fun x40 => some (x40, hc) else some (m2, hc) := by
    by_cases hh : n ≤ (ay (bMB (sB σ k)) (sE σ j) n).1
    · rw [if_pos hh]
      simp (disch := omega) only [F_X11_state, xS xc, tS td, nS, t_bookIn td ok hk, t_evIn td ok hj, eS ce, o8.ob, e7, xS xc7, ob7]
    · rw [if_neg hh]
      simp (disch := omega) only [F_X11_state, xS xc, tS td, nS, t_bookIn td ok hk, t_evIn td ok hj, eS ce, o8.ob, e7]
  have go : ∀ v : Int32, F_X11_state h c (nI k) (nI j) (nI n) w = some (v, hc) → (∀ h2 h3 A B I J, DS h2 h3 (c + 80) A B I J (bMB (sB σ k)) (ay (bMB (sB σ k)) (sE σ j) n).2.1 → (if nI (ay (bMB (sB σ k)) (sE σ j) n).1 = nI n then (F_X12_ofState h3 (c + 80) w).bind fun x22 => some (x22, h3) else some (m2, h3)) = some (v, h3)) → QW h c σ im (F_X11_state h c (nI k) (nI j) (nI n) w) (fun h1 => F_X12_state h1 (c + 80) (nI k) (nI j) (nI n) w) := by
    intro v hf hv
    refine QW.gol (v := v) [28] ok rm hk hj hf fr7 (hsc.u8 r7 xb) (by decide) (fun h1 h2 A B I J e1 ob1 e2 o2 hb he => ?_)
    obtain ⟨h3, e3, ds⟩ := d_play o2 hb he hn
    obtain ⟨A3, o3, r3, n3⟩ := ds.xb
    refine ⟨h3, A3, B, I, J, ?_, o3, r3, n3⟩
    rw [← hv h2 h3 A B I J ds]
    simp (disch := omega) only [F_X12_state, nS, e1, ob1, e2, o2.ob, e_pack o2 he, i1, e3, o3.ob]
  by_cases hh : n ≤ (ay (bMB (sB σ k)) (sE σ j) n).1
  · have cb7 := cb.kept (h' := hc) (fun q q1 q2 => r7 q (by omega))
    have hw := (ay_ok cb.1 ce.1 n hn).1
    rw [if_pos hh] at goC
    have e8 : (ay (bMB (sB σ k)) (sE σ j) n).1 = n := by omega
    rcases c_show cs cb7 hw (by omega) w with ⟨q, hq, rfl, hs⟩ | ⟨hq, hs⟩
    · rw [hs] at goC
      refine go _ goC (fun h2 h3 A B I J ds => ?_)
      rw [e8, if_pos rfl]
      rcases d_show ds (nI q) with ⟨q', hq', eq, hs'⟩ | ⟨hq', -⟩
      · have := (nI_eq hq hq').mp eq
        subst this
        rw [hs']; rfl
      · exact absurd ((nI_ltI hq (by omega)).mp hq') (by omega)
    · rw [hs] at goC
      refine go _ goC (fun h2 h3 A B I J ds => ?_)
      rw [e8, if_pos rfl]
      rcases d_show ds w with ⟨q', hq', eq, hs'⟩ | ⟨hq', hs'⟩
      · rw [eq] at hq; exact absurd ((nI_ltI hq' (by omega)).mp hq) (by omega)
      · rw [hs']; rfl
  · rw [if_neg hh] at goC
    refine go _ goC (fun h2 h3 A B I J ds => ?_)
    rw [if_neg (fun q => hh (by have := (nI_eq (by omega) (by omega)).mp q; omega))]
end CALLS
