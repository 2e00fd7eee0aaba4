/-! ===== the class's call text; the call ===== -/
def TD4 (h : qH) (t : Nat) (σ : SG) : Prop := TDo h t σ ∧ TDt h t σ ∧ TDc h t σ ∧ TDr h t
section CTX
variable {σ : SG} {s k nw n m : Nat} {h h' : qH} {t a c nx : Nat} {z : Nat → Nat} {im : Nat → Option SG} {u v : Int32}
theorem CBx.mp {p p' : Prop} {b : Nat → Int32} (x : CBx h a p b) (hp : p' → p) : CBx h a p' b := by
  obtain ⟨A, B, I, J, o, hc⟩ := x
  exact ⟨A, B, I, J, o, fun q => hc (hp q)⟩
theorem CEx.mp {p p' : Prop} {b : Nat → Int32} (x : CEx h a p b) (hp : p' → p) : CEx h a p' b := by
  obtain ⟨A, B, I, J, o, hc⟩ := x
  exact ⟨A, B, I, J, o, fun q => hc (hp q)⟩
theorem CGx.mp {p p' : Prop} {b : Nat → Int32} (x : CGx h a p b) (hp : p' → p) : CGx h a p' b := by
  obtain ⟨A, B, I, J, o, hc⟩ := x
  exact ⟨A, B, I, J, o, fun q => hc (hp q)⟩
theorem CWx.mp {p p' : Prop} {b : Nat → Int32} (x : CWx h a p b) (hp : p' → p) : CWx h a p' b := by
  obtain ⟨A, B, I, J, o, hc⟩ := x
  exact ⟨A, B, I, J, o, fun q => hc (hp q)⟩
theorem TD4.kept (d : TD4 h t σ) (hk : ∀ q, t ≤ q → q < t + 7 → h' q = h q) : TD4 h' t σ := by
  obtain ⟨d1, d2, d3, d4⟩ := d
  refine ⟨?_, ?_, ?_, d4.kept (fun q h1 h2 => hk q (by omega) (by omega))⟩
  · unfold TDo at *; rw [hk _ (by omega) (by omega)]; exact d1
  · unfold TDt at *; rw [hk _ (by omega) (by omega)]; exact d2
  · unfold TDc at *; rw [hk _ (by omega) (by omega)]; exact d3
/-- reads of the told object -/
theorem tS4 (d : TD4 h t σ) : q_ob h t 9 = some () ∧ q_fR h t 9 1 = some (t + 2) ∧ q_fR h t 9 2 = some (t + 3) ∧ q_fR h t 9 3 = some (t + 4) ∧ q_fR h t 9 4 = some (t + 5) ∧ q_fR h t 9 5 = some (t + 6)
  ∧ (∀ s, s < 4 → q_aI h .int (t + 2) (nI s) = some (nI (sC σ s)))
  ∧ (∀ k, k < 2 → q_aR h RX0 (t + 3) (nI k) = some (some (t + 7 + 22 * k))) ∧ (∀ k, k < 2 → q_aR h RX1 (t + 4) (nI k) = some (some (t + 19 + 22 * k))) ∧ (∀ k, k < 2 → q_aR h RX3 (t + 5) (nI k) = some (some (t + 22 + 22 * k))) ∧ ∀ k, k < 2 → q_aR h RX10 (t + 6) (nI k) = some (some (t + 24 + 22 * k)) := by
  obtain ⟨d1, -, ⟨f3, d3, e3⟩, ⟨⟨f4, d4, e4⟩, ⟨f5, d5, e5⟩, ⟨f6, d6, e6⟩, ⟨f7, d7, e7⟩⟩⟩ := d
  unfold TDo at d1
  refine ⟨by simp [q_ob, d1], by simp [q_fR, d1], by simp [q_fR, d1], by simp [q_fR, d1], by simp [q_fR, d1], by simp [q_fR, d1], fun i hi => ?_, fun i hi => ?_, fun i hi => ?_, fun i hi => ?_, fun i hi => ?_⟩
  · simp [q_aI, d3, nI_nn (show i < 2 ^ 31 by omega), nI_cl (show i < 2 ^ 31 by omega), hi, e3 i hi]
  · simp [q_aR, d4, refs, nI_nn (show i < 2 ^ 31 by omega), nI_cl (show i < 2 ^ 31 by omega), hi, e4 i hi]
  · simp [q_aR, d5, refs, nI_nn (show i < 2 ^ 31 by omega), nI_cl (show i < 2 ^ 31 by omega), hi, e5 i hi]
  · simp [q_aR, d6, refs, nI_nn (show i < 2 ^ 31 by omega), nI_cl (show i < 2 ^ 31 by omega), hi, e6 i hi]
  · simp [q_aR, d7, refs, nI_nn (show i < 2 ^ 31 by omega), nI_cl (show i < 2 ^ 31 by omega), hi, e7 i hi]
theorem c_fillAll (d4 : TD4 h t (sgN σ s k (yTT σ s m) nw)) (hB : ∀ j, j < 2 → CBx h (t + 7 + 22 * j) (j < sC σ 0) (sB σ j)) (hE : ∀ j, j < 2 → CEx h (t + 19 + 22 * j) (j < sC σ 1) (sE σ j)) (hG : ∀ j, j < 2 → CGx h (t + 22 + 22 * j) (j < sC σ 2) (sG σ j)) (hW : ∀ j, j < 2 → CWx h (t + 24 + 22 * j) (j < sC σ 3) (sW σ j)) (kn : KN σ s k nw) (hs : s < 4) (hn : n ≤ 600) (hg : ∀ j, j < m → yGd σ s (yst σ s j)) (hst : yst σ s m = n) (hL : yLL σ s m = none) (hF : s = 0 → yFF σ s m ≤ cn (yTT σ s m) 0) (r : RK h a (n + 1) (tok σ s) u v) (hd : t + 51 ≤ a ∨ a + 4 ≤ t) : ∃ h', F_X7_fill z h a t (nI s) (nI k) = some h' ∧ TD h' t (sgN σ s k (yTT σ s m) nw) ∧ Fr h h' (t + 7) (t + 51) := by
  obtain ⟨kn1, kn2, kn3⟩ := kn
  have hk : k < 2 := by omega
  have t4 := tS4 d4
  have hC : sC (sgN σ s k (yTT σ s m) nw) s = sC σ s + nw := if_pos rfl
  have hkC : k < sC (sgN σ s k (yTT σ s m) nw) s := by omega
  have hC2 : sC (sgN σ s k (yTT σ s m) nw) s ≤ 2 := by omega
  unfold F_X7_fill
  rcases (show s = 0 ∨ s = 1 ∨ s = 2 ∨ s = 3 by omega) with rfl | rfl | rfl | rfl
  · obtain ⟨A, B, I, J, o, -⟩ := hB k hk
    obtain ⟨h1, A1, I1, e1, o1, c1, f1⟩ := c_fillB (z := z) hn hg hst hL (hF rfl) r o (by omega)
    have eb : F_X9_bookAt h t (nI k) = some (some (t + 7 + 22 * k)) := by
      simp (disch := omega) only [F_X9_bookAt, nS, t4]
    refine ⟨h1, ?_, ⟨(d4.kept (fun q q1 q2 => f1 q (by omega))).1, (d4.kept (fun q q1 q2 => f1 q (by omega))).2.1, (d4.kept (fun q q1 q2 => f1 q (by omega))).2.2.1, (d4.kept (fun q q1 q2 => f1 q (by omega))).2.2.2, fun j hj => ?_, fun j hj => (hE j hj).kept (fun q q1 q2 => f1 q (by omega)), fun j hj => (hG j hj).kept (fun q q1 q2 => f1 q (by omega)), fun j hj => (hW j hj).kept (fun q q1 q2 => f1 q (by omega))⟩, f1.wd (by omega) (by omega)⟩
    · rw [if_pos (show nI 0 = (0 : Int32) from rfl), t4.1, Option.bind_some, eb, Option.bind_some]
      show ((q_ob h a 7).bind fun _ => (F_X7_fillBook z h a (t + 7 + 22 * k)).bind fun x10 => some x10) = _
      rw [r.ob, Option.bind_some, e1, Option.bind_some]
    · show CBx h1 (t + 7 + 22 * j) (j < sC σ 0 + nw) (upF (sB σ) k (yTT σ 0 m) j)
      by_cases e : j = k
      · subst e
        rw [upF_self]
        exact ⟨A1, B, I1, J, o1, fun _ => c1⟩
      · rw [upF_ne _ _ e]
        exact ((hB j hj).kept (fun q q1 q2 => f1 q (by omega))).mp (kn3 j e)
  · obtain ⟨A, B, I, J, o, -⟩ := hE k hk
    obtain ⟨h1, A1, I1, e1, o1, c1, f1⟩ := c_fillE (z := z) hn hg hst hL r o (by omega)
    have eb : F_X9_eveningAt h t (nI k) = some (some (t + 19 + 22 * k)) := by
      simp (disch := omega) only [F_X9_eveningAt, nS, t4]
    refine ⟨h1, ?_, ⟨(d4.kept (fun q q1 q2 => f1 q (by omega))).1, (d4.kept (fun q q1 q2 => f1 q (by omega))).2.1, (d4.kept (fun q q1 q2 => f1 q (by omega))).2.2.1, (d4.kept (fun q q1 q2 => f1 q (by omega))).2.2.2, fun j hj => (hB j hj).kept (fun q q1 q2 => f1 q (by omega)), fun j hj => ?_, fun j hj => (hG j hj).kept (fun q q1 q2 => f1 q (by omega)), fun j hj => (hW j hj).kept (fun q q1 q2 => f1 q (by omega))⟩, f1.wd (by omega) (by omega)⟩
    · rw [if_neg (show ¬ nI 1 = (0 : Int32) by decide), if_pos (show nI 1 = (1 : Int32) from rfl), t4.1, Option.bind_some, eb, Option.bind_some]
      show ((q_ob h a 7).bind fun _ => (F_X7_fillEvening z h a (t + 19 + 22 * k)).bind fun x10 => some x10) = _
      rw [r.ob, Option.bind_some, e1, Option.bind_some]
    · show CEx h1 (t + 19 + 22 * j) (j < sC σ 1 + nw) (upF (sE σ) k (yTT σ 1 m) j)
      by_cases e : j = k
      · subst e
        rw [upF_self]
        exact ⟨A1, B, I1, J, o1, fun _ => c1⟩
      · rw [upF_ne _ _ e]
        exact ((hE j hj).kept (fun q q1 q2 => f1 q (by omega))).mp (kn3 j e)
  · obtain ⟨A, B, I, J, o, -⟩ := hG k hk
    obtain ⟨h1, A1, I1, e1, o1, c1, f1⟩ := c_fillG (z := z) hn hg hst hL r o (by omega)
    have eb : F_X9_logAt h t (nI k) = some (some (t + 22 + 22 * k)) := by
      simp (disch := omega) only [F_X9_logAt, nS, t4]
    refine ⟨h1, ?_, ⟨(d4.kept (fun q q1 q2 => f1 q (by omega))).1, (d4.kept (fun q q1 q2 => f1 q (by omega))).2.1, (d4.kept (fun q q1 q2 => f1 q (by omega))).2.2.1, (d4.kept (fun q q1 q2 => f1 q (by omega))).2.2.2, fun j hj => (hB j hj).kept (fun q q1 q2 => f1 q (by omega)), fun j hj => (hE j hj).kept (fun q q1 q2 => f1 q (by omega)), fun j hj => ?_, fun j hj => (hW j hj).kept (fun q q1 q2 => f1 q (by omega))⟩, f1.wd (by omega) (by omega)⟩
    · rw [if_neg (show ¬ nI 2 = (0 : Int32) by decide), if_neg (show ¬ nI 2 = (1 : Int32) by decide), if_pos (show nI 2 = (2 : Int32) from rfl), t4.1, Option.bind_some, eb, Option.bind_some]
      show ((q_ob h a 7).bind fun _ => (F_X7_fillLog z h a (t + 22 + 22 * k)).bind fun x10 => some x10) = _
      rw [r.ob, Option.bind_some, e1, Option.bind_some]
    · show CGx h1 (t + 22 + 22 * j) (j < sC σ 2 + nw) (upF (sG σ) k (yTT σ 2 m) j)
      by_cases e : j = k
      · subst e
        rw [upF_self]
        exact ⟨A1, B, I1, J, o1, fun _ => c1⟩
      · rw [upF_ne _ _ e]
        exact ((hG j hj).kept (fun q q1 q2 => f1 q (by omega))).mp (kn3 j e)
  · obtain ⟨A, B, I, J, o, -⟩ := hW k hk
    obtain ⟨h1, A1, I1, e1, o1, c1, f1⟩ := c_fillW (z := z) hn hg hst hL r o (by omega)
    have eb : F_X9_townAt h t (nI k) = some (some (t + 24 + 22 * k)) := by
      simp (disch := omega) only [F_X9_townAt, nS, t4]
    refine ⟨h1, ?_, ⟨(d4.kept (fun q q1 q2 => f1 q (by omega))).1, (d4.kept (fun q q1 q2 => f1 q (by omega))).2.1, (d4.kept (fun q q1 q2 => f1 q (by omega))).2.2.1, (d4.kept (fun q q1 q2 => f1 q (by omega))).2.2.2, fun j hj => (hB j hj).kept (fun q q1 q2 => f1 q (by omega)), fun j hj => (hE j hj).kept (fun q q1 q2 => f1 q (by omega)), fun j hj => (hG j hj).kept (fun q q1 q2 => f1 q (by omega)), fun j hj => ?_⟩, f1.wd (by omega) (by omega)⟩
    · rw [if_neg (show ¬ nI 3 = (0 : Int32) by decide), if_neg (show ¬ nI 3 = (1 : Int32) by decide), if_neg (show ¬ nI 3 = (2 : Int32) by decide), t4.1, Option.bind_some, eb, Option.bind_some]
      show ((q_ob h a 7).bind fun _ => (F_X7_fillTown z h a (t + 24 + 22 * k)).bind fun x10 => some x10) = _
      rw [r.ob, Option.bind_some, e1, Option.bind_some]
    · show CWx h1 (t + 24 + 22 * j) (j < sC σ 3 + nw) (upF (sW σ) k (yTT σ 3 m) j)
      by_cases e : j = k
      · subst e
        rw [upF_self]
        exact ⟨A1, B, I1, J, o1, fun _ => c1⟩
      · rw [upF_ne _ _ e]
        exact ((hW j hj).kept (fun q q1 q2 => f1 q (by omega))).mp (kn3 j e)
/-- the class takes the tape and keeps a fault and a place -/
theorem c_put3 (xc : XC h c) (d : TD h (c + 1) σ) (f p : Int32) : ∃ h1 h2 h3, q_put h (c + 1) 9 6 (.int (nI 0)) = some h1 ∧ q_put h1 (c + 1) 9 7 (.int f) = some h2 ∧ q_put h2 (c + 1) 9 8 (.int p) = some h3 ∧ XC h1 c ∧ XC h2 c ∧ XC h3 c ∧ TD h3 (c + 1) (sg0 σ f p) ∧ Fr h h1 (c + 1) (c + 2) ∧ Fr h h2 (c + 1) (c + 2) ∧ Fr h h3 (c + 1) (c + 2) := by
  obtain ⟨h1, e1, d1, r1⟩ := d.p6 0
  obtain ⟨h2, e2, d2, r2⟩ := d1.p7 f
  obtain ⟨h3, e3, d3, r3⟩ := d2.p8 p
  have x : ∀ {g}, Fr h g (c + 1) (c + 1 + 1) → XC g c := fun fr => by unfold XC at *; rw [fr _ (by omega)]; exact xc
  exact ⟨h1, h2, h3, e1, e2, e3, x r1, x (r1.tr r2), x ((r1.tr r2).tr r3), d3, r1, r1.tr r2, (r1.tr r2).tr r3⟩
theorem c_no (rc : RC h c nx σ im) (x y w : Int32) : ∃ h', j_X11_text_45 z h c x y w (0 : Int32) = some (m2, h') ∧ RC h' c nx (sg0 σ (nI 0) m1) im ∧ Fr h h' (c + 1) (c + 52) := by
  have xc := rc.1
  obtain ⟨h1, h2, h3, e1, e2, e3, x1, x2, x3, d3, -, -, r3⟩ := c_put3 xc rc.2.1 (nI 0) m1
  have r3 : Fr h h3 (c + 1) (c + 52) := r3.wd (by omega) (by omega)
  have e1 : q_put h (c + 1) 9 6 (.int (0 : Int32)) = some h1 := e1
  have e2 : q_put h1 (c + 1) 9 7 (.int (0 : Int32)) = some h2 := e2
  have e3 : q_put h2 (c + 1) 9 8 (.int (-1 : Int32)) = some h3 := e3
  refine ⟨h3, ?_, rc.t r3 d3, r3⟩
  unfold j_X11_text_45
  rw [if_pos rfl, (xS xc).2.1, Option.bind_some, e1, Option.bind_some, (xS x1).2.1, Option.bind_some, e2, Option.bind_some, (xS x2).2.1, Option.bind_some, e3, Option.bind_some]
  rfl
theorem c_refuse (rc : RC h c nx σ im) (ok : SGok σ) {x y : Int32} (hx : (x < nI 0 ∨ (∃ n, x = nI n ∧ n < 2 ^ 31 ∧ (n < 0 ∨ 3 < n))) ∨ ∃ s, s < 4 ∧ x = nI s ∧ ((y = m1 ∧ sC σ s = 2) ∨ (y ≠ m1 ∧ nOut y (sC σ s)))) : ∃ h', F_X11_text z h c x y = some (m2, h') ∧ RC h' c nx (sg0 σ (nI 0) m1) im ∧ Fr h h' (c + 1) (c + 52) := by
  have xc := rc.1
  have td := rc.2.1
  unfold F_X11_text
  rw [(xS xc).2.1, Option.bind_some, (tS td).1, Option.bind_some]
  rcases hx with hx | ⟨s, hs, rfl, hy⟩
  · have eh : F_X9_howMany h (c + 1) x = some m2 := by
      rcases hx with hx | ⟨n, rfl, hn, hn2⟩
      · simp (disch := omega) only [F_X9_howMany, nS, gN hx]
      · simp (disch := omega) only [F_X9_howMany, nS]
    obtain ⟨h1, e1, r1, f1⟩ := c_no (z := z) rc x y m2
    refine ⟨h1, ?_, r1, f1⟩
    rw [eh, Option.bind_some]
    by_cases hy : y = (-1 : Int32)
    · rw [if_pos hy, if_pos (show m2 < (0 : Int32) by decide)]
      exact e1
    · rw [if_neg hy]
      by_cases h0 : y < 0
      · rw [if_pos h0]; exact e1
      · obtain ⟨j, hj, rfl⟩ := nI_of h0
        rw [if_neg h0, if_pos ((m2_le hj).mpr trivial)]; exact e1
  · have hc := ok.2.1 s hs
    have eh : F_X9_howMany h (c + 1) (nI s) = some (nI (sC σ s)) := by
      simp (disch := omega) only [F_X9_howMany, nS, tS td]
    obtain ⟨h1, e1, r1, f1⟩ := c_no (z := z) rc (nI s) y (nI (sC σ s))
    refine ⟨h1, ?_, r1, f1⟩
    rw [eh, Option.bind_some]
    rcases hy with ⟨rfl, hc2⟩ | ⟨hy, hout⟩
    · rw [if_pos (show m1 = (-1 : Int32) from rfl), if_neg (show ¬ nI (sC σ s) < (0 : Int32) from nI_pos (by omega)), if_pos (show (2 : Int32) ≤ nI (sC σ s) from nI_le (a := 2) (by omega) (by omega))]
      exact e1
    · rw [if_neg (show ¬ y = (-1 : Int32) from hy)]
      by_cases h0 : y < 0
      · rw [if_pos h0]; exact e1
      · rw [if_neg h0, if_pos (hout.resolve_left h0)]; exact e1
theorem c_accept (tx : Tx h z) (hlow : ∀ i, i < 18 → z (4 + i) < c) (rc : RC h c nx σ im) (ok : SGok σ) (hs : s < 4) {y : Int32} (hy : (y = m1 ∧ k = sC σ s ∧ nw = 1 ∧ sC σ s < 2) ∨ (y = nI k ∧ k < sC σ s ∧ nw = 0)) : ∃ h' m out, yOut σ s m out ∧ m ≤ 600 ∧ Fr h h' (c + 1) (c + 80) ∧ (out ≠ none → F_X11_text z h c (nI s) y = some (m1, h') ∧ RC h' c nx (sg0 σ (oFt out) (oPl out)) im) ∧ (out = none → F_X11_text z h c (nI s) y = some (nI k, h') ∧ RC h' c nx (sgN σ s k (yTT σ s m) nw) im ∧ SGok (sgN σ s k (yTT σ s m) nw)) := by
  have hc2 := ok.2.1 s hs
  have kn : KN σ s k nw := ⟨by omega, by omega, fun j hj hj2 => by omega⟩
  obtain ⟨xc, td, sc, imx⟩ := rc
  have rc : RC h c nx σ im := ⟨xc, td, sc, imx⟩
  obtain ⟨h1, n, m, out, e1, yo, hm, hn, rk1, hst, f1⟩ := c_read (a := c + 53) tx td ok.1 (by omega) (fun i hi => Nat.lt_of_lt_of_le (hlow i hi) (by omega)) hs sc.1
  have f1' : Fr h h1 (c + 53) (c + 80) := f1.wd (by omega) (by omega)
  have sc1 : SC h1 c := by
    obtain ⟨-, s2, s3, s4, s5, s6⟩ := sc
    refine ⟨?_, s2.kept fun q h1 h2 => f1 q ?_, s3.kept fun q h1 h2 => f1 q ?_, s4.kept fun q h1 h2 => f1 q ?_, s5.kept fun q h1 h2 => f1 q ?_, s6.kept fun q h1 h2 => f1 q ?_⟩
    · obtain ⟨A, B, I, J, o, -⟩ := rk1
      exact ⟨A, B, I, J, o⟩
    all_goals (right; omega)
  have rc1 := rc.q f1' sc1
  have xc1 := rc1.1
  obtain ⟨h2, h3, h4, e2, e3, e4, x2, x3, x4, d4, r2, r3, r4⟩ := c_put3 xc1 rc1.2.1 (oFt out) (oPl out)
  have e2 : q_put h1 (c + 1) 9 6 (.int (0 : Int32)) = some h2 := e2
  have kp : ∀ {g}, Fr h1 g (c + 1) (c + 52) → RK g (c + 53) (n + 1) (tok σ s) (oFt out) (oPl out) := fun f => rk1.kp (fun q q1 q2 => f q (by omega))
  have r2 : Fr h1 h2 (c + 1) (c + 52) := r2.wd (by omega) (by omega)
  have r3 : Fr h1 h3 (c + 1) (c + 52) := r3.wd (by omega) (by omega)
  have r4 : Fr h1 h4 (c + 1) (c + 52) := r4.wd (by omega) (by omega)
  have rk2 := (kp r2).tk.2.1
  have rk3 := (kp r3).tk.2.2
  have rk4 := (kp r4).tk.2.1
  have eh : F_X9_howMany h (c + 1) (nI s) = some (nI (sC σ s)) := by
    simp (disch := omega) only [F_X9_howMany, nS, tS td]
  have pre : F_X11_text z h c (nI s) y = (if oFt out = 0 then (if y = (-1 : Int32) then (q_fR h4 c 11 0).bind fun x36 => (q_ob h4 x36 9).bind fun u38 => (F_X9_addOne h4 x36 (nI s)).bind fun x40 => j_X11_text_152 z x40 c (nI s) y (nI (sC σ s)) else j_X11_text_152 z h4 c (nI s) y (nI (sC σ s))) else some ((-1 : Int32), h4)) := by
    have p1 : F_X11_text z h c (nI s) y = j_X11_text_45 z h c (nI s) y (nI (sC σ s)) (1 : Int32) := by
      unfold F_X11_text
      rw [(xS xc).2.1, Option.bind_some, (tS td).1, Option.bind_some, eh, Option.bind_some]
      rcases hy with ⟨rfl, -, -, hc⟩ | ⟨rfl, hc, -⟩
      · rw [if_pos (show m1 = (-1 : Int32) from rfl), if_neg (show ¬ nI (sC σ s) < (0 : Int32) from nI_pos (by omega)), if_neg (show ¬ (2 : Int32) ≤ nI (sC σ s) from nI_ge (b := 2) (by omega) (by omega))]
      · rw [if_neg (show ¬ nI k = (-1 : Int32) from fun q => (nm1_eq (a := k) (by omega)).mp q), if_neg (show ¬ nI k < (0 : Int32) from nI_pos (by omega)), if_neg (nI_ge hc (by omega))]
    rw [p1]
    unfold j_X11_text_45
    rw [if_neg (by decide), (xS xc).2.2.2.1, Option.bind_some, (xS xc).2.1, Option.bind_some, sc.1.choose_spec.choose_spec.choose_spec.choose_spec.ob, Option.bind_some, e1, Option.bind_some, (xS xc1).2.1, Option.bind_some, e2, Option.bind_some, (xS x2).2.1, Option.bind_some, (xS x2).2.2.2.1, Option.bind_some, rk2, Option.bind_some, e3, Option.bind_some, (xS x3).2.1, Option.bind_some, (xS x3).2.2.2.1, Option.bind_some, rk3, Option.bind_some, e4, Option.bind_some, (xS x4).2.2.2.1, Option.bind_some, rk4, Option.bind_some]
  have posO : ∀ q, out = some q → 0 < q.1 ∧ q.1 < 5 := by
    intro q hq
    rcases yo.2 with ⟨w, -, ho⟩ | ⟨-, ho⟩
    · rw [ho] at hq; cases hq; exact ⟨show 0 < 1 by omega, show 1 < 5 by omega⟩
    · rw [ho] at hq
      unfold yFin at hq
      cases hL : yLL σ s m with
      | some r =>
        rw [hL] at hq
        cases hq
        exact yLL_pos σ s m _ hL
      | none =>
        rw [hL] at hq
        dsimp only at hq
        split at hq
        · cases hq; exact ⟨show 0 < 4 by omega, show 4 < 5 by omega⟩
        · cases hq
  by_cases ho : out = none
  · subst ho
    have hfin : yK σ s (yst σ s m) = 4 ∧ yFin σ s m = none := by
      rcases yo.2 with ⟨w, -, ho⟩ | ⟨h4', ho⟩
      · cases ho
      · exact ⟨h4', ho.symm⟩
    have hg := yo.1
    have hL : yLL σ s m = none := by
      have := hfin.2
      unfold yFin at this
      cases hL : yLL σ s m with
      | some r => rw [hL] at this; cases this
      | none => rfl
    have hF : s = 0 → yFF σ s m ≤ cn (yTT σ s m) 0 := by
      intro h0
      have := hfin.2
      unfold yFin at this
      rw [hL] at this
      dsimp only at this
      split at this
      · cases this
      · next hc => exact Nat.le_of_not_lt (fun q => hc ⟨Or.inl h0, q⟩)
    have okN : SGok (sgN σ s k (yTT σ s m) nw) := SGok_n ok kn (fun e => by subst e; exact BV_ok hg hL (hF rfl)) (fun e => by subst e; exact EV_ok hg hL) (fun e => by subst e; exact LV_ok hg hL) (fun e => by subst e; exact TV_ok hg hL)
    -- the counts
    obtain ⟨h5, e5, td5, c5, r5, x5⟩ : ∃ h5, (if y = (-1 : Int32) then (q_fR h4 c 11 0).bind fun x36 => (q_ob h4 x36 9).bind fun u38 => (F_X9_addOne h4 x36 (nI s)).bind fun x40 => j_X11_text_152 z x40 c (nI s) y (nI (sC σ s)) else j_X11_text_152 z h4 c (nI s) y (nI (sC σ s))) = j_X11_text_162 z h5 c (nI s) (nI k) ∧ TD4 h5 (c + 1) (sgN σ s k (yTT σ s m) nw) ∧ (∀ q, c + 1 + 7 ≤ q → h5 q = h4 q) ∧ Fr h4 h5 (c + 1) (c + 52) ∧ XC h5 c := by
      have d4c := d4
      obtain ⟨q1, q2, ⟨f3, q3, q3'⟩, q4, -⟩ := d4c
      rcases hy with ⟨rfl, rfl, rfl, hc⟩ | ⟨rfl, hc, rfl⟩
      · have g2 : q_aI h4 .int (c + 1 + 2) (nI s) = some (nI (sC σ s)) := (tS d4).2.2.2.2.2.2.2.2.2.2.2.1 s hs
        have es : q_sI h4 .int (c + 1 + 2) (nI s) (nI (sC σ s + 1)) = some (va_up h4 (c + 1 + 2) (some (.inl (.int, 4, .inl (upd f3 s (nI (sC σ s + 1))))))) := by
          simp [q_sI, q3, nI_nn (show s < 2 ^ 31 by omega), nI_cl (show s < 2 ^ 31 by omega), hs, q_nar]
        have fr : Fr h4 (va_up h4 (c + 1 + 2) (some (.inl (.int, 4, .inl (upd f3 s (nI (sC σ s + 1))))))) (c + 1 + 2) (c + 1 + 3) := fun q hq => va_up_ne _ _ (by omega)
        have fr' := fr.wd (show c + 1 ≤ c + 1 + 2 by omega) (show c + 1 + 3 ≤ c + 52 by omega)
        have x5 : XC (va_up h4 (c + 1 + 2) (some (.inl (.int, 4, .inl (upd f3 s (nI (sC σ s + 1))))))) c := by unfold XC at *; rw [fr _ (by omega)]; exact x4
        refine ⟨_, ?_, ⟨?_, ?_, ⟨_, va_up_self _ _ _, fun i hi => ?_⟩, q4.kept (fun q a1 a2 => fr q (by omega))⟩, fun q hq => fr q (by omega), fr', x5⟩
        · have es' : q_sI h4 .int (c + 1 + 2) (nI s) (nI (sC σ s) + (1 : Int32)) = some (va_up h4 (c + 1 + 2) (some (.inl (.int, 4, .inl (upd f3 s (nI (sC σ s + 1))))))) := by rw [n_lit 1, nI_add]; exact es
          rw [if_pos (show m1 = (-1 : Int32) from rfl), (xS x4).2.1, Option.bind_some, (tS d4).1, Option.bind_some]
          have ea : F_X9_addOne h4 (c + 1) (nI s) = some (va_up h4 (c + 1 + 2) (some (.inl (.int, 4, .inl (upd f3 s (nI (sC σ s + 1))))))) := by
            unfold F_X9_addOne
            rw [if_neg (show ¬ nI s < (0 : Int32) from nI_pos (by omega)), if_neg (show ¬ (4 : Int32) ≤ nI s from nI_ge (b := 4) hs (by omega)), (tS d4).2.2.2.2.2.1, Option.bind_some, g2, Option.bind_some, if_neg (show ¬ (2 : Int32) ≤ nI (sC σ s) from nI_ge (b := 2) hc (by omega)), Option.bind_some, g2, Option.bind_some, es', Option.bind_some]
          rw [ea, Option.bind_some]
          unfold j_X11_text_152
          rw [if_pos (show m1 = (-1 : Int32) from rfl)]
          rfl
        · unfold TDo at *; rw [fr _ (by omega)]; exact q1
        · unfold TDt at *; rw [fr _ (by omega)]; exact q2
        · show upd f3 s (nI (sC σ s + 1)) i = nI (if i = s then sC σ s + 1 else sC σ i)
          by_cases e : i = s
          · subst e; rw [pk_us, if_pos rfl]
          · rw [pk_un e, if_neg e]; exact q3' i hi
      · have nk : ¬ nI k = (-1 : Int32) := fun q => (nm1_eq (a := k) (by omega)).mp q
        refine ⟨h4, ?_, ⟨q1, q2, ⟨f3, q3, fun i hi => ?_⟩, q4⟩, fun _ _ => rfl, Fr.rf, x4⟩
        · rw [if_neg nk]
          unfold j_X11_text_152
          rw [if_neg nk]
        · show f3 i = nI (if i = s then sC σ s + 0 else sC σ i)
          rw [q3' i hi]
          by_cases e : i = s
          · subst e; rw [if_pos rfl]; rfl
          · rw [if_neg e]; rfl
    have r15 : Fr h1 h5 (c + 1) (c + 52) := r4.tr r5
    obtain ⟨-, -, -, -, qB, qE, qG, qW⟩ := d4
    obtain ⟨h6, e6, d6, r6⟩ := c_fillAll (a := c + 53) (z := z) td5 (fun j hj => (qB j hj).kept (fun q a1 a2 => c5 q (by omega))) (fun j hj => (qE j hj).kept (fun q a1 a2 => c5 q (by omega))) (fun j hj => (qG j hj).kept (fun q a1 a2 => c5 q (by omega))) (fun j hj => (qW j hj).kept (fun q a1 a2 => c5 q (by omega))) kn hs hn hg (hst rfl) hL hF (kp r15) (by omega)
    have r6' : Fr h5 h6 (c + 1) (c + 52) := r6.wd (by omega) (by omega)
    have r16 := r15.tr r6'
    refine ⟨h6, m, none, yo, hm, fun q hq => (r16 q (by omega)).trans (f1 q (by omega)), fun q => absurd rfl q, fun _ => ⟨?_, rc1.t r16 d6, okN⟩⟩
    rw [pre, if_pos (show oFt none = 0 from rfl), e5]
    unfold j_X11_text_162
    rw [(xS x5).2.2.2.1, Option.bind_some, (xS x5).2.1, Option.bind_some, (kp r15).ob, Option.bind_some, e6, Option.bind_some]
  · refine ⟨h4, m, out, yo, hm, fun q hq => (r4 q (by omega)).trans (f1 q (by omega)), fun _ => ⟨?_, rc1.t r4 d4⟩, fun q => absurd q ho⟩
    rw [pre, if_neg (fun q => ho ((oFt_0 posO).mp q))]
    rfl
end CTX
theorem text_ok : TextOk := by
  intro b L c xs z adV hz hzi h nx σ im x y hl st
  obtain ⟨ok, rc, rm, hn⟩ := st
  have tx : Tx h z := tx_of hz hzi hl
  have ref : ((x < nI 0 ∨ (∃ n, x = nI n ∧ n < 2 ^ 31 ∧ (n < 0 ∨ 3 < n))) ∨ ∃ s, s < 4 ∧ x = nI s ∧ ((y = m1 ∧ sC σ s = 2) ∨ (y ≠ m1 ∧ nOut y (sC σ s)))) → QT h c nx (F_X11_text z h c x y) (fun h1 => F_X12_text h1 (c + 80) x y) := by
    intro hx
    obtain ⟨h1, e1, rc1, f1⟩ := c_refuse (z := z) rc ok hx
    have rm1 := rm.c f1 (Or.inl (by omega))
    obtain ⟨h2, e2, rm2, f2⟩ := d_refuse rm1 ok hx
    exact ⟨m2, h1, h2, sg0 σ (nI 0) m1, im, e1, e2, fun q hq => f1 q (by omega), fun q hq => (f2 q (by omega)).trans (f1 q (by omega)), rm1.ob, SGok_0 ok _ _, rc1.m f2, rm2, hn⟩
  have acc : ∀ {s k nw : Nat}, s < 4 → x = nI s → ((y = m1 ∧ k = sC σ s ∧ nw = 1 ∧ sC σ s < 2) ∨ (y = nI k ∧ k < sC σ s ∧ nw = 0)) → QT h c nx (F_X11_text z h c x y) (fun h1 => F_X12_text h1 (c + 80) x y) := by
    intro s k nw hs hx hy
    subst hx
    obtain ⟨h1, m, out, yo, hm, f1, q1, q2⟩ := c_accept (z := z) tx (fun i hi => (hz i hi).1) rc ok hs hy
    have rm1 := rm.c f1 (Or.inl (by omega))
    obtain ⟨p1, p2⟩ := d_accept rm1 ok hs hy hm yo
    by_cases ho : out = none
    · obtain ⟨e1, rc1, ok1⟩ := q2 ho
      obtain ⟨h2, e2, rm2, f2⟩ := p2 ho
      exact ⟨nI k, h1, h2, sgN σ s k (yTT σ s m) nw, im, e1, e2, fun q hq => f1 q (by omega), fun q hq => (f2 q (by omega)).trans (f1 q (by omega)), rm1.ob, ok1, rc1.m f2, rm2, hn⟩
    · obtain ⟨e1, rc1⟩ := q1 ho
      obtain ⟨h2, e2, rm2, f2⟩ := p1 ho
      exact ⟨m1, h1, h2, sg0 σ (oFt out) (oPl out), im, e1, e2, fun q hq => f1 q (by omega), fun q hq => (f2 q (by omega)).trans (f1 q (by omega)), rm1.ob, SGok_0 ok _ _, rc1.m f2, rm2, hn⟩
  rcases nRg x 0 3 (by omega) with hx | ⟨s, hx, -, hs⟩
  · exact ref (Or.inl hx)
  · have hc2 := ok.2.1 s (by omega)
    by_cases hy : y = m1
    · by_cases hc : sC σ s = 2
      · exact ref (Or.inr ⟨s, by omega, hx, Or.inl ⟨hy, hc⟩⟩)
      · exact acc (s := s) (k := sC σ s) (nw := 1) (by omega) hx (Or.inl ⟨hy, rfl, rfl, by omega⟩)
    · rcases nOut_or y (n := sC σ s) (by omega) with ho | ⟨k, hk, hyk⟩
      · exact ref (Or.inr ⟨s, by omega, hx, Or.inr ⟨hy, ho⟩⟩)
      · exact acc (s := s) (k := k) (nw := 0) (by omega) hx (Or.inr ⟨hyk, hk, rfl⟩)
