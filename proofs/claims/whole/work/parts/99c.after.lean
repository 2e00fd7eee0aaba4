/-! ===== call: after ===== -/
/-- who said most -/
def lou (v : Nat → Nat) : Nat → Option Nat × Nat
  | 0 => (none, 0)
  | p + 1 => if (lou v p).2 < v (10 + p) then (some p, v (10 + p)) else lou v p
theorem lou_ok (v : Nat → Nat) {K : Nat} (hv : ∀ i, v i ≤ K) : ∀ p, (lou v p).2 ≤ K ∧ (∀ q, (lou v p).1 = some q → q < p ∧ (lou v p).2 = v (10 + q)) ∧ ((lou v p).1 = none → (lou v p).2 = 0) := by
  intro p
  induction p with
  | zero => exact ⟨Nat.zero_le _, fun q hq => (by cases hq), fun _ => rfl⟩
  | succ p ih =>
    obtain ⟨i1, i2, i3⟩ := ih
    unfold lou
    split
    · exact ⟨hv _, fun q hq => (by cases hq; exact ⟨by omega, rfl⟩), fun q => (by cases q)⟩
    · exact ⟨i1, fun q hq => ⟨by have := (i2 q hq).1; omega, (i2 q hq).2⟩, i3⟩
section AFC
variable {h : qH} {a b ev : Nat} {m : MB} {e : Nat → Int32} {A : Nat → Nat → Int32} {B : Nat → Nat → Int64} {I : Nat → Int32} {J : Nat → Int64}
theorem c_loudest (o : OB h a 8 stL A B I J) (c : CB h b m) (hd : b + 12 ≤ a ∨ a + 3 ≤ b) (ce : CE h ev e) (hde : ev + 3 ≤ a ∨ a + 3 ≤ ev) : ∃ h', F_X8_loudest h a b ev = some (oI (lou (ay m e (eN e)).2.1.2 6).1, h') ∧ OBx h' a 8 stL ∧ Fr h h' a (a + 3) := by
  obtain ⟨h', e1, cs⟩ := c_play o c hd ce hde (Nat.le_refl _)
  have hN := (ev_ok ce.1).2
  have hw := (ay_ok c.1 ce.1 (eN e) (Nat.le_refl _)).1
  obtain ⟨xb, r, ob⟩ := cs.xb
  obtain ⟨A', I', o', -, sx⟩ := cs
  have sa := sx.2.2.2.2.2.2.2.2.1
  have lk := fun p => lou_ok (ay m e (eN e)).2.1.2 hw.2.1 p
  have lp : q_lp (s_X8_loudest_19 h' a) q_N (m1, nI 0, nI 0) = some (oI (lou (ay m e (eN e)).2.1.2 6).1) := by
    refine q_lp_for (fun p => (oI (lou (ay m e (eN e)).2.1.2 p).1, nI (lou (ay m e (eN e)).2.1.2 p).2, nI p)) 6 (fun p hp => ?_) ?_ q_N (q_lt_N (by omega))
    · have sp := sa p hp
      have h1 := (lk p).1
      have h2 := hw.2.1 (10 + p)
      have el : lou (ay m e (eN e)).2.1.2 (p + 1) = if (lou (ay m e (eN e)).2.1.2 p).2 < (ay m e (eN e)).2.1.2 (10 + p) then (some p, (ay m e (eN e)).2.1.2 (10 + p)) else lou (ay m e (eN e)).2.1.2 p := rfl
      rw [el]
      generalize lou (ay m e (eN e)).2.1.2 p = L0 at h1
      by_cases hc : L0.2 < (ay m e (eN e)).2.1.2 (10 + p)
      · rw [if_pos hc]
        show _ = some (Sum.inl (nI p, nI ((ay m e (eN e)).2.1.2 (10 + p)), nI (p + 1)))
        simp (disch := omega) only [s_X8_loudest_19, b_X8_loudest_19, nS, X8_rd o', sp]
      · rw [if_neg hc]
        simp (disch := omega) only [s_X8_loudest_19, b_X8_loudest_19, nS, X8_rd o', sp]
    · simp (disch := omega) only [s_X8_loudest_19, b_X8_loudest_19, nS]
  refine ⟨h', ?_, xb, r⟩
  simp (disch := omega) only [F_X8_loudest, nS, eS ce, o.ob, e1, lp]
theorem c_fines {h0 : qH} {n : Nat} {s : SS} (cs : CS h0 h a B J s) (c : CB h b m) (w : WS m n s) (hn : n < 100) : F_X8_fines h a b = some (nI (s.2 5 - fre m)) := by
  rcases c_show cs c w hn (nI 6) with ⟨q, hq, eq, hs⟩ | ⟨hq, -⟩
  · have := (nI_eq (by omega) hq).mp eq
    subst this
    have ob := cs.xb.2.2
    have e : F_X8_show h a b (nI 6) = F_X8_fines h a b := by
      simp (disch := omega) only [F_X8_show, j_X8_show_22, j_X8_show_44, nS, ob]
      cases F_X8_fines h a b <;> rfl
    rw [← e, hs]
    rfl
  · exact absurd ((nI_ltI (by omega) (by omega)).mp hq) (by omega)
theorem c_longest (o : OB h a 8 stL A B I J) (c : CB h b m) (hd : b + 12 ≤ a ∨ a + 3 ≤ b) (ce : CE h ev e) (hde : ev + 3 ≤ a ∨ a + 3 ≤ ev) : ∃ h', F_X8_longestSilence h a b ev = some (nI (ay m e (eN e)).2.2.1, h') ∧ OBx h' a 8 stL ∧ Fr h h' a (a + 3) := by
  have ok := c.1
  have hN := (ev_ok ce.1).2
  have ck : ∀ {h'}, Fr h h' a (a + 3) → CB h' b m := fun r => c.kept (fun q q1 q2 => r q (by omega))
  have cek : ∀ {h'}, Fr h h' a (a + 3) → CE h' ev e := fun r => ce.kept (fun q q1 q2 => r q (by omega))
  obtain ⟨h1, A1, I1, e1, o1, r1, x1, -⟩ := c_begin o
  have lp : ∃ r, q_lp (s_X8_longestSilence_9 a b ev) q_N (nI 0, nI 0, h1) = some r ∧ ∃ h' s, CS h h' a B J s ∧ ((r = .inl (nI (ay m e (eN e)).2.2.1, h')) ∨ (r = .inr (nI (ay m e (eN e)).2.2.1, h'))) := by
    refine q_lp_inv (fun st => ∃ k, k ≤ eN e ∧ st.1 = nI (ay m e k).2.2.1 ∧ st.2.1 = nI k ∧ (ay m e k).1 = k ∧ CS h st.2.2 a B J (ay m e k).2.1) (fun st => eN e - st.2.1.toNatClampNeg) _ ?_ q_N (nI 0, nI 0, h1) ⟨0, by omega, rfl, rfl, rfl, A1, I1, o1, r1, x1⟩ (q_lt_N (by dsimp only; omega))
    rintro ⟨x, y, hh⟩ ⟨k, hk, hx, hy, hak, cs⟩
    dsimp only at hx hy cs
    subst hx hy
    obtain ⟨-, hr, ob8⟩ := cs.xb
    have eSp := eS (cek hr)
    by_cases hkn : k = eN e
    · subst hkn
      refine Or.inr ⟨.inr (nI (ay m e (eN e)).2.2.1, hh), ?_, hh, _, cs, Or.inr rfl⟩
      simp (disch := omega) only [s_X8_longestSilence_9, b_X8_longestSilence_9, nS, eSp]
    · obtain ⟨v1, v2, v3, v4, v5⟩ := ev_at ce.1 (k := k) (by omega)
      have hok := ay_ok ok ce.1 k (by omega)
      have hdo := c_do cs (ck hr) hd hok.1 (by omega) v1 v4 v5
      clear v5
      rcases hdo with ⟨s', h', hs, e', cs'⟩ | ⟨hs, e'⟩
      · have hok' := (ay_ok ok ce.1 (k + 1) (by omega)).1.2.1 3
        have hy' := ay_y hak hs
        have lk := hok.2.1
        rw [hy'] at hok'
        dsimp only at hok'
        have e4 : q_fI h' a 8 4 = some (nI (s'.2 3)) := by
          obtain ⟨A', I', o', -, sx'⟩ := cs'
          rw [o'.fI (k := 4) rfl, sx'.2.2.1]
        refine Or.inl ⟨(nI (ay m e (k + 1)).2.2.1, nI (k + 1), h'), ?_, ⟨k + 1, by omega, rfl, rfl, by rw [hy'], by rw [hy']; exact cs'⟩, ?_⟩
        · rw [hy']
          dsimp only
          rcases Nat.lt_or_ge (ay m e k).2.2.1 (s'.2 3) with h5 | h5
          · rw [Nat.max_eq_right (by omega)]
            simp (disch := omega) only [s_X8_longestSilence_9, b_X8_longestSilence_9, nS, eSp, v2, v3, ob8, e', e4, F_J9_max_7cf53]
          · rw [Nat.max_eq_left (by omega)]
            simp (disch := omega) only [s_X8_longestSilence_9, b_X8_longestSilence_9, nS, eSp, v2, v3, ob8, e', e4, F_J9_max_7cf53]
        · show eN e - (nI (k + 1)).toNatClampNeg < eN e - (nI k).toNatClampNeg
          rw [nI_cl (by omega), nI_cl (by omega)]
          omega
      · have hst := ay_stop hak hs (n := eN e) (by omega)
        refine Or.inr ⟨.inl (nI (ay m e k).2.2.1, hh), ?_, hh, _, cs, Or.inl (by rw [hst])⟩
        simp (disch := omega) only [s_X8_longestSilence_9, b_X8_longestSilence_9, nS, eSp, v2, v3, ob8, e']
  obtain ⟨r, er, h', s, cs, hr⟩ := lp
  obtain ⟨xb, r', -⟩ := cs.xb
  refine ⟨h', ?_, xb, r'⟩
  rcases hr with rfl | rfl
  · simp (disch := omega) only [F_X8_longestSilence, nS, o.ob, e1, er]
  · simp (disch := omega) only [F_X8_longestSilence, nS, o.ob, e1, er]
/-- once there is a first fine, it stays -/
theorem ay_fin {m : MB} {e : Nat → Int32} {k x : Nat} (h : (ay m e k).2.2.2 = some x) : ∀ d, (ay m e (k + d)).2.2.2 = some x := by
  intro d
  induction d with
  | zero => exact h
  | succ d ih =>
    by_cases hk : (ay m e (k + d)).1 = k + d
    · cases hp : pf m (eD e (k + d)) (eX e (k + d)) (ay m e (k + d)).2.1 with
      | none => rw [show k + (d + 1) = k + d + 1 by omega, ay_n hk hp]; exact ih
      | some s' =>
        rw [show k + (d + 1) = k + d + 1 by omega, ay_y hk hp]
        dsimp only
        rw [if_neg (fun q => by rw [ih] at q; cases q.1)]
        exact ih
    · have := ay_st hk 1
      rw [show k + (d + 1) = k + d + 1 by omega, this]
      exact ih
theorem c_fined (o : OB h a 8 stL A B I J) (c : CB h b m) (hd : b + 12 ≤ a ∨ a + 3 ≤ b) (ce : CE h ev e) (hde : ev + 3 ≤ a ∨ a + 3 ≤ ev) : ∃ h', F_X8_firstFined h a b ev = some (oI (ay m e (eN e)).2.2.2, h') ∧ OBx h' a 8 stL ∧ Fr h h' a (a + 3) := by
  have ok := c.1
  have hN := (ev_ok ce.1).2
  have ck : ∀ {h'}, Fr h h' a (a + 3) → CB h' b m := fun r => c.kept (fun q q1 q2 => r q (by omega))
  have cek : ∀ {h'}, Fr h h' a (a + 3) → CE h' ev e := fun r => ce.kept (fun q q1 q2 => r q (by omega))
  have hfr := (fre_ok ok).2
  obtain ⟨h1, A1, I1, e1, o1, r1, x1, -⟩ := c_begin o
  have lp : ∃ r, q_lp (s_X8_firstFined_6 a b ev) q_N (nI 0, h1) = some r ∧ ∃ h' s, CS h h' a B J s ∧ (((r = .inl h' ∨ r = .inr (.inr h')) ∧ (ay m e (eN e)).2.2.2 = none) ∨ ∃ k, k < 40 ∧ r = .inr (.inl (nI k, h')) ∧ (ay m e (eN e)).2.2.2 = some (k + 1)) := by
    refine q_lp_inv (fun st => ∃ k, k ≤ eN e ∧ st.1 = nI k ∧ (ay m e k).1 = k ∧ (ay m e k).2.2.2 = none ∧ CS h st.2 a B J (ay m e k).2.1) (fun st => eN e - st.1.toNatClampNeg) _ ?_ q_N (nI 0, h1) ⟨0, by omega, rfl, rfl, rfl, A1, I1, o1, r1, x1⟩ (q_lt_N (by dsimp only; omega))
    rintro ⟨y, hh⟩ ⟨k, hk, hy, hak, hno, cs⟩
    dsimp only at hy cs
    subst hy
    obtain ⟨-, hr, ob8⟩ := cs.xb
    have eSp := eS (cek hr)
    by_cases hkn : k = eN e
    · subst hkn
      refine Or.inr ⟨.inr (.inr hh), ?_, hh, _, cs, Or.inl ⟨Or.inr rfl, hno⟩⟩
      simp (disch := omega) only [s_X8_firstFined_6, b_X8_firstFined_6, nS, eSp]
    · obtain ⟨v1, v2, v3, v4, v5⟩ := ev_at ce.1 (k := k) (by omega)
      have hok := ay_ok ok ce.1 k (by omega)
      have hdo := c_do cs (ck hr) hd hok.1 (by omega) v1 v4 v5
      clear v5
      rcases hdo with ⟨s', h', hs, e', cs'⟩ | ⟨hs, e'⟩
      · have hok' := (ay_ok ok ce.1 (k + 1) (by omega)).1
        have hy' := ay_y hak hs
        rw [hy'] at hok'
        dsimp only at hok'
        obtain ⟨-, hr', ob8'⟩ := cs'.xb
        have ef := c_fines cs' (ck hr') hok' (by omega)
        have k5 := hok'.2.1 5
        by_cases hf : 0 < s'.2 5 - fre m
        · refine Or.inr ⟨.inr (.inl (nI k, h')), ?_, h', _, cs', Or.inr ⟨k, by omega, rfl, ?_⟩⟩
          · simp (disch := omega) only [s_X8_firstFined_6, b_X8_firstFined_6, nS, eSp, v2, v3, ob8, e', ob8', ef]
          · have : (ay m e (k + 1)).2.2.2 = some (k + 1) := by rw [hy']; dsimp only; rw [if_pos ⟨hno, hf⟩]
            have := ay_fin this (eN e - (k + 1))
            rw [show k + 1 + (eN e - (k + 1)) = eN e by omega] at this
            exact this
        · refine Or.inl ⟨(nI (k + 1), h'), ?_, ⟨k + 1, by omega, rfl, by rw [hy'], by rw [hy']; dsimp only; rw [if_neg (fun q => hf q.2)]; exact hno, by rw [hy']; exact cs'⟩, ?_⟩
          · simp (disch := omega) only [s_X8_firstFined_6, b_X8_firstFined_6, nS, eSp, v2, v3, ob8, e', ob8', ef]
          · show eN e - (nI (k + 1)).toNatClampNeg < eN e - (nI k).toNatClampNeg
            rw [nI_cl (by omega), nI_cl (by omega)]
            omega
      · have hst := ay_stop hak hs (n := eN e) (by omega)
        refine Or.inr ⟨.inl hh, ?_, hh, _, cs, Or.inl ⟨Or.inl rfl, by rw [hst]; exact hno⟩⟩
        simp (disch := omega) only [s_X8_firstFined_6, b_X8_firstFined_6, nS, eSp, v2, v3, ob8, e']
  obtain ⟨r, er, h', s, cs, hr⟩ := lp
  obtain ⟨xb, r', -⟩ := cs.xb
  refine ⟨h', ?_, xb, r'⟩
  rcases hr with ⟨hr, hno⟩ | ⟨k, hk, rfl, hso⟩
  · rw [hno, oI_none]
    rcases hr with rfl | rfl
    · simp (disch := omega) only [F_X8_firstFined, nS, o.ob, e1, er]
    · simp (disch := omega) only [F_X8_firstFined, nS, o.ob, e1, er]
  · rw [hso, oI_some]
    simp (disch := omega) only [F_X8_firstFined, nS, o.ob, e1, er]
end AFC
section AFD
variable {h : qH} {a : Nat} {e : Nat → Int32} {j : Nat} {A : Nat → Nat → Int32} {B : Nat → Nat → Int64} {I : Nat → Int32} {J : Nat → Int64} {b : Nat → Int32} {k : Nat}
theorem d_loudest {h0 : qH} {A0 : Nat → Nat → Int32} {m : MB} {n : Nat} {s : SS} (ds : DS h0 h a A0 B I J m s) (w : WS m n s) (hn : n < 100) : F_X12_loudest h a = some (oI (lou s.2 6).1) := by
  obtain ⟨A, o, -, -, -, -, -, rp⟩ := ds
  have lk := fun p => lou_ok s.2 w.2.1 p
  have lp : q_lp (s_X12_loudest_4 h a) q_N (m1, nI 0) = some (oI (lou s.2 6).1) := by
    refine q_lp_for (fun p => (oI (lou s.2 p).1, nI p)) 6 (fun p hp => ?_) ?_ q_N (q_lt_N (by omega))
    · have sp := rp (10 + p) (by omega) (by omega) (by omega) (by omega)
      obtain ⟨l1, l2, l3⟩ := lk p
      have h2 := w.2.1 (10 + p)
      have el : lou s.2 (p + 1) = if (lou s.2 p).2 < s.2 (10 + p) then (some p, s.2 (10 + p)) else lou s.2 p := rfl
      rw [el]
      generalize lou s.2 p = L0 at l1 l2 l3
      obtain ⟨q, x⟩ := L0
      dsimp only at l1 l2 l3 ⊢
      cases q with
      | none =>
        have := l3 rfl
        subst this
        by_cases hc : 0 < s.2 (10 + p)
        · rw [if_pos hc]
          show _ = some (Sum.inl (nI p, nI (p + 1)))
          rw [oI_none]
          simp (disch := omega) only [s_X12_loudest_4, b_X12_loudest_4, j_X12_loudest_37, nS, X12_rd o, sp]
        · rw [if_neg hc, oI_none]
          simp (disch := omega) only [s_X12_loudest_4, b_X12_loudest_4, j_X12_loudest_37, nS, X12_rd o, sp]
      | some q =>
        obtain ⟨q1, q2⟩ := l2 q rfl
        have sq := rp (10 + q) (by omega) (by omega) (by omega) (by omega)
        rw [← q2] at sq
        by_cases hc : x < s.2 (10 + p)
        · rw [if_pos hc]
          show _ = some (Sum.inl (nI p, nI (p + 1)))
          rw [oI_some]
          simp (disch := omega) only [s_X12_loudest_4, b_X12_loudest_4, j_X12_loudest_37, nS, X12_rd o, sp, sq]
        · rw [if_neg hc, oI_some]
          simp (disch := omega) only [s_X12_loudest_4, b_X12_loudest_4, j_X12_loudest_37, nS, X12_rd o, sp, sq]
    · simp (disch := omega) only [s_X12_loudest_4, b_X12_loudest_4, nS]
  simp (disch := omega) only [F_X12_loudest, nS, lp]
theorem d_afterL (o : OB h a 12 mdL A B I J) (hb : HB A I b k) (he : HE A I e j) (z : Int32) : ∃ h1 h', F_X12_begin h a = some h1 ∧ q_lp (s_X12_after_39 a z) q_N (nI 0, m1, nI 0, h1) = some (nI (ay (bMB b) e (eN e)).2.2.1, oI (ay (bMB b) e (eN e)).2.2.2, h') ∧ DS h h' a A B I J (bMB b) (ay (bMB b) e (eN e)).2.1 := by
  have ok := bMB_ok hb.1
  have hN := (ev_ok he.1).2
  have hfr := (fre_ok ok).2
  obtain ⟨h1, A1, e1, o1, r1, n1, rn1⟩ := d_begin o hb
  have lp : ∃ r, q_lp (s_X12_after_39 a z) q_N (nI 0, m1, nI 0, h1) = some r ∧ ∃ h', DS h h' a A B I J (bMB b) (ay (bMB b) e (eN e)).2.1 ∧ r = (nI (ay (bMB b) e (eN e)).2.2.1, oI (ay (bMB b) e (eN e)).2.2.2, h') := by
    refine q_lp_inv (fun st => ∃ k, k ≤ eN e ∧ st.1 = nI (ay (bMB b) e k).2.2.1 ∧ st.2.1 = oI (ay (bMB b) e k).2.2.2 ∧ st.2.2.1 = nI k ∧ (ay (bMB b) e k).1 = k ∧ DS h st.2.2.2 a A B I J (bMB b) (ay (bMB b) e k).2.1) (fun st => eN e - st.2.2.1.toNatClampNeg) _ ?_ q_N (nI 0, m1, nI 0, h1) ⟨0, by omega, rfl, rfl, rfl, rfl, A1, o1, r1, n1, rn1⟩ (q_lt_N (by dsimp only; omega))
    rintro ⟨x1, x2, x3, hh⟩ ⟨i, hi, hx1, hx2, hx3, hai, ds⟩
    dsimp only at hx1 hx2 hx3 ds
    subst hx1 hx2 hx3
    have ed : q_ob hh a 12 = some () ∧ F_X12_deeds hh a = some (nI (eN e)) := by
      obtain ⟨A', o', r', n', -⟩ := ds
      exact ⟨o'.ob, (e_pack o' (he.n28 n')).1⟩
    by_cases hin : i = eN e
    · subst hin
      refine Or.inr ⟨_, ?_, hh, ds, rfl⟩
      simp (disch := omega) only [s_X12_after_39, b_X12_after_39, nS, ed]
    · obtain ⟨v1, v2, v3, v4, v5⟩ := ev_at he.1 (k := i) (by omega)
      have ep : F_X12_deedOf hh a (nI i) (nI 0) = some (e (1 + 2 * i)) ∧ F_X12_deedOf hh a (nI i) (nI 1) = some (e (2 + 2 * i)) := by
        obtain ⟨A', o', r', n', -⟩ := ds
        have := e_pack o' (he.n28 n')
        exact ⟨this.2.1 i (by omega), this.2.2 i (by omega)⟩
      have hok := ay_ok ok he.1 i (by omega)
      have hdo := d_do ds hb hok.1 (by omega) v1 v4 v5
      clear v5
      rcases hdo with ⟨s', h', hs, e', ds'⟩ | ⟨hs, h', e', ds'⟩
      · have hy' := ay_y hai hs
        have hok' := (ay_ok ok he.1 (i + 1) (by omega)).1
        rw [hy'] at hok'
        dsimp only at hok'
        have k3 := hok'.2.1 3
        have k5 := hok'.2.1 5
        have lk := hok.2.1
        have fk := hok.2.2
        have er : q_fR h' a 12 28 = some (a + 14) ∧ q_aI h' .int (a + 14) (nI 3) = some (nI (s'.2 3)) ∧ q_aI h' .int (a + 14) (nI 6) = some (nI (s'.2 5 - fre (bMB b))) := by
          obtain ⟨A', o', r', n', rn'⟩ := ds'
          have e3 := rn'.2.2.2 3 (by omega) (by omega) (by omega) (by omega)
          have e6 := rn'.2.2.1
          refine ⟨o'.fR (k := 28) rfl rfl, ?_, ?_⟩
          · rw [← e3]; simp (disch := omega) only [X12_rd o']
          · rw [← e6]; simp (disch := omega) only [X12_rd o']
        refine Or.inl ⟨(nI (ay (bMB b) e (i + 1)).2.2.1, oI (ay (bMB b) e (i + 1)).2.2.2, nI (i + 1), h'), ?_, ⟨i + 1, by omega, rfl, rfl, rfl, by rw [hy'], by rw [hy']; exact ds'⟩, ?_⟩
        · rw [hy']
          dsimp only
          have hgr : F_X12_greater h' (nI (ay (bMB b) e i).2.2.1) (nI (s'.2 3)) = some (nI (max (ay (bMB b) e i).2.2.1 (s'.2 3))) := by
            rcases Nat.lt_or_ge (s'.2 3) (ay (bMB b) e i).2.2.1 with h5 | h5
            · rw [Nat.max_eq_left (by omega)]
              simp (disch := omega) only [F_X12_greater, nS]
            · rw [Nat.max_eq_right (by omega)]
              simp (disch := omega) only [F_X12_greater, nS]
          cases hfi : (ay (bMB b) e i).2.2.2 with
          | none =>
            rw [oI_none]
            by_cases hf : 0 < s'.2 5 - fre (bMB b)
            · rw [if_pos ⟨rfl, hf⟩, oI_some]
              simp (disch := omega) only [s_X12_after_39, b_X12_after_39, nS, ed, ep, v2, v3, e', er, hgr]
            · rw [if_neg (fun q => hf q.2), oI_none]
              simp (disch := omega) only [s_X12_after_39, b_X12_after_39, nS, ed, ep, v2, v3, e', er, hgr]
          | some q =>
            have := fk q hfi
            rw [if_neg (fun q => by cases q.1), oI_some]
            simp (disch := omega) only [s_X12_after_39, b_X12_after_39, nS, ed, ep, v2, v3, e', er, hgr]
        · show eN e - (nI (i + 1)).toNatClampNeg < eN e - (nI i).toNatClampNeg
          rw [nI_cl (by omega), nI_cl (by omega)]
          omega
      · have hst := ay_stop hai hs (n := eN e) (by omega)
        refine Or.inr ⟨(nI (ay (bMB b) e i).2.2.1, oI (ay (bMB b) e i).2.2.2, h'), ?_, h', by rw [hst]; exact ds', by rw [hst]⟩
        simp (disch := omega) only [s_X12_after_39, b_X12_after_39, nS, ed, ep, v2, v3, e']
  obtain ⟨r, er, h', ds, rfl⟩ := lp
  exact ⟨h1, h', e1, er, ds⟩
end AFD
section CALLS
variable {h : qH} {c nx : Nat} {σ : SG} {im : Nat → Option SG}
theorem q_aft (s : ST h c nx σ im) (x y z : Int32) : QW h c σ im (F_X11_after h c x y z) (fun h1 => F_X12_after h1 (c + 80) x y z) := by
  obtain ⟨ok, ⟨xc, td, sc, -⟩, rm, -⟩ := s
  rcases be_or ok x y with hxy | ⟨k, j, hk, hj, rfl, rfl⟩
  · refine QW.nol (v := m2) ok rm sc hxy ?_ (fun h1 h2 e1 ob1 e2 => ?_)
    · rcases t_be td ok hxy with ⟨q1, q, q2⟩ | ⟨q, q1, q2⟩
      · cases q with
        | none => simp (disch := omega) only [F_X11_after, xS xc, tS td, nS, q1, q2]
        | some q => simp (disch := omega) only [F_X11_after, xS xc, tS td, nS, q1, q2]
      · simp (disch := omega) only [F_X11_after, xS xc, tS td, nS, q1, q2]
    · simp (disch := omega) only [F_X12_after, nS, e1, ob1, e2]
  have hc0 := ok.2.1 0 (by omega)
  have hc1 := ok.2.1 1 (by omega)
  have cb := t_CB td ok hk
  have ce := t_CE td ok hj
  have hN := (ev_ok ce.1).2
  have hsc := sc
  obtain ⟨-, ⟨A8, B8, I8, J8, o8⟩, -, -, -, -⟩ := sc
  rcases nRg z 0 2 (by omega) with hz | ⟨q, rfl, -, hq⟩
  · refine QW.gol (v := m2) [] ok rm hk hj (hc := h) ?_ Fr.rf hsc (by decide) (fun h1 h2 A B I J e1 ob1 e2 o2 hb he => ⟨h2, A, B, I, J, ?_, o2, Fr.rf, On.rf⟩)
    · rcases hz with h0 | ⟨n, rfl, hn, h0⟩
      · simp (disch := omega) only [F_X11_after, xS xc, tS td, nS, t_bookIn td ok hk, t_evIn td ok hj, gN h0]
      · simp (disch := omega) only [F_X11_after, xS xc, tS td, nS, t_bookIn td ok hk, t_evIn td ok hj]
    · have := in_out h2 (by omega) (by omega) hz
      simp (disch := omega) only [F_X12_after, nS, e1, ob1, e2, this]
  have i1 : ∀ h1, F_X12_in h1 (nI q) (nI 0) (nI 2) = some (nI 1) := fun h1 => in_in h1 (by omega) (by omega) hq
  have hw := (ay_ok cb.1 ce.1 (eN (sE σ j)) (Nat.le_refl _)).1
  have go : ∀ (v : Int32) (hc : qH), F_X11_after h c (nI k) (nI j) (nI q) = some (v, hc) → OBx hc (c + 57) 8 stL → Fr h hc (c + 57) (c + 57 + 3) → (∀ h2 h3 A B I J, DS h2 h3 (c + 80) A B I J (bMB (sB σ k)) (ay (bMB (sB σ k)) (sE σ j) (eN (sE σ j))).2.1 → j_X12_after_113 h3 (c + 80) (nI q) (nI (ay (bMB (sB σ k)) (sE σ j) (eN (sE σ j))).2.2.1) (oI (ay (bMB (sB σ k)) (sE σ j) (eN (sE σ j))).2.2.2) = some (v, h3)) → QW h c σ im (F_X11_after h c (nI k) (nI j) (nI q)) (fun h1 => F_X12_after h1 (c + 80) (nI k) (nI j) (nI q)) := by
    intro v hc hf xb r7 hv
    refine QW.gol (v := v) [28] ok rm hk hj hf (r7.wd (by omega) (by omega)) (hsc.u8 r7 xb) (by decide) (fun h1 h2 A B I J e1 ob1 e2 o2 hb he => ?_)
    obtain ⟨h3, h4, e3, e4, ds⟩ := d_afterL o2 hb he (nI q)
    obtain ⟨A4, o4, r4, n4⟩ := ds.xb
    refine ⟨h4, A4, B, I, J, ?_, o4, r4, n4⟩
    rw [← hv h2 h4 A B I J ds]
    simp (disch := omega) only [F_X12_after, nS, e1, ob1, e2, i1, o2.ob, e3, e4]
  rcases (show q = 0 ∨ q = 1 ∨ q = 2 by omega) with rfl | rfl | rfl
  · obtain ⟨hc, e7, xb, r7⟩ := c_longest o8 cb (by omega) ce (by omega)
    refine go (nI (ay (bMB (sB σ k)) (sE σ j) (eN (sE σ j))).2.2.1) hc ?_ xb r7 (fun h2 h3 A B I J ds => ?_)
    · simp (disch := omega) only [F_X11_after, xS xc, tS td, nS, t_bookIn td ok hk, t_evIn td ok hj, o8.ob, e7]
    · simp (disch := omega) only [j_X12_after_113, nS]
  · obtain ⟨hc, e7, xb, r7⟩ := c_loudest o8 cb (by omega) ce (by omega)
    refine go (oI (lou (ay (bMB (sB σ k)) (sE σ j) (eN (sE σ j))).2.1.2 6).1) hc ?_ xb r7 (fun h2 h3 A B I J ds => ?_)
    · simp (disch := omega) only [F_X11_after, xS xc, tS td, nS, t_bookIn td ok hk, t_evIn td ok hj, o8.ob, e7]
    · obtain ⟨A3, o3, -, -⟩ := ds.xb
      simp (disch := omega) only [j_X12_after_113, nS, o3.ob, d_loudest ds hw (by omega)]
  · obtain ⟨hc, e7, xb, r7⟩ := c_fined o8 cb (by omega) ce (by omega)
    refine go (oI (ay (bMB (sB σ k)) (sE σ j) (eN (sE σ j))).2.2.2) hc ?_ xb r7 (fun h2 h3 A B I J ds => ?_)
    · simp (disch := omega) only [F_X11_after, xS xc, tS td, nS, t_bookIn td ok hk, t_evIn td ok hj, o8.ob, e7]
    · simp (disch := omega) only [j_X12_after_113, nS]
end CALLS
