/-! ===== fits: the class's answers ===== -/
section FTC
variable {h : qH} {a b ga : Nat} {m : MB} {g : Nat → Int32} {A : Nat → Nat → Int32} {B : Nat → Nat → Int64} {I : Nat → Int32} {J : Nat → Int64}
/-- the first line that is in all -/
def isSure (m : MB) (g : Nat → Int32) (v : Nat) (r : Int32) : Prop := (∃ l, l < mbL m ∧ thr m g v l = lN (fr m g (eN g - 1) 0) ∧ (∀ l', l' < l → ¬ thr m g v l' = lN (fr m g (eN g - 1) 0)) ∧ r = nI l) ∨ ((∀ l, l < mbL m → ¬ thr m g v l = lN (fr m g (eN g - 1) 0)) ∧ r = m1)
theorem isSure.eq {v : Nat} {r r' : Int32} (h : isSure m g v r) (h' : isSure m g v r') : r = r' := by
  rcases h with ⟨l, h1, h2, h3, rfl⟩ | ⟨h1, rfl⟩
  · rcases h' with ⟨l', q1, q2, q3, rfl⟩ | ⟨q1, -⟩
    · rcases Nat.lt_trichotomy l l' with hh | hh | hh
      · exact absurd h2 (q3 l hh)
      · rw [hh]
      · exact absurd q2 (h3 l' hh)
    · exact absurd h2 (q1 l h1)
  · rcases h' with ⟨l', q1, q2, q3, rfl⟩ | ⟨q1, rfl⟩
    · exact absurd q2 (h1 l' q1)
    · rfl
theorem c_sureAt (o : OB h a 2 fiL A B I J) (c : CB h b m) (hdd : b + 12 ≤ a ∨ a + 4 ≤ b) (cg : CG h ga g) (hg : ga + 2 ≤ a ∨ a + 4 ≤ ga) (ff : FF m g (B 0)) (h0 : 0 < mbL m) (hne : fr m g (eN g - 1) 0 ≠ 0) {v : Nat} (hv : v < eN g) : ∃ r h', F_X2_sureAt h a b ga (nI v) = some (r, h') ∧ isSure m g v r ∧ OBx h' a 2 fiL ∧ Fr h h' a (a + 4) := by
  have ok := c.1
  have hL := L_le ok
  have hN := (lv_ok cg.1).2
  obtain ⟨h1, B1, e1, o1, r1, y1, z1⟩ := c_upTo o c hdd cg hg ff (by omega) h0 hne
  have w : CW m g (B1 0) (B1 1) := ⟨by rw [y1]; exact ff, z1⟩
  have c1 : CB h1 b m := c.kept (fun q q1 q2 => r1 q (by omega))
  have at0 : F_X2_at h1 (a + 1) (nI 0) (nI 0) = some (lN (fr m g (eN g - 1) 0)) := by
    rw [c_at0 o1 (by omega) (by omega), w.1 0 0 (by omega) h0, Nat.sub_zero]
  have st : ∀ l, l < mbL m → s_X2_sureAt_9 h1 a b (nI v) (nI l) = if thr m g v l = lN (fr m g (eN g - 1) 0) then some (.inr (.inl (nI l))) else some (.inl (nI (l + 1))) := by
    intro l hl
    have ht := c_thr o1 hN hL w hv hl
    generalize thr m g v l = T at ht
    generalize lN (fr m g (eN g - 1) 0) = F at at0
    simp (disch := omega) only [s_X2_sureAt_9, b_X2_sureAt_9, nS, lS, cS c1, o1.ob, ht, X2_rd o1, at0]
  have hstop : s_X2_sureAt_9 h1 a b (nI v) (nI (mbL m)) = some (.inr (.inr ())) := by
    simp (disch := omega) only [s_X2_sureAt_9, b_X2_sureAt_9, nS, cS c1]
  rcases q_lp_find (ρ := Int32 ⊕ Unit) (step := s_X2_sureAt_9 h1 a b (nI v)) (mbL m) (by omega) (fun l => thr m g v l = lN (fr m g (eN g - 1) 0)) (yes := fun l => .inl (nI l)) (no := .inr ()) (fun i hi hp => by rw [st i hi, if_pos hp]) (fun i hi hp => by rw [st i hi, if_neg hp]) hstop (N := q_N) (q_lt_N (by omega)) with ⟨l, hl, hp, hno, he⟩ | ⟨hp, he⟩
  · refine ⟨nI l, h1, ?_, Or.inl ⟨l, hl, hp, hno, rfl⟩, ⟨A, B1, I, J, o1⟩, r1⟩
    simp (disch := omega) only [F_X2_sureAt, nS, o.ob, e1, he]
  · refine ⟨m1, h1, ?_, Or.inr ⟨hp, rfl⟩, ⟨A, B1, I, J, o1⟩, r1⟩
    simp (disch := omega) only [F_X2_sureAt, nS, o.ob, e1, he]
theorem c_gap (cg : CG h ga g) {v : Nat} (hv : v < eN g) : F_X3_isGap h ga (nI v) = some (nI (if vo g v = 6 then 1 else 0)) := by
  obtain ⟨e1, e2⟩ := vo_ok cg.1 hv
  have hN := (lv_ok cg.1).2
  by_cases h6 : vo g v = 6
  · rw [if_pos h6]
    simp (disch := omega) only [F_X3_isGap, nS, gS cg, e1]
  · rw [if_neg h6]
    simp (disch := omega) only [F_X3_isGap, nS, gS cg, e1]
theorem c_guess (o : OB h a 2 fiL A B I J) (c : CB h b m) (hdd : b + 12 ≤ a ∨ a + 4 ≤ b) (cg : CG h ga g) (hg : ga + 2 ≤ a ∨ a + 4 ≤ ga) (ff : FF m g (B 0)) (hz0 : eN g = 0 → B 0 0 = lN 0) (hne : eN g = 0 ∨ (0 < mbL m ∧ fr m g (eN g - 1) 0 ≠ 0)) : ∃ h', F_X2_bestGuess h a b ga = some (oI (gu m g (eN g)).1, h') ∧ OBx h' a 2 fiL ∧ Fr h h' a (a + 4) := by
  have ok := c.1
  have hL := L_le ok
  have hN := (lv_ok cg.1).2
  have up : ∃ h' B', F_X2_countUpTo h a b ga = some h' ∧ OB h' a 2 fiL A B' I J ∧ Fr h h' a (a + 4) ∧ (0 < eN g → CW m g (B' 0) (B' 1)) := by
    rcases Nat.eq_zero_or_pos (eN g) with h0 | h0
    · obtain ⟨h1, e1, B1, o1, r1, y1⟩ := q_lp1 (step := s_X2_countUpTo_2 a b ga) (fun i h' => ∃ B', OB h' a 2 fiL A B' I J ∧ Fr h h' a (a + 4) ∧ B' 0 = B 0) 240 0 (by omega)
        (fun i h1 hi ⟨B1, o1, r1, y1⟩ => by
          obtain ⟨h2, e2, o2, r2⟩ := X2_s1 o1 (i := i) (lN 0) hi
          refine ⟨h2, ?_, _, o2, r1.tr r2, by rw [upF_ne _ _ (show (0 : Nat) ≠ 1 by decide)]; exact y1⟩
          simp (disch := omega) only [s_X2_countUpTo_2, b_X2_countUpTo_2, nS, lS, Nat.add_zero, X2_rd o1, e2])
        (fun h1 _ => by simp (disch := omega) only [s_X2_countUpTo_2, b_X2_countUpTo_2, nS, Nat.add_zero])
        (h := h) ⟨B, o, Fr.rf, rfl⟩
      obtain ⟨h2, e2, o2, r2⟩ := X2_s1 o1 (i := 0) (lN 0) (by omega)
      have at0 : F_X2_at h1 (a + 1) (nI 0) (nI 0) = some (lN 0) := by
        rw [c_at0 o1 (by omega) (by omega), y1]
        exact congrArg some (hz0 h0)
      have cg2 := cg.kept (h' := h2) (fun q q1 q2 => (r1.tr r2) q (by omega))
      have lp : q_lp (s_X2_countUpTo_49 a b ga) q_N (nI 0, h2) = some h2 := by
        refine q_lp_stop (n := 999999) ?_
        have eg := gS cg2
        rw [h0] at eg
        simp (disch := omega) only [s_X2_countUpTo_49, b_X2_countUpTo_49, nS, eg]
      refine ⟨h2, _, ?_, o2, r1.tr r2, fun q => by omega⟩
      simp (disch := omega) only [F_X2_countUpTo, nS, lS, e1, X2_rd o1, at0]
      simp (disch := omega) only [j_X2_countUpTo_46, nS, e2, lp]
    · have hne := hne.resolve_left (by omega)
      obtain ⟨h1, B1, e1, o1, r1, y1, z1⟩ := c_upTo o c hdd cg hg ff h0 hne.1 hne.2
      exact ⟨h1, B1, e1, o1, r1, fun _ => ⟨by rw [y1]; exact ff, z1⟩⟩
  obtain ⟨h1, B1, e1, o1, r1, w⟩ := up
  have c1 : CB h1 b m := c.kept (fun q q1 q2 => r1 q (by omega))
  have cg1 : CG h1 ga g := cg.kept (fun q q1 q2 => r1 q (by omega))
  have lp : q_lp (s_X2_bestGuess_14 h1 a b ga) q_N (m1, lN 0, nI 0) = some (oI (gu m g (eN g)).1) := by
    refine q_lp_for (fun v => (oI (gu m g v).1, (gu m g v).2, nI v)) (eN g) (fun v hv => ?_) ?_ q_N (q_lt_N (by omega))
    · have hgp := c_gap cg1 hv
      have hmo := c_most o1 c1 hN (w (by omega)) hv
      have hlt := gu_lt m g v
      show _ = some (Sum.inl (oI (if vo g v = 6 then (match (gu m g v).1 with | none => (some v, mo1 m g v 6) | some x => if (gu m g v).2 ≤ mo1 m g v 6 then gu m g v else (some v, mo1 m g v 6)) else gu m g v).1, (if vo g v = 6 then (match (gu m g v).1 with | none => (some v, mo1 m g v 6) | some x => if (gu m g v).2 ≤ mo1 m g v 6 then gu m g v else (some v, mo1 m g v 6)) else gu m g v).2, nI (v + 1)))
      generalize mo1 m g v 6 = M at hmo
      generalize gu m g v = G at hlt
      obtain ⟨q, x⟩ := G
      dsimp only at hlt ⊢
      by_cases h6 : vo g v = 6
      · rw [if_pos h6] at hgp
        rw [if_pos h6]
        cases q with
        | none =>
          dsimp only
          rw [oI_none, oI_some]
          simp (disch := omega) only [s_X2_bestGuess_14, b_X2_bestGuess_14, nS, gS cg1, hgp, o1.ob, hmo]
        | some q =>
          have := hlt q rfl
          dsimp only
          rw [oI_some]
          by_cases hc : x ≤ M
          · rw [if_pos hc]
            dsimp only
            rw [oI_some]
            simp (disch := omega) only [s_X2_bestGuess_14, b_X2_bestGuess_14, nS, lS, gS cg1, hgp, o1.ob, hmo, if_pos hc]
          · rw [if_neg hc]
            dsimp only
            rw [oI_some]
            simp (disch := omega) only [s_X2_bestGuess_14, b_X2_bestGuess_14, nS, lS, gS cg1, hgp, o1.ob, hmo, if_neg hc]
      · rw [if_neg h6] at hgp
        rw [if_neg h6]
        simp (disch := omega) only [s_X2_bestGuess_14, b_X2_bestGuess_14, nS, gS cg1, hgp]
    · simp (disch := omega) only [s_X2_bestGuess_14, b_X2_bestGuess_14, nS, gS cg1]
  refine ⟨h1, ?_, ⟨A, B1, I, J, o1⟩, r1⟩
  simp (disch := omega) only [F_X2_bestGuess, nS, lS, o.ob, e1, lp]
theorem c_firstWay (o : OB h a 2 fiL A B I J) (c : CB h b m) (hN : eN g ≤ 12) (ff : FF m g (B 0)) (h0 : 0 < mbL m) {k : Nat} (hk : k < eN g) : F_X2_firstWayAt h a b (nI k) = some (oI (fa m g k)) := by
  have ok := c.1
  have hL := L_le ok
  have inner : ∀ i, i + 1 < eN g → ∀ q, (∀ x, q = some x → x < mbL m) → q_lp (s_X2_firstWayAt_17 h a b (nI k) (oI q) (nI (i + 1))) q_N (m1, nI 0) = some (oI (match q with | none => none | some l => lst (fun k => decide (0 < fr m g (eN g - 1 - (i + 1)) (gg m l k))) (gg m l) (fn m l))) := by
    intro i hi q hq
    cases q with
    | none =>
      rw [oI_none]
      refine q_lp_stop (n := 999999) ?_
      simp (disch := omega) only [s_X2_firstWayAt_17, b_X2_firstWayAt_17, nS, cS c]
    | some l =>
      have hl := hq l rfl
      have hf := fn_le ok hl
      rw [oI_some]
      dsimp only
      refine q_lp_for (fun j => (oI (lst (fun k => decide (0 < fr m g (eN g - 1 - (i + 1)) (gg m l k))) (gg m l) j), nI j)) (fn m l) (fun j hj => ?_) ?_ q_N (q_lt_N (by omega))
      · have hgl := gg_lt ok hl hj
        have ea := c_at0 o (v := i + 1) (l := gg m l j) (by omega) (by omega)
        rw [ff (i + 1) (gg m l j) hi hgl] at ea
        have e63 := fr_63 ok (g := g) hgl (show eN g - 1 - (i + 1) < 12 by omega)
        have hlt := lst_lt (C := fun k => decide (0 < fr m g (eN g - 1 - (i + 1)) (gg m l k))) (v := gg m l) (L := mbL m) j (fun j' hj' => gg_lt ok hl (by omega))
        rw [← lst_go (C := fun k => decide (0 < fr m g (eN g - 1 - (i + 1)) (gg m l k))) (v := gg m l) (k := j) (p := 0 < fr m g (eN g - 1 - (i + 1)) (gg m l j)) (by simp) (by omega) (fun x hx => by have := hlt x hx; omega) (fun y => some (Sum.inl (y, nI (j + 1))))]
        generalize lst (fun k => decide (0 < fr m g (eN g - 1 - (i + 1)) (gg m l k))) (gg m l) j = Q
        by_cases hc : 0 < fr m g (eN g - 1 - (i + 1)) (gg m l j)
        · rw [if_pos hc]
          simp (disch := omega) only [s_X2_firstWayAt_17, b_X2_firstWayAt_17, nS, lS, cS c, X2_rd o, ea]
        · rw [if_neg hc]
          simp (disch := omega) only [s_X2_firstWayAt_17, b_X2_firstWayAt_17, nS, lS, cS c, X2_rd o, ea]
      · simp (disch := omega) only [s_X2_firstWayAt_17, b_X2_firstWayAt_17, nS, cS c]
  have lp : q_lp (s_X2_firstWayAt_5 h a b (nI k)) q_N (nI 0, nI 1) = some (oI (fa m g k)) := by
    refine q_lp_for (fun i => (oI (fa m g i), nI (i + 1))) k (fun i hi => ?_) ?_ q_N (q_lt_N (by omega))
    · have := inner i (by omega) (fa m g i) (fa_lt ok h0 i)
      show _ = some (Sum.inl (oI (match fa m g i with | none => none | some l => lst (fun k => decide (0 < fr m g (eN g - 1 - (i + 1)) (gg m l k))) (gg m l) (fn m l)), nI (i + 1 + 1)))
      simp (disch := omega) only [s_X2_firstWayAt_5, b_X2_firstWayAt_5, nS, this]
    · simp (disch := omega) only [s_X2_firstWayAt_5, b_X2_firstWayAt_5, nS]
  simp (disch := omega) only [F_X2_firstWayAt, nS, lp]
end FTC
/-! the answers -/
/-- what is asked of it -/
def ansF (m : MB) (g : Nat → Int32) (x : Int32) (r : Int64) : Prop :=
  (x = nI 0 → r = lN (aw m g)) ∧ (x = nI 1 → r = if aw m g = 0 then lM1 else if eN g = 0 then lN 0 else (nI (fs m g (eN g - 1) 0)).toInt64) ∧ (x = nI 2 → r = if aw m g = 0 then lM1 else (oI (gu m g (eN g)).1).toInt64)
  ∧ (∀ k, k < eN g → x = nI (10 + k) → r = if aw m g = 0 then lM1 else (oI (fa m g k)).toInt64) ∧ (∀ k, k < eN g → x = nI (30 + k) → if aw m g = 0 then r = lM1 else ∃ y, isSure m g k y ∧ r = y.toInt64)
  ∧ ((¬ x = nI 0 ∧ ¬ x = nI 1 ∧ ¬ x = nI 2 ∧ (∀ k, k < eN g → ¬ x = nI (10 + k)) ∧ ∀ k, k < eN g → ¬ x = nI (30 + k)) → r = lM2)
theorem ansF.eq {m : MB} {g : Nat → Int32} {x : Int32} {r r' : Int64} (h : ansF m g x r) (h' : ansF m g x r') : r = r' := by
  obtain ⟨a0, a1, a2, a3, a4, a5⟩ := h
  obtain ⟨b0, b1, b2, b3, b4, b5⟩ := h'
  by_cases h0 : x = nI 0
  · rw [a0 h0, b0 h0]
  by_cases h1 : x = nI 1
  · rw [a1 h1, b1 h1]
  by_cases h2 : x = nI 2
  · rw [a2 h2, b2 h2]
  by_cases h3 : ∃ k, k < eN g ∧ x = nI (10 + k)
  · obtain ⟨k, hk, hx⟩ := h3
    rw [a3 k hk hx, b3 k hk hx]
  by_cases h4 : ∃ k, k < eN g ∧ x = nI (30 + k)
  · obtain ⟨k, hk, hx⟩ := h4
    have p := a4 k hk hx
    have q := b4 k hk hx
    by_cases hz : aw m g = 0
    · rw [if_pos hz] at p q
      rw [p, q]
    · rw [if_neg hz] at p q
      obtain ⟨y, y1, y2⟩ := p
      obtain ⟨z, z1, z2⟩ := q
      rw [y2, z2, y1.eq z1]
  · have hn : ¬ x = nI 0 ∧ ¬ x = nI 1 ∧ ¬ x = nI 2 ∧ (∀ k, k < eN g → ¬ x = nI (10 + k)) ∧ ∀ k, k < eN g → ¬ x = nI (30 + k) := ⟨h0, h1, h2, fun k hk hx => h3 ⟨k, hk, hx⟩, fun k hk hx => h4 ⟨k, hk, hx⟩⟩
    rw [a5 hn, b5 hn]
/-- an answer for one question -/
theorem ansF.one {m : MB} {g : Nat → Int32} (hN : eN g ≤ 12) {q : Nat} (hq : q < 2 ^ 31) {r : Int64} (h : (q = 0 → r = lN (aw m g)) ∧ (q = 1 → r = if aw m g = 0 then lM1 else if eN g = 0 then lN 0 else (nI (fs m g (eN g - 1) 0)).toInt64) ∧ (q = 2 → r = if aw m g = 0 then lM1 else (oI (gu m g (eN g)).1).toInt64)
  ∧ (∀ k, k < eN g → q = 10 + k → r = if aw m g = 0 then lM1 else (oI (fa m g k)).toInt64) ∧ (∀ k, k < eN g → q = 30 + k → if aw m g = 0 then r = lM1 else ∃ y, isSure m g k y ∧ r = y.toInt64)
  ∧ ((¬ q = 0 ∧ ¬ q = 1 ∧ ¬ q = 2 ∧ (∀ k, k < eN g → ¬ q = 10 + k) ∧ ∀ k, k < eN g → ¬ q = 30 + k) → r = lM2)) : ansF m g (nI q) r := by
  obtain ⟨a0, a1, a2, a3, a4, a5⟩ := h
  have e : ∀ k, k < 100 → (nI q = nI k ↔ q = k) := fun k hk => nI_eq hq (by omega)
  refine ⟨fun hx => a0 ((e 0 (by omega)).mp hx), fun hx => a1 ((e 1 (by omega)).mp hx), fun hx => a2 ((e 2 (by omega)).mp hx), fun k hk hx => a3 k hk ((e _ (by omega)).mp hx), fun k hk hx => a4 k hk ((e _ (by omega)).mp hx), fun hn => a5 ⟨fun q => hn.1 ((e 0 (by omega)).mpr q), fun q => hn.2.1 ((e 1 (by omega)).mpr q), fun q => hn.2.2.1 ((e 2 (by omega)).mpr q), fun k hk q => hn.2.2.2.1 k hk ((e _ (by omega)).mpr q), fun k hk q => hn.2.2.2.2 k hk ((e _ (by omega)).mpr q)⟩⟩
theorem ansF.neg {m : MB} {g : Nat → Int32} (hN : eN g ≤ 12) {x : Int32} (hx : x < nI 0) : ansF m g x lM2 := by
  have e : ∀ k, k < 2 ^ 31 → ¬ x = nI k := fun k hk q => by
    have := gN hx
    exact (this.2.2.2.2.1 k hk).mp q
  exact ⟨fun q => absurd q (e 0 (by omega)), fun q => absurd q (e 1 (by omega)), fun q => absurd q (e 2 (by omega)), fun k hk q => absurd q (e _ (by omega)), fun k hk q => absurd q (e _ (by omega)), fun _ => rfl⟩
