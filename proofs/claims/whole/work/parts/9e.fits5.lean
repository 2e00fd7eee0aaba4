/-! ===== call: fits ===== -/
section FTD
variable {h : qH} {a : Nat} {g : Nat → Int32} {j : Nat} {A : Nat → Nat → Int32} {B : Nat → Nat → Int64} {I : Nat → Int32} {J : Nat → Int64} {b : Nat → Int32} {k : Nat}
/-- the reference's tables -/
def RW2 (m : MB) (g : Nat → Int32) (A : Nat → Nat → Int32) (B : Nat → Nat → Int64) (J : Nat → Int64) : Prop := (∀ v l, v < eN g → l < mbL m → B 41 (20 * v + l) = lN (fr m g (eN g - 1 - v) l) ∧ A 42 (20 * v + l) = nI (fs m g (eN g - 1 - v) l) ∧ B 40 (20 * v + l) = lN (uu m g v l)) ∧ J 43 = lN (aw m g)
theorem aw_63 {m : MB} (ok : MBok m) {g : Nat → Int32} (hN : eN g ≤ 12) : aw m g < 2 ^ 63 := by
  unfold aw
  split
  · omega
  · split
    · omega
    · exact fr_63 ok (by omega) (by omega)
theorem d_findWays (o : OB h a 12 mdL A B I J) (hb : HB A I b k) (hg : HG A I g j) : ∃ h' A' B' J', F_X12_findWays h a = some h' ∧ OB h' a 12 mdL A' B' I J' ∧ Fr h h' a (a + 27) ∧ On [42] A A' ∧ RW2 (bMB b) g A' B' J' := by
  have ok := bMB_ok hb.1
  have hL := L_le ok
  have hN := (lv_ok hg.1).2
  obtain ⟨h1, A1, B1, e1, o1, r1, n1, rt⟩ := d_from o hb hg
  have hb1 := hb.n42 n1
  have hg1 := hg.n42 n1
  obtain ⟨h2, B2, e2, o2, r2, y2, z2⟩ := d_upTo o1 hb1 hg1
  have gv := (g_pack o2 hg1).1
  obtain ⟨h3, e3, o3, r3⟩ := X12_p43 o2 (lN (aw (bMB b) g))
  have tab : ∀ v l, v < eN g → l < mbL (bMB b) → B2 41 (20 * v + l) = lN (fr (bMB b) g (eN g - 1 - v) l) ∧ A1 42 (20 * v + l) = nI (fs (bMB b) g (eN g - 1 - v) l) := by
    intro v l hv hl
    have := rt (eN g - 1 - v) l (by omega) hl (Or.inl (by omega))
    rw [show eN g - 1 - (eN g - 1 - v) = v by omega] at this
    rw [y2]
    exact this
  refine ⟨h3, A1, B2, _, ?_, o3, (r1.tr r2).tr r3, n1, fun v l hv hl => ⟨(tab v l hv hl).1, (tab v l hv hl).2, z2 v l hv hl⟩, pk_uLs⟩
  unfold aw at e3
  by_cases h0 : eN g = 0
  · rw [if_pos h0] at e3
    rw [h0] at gv
    simp (disch := omega) only [F_X12_findWays, nS, lS, o.ob, e1, o1.ob, e2, o2.ob, gv, e3]
  · rw [if_neg h0] at e3
    by_cases hl0 : mbL (bMB b) = 0
    · rw [if_pos hl0] at e3
      have e24 := (d_pack o2 hb1).1
      rw [hl0] at e24
      simp (disch := omega) only [F_X12_findWays, nS, lS, o.ob, e1, o1.ob, e2, o2.ob, gv, e24, e3]
    · rw [if_neg hl0] at e3
      have e41 := (tab 0 0 (by omega) (by omega)).1
      rw [Nat.mul_zero, Nat.zero_add, Nat.sub_zero] at e41
      simp (disch := omega) only [F_X12_findWays, nS, lS, o.ob, e1, o1.ob, e2, o2.ob, gv, d_pack o2 hb1, X12_rd o2, e41, e3]
theorem d_thr (o : OB h a 12 mdL A B I J) (hN : eN g ≤ 12) {m : MB} (hL : mbL m ≤ 20) (w : RW2 m g A B J) {v l : Nat} (hv : v < eN g) (hl : l < mbL m) : F_X12_through h a (nI v) (nI l) = some (thr m g v l) := by
  obtain ⟨e1, -, e3⟩ := w.1 v l hv hl
  unfold thr
  simp (disch := omega) only [F_X12_through, nS, lS, X12_rd o, e1, e3]
theorem d_sureOf (o : OB h a 12 mdL A B I J) (hb : HB A I b k) (hN : eN g ≤ 12) (w : RW2 (bMB b) g A B J) {v : Nat} (hv : v < eN g) : ∃ r, F_X12_sureOf h a (nI v) = some r ∧ (if aw (bMB b) g = 0 then r = m1 else isSure (bMB b) g v r) := by
  have ok := bMB_ok hb.1
  have hL := L_le ok
  have e63 := aw_63 ok hN
  have e43 := w.2
  have f43 : q_fL h a 12 43 = some (lN (aw (bMB b) g)) := by rw [o.fL (k := 43) rfl, e43]
  by_cases hz : aw (bMB b) g = 0
  · simp only [if_pos hz]
    refine ⟨m1, ?_, rfl⟩
    rw [hz] at f43
    have lp : q_lp (s_X12_sureOf_2 h a (nI v)) q_N (nI 0) = some (.inr ()) := by
      refine q_lp_stop (n := 999999) ?_
      rcases Nat.eq_zero_or_pos (mbL (bMB b)) with hl0 | hl0
      · simp (disch := omega) only [s_X12_sureOf_2, b_X12_sureOf_2, nS, d_pack o hb]
      · simp (disch := omega) only [s_X12_sureOf_2, b_X12_sureOf_2, nS, lS, d_pack o hb, f43]
    simp (disch := omega) only [F_X12_sureOf, nS, lp]
  · simp only [if_neg hz]
    have hlL : mbL (bMB b) ≠ 0 := by
      intro hl0
      apply hz
      unfold aw
      rw [if_neg (by omega), if_pos hl0]
    have haw : aw (bMB b) g = fr (bMB b) g (eN g - 1) 0 := by
      unfold aw
      rw [if_neg (by omega), if_neg hlL]
    have st : ∀ l, l < mbL (bMB b) → s_X12_sureOf_2 h a (nI v) (nI l) = if thr (bMB b) g v l = lN (fr (bMB b) g (eN g - 1) 0) then some (.inr (.inl (nI l))) else some (.inl (nI (l + 1))) := by
      intro l hl
      have ht := d_thr o hN hL w hv hl
      rw [← haw]
      generalize thr (bMB b) g v l = T at ht
      by_cases hT : T = lN (aw (bMB b) g)
      · rw [if_pos hT]
        subst hT
        simp (disch := omega) only [s_X12_sureOf_2, b_X12_sureOf_2, nS, lS, d_pack o hb, f43, o.ob, ht]
      · rw [if_neg hT]
        simp (disch := omega) only [s_X12_sureOf_2, b_X12_sureOf_2, nS, lS, d_pack o hb, f43, o.ob, ht, if_neg hT]
    have hstop : s_X12_sureOf_2 h a (nI v) (nI (mbL (bMB b))) = some (.inr (.inr ())) := by
      simp (disch := omega) only [s_X12_sureOf_2, b_X12_sureOf_2, nS, d_pack o hb]
    rcases q_lp_find (ρ := Int32 ⊕ Unit) (step := s_X12_sureOf_2 h a (nI v)) (mbL (bMB b)) (by omega) (fun l => thr (bMB b) g v l = lN (fr (bMB b) g (eN g - 1) 0)) (yes := fun l => .inl (nI l)) (no := .inr ()) (fun i hi hp => by rw [st i hi, if_pos hp]) (fun i hi hp => by rw [st i hi, if_neg hp]) hstop (N := q_N) (q_lt_N (by omega)) with ⟨l, hl, hp, hno, he⟩ | ⟨hp, he⟩
    · exact ⟨nI l, by simp (disch := omega) only [F_X12_sureOf, nS, he], Or.inl ⟨l, hl, hp, hno, rfl⟩⟩
    · exact ⟨m1, by simp (disch := omega) only [F_X12_sureOf, nS, he], Or.inr ⟨hp, rfl⟩⟩
theorem d_firstAt (o : OB h a 12 mdL A B I J) (hb : HB A I b k) (hN : eN g ≤ 12) (w : RW2 (bMB b) g A B J) {kk : Nat} (hk : kk < eN g) : F_X12_firstAt h a (nI kk) = some (if aw (bMB b) g = 0 then m1 else oI (fa (bMB b) g kk)) := by
  have ok := bMB_ok hb.1
  have hL := L_le ok
  have e63 := aw_63 ok hN
  have f43 : q_fL h a 12 43 = some (lN (aw (bMB b) g)) := by rw [o.fL (k := 43) rfl, w.2]
  by_cases hz : aw (bMB b) g = 0
  · rw [if_pos hz]
    rw [hz] at f43
    have lp : q_lp (s_X12_firstAt_17 h a (nI kk)) q_N (m1, nI 1) = some m1 := by
      refine q_lp_stop (n := 999999) ?_
      rcases Nat.lt_or_ge kk 1 with h1 | h1
      · simp (disch := omega) only [s_X12_firstAt_17, b_X12_firstAt_17, nS]
      · simp (disch := omega) only [s_X12_firstAt_17, b_X12_firstAt_17, nS]
    simp (disch := omega) only [F_X12_firstAt, j_X12_firstAt_14, nS, lS, f43, lp]
  · rw [if_neg hz]
    have hlL : 0 < mbL (bMB b) := by
      rcases Nat.eq_zero_or_pos (mbL (bMB b)) with hl0 | hl0
      · exfalso
        apply hz
        unfold aw
        rw [if_neg (by omega), if_pos hl0]
      · exact hl0
    have key : ∀ d i N, kk - i = d → i ≤ kk → kk - i < N → q_lp (s_X12_firstAt_17 h a (nI kk)) N (oI (fa (bMB b) g i), nI (i + 1)) = some (oI (fa (bMB b) g kk)) := by
      intro d
      induction d with
      | zero =>
        intro i N hd hi hN
        obtain ⟨N', rfl⟩ : ∃ N', N = N' + 1 := ⟨N - 1, by omega⟩
        have : i = kk := by omega
        subst this
        refine q_lp_stop ?_
        simp (disch := omega) only [s_X12_firstAt_17, b_X12_firstAt_17, nS]
      | succ d ih =>
        intro i N hd hi hN'
        obtain ⟨N', rfl⟩ : ∃ N', N = N' + 1 := ⟨N - 1, by omega⟩
        cases hp : fa (bMB b) g i with
        | none =>
          refine q_lp_stop ?_
          rw [fa_none i kk hp hi, oI_none]
          simp (disch := omega) only [s_X12_firstAt_17, b_X12_firstAt_17, nS]
        | some l =>
          have hl := fa_lt ok hlL i l hp
          have hf := fn_le ok hl
          have efm := (d_pack o hb).2.2.2.2.2.2.2.2.2.2.2 l (by omega)
          have hp2 : fa (bMB b) g (i + 1) = lst (fun k => decide (0 < fr (bMB b) g (eN g - 1 - (i + 1)) (gg (bMB b) l k))) (gg (bMB b) l) (fn (bMB b) l) := by simp only [fa, hp]
          have inner : q_lp (s_X12_firstAt_33 h a (nI kk) (nI l) (nI (i + 1))) q_N (m1, nI 0) = some (oI (fa (bMB b) g (i + 1))) := by
            rw [hp2]
            refine q_lp_for (fun j => (oI (lst (fun k => decide (0 < fr (bMB b) g (eN g - 1 - (i + 1)) (gg (bMB b) l k))) (gg (bMB b) l) j), nI j)) (fn (bMB b) l) (fun j hj => ?_) ?_ q_N (q_lt_N (by omega))
            · have hgl := gg_lt ok hl hj
              have ea := (w.1 (i + 1) (gg (bMB b) l j) (by omega) hgl).1
              have hbe := (d_pack o hb).2.2.2.1 l j (by omega) hj
              have e63' := fr_63 ok (g := g) hgl (show eN g - 1 - (i + 1) < 12 by omega)
              have hlt := lst_lt (C := fun k => decide (0 < fr (bMB b) g (eN g - 1 - (i + 1)) (gg (bMB b) l k))) (v := gg (bMB b) l) (L := mbL (bMB b)) j (fun j' hj' => gg_lt ok hl (by omega))
              rw [← lst_go (C := fun k => decide (0 < fr (bMB b) g (eN g - 1 - (i + 1)) (gg (bMB b) l k))) (v := gg (bMB b) l) (k := j) (p := 0 < fr (bMB b) g (eN g - 1 - (i + 1)) (gg (bMB b) l j)) (by simp) (by omega) (fun x hx => by have := hlt x hx; omega) (fun y => some (Sum.inl (y, nI (j + 1))))]
              generalize lst (fun k => decide (0 < fr (bMB b) g (eN g - 1 - (i + 1)) (gg (bMB b) l k))) (gg (bMB b) l) j = Q
              by_cases hc : 0 < fr (bMB b) g (eN g - 1 - (i + 1)) (gg (bMB b) l j)
              · rw [if_pos hc]
                simp (disch := omega) only [s_X12_firstAt_33, b_X12_firstAt_33, nS, lS, X12_rd o, efm, hbe, ea]
              · rw [if_neg hc]
                simp (disch := omega) only [s_X12_firstAt_33, b_X12_firstAt_33, nS, lS, X12_rd o, efm, hbe, ea]
            · simp (disch := omega) only [s_X12_firstAt_33, b_X12_firstAt_33, nS, X12_rd o, efm]
          rw [q_lp_go (s' := (oI (fa (bMB b) g (i + 1)), nI (i + 1 + 1)))]
          · exact ih (i + 1) N' (by omega) (by omega) (by omega)
          · rw [oI_some]
            simp (disch := omega) only [s_X12_firstAt_17, b_X12_firstAt_17, nS, inner]
    have lp := key kk 0 q_N (by omega) (by omega) (q_lt_N (by omega))
    have lp : q_lp (s_X12_firstAt_17 h a (nI kk)) q_N (nI 0, nI 1) = some (oI (fa (bMB b) g kk)) := lp
    simp (disch := omega) only [F_X12_firstAt, j_X12_firstAt_14, nS, lS, f43, lp]
theorem d_guess (o : OB h a 12 mdL A B I J) (hb : HB A I b k) (hg : HG A I g j) (w : RW2 (bMB b) g A B J) : F_X12_guess h a = some (if aw (bMB b) g = 0 then m1 else oI (gu (bMB b) g (eN g)).1) := by
  have ok := bMB_ok hb.1
  have hL := L_le ok
  have hN := (lv_ok hg.1).2
  have e63 := aw_63 ok hN
  have f43 : q_fL h a 12 43 = some (lN (aw (bMB b) g)) := by rw [o.fL (k := 43) rfl, w.2]
  have gv := (g_pack o hg).1
  by_cases hz : aw (bMB b) g = 0
  · rw [if_pos hz]
    rw [hz] at f43
    have lp : q_lp (s_X12_guess_7 h a) q_N (m1, lN 0, nI 0) = some m1 := by
      refine q_lp_stop (n := 999999) ?_
      rcases Nat.eq_zero_or_pos (eN g) with h0 | h0
      · simp (disch := omega) only [s_X12_guess_7, b_X12_guess_7, nS, o.ob, gv]
      · simp (disch := omega) only [s_X12_guess_7, b_X12_guess_7, nS, lS, o.ob, gv, f43]
    simp (disch := omega) only [F_X12_guess, nS, lS, lp]
  · rw [if_neg hz]
    have lp : q_lp (s_X12_guess_7 h a) q_N (m1, lN 0, nI 0) = some (oI (gu (bMB b) g (eN g)).1) := by
      refine q_lp_for (fun v => (oI (gu (bMB b) g v).1, (gu (bMB b) g v).2, nI v)) (eN g) (fun v hv => ?_) ?_ q_N (q_lt_N (by omega))
      · obtain ⟨e1, e2⟩ := vo_ok hg.1 hv
        have hvo := (g_pack o hg).2 v hv
        rw [e1] at hvo
        have hlt := gu_lt (bMB b) g v
        have hmo : ∀ x1 x2, q_lp (s_X12_guess_31 h a x1 x2 (nI v)) q_N (lN 0, nI 0) = some (mo1 (bMB b) g v 6) := by
          intro x1 x2
          refine q_lp_for (fun p => (mo1 (bMB b) g v p, nI p)) 6 (fun p hp => ?_) ?_ q_N (q_lt_N (by omega))
          · have lp2 : ∀ x3, q_lp (s_X12_guess_44 h a x1 x2 (nI v) x3 (nI p)) q_N (lN 0, nI 0) = some (su1 (bMB b) g v p (mbL (bMB b))) := by
              intro x3
              refine q_lp_for (fun l => (su1 (bMB b) g v p l, nI l)) (mbL (bMB b)) (fun l hl => ?_) ?_ q_N (q_lt_N (by omega))
              · have hw := (wh_ok ok hl).2
                have hwo := d_whl o hb hl
                show _ = some (Sum.inl (su1 (bMB b) g v p l + (if wh (bMB b) l = p then thr (bMB b) g v l else lN 0), nI (l + 1)))
                by_cases hwp : wh (bMB b) l = p
                · rw [if_pos hwp]
                  simp (disch := omega) only [s_X12_guess_44, b_X12_guess_44, nS, lS, d_pack o hb, o.ob, hwo, d_thr o hN hL w hv hl]
                · rw [if_neg hwp]
                  simp (disch := omega) only [s_X12_guess_44, b_X12_guess_44, nS, lS, d_pack o hb, o.ob, hwo]
              · simp (disch := omega) only [s_X12_guess_44, b_X12_guess_44, nS, d_pack o hb]
            show _ = some (Sum.inl ((if mo1 (bMB b) g v p < su1 (bMB b) g v p (mbL (bMB b)) then su1 (bMB b) g v p (mbL (bMB b)) else mo1 (bMB b) g v p), nI (p + 1)))
            generalize su1 (bMB b) g v p (mbL (bMB b)) = S at lp2
            generalize mo1 (bMB b) g v p = M
            by_cases hc : M < S
            · have hc2 : ¬ S ≤ M := Int64.not_le.mpr hc
              rw [if_pos hc]
              simp (disch := omega) only [s_X12_guess_31, b_X12_guess_31, nS, lS, lp2, if_neg hc2]
            · have hc2 : S ≤ M := Int64.not_lt.mp hc
              rw [if_neg hc]
              simp (disch := omega) only [s_X12_guess_31, b_X12_guess_31, nS, lS, lp2, if_pos hc2]
          · simp (disch := omega) only [s_X12_guess_31, b_X12_guess_31, nS]
        show _ = some (Sum.inl (oI (if vo g v = 6 then (match (gu (bMB b) g v).1 with | none => (some v, mo1 (bMB b) g v 6) | some x => if (gu (bMB b) g v).2 ≤ mo1 (bMB b) g v 6 then gu (bMB b) g v else (some v, mo1 (bMB b) g v 6)) else gu (bMB b) g v).1, (if vo g v = 6 then (match (gu (bMB b) g v).1 with | none => (some v, mo1 (bMB b) g v 6) | some x => if (gu (bMB b) g v).2 ≤ mo1 (bMB b) g v 6 then gu (bMB b) g v else (some v, mo1 (bMB b) g v 6)) else gu (bMB b) g v).2, nI (v + 1)))
        generalize mo1 (bMB b) g v 6 = M at hmo
        generalize gu (bMB b) g v = G at hlt
        obtain ⟨q, x⟩ := G
        dsimp only at hlt ⊢
        by_cases h6 : vo g v = 6
        · rw [if_pos h6]
          cases q with
          | none =>
            dsimp only
            rw [oI_none, oI_some]
            simp (disch := omega) only [s_X12_guess_7, b_X12_guess_7, nS, lS, o.ob, gv, f43, hmo, hvo]
          | some q =>
            have := hlt q rfl
            dsimp only
            rw [oI_some]
            by_cases hc : x ≤ M
            · rw [if_pos hc]
              dsimp only
              rw [oI_some]
              simp (disch := omega) only [s_X12_guess_7, b_X12_guess_7, nS, lS, o.ob, gv, f43, hmo, hvo, if_pos hc]
            · rw [if_neg hc]
              dsimp only
              rw [oI_some]
              simp (disch := omega) only [s_X12_guess_7, b_X12_guess_7, nS, lS, o.ob, gv, f43, hmo, hvo, if_neg hc]
        · rw [if_neg h6]
          simp (disch := omega) only [s_X12_guess_7, b_X12_guess_7, nS, lS, o.ob, gv, f43, hmo, hvo]
      · simp (disch := omega) only [s_X12_guess_7, b_X12_guess_7, nS, o.ob, gv]
    simp (disch := omega) only [F_X12_guess, nS, lS, lp]
end FTD
