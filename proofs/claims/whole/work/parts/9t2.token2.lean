/-! ===== the call text: the reference's token, whole ===== -/
section TKE
variable {h : qH} {a : Nat} {σ : SG} {A : Nat → Nat → Int32} {B : Nat → Nat → Int64} {I : Nat → Int32} {J : Nat → Int64}
theorem d_token (o : OB h a 12 mdL A B I J) (tp : TP A σ) (hz : sZ σ ≤ 600) (i11 : I 11 = nI (sZ σ)) {i : Nat} (i10 : I 10 = nI (pos σ i)) : ∃ h' I' J', F_X12_token h a = some h' ∧ OB h' a 12 mdL A B I' J' ∧ LA σ i I' J' ∧ On [10, 12, 13, 14] I I' ∧ On [15] J J' ∧ Fr h h' a (a + 27) := by
  obtain ⟨h1, I1, e1, o1, j1, n1, r1⟩ := d_ws o tp hz i11 (pos_le σ i) i10
  have j1 : I1 10 = nI (bg σ i) := j1
  have hbl := bg_le σ i
  have hpos : pos σ (i + 1) = if bg σ i < sZ σ then eR σ (bg σ i) else sZ σ := rfl
  unfold LA
  rw [hpos]
  generalize bg σ i = p at j1 hbl
  have n1' : On [10, 12, 13, 14] I I1 := n1.mo (by decide)
  obtain ⟨h2, e2, o2, r2⟩ := X12_p12 o1 (nI p)
  obtain ⟨h3, e3, o3, r3⟩ := X12_p15 o2 (lN 0)
  have n3 : On [10, 12, 13, 14] I (upd I1 12 (nI p)) := n1'.tr (On.ud (by decide))
  have m3 : On [15] J (vp_updL J 15 (lN 0)) := On.uL (by decide)
  have k10 : upd I1 12 (nI p) 10 = nI p := by simp (disch := omega) only [uS]; exact j1
  have k11 : upd I1 12 (nI p) 11 = nI (sZ σ) := by simp (disch := omega) only [uS]; exact (n1 11 (by decide)).trans i11
  have k12 : upd I1 12 (nI p) 12 = nI p := by simp (disch := omega) only [uS]
  have l15 : vp_updL J 15 (lN 0) 15 = lN 0 := pk_uLs
  have r13 := (r1.tr r2).tr r3
  generalize upd I1 12 (nI p) = I3 at o2 o3 n3 k10 k11 k12
  generalize vp_updL J 15 (lN 0) = J3 at o3 m3 l15
  rcases Nat.lt_or_ge p (sZ σ) with hlt | hge
  · rw [if_pos hlt]
    have es := d_see o2 tp hz k11 hlt k10
    have b0 : sn σ p < 256 := sg_lt _
    have hR := eR_ok σ hlt
    by_cases hL : isL (sn σ p) = true
    · have hl := isL_t.mp hL
      have hrs : rs σ p = 2 := by simp only [rs, if_neg (show ¬ sZ σ ≤ p by omega), if_pos hL]
      have hin := in_in h3 (n := sn σ p) (lo := 97) (hi := 122) (by omega) hl.1 hl.2
      obtain ⟨h4, I4, J4, e4, o4, q10, q15, n4, m4, r4⟩ := d_letters o3 tp hz k11 hlt hL k10 l15
      have p11 : I4 11 = nI (sZ σ) := (n4 11 (by decide)).trans k11
      have p12 : I4 12 = nI p := (n4 12 (by decide)).trans k12
      have f15 : q_fL h4 a 12 15 = some (J4 15) := o4.fL (k := 15) rfl
      obtain ⟨h5, e5, o5, r5⟩ := X12_p15 o4 (wcd σ p)
      obtain ⟨h6, e6, o6, r6⟩ := X12_p13 o5 (nI 2)
      refine ⟨h6, _, _, ?_, o6, ⟨by simp (disch := omega) only [uS]; exact q10, by simp (disch := omega) only [uS]; exact p11, by simp (disch := omega) only [uS]; exact p12, by simp (disch := omega) only [uS, hrs], fun q => by omega, fun _ => pk_uLs⟩, (n3.tr (n4.mo (by decide))).tr (On.ud (by decide)), (m3.tr m4).tr (On.uL (by decide)), ((r13.tr r4).tr r5).tr r6⟩
      by_cases h8 : eR σ p - p ≤ 8
      · have hw : wcd σ p = J4 15 := by unfold wcd; rw [if_pos h8, q15]
        rw [hw] at e5
        simp (disch := omega) only [F_X12_token, nS, lS, e1, X12_rd o1, j1, e2, o2.ob, es, e3, hin, e4, f15, e5, e6]
      · have hw : wcd σ p = lN 0 := by unfold wcd; rw [if_neg h8]
        rw [hw] at e5
        simp (disch := omega) only [F_X12_token, nS, lS, e1, X12_rd o1, j1, e2, o2.ob, es, e3, hin, e4, e5, e6]
    · have hLf := Bool.eq_false_iff.mpr hL
      have hnl := isL_f.mp hLf
      have hin := in_out h3 (y := nI (sn σ p)) (lo := 97) (hi := 122) (by omega) (by omega) (Or.inr ⟨_, rfl, by omega, by omega⟩)
      by_cases hD : isD (sn σ p) = true
      · have hd := isD_t.mp hD
        have hin2 := in_in h3 (n := sn σ p) (lo := 48) (hi := 57) (by omega) hd.1 hd.2
        obtain ⟨h4, e4, o4, r4⟩ := X12_p14 o3 (nI 0)
        have z10 : upd I3 14 (nI 0) 10 = nI p := by simp (disch := omega) only [uS]; exact k10
        have z11 : upd I3 14 (nI 0) 11 = nI (sZ σ) := by simp (disch := omega) only [uS]; exact k11
        have z12 : upd I3 14 (nI 0) 12 = nI p := by simp (disch := omega) only [uS]; exact k12
        have z14 : upd I3 14 (nI 0) 14 = nI 0 := by simp (disch := omega) only [uS]
        obtain ⟨h5, I5, e5, o5, q10, q14, n5, r5⟩ := d_digits o4 tp hz z11 hlt hLf hD z10 z14
        have p11 : I5 11 = nI (sZ σ) := (n5 11 (by decide)).trans z11
        have p12 : I5 12 = nI p := (n5 12 (by decide)).trans z12
        have n5' : On [10, 12, 13, 14] I I5 := (n3.tr (On.ud (by decide))).tr (n5.mo (by decide))
        by_cases h2 : eR σ p - p ≤ 2
        · have hrs : rs σ p = 3 := by simp only [rs, if_neg (show ¬ sZ σ ≤ p by omega), if_neg hL, if_pos hD, if_pos h2]
          obtain ⟨h6, e6, o6, r6⟩ := X12_p13 o5 (nI 3)
          refine ⟨h6, _, _, ?_, o6, ⟨by simp (disch := omega) only [uS]; exact q10, by simp (disch := omega) only [uS]; exact p11, by simp (disch := omega) only [uS]; exact p12, by simp (disch := omega) only [uS, hrs], fun _ => ?_, fun q => by omega⟩, n5'.tr (On.ud (by decide)), m3, ((r13.tr r4).tr r5).tr r6⟩
          · simp (disch := omega) only [F_X12_token, nS, lS, e1, X12_rd o1, j1, e2, o2.ob, es, e3, hin, hin2, e4, e5, e6]
          · simp (disch := omega) only [uS]
            rw [q14]
            have : dg σ p (eR σ p - p) = num σ p := by
              unfold dg num
              by_cases h3 : eR σ p - p = 2
              · rw [if_neg (by omega), if_neg (by omega), if_pos h3]
              · rw [if_neg (by omega), if_pos (by omega), if_neg h3]
            rw [this]
        · have hrs : rs σ p = 1 := by simp only [rs, if_neg (show ¬ sZ σ ≤ p by omega), if_neg hL, if_pos hD, if_neg h2]
          obtain ⟨h6, e6, o6, r6⟩ := X12_p13 o5 (nI 1)
          refine ⟨h6, _, _, ?_, o6, ⟨by simp (disch := omega) only [uS]; exact q10, by simp (disch := omega) only [uS]; exact p11, by simp (disch := omega) only [uS]; exact p12, by simp (disch := omega) only [uS, hrs], fun q => by omega, fun q => by omega⟩, n5'.tr (On.ud (by decide)), m3, ((r13.tr r4).tr r5).tr r6⟩
          simp (disch := omega) only [F_X12_token, nS, lS, e1, X12_rd o1, j1, e2, o2.ob, es, e3, hin, hin2, e4, e5, e6]
      · have hnd := isD_f.mp (Bool.eq_false_iff.mpr hD)
        have hin2 := in_out h3 (y := nI (sn σ p)) (lo := 48) (hi := 57) (by omega) (by omega) (Or.inr ⟨_, rfl, by omega, by omega⟩)
        have hE : eR σ p = p + 1 := by simp only [eR, if_neg hL, if_neg hD]
        obtain ⟨h4, e4, o4, r4⟩ := X12_p10 o3 (nI (p + 1))
        have f10 : q_fI h3 a 12 10 = some (nI p) := by rw [← k10]; exact o3.fI (k := 10) rfl
        rw [hE]
        by_cases h59 : sn σ p = 59
        · have hrs : rs σ p = 4 := by simp only [rs, if_neg (show ¬ sZ σ ≤ p by omega), if_neg hL, if_neg hD, if_pos h59]
          obtain ⟨h6, e6, o6, r6⟩ := X12_p13 o4 (nI 4)
          refine ⟨h6, _, _, ?_, o6, ⟨by simp (disch := omega) only [uS], by simp (disch := omega) only [uS]; exact k11, by simp (disch := omega) only [uS]; exact k12, by simp (disch := omega) only [uS, hrs], fun q => by omega, fun q => by omega⟩, (n3.tr (On.ud (by decide))).tr (On.ud (by decide)), m3, (r13.tr r4).tr r6⟩
          simp (disch := omega) only [F_X12_token, nS, lS, e1, X12_rd o1, j1, e2, o2.ob, es, e3, hin, hin2, f10, e4, e6]
        · have hrs : rs σ p = 1 := by simp only [rs, if_neg (show ¬ sZ σ ≤ p by omega), if_neg hL, if_neg hD, if_neg h59]
          obtain ⟨h6, e6, o6, r6⟩ := X12_p13 o4 (nI 1)
          refine ⟨h6, _, _, ?_, o6, ⟨by simp (disch := omega) only [uS], by simp (disch := omega) only [uS]; exact k11, by simp (disch := omega) only [uS]; exact k12, by simp (disch := omega) only [uS, hrs], fun q => by omega, fun q => by omega⟩, (n3.tr (On.ud (by decide))).tr (On.ud (by decide)), m3, (r13.tr r4).tr r6⟩
          simp (disch := omega) only [F_X12_token, nS, lS, e1, X12_rd o1, j1, e2, o2.ob, es, e3, hin, hin2, f10, e4, e6]
  · have hpz : p = sZ σ := by omega
    rw [if_neg (by omega)]
    have es := d_seeE o2 hz k11 (by rw [k10, hpz])
    have hrs : rs σ p = 0 := by simp only [rs, if_pos hge]
    obtain ⟨h6, e6, o6, r6⟩ := X12_p13 o3 (nI 0)
    refine ⟨h6, _, _, ?_, o6, ⟨by simp (disch := omega) only [uS]; rw [k10, hpz], by simp (disch := omega) only [uS]; exact k11, by simp (disch := omega) only [uS]; exact k12, by simp (disch := omega) only [uS, hrs], fun q => by omega, fun q => by omega⟩, n3.tr (On.ud (by decide)), m3, r13.tr r6⟩
    simp (disch := omega) only [F_X12_token, nS, lS, e1, X12_rd o1, j1, e2, o2.ob, es, e3, e6]
end TKE
