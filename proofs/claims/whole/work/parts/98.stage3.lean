/-! ===== the reference's deeds; beginning, playing ===== -/
section STD
variable {h : qH} {a n : Nat} {A : Nat → Nat → Int32} {B : Nat → Nat → Int64} {I : Nat → Int32} {J : Nat → Int64} {b : Nat → Int32} {k : Nat} {s : SS}
theorem d_say (o : OB h a 12 mdL A B I J) (hb : HB A I b k) (rn : RN (bMB b) (A 28) s) (w : WS (bMB b) n s) (hn : n < 100) {x : Option Nat} (hx : ∀ l, x = some l → l < 2 ^ 31) : (∃ s', pf (bMB b) 0 x s = some s' ∧ DY h a A B I J (bMB b) (F_X12_does h a (nI 0) (oI x)) 1 s') ∨ (pf (bMB b) 0 x s = none ∧ DY h a A B I J (bMB b) (F_X12_does h a (nI 0) (oI x)) 0 s) := by
  have ok := bMB_ok hb.1
  have hL := L_le ok
  have hdok := du_ok ok w.1
  have rn0 := rn
  obtain ⟨r1, r2, r6, rp⟩ := rn
  have e9 := rp 9 (by omega) (by omega) (by omega) (by omega)
  have e5 := rp 5 (by omega) (by omega) (by omega) (by omega)
  have k5 := w.2.1 5
  have hfr := (fre_ok ok).2
  have bad : F_X12_says h a (oI x) = some (nI 0, h) → DY h a A B I J (bMB b) (F_X12_does h a (nI 0) (oI x)) 0 s := by
    intro e
    obtain ⟨h', A', e', q⟩ := (d_78 o (la := s.1) (v := s.2) rn0).2
    refine ⟨h', A', ?_, q⟩
    simp (disch := omega) only [F_X12_does, nS, o.ob, e, e']
  cases x with
  | none =>
    refine Or.inr ⟨rfl, bad ?_⟩
    rw [oI_none]
    simp (disch := omega) only [F_X12_says, nS, o.ob, d_line_out o hb (x := m1) (nOut_m1 _)]
  | some l =>
    have hl31 := hx l rfl
    rw [oI_some] at bad ⊢
    rcases Nat.lt_or_ge l (mbL (bMB b)) with hlL | hlL
    · have hw := (wh_ok ok hlL).2
      have hli := d_line_in o hb hlL
      have hth := d_there o e9 w.2.2 hw
      have htb := tb_le (s.2 9) (wh (bMB b) l)
      have hwo := d_whl o hb hlL
      have hfo := d_isFol o hb r1 w.1 hl31
      by_cases hdl : du (bMB b) s.1 = some l
      · have r2' : A 28 2 = nI l := by rw [r2, hdl]; rfl
        by_cases h1 : tb (s.2 9) (wh (bMB b) l) = 1
        · rw [h1] at hth
          obtain ⟨h2, A2, e2, o2, rr2, n2, rn2⟩ := d_isSaid o hb hlL r6 rp
          obtain ⟨d1, -⟩ := d_78 o2 rn2
          obtain ⟨h3, A3, e3, q⟩ := d1.w rr2 n2
          refine Or.inl ⟨(some l, mn1 (spk (bMB b) s.2 l)), ?_, h3, A3, ?_, q⟩
          · show p0 (bMB b) s l = _
            unfold p0
            rw [if_pos ⟨hlL, Or.inl hdl, h1⟩, if_pos hdl]
          · simp (disch := omega) only [F_X12_does, F_X12_says, nS, o.ob, hli, X12_rd o, r2']
            simp (disch := omega) only [j_X12_says_26, nS, o.ob, hwo, hth, X12_rd o, r2', e2, e3]
        · have h1 : tb (s.2 9) (wh (bMB b) l) = 0 := by omega
          rw [h1] at hth
          refine Or.inr ⟨if_neg (fun q => by have := q.2.2; omega), bad ?_⟩
          simp (disch := omega) only [F_X12_says, j_X12_says_26, nS, o.ob, hli, X12_rd o, r2', hwo, hth]
      · have hne : (nI l = oI (du (bMB b) s.1)) ↔ False := iff_of_false (fun e => hdl ((oI_eq (okL_31 ok hdok) hl31).mp e.symm)) id
        by_cases hf : l ∈ fos (bMB b) s.1
        · rw [if_pos hf] at hfo
          by_cases h1 : tb (s.2 9) (wh (bMB b) l) = 1
          · rw [h1] at hth
            obtain ⟨h1', e1', o1', r1'⟩ := X12_s28 o (i := 5) (nI (s.2 5 + 1)) (by omega)
            have n1' : On [28] A (upF A 28 (upd (A 28) 5 (nI (s.2 5 + 1)))) := On.up (by decide)
            have hb1 := hb.n28 n1'
            have e5' : upF A 28 (upd (A 28) 5 (nI (s.2 5 + 1))) 28 5 = nI (s.2 5 + 1) := by rw [upF_self]; simp (disch := omega) only [uS]
            have hof2 : F_X12_of h1' a (nI 2) = some (nI (fre (bMB b))) := (d_pack o1' hb1).2.2.2.2.2.2.2.2.2.1
            have hgr : F_X12_greater h1' (nI 0) (nI (s.2 5 + 1) - nI (fre (bMB b))) = some (nI (s.2 5 + 1 - fre (bMB b))) := by
              rcases Nat.lt_or_ge (s.2 5 + 1) (fre (bMB b)) with h5 | h5
              · have := n_neg h5 (by omega)
                rw [show s.2 5 + 1 - fre (bMB b) = 0 by omega]
                simp (disch := omega) only [F_X12_greater, gN this, nS]
              · simp (disch := omega) only [F_X12_greater, nS]
            obtain ⟨h2', e2', o2', r2'⟩ := X12_s28 o1' (i := 6) (nI (s.2 5 + 1 - fre (bMB b))) (by omega)
            have n2' := n1'.tr (On.up (S := [28]) (k := 28) (f := upd (upF A 28 (upd (A 28) 5 (nI (s.2 5 + 1))) 28) 6 (nI (s.2 5 + 1 - fre (bMB b)))) (by decide))
            obtain ⟨h2, A2, e2, o2, rr2, n2, rn2⟩ := d_isSaid o2' (hb.n28 n2') hlL (v := un s.2 5 (s.2 5 + 1)) (by
              rw [upF_self]
              simp (disch := omega) only [uS]) (by
              rw [upF_self, upF_self]
              exact rp.up.sp (Or.inr (Or.inr rfl)))
            obtain ⟨d1, -⟩ := d_78 o2 rn2
            obtain ⟨h3, A3, e3, q⟩ := d1.w ((r1'.tr r2').tr rr2) (n2'.tr n2)
            refine Or.inl ⟨(some l, mn1 (spk (bMB b) (un s.2 5 (s.2 5 + 1)) l)), ?_, h3, A3, ?_, q⟩
            · show p0 (bMB b) s l = _
              unfold p0
              rw [if_pos ⟨hlL, Or.inr hf, h1⟩, if_neg hdl]
            · simp (disch := omega) only [F_X12_does, F_X12_says, nS, o.ob, hli, X12_rd o, r2, hne, hfo]
              simp (disch := omega) only [j_X12_says_26, nS, o.ob, hwo, hth, X12_rd o, r2, hne, e5, e1', X12_rd o1', e5', hof2, hgr, e2', o2'.ob, e2, e3]
          · have h1 : tb (s.2 9) (wh (bMB b) l) = 0 := by omega
            rw [h1] at hth
            refine Or.inr ⟨if_neg (fun q => by have := q.2.2; omega), bad ?_⟩
            simp (disch := omega) only [F_X12_says, j_X12_says_26, nS, o.ob, hli, X12_rd o, r2, hne, hfo, hwo, hth]
        · rw [if_neg hf] at hfo
          refine Or.inr ⟨if_neg (fun q => q.2.1.elim hdl hf), bad ?_⟩
          simp (disch := omega) only [F_X12_says, nS, o.ob, hli, X12_rd o, r2, hne, hfo]
    · refine Or.inr ⟨if_neg (fun q => by have := q.1; omega), bad ?_⟩
      simp (disch := omega) only [F_X12_says, nS, o.ob, d_line_out o hb (Or.inr (nI_le hlL hl31))]
theorem d_pf (o : OB h a 12 mdL A B I J) (hb : HB A I b k) (rn : RN (bMB b) (A 28) s) (w : WS (bMB b) n s) (hn : n < 100) {d : Nat} (hd6 : d < 7) {x : Option Nat} (hx : ∀ l, x = some l → l < 2 ^ 31) (hx2 : d = 1 ∨ d = 2 → ∃ p, p < 6 ∧ x = some p) : (∃ s', pf (bMB b) d x s = some s' ∧ DY h a A B I J (bMB b) (F_X12_does h a (nI d) (oI x)) 1 s') ∨ (pf (bMB b) d x s = none ∧ DY h a A B I J (bMB b) (F_X12_does h a (nI d) (oI x)) 0 s) := by
  have ok := bMB_ok hb.1
  have hL := L_le ok
  have hdok := du_ok ok w.1
  have rn0 := rn
  obtain ⟨r1, r2, r6, rp⟩ := rn
  have e9 := rp 9 (by omega) (by omega) (by omega) (by omega)
  have e3 := rp 3 (by omega) (by omega) (by omega) (by omega)
  have e7 := rp 7 (by omega) (by omega) (by omega) (by omega)
  have e8 := rp 8 (by omega) (by omega) (by omega) (by omega)
  have k3 := w.2.1 3
  have hct := (ctt_ok ok).2
  have hr := w.2.2
  obtain ⟨-, h0', A0', e0', q0'⟩ := d_78 o (la := s.1) (v := s.2) rn0
  -- the one that goes or comes
  have mv : ∀ p t, p < 6 → t < 2 → (tb (s.2 9) p = t ∧ DY h a A B I J (bMB b) (F_X12_goes h a (nI p) (nI t)) 1 (s.1, un s.2 9 (s.2 9 ^^^ 2 ^ p))) ∨ (¬ tb (s.2 9) p = t ∧ F_X12_goes h a (nI p) (nI t) = some (nI 0, h)) := by
    intro p t hp ht
    have hth := d_there o e9 hr hp
    have htb := tb_le (s.2 9) p
    by_cases h1 : tb (s.2 9) p = t
    · refine Or.inl ⟨h1, ?_⟩
      have hp2 := p2_lt (k := p) (by omega)
      obtain ⟨h1', e1', o1', r1'⟩ := X12_s28 o (i := 9) (nI (s.2 9 ^^^ 2 ^ p)) (by omega)
      refine ⟨h1', _, ?_, o1', r1', On.up (by decide), ?_⟩
      · rw [h1] at hth
        simp (disch := omega) only [F_X12_goes, nS, o.ob, hth, X12_rd o, e9, b_shl (show p < 31 by omega), b_xor (show s.2 9 < 2 ^ 31 by omega) hp2, e1']
      · rw [upF_self]
        exact ⟨by simp (disch := omega) only [uS]; exact r1, by simp (disch := omega) only [uS]; exact r2, by simp (disch := omega) only [uS]; exact r6, rp.up⟩
    · refine Or.inr ⟨h1, ?_⟩
      simp (disch := omega) only [F_X12_goes, nS, o.ob, hth]
  rcases (show d = 0 ∨ d = 1 ∨ d = 2 ∨ d = 3 ∨ d = 4 ∨ d = 5 ∨ d = 6 by omega) with rfl | rfl | rfl | rfl | rfl | rfl | rfl
  · exact d_say o hb rn0 w hn hx
  · obtain ⟨p, hp, rfl⟩ := hx2 (Or.inl rfl)
    rw [oI_some]
    rcases mv p 1 hp (by omega) with ⟨h1, h', A', e, q⟩ | ⟨h1, e⟩
    · refine Or.inl ⟨_, if_pos h1, h', A', ?_, q⟩
      simp (disch := omega) only [F_X12_does, j_X12_does_10, nS, o.ob, e]
    · refine Or.inr ⟨if_neg h1, h, A, ?_, o, Fr.rf, On.rf, rn0⟩
      simp (disch := omega) only [F_X12_does, j_X12_does_10, nS, o.ob, e]
  · obtain ⟨p, hp, rfl⟩ := hx2 (Or.inr rfl)
    rw [oI_some]
    rcases mv p 0 hp (by omega) with ⟨h1, h', A', e, q⟩ | ⟨h1, e⟩
    · refine Or.inl ⟨_, if_pos h1, h', A', ?_, q⟩
      simp (disch := omega) only [F_X12_does, j_X12_does_10, nS, o.ob, e]
    · refine Or.inr ⟨if_neg h1, h, A, ?_, o, Fr.rf, On.rf, rn0⟩
      simp (disch := omega) only [F_X12_does, j_X12_does_10, nS, o.ob, e]
  · cases hl : du (bMB b) s.1 with
    | none =>
      rw [hl, oI_none] at r2
      refine Or.inr ⟨pf_n (Or.inl rfl) hl, h0', A0', ?_, q0'⟩
      simp (disch := omega) only [F_X12_does, F_X12_dries, nS, o.ob, X12_rd o, r2, e0']
    | some l =>
      have hlL := hdok l hl
      have hw := (wh_ok ok hlL).2
      have hth := d_there o e9 hr hw
      have hwo := d_whl o hb hlL
      rw [hl, oI_some] at r2
      have htb := tb_le (s.2 9) (wh (bMB b) l)
      by_cases h1 : tb (s.2 9) (wh (bMB b) l) = 1
      · rw [h1] at hth
        have ew := rp (20 + wh (bMB b) l) (by omega) (by omega) (by omega) (by omega)
        obtain ⟨h1', e1', o1', r1'⟩ := X12_s28 o (i := 20 + wh (bMB b) l) (nI (s.2 (20 + wh (bMB b) l) + 1)) (by omega)
        have e3' : upF A 28 (upd (A 28) (20 + wh (bMB b) l) (nI (s.2 (20 + wh (bMB b) l) + 1))) 28 3 = nI (s.2 3) := by rw [upF_self]; simp (disch := omega) only [uS]; exact e3
        obtain ⟨h2', e2', o2', r2'⟩ := X12_s28 o1' (i := 3) (nI (s.2 3 + 1)) (by omega)
        obtain ⟨d1, -⟩ := d_78 o2' (m := bMB b) (la := s.1) (v := un (un s.2 (20 + wh (bMB b) l) (s.2 (20 + wh (bMB b) l) + 1)) 3 (s.2 3 + 1)) (by
          rw [upF_self, upF_self]
          exact ⟨by simp (disch := omega) only [uS]; exact r1, by simp (disch := omega) only [uS]; rw [r2, hl]; rfl, by simp (disch := omega) only [uS]; exact r6, rp.up.up⟩)
        obtain ⟨h3, A3, e3'', q⟩ := d1.w (r1'.tr r2') ((On.up (A := A) (by decide)).tr (On.up (by decide)))
        refine Or.inl ⟨_, (pf_3 hl).trans (if_pos h1), h3, A3, ?_, q⟩
        simp (disch := omega) only [F_X12_does, F_X12_dries, nS, o.ob, X12_rd o, r2, hwo, hth, ew, e1', X12_rd o1', e3', e2', e3'']
      · have h1 : tb (s.2 9) (wh (bMB b) l) = 0 := by omega
        rw [h1] at hth
        refine Or.inr ⟨(pf_3 hl).trans (if_neg (by omega)), h0', A0', ?_, q0'⟩
        simp (disch := omega) only [F_X12_does, F_X12_dries, nS, o.ob, X12_rd o, r2, hwo, hth, e0']
  · by_cases h0 : s.2 3 = 0
    · refine Or.inr ⟨?_, h0', A0', ?_, q0'⟩
      · cases hl : du (bMB b) s.1 with
        | none => exact pf_n (Or.inr (Or.inl rfl)) hl
        | some l => exact (pf_4 hl).trans (if_neg (fun q => q.1 h0))
      · rw [h0] at e3
        simp (disch := omega) only [F_X12_does, F_X12_isPrompted, nS, o.ob, X12_rd o, e3, e0']
    · cases hl : du (bMB b) s.1 with
      | none =>
        rw [hl, oI_none] at r2
        refine Or.inr ⟨pf_n (Or.inr (Or.inl rfl)) hl, h0', A0', ?_, q0'⟩
        simp (disch := omega) only [F_X12_does, F_X12_isPrompted, nS, o.ob, X12_rd o, e3, r2, e0']
      | some l =>
        have hlL := hdok l hl
        have hw := (wh_ok ok hlL).2
        have hth := d_there o e9 hr hw
        have hwo := d_whl o hb hlL
        rw [hl, oI_some] at r2
        have htb := tb_le (s.2 9) (wh (bMB b) l)
        by_cases h1 : tb (s.2 9) (wh (bMB b) l) = 1
        · rw [h1] at hth
          obtain ⟨h1', e1', o1', r1'⟩ := X12_s28 o (i := 7) (nI (s.2 7 + 1)) (by omega)
          have n1' : On [28] A (upF A 28 (upd (A 28) 7 (nI (s.2 7 + 1)))) := On.up (by decide)
          have r2' : upF A 28 (upd (A 28) 7 (nI (s.2 7 + 1))) 28 2 = nI l := by rw [upF_self]; simp (disch := omega) only [uS]; exact r2
          obtain ⟨h2, A2, e2, o2, rr2, n2, rn2⟩ := d_isSaid o1' (hb.n28 n1') hlL (v := un s.2 7 (s.2 7 + 1)) (by
            rw [upF_self]
            simp (disch := omega) only [uS]; exact r6) (by rw [upF_self]; exact rp.up)
          obtain ⟨d1, -⟩ := d_78 o2 rn2
          obtain ⟨h3, A3, e3'', q⟩ := d1.w (r1'.tr rr2) (n1'.tr n2)
          refine Or.inl ⟨_, (pf_4 hl).trans (if_pos ⟨h0, h1⟩), h3, A3, ?_, q⟩
          simp (disch := omega) only [F_X12_does, F_X12_isPrompted, nS, o.ob, X12_rd o, e3, r2, hwo, hth, e7, e1', X12_rd o1', r2', e2, e3'']
        · have h1 : tb (s.2 9) (wh (bMB b) l) = 0 := by omega
          rw [h1] at hth
          refine Or.inr ⟨(pf_4 hl).trans (if_neg (fun q => by have := q.2; omega)), h0', A0', ?_, q0'⟩
          simp (disch := omega) only [F_X12_does, F_X12_isPrompted, nS, o.ob, X12_rd o, e3, r2, hwo, hth, e0']
  · obtain ⟨h1', e1', o1', r1'⟩ := X12_s28 o (i := 3) (nI (s.2 3 + 1)) (by omega)
    obtain ⟨d1, -⟩ := d_78 o1' (m := bMB b) (la := s.1) (v := un s.2 3 (s.2 3 + 1)) (by
      rw [upF_self]
      exact ⟨by simp (disch := omega) only [uS]; exact r1, by simp (disch := omega) only [uS]; exact r2, by simp (disch := omega) only [uS]; exact r6, rp.up⟩)
    obtain ⟨h3, A3, e3'', q⟩ := d1.w r1' (On.up (A := A) (by decide))
    refine Or.inl ⟨_, rfl, h3, A3, ?_, q⟩
    simp (disch := omega) only [F_X12_does, F_X12_waits, nS, o.ob, X12_rd o, e3, e1', e3'']
  · cases hl : du (bMB b) s.1 with
    | none =>
      rw [hl, oI_none] at r2
      refine Or.inr ⟨pf_n (Or.inr (Or.inr rfl)) hl, h0', A0', ?_, q0'⟩
      simp (disch := omega) only [F_X12_does, F_X12_isCut, nS, o.ob, X12_rd o, r2, e0']
    | some l =>
      have hlL := hdok l hl
      have hw := (wh_ok ok hlL).2
      have hth := d_there o e9 hr hw
      have hwo := d_whl o hb hlL
      have hof3 : F_X12_of h a (nI 3) = some (nI (ctt (bMB b))) := (d_pack o hb).2.2.2.2.2.2.2.2.2.2.1
      rw [hl, oI_some] at r2
      have htb := tb_le (s.2 9) (wh (bMB b) l)
      obtain ⟨h1', e1', o1', r1'⟩ := X12_s28 o (i := 8) (nI (s.2 8 + 1)) (by omega)
      have n1' : On [28] A (upF A 28 (upd (A 28) 8 (nI (s.2 8 + 1)))) := On.up (by decide)
      have r2' : upF A 28 (upd (A 28) 8 (nI (s.2 8 + 1))) 28 2 = nI l := by rw [upF_self]; simp (disch := omega) only [uS]; exact r2
      obtain ⟨h2, A2, e2, o2, rr2, n2, rn2⟩ := d_goesOn o1' (hb.n28 n1') hlL (v := un s.2 8 (s.2 8 + 1)) (by
        rw [upF_self]
        simp (disch := omega) only [uS]; exact r6) (by rw [upF_self]; exact rp.up)
      obtain ⟨d1, -⟩ := d_78 o2 rn2
      obtain ⟨h3, A3, e3'', q⟩ := d1.w (r1'.tr rr2) (n1'.tr n2)
      have j43 : j_X12_isCut_43 h a = some (nI 1, h2) := by
        simp (disch := omega) only [j_X12_isCut_43, nS, X12_rd o, e8, e1', X12_rd o1', r2', e2]
      by_cases hc : ctt (bMB b) ≤ s.2 3
      · refine Or.inl ⟨_, (pf_6 hl).trans (if_pos (Or.inl hc)), h3, A3, ?_, q⟩
        simp (disch := omega) only [F_X12_does, F_X12_isCut, nS, o.ob, X12_rd o, r2, e3, hof3, j43, e3'']
      · by_cases h1 : tb (s.2 9) (wh (bMB b) l) = 0
        · rw [h1] at hth
          refine Or.inl ⟨_, (pf_6 hl).trans (if_pos (Or.inr h1)), h3, A3, ?_, q⟩
          simp (disch := omega) only [F_X12_does, F_X12_isCut, nS, o.ob, X12_rd o, r2, e3, hof3, hwo, hth, j43, e3'']
        · have h1 : tb (s.2 9) (wh (bMB b) l) = 1 := by omega
          rw [h1] at hth
          refine Or.inr ⟨(pf_6 hl).trans (if_neg (by omega)), h0', A0', ?_, q0'⟩
          simp (disch := omega) only [F_X12_does, F_X12_isCut, nS, o.ob, X12_rd o, r2, e3, hof3, hwo, hth, e0']
/-! the beginning -/
def sz : SS := (none, fun i => if i = 9 then 63 else 0)
theorem sz_ok (m : MB) : WS m 0 sz := ⟨okL_none m, fun i => by show (if i = 9 then 63 else 0) ≤ _; split <;> omega, by show 63 < 64; omega⟩
theorem d_begin (o : OB h a 12 mdL A B I J) (hb : HB A I b k) : ∃ h' A', F_X12_begin h a = some h' ∧ OB h' a 12 mdL A' B I J ∧ Fr h h' a (a + 27) ∧ On [28] A A' ∧ RN (bMB b) (A' 28) sz := by
  have ok := bMB_ok hb.1
  have hL := L_le ok
  obtain ⟨h1, e1, A1, o1, r1, n1, z1⟩ := q_lp1 (step := s_X12_begin_2 a) (fun i h' => ∃ A', OB h' a 12 mdL A' B I J ∧ Fr h h' a (a + 27) ∧ On [28] A A' ∧ ∀ j, j < i → A' 28 j = nI 0) 30 0 (by omega)
    (fun i h1 hi ⟨A1, o1, r1, n1, z1⟩ => by
      obtain ⟨h2, e2, o2, r2⟩ := X12_s28 o1 (i := i) (nI 0) hi
      refine ⟨h2, ?_, _, o2, r1.tr r2, n1.tr (On.up (by decide)), fun j hj => ?_⟩
      · simp (disch := omega) only [s_X12_begin_2, b_X12_begin_2, nS, Nat.add_zero, X12_rd o1, e2]
      · rw [upF_self]
        by_cases hji : j = i
        · subst hji; exact pk_us
        · rw [pk_un hji]; exact z1 j (by omega))
    (fun h1 _ => by simp (disch := omega) only [s_X12_begin_2, b_X12_begin_2, nS, Nat.add_zero])
    (h := h) ⟨A, o, Fr.rf, On.rf, fun l hl => by omega⟩
  obtain ⟨h2, e2, o2, r2⟩ := X12_s28 o1 (i := 1) m1 (by omega)
  obtain ⟨h3, e3, o3, r3⟩ := X12_s28 o2 (i := 2) (oI (st0 (bMB b))) (by omega)
  obtain ⟨h4, e4, o4, r4⟩ := X12_s28 o3 (i := 9) (nI 63) (by omega)
  have i24 := hb.i24
  refine ⟨h4, _, ?_, o4, ((r1.tr r2).tr r3).tr r4, ((n1.tr (On.up (by decide))).tr (On.up (by decide))).tr (On.up (by decide)), ?_⟩
  · rcases st0_oI (m := bMB b) with ⟨h0, e0⟩ | ⟨h0, e0⟩
    · rw [e0] at e3
      simp (disch := omega) only [F_X12_begin, nS, e1, X12_rd o1, e2, X12_rd o2, i24, e3, X12_rd o3, e4]
    · rw [e0] at e3
      simp (disch := omega) only [F_X12_begin, nS, e1, X12_rd o1, e2, X12_rd o2, i24, e3, X12_rd o3, e4]
  · rw [upF_self, upF_self, upF_self]
    refine ⟨by simp (disch := omega) only [uS]; rfl, by simp (disch := omega) only [uS]; rfl, ?_, fun i q1 q2 q3 q4 => ?_⟩
    · simp (disch := omega) only [uS]
      rw [z1 6 (by omega)]
      show nI 0 = nI (0 - fre (bMB b))
      rw [Nat.zero_sub]
    · show _ = nI (if i = 9 then 63 else 0)
      by_cases hi9 : i = 9
      · subst hi9; simp (disch := omega) only [uS]; rfl
      · rw [if_neg hi9]; simp (disch := omega) only [uS]; exact z1 i q1
end STD
theorem c_begin {h : qH} {a : Nat} {A : Nat → Nat → Int32} {B : Nat → Nat → Int64} {I : Nat → Int32} {J : Nat → Int64} (o : OB h a 8 stL A B I J) : ∃ h' A' I', F_X8_begin h a = some h' ∧ OB h' a 8 stL A' B I' J ∧ Fr h h' a (a + 3) ∧ SX A' I' sz ∧ I' 10 = I 10 := by
  obtain ⟨h1, e1, o1, r1⟩ := X8_p2 o (nI 0)
  obtain ⟨h2, e2, o2, r2⟩ := X8_p3 o1 m1
  obtain ⟨h3, e3, o3, r3⟩ := X8_p4 o2 (nI 0)
  obtain ⟨h4, e4, o4, r4⟩ := X8_p5 o3 (nI 0)
  obtain ⟨h5, e5, o5, r5⟩ := X8_p6 o4 (nI 0)
  obtain ⟨h6, e6, o6, r6⟩ := X8_p7 o5 (nI 0)
  obtain ⟨h7, e7, o7, r7⟩ := X8_p8 o6 (nI 0)
  obtain ⟨h8, e8, o8, r8⟩ := X8_p9 o7 (nI 63)
  have r18 := ((((((r1.tr r2).tr r3).tr r4).tr r5).tr r6).tr r7).tr r8
  obtain ⟨I8, hI8⟩ : ∃ I8, I8 = upd (upd (upd (upd (upd (upd (upd (upd I 2 (nI 0)) 3 m1) 4 (nI 0)) 5 (nI 0)) 6 (nI 0)) 7 (nI 0)) 8 (nI 0)) 9 (nI 63) := ⟨_, rfl⟩
  rw [← hI8] at o8
  obtain ⟨h9, e9, A9, o9, r9, z9⟩ := q_lp1 (step := s_X8_begin_43 a) (fun i h' => ∃ A', OB h' a 8 stL A' B I8 J ∧ Fr h h' a (a + 3) ∧ ∀ p, p < i → A' 0 p = nI 0 ∧ A' 1 p = nI 0) 6 0 (by omega)
    (fun i h1 hi ⟨A1, o1, r1, z1⟩ => by
      obtain ⟨h2, e2, o2, r2⟩ := X8_s0 o1 (i := i) (nI 0) hi
      obtain ⟨h3, e3, o3, r3⟩ := X8_s1 o2 (i := i) (nI 0) hi
      refine ⟨h3, ?_, _, o3, (r1.tr r2).tr r3, fun p hp => ?_⟩
      · simp (disch := omega) only [s_X8_begin_43, b_X8_begin_43, nS, Nat.add_zero, X8_rd o1, e2, X8_rd o2, e3]
      · rw [upF_self, upF_ne _ _ (show (0 : Nat) ≠ 1 by decide), upF_self, upF_ne _ _ (show (1 : Nat) ≠ 0 by decide)]
        by_cases hpi : p = i
        · subst hpi; exact ⟨pk_us, pk_us⟩
        · rw [pk_un hpi, pk_un hpi]; exact z1 p (by omega))
    (fun h1 _ => by simp (disch := omega) only [s_X8_begin_43, b_X8_begin_43, nS, Nat.add_zero])
    (h := h8) ⟨A, o8, r18, fun p hp => by omega⟩
  refine ⟨h9, A9, I8, ?_, o9, r9, ?_, by rw [hI8]; simp (disch := omega) only [uS]⟩
  · simp (disch := omega) only [F_X8_begin, nS, e1, e2, e3, e4, e5, e6, e7, e8, e9]
  · have sz0 : ∀ i, i ≠ 9 → sz.2 i = 0 := fun i hi => if_neg hi
    refine ⟨by rw [hI8]; simp (disch := omega) only [uS]; rfl, ?_, ?_, ?_, ?_, ?_, ?_, ?_, fun p hp => ?_, fun p hp => ?_⟩
    · rw [hI8, sz0 _ (by omega)]; simp (disch := omega) only [uS]
    · rw [hI8, sz0 _ (by omega)]; simp (disch := omega) only [uS]
    · rw [hI8, sz0 _ (by omega)]; simp (disch := omega) only [uS]
    · rw [hI8, sz0 _ (by omega)]; simp (disch := omega) only [uS]
    · rw [hI8, sz0 _ (by omega)]; simp (disch := omega) only [uS]
    · rw [hI8, sz0 _ (by omega)]; simp (disch := omega) only [uS]
    · rw [hI8]; simp (disch := omega) only [uS]; rfl
    · rw [sz0 _ (by omega)]; exact (z9 p hp).1
    · rw [sz0 _ (by omega)]; exact (z9 p hp).2
