/-! ===== the other deeds of the class; the reference's deeds ===== -/
section STC
variable {h : qH} {a b n : Nat} {m : MB} {A : Nat → Nat → Int32} {B : Nat → Nat → Int64} {I : Nat → Int32} {J : Nat → Int64} {s : SS}
theorem c_move (o : OB h a 8 stL A B I J) (sx : SX A I s) (w : WS m n s) {p : Nat} (hp : p < 6) {t : Nat} (ht : t < 2) : (tb (s.2 9) p = t ∧ CY h a b m B I J (F_X8_move h a (nI p) (nI t)) (s.1, un s.2 9 (s.2 9 ^^^ 2 ^ p))) ∨ (¬ tb (s.2 9) p = t ∧ F_X8_move h a (nI p) (nI t) = some (nI 0, h)) := by
  have hin := c_isIn o sx w.2.2 hp
  have hr := w.2.2
  have htb := tb_le (s.2 9) p
  by_cases h1 : tb (s.2 9) p = t
  · refine Or.inl ⟨h1, ?_⟩
    have hp2 := p2_lt (k := p) (by omega)
    obtain ⟨h1', e1', o1', r1'⟩ := X8_p9 o (nI (s.2 9 ^^^ 2 ^ p))
    obtain ⟨s3, s2, s4, s5, s6, s7, s8, s9, sa, sb⟩ := sx
    refine ⟨h1', A, _, ?_, o1', r1', ?_, by simp (disch := omega) only [uS]⟩
    · rw [h1] at hin
      simp (disch := omega) only [F_X8_move, F_X11_isPerson, nS, o.ob, hin, X8_rd o, s9, b_shl (show p < 31 by omega), b_xor (show s.2 9 < 2 ^ 31 by omega) hp2, e1']
    · exact ⟨by simp (disch := omega) only [uS]; exact s3, by simp (disch := omega) only [uS]; exact s2, by simp (disch := omega) only [uS]; exact s4, by simp (disch := omega) only [uS]; exact s5, by simp (disch := omega) only [uS]; exact s6, by simp (disch := omega) only [uS]; exact s7, by simp (disch := omega) only [uS]; exact s8, by simp (disch := omega) only [uS], fun p hp => by simp (disch := omega) only [uS]; exact sa p hp, fun p hp => by simp (disch := omega) only [uS]; exact sb p hp⟩
  · refine Or.inr ⟨h1, ?_⟩
    simp (disch := omega) only [F_X8_move, F_X11_isPerson, nS, o.ob, hin]
theorem c_pf (o : OB h a 8 stL A B I J) (sx : SX A I s) (c : CB h b m) (hd : b + 12 ≤ a ∨ a + 3 ≤ b) (w : WS m n s) (hn : n < 100) {d : Nat} (hd6 : d < 7) {x : Option Nat} (hx : ∀ l, x = some l → l < 2 ^ 31) (hx2 : d = 1 ∨ d = 2 → ∃ p, p < 6 ∧ x = some p) : (∃ s', pf m d x s = some s' ∧ CY h a b m B I J (F_X8_perform h a b (nI d) (oI x)) s') ∨ (pf m d x s = none ∧ F_X8_perform h a b (nI d) (oI x) = some (nI 0, h)) := by
  have ok := c.1
  have hL := L_le ok
  have hdue := c_due o sx c w.1
  have hdok := du_ok ok w.1
  have hr := w.2.2
  have k3 := w.2.1 3
  have hct := (ctt_ok ok).2
  obtain ⟨s3, s2, s4, s5, s6, s7, s8, s9, sa, sb⟩ := sx
  have sx : SX A I s := ⟨s3, s2, s4, s5, s6, s7, s8, s9, sa, sb⟩
  rcases (show d = 0 ∨ d = 1 ∨ d = 2 ∨ d = 3 ∨ d = 4 ∨ d = 5 ∨ d = 6 by omega) with rfl | rfl | rfl | rfl | rfl | rfl | rfl
  · exact c_say o sx c hd w hn hx
  · obtain ⟨p, hp, rfl⟩ := hx2 (Or.inl rfl)
    rw [oI_some]
    rcases c_move (b := b) o sx w hp (t := 1) (by omega) with ⟨h1, h', A', I', e, q⟩ | ⟨h1, e⟩
    · refine Or.inl ⟨_, if_pos h1, h', A', I', ?_, q⟩
      simp (disch := omega) only [F_X8_perform, nS, o.ob, e]
    · refine Or.inr ⟨if_neg h1, ?_⟩
      simp (disch := omega) only [F_X8_perform, nS, o.ob, e]
  · obtain ⟨p, hp, rfl⟩ := hx2 (Or.inr rfl)
    rw [oI_some]
    rcases c_move (b := b) o sx w hp (t := 0) (by omega) with ⟨h1, h', A', I', e, q⟩ | ⟨h1, e⟩
    · refine Or.inl ⟨_, if_pos h1, h', A', I', ?_, q⟩
      simp (disch := omega) only [F_X8_perform, nS, o.ob, e]
    · refine Or.inr ⟨if_neg h1, ?_⟩
      simp (disch := omega) only [F_X8_perform, nS, o.ob, e]
  · cases hl : du m s.1 with
    | none =>
      rw [hl, oI_none] at hdue
      refine Or.inr ⟨pf_n (Or.inl rfl) hl, ?_⟩
      simp (disch := omega) only [F_X8_perform, F_X8_dryUp, j_X8_perform_117, F_X11_isPerson, nS, o.ob, hdue, cS c]
    | some l =>
      have hlL := hdok l hl
      have hw := (wh_ok ok hlL).2
      have hin := c_isIn o sx hr hw
      rw [hl, oI_some] at hdue
      have htb := tb_le (s.2 9) (wh m l)
      by_cases h1 : tb (s.2 9) (wh m l) = 1
      · rw [h1] at hin
        obtain ⟨h1', e1', o1', r1'⟩ := X8_s1 o (i := wh m l) (nI (s.2 (20 + wh m l) + 1)) hw
        obtain ⟨h2', e2', o2', r2'⟩ := X8_p4 o1' (nI (s.2 3 + 1))
        have sx2 : SX (upF A 1 (upd (A 1) (wh m l) (nI (s.2 (20 + wh m l) + 1)))) (upd I 4 (nI (s.2 3 + 1))) (s.1, un (un s.2 (20 + wh m l) (s.2 (20 + wh m l) + 1)) 3 (s.2 3 + 1)) := by
          refine ⟨by simp (disch := omega) only [uS]; exact s3, by simp (disch := omega) only [uS]; exact s2, by simp (disch := omega) only [uS], by simp (disch := omega) only [uS]; exact s5, by simp (disch := omega) only [uS]; exact s6, by simp (disch := omega) only [uS]; exact s7, by simp (disch := omega) only [uS]; exact s8, by simp (disch := omega) only [uS]; exact s9, fun p hp => ?_, fun p hp => ?_⟩
          · rw [upF_ne _ _ (show (0 : Nat) ≠ 1 by decide)]
            simp (disch := omega) only [uS]; exact sa p hp
          · rw [upF_self]
            by_cases hpw : p = wh m l
            · subst hpw; simp (disch := omega) only [uS]
            · simp (disch := omega) only [uS]; exact sb p hp
        obtain ⟨h3, I3, e3', o3, r3, x3, q3⟩ := c_117 o2' sx2
        refine Or.inl ⟨(s.1, mn1 (un (un s.2 (20 + wh m l) (s.2 (20 + wh m l) + 1)) 3 (s.2 3 + 1))), (pf_3 hl).trans (if_pos h1), h3, _, I3, ?_, o3, (r1'.tr r2').tr r3, x3, by rw [q3]; simp (disch := omega) only [uS]⟩
        have sbw := sb (wh m l) hw
        simp (disch := omega) only [F_X8_perform, F_X8_dryUp, F_X11_isPerson, nS, o.ob, hdue, cS c, hin, X8_rd o, sbw, e1', X8_rd o1', s4, e2', e3']
      · have h1 : tb (s.2 9) (wh m l) = 0 := by omega
        rw [h1] at hin
        refine Or.inr ⟨(pf_3 hl).trans (if_neg (by omega)), ?_⟩
        simp (disch := omega) only [F_X8_perform, F_X8_dryUp, j_X8_perform_117, F_X11_isPerson, nS, o.ob, hdue, cS c, hin]
  · by_cases h0 : s.2 3 = 0
    · refine Or.inr ⟨?_, ?_⟩
      · cases hl : du m s.1 with
        | none => exact pf_n (Or.inr (Or.inl rfl)) hl
        | some l => exact (pf_4 hl).trans (if_neg (fun q => q.1 h0))
      rw [h0] at s4
      simp (disch := omega) only [F_X8_perform, F_X8_promptDue, j_X8_perform_117, nS, o.ob, hdue, X8_rd o, s4]
    · cases hl : du m s.1 with
      | none =>
        rw [hl, oI_none] at hdue
        refine Or.inr ⟨pf_n (Or.inr (Or.inl rfl)) hl, ?_⟩
        simp (disch := omega) only [F_X8_perform, F_X8_promptDue, j_X8_perform_117, nS, o.ob, hdue, X8_rd o, s4, cS c, c_isIn0]
      | some l =>
        have hlL := hdok l hl
        have hw := (wh_ok ok hlL).2
        have hin := c_isIn o sx hr hw
        rw [hl, oI_some] at hdue
        have htb := tb_le (s.2 9) (wh m l)
        by_cases h1 : tb (s.2 9) (wh m l) = 1
        · rw [h1] at hin
          obtain ⟨h1', e1', o1', r1'⟩ := X8_p7 o (nI (s.2 7 + 1))
          have sx1 : SX A (upd I 7 (nI (s.2 7 + 1))) (s.1, un s.2 7 (s.2 7 + 1)) := by
            refine ⟨by simp (disch := omega) only [uS]; exact s3, by simp (disch := omega) only [uS]; exact s2, by simp (disch := omega) only [uS]; exact s4, by simp (disch := omega) only [uS]; exact s5, by simp (disch := omega) only [uS]; exact s6, by simp (disch := omega) only [uS], by simp (disch := omega) only [uS]; exact s8, by simp (disch := omega) only [uS]; exact s9, fun p hp => by simp (disch := omega) only [uS]; exact sa p hp, fun p hp => by simp (disch := omega) only [uS]; exact sb p hp⟩
          obtain ⟨h2, A2, I2, e2, o2, r2, x2, q2⟩ := c_speak o1' sx1 (c.kept (fun q q1 q2 => r1' q (by omega))) hd hlL
          obtain ⟨h3, I3, e3', o3, r3, x3, q3⟩ := c_117 o2 x2
          refine Or.inl ⟨(some l, mn1 (spk m (un s.2 7 (s.2 7 + 1)) l)), (pf_4 hl).trans (if_pos ⟨h0, h1⟩), h3, _, I3, ?_, o3, (r1'.tr r2).tr r3, x3, by rw [q3, q2]; simp (disch := omega) only [uS]⟩
          simp (disch := omega) only [F_X8_perform, F_X8_promptDue, nS, o.ob, hdue, X8_rd o, s4, cS c, hin, s7, e1', o1'.ob, e2, e3']
        · have h1 : tb (s.2 9) (wh m l) = 0 := by omega
          rw [h1] at hin
          refine Or.inr ⟨(pf_4 hl).trans (if_neg (fun q => by have := q.2; omega)), ?_⟩
          simp (disch := omega) only [F_X8_perform, F_X8_promptDue, j_X8_perform_117, nS, o.ob, hdue, X8_rd o, s4, cS c, hin]
  · obtain ⟨h1', e1', o1', r1'⟩ := X8_p4 o (nI (s.2 3 + 1))
    have sx1 : SX A (upd I 4 (nI (s.2 3 + 1))) (s.1, un s.2 3 (s.2 3 + 1)) := by
      refine ⟨by simp (disch := omega) only [uS]; exact s3, by simp (disch := omega) only [uS]; exact s2, by simp (disch := omega) only [uS], by simp (disch := omega) only [uS]; exact s5, by simp (disch := omega) only [uS]; exact s6, by simp (disch := omega) only [uS]; exact s7, by simp (disch := omega) only [uS]; exact s8, by simp (disch := omega) only [uS]; exact s9, fun p hp => by simp (disch := omega) only [uS]; exact sa p hp, fun p hp => by simp (disch := omega) only [uS]; exact sb p hp⟩
    obtain ⟨h3, I3, e3', o3, r3, x3, q3⟩ := c_117 o1' sx1
    refine Or.inl ⟨_, rfl, h3, _, I3, ?_, o3, r1'.tr r3, x3, by rw [q3]; simp (disch := omega) only [uS]⟩
    simp (disch := omega) only [F_X8_perform, nS, X8_rd o, s4, e1', e3']
  · cases hl : du m s.1 with
    | none =>
      rw [hl, oI_none] at hdue
      refine Or.inr ⟨pf_n (Or.inr (Or.inr rfl)) hl, ?_⟩
      simp (disch := omega) only [F_X8_perform, F_X8_cutDue, j_X8_perform_117, nS, o.ob, hdue]
    | some l =>
      have hlL := hdok l hl
      have hw := (wh_ok ok hlL).2
      have hin := c_isIn o sx hr hw
      rw [hl, oI_some] at hdue
      have htb := tb_le (s.2 9) (wh m l)
      obtain ⟨h1', e1', o1', r1'⟩ := X8_p8 o (nI (s.2 8 + 1))
      obtain ⟨h2', e2', o2', r2'⟩ := X8_p3 o1' (nI l)
      obtain ⟨h4', e4', o4', r4'⟩ := X8_p4 o2' (nI 0)
      have sx4 : SX A (upd (upd (upd I 8 (nI (s.2 8 + 1))) 3 (nI l)) 4 (nI 0)) (some l, un (un s.2 8 (s.2 8 + 1)) 3 0) := by
        refine ⟨by simp (disch := omega) only [uS]; rfl, by simp (disch := omega) only [uS]; exact s2, by simp (disch := omega) only [uS], by simp (disch := omega) only [uS]; exact s5, by simp (disch := omega) only [uS]; exact s6, by simp (disch := omega) only [uS]; exact s7, by simp (disch := omega) only [uS], by simp (disch := omega) only [uS]; exact s9, fun p hp => by simp (disch := omega) only [uS]; exact sa p hp, fun p hp => by simp (disch := omega) only [uS]; exact sb p hp⟩
      obtain ⟨h3, I3, e3', o3, r3, x3, q3⟩ := c_117 o4' sx4
      have j36 : j_X8_cutDue_36 h a (nI l) = some (nI 1, h4') := by
        simp (disch := omega) only [j_X8_cutDue_36, nS, X8_rd o, s8, e1', e2', e4']
      have yes : (ctt m ≤ s.2 3 ∨ tb (s.2 9) (wh m l) = 0) → F_X8_perform h a b (nI 6) (oI x) = some (nI 1, h3) → (∃ s', pf m 6 x s = some s' ∧ CY h a b m B I J (F_X8_perform h a b (nI 6) (oI x)) s') ∨ (pf m 6 x s = none ∧ F_X8_perform h a b (nI 6) (oI x) = some (nI 0, h)) := fun hc e => Or.inl ⟨(some l, mn1 (un (un s.2 8 (s.2 8 + 1)) 3 0)), (pf_6 hl).trans (if_pos hc), h3, _, I3, e, o3, ((r1'.tr r2').tr r4').tr r3, x3, by rw [q3]; simp (disch := omega) only [uS]⟩
      by_cases hc : ctt m ≤ s.2 3
      · refine yes (Or.inl hc) ?_
        simp (disch := omega) only [F_X8_perform, F_X8_cutDue, nS, o.ob, hdue, X8_rd o, s4, cS c, j36, e3']
      · by_cases h1 : tb (s.2 9) (wh m l) = 0
        · refine yes (Or.inr h1) ?_
          rw [h1] at hin
          simp (disch := omega) only [F_X8_perform, F_X8_cutDue, nS, o.ob, hdue, X8_rd o, s4, cS c, hin, j36, e3']
        · have h1 : tb (s.2 9) (wh m l) = 1 := by omega
          rw [h1] at hin
          refine Or.inr ⟨(pf_6 hl).trans (if_neg (by omega)), ?_⟩
          simp (disch := omega) only [F_X8_perform, F_X8_cutDue, j_X8_perform_117, nS, o.ob, hdue, X8_rd o, s4, cS c, hin]
end STC
/-! the reference -/
def RNp (R : Nat → Int32) (v : Nat → Nat) : Prop := ∀ i, i < 30 → i ≠ 1 → i ≠ 2 → i ≠ 6 → R i = nI (v i)
theorem RNp.up {R : Nat → Int32} {v : Nat → Nat} (r : RNp R v) {j x : Nat} : RNp (upd R j (nI x)) (un v j x) := by
  intro i h1 h2 h3 h4
  by_cases hij : i = j
  · subst hij; simp (disch := omega) only [uS]
  · simp (disch := omega) only [uS]; exact r i h1 h2 h3 h4
theorem RNp.sp {R : Nat → Int32} {v : Nat → Nat} (r : RNp R v) {j : Nat} {y : Int32} (hj : j = 1 ∨ j = 2 ∨ j = 6) : RNp (upd R j y) v := by
  intro i h1 h2 h3 h4
  rw [show upd R j y i = R i from if_neg (by omega)]
  exact r i h1 h2 h3 h4
def RN (m : MB) (R : Nat → Int32) (s : SS) : Prop := R 1 = oI s.1 ∧ R 2 = oI (du m s.1) ∧ R 6 = nI (s.2 5 - fre m) ∧ RNp R s.2
section STD
variable {h : qH} {a n : Nat} {A : Nat → Nat → Int32} {B : Nat → Nat → Int64} {I : Nat → Int32} {J : Nat → Int64} {b : Nat → Int32} {k : Nat} {s : SS}
theorem HB.n28 {A A' : Nat → Nat → Int32} {I : Nat → Int32} {b : Nat → Int32} {k : Nat} (hb : HB A I b k) (n : On [28] A A') : HB A' I b k := hb.cg (n 6 (by decide)) (n 25 (by decide)) (n 26 (by decide)) rfl rfl
theorem d_there (o : OB h a 12 mdL A B I J) (h9 : A 28 9 = nI (s.2 9)) (hr : s.2 9 < 64) {p : Nat} (hp : p < 6) : F_X12_isThere h a (nI p) = some (nI (tb (s.2 9) p)) := by
  have ht := tb_le (s.2 9) p
  by_cases h1 : tb (s.2 9) p = 1
  · rw [h1]
    simp (disch := omega) only [F_X12_isThere, nS, X12_rd o, h9, bS, h1]
  · have h1 : tb (s.2 9) p = 0 := by omega
    rw [h1]
    simp (disch := omega) only [F_X12_isThere, nS, X12_rd o, h9, bS, h1]
theorem d_goesOn (o : OB h a 12 mdL A B I J) (hb : HB A I b k) {v : Nat → Nat} {l : Nat} (hl : l < mbL (bMB b)) (h6 : A 28 6 = nI (v 5 - fre (bMB b))) (rp : RNp (A 28) v) : ∃ h' A', F_X12_goesOn h a (nI l) = some h' ∧ OB h' a 12 mdL A' B I J ∧ Fr h h' a (a + 27) ∧ On [28] A A' ∧ RN (bMB b) (A' 28) (some l, un v 3 0) := by
  have ok := bMB_ok hb.1
  have hL := L_le ok
  obtain ⟨h1, e1, o1, r1⟩ := X12_s28 o (i := 1) (nI l) (by omega)
  have n1 : On [28] A (upF A 28 (upd (A 28) 1 (nI l))) := On.up (by decide)
  have hbe := d_beh0 o1 (hb.n28 n1) hl
  obtain ⟨h2, e2, o2, r2⟩ := X12_s28 o1 (i := 2) (oI (nxt (bMB b) (some l))) (by omega)
  obtain ⟨h3, e3, o3, r3⟩ := X12_s28 o2 (i := 3) (nI 0) (by omega)
  refine ⟨h3, _, ?_, o3, (r1.tr r2).tr r3, (n1.tr (On.up (by decide))).tr (On.up (by decide)), ?_⟩
  · simp (disch := omega) only [F_X12_goesOn, nS, X12_rd o, e1, X12_rd o1, hbe, e2, X12_rd o2, e3]
  · rw [upF_self, upF_self, upF_self]
    refine ⟨by simp (disch := omega) only [uS]; rfl, by simp (disch := omega) only [uS]; rfl, by simp (disch := omega) only [uS]; exact h6, ?_⟩
    exact RNp.up ((rp.sp (Or.inl rfl)).sp (Or.inr (Or.inl rfl)))
theorem d_isSaid (o : OB h a 12 mdL A B I J) (hb : HB A I b k) {v : Nat → Nat} {l : Nat} (hl : l < mbL (bMB b)) (h6 : A 28 6 = nI (v 5 - fre (bMB b))) (rp : RNp (A 28) v) : ∃ h' A', F_X12_isSaid h a (nI l) = some h' ∧ OB h' a 12 mdL A' B I J ∧ Fr h h' a (a + 27) ∧ On [28] A A' ∧ RN (bMB b) (A' 28) (some l, spk (bMB b) v l) := by
  have ok := bMB_ok hb.1
  have hL := L_le ok
  have hw := (wh_ok ok hl).2
  have e4 := rp 4 (by omega) (by omega) (by omega) (by omega)
  have ew := rp (10 + wh (bMB b) l) (by omega) (by omega) (by omega) (by omega)
  have hhm := (d_pack o hb).2.2.2.2.2.2.2.1 l hl
  obtain ⟨h1, e1, o1, r1⟩ := X12_s28 o (i := 4) (nI (v 4 + hm (bMB b) l)) (by omega)
  have n1 : On [28] A (upF A 28 (upd (A 28) 4 (nI (v 4 + hm (bMB b) l)))) := On.up (by decide)
  have hwo := d_whl o1 (hb.n28 n1) hl
  have ew1 : upF A 28 (upd (A 28) 4 (nI (v 4 + hm (bMB b) l))) 28 (10 + wh (bMB b) l) = nI (v (10 + wh (bMB b) l)) := by
    rw [upF_self]; simp (disch := omega) only [uS]; exact ew
  obtain ⟨h2, e2, o2, r2⟩ := X12_s28 o1 (i := 10 + wh (bMB b) l) (nI (v (10 + wh (bMB b) l) + 1)) (by omega)
  have n2 := n1.tr (On.up (S := [28]) (k := 28) (f := upd (upF A 28 (upd (A 28) 4 (nI (v 4 + hm (bMB b) l))) 28) (10 + wh (bMB b) l) (nI (v (10 + wh (bMB b) l) + 1))) (by decide))
  have rp2 : RNp (upF (upF A 28 (upd (A 28) 4 (nI (v 4 + hm (bMB b) l)))) 28 (upd (upF A 28 (upd (A 28) 4 (nI (v 4 + hm (bMB b) l))) 28) (10 + wh (bMB b) l) (nI (v (10 + wh (bMB b) l) + 1))) 28) (un (un v 4 (v 4 + hm (bMB b) l)) (10 + wh (bMB b) l) (v (10 + wh (bMB b) l) + 1)) := by
    rw [upF_self, upF_self]
    exact rp.up.up
  obtain ⟨h3, A3, e3, o3, r3, n3, rn3⟩ := d_goesOn o2 (hb.n28 n2) hl (v := un (un v 4 (v 4 + hm (bMB b) l)) (10 + wh (bMB b) l) (v (10 + wh (bMB b) l) + 1)) (by
    rw [upF_self, upF_self]
    simp (disch := omega) only [uS]; exact h6) rp2
  refine ⟨h3, A3, ?_, o3, (r1.tr r2).tr r3, n2.tr n3, rn3⟩
  simp (disch := omega) only [F_X12_isSaid, nS, X12_rd o, e4, hhm, e1, X12_rd o1, hwo, ew1, e2, o2.ob, e3]
/-- the reference does a deed, or doesn't -/
def DY (h : qH) (a : Nat) (A : Nat → Nat → Int32) (B : Nat → Nat → Int64) (I : Nat → Int32) (J : Nat → Int64) (m : MB) (f : Option (Int32 × qH)) (r : Nat) (s' : SS) : Prop := ∃ h' A', f = some (nI r, h') ∧ OB h' a 12 mdL A' B I J ∧ Fr h h' a (a + 27) ∧ On [28] A A' ∧ RN m (A' 28) s'
theorem d_78 (o : OB h a 12 mdL A B I J) {m : MB} {la : Option Nat} {v : Nat → Nat} (rn : RN m (A 28) (la, v)) : DY h a A B I J m (j_X12_does_78 h a (nI 1)) 1 (la, mn1 v) ∧ DY h a A B I J m (j_X12_does_78 h a (nI 0)) 0 (la, v) := by
  obtain ⟨r1, r2, r6, rp⟩ := rn
  have e0 := rp 0 (by omega) (by omega) (by omega) (by omega)
  dsimp only at e0
  refine ⟨?_, ?_⟩
  · obtain ⟨h1, e1, o1, r1'⟩ := X12_s28 o (i := 0) (nI (v 0 + 1)) (by omega)
    refine ⟨h1, _, ?_, o1, r1', On.up (by decide), ?_⟩
    · simp (disch := omega) only [j_X12_does_78, nS, X12_rd o, e0, e1]
    · rw [upF_self]
      unfold mn1
      exact ⟨by simp (disch := omega) only [uS]; exact r1, by simp (disch := omega) only [uS]; exact r2, by simp (disch := omega) only [uS]; exact r6, rp.up⟩
  · obtain ⟨h1, e1, o1, r1'⟩ := X12_s28 o (i := 0) (nI (v 0)) (by omega)
    refine ⟨h1, _, ?_, o1, r1', On.up (by decide), ?_⟩
    · simp (disch := omega) only [j_X12_does_78, nS, X12_rd o, e0, Nat.add_zero, e1]
    · rw [upF_self]
      refine ⟨by simp (disch := omega) only [uS]; exact r1, by simp (disch := omega) only [uS]; exact r2, by simp (disch := omega) only [uS]; exact r6, fun i h1 h2 h3 h4 => ?_⟩
      by_cases hi0 : i = 0
      · subst hi0; simp (disch := omega) only [uS]
      · simp (disch := omega) only [uS]; exact rp i h1 h2 h3 h4
theorem DY.w {m : MB} {h0 : qH} {A0 : Nat → Nat → Int32} {f : Option (Int32 × qH)} {r : Nat} {s' : SS} (d : DY h a A B I J m f r s') (fr : Fr h0 h a (a + 27)) (n : On [28] A0 A) : DY h0 a A0 B I J m f r s' := by
  obtain ⟨h', A', e, o', r', n', rn⟩ := d
  exact ⟨h', A', e, o', fr.tr r', n.tr n', rn⟩
theorem d_isFol (o : OB h a 12 mdL A B I J) (hb : HB A I b k) (h1 : A 28 1 = oI s.1) (w : okL (bMB b) s.1) {l : Nat} (hl : l < 2 ^ 31) : F_X12_isFollower h a (nI l) = some (nI (if l ∈ fos (bMB b) s.1 then 1 else 0)) := by
  have ok := bMB_ok hb.1
  have hL := L_le ok
  cases hla : s.1 with
  | none =>
    rw [hla, oI_none] at h1
    show _ = some (nI (if l ∈ [] then 1 else 0))
    rw [if_neg (by simp)]
    have lp : q_lp (s_X12_isFollower_2 h a (nI l)) q_N (nI 0) = some (.inr ()) := by
      refine q_lp_stop (n := 999999) ?_
      simp (disch := omega) only [s_X12_isFollower_2, b_X12_isFollower_2, nS, X12_rd o, h1]
    simp (disch := omega) only [F_X12_isFollower, nS, lp]
  | some q =>
    have hq := w q hla
    have hf := fn_le ok hq
    rw [hla, oI_some] at h1
    have efm := (d_pack o hb).2.2.2.2.2.2.2.2.2.2.2 q (by omega)
    have st : ∀ i, i < fn (bMB b) q → s_X12_isFollower_2 h a (nI l) (nI i) = if gg (bMB b) q i = l then some (.inr (.inl ())) else some (.inl (nI (i + 1))) := by
      intro i hi
      have hg := gg_lt ok hq hi
      have hbe := (d_pack o hb).2.2.2.1 q i (by omega) hi
      by_cases he : gg (bMB b) q i = l
      · rw [if_pos he]
        simp (disch := omega) only [s_X12_isFollower_2, b_X12_isFollower_2, nS, X12_rd o, h1, efm, hbe]
      · rw [if_neg he]
        simp (disch := omega) only [s_X12_isFollower_2, b_X12_isFollower_2, nS, X12_rd o, h1, efm, hbe]
    have hstop : s_X12_isFollower_2 h a (nI l) (nI (fn (bMB b) q)) = some (.inr (.inr ())) := by
      simp (disch := omega) only [s_X12_isFollower_2, b_X12_isFollower_2, nS, X12_rd o, h1, efm]
    show _ = some (nI (if l ∈ mbF (bMB b) q then 1 else 0))
    rcases q_lp_find (ρ := Unit ⊕ Unit) (step := s_X12_isFollower_2 h a (nI l)) (fn (bMB b) q) (by omega) (fun i => gg (bMB b) q i = l) (yes := fun _ => .inl ()) (no := .inr ()) (fun i hi hp => by rw [st i hi, if_pos hp]) (fun i hi hp => by rw [st i hi, if_neg hp]) hstop (N := q_N) (q_lt_N (by omega)) with ⟨i, hi, hp, -, he⟩ | ⟨hp, he⟩
    · rw [if_pos (mem_find.mpr ⟨i, hi, hp⟩)]
      simp (disch := omega) only [F_X12_isFollower, nS, he]
    · rw [if_neg (fun q2 => by obtain ⟨i, hi, hp2⟩ := mem_find.mp q2; exact hp i hi hp2)]
      simp (disch := omega) only [F_X12_isFollower, nS, he]
end STD
