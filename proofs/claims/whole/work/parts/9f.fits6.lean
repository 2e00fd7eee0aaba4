/-! ===== call: fits, both sides ===== -/
section FSH
variable {h : qH} {a b ga : Nat} {m : MB} {g : Nat → Int32} {A : Nat → Nat → Int32} {B : Nat → Nat → Int64} {I : Nat → Int32} {J : Nat → Int64}
theorem c_fshow (o : OB h a 2 fiL A B I J) (c : CB h b m) (hdd : b + 12 ≤ a ∨ a + 4 ≤ b) (cg : CG h ga g) (hg : ga + 2 ≤ a ∨ a + 4 ≤ ga) (x : Int32) : ∃ r h', F_X2_show h a b ga x = some (r, h') ∧ ansF m g x r ∧ OBx h' a 2 fiL ∧ Fr h h' a (a + 4) := by
  have ok := c.1
  have hL := L_le ok
  have hN := (lv_ok cg.1).2
  obtain ⟨h1, A1, B1, e1, o1, r1, ft, fz⟩ := c_countFrom o c hdd cg hg
  have c1 : CB h1 b m := c.kept (fun q q1 q2 => r1 q (by omega))
  have cg1 : CG h1 ga g := cg.kept (fun q q1 q2 => r1 q (by omega))
  have ff := ft.ff
  have haw := aw_63 ok (g := g) hN
  have hne : aw m g ≠ 0 → eN g = 0 ∨ (0 < mbL m ∧ fr m g (eN g - 1) 0 ≠ 0) := by
    intro hq
    unfold aw at hq
    by_cases h0 : eN g = 0
    · exact Or.inl h0
    · rw [if_neg h0] at hq
      by_cases h1 : mbL m = 0
      · rw [if_pos h1] at hq; exact absurd rfl hq
      · rw [if_neg h1] at hq; exact Or.inr ⟨by omega, hq⟩
  have en : F_X2_show h a b ga x = j_X2_show_26 h1 a b ga x (lN (aw m g)) := by
    by_cases h0 : eN g = 0
    · have : aw m g = 1 := by unfold aw; rw [if_pos h0]
      rw [this]
      simp (disch := omega) only [F_X2_show, nS, lS, o.ob, e1, gS cg1, h0]
    · have ea := c_at0 o1 (v := 0) (l := 0) (by omega) (by omega)
      have hv : B1 0 (0 * 20 + 0) = lN (aw m g) := by
        unfold aw
        rw [if_neg h0]
        by_cases h2 : mbL m = 0
        · rw [if_pos h2]; exact fz (Or.inr h2)
        · rw [if_neg h2, ff 0 0 (by omega) (by omega)]; rfl
      rw [hv] at ea
      simp (disch := omega) only [F_X2_show, nS, o.ob, e1, gS cg1, X2_rd o1, ea]
  have f20 : 0 < eN g → 0 < mbL m → A1 2 0 = nI (fs m g (eN g - 1) 0) := fun q1 q2 => by
    have := ((ft (eN g - 1) 0 (by omega) q2).1 (Or.inl (by omega))).2
    rw [show (eN g - 1 - (eN g - 1)) * 20 + 0 = 0 by omega] at this
    exact this
  have gs : ∀ _ : Unit, aw m g ≠ 0 → ∃ h', F_X2_bestGuess h1 a b ga = some (oI (gu m g (eN g)).1, h') ∧ OBx h' a 2 fiL ∧ Fr h1 h' a (a + 4) := fun _ hz => c_guess o1 c1 hdd cg1 hg ff (fun q => fz (Or.inl q)) (hne hz)
  clear ft fz
  rw [en]
  rcases nSg x with hx | ⟨q, hq, rfl⟩
  · refine ⟨lM2, h1, ?_, ansF.neg hN hx, ⟨A1, B1, I, J, o1⟩, r1⟩
    simp (disch := omega) only [j_X2_show_26, j_X2_show_133, j_X2_show_134, j_X2_show_157, j_X2_show_158, nS, lS, gN hx]
  rcases (show q = 0 ∨ q = 1 ∨ q = 2 ∨ (10 ≤ q ∧ q - 10 < eN g) ∨ (30 ≤ q ∧ q - 30 < eN g) ∨ (3 ≤ q ∧ ¬ (10 ≤ q ∧ q - 10 < eN g) ∧ ¬ (30 ≤ q ∧ q - 30 < eN g)) by omega) with rfl | rfl | rfl | ⟨q1, q2⟩ | ⟨q1, q2⟩ | ⟨q1, q2, q3⟩
  · refine ⟨lN (aw m g), h1, ?_, ansF.one hN (by omega) ⟨fun _ => rfl, fun q => by omega, fun q => by omega, fun k hk q => by omega, fun k hk q => by omega, fun q => absurd rfl q.1⟩, ⟨A1, B1, I, J, o1⟩, r1⟩
    simp (disch := omega) only [j_X2_show_26, nS]
  · by_cases hz : aw m g = 0
    · refine ⟨lM1, h1, ?_, ansF.one hN (by omega) ⟨fun q => by omega, fun _ => by rw [if_pos hz], fun q => by omega, fun k hk q => by omega, fun k hk q => by omega, fun q => absurd rfl q.2.1⟩, ⟨A1, B1, I, J, o1⟩, r1⟩
      rw [hz]
      simp (disch := omega) only [j_X2_show_26, nS, lS]
    · by_cases h0 : eN g = 0
      · refine ⟨lN 0, h1, ?_, ansF.one hN (by omega) ⟨fun q => by omega, fun _ => by rw [if_neg hz, if_pos h0], fun q => by omega, fun k hk q => by omega, fun k hk q => by omega, fun q => absurd rfl q.2.1⟩, ⟨A1, B1, I, J, o1⟩, r1⟩
        simp (disch := omega) only [j_X2_show_26, nS, lS, gS cg1, h0]
      · have hp := (hne hz).resolve_left h0
        have e20 := f20 (by omega) hp.1
        refine ⟨(nI (fs m g (eN g - 1) 0)).toInt64, h1, ?_, ansF.one hN (by omega) ⟨fun q => by omega, fun _ => by rw [if_neg hz, if_neg h0], fun q => by omega, fun k hk q => by omega, fun k hk q => by omega, fun q => absurd rfl q.2.1⟩, ⟨A1, B1, I, J, o1⟩, r1⟩
        have hfs := fs_le m g (eN g - 1) 0
        simp (disch := omega) only [j_X2_show_26, nS, lS, gS cg1, X2_rd o1, e20]
  · by_cases hz : aw m g = 0
    · refine ⟨lM1, h1, ?_, ansF.one hN (by omega) ⟨fun q => by omega, fun q => by omega, fun _ => by rw [if_pos hz], fun k hk q => by omega, fun k hk q => by omega, fun q => absurd rfl q.2.2.1⟩, ⟨A1, B1, I, J, o1⟩, r1⟩
      rw [hz]
      simp (disch := omega) only [j_X2_show_26, nS, lS]
    · obtain ⟨h2, e2, x2, r2⟩ := gs () hz
      refine ⟨(oI (gu m g (eN g)).1).toInt64, h2, ?_, ansF.one hN (by omega) ⟨fun q => by omega, fun q => by omega, fun _ => by rw [if_neg hz], fun k hk q => by omega, fun k hk q => by omega, fun q => absurd rfl q.2.2.1⟩, x2, r1.tr r2⟩
      simp (disch := omega) only [j_X2_show_26, nS, lS, o1.ob, e2]
  · obtain ⟨k, rfl⟩ : ∃ k, q = 10 + k := ⟨q - 10, by omega⟩
    have hk : k < eN g := by omega
    have e10 : 10 + k - 10 = k := by omega
    by_cases hz : aw m g = 0
    · refine ⟨lM1, h1, ?_, ansF.one hN (by omega) ⟨fun q => by omega, fun q => by omega, fun q => by omega, fun k hk q => by rw [if_pos hz], fun k hk q => by omega, fun q => absurd rfl (q.2.2.2.1 k hk)⟩, ⟨A1, B1, I, J, o1⟩, r1⟩
      rw [hz]
      simp (disch := omega) only [j_X2_show_26, j_X2_show_134, j_X2_show_157, j_X2_show_158, j_X2_show_174, nS, lS, gS cg1, e10]
    · have hp := (hne hz).resolve_left (by omega)
      have ew := c_firstWay o1 c1 hN ff hp.1 hk
      refine ⟨(oI (fa m g k)).toInt64, h1, ?_, ansF.one hN (by omega) ⟨fun q => by omega, fun q => by omega, fun q => by omega, fun k' hk' q => by rw [if_neg hz, show k' = k by omega], fun k hk q => by omega, fun q => absurd rfl (q.2.2.2.1 k hk)⟩, ⟨A1, B1, I, J, o1⟩, r1⟩
      simp (disch := omega) only [j_X2_show_26, j_X2_show_134, j_X2_show_157, j_X2_show_158, j_X2_show_174, nS, lS, gS cg1, e10, o1.ob, ew]
  · obtain ⟨k, rfl⟩ : ∃ k, q = 30 + k := ⟨q - 30, by omega⟩
    have hk : k < eN g := by omega
    have e30 : 30 + k - 30 = k := by omega
    by_cases hz : aw m g = 0
    · refine ⟨lM1, h1, ?_, ansF.one hN (by omega) ⟨fun q => by omega, fun q => by omega, fun q => by omega, fun k hk q => by omega, fun k hk q => by rw [if_pos hz], fun q => absurd rfl (q.2.2.2.2 k hk)⟩, ⟨A1, B1, I, J, o1⟩, r1⟩
      rw [hz]
      simp (disch := omega) only [j_X2_show_26, j_X2_show_133, j_X2_show_134, j_X2_show_158, j_X2_show_174, nS, lS, gS cg1, e30]
    · have hp := (hne hz).resolve_left (by omega)
      obtain ⟨y, h2, e2, hy, x2, r2⟩ := c_sureAt o1 c1 hdd cg1 hg ff hp.1 hp.2 hk
      refine ⟨y.toInt64, h2, ?_, ansF.one hN (by omega) ⟨fun q => by omega, fun q => by omega, fun q => by omega, fun k hk q => by omega, fun k' hk' q => by rw [if_neg hz, show k' = k by omega]; exact ⟨y, hy, rfl⟩, fun q => absurd rfl (q.2.2.2.2 k hk)⟩, x2, r1.tr r2⟩
      simp (disch := omega) only [j_X2_show_26, j_X2_show_133, j_X2_show_134, j_X2_show_158, j_X2_show_174, nS, lS, gS cg1, e30, o1.ob, e2]
  · refine ⟨lM2, h1, ?_, ansF.one hN hq ⟨fun q => by omega, fun q => by omega, fun q => by omega, fun k hk q => by omega, fun k hk q => by omega, fun _ => rfl⟩, ⟨A1, B1, I, J, o1⟩, r1⟩
    rcases (show q < 10 ∨ (10 ≤ q ∧ q < 30) ∨ 30 ≤ q by omega) with h3 | ⟨h3, h4⟩ | h3
    · simp (disch := omega) only [j_X2_show_26, j_X2_show_133, j_X2_show_134, j_X2_show_157, j_X2_show_158, nS, lS]
    · simp (disch := omega) only [j_X2_show_26, j_X2_show_133, j_X2_show_134, j_X2_show_157, j_X2_show_158, nS, lS, gS cg1]
    · simp (disch := omega) only [j_X2_show_26, j_X2_show_133, j_X2_show_134, j_X2_show_157, j_X2_show_158, nS, lS, gS cg1]
end FSH
section FSD
variable {h : qH} {a : Nat} {g : Nat → Int32} {j : Nat} {A : Nat → Nat → Int32} {B : Nat → Nat → Int64} {I : Nat → Int32} {J : Nat → Int64} {b : Nat → Int32} {k : Nat}
/-- what the reference answers once the book and the log are found -/
def d_fansB (h : qH) (a : Nat) (x : Int32) : Option (Int64 × qH) := (F_X12_voices h a).bind fun x26 => (F_X12_in h x (30 : Int32) ((29 : Int32) + x26)).bind fun x28 => (if x28 = 0 then (if x = (1 : Int32) then (q_fL h a 12 43).bind fun x40 => (if (lg_cmp x40 (0 : Int64)) = 0 then some ((-1 : Int64), h) else (q_ob h a 12).bind fun _ => (F_X12_voices h a).bind fun x45 => (if x45 = 0 then some ((0 : Int64), h) else (q_fR h a 12 42).bind fun x48 => (q_aI h .int x48 (0 : Int32)).bind fun x50 => some (x50.toInt64, h))) else (if x = 0 then (q_fL h a 12 43).bind fun x38 => some (x38, h) else (if x = (2 : Int32) then (q_ob h a 12).bind fun _ => (F_X12_guess h a).bind fun x36 => some (x36.toInt64, h) else some ((-2 : Int64), h)))) else (q_ob h a 12).bind fun _ => (F_X12_sureOf h a (x - (30 : Int32))).bind fun x54 => some (x54.toInt64, h))
def d_fans (h : qH) (a : Nat) (x : Int32) : Option (Int64 × qH) := (q_ob h a 12).bind fun _ => (F_X12_voices h a).bind fun x19 => (F_X12_in h x (10 : Int32) ((9 : Int32) + x19)).bind fun x21 => (if x21 = 0 then (q_ob h a 12).bind fun _ => d_fansB h a x else (q_ob h a 12).bind fun _ => (F_X12_firstAt h a (x - (10 : Int32))).bind fun x58 => some (x58.toInt64, h))
theorem d_fshow (o : OB h a 12 mdL A B I J) (hb : HB A I b k) (hg : HG A I g j) (w : RW2 (bMB b) g A B J) (x : Int32) : ∃ r, d_fans h a x = some (r, h) ∧ ansF (bMB b) g x r := by
  have ok := bMB_ok hb.1
  have hL := L_le ok
  have hN := (lv_ok hg.1).2
  have haw := aw_63 ok (g := g) hN
  have ev := (g_pack o hg).1
  have e43 : q_fL h a 12 43 = some (lN (aw (bMB b) g)) := by rw [← w.2]; exact o.fL (k := 43) rfl
  have egs := d_guess o hb hg w
  have o10 : ∀ {y : Int32}, (y < nI 0 ∨ ∃ n, y = nI n ∧ n < 2 ^ 31 ∧ (n < 10 ∨ 9 + eN g < n)) → F_X12_in h y (nI 10) (nI (9 + eN g)) = some (nI 0) := fun hy => in_out h (by omega) (by omega) hy
  have o30 : ∀ {y : Int32}, (y < nI 0 ∨ ∃ n, y = nI n ∧ n < 2 ^ 31 ∧ (n < 30 ∨ 29 + eN g < n)) → F_X12_in h y (nI 30) (nI (29 + eN g)) = some (nI 0) := fun hy => in_out h (by omega) (by omega) hy
  have toB : ∀ {y : Int32}, (y < nI 0 ∨ ∃ n, y = nI n ∧ n < 2 ^ 31 ∧ (n < 10 ∨ 9 + eN g < n)) → d_fans h a y = d_fansB h a y := fun hy => by
    have := o10 hy
    simp (disch := omega) only [d_fans, nS, ev, o.ob, this]
  rcases nSg x with hx | ⟨q, hq, rfl⟩
  · refine ⟨lM2, ?_, ansF.neg hN hx⟩
    have := o30 (Or.inl hx)
    rw [toB (Or.inl hx)]
    simp (disch := omega) only [d_fansB, nS, lS, ev, this, gN hx]
  rcases (show q = 0 ∨ q = 1 ∨ q = 2 ∨ (10 ≤ q ∧ q - 10 < eN g) ∨ (30 ≤ q ∧ q - 30 < eN g) ∨ (3 ≤ q ∧ ¬ (10 ≤ q ∧ q - 10 < eN g) ∧ ¬ (30 ≤ q ∧ q - 30 < eN g)) by omega) with rfl | rfl | rfl | ⟨q1, q2⟩ | ⟨q1, q2⟩ | ⟨q1, q2, q3⟩
  · refine ⟨lN (aw (bMB b) g), ?_, ansF.one hN (by omega) ⟨fun _ => rfl, fun q => by omega, fun q => by omega, fun k hk q => by omega, fun k hk q => by omega, fun q => absurd rfl q.1⟩⟩
    rw [toB (Or.inr ⟨0, rfl, by omega, by omega⟩)]
    have := o30 (Or.inr ⟨0, rfl, by omega, by omega⟩)
    simp (disch := omega) only [d_fansB, nS, ev, this, e43]
  · rw [toB (Or.inr ⟨1, rfl, by omega, by omega⟩)]
    have := o30 (Or.inr ⟨1, rfl, by omega, by omega⟩)
    by_cases hz : aw (bMB b) g = 0
    · refine ⟨lM1, ?_, ansF.one hN (by omega) ⟨fun q => by omega, fun _ => by rw [if_pos hz], fun q => by omega, fun k hk q => by omega, fun k hk q => by omega, fun q => absurd rfl q.2.1⟩⟩
      rw [hz] at e43
      simp (disch := omega) only [d_fansB, nS, lS, ev, this, e43]
    · by_cases h0 : eN g = 0
      · refine ⟨lN 0, ?_, ansF.one hN (by omega) ⟨fun q => by omega, fun _ => by rw [if_neg hz, if_pos h0], fun q => by omega, fun k hk q => by omega, fun k hk q => by omega, fun q => absurd rfl q.2.1⟩⟩
        rw [h0] at ev this
        simp (disch := omega) only [d_fansB, nS, lS, ev, this, e43, o.ob]
      · have hl : 0 < mbL (bMB b) := by
          rcases Nat.eq_zero_or_pos (mbL (bMB b)) with hl | hl
          · exact absurd (by unfold aw; rw [if_neg h0, if_pos hl]) hz
          · exact hl
        have e20 := (w.1 0 0 (by omega) hl).2.1
        have hfs := fs_le (bMB b) g (eN g - 1) 0
        refine ⟨(nI (fs (bMB b) g (eN g - 1) 0)).toInt64, ?_, ansF.one hN (by omega) ⟨fun q => by omega, fun _ => by rw [if_neg hz, if_neg h0], fun q => by omega, fun k hk q => by omega, fun k hk q => by omega, fun q => absurd rfl q.2.1⟩⟩
        have e20 : A 42 0 = nI (fs (bMB b) g (eN g - 1) 0) := e20
        simp (disch := omega) only [d_fansB, nS, lS, ev, this, e43, o.ob, X12_rd o, e20]
  · rw [toB (Or.inr ⟨2, rfl, by omega, by omega⟩)]
    have := o30 (Or.inr ⟨2, rfl, by omega, by omega⟩)
    by_cases hz : aw (bMB b) g = 0
    · refine ⟨lM1, ?_, ansF.one hN (by omega) ⟨fun q => by omega, fun q => by omega, fun _ => by rw [if_pos hz], fun k hk q => by omega, fun k hk q => by omega, fun q => absurd rfl q.2.2.1⟩⟩
      rw [if_pos hz] at egs
      simp (disch := omega) only [d_fansB, nS, lS, ev, this, o.ob, egs]
    · refine ⟨(oI (gu (bMB b) g (eN g)).1).toInt64, ?_, ansF.one hN (by omega) ⟨fun q => by omega, fun q => by omega, fun _ => by rw [if_neg hz], fun k hk q => by omega, fun k hk q => by omega, fun q => absurd rfl q.2.2.1⟩⟩
      rw [if_neg hz] at egs
      simp (disch := omega) only [d_fansB, nS, lS, ev, this, o.ob, egs]
  · obtain ⟨k', rfl⟩ : ∃ k, q = 10 + k := ⟨q - 10, by omega⟩
    have hk : k' < eN g := by omega
    have e10 : 10 + k' - 10 = k' := by omega
    have ef := d_firstAt o hb hN w hk
    have hin : F_X12_in h (nI (10 + k')) (nI 10) (nI (9 + eN g)) = some (nI 1) := in_in h (by omega) (by omega) (by omega)
    by_cases hz : aw (bMB b) g = 0
    · rw [if_pos hz] at ef
      refine ⟨lM1, ?_, ansF.one hN (by omega) ⟨fun q => by omega, fun q => by omega, fun q => by omega, fun k hk q => by rw [if_pos hz], fun k hk q => by omega, fun q => absurd rfl (q.2.2.2.1 k' hk)⟩⟩
      simp (disch := omega) only [d_fans, nS, lS, ev, hin, o.ob, e10, ef]
    · rw [if_neg hz] at ef
      refine ⟨(oI (fa (bMB b) g k')).toInt64, ?_, ansF.one hN (by omega) ⟨fun q => by omega, fun q => by omega, fun q => by omega, fun k'' hk'' q => by rw [if_neg hz, show k'' = k' by omega], fun k hk q => by omega, fun q => absurd rfl (q.2.2.2.1 k' hk)⟩⟩
      simp (disch := omega) only [d_fans, nS, lS, ev, hin, o.ob, e10, ef]
  · obtain ⟨k', rfl⟩ : ∃ k, q = 30 + k := ⟨q - 30, by omega⟩
    have hk : k' < eN g := by omega
    have e30 : 30 + k' - 30 = k' := by omega
    obtain ⟨y, ey, hy⟩ := d_sureOf o hb hN w hk
    have hin : F_X12_in h (nI (30 + k')) (nI 30) (nI (29 + eN g)) = some (nI 1) := in_in h (by omega) (by omega) (by omega)
    rw [toB (Or.inr ⟨30 + k', rfl, by omega, by omega⟩)]
    by_cases hz : aw (bMB b) g = 0
    · rw [if_pos hz] at hy
      rw [hy] at ey
      refine ⟨lM1, ?_, ansF.one hN (by omega) ⟨fun q => by omega, fun q => by omega, fun q => by omega, fun k hk q => by omega, fun k hk q => by rw [if_pos hz], fun q => absurd rfl (q.2.2.2.2 k' hk)⟩⟩
      simp (disch := omega) only [d_fansB, nS, lS, ev, hin, o.ob, e30, ey]
    · rw [if_neg hz] at hy
      refine ⟨y.toInt64, ?_, ansF.one hN (by omega) ⟨fun q => by omega, fun q => by omega, fun q => by omega, fun k hk q => by omega, fun k'' hk'' q => by rw [if_neg hz, show k'' = k' by omega]; exact ⟨y, hy, rfl⟩, fun q => absurd rfl (q.2.2.2.2 k' hk)⟩⟩
      simp (disch := omega) only [d_fansB, nS, lS, ev, hin, o.ob, e30, ey]
  · refine ⟨lM2, ?_, ansF.one hN hq ⟨fun q => by omega, fun q => by omega, fun q => by omega, fun k hk q => by omega, fun k hk q => by omega, fun _ => rfl⟩⟩
    rw [toB (Or.inr ⟨q, rfl, hq, by omega⟩)]
    have := o30 (Or.inr ⟨q, rfl, hq, by omega⟩)
    simp (disch := omega) only [d_fansB, nS, lS, ev, this]
end FSD
section CALLS
variable {h : qH} {c nx : Nat} {σ : SG} {im : Nat → Option SG}
theorem q_fits (s : ST h c nx σ im) (x y z : Int32) : QW h c σ im (F_X11_fits h c x y z) (fun h1 => F_X12_fits h1 (c + 80) x y z) := by
  obtain ⟨ok, ⟨xc, td, sc, -⟩, rm, -⟩ := s
  have hc0 := ok.2.1 0 (by omega)
  have hc2 := ok.2.1 2 (by omega)
  rcases nOut_or y (n := sC σ 2) (by omega) with hy | ⟨j, hj, rfl⟩
  · obtain ⟨h1, A, B, I, J, e1, o1, pm, ki, r1⟩ := rm.p0
    obtain ⟨h2, I2, e2, o2, n2, r2⟩ := lg_out o1 pm ok hy
    refine ⟨lM2, h, h2, ?_, ?_, Fr.rf, sc, r1.tr r2, ⟨A, B, I2, J, o2, pm, ki⟩⟩
    · rcases nOut_or x (n := sC σ 0) (by omega) with hx | ⟨k, hk, rfl⟩
      · simp (disch := omega) only [F_X11_fits, xS xc, tS td, nS, lS, t_bookOut td hx, t_logOut td hy]
      · simp (disch := omega) only [F_X11_fits, xS xc, tS td, nS, lS, t_bookIn td ok hk, t_logOut td hy]
    · show F_X12_fits h (c + 80) x y z = some (lM2, h2)
      unfold F_X12_fits
      have e1 : q_put h (c + 80) 12 0 (.int (0 : Int32)) = some h1 := e1
      rw [e1, Option.bind_some, o1.ob, Option.bind_some, e2, Option.bind_some]
      dsimp only
      rw [if_pos (by decide)]
      rfl
  rcases nOut_or x (n := sC σ 0) (by omega) with hx | ⟨k, hk, rfl⟩
  · obtain ⟨h1, A, B, I, J, e1, o1, pm, ki, r1⟩ := rm.p0
    obtain ⟨h2, I2, e2, o2, he, n2, r2⟩ := lg_in o1 pm ok hj
    obtain ⟨h3, e3, rm3, r3⟩ := hand_out o2 pm ki ok hx
    refine ⟨lM2, h, h3, ?_, ?_, Fr.rf, sc, (r1.tr r2).tr r3, rm3⟩
    · simp (disch := omega) only [F_X11_fits, xS xc, tS td, nS, lS, t_bookOut td hx, t_logIn td ok hj]
    · show F_X12_fits h (c + 80) x (nI j) z = some (lM2, h3)
      unfold F_X12_fits
      have e1 : q_put h (c + 80) 12 0 (.int (0 : Int32)) = some h1 := e1
      rw [e1, Option.bind_some, o1.ob, Option.bind_some, e2, Option.bind_some]
      dsimp only
      rw [if_neg (by decide), o2.ob, Option.bind_some, e3, Option.bind_some]
      dsimp only
      rw [if_pos (by decide)]
      rfl
  have cb := t_CB td ok hk
  have cg := t_CG td ok hj
  have hsc := sc
  obtain ⟨-, -, -, -, -, ⟨A2, B2, I2, J2, o2⟩⟩ := sc
  obtain ⟨r, hc, e7, an, xb, r7⟩ := c_fshow o2 cb (by omega) cg (by omega) z
  have fr7 : Fr h hc (c + 53) (c + 80) := r7.wd (by omega) (by omega)
  obtain ⟨h1, A, B, I, J, e1, o1, pm, ki, r1⟩ := (rm.c fr7 (Or.inl (Nat.le_refl _))).p0
  obtain ⟨h2, I2', e2, o2', hg, n2, r2⟩ := lg_in o1 pm ok hj
  obtain ⟨h3, A3, I3, e3, o3, hb, n3, i3, r3, pm3, ki3, hg3⟩ : ∃ h3 A3 I3, F_X12_hand h2 (c + 80) (nI k) = some (nI 1, h3) ∧ OB h3 (c + 80) 12 mdL A3 B I3 J ∧ HB A3 I3 (sB σ k) k ∧ On [25, 26] A A3 ∧ On [23, 24] I2' I3 ∧ Fr h2 h3 (c + 80) (c + 80 + 27) ∧ PM A3 0 σ ∧ KI A3 im ∧ HG A3 I3 (sG σ j) j := by
    obtain ⟨h3, A3, I3, e3, o3, r3, n3, i3, hb⟩ := d_hand_in o2' pm ok hk
    exact ⟨h3, A3, I3, e3, o3, hb, n3, i3, r3, pm.cg n3 (by decide), ki.cg n3 (by decide), hg.1, hg.2.1, by rw [i3 39 (by decide)]; exact hg.2.2.1, by rw [n3 8 (by decide)]; exact hg.2.2.2⟩
  obtain ⟨h4, A4, B4, J4, e4, o4, r4, n4, w4⟩ := d_findWays o3 hb hg3
  obtain ⟨r', e5, an'⟩ := d_fshow o4 (hb.n42 n4) (hg3.n42 n4) w4 z
  have hrr := an.eq an'
  subst hrr
  refine ⟨r, hc, h4, ?_, ?_, fr7, hsc.u2 r7 xb, ((r1.tr r2).tr r3).tr r4, RM.mk pm3 ki3 o4 n4 (by decide)⟩
  · simp (disch := omega) only [F_X11_fits, xS xc, tS td, nS, t_bookIn td ok hk, t_logIn td ok hj, o2.ob, e7]
  · show F_X12_fits hc (c + 80) (nI k) (nI j) z = some (r, h4)
    unfold F_X12_fits
    have e1 : q_put hc (c + 80) 12 0 (.int (0 : Int32)) = some h1 := e1
    rw [e1, Option.bind_some, o1.ob, Option.bind_some, e2, Option.bind_some]
    dsimp only
    rw [if_neg (by decide), o2'.ob, Option.bind_some, e3, Option.bind_some]
    dsimp only
    rw [if_neg (by decide), o3.ob, Option.bind_some, e4, Option.bind_some]
    exact e5
end CALLS
