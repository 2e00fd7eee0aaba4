/-! ===== the call text: the reference's other lines ===== -/
section REFO
variable {h0 h : qH} {a : Nat} {σ : SG} {s : Nat} {A0 : Nat → Nat → Int32} {B : Nat → Nat → Int64} {t i bd : Nat} {lf : LFt} {T R : Nat → Int32} {fr : Nat} {gd : Option Bool}
theorem r_dry (c : CU σ h0 h a A0 B (t + 1) bd lf T R fr (some true)) (tp : TP A0 σ) (hz : sZ σ ≤ 600) (hb : bd ≤ bg σ (t + 1)) : SR σ s h0 a A0 B t 1 lf T fr 0 (F_X12_ownLine h a (cW 1)) := by
  unfold F_X12_ownLine
  rw [if_neg (show ¬ lg_cmp (cW 1) (1718773093 : Int64) = 0 by decide +kernel), if_neg (show ¬ lg_cmp (cW 1) (6518132 : Int64) = 0 by decide +kernel)]
  refine SR.step c.ob (c.tk (s := s) tp hz hb 1 0 (by decide) (k := 0) (by decide)) (by decide) (fun h2 k2 c2 => ?_)
  dsimp only
  rw [if_pos (show lg_cmp (cW 1) (6582905 : Int64) = 0 by decide +kernel)]
  refine SR.step c2.ob (c2.tk (s := s) tp hz (Nat.le_refl _) 1 1 (by decide) (k := 1) (by decide)) (by decide) (fun h3 k3 c3 => ?_)
  refine SR.fin (by decide) ?_
  have eT : tlS 1 (yX σ s t) T = if gdF 1 (yX σ s t) 2 = true then upd T (100 + yX σ s t 0) (nI (yX σ s t 1)) else T := rfl
  have eL : lfS 1 (bg σ t) (yX σ s t) (yP σ t) T lf = nlF 1 (yX σ s t) (yP σ t) lf 2 := by unfold lfS; rw [fuL_no (by omega) (by omega) (by omega)]; rfl
  rw [eT, eL]
  obtain ⟨-, -, i22, -⟩ := c3.i12
  have i22 : q_fI h3 a 12 22 = some (nI (if gdF 1 (yX σ s t) 2 = true then 1 else 0)) := i22 _ rfl
  unfold j_X12_ownLine_98
  dsimp only
  rw [i22, Option.bind_some]
  by_cases hg : gdF 1 (yX σ s t) 2 = true
  · rw [if_pos hg, if_pos hg, if_neg (show ¬ nI 1 = (0 : Int32) by decide)]
    have hx : yX σ s t 0 ≤ 5 := (inB_t.mp ((gdF_t 2).mp hg 0 (by omega))).2
    obtain ⟨r1, r2, r3, r4⟩ := c3.rd
    have g0 : q_aI h3 .int (a + 11) (0 : Int32) = some (nI (yX σ s t 0)) := r4 0 (by omega)
    have g1 : q_aI h3 .int (a + 11) (1 : Int32) = some (nI (yX σ s t 1)) := r4 1 (by omega)
    obtain ⟨h4, e4, c4⟩ := c3.s19 (j := 100 + yX σ s t 0) (by omega) (nI (yX σ s t 1))
    have e4 : q_sI h3 .int (a + 10) ((100 : Int32) + nI (yX σ s t 0)) (nI (yX σ s t 1)) = some h4 := by rw [n_lit 100, nI_add]; exact e4
    refine ⟨h4, _, _, ?_, c4⟩
    rw [r1, Option.bind_some, if_pos (show lg_cmp (cW 1) (6582905 : Int64) = 0 by decide +kernel)]
    unfold j_X12_ownLine_124
    rw [r2, Option.bind_some, g0, Option.bind_some, if_pos (show lg_cmp (cW 1) (6582905 : Int64) = 0 by decide +kernel), Option.bind_some, g1, Option.bind_some, e4, Option.bind_some]
    rfl
  · rw [if_neg hg, if_neg hg, if_pos (show nI 0 = (0 : Int32) from rfl)]
    exact ⟨h3, _, _, rfl, c3⟩
theorem r_child (c : CU σ h0 h a A0 B (t + 1) bd lf T R fr (some true)) (tp : TP A0 σ) (hz : sZ σ ≤ 600) (hb : bd ≤ bg σ (t + 1)) : SR σ s h0 a A0 B t 3 lf T fr 0 (F_X12_ownLine h a (cW 3)) := by
  unfold F_X12_ownLine
  rw [if_neg (show ¬ lg_cmp (cW 3) (1718773093 : Int64) = 0 by decide +kernel), if_neg (show ¬ lg_cmp (cW 3) (6518132 : Int64) = 0 by decide +kernel)]
  refine SR.step c.ob (c.tk (s := s) tp hz hb 3 0 (by decide) (k := 0) (by decide)) (by decide) (fun h3 k3 c3 => ?_)
  dsimp only
  rw [if_neg (show ¬ lg_cmp (cW 3) (6582905 : Int64) = 0 by decide +kernel)]
  refine SR.fin (by decide) ?_
  have eT : tlS 3 (yX σ s t) T = if gdF 3 (yX σ s t) 1 = true then upd T (106 + yX σ s t 0) (nI 1) else T := rfl
  have eL : lfS 3 (bg σ t) (yX σ s t) (yP σ t) T lf = nlF 3 (yX σ s t) (yP σ t) lf 1 := by unfold lfS; rw [fuL_no (by omega) (by omega) (by omega)]; rfl
  rw [eT, eL]
  obtain ⟨-, -, i22, -⟩ := c3.i12
  have i22 : q_fI h3 a 12 22 = some (nI (if gdF 3 (yX σ s t) 1 = true then 1 else 0)) := i22 _ rfl
  unfold j_X12_ownLine_98
  rw [i22, Option.bind_some]
  by_cases hg : gdF 3 (yX σ s t) 1 = true
  · rw [if_pos hg, if_pos hg, if_neg (show ¬ nI 1 = (0 : Int32) by decide)]
    have hx : yX σ s t 0 ≤ 5 := (inB_t.mp ((gdF_t 1).mp hg 0 (by omega))).2
    obtain ⟨r1, r2, r3, r4⟩ := c3.rd
    have g0 : q_aI h3 .int (a + 11) (0 : Int32) = some (nI (yX σ s t 0)) := r4 0 (by omega)
    obtain ⟨h4, e4, c4⟩ := c3.s19 (j := 106 + yX σ s t 0) (by omega) (nI 1)
    have e4 : q_sI h3 .int (a + 10) ((106 : Int32) + nI (yX σ s t 0)) (1 : Int32) = some h4 := by rw [n_lit 106, nI_add]; exact e4
    refine ⟨h4, _, _, ?_, c4⟩
    rw [r1, Option.bind_some, if_neg (show ¬ lg_cmp (cW 3) (6582905 : Int64) = 0 by decide +kernel)]
    unfold j_X12_ownLine_124
    rw [r2, Option.bind_some, g0, Option.bind_some, if_neg (show ¬ lg_cmp (cW 3) (6582905 : Int64) = 0 by decide +kernel), e4, Option.bind_some]
    rfl
  · rw [if_neg hg, if_neg hg, if_pos (show nI 0 = (0 : Int32) from rfl)]
    exact ⟨h3, _, _, rfl, c3⟩
theorem r_free (c : CU σ h0 h a A0 B (t + 1) bd lf T R fr (some true)) (tp : TP A0 σ) (hz : sZ σ ≤ 600) (hb : bd ≤ bg σ (t + 1)) : SR σ s h0 a A0 B t 4 lf T fr 0 (F_X12_ownLine h a (cW 4)) := by
  unfold F_X12_ownLine
  rw [if_pos (show lg_cmp (cW 4) (1718773093 : Int64) = 0 by decide +kernel)]
  unfold j_X12_ownLine_16
  rw [if_pos (show lg_cmp (cW 4) (1718773093 : Int64) = 0 by decide +kernel)]
  unfold j_X12_ownLine_31
  refine SR.step c.ob (c.tk (s := s) tp hz hb 4 0 (by decide) (k := 0) (by decide)) (by decide) (fun h3 k3 c3 => ?_)
  refine SR.fin (by decide) ?_
  have eT : tlS 4 (yX σ s t) T = upd T 2 (nI (yX σ s t 0)) := rfl
  have eL : lfS 4 (bg σ t) (yX σ s t) (yP σ t) T lf = nlF 4 (yX σ s t) (yP σ t) lf 1 := by unfold lfS; rw [fuL_no (by omega) (by omega) (by omega)]; rfl
  rw [eT, eL]
  dsimp only
  obtain ⟨r1, r2, r3, r4⟩ := c3.rd
  have g0 : q_aI h3 .int (a + 11) (0 : Int32) = some (nI (yX σ s t 0)) := r4 0 (by omega)
  obtain ⟨h4, e4, c4⟩ := c3.s19 (j := 2) (by omega) (nI (yX σ s t 0))
  have e4 : q_sI h3 .int (a + 10) (2 : Int32) (nI (yX σ s t 0)) = some h4 := e4
  refine ⟨h4, _, _, ?_, c4⟩
  rw [r1, Option.bind_some, if_pos (show lg_cmp (cW 4) (1718773093 : Int64) = 0 by decide +kernel), r2, Option.bind_some, g0, Option.bind_some, e4, Option.bind_some]
  rfl
theorem r_cut (c : CU σ h0 h a A0 B (t + 1) bd lf T R fr (some true)) (tp : TP A0 σ) (hz : sZ σ ≤ 600) (hb : bd ≤ bg σ (t + 1)) : SR σ s h0 a A0 B t 5 lf T fr 0 (F_X12_ownLine h a (cW 5)) := by
  unfold F_X12_ownLine
  rw [if_neg (show ¬ lg_cmp (cW 5) (1718773093 : Int64) = 0 by decide +kernel), if_pos (show lg_cmp (cW 5) (6518132 : Int64) = 0 by decide +kernel)]
  unfold j_X12_ownLine_16
  rw [if_neg (show ¬ lg_cmp (cW 5) (1718773093 : Int64) = 0 by decide +kernel)]
  unfold j_X12_ownLine_31
  refine SR.step c.ob (c.tk (s := s) tp hz hb 5 0 (by decide) (k := 0) (by decide)) (by decide) (fun h3 k3 c3 => ?_)
  refine SR.fin (by decide) ?_
  have eT : tlS 5 (yX σ s t) T = upd T 3 (nI (yX σ s t 0)) := rfl
  have eL : lfS 5 (bg σ t) (yX σ s t) (yP σ t) T lf = nlF 5 (yX σ s t) (yP σ t) lf 1 := by unfold lfS; rw [fuL_no (by omega) (by omega) (by omega)]; rfl
  rw [eT, eL]
  dsimp only
  obtain ⟨r1, r2, r3, r4⟩ := c3.rd
  have g0 : q_aI h3 .int (a + 11) (0 : Int32) = some (nI (yX σ s t 0)) := r4 0 (by omega)
  obtain ⟨h4, e4, c4⟩ := c3.s19 (j := 3) (by omega) (nI (yX σ s t 0))
  have e4 : q_sI h3 .int (a + 10) (3 : Int32) (nI (yX σ s t 0)) = some h4 := e4
  refine ⟨h4, _, _, ?_, c4⟩
  rw [r1, Option.bind_some, if_neg (show ¬ lg_cmp (cW 5) (1718773093 : Int64) = 0 by decide +kernel), r2, Option.bind_some, g0, Option.bind_some, e4, Option.bind_some]
  rfl
/-! a book's line, by its word -/
theorem r_book (c : CU σ h0 h a A0 B t bd lf T R fr (some true)) (tp : TP A0 σ) (hz : sZ σ ≤ 600) (hb : bd ≤ bg σ t) (hlt : bg σ t < sZ σ) (hfr : fr < 200) (hT : T 0 = nI (cn T 0)) (h20 : cn T 0 ≤ 20) (hT1 : T 1 = nI (cn T 1)) (h8 : cn T 1 ≤ 8) {w : Nat} (hw : w < 6) : SR σ s h0 a A0 B t w lf T fr 0 (F_X12_bookLine h a (cW w) (nI (bg σ t))) := by
  have hb1 := bg_lt hlt
  obtain ⟨h2, e2, c2⟩ := c.token tp hz
  rcases (show w = 0 ∨ w = 1 ∨ w = 2 ∨ w = 3 ∨ w = 4 ∨ w = 5 by omega) with rfl | rfl | rfl | rfl | rfl | rfl
  · obtain ⟨h3, e3, c3⟩ := c.full (k := 0) (n := 20) (by omega) hT (by omega) (by omega) hb hz
    have e3 : F_X12_full h a (0 : Int32) (20 : Int32) (nI (bg σ t)) = some h3 := e3
    obtain ⟨h4, e4, c4⟩ := c3.token tp hz
    have c4 : CU σ h0 h4 a A0 B (t + 1) (bg σ t + 1) (fuL 0 (bg σ t) T lf) T R fr (some true) := by rw [fuL_0]; exact c4
    have z := (r_line (s := s) c4 tp hz (by omega) hfr hT h20).q
    have q : ∀ x : Int64, x = cW 0 → F_X12_bookLine h a x (nI (bg σ t)) = (F_X12_lineLine h4 a).bind fun x => (q_z x.1).bind fun _ => some (x.1, x.2) := by
      intro x hx
      have k1 : lg_cmp x (1818848869 : Int64) = 0 := by rw [hx]; decide +kernel
      unfold F_X12_bookLine j_X12_bookLine_53 j_X12_bookLine_69 j_X12_bookLine_83 j_X12_bookLine_98 j_X12_bookLine_102
      simp only [if_pos k1]
      rw [c.ob, Option.bind_some, e3, Option.bind_some, c3.ob, Option.bind_some, e4, Option.bind_some, c4.ob, Option.bind_some]
    rw [q _ rfl]
    exact z
  · have z := (r_dry (s := s) c2 tp hz (by omega)).q
    have q : ∀ x : Int64, x = cW 1 → F_X12_bookLine h a x (nI (bg σ t)) = (F_X12_ownLine h2 a x).bind fun x => (q_z x.1).bind fun _ => some (x.1, x.2) := by
      intro x hx
      have k0 : ¬ lg_cmp x (1818848869 : Int64) = 0 := by rw [hx]; decide +kernel
      have k1 : lg_cmp x (6582905 : Int64) = 0 := by rw [hx]; decide +kernel
      have k2 : ¬ lg_cmp x (1650549611 : Int64) = 0 := by rw [hx]; decide +kernel
      unfold F_X12_bookLine j_X12_bookLine_53 j_X12_bookLine_102
      simp only [if_pos k1, if_neg k0, if_neg k2]
      rw [c.ob, Option.bind_some, e2, Option.bind_some, c2.ob, Option.bind_some]
    rw [q _ rfl]
    exact z
  · obtain ⟨h3, e3, c3⟩ := c.full (k := 1) (n := 8) (by omega) hT1 (by omega) (by omega) hb hz
    have e3 : F_X12_full h a (1 : Int32) (8 : Int32) (nI (bg σ t)) = some h3 := e3
    obtain ⟨h4, e4, c4⟩ := c3.token tp hz
    have c4 : CU σ h0 h4 a A0 B (t + 1) (bg σ t + 1) (fuL 2 (bg σ t) T lf) T R fr (some true) := by rw [fuL_2]; exact c4
    have z := (r_back (s := s) c4 tp hz (by omega) hfr hT1 h8).q
    have q : ∀ x : Int64, x = cW 2 → F_X12_bookLine h a x (nI (bg σ t)) = (F_X12_backLine h4 a).bind fun x => (q_z x.1).bind fun _ => some (x.1, x.2) := by
      intro x hx
      have k0 : ¬ lg_cmp x (1818848869 : Int64) = 0 := by rw [hx]; decide +kernel
      have k1 : ¬ lg_cmp x (6582905 : Int64) = 0 := by rw [hx]; decide +kernel
      have k2 : lg_cmp x (1650549611 : Int64) = 0 := by rw [hx]; decide +kernel
      unfold F_X12_bookLine j_X12_bookLine_53 j_X12_bookLine_69 j_X12_bookLine_83 j_X12_bookLine_98 j_X12_bookLine_102
      simp only [if_pos k2, if_neg k0, if_neg k1]
      rw [c.ob, Option.bind_some, e3, Option.bind_some, c3.ob, Option.bind_some, e4, Option.bind_some, c4.ob, Option.bind_some]
    rw [q _ rfl]
    exact z
  · have z := (r_child (s := s) c2 tp hz (by omega)).q
    have q : ∀ x : Int64, x = cW 3 → F_X12_bookLine h a x (nI (bg σ t)) = (F_X12_ownLine h2 a x).bind fun x => (q_z x.1).bind fun _ => some (x.1, x.2) := by
      intro x hx
      have k0 : ¬ lg_cmp x (1818848869 : Int64) = 0 := by rw [hx]; decide +kernel
      have k1 : ¬ lg_cmp x (6582905 : Int64) = 0 := by rw [hx]; decide +kernel
      have k2 : ¬ lg_cmp x (1650549611 : Int64) = 0 := by rw [hx]; decide +kernel
      have k3 : lg_cmp x (426953501796 : Int64) = 0 := by rw [hx]; decide +kernel
      unfold F_X12_bookLine j_X12_bookLine_53 j_X12_bookLine_102
      simp only [if_pos k3, if_neg k0, if_neg k2, if_neg k1]
      rw [c.ob, Option.bind_some, e2, Option.bind_some, c2.ob, Option.bind_some]
    rw [q _ rfl]
    exact z
  · have z := (r_free (s := s) c2 tp hz (by omega)).q
    have q : ∀ x : Int64, x = cW 4 → F_X12_bookLine h a x (nI (bg σ t)) = (F_X12_ownLine h2 a x).bind fun x => (q_z x.1).bind fun _ => some (x.1, x.2) := by
      intro x hx
      have k0 : ¬ lg_cmp x (1818848869 : Int64) = 0 := by rw [hx]; decide +kernel
      have k1 : ¬ lg_cmp x (6582905 : Int64) = 0 := by rw [hx]; decide +kernel
      have k2 : ¬ lg_cmp x (1650549611 : Int64) = 0 := by rw [hx]; decide +kernel
      have k3 : ¬ lg_cmp x (426953501796 : Int64) = 0 := by rw [hx]; decide +kernel
      have k4 : lg_cmp x (1718773093 : Int64) = 0 := by rw [hx]; decide +kernel
      unfold F_X12_bookLine j_X12_bookLine_53 j_X12_bookLine_102
      simp only [if_pos k4, if_neg k3, if_neg k0, if_neg k2, if_neg k1]
      rw [c.ob, Option.bind_some, e2, Option.bind_some, c2.ob, Option.bind_some]
    rw [q _ rfl]
    exact z
  · have z := (r_cut (s := s) c2 tp hz (by omega)).q
    have q : ∀ x : Int64, x = cW 5 → F_X12_bookLine h a x (nI (bg σ t)) = (F_X12_ownLine h2 a x).bind fun x => (q_z x.1).bind fun _ => some (x.1, x.2) := by
      intro x hx
      have k0 : ¬ lg_cmp x (1818848869 : Int64) = 0 := by rw [hx]; decide +kernel
      have k1 : ¬ lg_cmp x (6582905 : Int64) = 0 := by rw [hx]; decide +kernel
      have k2 : ¬ lg_cmp x (1650549611 : Int64) = 0 := by rw [hx]; decide +kernel
      have k3 : ¬ lg_cmp x (426953501796 : Int64) = 0 := by rw [hx]; decide +kernel
      have k4 : ¬ lg_cmp x (1718773093 : Int64) = 0 := by rw [hx]; decide +kernel
      have k5 : lg_cmp x (6518132 : Int64) = 0 := by rw [hx]; decide +kernel
      unfold F_X12_bookLine j_X12_bookLine_53 j_X12_bookLine_102
      simp only [if_pos k5, if_neg k4, if_neg k3, if_neg k0, if_neg k2, if_neg k1]
      rw [c.ob, Option.bind_some, e2, Option.bind_some, c2.ob, Option.bind_some]
    rw [q _ rfl]
    exact z
/-! evenings -/
theorem CU.ev64 (c : CU σ h0 h a A0 B i bd lf T R fr gd) {d : Nat} (hT : T 0 = nI (cn T 0)) (h40 : cn T 0 ≤ 40) : ∃ h' R', j_X12_eveningLine_64 h a (nI d) = some (nI 1, h') ∧ CU σ h0 h' a A0 B i bd lf (if cn T 0 = 40 then T else upd (upd (upd T (1 + 2 * cn T 0) (nI d)) (2 + 2 * cn T 0) (R 1)) 0 (nI (cn T 0 + 1))) R' fr gd := by
  obtain ⟨r1, r2, r3, r4⟩ := c.rd
  obtain ⟨h1, e1, c1⟩ := c.s20 (j := 0) (by omega) (nI d)
  have e1 : q_sI h .int (a + 11) (0 : Int32) (nI d) = some h1 := e1
  obtain ⟨h2, e2, c2⟩ := c1.kp (d := 2) (k := cn T 0) (n := 40) (by omega) (by omega) (by omega) (by omega) hT
  have e2 : F_X12_keep h1 a (2 : Int32) (40 : Int32) = some h2 := e2
  refine ⟨h2, upd R 0 (nI d), ?_, ?_⟩
  · unfold j_X12_eveningLine_64
    rw [r2, Option.bind_some, e1, Option.bind_some, c1.ob, Option.bind_some, e2, Option.bind_some]
    rfl
  · have : tlk T (upd R 0 (nI d)) 2 (cn T 0) 2 = upd (upd T (1 + 2 * cn T 0) (nI d)) (2 + 2 * cn T 0) (R 1) := by
      show upd (upd T (1 + 2 * cn T 0 + 0) _) (1 + 2 * cn T 0 + 1) _ = _
      rw [show 1 + 2 * cn T 0 + 1 = 2 + 2 * cn T 0 by omega]
      rfl
    rw [this] at c2
    exact c2
theorem deed_w (h : qH) : ∀ w, 6 ≤ w → w < 13 → F_X12_deedBy h (cW w) = some (nI (w - 6)) := by
  intro w h1 h2
  rcases (show w = 6 ∨ w = 7 ∨ w = 8 ∨ w = 9 ∨ w = 10 ∨ w = 11 ∨ w = 12 by omega) with rfl | rfl | rfl | rfl | rfl | rfl | rfl <;> rfl
theorem r_even (c : CU σ h0 h a A0 B t bd lf T R fr (some true)) (tp : TP A0 σ) (hz : sZ σ ≤ 600) (hb : bd ≤ bg σ t) (hlt : bg σ t < sZ σ) (hT : T 0 = nI (cn T 0)) (h40 : cn T 0 ≤ 40) {w : Nat} (hw : 6 ≤ w) (hw2 : w < 13) : SR σ s h0 a A0 B t w lf T fr 0 (F_X12_eveningLine h a (cW w) (nI (bg σ t))) := by
  have hb1 := bg_lt hlt
  have ed := deed_w h w hw hw2
  obtain ⟨h3, e3, c3⟩ := c.full (k := 0) (n := 40) (by omega) hT (by omega) (by omega) hb hz
  have e3 : F_X12_full h a (0 : Int32) (40 : Int32) (nI (bg σ t)) = some h3 := e3
  obtain ⟨h4, e4, c4⟩ := c3.token tp hz
  have c4 : CU σ h0 h4 a A0 B (t + 1) (bg σ t + 1) (fuL w (bg σ t) T lf) T R fr (some true) := by rw [fuL_e hw hw2]; exact c4
  obtain ⟨r1, r2, r3, r4⟩ := c4.rd
  obtain ⟨h5, e5, c5⟩ := c4.s20 (j := 1) (by omega) m1
  have e5 : q_sI h4 .int (a + 11) (1 : Int32) (-1 : Int32) = some h5 := e5
  unfold F_X12_eveningLine
  rw [ed, Option.bind_some, if_neg (show ¬ nI (w - 6) = (-1 : Int32) from fun q => (nm1_eq (a := w - 6) (by omega)).mp q), c.ob, Option.bind_some, e3, Option.bind_some, c3.ob, Option.bind_some, e4, Option.bind_some, r2, Option.bind_some, e5, Option.bind_some]
  rcases Nat.lt_or_ge w 9 with h9 | h9
  · have fin : ∀ {g : qH}, nnW w = 1 → CU σ h0 g a A0 B (t + 1 + 1) (bg σ (t + 1 + 1)) (nlF w (yX σ s t) (yP σ t) (fuL w (bg σ t) T lf) 1) T (upd (upd R 1 m1) 1 (nI (yX σ s t 0))) fr (some (true && inB w 0 (yX σ s t 0))) → SR σ s h0 a A0 B t w lf T fr 1 (j_X12_eveningLine_64 g a (nI (w - 6))) := by
      intro g hn cg
      obtain ⟨h7, R7, e7, c7⟩ := cg.ev64 (d := w - 6) hT h40
      refine SR.fin (by omega) ⟨h7, R7, some (true && inB w 0 (yX σ s t 0)), e7, ?_⟩
      rw [pk_us] at c7
      have eT : tlS w (yX σ s t) T = if cn T 0 = 40 then T else upd (upd (upd T (1 + 2 * cn T 0) (nI (w - 6))) (2 + 2 * cn T 0) (nI (yX σ s t 0))) 0 (nI (cn T 0 + 1)) := by
        unfold tlS
        rw [if_neg (by omega), if_neg (by omega), if_neg (by omega), if_neg (by omega), if_neg (by omega), if_neg (by omega), if_pos (by omega), if_pos h9]
      have eF : frS w (yX σ s t) fr = fr := by
        unfold frS
        rw [if_neg (by omega), if_neg (by omega), if_neg (by omega), if_neg (by omega), if_neg (by omega)]
      have eL : lfS w (bg σ t) (yX σ s t) (yP σ t) T lf = nlF w (yX σ s t) (yP σ t) (fuL w (bg σ t) T lf) 1 := by unfold lfS; rw [hn]
      rw [eT, eF, eL, hn]
      exact c7
    rw [if_neg (show ¬ (3 : Int32) ≤ nI (w - 6) from nI_ge (b := 3) (by omega) (by omega))]
    rcases (show w = 6 ∨ w = 7 ∨ w = 8 by omega) with rfl | rfl | rfl
    · rw [if_pos (show nI (6 - 6) = (0 : Int32) from rfl)]
      unfold j_X12_eveningLine_56
      exact SR.step c5.ob (c5.tk (s := s) tp hz (by omega) 6 0 (by decide) (k := 1) (by decide)) (by decide) (fun g k cg => fin rfl cg)
    · rw [if_neg (show ¬ nI (7 - 6) = (0 : Int32) by decide)]
      unfold j_X12_eveningLine_56
      exact SR.step c5.ob (c5.tk (s := s) tp hz (by omega) 7 0 (by decide) (k := 1) (by decide)) (by decide) (fun g k cg => fin rfl cg)
    · rw [if_neg (show ¬ nI (8 - 6) = (0 : Int32) by decide)]
      unfold j_X12_eveningLine_56
      exact SR.step c5.ob (c5.tk (s := s) tp hz (by omega) 8 0 (by decide) (k := 1) (by decide)) (by decide) (fun g k cg => fin rfl cg)
  · rw [if_pos (show (3 : Int32) ≤ nI (w - 6) from nI_le (a := 3) (by omega) (by omega))]
    have hn : nnW w = 0 := by
      rcases (show w = 9 ∨ w = 10 ∨ w = 11 ∨ w = 12 by omega) with rfl | rfl | rfl | rfl <;> rfl
    obtain ⟨h7, R7, e7, c7⟩ := c5.ev64 (d := w - 6) hT h40
    refine SR.fin (by omega) ⟨h7, R7, some true, e7, ?_⟩
    rw [pk_us] at c7
    have eT : tlS w (yX σ s t) T = if cn T 0 = 40 then T else upd (upd (upd T (1 + 2 * cn T 0) (nI (w - 6))) (2 + 2 * cn T 0) m1) 0 (nI (cn T 0 + 1)) := by
      unfold tlS
      rw [if_neg (by omega), if_neg (by omega), if_neg (by omega), if_neg (by omega), if_neg (by omega), if_neg (by omega), if_pos (by omega), if_neg (show ¬ w < 9 by omega)]
    have eF : frS w (yX σ s t) fr = fr := by
      unfold frS
      rw [if_neg (by omega), if_neg (by omega), if_neg (by omega), if_neg (by omega), if_neg (by omega)]
    have eL : lfS w (bg σ t) (yX σ s t) (yP σ t) T lf = fuL w (bg σ t) T lf := by unfold lfS; rw [hn]; rfl
    rw [eT, eF, eL, hn]
    exact c7.mo (by show bg σ t + 1 ≤ bg σ (t + 1 + 0); exact hb1)
/-! logs -/
theorem CU.lg (c : CU σ h0 h a A0 B i bd lf T R fr gd) (hT : T 0 = nI (cn T 0)) (h12 : cn T 0 ≤ 12) : ∃ h', F_X12_keep h a (1 : Int32) (12 : Int32) = some h' ∧ CU σ h0 h' a A0 B i bd lf (if cn T 0 = 12 then T else upd (upd T (1 + cn T 0) (R 0)) 0 (nI (cn T 0 + 1))) R fr gd := by
  obtain ⟨h2, e2, c2⟩ := c.kp (d := 1) (k := cn T 0) (n := 12) (by omega) (by omega) (by omega) (by omega) hT
  refine ⟨h2, e2, ?_⟩
  have : tlk T R 1 (cn T 0) 1 = upd T (1 + cn T 0) (R 0) := by
    show upd T (1 + 1 * cn T 0 + 0) _ = _
    rw [show 1 + 1 * cn T 0 + 0 = 1 + cn T 0 by omega]
  rw [this] at c2
  exact c2
theorem r_log (c : CU σ h0 h a A0 B t bd lf T R fr (some true)) (tp : TP A0 σ) (hz : sZ σ ≤ 600) (hb : bd ≤ bg σ t) (hlt : bg σ t < sZ σ) (hT : T 0 = nI (cn T 0)) (h12 : cn T 0 ≤ 12) {w : Nat} (hw : 13 ≤ w) (hw2 : w < 15) : SR σ s h0 a A0 B t w lf T fr 0 (F_X12_logLine h a (cW w) (nI (bg σ t))) := by
  have hb1 := bg_lt hlt
  obtain ⟨h3, e3, c3⟩ := c.full (k := 0) (n := 12) (by omega) hT (by omega) (by omega) hb hz
  have e3 : F_X12_full h a (0 : Int32) (12 : Int32) (nI (bg σ t)) = some h3 := e3
  obtain ⟨h4, e4, c4⟩ := c3.token tp hz
  have c4 : CU σ h0 h4 a A0 B (t + 1) (bg σ t + 1) (fuL w (bg σ t) T lf) T R fr (some true) := by rw [fuL_g hw hw2]; exact c4
  obtain ⟨r1, r2, r3, r4⟩ := c4.rd
  obtain ⟨h5, e5, c5⟩ := c4.s20 (j := 0) (by omega) (nI 6)
  have e5 : q_sI h4 .int (a + 11) (0 : Int32) (6 : Int32) = some h5 := e5
  rcases (show w = 13 ∨ w = 14 by omega) with rfl | rfl
  · have k1 : lg_cmp (cW 13) (448377483876 : Int64) = 0 := by decide +kernel
    unfold F_X12_logLine
    rw [if_pos k1]
    unfold j_X12_logLine_21
    rw [c.ob, Option.bind_some, e3, Option.bind_some, c3.ob, Option.bind_some, e4, Option.bind_some, r2, Option.bind_some, e5, Option.bind_some, if_pos k1]
    refine SR.step c5.ob (c5.tk (s := s) tp hz (by omega) 13 0 (by decide) (k := 0) (by decide)) (by decide) (fun h6 k6 c6 => ?_)
    obtain ⟨h7, e7, c7⟩ := c6.lg hT h12
    refine SR.fin (by decide) ⟨h7, _, _, ?_, c7⟩
    dsimp only
    rw [c6.ob, Option.bind_some, e7, Option.bind_some]
    rfl
  · have k1 : ¬ lg_cmp (cW 14) (448377483876 : Int64) = 0 := by decide +kernel
    have k2 : lg_cmp (cW 14) (6775152 : Int64) = 0 := by decide +kernel
    unfold F_X12_logLine
    rw [if_neg k1, if_pos k2]
    unfold j_X12_logLine_21
    rw [c.ob, Option.bind_some, e3, Option.bind_some, c3.ob, Option.bind_some, e4, Option.bind_some, r2, Option.bind_some, e5, Option.bind_some, if_neg k1]
    obtain ⟨h7, e7, c7⟩ := c5.lg hT h12
    refine SR.fin (by decide) ⟨h7, _, _, ?_, c7.mo hb1⟩
    rw [c5.ob, Option.bind_some, e7, Option.bind_some]
    rfl
/-! towns -/
theorem r_t183 (c : CU σ h0 h a A0 B i bd lf T R fr gd) {b x0 x1 : Nat} (h0' : R 0 = nI x0) (h1' : R 1 = nI x1) (hx : b + x0 < 112) : ∃ h', j_X12_townLine_183 h a (nI b) (a + 10) = some (nI 1, h') ∧ CU σ h0 h' a A0 B i bd lf (upd T (b + x0) (nI x1)) R fr gd := by
  obtain ⟨r1, r2, r3, r4⟩ := c.rd
  have g0 := r4 0 (by omega)
  have g1 := r4 1 (by omega)
  rw [h0'] at g0
  rw [h1'] at g1
  have g0 : q_aI h .int (a + 11) (0 : Int32) = some (nI x0) := g0
  have g1 : q_aI h .int (a + 11) (1 : Int32) = some (nI x1) := g1
  obtain ⟨h1, e1, c1⟩ := c.s19 (j := b + x0) hx (nI x1)
  refine ⟨h1, ?_, c1⟩
  unfold j_X12_townLine_183
  rw [r2, Option.bind_some, g0, Option.bind_some, Option.bind_some, g1, Option.bind_some, nI_add, e1, Option.bind_some]
  rfl
theorem r_town (c : CU σ h0 h a A0 B t bd lf T R fr (some true)) (tp : TP A0 σ) (hz : sZ σ ≤ 600) (hb : bd ≤ bg σ t) (hlt : bg σ t < sZ σ) (hfr : fr < 200) {w : Nat} (hw : 15 ≤ w) (hw2 : w < 19) : SR σ s h0 a A0 B t w lf T fr 0 (F_X12_townLine h a (cW w)) := by
  have hb1 := bg_lt hlt
  have hb2 : bd ≤ bg σ (t + 1) := by omega
  obtain ⟨h4, e4, c4⟩ := c.token tp hz
  have eL : ∀ w, 15 ≤ w → lfS w (bg σ t) (yX σ s t) (yP σ t) T lf = nlF w (yX σ s t) (yP σ t) lf (nnW w) := fun w hw => by unfold lfS; rw [fuL_no (by omega) (by omega) (by omega)]
  rcases (show w = 15 ∨ w = 16 ∨ w = 17 ∨ w = 18 by omega) with rfl | rfl | rfl | rfl
  · have k1 : lg_cmp (cW 15) (114827921155443 : Int64) = 0 := by decide +kernel
    unfold F_X12_townLine
    rw [if_pos k1]
    unfold j_X12_townLine_37
    rw [c.ob, Option.bind_some, e4, Option.bind_some, if_pos k1]
    refine SR.step c4.ob (c4.tk (s := s) tp hz hb2 15 0 (by decide) (k := 0) (by decide)) (by decide) (fun h6 k6 c6 => ?_)
    obtain ⟨r1, r2, r3, r4⟩ := c6.rd
    have g0 : q_aI h6 .int (a + 11) (0 : Int32) = some (nI (yX σ s t 0)) := r4 0 (by omega)
    obtain ⟨h7, e7, c7⟩ := c6.s19 (j := 0) (by omega) (nI (yX σ s t 0))
    have e7 : q_sI h6 .int (a + 10) (0 : Int32) (nI (yX σ s t 0)) = some h7 := e7
    refine SR.fin (by decide) ⟨h7, _, _, ?_, by rw [eL 15 (by omega)]; exact c7⟩
    dsimp only
    rw [r1, Option.bind_some, r2, Option.bind_some, g0, Option.bind_some, e7, Option.bind_some]
    rfl
  · have k1 : ¬ lg_cmp (cW 16) (114827921155443 : Int64) = 0 := by decide +kernel
    have k2 : lg_cmp (cW 16) (2002873452 : Int64) = 0 := by decide +kernel
    unfold F_X12_townLine
    rw [if_neg k1, if_pos k2]
    unfold j_X12_townLine_37
    rw [c.ob, Option.bind_some, e4, Option.bind_some, if_neg k1, if_pos k2]
    refine SR.step c4.ob (c4.tf (s := s) tp hz hb2 (by omega) 16 0 (by decide) rfl (k := 0) (more := 1) (by decide) (by decide)) (by decide) (fun h5 k5 c5 => ?_)
    refine SR.step c5.ob (c5.tk (s := s) tp hz (Nat.le_refl _) 16 1 (by decide) (k := 1) (by decide)) (by decide) (fun h6 k6 c6 => ?_)
    refine SR.fin (by decide) ?_
    rw [eL 16 (by omega)]
    have eT : tlS 16 (yX σ s t) T = if gdF 16 (yX σ s t) 2 = true then upd T (1 + yX σ s t 0) (nI (yX σ s t 1)) else T := rfl
    rw [eT]
    obtain ⟨-, -, i22, -⟩ := c6.i12
    have i22 : q_fI h6 a 12 22 = some (nI (if gdF 16 (yX σ s t) 2 = true then 1 else 0)) := i22 _ rfl
    unfold j_X12_townLine_145
    dsimp only
    rw [i22, Option.bind_some]
    by_cases hg : gdF 16 (yX σ s t) 2 = true
    · rw [if_pos hg, if_pos hg, if_neg (show ¬ nI 1 = (0 : Int32) by decide), c6.rd.1, Option.bind_some, if_pos k2]
      have hx : yX σ s t 0 ≤ 7 := (inB_t.mp ((gdF_t 2).mp hg 0 (by omega))).2
      obtain ⟨h7, e7, c7⟩ := r_t183 c6 (b := 1) (x0 := yX σ s t 0) (x1 := yX σ s t 1) rfl rfl (by omega)
      exact ⟨h7, _, _, e7, c7⟩
    · rw [if_neg hg, if_neg hg, if_pos (show nI 0 = (0 : Int32) from rfl)]
      exact ⟨h6, _, _, rfl, c6⟩
  · have k1 : ¬ lg_cmp (cW 17) (114827921155443 : Int64) = 0 := by decide +kernel
    have k2 : ¬ lg_cmp (cW 17) (2002873452 : Int64) = 0 := by decide +kernel
    have k3 : lg_cmp (cW 17) (1651470187 : Int64) = 0 := by decide +kernel
    unfold F_X12_townLine
    rw [if_neg k1, if_neg k2, if_pos k3]
    unfold j_X12_townLine_37
    rw [c.ob, Option.bind_some, e4, Option.bind_some, if_neg k1, if_neg k2]
    refine SR.step c4.ob (c4.tf (s := s) tp hz hb2 (by omega) 17 0 (by decide) rfl (k := 0) (more := 0) (by decide) (by decide)) (by decide) (fun h5 k5 c5 => ?_)
    dsimp only
    rw [if_pos k3]
    unfold j_X12_townLine_137
    refine SR.step c5.ob (c5.tk (s := s) tp hz (Nat.le_refl _) 17 1 (by decide) (k := 1) (by decide)) (by decide) (fun h6 k6 c6 => ?_)
    refine SR.fin (by decide) ?_
    rw [eL 17 (by omega)]
    have eT : tlS 17 (yX σ s t) T = if gdF 17 (yX σ s t) 2 = true then upd T (9 + yX σ s t 0) (nI (yX σ s t 1)) else T := rfl
    rw [eT]
    obtain ⟨-, -, i22, -⟩ := c6.i12
    have i22 : q_fI h6 a 12 22 = some (nI (if gdF 17 (yX σ s t) 2 = true then 1 else 0)) := i22 _ rfl
    unfold j_X12_townLine_145
    dsimp only
    rw [i22, Option.bind_some]
    by_cases hg : gdF 17 (yX σ s t) 2 = true
    · rw [if_pos hg, if_pos hg, if_neg (show ¬ nI 1 = (0 : Int32) by decide), c6.rd.1, Option.bind_some, if_neg k2, if_pos k3]
      have hx : yX σ s t 0 ≤ 8 := (inB_t.mp ((gdF_t 2).mp hg 0 (by omega))).2
      obtain ⟨h7, e7, c7⟩ := r_t183 c6 (b := 9) (x0 := yX σ s t 0) (x1 := yX σ s t 1) rfl rfl (by omega)
      exact ⟨h7, _, _, e7, c7⟩
    · rw [if_neg hg, if_neg hg, if_pos (show nI 0 = (0 : Int32) from rfl)]
      exact ⟨h6, _, _, rfl, c6⟩
  · have k1 : ¬ lg_cmp (cW 18) (114827921155443 : Int64) = 0 := by decide +kernel
    have k2 : ¬ lg_cmp (cW 18) (2002873452 : Int64) = 0 := by decide +kernel
    have k3 : ¬ lg_cmp (cW 18) (1651470187 : Int64) = 0 := by decide +kernel
    have k4 : lg_cmp (cW 18) (1819243876 : Int64) = 0 := by decide +kernel
    unfold F_X12_townLine
    rw [if_neg k1, if_neg k2, if_neg k3, if_pos k4]
    unfold j_X12_townLine_37
    rw [c.ob, Option.bind_some, e4, Option.bind_some, if_neg k1, if_neg k2]
    refine SR.step c4.ob (c4.tf (s := s) tp hz hb2 (by omega) 18 0 (by decide) rfl (k := 0) (more := 0) (by decide) (by decide)) (by decide) (fun h5 k5 c5 => ?_)
    dsimp only
    rw [if_neg k3]
    unfold j_X12_townLine_137
    refine SR.step c5.ob (c5.tk (s := s) tp hz (Nat.le_refl _) 18 1 (by decide) (k := 1) (by decide)) (by decide) (fun h6 k6 c6 => ?_)
    refine SR.fin (by decide) ?_
    rw [eL 18 (by omega)]
    have eT : tlS 18 (yX σ s t) T = if gdF 18 (yX σ s t) 2 = true then upd T (18 + yX σ s t 0) (nI (yX σ s t 1)) else T := rfl
    rw [eT]
    obtain ⟨-, -, i22, -⟩ := c6.i12
    have i22 : q_fI h6 a 12 22 = some (nI (if gdF 18 (yX σ s t) 2 = true then 1 else 0)) := i22 _ rfl
    unfold j_X12_townLine_145
    dsimp only
    rw [i22, Option.bind_some]
    by_cases hg : gdF 18 (yX σ s t) 2 = true
    · rw [if_pos hg, if_pos hg, if_neg (show ¬ nI 1 = (0 : Int32) by decide), c6.rd.1, Option.bind_some, if_neg k2, if_neg k3]
      have hx : yX σ s t 0 ≤ 8 := (inB_t.mp ((gdF_t 2).mp hg 0 (by omega))).2
      obtain ⟨h7, e7, c7⟩ := r_t183 c6 (b := 18) (x0 := yX σ s t 0) (x1 := yX σ s t 1) rfl rfl (by omega)
      exact ⟨h7, _, _, e7, c7⟩
    · rw [if_neg hg, if_neg hg, if_pos (show nI 0 = (0 : Int32) from rfl)]
      exact ⟨h6, _, _, rfl, c6⟩
end REFO
