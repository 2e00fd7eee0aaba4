/-! ===== the call text: the reference's rows of lines, its whole reading ===== -/
def TB (s : Nat) (T : Nat → Int32) : Prop := (s = 0 → (T 0 = nI (cn T 0) ∧ cn T 0 ≤ 20) ∧ T 1 = nI (cn T 1) ∧ cn T 1 ≤ 8) ∧ (s = 1 → T 0 = nI (cn T 0) ∧ cn T 0 ≤ 40) ∧ (s = 2 → T 0 = nI (cn T 0) ∧ cn T 0 ≤ 12) ∧ (s = 3 → T 0 = nI (cn T 0) ∧ cn T 0 < 100)
theorem cn_us {T : Nat → Int32} {i x : Nat} (hx : x < 2 ^ 31) : cn (upd T i (nI x)) i = x ∧ upd T i (nI x) i = nI x := by
  unfold cn
  rw [pk_us, nI_cl hx]
  exact ⟨rfl, rfl⟩
theorem cn_un {T : Nat → Int32} {i j : Nat} {x : Int32} (h : j ≠ i) : cn (upd T i x) j = cn T j ∧ upd T i x j = T j := by
  unfold cn
  rw [pk_un h]
  exact ⟨rfl, rfl⟩
theorem TB_blk (s : Nat) : TB s (blk s) := by
  refine ⟨fun h => ?_, fun h => ?_, fun h => ?_, fun h => ?_⟩ <;> subst h <;> decide +kernel
theorem TB_step {s w : Nat} {x : Nat → Nat} {T : Nat → Int32} (tb : TB s T) (hs : s < 4) (h1 : wf s ≤ w) (h2 : w < wf (s + 1)) (hx : ∀ i, i < nnW w → x i < 100) : TB s (tlS w x T) := by
  obtain ⟨t0, t1, t2, t3⟩ := tb
  rcases (show s = 0 ∨ s = 1 ∨ s = 2 ∨ s = 3 by omega) with rfl | rfl | rfl | rfl
  · obtain ⟨⟨a1, a2⟩, a3, a4⟩ := t0 rfl
    refine ⟨fun _ => ?_, fun h => by omega, fun h => by omega, fun h => by omega⟩
    have h2 : w < 6 := h2
    have key : ∀ (j : Nat) (y : Int32), 2 ≤ j → (upd T j y 0 = nI (cn (upd T j y) 0) ∧ cn (upd T j y) 0 ≤ 20) ∧ upd T j y 1 = nI (cn (upd T j y) 1) ∧ cn (upd T j y) 1 ≤ 8 := by
      intro j y hj
      rw [(cn_un (show 0 ≠ j by omega)).1, (cn_un (show 0 ≠ j by omega)).2, (cn_un (show 1 ≠ j by omega)).1, (cn_un (show 1 ≠ j by omega)).2]
      exact ⟨⟨a1, a2⟩, a3, a4⟩
    have own : (T 0 = nI (cn T 0) ∧ cn T 0 ≤ 20) ∧ T 1 = nI (cn T 1) ∧ cn T 1 ≤ 8 := ⟨⟨a1, a2⟩, a3, a4⟩
    rcases (show w = 0 ∨ w = 1 ∨ w = 2 ∨ w = 3 ∨ w = 4 ∨ w = 5 by omega) with rfl | rfl | rfl | rfl | rfl | rfl
    · have e : tlS 0 x T = if cn T 0 < 20 then upd (upd (upd (upd (upd T (4 + cn T 0) (nI (x 0))) (24 + cn T 0) (nI (x 1))) (44 + cn T 0) (nI (x 2))) (64 + cn T 0) (nI (x 3))) 0 (nI (cn T 0 + 1)) else T := rfl
      rw [e]
      by_cases hc : cn T 0 < 20
      · rw [if_pos hc, (cn_us (by omega)).1, (cn_us (by omega)).2, (cn_un (by omega)).1, (cn_un (by omega)).2, (cn_un (by omega)).1, (cn_un (by omega)).2, (cn_un (by omega)).1, (cn_un (by omega)).2, (cn_un (by omega)).1, (cn_un (by omega)).2, (cn_un (by omega)).1, (cn_un (by omega)).2]
        exact ⟨⟨rfl, by omega⟩, a3, a4⟩
      · rw [if_neg hc]; exact own
    · have e : tlS 1 x T = if gdF 1 x 2 = true then upd T (100 + x 0) (nI (x 1)) else T := rfl
      rw [e]
      split
      · exact key _ _ (by omega)
      · exact own
    · have e : tlS 2 x T = if cn T 1 < 8 then upd (upd (upd T (84 + cn T 1) (nI (x 0))) (92 + cn T 1) (nI (x 1))) 1 (nI (cn T 1 + 1)) else T := rfl
      rw [e]
      by_cases hc : cn T 1 < 8
      · rw [if_pos hc, (cn_us (by omega)).1, (cn_us (by omega)).2, (cn_un (by omega)).1, (cn_un (by omega)).2, (cn_un (by omega)).1, (cn_un (by omega)).2, (cn_un (by omega)).1, (cn_un (by omega)).2]
        exact ⟨⟨a1, a2⟩, rfl, by omega⟩
      · rw [if_neg hc]; exact own
    · have e : tlS 3 x T = if gdF 3 x 1 = true then upd T (106 + x 0) (nI 1) else T := rfl
      rw [e]
      split
      · exact key _ _ (by omega)
      · exact own
    · exact key 2 _ (by omega)
    · exact key 3 _ (by omega)
  · obtain ⟨a1, a2⟩ := t1 rfl
    refine ⟨fun h => by omega, fun _ => ?_, fun h => by omega, fun h => by omega⟩
    have h1 : 6 ≤ w := h1
    have h2 : w < 13 := h2
    unfold tlS
    rw [if_neg (by omega), if_neg (by omega), if_neg (by omega), if_neg (by omega), if_neg (by omega), if_neg (by omega), if_pos (by omega)]
    by_cases hc : cn T 0 = 40
    · rw [if_pos hc]; exact ⟨a1, a2⟩
    · rw [if_neg hc, (cn_us (by omega)).1, (cn_us (by omega)).2]; exact ⟨rfl, by omega⟩
  · obtain ⟨a1, a2⟩ := t2 rfl
    refine ⟨fun h => by omega, fun h => by omega, fun _ => ?_, fun h => by omega⟩
    have h1 : 13 ≤ w := h1
    have h2 : w < 15 := h2
    unfold tlS
    rw [if_neg (by omega), if_neg (by omega), if_neg (by omega), if_neg (by omega), if_neg (by omega), if_neg (by omega), if_neg (by omega), if_pos (by omega)]
    by_cases hc : cn T 0 = 12
    · rw [if_pos hc]; exact ⟨a1, a2⟩
    · rw [if_neg hc, (cn_us (by omega)).1, (cn_us (by omega)).2]; exact ⟨rfl, by omega⟩
  · have own := t3 rfl
    refine ⟨fun h => by omega, fun h => by omega, fun h => by omega, fun _ => ?_⟩
    have h1 : 15 ≤ w := h1
    have h2 : w < 19 := h2
    have key : ∀ (j : Nat) (y : Int32), 1 ≤ j → upd T j y 0 = nI (cn (upd T j y) 0) ∧ cn (upd T j y) 0 < 100 := by
      intro j y hj
      rw [(cn_un (show 0 ≠ j by omega)).1, (cn_un (show 0 ≠ j by omega)).2]
      exact own
    rcases (show w = 15 ∨ w = 16 ∨ w = 17 ∨ w = 18 by omega) with rfl | rfl | rfl | rfl
    · have hx0 := hx 0 (by decide)
      show upd T 0 (nI (x 0)) 0 = nI (cn (upd T 0 (nI (x 0))) 0) ∧ cn (upd T 0 (nI (x 0))) 0 < 100
      rw [(cn_us (by omega)).1, (cn_us (by omega)).2]
      exact ⟨rfl, hx0⟩
    · have e : tlS 16 x T = if gdF 16 x 2 = true then upd T (1 + x 0) (nI (x 1)) else T := rfl
      rw [e]
      split
      · exact key _ _ (by omega)
      · exact own
    · have e : tlS 17 x T = if gdF 17 x 2 = true then upd T (9 + x 0) (nI (x 1)) else T := rfl
      rw [e]
      split
      · exact key _ _ (by omega)
      · exact own
    · have e : tlS 18 x T = if gdF 18 x 2 = true then upd T (18 + x 0) (nI (x 1)) else T := rfl
      rw [e]
      split
      · exact key _ _ (by omega)
      · exact own
theorem frS_le {w f : Nat} {x : Nat → Nat} (hw : w < 19) (hx : ∀ i, i < nnW w → x i < 100) (hf : f ≤ 102) : frS w x f ≤ 102 := by
  unfold frS
  split
  · next e => subst e; have := hx 0 (by decide); omega
  · split
    · next e => subst e; have := hx 0 (by decide); have := hx 1 (by decide); omega
    · split
      · next e => subst e; have := hx 0 (by decide); omega
      · split
        · next e => subst e; have := hx 0 (by decide); omega
        · split
          · next e => subst e; have := hx 0 (by decide); omega
          · exact hf
section REFB
variable {h0 h : qH} {a : Nat} {σ : SG} {s : Nat} {A0 A : Nat → Nat → Int32} {B : Nat → Nat → Int64} {I : Nat → Int32} {J : Nat → Int64} {t bd : Nat} {lf : LFt} {T R : Nat → Int32} {fr : Nat} {gd : Option Bool}
theorem yGd_x {t : Nat} (g : yGd σ s t) : ∀ i, i < nnW (yV σ s t) → yX σ s t i < 100 := fun i hi => (yK_num (g.2.1 i hi)).2.1
theorem r_no (c : CU σ h0 h a A0 B t bd lf T R fr gd) (hs : s < 4) {x : Int64} (hx : ∀ w, wf s ≤ w → w < wf (s + 1) → x ≠ cW w) : ∃ h', F_X12_lineOf h a (nI s) x (nI (bg σ t)) = some (nI 0, h') ∧ FLd h0 h' a A0 B (bg σ t) := by
  obtain ⟨h1, e1, f1⟩ := c.fails
  refine ⟨h1, ?_, f1⟩
  have n : ∀ w, wf s ≤ w → w < wf (s + 1) → ¬ lg_cmp x (cW w) = 0 := fun w w1 w2 q => hx w w1 w2 ((lg_cmp_eq x (cW w)).mp q)
  have q0 := bnQ (k := 0) (by omega) e1
  unfold F_X12_lineOf
  rcases (show s = 0 ∨ s = 1 ∨ s = 2 ∨ s = 3 by omega) with rfl | rfl | rfl | rfl
  · have k0 : ¬ lg_cmp x (1818848869 : Int64) = 0 := n 0 (by decide) (by decide)
    have k1 : ¬ lg_cmp x (6582905 : Int64) = 0 := n 1 (by decide) (by decide)
    have k2 : ¬ lg_cmp x (1650549611 : Int64) = 0 := n 2 (by decide) (by decide)
    have k3 : ¬ lg_cmp x (426953501796 : Int64) = 0 := n 3 (by decide) (by decide)
    have k4 : ¬ lg_cmp x (1718773093 : Int64) = 0 := n 4 (by decide) (by decide)
    have k5 : ¬ lg_cmp x (6518132 : Int64) = 0 := n 5 (by decide) (by decide)
    have e : F_X12_bookLine h a x (nI (bg σ t)) = some (nI 0, h1) := by
      unfold F_X12_bookLine
      rw [if_neg k0, if_neg k1, if_neg k2, if_neg k3, if_neg k4, if_neg k5, c.ob, Option.bind_some]
      exact q0
    rw [if_pos (show nI 0 = (0 : Int32) from rfl), c.ob, Option.bind_some]
    exact bnQ (by omega) e
  · have k0 : ¬ lg_cmp x (7561593 : Int64) = 0 := n 6 (by decide) (by decide)
    have k1 : ¬ lg_cmp x (7304564 : Int64) = 0 := n 7 (by decide) (by decide)
    have k2 : ¬ lg_cmp x (26990 : Int64) = 0 := n 8 (by decide) (by decide)
    have k3 : ¬ lg_cmp x (6582905 : Int64) = 0 := n 9 (by decide) (by decide)
    have k4 : ¬ lg_cmp x (123636798025844 : Int64) = 0 := n 10 (by decide) (by decide)
    have k5 : ¬ lg_cmp x (2002872692 : Int64) = 0 := n 11 (by decide) (by decide)
    have k6 : ¬ lg_cmp x (26479 : Int64) = 0 := n 12 (by decide) (by decide)
    have ed : F_X12_deedBy h x = some (-1) := by
      unfold F_X12_deedBy
      rw [if_neg k0, if_neg k1, if_neg k2, if_neg k3, if_neg k4, if_neg k5, if_neg k6]
    have e : F_X12_eveningLine h a x (nI (bg σ t)) = some (nI 0, h1) := by
      unfold F_X12_eveningLine
      rw [ed, Option.bind_some, if_pos rfl, c.ob, Option.bind_some]
      exact q0
    rw [if_neg (show ¬ nI 1 = (0 : Int32) by decide), if_pos (show nI 1 = (1 : Int32) from rfl), c.ob, Option.bind_some]
    exact bnQ (by omega) e
  · have k0 : ¬ lg_cmp x (448377483876 : Int64) = 0 := n 13 (by decide) (by decide)
    have k1 : ¬ lg_cmp x (6775152 : Int64) = 0 := n 14 (by decide) (by decide)
    have e : F_X12_logLine h a x (nI (bg σ t)) = some (nI 0, h1) := by
      unfold F_X12_logLine
      rw [if_neg k0, if_neg k1, c.ob, Option.bind_some]
      exact q0
    rw [if_neg (show ¬ nI 2 = (0 : Int32) by decide), if_neg (show ¬ nI 2 = (1 : Int32) by decide), if_pos (show nI 2 = (2 : Int32) from rfl), c.ob, Option.bind_some]
    exact bnQ (by omega) e
  · have k0 : ¬ lg_cmp x (114827921155443 : Int64) = 0 := n 15 (by decide) (by decide)
    have k1 : ¬ lg_cmp x (2002873452 : Int64) = 0 := n 16 (by decide) (by decide)
    have k2 : ¬ lg_cmp x (1651470187 : Int64) = 0 := n 17 (by decide) (by decide)
    have k3 : ¬ lg_cmp x (1819243876 : Int64) = 0 := n 18 (by decide) (by decide)
    have e : F_X12_townLine h a x = some (nI 0, h1) := by
      unfold F_X12_townLine
      rw [if_neg k0, if_neg k1, if_neg k2, if_neg k3, c.ob, Option.bind_some]
      exact q0
    rw [if_neg (show ¬ nI 3 = (0 : Int32) by decide), if_neg (show ¬ nI 3 = (1 : Int32) by decide), if_neg (show ¬ nI 3 = (2 : Int32) by decide), c.ob, Option.bind_some]
    exact bnQ (by omega) e
theorem r_yes (c : CU σ h0 h a A0 B t bd lf T R fr (some true)) (tp : TP A0 σ) (hz : sZ σ ≤ 600) (hs : s < 4) (hb : bd ≤ bg σ t) (hK : yK σ s t = 0) (tb : TB s T) (hfr : fr < 200) : SR σ s h0 a A0 B t (yV σ s t) lf T fr 0 (F_X12_lineOf h a (nI s) (cW (yV σ s t)) (nI (bg σ t))) := by
  obtain ⟨-, -, w1, w2, -, hlt⟩ := yK_word hs hK
  generalize yV σ s t = w at w1 w2
  obtain ⟨t0, t1, t2, t3⟩ := tb
  unfold F_X12_lineOf
  rcases (show s = 0 ∨ s = 1 ∨ s = 2 ∨ s = 3 by omega) with rfl | rfl | rfl | rfl
  · obtain ⟨⟨a1, a2⟩, a3, a4⟩ := t0 rfl
    rw [if_pos (show nI 0 = (0 : Int32) from rfl), c.ob, Option.bind_some]
    exact (r_book c tp hz hb hlt hfr a1 a2 a3 a4 w2).q
  · obtain ⟨a1, a2⟩ := t1 rfl
    rw [if_neg (show ¬ nI 1 = (0 : Int32) by decide), if_pos (show nI 1 = (1 : Int32) from rfl), c.ob, Option.bind_some]
    exact (r_even c tp hz hb hlt a1 a2 w1 w2).q
  · obtain ⟨a1, a2⟩ := t2 rfl
    rw [if_neg (show ¬ nI 2 = (0 : Int32) by decide), if_neg (show ¬ nI 2 = (1 : Int32) by decide), if_pos (show nI 2 = (2 : Int32) from rfl), c.ob, Option.bind_some]
    exact (r_log c tp hz hb hlt a1 a2 w1 w2).q
  · rw [if_neg (show ¬ nI 3 = (0 : Int32) by decide), if_neg (show ¬ nI 3 = (1 : Int32) by decide), if_neg (show ¬ nI 3 = (2 : Int32) by decide), c.ob, Option.bind_some]
    exact (r_town c tp hz hb hlt hfr w1 w2).q
theorem CU.j15 (c : CU σ h0 h a A0 B t bd lf T R fr gd) (hr : rs σ (bg σ t) = 2) : q_fL h a 12 15 = some (wcd σ (bg σ t)) := by
  obtain ⟨A, I, J, o, la, -⟩ := c
  rw [← la.2.2.2.2.2 hr]
  exact o.fL (k := 15) rfl
theorem rs_lt (σ : SG) (p : Nat) : rs σ p < 5 := by
  unfold rs
  repeat' split
  all_goals omega
/-- a turn of the loop over a fit statement -/
theorem r_gd (c : CU σ h0 h a A0 B t (bg σ t) lf T R fr gd) (tp : TP A0 σ) (hz : sZ σ ≤ 600) (hs : s < 4) (g : yGd σ s t) (tb : TB s T) (hfr : fr < 200) : ∃ h' R' gd', b_X12_lines_2 a (nI s) (nI 1) h = some (.inl (nI 1, h')) ∧ CU σ h0 h' a A0 B (t + 1 + nnW (yV σ s t) + 1) (bg σ (t + 1 + nnW (yV σ s t) + 1)) (lfS (yV σ s t) (bg σ t) (yX σ s t) (yP σ t) T lf) (tlS (yV σ s t) (yX σ s t) T) R' (frS (yV σ s t) (yX σ s t) fr) gd' := by
  obtain ⟨g1, g2, g3⟩ := g
  obtain ⟨w0, w1, -, -, -, -⟩ := yK_word hs g1
  obtain ⟨i12, i13, -, -⟩ := c.i12
  obtain ⟨h1, e1, c1⟩ := c.p22 true
  have e1 : q_put h a 12 22 (.int (1 : Int32)) = some h1 := e1
  obtain ⟨-, j13, -, -⟩ := c1.i12
  have j15 := c1.j15 w0
  rw [w0] at i13 j13
  rw [w1] at j15
  rcases r_yes (s := s) c1 tp hz hs (Nat.le_refl _) g1 tb hfr with ⟨i, -, q1, q2, q3, -⟩ | ⟨-, h2, R2, gd2, e2, c2⟩
  · exact absurd (g2 i q1) q3
  · obtain ⟨-, l13, -, -⟩ := c2.i12
    rw [(yK_rs (σ := σ) (s := s) _).2.1.mp g3] at l13
    obtain ⟨h3, e3, c3⟩ := c2.token tp hz
    have hlt := bg_lt (yK_semi g3).2.2
    refine ⟨h3, R2, gd2, ?_, c3.mo (by omega)⟩
    unfold b_X12_lines_2
    rw [if_neg (show ¬ nI 1 = (0 : Int32) by decide), i13, Option.bind_some, if_neg (show ¬ nI 2 = (0 : Int32) by decide), i12, Option.bind_some, e1, Option.bind_some, j13, Option.bind_some, if_pos (show nI 2 = (2 : Int32) from rfl), j15, Option.bind_some]
    unfold j_X12_lines_41_2
    rw [c1.ob, Option.bind_some, e2, Option.bind_some]
    dsimp only
    rw [if_neg (show ¬ nI 1 = (0 : Int32) by decide), l13, Option.bind_some, if_pos (show nI 4 = (4 : Int32) from rfl)]
    unfold j_X12_lines_63
    rw [if_neg (show ¬ nI 1 = (0 : Int32) by decide), c2.ob, Option.bind_some, e3, Option.bind_some]
/-- a turn of the loop over an unfit statement -/
theorem r_bad (c : CU σ h0 h a A0 B t (bg σ t) lf T R fr gd) (tp : TP A0 σ) (hz : sZ σ ≤ 600) (hs : s < 4) {u : Nat} (g : yBad σ s t u) (tb : TB s T) (hfr : fr < 200) : ∃ h', b_X12_lines_2 a (nI s) (nI 1) h = some (.inl (nI 0, h')) ∧ FLd h0 h' a A0 B (bg σ u) := by
  obtain ⟨i12, i13, -, -⟩ := c.i12
  obtain ⟨h1, e1, c1⟩ := c.p22 true
  have e1 : q_put h a 12 22 (.int (1 : Int32)) = some h1 := e1
  obtain ⟨-, j13, -, -⟩ := c1.i12
  have hr5 := rs_lt σ (bg σ t)
  rcases g with ⟨g1, g2, rfl⟩ | ⟨g1, i, g2, rfl, g4, g5, g6⟩
  · have hr0 : rs σ (bg σ u) ≠ 0 := fun q => g2 ((yK_rs (σ := σ) (s := s) u).2.2.mpr q)
    have n0 : ¬ nI (rs σ (bg σ u)) = (0 : Int32) := fun q => hr0 ((nI_eq (a := rs σ (bg σ u)) (b := 0) (by omega) (by omega)).mp q)
    by_cases hr2 : rs σ (bg σ u) = 2
    · have j15 := c1.j15 hr2
      obtain ⟨h2, e2, f2⟩ := r_no c1 hs (yK_noword hs g1 hr2)
      refine ⟨h2, ?_, f2⟩
      rw [hr2] at i13 j13
      unfold b_X12_lines_2
      rw [if_neg (show ¬ nI 1 = (0 : Int32) by decide), i13, Option.bind_some, if_neg (show ¬ nI 2 = (0 : Int32) by decide), i12, Option.bind_some, e1, Option.bind_some, j13, Option.bind_some, if_pos (show nI 2 = (2 : Int32) from rfl), j15, Option.bind_some]
      unfold j_X12_lines_41_2
      rw [c1.ob, Option.bind_some, e2, Option.bind_some]
      rfl
    · have n2 : ¬ nI (rs σ (bg σ u)) = (2 : Int32) := fun q => hr2 ((nI_eq (a := rs σ (bg σ u)) (b := 2) (by omega) (by omega)).mp q)
      obtain ⟨h2, e2, f2⟩ := r_no c1 hs (x := (0 : Int64)) (fun w w1 w2 q => (cW_pk w (by have := wf_le s hs; omega)).2.1 q.symm)
      refine ⟨h2, ?_, f2⟩
      unfold b_X12_lines_2
      rw [if_neg (show ¬ nI 1 = (0 : Int32) by decide), i13, Option.bind_some, if_neg n0, i12, Option.bind_some, e1, Option.bind_some, j13, Option.bind_some, if_neg n2]
      unfold j_X12_lines_41
      rw [c1.ob, Option.bind_some, e2, Option.bind_some]
      rfl
  · obtain ⟨w0, w1, -, -, -, -⟩ := yK_word hs g1
    have j15 := c1.j15 w0
    rw [w0] at i13 j13
    rw [w1] at j15
    have pre : b_X12_lines_2 a (nI s) (nI 1) h = j_X12_lines_41_2 h1 a (nI s) (nI (bg σ t)) (cW (yV σ s t)) (nI s) a := by
      unfold b_X12_lines_2
      rw [if_neg (show ¬ nI 1 = (0 : Int32) by decide), i13, Option.bind_some, if_neg (show ¬ nI 2 = (0 : Int32) by decide), i12, Option.bind_some, e1, Option.bind_some, j13, Option.bind_some, if_pos (show nI 2 = (2 : Int32) from rfl), j15, Option.bind_some]
    rw [pre]
    unfold j_X12_lines_41_2
    rw [c1.ob, Option.bind_some]
    rcases r_yes (s := s) c1 tp hz hs (Nat.le_refl _) g1 tb hfr with ⟨k, -, q1, q2, q3, h2, e2, f2⟩ | ⟨q, h2, R2, gd2, e2, c2⟩
    · have hk : k = i := by
        rcases Nat.lt_trichotomy k i with hh | hh | hh
        · exact absurd (g4 k hh) q3
        · exact hh
        · exact absurd (q2 i (by omega) hh) (g5 (by omega))
      subst hk
      refine ⟨h2, ?_, f2⟩
      rw [e2, Option.bind_some]
      rfl
    · have hi : i = nnW (yV σ s t) := by
        rcases Nat.lt_or_ge i (nnW (yV σ s t)) with hh | hh
        · exact absurd (q i (by omega) hh) (g5 hh)
        · omega
      subst hi
      obtain ⟨-, l13, -, -⟩ := c2.i12
      have hr4 : rs σ (bg σ (t + 1 + nnW (yV σ s t))) ≠ 4 := fun q => g6 rfl ((yK_rs (σ := σ) (s := s) _).2.1.mpr q)
      have hr5 := rs_lt σ (bg σ (t + 1 + nnW (yV σ s t)))
      obtain ⟨h3, e3, f3⟩ := c2.fails
      refine ⟨h3, ?_, f3⟩
      rw [e2, Option.bind_some]
      dsimp only
      rw [if_neg (show ¬ nI 1 = (0 : Int32) by decide), l13, Option.bind_some, if_neg (show ¬ nI (rs σ (bg σ (t + 1 + nnW (yV σ s t)))) = (4 : Int32) from fun q => hr4 ((nI_eq (b := 4) (by omega) (by omega)).mp q)), c2.ob, Option.bind_some, e3, Option.bind_some]
      rfl
end REFB
