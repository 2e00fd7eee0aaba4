/-! ===== the call text: the reference's lines, word by word ===== -/
theorem bnZ {f : Option (Int32 × qH)} {h' : qH} (e : f = some (nI 0, h')) {g : Int32 × qH → Option (Int32 × qH)} : (f.bind fun x => if x.1 = 0 then some ((0 : Int32), x.2) else g x) = some (nI 0, h') := by
  rw [e]; rfl
theorem bnO {f : Option (Int32 × qH)} {h' : qH} (e : f = some (nI 1, h')) {g : Int32 × qH → Option (Int32 × qH)} : (f.bind fun x => if x.1 = 0 then some ((0 : Int32), x.2) else g x) = g (nI 1, h') := by
  rw [e, Option.bind_some, if_neg (show ¬ nI 1 = (0 : Int32) by decide)]
theorem bnQ {f : Option (Int32 × qH)} {h' : qH} {k : Nat} (hk : k < 2) (e : f = some (nI k, h')) : (f.bind fun x => (q_z x.1).bind fun _ => some (x.1, x.2)) = some (nI k, h') := by
  rw [e]
  rcases (show k = 0 ∨ k = 1 by omega) with rfl | rfl <;> rfl
theorem bnU {f : Option Unit} (e : f = some ()) {g : Unit → Option (Int32 × qH)} : f.bind g = g () := by rw [e]; rfl
theorem fuL_no {w pt : Nat} {T : Nat → Int32} {lf : LFt} (h0 : w ≠ 0) (h2 : w ≠ 2) (h : w < 6 ∨ 15 ≤ w) : fuL w pt T lf = lf := by
  unfold fuL
  rw [if_neg (fun q => by have := fuB_t.mp q; omega)]
theorem fuL_0 {pt : Nat} {T : Nat → Int32} {lf : LFt} : fuL 0 pt T lf = if cn T 0 = 20 then ltr lf (3, pt) else lf := by
  unfold fuL
  by_cases h : cn T 0 = 20
  · rw [if_pos h, if_pos (fuB_t.mpr (by omega))]
  · rw [if_neg h, if_neg (fun q => by have := fuB_t.mp q; omega)]
theorem fuL_2 {pt : Nat} {T : Nat → Int32} {lf : LFt} : fuL 2 pt T lf = if cn T 1 = 8 then ltr lf (3, pt) else lf := by
  unfold fuL
  by_cases h : cn T 1 = 8
  · rw [if_pos h, if_pos (fuB_t.mpr (by omega))]
  · rw [if_neg h, if_neg (fun q => by have := fuB_t.mp q; omega)]
theorem fuL_e {w pt : Nat} {T : Nat → Int32} {lf : LFt} (h1 : 6 ≤ w) (h2 : w < 13) : fuL w pt T lf = if cn T 0 = 40 then ltr lf (3, pt) else lf := by
  unfold fuL
  by_cases h : cn T 0 = 40
  · rw [if_pos h, if_pos (fuB_t.mpr (by omega))]
  · rw [if_neg h, if_neg (fun q => by have := fuB_t.mp q; omega)]
theorem fuL_g {w pt : Nat} {T : Nat → Int32} {lf : LFt} (h1 : 13 ≤ w) (h2 : w < 15) : fuL w pt T lf = if cn T 0 = 12 then ltr lf (3, pt) else lf := by
  unfold fuL
  by_cases h : cn T 0 = 12
  · rw [if_pos h, if_pos (fuB_t.mpr (by omega))]
  · rw [if_neg h, if_neg (fun q => by have := fuB_t.mp q; omega)]
section REFL
variable {h0 h : qH} {a : Nat} {σ : SG} {s : Nat} {A0 : Nat → Nat → Int32} {B : Nat → Nat → Int64} {t bd : Nat} {lf : LFt} {T R : Nat → Int32} {fr : Nat} {gd : Option Bool}
/-- the numbers of a line from the j-th on: the reference goes wrong at one, or all of the line is told -/
def SR (σ : SG) (s : Nat) (h0 : qH) (a : Nat) (A0 : Nat → Nat → Int32) (B : Nat → Nat → Int64) (t w : Nat) (lf : LFt) (T : Nat → Int32) (fr : Nat) (j : Nat) (r : Option (Int32 × qH)) : Prop :=
  (∃ i, j ≤ i ∧ i < nnW w ∧ (∀ k, j ≤ k → k < i → yK σ s (t + 1 + k) = 1) ∧ yK σ s (t + 1 + i) ≠ 1 ∧ ∃ h', r = some (nI 0, h') ∧ FLd h0 h' a A0 B (bg σ (t + 1 + i)))
  ∨ ((∀ i, j ≤ i → i < nnW w → yK σ s (t + 1 + i) = 1) ∧ ∃ h' R' gd', r = some (nI 1, h') ∧ CU σ h0 h' a A0 B (t + 1 + nnW w) (bg σ (t + 1 + nnW w)) (lfS w (bg σ t) (yX σ s t) (yP σ t) T lf) (tlS w (yX σ s t) T) R' (frS w (yX σ s t) fr) gd')
theorem SR.cg {w j : Nat} {r r' : Option (Int32 × qH)} (z : SR σ s h0 a A0 B t w lf T fr j r) (h1 : ∀ k h', k < 2 → r = some (nI k, h') → r' = some (nI k, h')) : SR σ s h0 a A0 B t w lf T fr j r' := by
  rcases z with ⟨i, i0, i1, i2, i3, h', e, f⟩ | ⟨i1, h', R', gd', e, f⟩
  · exact Or.inl ⟨i, i0, i1, i2, i3, h', h1 0 h' (by omega) e, f⟩
  · exact Or.inr ⟨i1, h', R', gd', h1 1 h' (by omega) e, f⟩
theorem SR.q {w j : Nat} {r : Option (Int32 × qH)} (z : SR σ s h0 a A0 B t w lf T fr j r) : SR σ s h0 a A0 B t w lf T fr j (r.bind fun x => (q_z x.1).bind fun _ => some (x.1, x.2)) := z.cg (fun _ _ hk e => bnQ hk e)
theorem SR.step {w j : Nat} {call : Option (Int32 × qH)} {Post : qH → Prop} {g : Int32 × qH → Option (Int32 × qH)} (ho : q_ob h a 12 = some ()) (tk : (yK σ s (t + 1 + j) = 1 ∧ ∃ h', call = some (nI 1, h') ∧ Post h') ∨ (yK σ s (t + 1 + j) ≠ 1 ∧ ∃ h', call = some (nI 0, h') ∧ FLd h0 h' a A0 B (bg σ (t + 1 + j)))) (hj : j < nnW w) (nx : ∀ h2, yK σ s (t + 1 + j) = 1 → Post h2 → SR σ s h0 a A0 B t w lf T fr (j + 1) (g (nI 1, h2))) : SR σ s h0 a A0 B t w lf T fr j ((q_ob h a 12).bind fun _ => call.bind fun x => if x.1 = 0 then some ((0 : Int32), x.2) else g x) := by
  rw [ho, Option.bind_some]
  rcases tk with ⟨k1, h1, e1, p1⟩ | ⟨k1, h1, e1, f1⟩
  · rw [bnO e1]
    rcases nx h1 k1 p1 with ⟨i, i0, i1, i2, i3, i4⟩ | ⟨i1, i2⟩
    · refine Or.inl ⟨i, by omega, i1, fun k q1 q2 => ?_, i3, i4⟩
      by_cases e : k = j
      · subst e; exact k1
      · exact i2 k (by omega) q2
    · refine Or.inr ⟨fun k q1 q2 => ?_, i2⟩
      by_cases e : k = j
      · subst e; exact k1
      · exact i1 k (by omega) q2
  · rw [bnZ e1]
    exact Or.inl ⟨j, Nat.le_refl _, hj, fun k q1 q2 => by omega, k1, h1, rfl, f1⟩
theorem SR.fin {w j : Nat} {r : Option (Int32 × qH)} (hj : nnW w ≤ j) (z : ∃ h' R' gd', r = some (nI 1, h') ∧ CU σ h0 h' a A0 B (t + 1 + nnW w) (bg σ (t + 1 + nnW w)) (lfS w (bg σ t) (yX σ s t) (yP σ t) T lf) (tlS w (yX σ s t) T) R' (frS w (yX σ s t) fr) gd') : SR σ s h0 a A0 B t w lf T fr j r := Or.inr ⟨fun i q1 q2 => by omega, z⟩
/-- rows of told, one behind the other -/
def tl4 (T R : Nat → Int32) (b d k : Nat) : Nat → Nat → Int32
  | 0 => T
  | i + 1 => upd (tl4 T R b d k i) (b + d * i + k) (R i)
theorem CU.ll (c : CU σ h0 h a A0 B t bd lf T R fr gd) {k : Nat} (hk : k < 20) : ∃ h', q_lp (s_X12_lineLine_60 a (nI k)) q_N ((0 : Int32), h) = some h' ∧ CU σ h0 h' a A0 B t bd lf (tl4 T R 4 20 k 4) R fr gd := by
  refine q_lp_idx (step := s_X12_lineLine_60 a (nI k)) (fun i v => v.1 = nI i ∧ CU σ h0 v.2 a A0 B t bd lf (tl4 T R 4 20 k i) R fr gd) 4 _ ?_ ?_ q_N ((0 : Int32), h) ⟨rfl, c⟩ (q_lt_N (by omega))
  · rintro i ⟨x, g⟩ hi ⟨hx, cg⟩
    dsimp only at hx cg
    subst hx
    obtain ⟨r1, r2, r3, r4⟩ := cg.rd
    have e0 := r4 i hi
    obtain ⟨g', e1, c1⟩ := cg.s19 (j := 4 + 20 * i + k) (by omega) (R i)
    refine ⟨(nI (i + 1), g'), ?_, rfl, c1⟩
    simp (disch := omega) only [s_X12_lineLine_60, b_X12_lineLine_60, nS, r1, r2, e0, e1]
  · rintro ⟨x, g⟩ ⟨hx, cg⟩
    dsimp only at hx cg
    subst hx
    exact ⟨g, by simp (disch := omega) only [s_X12_lineLine_60, b_X12_lineLine_60, nS], cg⟩
def tlk (T R : Nat → Int32) (d k : Nat) : Nat → Nat → Int32
  | 0 => T
  | i + 1 => upd (tlk T R d k i) (1 + d * k + i) (R i)
theorem CU.kp (c : CU σ h0 h a A0 B t bd lf T R fr gd) {d k n : Nat} (hd : d < 3) (hk : d * k + d < 111) (hk2 : k < 2 ^ 30) (hn : n < 2 ^ 30) (hT : T 0 = nI k) : ∃ h', F_X12_keep h a (nI d) (nI n) = some h' ∧ CU σ h0 h' a A0 B t bd lf (if k = n then T else upd (tlk T R d k d) 0 (nI (k + 1))) R fr gd := by
  obtain ⟨r1, r2, r3, r4⟩ := c.rd
  have e0 := r3 0 (by omega)
  rw [hT] at e0
  by_cases hkn : k = n
  · rw [if_pos hkn]
    refine ⟨h, ?_, c⟩
    rw [hkn] at e0
    simp (disch := omega) only [F_X12_keep, nS, r1, e0]
  · rw [if_neg hkn]
    obtain ⟨h1, e1, c1⟩ : ∃ h', q_lp (s_X12_keep_16 a (nI d) (nI k)) q_N (nI 0, h) = some h' ∧ CU σ h0 h' a A0 B t bd lf (tlk T R d k d) R fr gd := by
      refine q_lp_idx (step := s_X12_keep_16 a (nI d) (nI k)) (fun i v => v.1 = nI i ∧ CU σ h0 v.2 a A0 B t bd lf (tlk T R d k i) R fr gd) d _ ?_ ?_ q_N (nI 0, h) ⟨rfl, c⟩ (q_lt_N (by omega))
      · rintro i ⟨x, g⟩ hi ⟨hx, cg⟩
        dsimp only at hx cg
        subst hx
        obtain ⟨r1, r2, r3, r4⟩ := cg.rd
        have e0 := r4 i (by omega)
        obtain ⟨g', e1, c1⟩ := cg.s19 (j := 1 + d * k + i) (by omega) (R i)
        refine ⟨(nI (i + 1), g'), ?_, rfl, c1⟩
        simp (disch := omega) only [s_X12_keep_16, b_X12_keep_16, nS, r1, r2, e0, e1]
      · rintro ⟨x, g⟩ ⟨hx, cg⟩
        dsimp only at hx cg
        subst hx
        exact ⟨g, by simp (disch := omega) only [s_X12_keep_16, b_X12_keep_16, nS], cg⟩
    have hT1 : tlk T R d k d 0 = nI k := by
      have : ∀ i, tlk T R d k i 0 = nI k := by
        intro i
        induction i with
        | zero => exact hT
        | succ i ih =>
          show upd (tlk T R d k i) (1 + d * k + i) (R i) 0 = nI k
          rw [pk_un (by omega)]
          exact ih
      exact this d
    obtain ⟨q1, q2, q3, q4⟩ := c1.rd
    have e2 := q3 0 (by omega)
    rw [hT1] at e2
    obtain ⟨h3, e3, c3⟩ := c1.s19 (j := 0) (by omega) (nI (k + 1))
    refine ⟨h3, ?_, c3⟩
    simp (disch := omega) only [F_X12_keep, nS, r1, e0, e1, q1, e2, e3]
/-! the lines of a book; the state behind the word is c, over the fault that a line too many has left -/
theorem r_line (c : CU σ h0 h a A0 B (t + 1) bd (fuL 0 (bg σ t) T lf) T R fr (some true)) (tp : TP A0 σ) (hz : sZ σ ≤ 600) (hb : bd ≤ bg σ (t + 1)) (hfr : fr < 200) (hT : T 0 = nI (cn T 0)) (h20 : cn T 0 ≤ 20) : SR σ s h0 a A0 B t 0 lf T fr 0 (F_X12_lineLine h a) := by
  unfold F_X12_lineLine
  refine SR.step c.ob (c.tf (s := s) tp hz hb (by omega) 0 0 (by decide) rfl (k := 0) (more := 0) (by decide) (by decide)) (by decide) (fun h2 k2 c2 => ?_)
  refine SR.step c2.ob (c2.tk (s := s) tp hz (Nat.le_refl _) 0 1 (by decide) (k := 1) (by decide)) (by decide) (fun h3 k3 c3 => ?_)
  refine SR.step c3.ob (c3.tk (s := s) tp hz (Nat.le_refl _) 0 2 (by decide) (k := 2) (by decide)) (by decide) (fun h4 k4 c4 => ?_)
  refine SR.step c4.ob (c4.tk (s := s) tp hz (Nat.le_refl _) 0 3 (by decide) (k := 3) (by decide)) (by decide) (fun h5 k5 c5 => ?_)
  refine SR.fin (by decide) ?_
  obtain ⟨r1, r2, r3, r4⟩ := c5.rd
  have e0 := r3 0 (by omega)
  rw [hT] at e0
  have eT : tlS 0 (yX σ s t) T = if cn T 0 < 20 then upd (upd (upd (upd (upd T (4 + cn T 0) (nI (yX σ s t 0))) (24 + cn T 0) (nI (yX σ s t 1))) (44 + cn T 0) (nI (yX σ s t 2))) (64 + cn T 0) (nI (yX σ s t 3))) 0 (nI (cn T 0 + 1)) else T := rfl
  have e0 : q_aI h5 .int (a + 10) (0 : Int32) = some (nI (cn T 0)) := e0
  rw [eT]
  dsimp only
  rw [r1, Option.bind_some, e0, Option.bind_some]
  rcases Nat.lt_or_ge (cn T 0) 20 with hlt | hge
  · rw [if_pos hlt, if_neg (show ¬ (20 : Int32) ≤ nI (cn T 0) from nI_ge (b := 20) (by omega) (by omega))]
    obtain ⟨h6, e6, c6⟩ := c5.ll hlt
    obtain ⟨q1, q2, q3, q4⟩ := c6.rd
    have e7 := q3 0 (by omega)
    have hT6 : tl4 T (upd (upd (upd (upd R 0 (nI (yV σ s (t + 1)))) 1 (nI (yV σ s (t + 1 + 1)))) 2 (nI (yV σ s (t + 1 + 1 + 1)))) 3 (nI (yV σ s (t + 1 + 1 + 1 + 1)))) 4 20 (cn T 0) 4 0 = nI (cn T 0) := by
      show upd (upd (upd (upd T (4 + 20 * 0 + cn T 0) _) (4 + 20 * 1 + cn T 0) _) (4 + 20 * 2 + cn T 0) _) (4 + 20 * 3 + cn T 0) _ 0 = _
      rw [pk_un (by omega), pk_un (by omega), pk_un (by omega), pk_un (by omega)]
      exact hT
    rw [hT6] at e7
    have e7 : q_aI h6 .int (a + 10) (0 : Int32) = some (nI (cn T 0)) := e7
    obtain ⟨h8, e8, c8⟩ := c6.s19 (j := 0) (by omega) (nI (cn T 0 + 1))
    have e8 : q_sI h6 .int (a + 10) (0 : Int32) (nI (cn T 0) + (1 : Int32)) = some h8 := by rw [n_lit 1, nI_add]; exact e8
    refine ⟨h8, _, _, ?_, c8⟩
    rw [e6, Option.bind_some, q1, Option.bind_some, e7, Option.bind_some, e8, Option.bind_some]
    rfl
  · rw [if_neg (show ¬ cn T 0 < 20 by omega), if_pos (show (20 : Int32) ≤ nI (cn T 0) from nI_le (a := 20) (by omega) (by omega))]
    exact ⟨h5, _, _, rfl, c5⟩
theorem r_back (c : CU σ h0 h a A0 B (t + 1) bd (fuL 2 (bg σ t) T lf) T R fr (some true)) (tp : TP A0 σ) (hz : sZ σ ≤ 600) (hb : bd ≤ bg σ (t + 1)) (hfr : fr < 200) (hT : T 1 = nI (cn T 1)) (h20 : cn T 1 ≤ 8) : SR σ s h0 a A0 B t 2 lf T fr 0 (F_X12_backLine h a) := by
  unfold F_X12_backLine
  refine SR.step c.ob (c.tf (s := s) tp hz hb (by omega) 2 0 (by decide) rfl (k := 0) (more := 0) (by decide) (by decide)) (by decide) (fun h2 k2 c2 => ?_)
  have v2 := (yK_num k2).2.1
  refine SR.step c2.ob (c2.tf (s := s) tp hz (Nat.le_refl _) (by have v2 : yV σ s (t + 1) < 100 := v2; omega) 2 1 (by decide) rfl (k := 1) (more := 0) (by decide) (by decide)) (by decide) (fun h3 k3 c3 => ?_)
  refine SR.fin (by decide) ?_
  obtain ⟨r1, r2, r3, r4⟩ := c3.rd
  have e0 := r3 1 (by omega)
  rw [hT] at e0
  have eT : tlS 2 (yX σ s t) T = if cn T 1 < 8 then upd (upd (upd T (84 + cn T 1) (nI (yX σ s t 0))) (92 + cn T 1) (nI (yX σ s t 1))) 1 (nI (cn T 1 + 1)) else T := rfl
  have e0 : q_aI h3 .int (a + 10) (1 : Int32) = some (nI (cn T 1)) := e0
  rw [eT]
  dsimp only
  rw [r1, Option.bind_some, e0, Option.bind_some]
  rcases Nat.lt_or_ge (cn T 1) 8 with hlt | hge
  · rw [if_pos hlt, if_neg (show ¬ (8 : Int32) ≤ nI (cn T 1) from nI_ge (b := 8) (by omega) (by omega))]
    have g0 := r4 0 (by omega)
    have g0 : q_aI h3 .int (a + 11) (0 : Int32) = some (nI (yX σ s t 0)) := g0
    obtain ⟨h6, e6, c6⟩ := c3.s19 (j := 84 + cn T 1) (by omega) (nI (yX σ s t 0))
    have e6 : q_sI h3 .int (a + 10) ((84 : Int32) + nI (cn T 1)) (nI (yX σ s t 0)) = some h6 := by rw [n_lit 84, nI_add]; exact e6
    obtain ⟨q1, q2, q3, q4⟩ := c6.rd
    have g1 := q4 1 (by omega)
    have g1 : q_aI h6 .int (a + 11) (1 : Int32) = some (nI (yX σ s t 1)) := g1
    obtain ⟨h7, e7, c7⟩ := c6.s19 (j := 92 + cn T 1) (by omega) (nI (yX σ s t 1))
    have e7 : q_sI h6 .int (a + 10) ((92 : Int32) + nI (cn T 1)) (nI (yX σ s t 1)) = some h7 := by rw [n_lit 92, nI_add]; exact e7
    obtain ⟨p1, p2, p3, p4⟩ := c7.rd
    have g2 := p3 1 (by omega)
    rw [pk_un (by omega), pk_un (by omega), hT] at g2
    have g2 : q_aI h7 .int (a + 10) (1 : Int32) = some (nI (cn T 1)) := g2
    obtain ⟨h8, e8, c8⟩ := c7.s19 (j := 1) (by omega) (nI (cn T 1 + 1))
    have e8 : q_sI h7 .int (a + 10) (1 : Int32) (nI (cn T 1) + (1 : Int32)) = some h8 := by rw [n_lit 1, nI_add]; exact e8
    refine ⟨h8, _, _, ?_, c8⟩
    rw [Option.bind_some, r2, Option.bind_some, g0, Option.bind_some, e6, Option.bind_some, q1, Option.bind_some, q2, Option.bind_some, g1, Option.bind_some, e7, Option.bind_some, p1, Option.bind_some, g2, Option.bind_some, e8, Option.bind_some]
    rfl
  · rw [if_neg (show ¬ cn T 1 < 8 by omega), if_pos (show (8 : Int32) ≤ nI (cn T 1) from nI_le (a := 8) (by omega) (by omega))]
    exact ⟨h3, _, _, rfl, c3⟩
end REFL
