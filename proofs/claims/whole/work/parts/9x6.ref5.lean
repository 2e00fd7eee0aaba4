/-! ===== the call text: the reference's loop, its blank row, its reading ===== -/
section REFC
variable {h0 h : qH} {a : Nat} {σ : SG} {s : Nat} {A0 A : Nat → Nat → Int32} {B : Nat → Nat → Int64} {I : Nat → Int32} {J : Nat → Int64} {R : Nat → Int32} {gd : Option Bool}
theorem yTB (hs : s < 4) {m : Nat} (hg : ∀ j, j < m → yGd σ s (yst σ s j)) : ∀ j, j ≤ m → TB s (yTT σ s j) ∧ yFF σ s j ≤ 102 := by
  intro j
  induction j with
  | zero => intro _; exact ⟨TB_blk s, Nat.zero_le _⟩
  | succ j ih =>
    intro hj
    obtain ⟨t1, t2⟩ := ih (by omega)
    have g := hg j (by omega)
    obtain ⟨-, -, w1, w2, -, -⟩ := yK_word hs g.1
    exact ⟨TB_step t1 hs w1 w2 (yGd_x g), frS_le (by have := wf_le s hs; omega) (yGd_x g) t2⟩
/-- how the loop stands behind j statements -/
def LIv (σ : SG) (s : Nat) (h0 : qH) (a : Nat) (A0 : Nat → Nat → Int32) (B : Nat → Nat → Int64) (j : Nat) (g : qH) : Prop := ∃ R gd, CU σ h0 g a A0 B (yst σ s j) (bg σ (yst σ s j)) (yLL σ s j) (yTT σ s j) R (yFF σ s j) gd
theorem r_turn {m : Nat} (tp : TP A0 σ) (hz : sZ σ ≤ 600) (hs : s < 4) (hg : ∀ j, j < m → yGd σ s (yst σ s j)) {j : Nat} (hj : j < m) {g : qH} (l : LIv σ s h0 a A0 B j g) : ∃ g', b_X12_lines_2 a (nI s) (nI 1) g = some (.inl (nI 1, g')) ∧ LIv σ s h0 a A0 B (j + 1) g' := by
  obtain ⟨R, gd, c⟩ := l
  obtain ⟨t1, t2⟩ := yTB hs hg j (by omega)
  obtain ⟨g', R', gd', e, c'⟩ := r_gd c tp hz hs (hg j hj) t1 (by omega)
  exact ⟨g', e, R', gd', c'⟩
theorem r_fine {m : Nat} (l : LIv σ s h0 a A0 B 0 h) (tp : TP A0 σ) (hz : sZ σ ≤ 600) (hs : s < 4) (hg : ∀ j, j < m → yGd σ s (yst σ s j)) (hm : m ≤ 601) (h4 : yK σ s (yst σ s m) = 4) : ∃ h', F_X12_lines h a (nI s) = some (nI 1, h') ∧ LIv σ s h0 a A0 B m h' := by
  obtain ⟨⟨x, h'⟩, e, hx, l'⟩ := q_lp_idx (step := s_X12_lines_2 a (nI s)) (fun j v => v.1 = nI 1 ∧ LIv σ s h0 a A0 B j v.2) m (fun r => r.1 = nI 1 ∧ LIv σ s h0 a A0 B m r.2) (by
    rintro j ⟨x, g⟩ hj ⟨hx, l⟩
    dsimp only at hx l
    subst hx
    obtain ⟨g', e, l'⟩ := r_turn tp hz hs hg hj l
    exact ⟨(nI 1, g'), e, rfl, l'⟩) (by
    rintro ⟨x, g⟩ ⟨hx, l⟩
    dsimp only at hx l
    subst hx
    refine ⟨(nI 1, g), ?_, rfl, l⟩
    obtain ⟨R, gd, c⟩ := l
    obtain ⟨-, i13, -, -⟩ := c.i12
    rw [(yK_rs (σ := σ) (s := s) _).2.2.mp h4] at i13
    show b_X12_lines_2 a (nI s) (nI 1) g = _
    unfold b_X12_lines_2
    rw [if_neg (show ¬ nI 1 = (0 : Int32) by decide), i13, Option.bind_some, if_pos (show nI 0 = (0 : Int32) from rfl)]) q_N (nI 1, h) ⟨rfl, l⟩ (q_lt_N (by omega))
  dsimp only at hx l'
  subst hx
  refine ⟨h', ?_, l'⟩
  have e : q_lp (s_X12_lines_2 a (nI s)) q_N ((1 : Int32), h) = some (nI 1, h') := e
  unfold F_X12_lines
  rw [e, Option.bind_some]
  rfl
theorem r_wrong {m u : Nat} (l : LIv σ s h0 a A0 B 0 h) (tp : TP A0 σ) (hz : sZ σ ≤ 600) (hs : s < 4) (hg : ∀ j, j < m → yGd σ s (yst σ s j)) (hm : m ≤ 601) (hu : yBad σ s (yst σ s m) u) : ∃ h', F_X12_lines h a (nI s) = some (nI 0, h') ∧ FLd h0 h' a A0 B (bg σ u) := by
  obtain ⟨⟨x, h'⟩, e, hx, l'⟩ := q_lp_idx (step := s_X12_lines_2 a (nI s)) (fun j v => (j ≤ m ∧ v.1 = nI 1 ∧ LIv σ s h0 a A0 B j v.2) ∨ (j = m + 1 ∧ v.1 = nI 0 ∧ FLd h0 v.2 a A0 B (bg σ u))) (m + 1) (fun r => r.1 = nI 0 ∧ FLd h0 r.2 a A0 B (bg σ u)) (by
    rintro j ⟨x, g⟩ hj (⟨-, hx, l⟩ | ⟨hj2, -⟩)
    · dsimp only at hx l
      subst hx
      rcases Nat.lt_or_ge j m with hlt | hge
      · obtain ⟨g', e, l'⟩ := r_turn tp hz hs hg hlt l
        exact ⟨(nI 1, g'), e, Or.inl ⟨by omega, rfl, l'⟩⟩
      · have : j = m := by omega
        subst this
        obtain ⟨R, gd, c⟩ := l
        obtain ⟨t1, t2⟩ := yTB hs hg j (by omega)
        obtain ⟨g', e, f⟩ := r_bad c tp hz hs hu t1 (by omega)
        exact ⟨(nI 0, g'), e, Or.inr ⟨rfl, rfl, f⟩⟩
    · omega) (by
    rintro ⟨x, g⟩ (⟨hj, -⟩ | ⟨-, hx, f⟩)
    · omega
    · dsimp only at hx f
      subst hx
      refine ⟨(nI 0, g), ?_, rfl, f⟩
      show b_X12_lines_2 a (nI s) (nI 0) g = _
      unfold b_X12_lines_2
      rw [if_pos (show nI 0 = (0 : Int32) from rfl)]) q_N (nI 1, h) (Or.inl ⟨Nat.zero_le _, rfl, l⟩) (q_lt_N (by omega))
  dsimp only at hx l'
  subst hx
  refine ⟨h', ?_, l'⟩
  have e : q_lp (s_X12_lines_2 a (nI s)) q_N ((1 : Int32), h) = some (nI 0, h') := e
  unfold F_X12_lines
  rw [e, Option.bind_some]
  rfl
/-! the blank row -/
def bl0 (s i : Nat) : Nat := if (s = 0 ∧ 100 ≤ i ∧ i ≤ 105) ∨ (s = 3 ∧ 1 ≤ i ∧ i ≤ 8) then 2 else if s = 3 ∧ 18 ≤ i ∧ i ≤ 26 then 3 else 0
theorem d_bl0 (hs : s < 4) {i : Nat} (hi : i < 112) (o : OB h a 12 mdL A B I J) : b_X12_blank_2 a (nI s) (nI i) h = (q_sI h .int (a + 10) (nI i) (nI (bl0 s i))).bind fun h' => some (.inl (nI (i + 1), h')) := by
  have e19 : q_fR h a 12 19 = some (a + 10) := o.fR (k := 19) rfl rfl
  unfold b_X12_blank_2
  rw [if_neg (show ¬ (112 : Int32) ≤ nI i from nI_ge (b := 112) (by omega) (by omega)), e19, Option.bind_some]
  rcases (show s = 0 ∨ s = 1 ∨ s = 2 ∨ s = 3 by omega) with rfl | rfl | rfl | rfl
  · rw [if_pos (show nI 0 = (0 : Int32) from rfl)]
    by_cases hc : 100 ≤ i ∧ i ≤ 105
    · have e := in_in h (n := i) (lo := 100) (hi := 105) (by omega) hc.1 hc.2
      have e : F_X12_in h (nI i) (100 : Int32) (105 : Int32) = some (nI 1) := e
      have b : bl0 0 i = 2 := by unfold bl0; rw [if_pos (by omega)]
      rw [e, Option.bind_some, if_neg (show ¬ nI 1 = (0 : Int32) by decide), b]
      simp only [nS]
    · have e := in_out h (y := nI i) (lo := 100) (hi := 105) (by omega) (by omega) (Or.inr ⟨i, rfl, by omega, by omega⟩)
      have e : F_X12_in h (nI i) (100 : Int32) (105 : Int32) = some (nI 0) := e
      have b : bl0 0 i = 0 := by unfold bl0; rw [if_neg (by omega), if_neg (by omega)]
      rw [e, Option.bind_some, if_pos (show nI 0 = (0 : Int32) from rfl), b]
      unfold j_X12_blank_28 j_X12_blank_47
      rw [if_neg (show ¬ nI 0 = (3 : Int32) by decide), if_neg (show ¬ nI 0 = (3 : Int32) by decide)]
      simp only [nS]
  · have b : bl0 1 i = 0 := by unfold bl0; rw [if_neg (by omega), if_neg (by omega)]
    rw [if_neg (show ¬ nI 1 = (0 : Int32) by decide), b]
    unfold j_X12_blank_28 j_X12_blank_47
    rw [if_neg (show ¬ nI 1 = (3 : Int32) by decide), if_neg (show ¬ nI 1 = (3 : Int32) by decide)]
    simp only [nS]
  · have b : bl0 2 i = 0 := by unfold bl0; rw [if_neg (by omega), if_neg (by omega)]
    rw [if_neg (show ¬ nI 2 = (0 : Int32) by decide), b]
    unfold j_X12_blank_28 j_X12_blank_47
    rw [if_neg (show ¬ nI 2 = (3 : Int32) by decide), if_neg (show ¬ nI 2 = (3 : Int32) by decide)]
    simp only [nS]
  · rw [if_neg (show ¬ nI 3 = (0 : Int32) by decide)]
    unfold j_X12_blank_28
    rw [if_pos (show nI 3 = (3 : Int32) from rfl)]
    by_cases hc : 1 ≤ i ∧ i ≤ 8
    · have e := in_in h (n := i) (lo := 1) (hi := 8) (by omega) hc.1 hc.2
      have e : F_X12_in h (nI i) (1 : Int32) (8 : Int32) = some (nI 1) := e
      have b : bl0 3 i = 2 := by unfold bl0; rw [if_pos (by omega)]
      rw [e, Option.bind_some, if_neg (show ¬ nI 1 = (0 : Int32) by decide), b]
      simp only [nS]
    · have e := in_out h (y := nI i) (lo := 1) (hi := 8) (by omega) (by omega) (Or.inr ⟨i, rfl, by omega, by omega⟩)
      have e : F_X12_in h (nI i) (1 : Int32) (8 : Int32) = some (nI 0) := e
      rw [e, Option.bind_some, if_pos (show nI 0 = (0 : Int32) from rfl)]
      unfold j_X12_blank_47
      rw [if_pos (show nI 3 = (3 : Int32) from rfl)]
      by_cases hc2 : 18 ≤ i ∧ i ≤ 26
      · have e := in_in h (n := i) (lo := 18) (hi := 26) (by omega) hc2.1 hc2.2
        have e : F_X12_in h (nI i) (18 : Int32) (26 : Int32) = some (nI 1) := e
        have b : bl0 3 i = 3 := by unfold bl0; rw [if_neg (by omega), if_pos (by omega)]
        rw [e, Option.bind_some, if_neg (show ¬ nI 1 = (0 : Int32) by decide), b]
        simp only [nS]
      · have e := in_out h (y := nI i) (lo := 18) (hi := 26) (by omega) (by omega) (Or.inr ⟨i, rfl, by omega, by omega⟩)
        have e : F_X12_in h (nI i) (18 : Int32) (26 : Int32) = some (nI 0) := e
        have b : bl0 3 i = 0 := by unfold bl0; rw [if_neg (by omega), if_neg (by omega)]
        rw [e, Option.bind_some, if_pos (show nI 0 = (0 : Int32) from rfl), b]
        simp only [nS]
theorem blk_bl0 : ∀ s, s < 4 → ∀ i, i < 112 → blk s i = if i = 0 then nI (if s = 3 then 4 else 0) else if i = 2 then nI (if s = 0 then 3 else bl0 s 2) else if i = 3 then nI (if s = 0 then 3 else bl0 s 3) else nI (bl0 s i) := by decide +kernel
theorem d_blank (o : OB h a 12 mdL A B I J) (hs : s < 4) : ∃ h' A', F_X12_blank h a (nI s) = some h' ∧ OB h' a 12 mdL A' B I J ∧ On [19] A A' ∧ (∀ j, j < 112 → A' 19 j = blk s j) ∧ Fr h h' a (a + 27) := by
  obtain ⟨h1, e1, A1, o1, n1, z1, r1⟩ : ∃ h1, q_lp (s_X12_blank_2 a (nI s)) q_N ((0 : Int32), h) = some h1 ∧ ∃ A1, OB h1 a 12 mdL A1 B I J ∧ On [19] A A1 ∧ (∀ j, j < 112 → A1 19 j = nI (bl0 s j)) ∧ Fr h h1 a (a + 27) := by
    refine q_lp_idx (step := s_X12_blank_2 a (nI s)) (fun i v => v.1 = nI i ∧ ∃ A1, OB v.2 a 12 mdL A1 B I J ∧ On [19] A A1 ∧ (∀ j, j < i → A1 19 j = nI (bl0 s j)) ∧ Fr h v.2 a (a + 27)) 112 _ ?_ ?_ q_N ((0 : Int32), h) ⟨rfl, A, o, On.rf, fun j hj => by omega, Fr.rf⟩ (q_lt_N (by omega))
    · rintro i ⟨x, g⟩ hi ⟨hx, A1, o1, n1, z1, r1⟩
      dsimp only at hx o1 r1
      subst hx
      obtain ⟨g2, e2, o2, r2⟩ := X12_s19 o1 (i := i) (nI (bl0 s i)) hi
      refine ⟨(nI (i + 1), g2), ?_, rfl, _, o2, n1.tr (On.up (by decide)), fun j hj => ?_, r1.tr r2⟩
      · show b_X12_blank_2 a (nI s) (nI i) g = _
        rw [d_bl0 hs hi o1, e2, Option.bind_some]
      · rw [upF_self]
        by_cases e : j = i
        · subst e; exact pk_us
        · rw [pk_un e]; exact z1 j (by omega)
    · rintro ⟨x, g⟩ ⟨hx, A1, o1, n1, z1, r1⟩
      dsimp only at hx o1 r1
      subst hx
      refine ⟨g, ?_, A1, o1, n1, z1, r1⟩
      simp (disch := omega) only [s_X12_blank_2, b_X12_blank_2, nS]
  obtain ⟨h2, e2, o2, r2⟩ := X12_s19 o1 (i := 0) (nI (if s = 3 then 4 else 0)) (by omega)
  obtain ⟨h3, e3, o3, r3⟩ := X12_s19 o2 (i := 2) (nI (if s = 0 then 3 else bl0 s 2)) (by omega)
  obtain ⟨h4, e4, o4, r4⟩ := X12_s19 o3 (i := 3) (nI (if s = 0 then 3 else bl0 s 3)) (by omega)
  have f1 : q_fR h1 a 12 19 = some (a + 10) := o1.fR (k := 19) rfl rfl
  have f2 : q_fR h2 a 12 19 = some (a + 10) := o2.fR (k := 19) rfl rfl
  have f3 : q_fR h3 a 12 19 = some (a + 10) := o3.fR (k := 19) rfl rfl
  have g2 : q_aI h2 .int (a + 10) (2 : Int32) = some (nI (bl0 s 2)) := by
    have e : upF A1 19 (upd (A1 19) 0 (nI (if s = 3 then 4 else 0))) 19 2 = nI (bl0 s 2) := by rw [upF_self, pk_un (by omega)]; exact z1 2 (by omega)
    rw [← e]; exact q_ixI (i := 2) (fun i h0 h1 => o2.aI (k := 19) rfl h0 h1) (by omega) (by decide)
  have g3 : q_aI h3 .int (a + 10) (3 : Int32) = some (nI (bl0 s 3)) := by
    have e : upF (upF A1 19 (upd (A1 19) 0 (nI (if s = 3 then 4 else 0)))) 19 (upd (upF A1 19 (upd (A1 19) 0 (nI (if s = 3 then 4 else 0))) 19) 2 (nI (if s = 0 then 3 else bl0 s 2))) 19 3 = nI (bl0 s 3) := by rw [upF_self, pk_un (by omega), upF_self, pk_un (by omega)]; exact z1 3 (by omega)
    rw [← e]; exact q_ixI (i := 3) (fun i h0 h1 => o3.aI (k := 19) rfl h0 h1) (by omega) (by decide)
  refine ⟨h4, _, ?_, o4, ((n1.tr (On.up (by decide))).tr (On.up (by decide))).tr (On.up (by decide)), fun j hj => ?_, ((r1.tr r2).tr r3).tr r4⟩
  · have c1 : F_X12_blank h a (nI s) = j_X12_blank_90 h1 a (nI s) (nI (if s = 3 then 4 else 0)) (0 : Int32) (a + 10) := by
      unfold F_X12_blank
      rw [e1, Option.bind_some, f1, Option.bind_some]
      by_cases e : s = 3
      · rw [e, if_pos (show nI 3 = (3 : Int32) from rfl)]; rfl
      · rw [if_neg (show ¬ nI s = (3 : Int32) from fun q => e ((nI_eq (b := 3) (by omega) (by omega)).mp q)), if_neg e]; rfl
    have e2 : q_sI h1 .int (a + 10) (0 : Int32) (nI (if s = 3 then 4 else 0)) = some h2 := e2
    have e3 : q_sI h2 .int (a + 10) (2 : Int32) (nI (if s = 0 then 3 else bl0 s 2)) = some h3 := e3
    have e4 : q_sI h3 .int (a + 10) (3 : Int32) (nI (if s = 0 then 3 else bl0 s 3)) = some h4 := e4
    rw [c1]
    unfold j_X12_blank_90
    rw [e2, Option.bind_some, f2, Option.bind_some]
    by_cases e : s = 0
    · rw [if_pos e] at e3 e4
      have e3 : q_sI h2 .int (a + 10) (2 : Int32) (3 : Int32) = some h3 := e3
      have e4 : q_sI h3 .int (a + 10) (3 : Int32) (3 : Int32) = some h4 := e4
      rw [e, if_pos (show nI 0 = (0 : Int32) from rfl)]
      unfold j_X12_blank_110
      rw [e3, Option.bind_some, f3, Option.bind_some, if_pos (show nI 0 = (0 : Int32) from rfl), e4, Option.bind_some]
    · rw [if_neg e] at e3 e4
      have n0 : ¬ nI s = (0 : Int32) := fun q => e ((nI_eq (b := 0) (by omega) (by omega)).mp q)
      rw [if_neg n0, Option.bind_some, g2, Option.bind_some]
      unfold j_X12_blank_110
      rw [e3, Option.bind_some, f3, Option.bind_some, if_neg n0, Option.bind_some, g3, Option.bind_some, e4, Option.bind_some]
  · rw [blk_bl0 s hs j hj, upF_self, upF_self, upF_self]
    by_cases j3 : j = 3
    · subst j3
      rw [pk_us]; rfl
    · rw [pk_un j3]
      by_cases j2 : j = 2
      · subst j2
        rw [pk_us]; rfl
      · rw [pk_un j2]
        by_cases j0 : j = 0
        · subst j0
          rw [pk_us]; rfl
        · rw [pk_un j0, if_neg j0, if_neg j2, if_neg j3]
          exact z1 j hj
/-! the reading, whole: what comes out of it -/
def oFt (o : LFt) : Int32 := match o with
  | none => nI 0
  | some q => nI q.1
def oPl (o : LFt) : Int32 := match o with
  | none => m1
  | some q => nI q.2
noncomputable def yFin (σ : SG) (s m : Nat) : LFt := match yLL σ s m with
  | some q => some q
  | none => if (s = 0 ∨ s = 3) ∧ cn (yTT σ s m) 0 < yFF σ s m then some (4, sZ σ) else none
def yOut (σ : SG) (s m : Nat) (o : LFt) : Prop := (∀ j, j < m → yGd σ s (yst σ s j)) ∧ ((∃ u, yBad σ s (yst σ s m) u ∧ o = some (1, bg σ u)) ∨ (yK σ s (yst σ s m) = 4 ∧ o = yFin σ s m))
theorem rT_end (o : OB h a 12 mdL A B I J) {x : Nat} {y : Int32} (hx : x < 5) : (∃ h', (q_sI h .int (a + 3) (nI 0) (nI x)) = some h' ∧ ∃ h2, q_sI h' .int (a + 4) (nI 0) y = some h2 ∧ OB h' a 12 mdL (upF A 3 (upd (A 3) 0 (nI x))) B I J ∧ OB h2 a 12 mdL (upF (upF A 3 (upd (A 3) 0 (nI x))) 4 (upd (A 4) 0 y)) B I J ∧ j_X12_readText_121 h' a y (nI 0) (a + 4) = some (nI (if x = 0 then 1 else 0), h2) ∧ Fr h h2 a (a + 27)) := by
  obtain ⟨h1, e1, o1, r1⟩ := X12_s3 o (i := 0) (nI x) (by omega)
  obtain ⟨h2, e2, o2, r2⟩ := X12_s4 o1 (i := 0) y (by omega)
  rw [upF_ne _ _ (show (4 : Nat) ≠ 3 by decide)] at o2
  refine ⟨h1, e1, h2, e2, o1, o2, ?_, r1.tr r2⟩
  have e3 : q_aI h2 .int (a + 3) (0 : Int32) = some (nI x) := by
    have e : upF (upF A 3 (upd (A 3) 0 (nI x))) 4 (upd (A 4) 0 y) 3 0 = nI x := by rw [upF_ne _ _ (by decide), upF_self, pk_us]
    rw [← e]; exact q_ixI (i := 0) (fun i h0 h1 => o2.aI (k := 3) rfl h0 h1) (by omega) (by decide)
  unfold j_X12_readText_121
  rw [e2, Option.bind_some, o2.fR (k := 3) rfl rfl, Option.bind_some]
  show ((q_aI h2 .int (a + 3) (0 : Int32)).bind _) = _
  rw [e3, Option.bind_some]
  by_cases e : x = 0
  · subst e; rfl
  · rw [if_neg (show ¬ nI x = (0 : Int32) from fun q => e ((nI_eq (b := 0) (by omega) (by omega)).mp q)), if_neg e]; rfl
def MA (out : LFt) (I : Nat → Int32) : Prop := match out with
  | none => I 17 = nI 0
  | some q => I 17 = nI q.1 ∧ I 18 = nI q.2 ∧ 0 < q.1 ∧ q.1 < 5
theorem rT_fin (o : OB h a 12 mdL A B I J) {out : LFt} {fine : Nat} (hf : fine < 2) (h0 : fine = 0 → ∃ p, out = some (1, p) ∧ I 16 = nI p) (h1 : fine = 1 → MA out I) : ∃ h' A', j_X12_readText_72 h a (nI fine) = some (nI (if out = none then 1 else 0), h') ∧ OB h' a 12 mdL A' B I J ∧ On [3, 4] A A' ∧ A' 3 = upd (A 3) 0 (oFt out) ∧ A' 4 = upd (A 4) 0 (oPl out) ∧ Fr h h' a (a + 27) := by
  have f3 : q_fR h a 12 3 = some (a + 3) := o.fR (k := 3) rfl rfl
  have go : ∀ {x : Nat} {y : Int32}, x < 5 → ∃ h1 h2, q_sI h .int (a + 3) (0 : Int32) (nI x) = some h1 ∧ OB h1 a 12 mdL (upF A 3 (upd (A 3) 0 (nI x))) B I J ∧ OB h2 a 12 mdL (upF (upF A 3 (upd (A 3) 0 (nI x))) 4 (upd (A 4) 0 y)) B I J ∧ j_X12_readText_121 h1 a y (0 : Int32) (a + 4) = some (nI (if x = 0 then 1 else 0), h2) ∧ Fr h h2 a (a + 27) := by
    intro x y hx
    obtain ⟨h1, e1, h2, e2, o1, o2, e3, r⟩ := rT_end o (y := y) hx
    exact ⟨h1, h2, e1, o1, o2, e3, r⟩
  have on : ∀ {x y : Int32}, On [3, 4] A (upF (upF A 3 (upd (A 3) 0 x)) 4 (upd (A 4) 0 y)) := fun {x y} => (On.up (by decide)).tr (On.up (by decide))
  have a3 : ∀ {x y : Int32}, upF (upF A 3 (upd (A 3) 0 x)) 4 (upd (A 4) 0 y) 3 = upd (A 3) 0 x := fun {x y} => by rw [upF_ne _ _ (by decide), upF_self]
  have a4 : ∀ {x y : Int32}, upF (upF A 3 (upd (A 3) 0 x)) 4 (upd (A 4) 0 y) 4 = upd (A 4) 0 y := fun {x y} => upF_self _ _ _
  unfold j_X12_readText_72
  rw [f3, Option.bind_some]
  rcases (show fine = 0 ∨ fine = 1 by omega) with rfl | rfl
  · obtain ⟨p, rfl, i16⟩ := h0 rfl
    obtain ⟨g1, g2, e1, o1, o2, e2, r⟩ := go (x := 1) (y := nI p) (by omega)
    refine ⟨g2, _, ?_, o2, on, a3, a4, r⟩
    have e1 : q_sI h .int (a + 3) (0 : Int32) (1 : Int32) = some g1 := e1
    have f4 : q_fR g1 a 12 4 = some (a + 4) := o1.fR (k := 4) rfl rfl
    have f16 : q_fI g1 a 12 16 = some (nI p) := by rw [← i16]; exact o1.fI (k := 16) rfl
    rw [if_pos (show nI 0 = (0 : Int32) from rfl)]
    unfold j_X12_readText_89
    rw [e1, Option.bind_some, f4, Option.bind_some, if_pos (show nI 0 = (0 : Int32) from rfl), f16, Option.bind_some]
    exact e2
  · have h1 := h1 rfl
    rw [if_neg (show ¬ nI 1 = (0 : Int32) by decide)]
    cases out with
    | none =>
      have h1 : I 17 = nI 0 := h1
      obtain ⟨g1, g2, e1, o1, o2, e2, r⟩ := go (x := 0) (y := m1) (by omega)
      refine ⟨g2, _, ?_, o2, on, a3, a4, r⟩
      have f4 : q_fR g1 a 12 4 = some (a + 4) := o1.fR (k := 4) rfl rfl
      have f17 : q_fI h a 12 17 = some (nI 0) := by rw [← h1]; exact o.fI (k := 17) rfl
      have g17 : q_fI g1 a 12 17 = some (nI 0) := by rw [← h1]; exact o1.fI (k := 17) rfl
      rw [f17, Option.bind_some]
      unfold j_X12_readText_89_4
      rw [e1, Option.bind_some, f4, Option.bind_some, if_neg (show ¬ nI 1 = (0 : Int32) by decide), g17, Option.bind_some, if_pos (show nI 0 ≤ (0 : Int32) by decide)]
      exact e2
    | some q =>
      obtain ⟨f, p⟩ := q
      obtain ⟨i17, i18, hf1, hf2⟩ := h1
      dsimp only at i17 i18 hf1 hf2
      obtain ⟨g1, g2, e1, o1, o2, e2, r⟩ := go (x := f) (y := nI p) hf2
      rw [if_neg (show ¬ f = 0 by omega)] at e2
      refine ⟨g2, _, ?_, o2, on, a3, a4, r⟩
      have f4 : q_fR g1 a 12 4 = some (a + 4) := o1.fR (k := 4) rfl rfl
      have f17 : q_fI h a 12 17 = some (nI f) := by rw [← i17]; exact o.fI (k := 17) rfl
      have g17 : q_fI g1 a 12 17 = some (nI f) := by rw [← i17]; exact o1.fI (k := 17) rfl
      have g18 : q_fI g1 a 12 18 = some (nI p) := by rw [← i18]; exact o1.fI (k := 18) rfl
      rw [f17, Option.bind_some]
      unfold j_X12_readText_89_4
      rw [e1, Option.bind_some, f4, Option.bind_some, if_neg (show ¬ nI 1 = (0 : Int32) by decide), g17, Option.bind_some, if_neg (show ¬ nI f ≤ (0 : Int32) from fun q => by have := (nI_leI (b := 0) (by omega) (by omega)).mp q; omega), g18, Option.bind_some]
      exact e2
theorem LT.ma {lf : LFt} {bd : Nat} (l : LT lf bd I) : MA lf I := by
  cases lf with
  | none => exact l
  | some q =>
    obtain ⟨f, p⟩ := q
    obtain ⟨l1, l2, l3, l4, -⟩ := l
    exact ⟨l1, l2, l3, l4⟩
theorem d_read (o : OB h a 12 mdL A B I J) (tp : TP A σ) (hz : sZ σ ≤ 600) (i11 : I 11 = nI (sZ σ)) (hs : s < 4) {m : Nat} (hm : m ≤ 601) {out : LFt} (yo : yOut σ s m out) : ∃ h' A' I' J', F_X12_readText h a (nI s) = some (nI (if out = none then 1 else 0), h') ∧ OB h' a 12 mdL A' B I' J' ∧ On [3, 4, 19, 20] A A' ∧ A' 3 = upd (A 3) 0 (oFt out) ∧ A' 4 = upd (A 4) 0 (oPl out) ∧ (out = none → ∀ j, j < 112 → A' 19 j = yTT σ s m j) ∧ Fr h h' a (a + 27) := by
  obtain ⟨hg, hout⟩ := yo
  obtain ⟨h1, A1, e1, o1, n1, z1, r1⟩ := d_blank o hs
  obtain ⟨h2, e2, o2, r2⟩ := X12_p21 o1 m1
  obtain ⟨h3, e3, o3, r3⟩ := X12_p10 o2 (nI 0)
  obtain ⟨h4, e4, o4, r4⟩ := X12_p17 o3 (nI 0)
  have tp1 : TP A1 σ := fun p hp => by rw [n1 1 (by decide)]; exact tp p hp
  obtain ⟨h5, I5, J5, e5, o5, la, n5, -, r5⟩ := d_token (i := 0) o4 tp1 hz (by simp (disch := omega) only [uS]; exact i11) (by simp (disch := omega) only [uS]; rfl)
  have r15 := (((r1.tr r2).tr r3).tr r4).tr r5
  have e2 : q_put h1 a 12 21 (.int (-1 : Int32)) = some h2 := e2
  have e3 : q_put h2 a 12 10 (.int (0 : Int32)) = some h3 := e3
  have e4 : q_put h3 a 12 17 (.int (0 : Int32)) = some h4 := e4
  have l0 : LIv σ s h a A1 B 0 h5 := ⟨A1 20, none, A1, I5, J5, o5, la, On.rf, z1, rfl, (n5 17 (by decide)).trans (by simp (disch := omega) only [uS]), (n5 21 (by decide)).trans (by simp (disch := omega) only [uS]; rfl), (fun b hb => by cases hb), r15⟩
  have on1 : On [3, 4, 19, 20] A A1 := n1.mo (by decide)
  have pre : F_X12_readText h a (nI s) = (F_X12_lines h5 a (nI s)).bind fun x17 => (if x17.1 = 0 then j_X12_readText_72 x17.2 a x17.1 else (q_fI x17.2 a 12 17).bind fun x20 => (if x20 = 0 then (if nI s = 0 then j_X12_readText_50 x17.2 a x17.1 else (if nI s = (3 : Int32) then j_X12_readText_50 x17.2 a x17.1 else j_X12_readText_72 x17.2 a x17.1)) else j_X12_readText_72 x17.2 a x17.1)) := by
    unfold F_X12_readText
    rw [o.ob, Option.bind_some, e1, Option.bind_some, e2, Option.bind_some, e3, Option.bind_some, e4, Option.bind_some, o4.ob, Option.bind_some, e5, Option.bind_some, o5.ob, Option.bind_some]
  rw [pre]
  rcases hout with ⟨u, hu, rfl⟩ | ⟨h4', rfl⟩
  · obtain ⟨h6, e6, A6, I6, J6, o6, on6, i16, r6⟩ := r_wrong l0 tp1 hz hs hg hm hu
    obtain ⟨h7, A7, e7, o7, on7, a3, a4, r7⟩ := rT_fin o6 (out := some (1, bg σ u)) (fine := 0) (by omega) (fun _ => ⟨_, rfl, i16⟩) (fun q => by omega)
    refine ⟨h7, A7, I6, J6, ?_, o7, (on1.tr (on6.mo (by decide))).tr (on7.mo (by decide)), ?_, ?_, (fun q => by cases q), r6.tr r7⟩
    · rw [e6, Option.bind_some, if_pos (show nI 0 = (0 : Int32) from rfl)]
      exact e7
    · rw [a3, on6 3 (by decide), n1 3 (by decide)]
    · rw [a4, on6 4 (by decide), n1 4 (by decide)]
  · obtain ⟨h6, e6, R6, gd6, A6, I6, J6, o6, la6, on6, t6, -, lt6, i21, -, r6⟩ := r_fine l0 tp1 hz hs hg hm h4'
    obtain ⟨tb, ff⟩ := yTB hs hg m (Nat.le_refl _)
    have f17 : q_fI h6 a 12 17 = some (I6 17) := o6.fI (k := 17) rfl
    rw [e6, Option.bind_some, if_neg (show ¬ nI 1 = (0 : Int32) by decide)]
    dsimp only
    rw [f17, Option.bind_some]
    have fin : ∀ {out : LFt} {g : qH} {I' : Nat → Int32}, OB g a 12 mdL A6 B I' J6 → Fr h g a (a + 27) → MA out I' → ∃ h' A' I' J', j_X12_readText_72 g a (nI 1) = some (nI (if out = none then 1 else 0), h') ∧ OB h' a 12 mdL A' B I' J' ∧ On [3, 4, 19, 20] A A' ∧ A' 3 = upd (A 3) 0 (oFt out) ∧ A' 4 = upd (A 4) 0 (oPl out) ∧ (out = none → ∀ j, j < 112 → A' 19 j = yTT σ s m j) ∧ Fr h h' a (a + 27) := by
      intro out g I' og rg hq
      obtain ⟨h7, A7, e7, o7, on7, a3, a4, r7⟩ := rT_fin og (out := out) (fine := 1) (by omega) (fun q => by omega) (fun _ => hq)
      refine ⟨h7, A7, I', J6, e7, o7, (on1.tr (on6.mo (by decide))).tr (on7.mo (by decide)), ?_, ?_, fun _ j hj => ?_, rg.tr r7⟩
      · rw [a3, on6 3 (by decide), n1 3 (by decide)]
      · rw [a4, on6 4 (by decide), n1 4 (by decide)]
      · rw [on7 19 (by decide)]; exact t6 j hj
    unfold yFin
    cases hL : yLL σ s m with
    | some q =>
      rw [hL] at lt6
      have hq := lt6.ma
      obtain ⟨q1, q2, q3, q4⟩ := hq
      rw [if_neg (show ¬ I6 17 = 0 from fun z => by rw [q1] at z; have := (nI_eq (b := 0) (by omega) (by omega)).mp z; omega)]
      exact fin o6 r6 ⟨q1, q2, q3, q4⟩
    | none =>
      rw [hL] at lt6
      have hq : I6 17 = nI 0 := lt6
      dsimp only
      rw [if_pos (show I6 17 = 0 from hq)]
      by_cases h03 : s = 0 ∨ s = 3
      · have pre2 : (if nI s = 0 then j_X12_readText_50 h6 a (nI 1) else (if nI s = (3 : Int32) then j_X12_readText_50 h6 a (nI 1) else j_X12_readText_72 h6 a (nI 1))) = j_X12_readText_50 h6 a (nI 1) := by
          rcases h03 with e | e
          · rw [e]; rfl
          · rw [e]; rfl
        rw [pre2]
        have t0 : yTT σ s m 0 = nI (cn (yTT σ s m) 0) ∧ cn (yTT σ s m) 0 < 100 := by
          rcases h03 with e | e
          · have := tb.1 e; exact ⟨this.1.1, by omega⟩
          · exact tb.2.2.2 e
        have f21 : q_fI h6 a 12 21 = some (oF (yFF σ s m)) := by rw [← i21]; exact o6.fI (k := 21) rfl
        have f19 : q_fR h6 a 12 19 = some (a + 10) := o6.fR (k := 19) rfl rfl
        have g0 : q_aI h6 .int (a + 10) (0 : Int32) = some (nI (cn (yTT σ s m) 0)) := by
          rw [← t0.1, ← t6 0 (by omega)]; exact q_ixI (i := 0) (fun i h0 h1 => o6.aI (k := 19) rfl h0 h1) (by omega) (by decide)
        unfold j_X12_readText_50
        rw [f21, Option.bind_some, f19, Option.bind_some, g0, Option.bind_some]
        have hl := oF_lt (q := yFF σ s m) (k := cn (yTT σ s m) 0) (by omega) (by omega)
        by_cases hc : cn (yTT σ s m) 0 < yFF σ s m
        · rw [if_neg (show ¬ oF (yFF σ s m) < nI (cn (yTT σ s m) 0) from fun q => by have := hl.mp q; omega), if_pos (And.intro h03 hc)]
          have hb : bg σ (yst σ s m) = sZ σ := by
            have := (kd_end (σ := σ) (s := s) (p := bg σ (yst σ s m))).mp h4'
            have := bg_le σ (yst σ s m)
            omega
          have f12 : q_fI h6 a 12 12 = some (nI (sZ σ)) := by rw [← hb, ← la6.2.2.1]; exact o6.fI (k := 12) rfl
          obtain ⟨h7, I7, e7, o7, l7, n7, r7⟩ := d_later o6 (lf := none) (bd := 0) hq (f := 4) (p := sZ σ) (by omega) (by omega) (by omega) (by omega)
          have e7 : F_X12_later h6 a (4 : Int32) (nI (sZ σ)) = some h7 := e7
          rw [f12, Option.bind_some, o6.ob, Option.bind_some, e7, Option.bind_some]
          exact fin (out := some (4, sZ σ)) o7 (r6.tr r7) l7.ma
        · rw [if_pos (hl.mpr (by omega)), if_neg (show ¬ ((s = 0 ∨ s = 3) ∧ cn (yTT σ s m) 0 < yFF σ s m) from fun q => hc q.2)]
          exact fin (out := none) o6 r6 hq
      · have n0 : ¬ nI s = (0 : Int32) := fun q => h03 (Or.inl ((nI_eq (b := 0) (by omega) (by omega)).mp q))
        have n3 : ¬ nI s = (3 : Int32) := fun q => h03 (Or.inr ((nI_eq (b := 3) (by omega) (by omega)).mp q))
        rw [if_neg n0, if_neg n3, if_neg (show ¬ ((s = 0 ∨ s = 3) ∧ cn (yTT σ s m) 0 < yFF σ s m) from fun q => h03 q.1)]
        exact fin (out := none) o6 r6 hq
end REFC
