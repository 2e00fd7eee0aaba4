/-! ===== the call text: towns are filled ===== -/
section FIT
variable {h : qH} {a e : Nat} {σ : SG} {n m : Nat} {z : Nat → Nat} {u v : Int32} {A : Nat → Nat → Int32} {B : Nat → Nat → Int64} {I : Nat → Int32} {J : Nat → Int64} {T : Nat → Int32}
/-- the told row of a town behind a fit statement -/
theorem tlW {w : Nat} {x : Nat → Nat} (h1 : 15 ≤ w) (h2 : w < 19) (hin : ∀ i, i < nnW w → inB w i (x i) = true) : tlS w x T = if w = 15 then upd T 0 (nI (x 0)) else if w = 16 then upd T (1 + x 0) (nI (x 1)) else if w = 17 then upd T (9 + x 0) (nI (x 1)) else upd T (18 + x 0) (nI (x 1)) := by
  rcases (show w = 15 ∨ w = 16 ∨ w = 17 ∨ w = 18 by omega) with rfl | rfl | rfl | rfl
  · rfl
  · exact if_pos ((gdF_t 2).mpr hin)
  · exact if_pos ((gdF_t 2).mpr hin)
  · exact if_pos ((gdF_t 2).mpr hin)
theorem inW {w : Nat} {x : Nat → Nat} (h1 : 15 ≤ w) (h2 : w < 19) (hin : ∀ i, i < nnW w → inB w i (x i) = true) : (w = 15 → 2 ≤ x 0 ∧ x 0 ≤ 9) ∧ (w = 16 → x 0 ≤ 7 ∧ 1 ≤ x 1 ∧ x 1 ≤ 9) ∧ (w = 17 → x 0 ≤ 8 ∧ x 1 ≤ 1) ∧ (w = 18 → x 0 ≤ 8 ∧ x 1 ≤ 9) := by
  refine ⟨fun e => ?_, fun e => ?_, fun e => ?_, fun e => ?_⟩
  · subst e; exact inB_t.mp (hin 0 (by decide))
  · subst e; exact ⟨(inB_t.mp (hin 0 (by decide))).2, inB_t.mp (hin 1 (by decide))⟩
  · subst e; exact ⟨(inB_t.mp (hin 0 (by decide))).2, (inB_t.mp (hin 1 (by decide))).2⟩
  · subst e; exact ⟨(inB_t.mp (hin 0 (by decide))).2, (inB_t.mp (hin 1 (by decide))).2⟩
theorem c_clearW (o : OB h e 10 twL A B I J) : ∃ h' A' I', F_X10_clear h e = some h' ∧ OB h' e 10 twL A' B I' J ∧ CWc (blk 3) A' I' ∧ Fr h h' e (e + 5) := by
  obtain ⟨h1, e1, o1, r1⟩ := X10_p4 o (nI 4)
  obtain ⟨h2, e2, A2, o2, z2, f2⟩ := q_lp_idx (step := s_X10_clear_7 e) (fun i v => v.1 = nI i ∧ ∃ A', OB v.2 e 10 twL A' B (upd I 4 (nI 4)) J ∧ (∀ k, k < i → A' 0 k = nI 2 ∧ A' 1 k = nI 0 ∧ A' 2 k = nI 3) ∧ Fr h v.2 e (e + 5)) 9 (fun g => ∃ A', OB g e 10 twL A' B (upd I 4 (nI 4)) J ∧ (∀ k, k < 9 → A' 0 k = nI 2 ∧ A' 1 k = nI 0 ∧ A' 2 k = nI 3) ∧ Fr h g e (e + 5)) (by
    rintro i ⟨x, g⟩ hi ⟨hx, A', o', z', f'⟩
    dsimp only at hx o' f'
    subst hx
    obtain ⟨g2, q2, o2, r2⟩ := X10_s0 o' (i := i) (nI 2) hi
    obtain ⟨g3, q3, o3, r3⟩ := X10_s1 o2 (i := i) (nI 0) hi
    obtain ⟨g4, q4, o4, r4⟩ := X10_s2 o3 (i := i) (nI 3) hi
    refine ⟨(nI (i + 1), g4), ?_, rfl, _, o4, fun k hk => ?_, ((f'.tr r2).tr r3).tr r4⟩
    · simp (disch := omega) only [s_X10_clear_7, b_X10_clear_7, nS, X10_rd o', q2, X10_rd o2, q3, X10_rd o3, q4]
    · rw [upF_ne _ _ (show (0 : Nat) ≠ 2 by decide), upF_ne _ _ (show (0 : Nat) ≠ 1 by decide), upF_self, upF_ne _ _ (show (1 : Nat) ≠ 2 by decide), upF_self, upF_ne _ _ (show (1 : Nat) ≠ 0 by decide), upF_self, upF_ne _ _ (show (2 : Nat) ≠ 1 by decide), upF_ne _ _ (show (2 : Nat) ≠ 0 by decide)]
      by_cases ek : k = i
      · subst ek
        exact ⟨pk_us, pk_us, pk_us⟩
      · rw [pk_un ek, pk_un ek, pk_un ek]
        exact z' k (by omega)) (by
    rintro ⟨x, g⟩ ⟨hx, A', o', z', f'⟩
    dsimp only at hx o' f'
    subst hx
    exact ⟨g, by simp (disch := omega) only [s_X10_clear_7, b_X10_clear_7, nS], A', o', z', f'⟩) q_N (nI 0, h1) ⟨rfl, A, o1, fun k hk => by omega, r1⟩ (q_lt_N (by omega))
  have b1 : ∀ k, k < 8 → blk 3 (1 + k) = nI 2 := by decide +kernel
  have b2 : ∀ k, k < 9 → blk 3 (9 + k) = nI 0 ∧ blk 3 (18 + k) = nI 3 := by decide +kernel
  refine ⟨h2, A2, _, ?_, o2, ⟨by rw [pk_us]; rfl, fun k hk => by rw [b1 k hk]; exact (z2 k (by omega)).1, fun k hk => by rw [(b2 k hk).1, (b2 k hk).2]; exact (z2 k hk).2⟩, f2⟩
  have e1 : q_put h e 10 4 (.int (4 : Int32)) = some h1 := e1
  have e2 : q_lp (s_X10_clear_7 e) q_N ((0 : Int32), h1) = some h2 := e2
  unfold F_X10_clear
  rw [e1, Option.bind_some, e2, Option.bind_some]
theorem c_tellW (hn : n ≤ 600) {t : Nat} (g : yGd σ 3 t) (hle : t + 1 + nnW (yV σ 3 t) + 1 ≤ n) (hin : ∀ i, i < nnW (yV σ 3 t) → inB (yV σ 3 t) i (yX σ 3 t i) = true) (r : RK h a (n + 1) (tok σ 3) u v) (o : OB h e 10 twL A B I J) (cw : CWc T A I) : ∃ h' A' I', F_X7_tellTown h a e (nI t) = some h' ∧ OB h' e 10 twL A' B I' J ∧ CWc (tlS (yV σ 3 t) (yX σ 3 t) T) A' I' ∧ Fr h h' e (e + 5) := by
  obtain ⟨-, -, w1, w2, -, -⟩ := yK_word (by omega) g.1
  have w1 : 15 ≤ yV σ 3 t := w1
  have w2 : yV σ 3 t < 19 := w2
  have ev := k_val r hn (by omega) (k := t) (by omega) (by rw [g.1]; omega)
  have hnn : 1 ≤ nnW (yV σ 3 t) := by
    rcases (show yV σ 3 t = 15 ∨ yV σ 3 t = 16 ∨ yV σ 3 t = 17 ∨ yV σ 3 t = 18 by omega) with hw | hw | hw | hw <;> rw [hw] <;> decide
  have x0 := k_x r hn (by omega) g hle (i := 0) (by omega)
  have x1 := k_x r hn (by omega) g hle (i := 1) hnn
  obtain ⟨i15, i16, i17, i18⟩ := inW w1 w2 hin
  rw [tlW w1 w2 hin]
  obtain ⟨c1, c2, c3⟩ := cw
  have pre : F_X7_tellTown h a e (nI t) = (if nI (yV σ 3 t) = 15 then (q_put h e 10 4 (.int (nI (yX σ 3 t 0)))).bind fun h14 => some h14 else if nI (yV σ 3 t) = 16 then (q_ob h e 10).bind fun u17 => (F_X10_setWall h e (nI (yX σ 3 t 0)) (nI (yX σ 3 t 1))).bind fun x19 => some x19 else if nI (yV σ 3 t) = 17 then (q_ob h e 10).bind fun u22 => (F_X10_setBook h e (nI (yX σ 3 t 0)) (nI (yX σ 3 t 1))).bind fun x24 => some x24 else if nI (yV σ 3 t) = 18 then (q_ob h e 10).bind fun u27 => (F_X10_setLoud h e (nI (yX σ 3 t 0)) (nI (yX σ 3 t 1))).bind fun x29 => some x29 else some h) := by
    unfold F_X7_tellTown
    rw [r.ob, Option.bind_some, n_lit 1, nI_add, show nI (t + 1) = nI (t + 1 + 0) from rfl, x0, Option.bind_some, Option.bind_some, n_lit 2, nI_add, show nI (t + 2) = nI (t + 1 + 1) from rfl, x1, Option.bind_some, Option.bind_some, ev, Option.bind_some]
  rw [pre]
  rcases (show yV σ 3 t = 15 ∨ yV σ 3 t = 16 ∨ yV σ 3 t = 17 ∨ yV σ 3 t = 18 by omega) with hw | hw | hw | hw
  · obtain ⟨h1, e1, o1, r1⟩ := X10_p4 o (nI (yX σ 3 t 0))
    rw [hw, if_pos (show (15 : Nat) = 15 from rfl)]
    refine ⟨h1, A, _, ?_, o1, ⟨by rw [pk_us, pk_us], fun k hk => by rw [pk_un (by omega)]; exact c2 k hk, fun k hk => by rw [pk_un (by omega), pk_un (by omega)]; exact c3 k hk⟩, r1⟩
    rw [if_pos (show nI 15 = (15 : Int32) from rfl), e1, Option.bind_some]
  · obtain ⟨hx, -⟩ := i16 hw
    obtain ⟨h1, e1, o1, r1⟩ := X10_s0 o (i := yX σ 3 t 0) (nI (yX σ 3 t 1)) (by omega)
    rw [hw, if_neg (show ¬ (16 : Nat) = 15 by decide), if_pos (show (16 : Nat) = 16 from rfl)]
    refine ⟨h1, _, I, ?_, o1, ⟨by rw [pk_un (by omega)]; exact c1, fun k hk => ?_, fun k hk => ?_⟩, r1⟩
    · rw [if_neg (show ¬ nI 16 = (15 : Int32) by decide), if_pos (show nI 16 = (16 : Int32) from rfl), o.ob, Option.bind_some]
      simp (disch := omega) only [F_X10_setWall, nS, X10_rd o, e1]
    · rw [upF_self]
      by_cases ek : k = yX σ 3 t 0
      · subst ek; rw [pk_us, pk_us]
      · rw [pk_un ek, pk_un (by omega)]; exact c2 k hk
    · rw [upF_ne _ _ (by decide), upF_ne _ _ (by decide), pk_un (by omega), pk_un (by omega)]; exact c3 k hk
  · obtain ⟨hx, -⟩ := i17 hw
    obtain ⟨h1, e1, o1, r1⟩ := X10_s1 o (i := yX σ 3 t 0) (nI (yX σ 3 t 1)) (by omega)
    rw [hw, if_neg (show ¬ (17 : Nat) = 15 by decide), if_neg (show ¬ (17 : Nat) = 16 by decide), if_pos (show (17 : Nat) = 17 from rfl)]
    refine ⟨h1, _, I, ?_, o1, ⟨by rw [pk_un (by omega)]; exact c1, fun k hk => ?_, fun k hk => ?_⟩, r1⟩
    · rw [if_neg (show ¬ nI 17 = (15 : Int32) by decide), if_neg (show ¬ nI 17 = (16 : Int32) by decide), if_pos (show nI 17 = (17 : Int32) from rfl), o.ob, Option.bind_some]
      simp (disch := omega) only [F_X10_setBook, nS, X10_rd o, e1]
    · rw [upF_ne _ _ (by decide), pk_un (by omega)]; exact c2 k hk
    · rw [upF_self, upF_ne _ _ (by decide), pk_un (show 18 + k ≠ 9 + yX σ 3 t 0 by omega)]
      refine ⟨?_, (c3 k hk).2⟩
      by_cases ek : k = yX σ 3 t 0
      · subst ek; rw [pk_us, pk_us]
      · rw [pk_un ek, pk_un (by omega)]; exact (c3 k hk).1
  · obtain ⟨hx, -⟩ := i18 hw
    obtain ⟨h1, e1, o1, r1⟩ := X10_s2 o (i := yX σ 3 t 0) (nI (yX σ 3 t 1)) (by omega)
    rw [hw, if_neg (show ¬ (18 : Nat) = 15 by decide), if_neg (show ¬ (18 : Nat) = 16 by decide), if_neg (show ¬ (18 : Nat) = 17 by decide)]
    refine ⟨h1, _, I, ?_, o1, ⟨by rw [pk_un (by omega)]; exact c1, fun k hk => ?_, fun k hk => ?_⟩, r1⟩
    · rw [if_neg (show ¬ nI 18 = (15 : Int32) by decide), if_neg (show ¬ nI 18 = (16 : Int32) by decide), if_neg (show ¬ nI 18 = (17 : Int32) by decide), if_pos (show nI 18 = (18 : Int32) from rfl), o.ob, Option.bind_some]
      simp (disch := omega) only [F_X10_setLoud, nS, X10_rd o, e1]
    · rw [upF_ne _ _ (by decide), pk_un (by omega)]; exact c2 k hk
    · rw [upF_self, upF_ne _ _ (by decide), pk_un (show 9 + k ≠ 18 + yX σ 3 t 0 by omega)]
      refine ⟨(c3 k hk).1, ?_⟩
      by_cases ek : k = yX σ 3 t 0
      · subst ek; rw [pk_us, pk_us]
      · rw [pk_un ek, pk_un (by omega)]; exact (c3 k hk).2
theorem c_fillW (hn : n ≤ 600) (hg : ∀ j, j < m → yGd σ 3 (yst σ 3 j)) (hst : yst σ 3 m = n) (hL : yLL σ 3 m = none) (r : RK h a (n + 1) (tok σ 3) u v) (o : OB h e 10 twL A B I J) (hd : e + 5 ≤ a ∨ a + 4 ≤ e) : ∃ h' A' I', F_X7_fillTown z h a e = some h' ∧ OB h' e 10 twL A' B I' J ∧ CWc (yTT σ 3 m) A' I' ∧ Fr h h' e (e + 5) := by
  have le : ∀ j, j < m → yst σ 3 j + 1 + nnW (yV σ 3 (yst σ 3 j)) + 1 ≤ n := fun j hj => by rw [← hst]; exact yst_mono hj
  obtain ⟨h1, A1, I1, e1, o1, c1, r1⟩ := c_clearW o
  have kp : ∀ {g}, Fr h g e (e + 5) → RK g a (n + 1) (tok σ 3) u v := fun f => r.kp (fun q q1 q2 => f q (by omega))
  obtain ⟨h2, e2, A2, I2, o2, c2, f2⟩ := q_lp_idx (step := s_X7_fillTown_11 z a e) (fun j v => v.1 = nI (yst σ 3 j) ∧ ∃ A' I', OB v.2 e 10 twL A' B I' J ∧ CWc (yTT σ 3 j) A' I' ∧ Fr h v.2 e (e + 5)) m (fun g => ∃ A' I', OB g e 10 twL A' B I' J ∧ CWc (yTT σ 3 m) A' I' ∧ Fr h g e (e + 5)) (by
    rintro j ⟨x, g⟩ hj ⟨hx, A', I', o', c', f'⟩
    dsimp only at hx o' f'
    subst hx
    have hle := le j hj
    have gd := hg j hj
    have rk := kp f'
    have el := k_last rk
    obtain ⟨g2, A2, I2, e2, o2, c2, f2⟩ := c_tellW hn gd hle (yLL_st hL hj).2 rk o' c'
    have eb := k_behind (z := z) (kp (f'.tr f2)) hn (by omega) (t := yst σ 3 j) (by omega) gd.1
    refine ⟨(nI (yst σ 3 (j + 1)), g2), ?_, rfl, A2, I2, o2, c2, f'.tr f2⟩
    show b_X7_fillTown_11 z a e (nI (yst σ 3 j)) g = _
    unfold b_X7_fillTown_11
    rw [rk.ob, Option.bind_some, el, Option.bind_some, if_neg (show ¬ nI n ≤ nI (yst σ 3 j) from nI_ge (by omega) (by omega)), Option.bind_some, e2, Option.bind_some, (kp (f'.tr f2)).ob, Option.bind_some, eb, Option.bind_some]
    rfl) (by
    rintro ⟨x, g⟩ ⟨hx, A', I', o', c', f'⟩
    dsimp only at hx o' f'
    subst hx
    have rk := kp f'
    have el := k_last rk
    refine ⟨g, ?_, A', I', o', c', f'⟩
    show b_X7_fillTown_11 z a e (nI (yst σ 3 m)) g = _
    unfold b_X7_fillTown_11
    rw [rk.ob, Option.bind_some, el, Option.bind_some, if_pos (show nI n ≤ nI (yst σ 3 m) by rw [hst]; exact nI_le (Nat.le_refl _) (by omega))]) q_N (nI 0, h1) ⟨rfl, A1, I1, o1, c1, r1⟩ (q_lt_N (by have := yst_ge σ 3 m; omega))
  refine ⟨h2, A2, I2, ?_, o2, c2, f2⟩
  have e2 : q_lp (s_X7_fillTown_11 z a e) q_N ((0 : Int32), h1) = some h2 := e2
  unfold F_X7_fillTown
  rw [o.ob, Option.bind_some, e1, Option.bind_some, e2, Option.bind_some]
def TVk (T : Nat → Int32) : Prop := (∃ n, 2 ≤ n ∧ n ≤ 9 ∧ T 0 = nI n) ∧ (∀ k, k < 8 → ∃ w, 0 < w ∧ w < 10 ∧ T (1 + k) = nI w) ∧ ∀ k, k < 9 → (∃ b, b < 2 ∧ T (9 + k) = nI b) ∧ ∃ l, l < 10 ∧ T (18 + k) = nI l
theorem TV_ok (hg : ∀ j, j < m → yGd σ 3 (yst σ 3 j)) (hL : yLL σ 3 m = none) : TV (yTT σ 3 m) := by
  have key : ∀ j, j ≤ m → TVk (yTT σ 3 j) := by
    intro j
    induction j with
    | zero =>
      intro _
      have b1 : ∀ k, k < 8 → blk 3 (1 + k) = nI 2 := by decide +kernel
      have b2 : ∀ k, k < 9 → blk 3 (9 + k) = nI 0 ∧ blk 3 (18 + k) = nI 3 := by decide +kernel
      exact ⟨⟨4, by omega, by omega, rfl⟩, fun k hk => ⟨2, by omega, by omega, b1 k hk⟩, fun k hk => ⟨⟨0, by omega, (b2 k hk).1⟩, ⟨3, by omega, (b2 k hk).2⟩⟩⟩
    | succ j ih =>
      intro hj
      obtain ⟨c1, c2, c3⟩ := ih (by omega)
      have gd := hg j (by omega)
      obtain ⟨-, -, w1, w2, -, -⟩ := yK_word (by omega) gd.1
      have w1 : 15 ≤ yV σ 3 (yst σ 3 j) := w1
      have w2 : yV σ 3 (yst σ 3 j) < 19 := w2
      have hin := (yLL_st hL (j := j) (by omega)).2
      obtain ⟨i15, i16, i17, i18⟩ := inW w1 w2 hin
      have nx : yTT σ 3 (j + 1) = tlS (yV σ 3 (yst σ 3 j)) (yX σ 3 (yst σ 3 j)) (yTT σ 3 j) := rfl
      rw [tlW w1 w2 hin] at nx
      rw [nx]
      rcases (show yV σ 3 (yst σ 3 j) = 15 ∨ yV σ 3 (yst σ 3 j) = 16 ∨ yV σ 3 (yst σ 3 j) = 17 ∨ yV σ 3 (yst σ 3 j) = 18 by omega) with hw | hw | hw | hw
      · obtain ⟨q1, q2⟩ := i15 hw
        rw [hw, if_pos (show (15 : Nat) = 15 from rfl)]
        refine ⟨⟨_, q1, q2, pk_us⟩, fun k hk => ?_, fun k hk => ?_⟩
        · rw [pk_un (by omega)]; exact c2 k hk
        · rw [pk_un (by omega), pk_un (by omega)]; exact c3 k hk
      · obtain ⟨q1, q2, q3⟩ := i16 hw
        rw [hw, if_neg (show ¬ (16 : Nat) = 15 by decide), if_pos (show (16 : Nat) = 16 from rfl)]
        refine ⟨by rw [pk_un (by omega)]; exact c1, fun k hk => ?_, fun k hk => ?_⟩
        · by_cases ek : k = yX σ 3 (yst σ 3 j) 0
          · subst ek; exact ⟨_, by omega, by omega, pk_us⟩
          · rw [pk_un (by omega)]; exact c2 k hk
        · rw [pk_un (by omega), pk_un (by omega)]; exact c3 k hk
      · obtain ⟨q1, q2⟩ := i17 hw
        rw [hw, if_neg (show ¬ (17 : Nat) = 15 by decide), if_neg (show ¬ (17 : Nat) = 16 by decide), if_pos (show (17 : Nat) = 17 from rfl)]
        refine ⟨by rw [pk_un (by omega)]; exact c1, fun k hk => ?_, fun k hk => ?_⟩
        · rw [pk_un (by omega)]; exact c2 k hk
        · rw [pk_un (show 18 + k ≠ 9 + yX σ 3 (yst σ 3 j) 0 by omega)]
          refine ⟨?_, (c3 k hk).2⟩
          by_cases ek : k = yX σ 3 (yst σ 3 j) 0
          · subst ek; exact ⟨_, by omega, pk_us⟩
          · rw [pk_un (by omega)]; exact (c3 k hk).1
      · obtain ⟨q1, q2⟩ := i18 hw
        rw [hw, if_neg (show ¬ (18 : Nat) = 15 by decide), if_neg (show ¬ (18 : Nat) = 16 by decide), if_neg (show ¬ (18 : Nat) = 17 by decide)]
        refine ⟨by rw [pk_un (by omega)]; exact c1, fun k hk => ?_, fun k hk => ?_⟩
        · rw [pk_un (by omega)]; exact c2 k hk
        · rw [pk_un (show 9 + k ≠ 18 + yX σ 3 (yst σ 3 j) 0 by omega)]
          refine ⟨(c3 k hk).1, ?_⟩
          by_cases ek : k = yX σ 3 (yst σ 3 j) 0
          · subst ek; exact ⟨_, by omega, pk_us⟩
          · rw [pk_un (by omega)]; exact (c3 k hk).2
  obtain ⟨⟨n, n1, n2, n3⟩, c2, c3⟩ := key m (Nat.le_refl _)
  exact ⟨n, n1, n2, n3, c2, c3⟩
end FIT
