/-! ===== the call text: evenings, logs, towns are filled ===== -/
section FIL
variable {h : qH} {a e : Nat} {σ : SG} {n m : Nat} {z : Nat → Nat} {u v : Int32} {A : Nat → Nat → Int32} {B : Nat → Nat → Int64} {I : Nat → Int32} {J : Nat → Int64} {T : Nat → Int32}
theorem RK.kp {h' : qH} {N : Nat} {f : Nat → Int32 × Int32 × Int32} (r : RK h a N f u v) (hk : ∀ q, a ≤ q → q < a + 4 → h' q = h q) : RK h' a N f u v := by
  obtain ⟨A, B, I, J, o, r⟩ := r
  exact ⟨A, B, I, J, o.kept hk, r⟩
/-- the told row of an evening behind a statement -/
theorem tlE {w : Nat} {x : Nat → Nat} (h1 : 6 ≤ w) (h2 : w < 13) (hc : cn T 0 < 40) : tlS w x T = upd (upd (upd T (1 + 2 * cn T 0) (nI (w - 6))) (2 + 2 * cn T 0) (if w < 9 then nI (x 0) else m1)) 0 (nI (cn T 0 + 1)) := by
  unfold tlS
  rw [if_neg (by omega), if_neg (by omega), if_neg (by omega), if_neg (by omega), if_neg (by omega), if_neg (by omega), if_pos (by omega), if_neg (show ¬ cn T 0 = 40 by omega)]
theorem tlG {w : Nat} {x : Nat → Nat} (h1 : 13 ≤ w) (h2 : w < 15) (hc : cn T 0 < 12) : tlS w x T = upd (upd T (1 + cn T 0) (if w = 13 then nI (x 0) else nI 6)) 0 (nI (cn T 0 + 1)) := by
  unfold tlS
  rw [if_neg (by omega), if_neg (by omega), if_neg (by omega), if_neg (by omega), if_neg (by omega), if_neg (by omega), if_neg (by omega), if_pos (by omega), if_neg (show ¬ cn T 0 = 12 by omega)]
theorem fuB_f {w : Nat} (hf : fuB w T = false) : ¬ ((w = 0 ∧ cn T 0 = 20) ∨ (w = 2 ∧ cn T 1 = 8) ∨ (6 ≤ w ∧ w < 13 ∧ cn T 0 = 40) ∨ (13 ≤ w ∧ w < 15 ∧ cn T 0 = 12)) := decide_eq_false_iff_not.mp hf
theorem c_addE (o : OB h e 1 evL A B I J) (ce : CEc T A I) (hT : T 0 = nI (cn T 0)) (hc : cn T 0 < 40) (x y : Int32) : ∃ h' A' I', F_X1_add h e x y = some h' ∧ OB h' e 1 evL A' B I' J ∧ CEc (upd (upd (upd T (1 + 2 * cn T 0) x) (2 + 2 * cn T 0) y) 0 (nI (cn T 0 + 1))) A' I' ∧ Fr h h' e (e + 3) := by
  obtain ⟨i2, hk⟩ := ce
  rw [hT] at i2
  obtain ⟨h1, e1, o1, r1⟩ := X1_s0 o (i := cn T 0) x hc
  obtain ⟨h2, e2, o2, r2⟩ := X1_s1 o1 (i := cn T 0) y hc
  obtain ⟨h3, e3, o3, r3⟩ := X1_p2 o2 (nI (cn T 0 + 1))
  refine ⟨h3, _, _, ?_, o3, ⟨?_, fun k hk2 => ?_⟩, (r1.tr r2).tr r3⟩
  · simp (disch := omega) only [F_X1_add, nS, X1_rd o, i2, e1, X1_rd o1, e2, X1_rd o2, e3]
  · rw [pk_us, pk_us]
  · have hk3 : k < cn T 0 + 1 := by
      unfold eN at hk2
      rw [pk_us, nI_cl (by omega)] at hk2
      exact hk2
    rw [upF_ne _ _ (show (0 : Nat) ≠ 1 by decide), upF_self, upF_self, upF_ne _ _ (show (1 : Nat) ≠ 0 by decide), pk_un (show 1 + 2 * k ≠ 0 by omega), pk_un (show 2 + 2 * k ≠ 0 by omega), pk_un (show 1 + 2 * k ≠ 2 + 2 * cn T 0 by omega)]
    by_cases ek : k = cn T 0
    · subst ek
      rw [pk_us, pk_us, pk_us, pk_us]
      exact ⟨rfl, rfl⟩
    · rw [pk_un ek, pk_un ek, pk_un (show 1 + 2 * k ≠ 1 + 2 * cn T 0 by omega), pk_un (show 2 + 2 * k ≠ 2 + 2 * cn T 0 by omega), pk_un (show 2 + 2 * k ≠ 1 + 2 * cn T 0 by omega)]
      exact hk k (show k < cn T 0 by omega)
theorem c_fillE (hn : n ≤ 600) (hg : ∀ j, j < m → yGd σ 1 (yst σ 1 j)) (hst : yst σ 1 m = n) (hL : yLL σ 1 m = none) (r : RK h a (n + 1) (tok σ 1) u v) (o : OB h e 1 evL A B I J) (hd : e + 3 ≤ a ∨ a + 4 ≤ e) : ∃ h' A' I', F_X7_fillEvening z h a e = some h' ∧ OB h' e 1 evL A' B I' J ∧ CEc (yTT σ 1 m) A' I' ∧ Fr h h' e (e + 3) := by
  have le : ∀ j, j < m → yst σ 1 j + 1 + nnW (yV σ 1 (yst σ 1 j)) + 1 ≤ n := fun j hj => by rw [← hst]; exact yst_mono hj
  obtain ⟨h1, e1, o1, r1⟩ := X1_p2 o (nI 0)
  have kp : ∀ {g}, Fr h g e (e + 3) → RK g a (n + 1) (tok σ 1) u v := fun f => r.kp (fun q q1 q2 => f q (by omega))
  obtain ⟨h2, e2, A2, I2, o2, c2, f2⟩ := q_lp_idx (step := s_X7_fillEvening_12 z a e) (fun j v => v.1 = nI (yst σ 1 j) ∧ ∃ A' I', OB v.2 e 1 evL A' B I' J ∧ CEc (yTT σ 1 j) A' I' ∧ Fr h v.2 e (e + 3)) m (fun g => ∃ A' I', OB g e 1 evL A' B I' J ∧ CEc (yTT σ 1 m) A' I' ∧ Fr h g e (e + 3)) (by
    rintro j ⟨x, g⟩ hj ⟨hx, A', I', o', c', f'⟩
    dsimp only at hx o' f'
    subst hx
    have hle := le j hj
    have gd := hg j hj
    have rk := kp f'
    obtain ⟨tb, -⟩ := yTB (by omega) hg j (by omega)
    obtain ⟨b1, b2⟩ := tb.2.1 rfl
    obtain ⟨-, -, w1, w2, -, -⟩ := yK_word (by omega) gd.1
    have w1 : 6 ≤ yV σ 1 (yst σ 1 j) := w1
    have w2 : yV σ 1 (yst σ 1 j) < 13 := w2
    have hf := fuB_f (yLL_st hL hj).1
    have hc : cn (yTT σ 1 j) 0 < 40 := by omega
    have el := k_last rk
    have ev := k_val rk hn (by omega) (k := yst σ 1 j) (by omega) (by rw [gd.1]; omega)
    have en := c_nums z g (w := yV σ 1 (yst σ 1 j)) (by omega)
    have nx : yTT σ 1 (j + 1) = tlS (yV σ 1 (yst σ 1 j)) (yX σ 1 (yst σ 1 j)) (yTT σ 1 j) := rfl
    rw [tlE w1 w2 hc] at nx
    have hnn : nnW (yV σ 1 (yst σ 1 j)) = if yV σ 1 (yst σ 1 j) < 9 then 1 else 0 := by
      rcases (show yV σ 1 (yst σ 1 j) = 6 ∨ yV σ 1 (yst σ 1 j) = 7 ∨ yV σ 1 (yst σ 1 j) = 8 ∨ yV σ 1 (yst σ 1 j) = 9 ∨ yV σ 1 (yst σ 1 j) = 10 ∨ yV σ 1 (yst σ 1 j) = 11 ∨ yV σ 1 (yst σ 1 j) = 12 by omega) with hw | hw | hw | hw | hw | hw | hw <;> rw [hw] <;> rfl
    obtain ⟨g2, A2, I2, e2, o2, c2, f2⟩ := c_addE o' c' b1 hc (nI (yV σ 1 (yst σ 1 j) - 6)) (if yV σ 1 (yst σ 1 j) < 9 then nI (yX σ 1 (yst σ 1 j) 0) else m1)
    have eb := k_behind (z := z) (kp (f'.tr f2)) hn (by omega) (t := yst σ 1 j) (by omega) gd.1
    refine ⟨(nI (yst σ 1 (j + 1)), g2), ?_, rfl, A2, I2, o2, by rw [nx]; exact c2, f'.tr f2⟩
    have hs6 : nI (yV σ 1 (yst σ 1 j)) - (6 : Int32) = nI (yV σ 1 (yst σ 1 j) - 6) := by rw [n_lit 6]; exact pk_sub w1
    show b_X7_fillEvening_12 z a e (nI (yst σ 1 j)) g = _
    unfold b_X7_fillEvening_12
    rw [rk.ob, Option.bind_some, el, Option.bind_some, if_neg (show ¬ nI n ≤ nI (yst σ 1 j) from nI_ge (by omega) (by omega)), Option.bind_some, ev, Option.bind_some, en, Option.bind_some, hs6]
    by_cases h9 : yV σ 1 (yst σ 1 j) < 9
    · rw [if_pos h9] at hnn e2
      have x0 := k_x rk hn (by omega) gd hle (i := 0) (by omega)
      rw [hnn, if_neg (show ¬ nI 1 = (0 : Int32) by decide), Option.bind_some, n_lit 1, nI_add, show nI (yst σ 1 j + 1) = nI (yst σ 1 j + 1 + 0) from rfl, x0, Option.bind_some, o'.ob, Option.bind_some, e2, Option.bind_some, (kp (f'.tr f2)).ob, Option.bind_some, eb, Option.bind_some]
      rfl
    · rw [if_neg h9] at hnn e2
      have e2 : F_X1_add g e (nI (yV σ 1 (yst σ 1 j) - 6)) (-1 : Int32) = some g2 := e2
      rw [hnn, if_pos (show nI 0 = (0 : Int32) from rfl), o'.ob, Option.bind_some, e2, Option.bind_some, (kp (f'.tr f2)).ob, Option.bind_some, eb, Option.bind_some]
      rfl) (by
    rintro ⟨x, g⟩ ⟨hx, A', I', o', c', f'⟩
    dsimp only at hx o' f'
    subst hx
    have rk := kp f'
    have el := k_last rk
    refine ⟨g, ?_, A', I', o', c', f'⟩
    show b_X7_fillEvening_12 z a e (nI (yst σ 1 m)) g = _
    unfold b_X7_fillEvening_12
    rw [rk.ob, Option.bind_some, el, Option.bind_some, if_pos (show nI n ≤ nI (yst σ 1 m) by rw [hst]; exact nI_le (Nat.le_refl _) (by omega))]) q_N (nI 0, h1) ⟨rfl, A, _, o1, ⟨by rw [pk_us]; rfl, fun k hk => absurd hk (Nat.not_lt_zero _)⟩, r1⟩ (q_lt_N (by have := yst_ge σ 1 m; omega))
  refine ⟨h2, A2, I2, ?_, o2, c2, f2⟩
  have e1 : q_put h e 1 2 (.int (0 : Int32)) = some h1 := e1
  have e2 : q_lp (s_X7_fillEvening_12 z a e) q_N ((0 : Int32), h1) = some h2 := e2
  unfold F_X7_fillEvening
  rw [e1, Option.bind_some, e2, Option.bind_some]
theorem EV_ok (hg : ∀ j, j < m → yGd σ 1 (yst σ 1 j)) (hL : yLL σ 1 m = none) : EV (yTT σ 1 m) := by
  have key : ∀ j, j ≤ m → ∀ k, k < cn (yTT σ 1 j) 0 → (∃ d, d < 7 ∧ yTT σ 1 j (1 + 2 * k) = nI d ∧ ((d = 0 → ∃ l, l < 20 ∧ yTT σ 1 j (2 + 2 * k) = nI l) ∧ (d = 1 ∨ d = 2 → ∃ p, p < 6 ∧ yTT σ 1 j (2 + 2 * k) = nI p) ∧ (3 ≤ d → yTT σ 1 j (2 + 2 * k) = m1))) := by
    intro j
    induction j with
    | zero => intro _ k hk; exact absurd hk (Nat.not_lt_zero _)
    | succ j ih =>
      intro hj k hk
      have gd := hg j (by omega)
      obtain ⟨tb, -⟩ := yTB (by omega) hg j (by omega)
      obtain ⟨b1, b2⟩ := tb.2.1 rfl
      obtain ⟨-, -, w1, w2, -, -⟩ := yK_word (by omega) gd.1
      have w1 : 6 ≤ yV σ 1 (yst σ 1 j) := w1
      have w2 : yV σ 1 (yst σ 1 j) < 13 := w2
      obtain ⟨hf, hin⟩ := yLL_st hL (j := j) (by omega)
      have hf := fuB_f hf
      have hc : cn (yTT σ 1 j) 0 < 40 := by omega
      have nx : yTT σ 1 (j + 1) = tlS (yV σ 1 (yst σ 1 j)) (yX σ 1 (yst σ 1 j)) (yTT σ 1 j) := rfl
      rw [tlE w1 w2 hc] at nx
      rw [nx] at hk ⊢
      rw [(cn_us (by omega)).1] at hk
      rw [pk_un (show 1 + 2 * k ≠ 0 by omega), pk_un (show 2 + 2 * k ≠ 0 by omega), pk_un (show 1 + 2 * k ≠ 2 + 2 * cn (yTT σ 1 j) 0 by omega)]
      by_cases ek : k = cn (yTT σ 1 j) 0
      · subst ek
        rw [pk_us, pk_us]
        refine ⟨yV σ 1 (yst σ 1 j) - 6, by omega, rfl, fun d0 => ?_, fun d1 => ?_, fun d3 => ?_⟩
        · have hw : yV σ 1 (yst σ 1 j) = 6 := by omega
          rw [if_pos (by omega)]
          have := (inB_t.mp (hin 0 (by rw [hw]; decide))).2
          rw [hw] at this
          have this : yX σ 1 (yst σ 1 j) 0 ≤ 19 := this
          exact ⟨_, by omega, rfl⟩
        · rw [if_pos (by omega)]
          rcases (show yV σ 1 (yst σ 1 j) = 7 ∨ yV σ 1 (yst σ 1 j) = 8 by omega) with hw | hw
          · have := (inB_t.mp (hin 0 (by rw [hw]; decide))).2
            rw [hw] at this
            have this : yX σ 1 (yst σ 1 j) 0 ≤ 5 := this
            exact ⟨_, by omega, rfl⟩
          · have := (inB_t.mp (hin 0 (by rw [hw]; decide))).2
            rw [hw] at this
            have this : yX σ 1 (yst σ 1 j) 0 ≤ 5 := this
            exact ⟨_, by omega, rfl⟩
        · rw [if_neg (by omega)]
      · rw [pk_un (show 1 + 2 * k ≠ 1 + 2 * cn (yTT σ 1 j) 0 by omega), pk_un (show 2 + 2 * k ≠ 2 + 2 * cn (yTT σ 1 j) 0 by omega), pk_un (show 2 + 2 * k ≠ 1 + 2 * cn (yTT σ 1 j) 0 by omega)]
        exact ih (by omega) k (by omega)
  obtain ⟨tb, -⟩ := yTB (by omega) hg m (Nat.le_refl _)
  obtain ⟨b1, b2⟩ := tb.2.1 rfl
  exact ⟨_, b2, b1, key m (Nat.le_refl _)⟩
/-! logs -/
theorem c_addG (o : OB h e 3 lgL A B I J) (ce : CGc T A I) (hT : T 0 = nI (cn T 0)) (hc : cn T 0 < 12) (x : Int32) : ∃ h' A' I', F_X3_add h e x = some h' ∧ OB h' e 3 lgL A' B I' J ∧ CGc (upd (upd T (1 + cn T 0) x) 0 (nI (cn T 0 + 1))) A' I' ∧ Fr h h' e (e + 2) := by
  obtain ⟨i2, hk⟩ := ce
  rw [hT] at i2
  obtain ⟨h1, e1, o1, r1⟩ := X3_s0 o (i := cn T 0) x hc
  obtain ⟨h3, e3, o3, r3⟩ := X3_p1 o1 (nI (cn T 0 + 1))
  refine ⟨h3, _, _, ?_, o3, ⟨?_, fun k hk2 => ?_⟩, r1.tr r3⟩
  · simp (disch := omega) only [F_X3_add, nS, X3_rd o, i2, e1, X3_rd o1, e3]
  · rw [pk_us, pk_us]
  · have hk3 : k < cn T 0 + 1 := by
      unfold eN at hk2
      rw [pk_us, nI_cl (by omega)] at hk2
      exact hk2
    rw [upF_self, pk_un (show 1 + k ≠ 0 by omega)]
    by_cases ek : k = cn T 0
    · subst ek
      rw [pk_us, pk_us]
    · rw [pk_un ek, pk_un (show 1 + k ≠ 1 + cn T 0 by omega)]
      exact hk k (show k < cn T 0 by omega)
theorem c_fillG (hn : n ≤ 600) (hg : ∀ j, j < m → yGd σ 2 (yst σ 2 j)) (hst : yst σ 2 m = n) (hL : yLL σ 2 m = none) (r : RK h a (n + 1) (tok σ 2) u v) (o : OB h e 3 lgL A B I J) (hd : e + 2 ≤ a ∨ a + 4 ≤ e) : ∃ h' A' I', F_X7_fillLog z h a e = some h' ∧ OB h' e 3 lgL A' B I' J ∧ CGc (yTT σ 2 m) A' I' ∧ Fr h h' e (e + 2) := by
  have le : ∀ j, j < m → yst σ 2 j + 1 + nnW (yV σ 2 (yst σ 2 j)) + 1 ≤ n := fun j hj => by rw [← hst]; exact yst_mono hj
  obtain ⟨h1, e1, o1, r1⟩ := X3_p1 o (nI 0)
  have kp : ∀ {g}, Fr h g e (e + 2) → RK g a (n + 1) (tok σ 2) u v := fun f => r.kp (fun q q1 q2 => f q (by omega))
  obtain ⟨h2, e2, A2, I2, o2, c2, f2⟩ := q_lp_idx (step := s_X7_fillLog_12 z a e) (fun j v => v.1 = nI (yst σ 2 j) ∧ ∃ A' I', OB v.2 e 3 lgL A' B I' J ∧ CGc (yTT σ 2 j) A' I' ∧ Fr h v.2 e (e + 2)) m (fun g => ∃ A' I', OB g e 3 lgL A' B I' J ∧ CGc (yTT σ 2 m) A' I' ∧ Fr h g e (e + 2)) (by
    rintro j ⟨x, g⟩ hj ⟨hx, A', I', o', c', f'⟩
    dsimp only at hx o' f'
    subst hx
    have hle := le j hj
    have gd := hg j hj
    have rk := kp f'
    obtain ⟨tb, -⟩ := yTB (by omega) hg j (by omega)
    obtain ⟨b1, b2⟩ := tb.2.2.1 rfl
    obtain ⟨-, -, w1, w2, -, -⟩ := yK_word (by omega) gd.1
    have w1 : 13 ≤ yV σ 2 (yst σ 2 j) := w1
    have w2 : yV σ 2 (yst σ 2 j) < 15 := w2
    have hf := fuB_f (yLL_st hL hj).1
    have hc : cn (yTT σ 2 j) 0 < 12 := by omega
    have el := k_last rk
    have ev := k_val rk hn (by omega) (k := yst σ 2 j) (by omega) (by rw [gd.1]; omega)
    have nx : yTT σ 2 (j + 1) = tlS (yV σ 2 (yst σ 2 j)) (yX σ 2 (yst σ 2 j)) (yTT σ 2 j) := rfl
    rw [tlG w1 w2 hc] at nx
    obtain ⟨g2, A2, I2, e2, o2, c2, f2⟩ := c_addG o' c' b1 hc (if yV σ 2 (yst σ 2 j) = 13 then nI (yX σ 2 (yst σ 2 j) 0) else nI 6)
    have eb := k_behind (z := z) (kp (f'.tr f2)) hn (by omega) (t := yst σ 2 j) (by omega) gd.1
    refine ⟨(nI (yst σ 2 (j + 1)), g2), ?_, rfl, A2, I2, o2, by rw [nx]; exact c2, f'.tr f2⟩
    show b_X7_fillLog_12 z a e (nI (yst σ 2 j)) g = _
    unfold b_X7_fillLog_12
    rw [rk.ob, Option.bind_some, el, Option.bind_some, if_neg (show ¬ nI n ≤ nI (yst σ 2 j) from nI_ge (by omega) (by omega)), Option.bind_some, ev, Option.bind_some]
    by_cases h13 : yV σ 2 (yst σ 2 j) = 13
    · rw [if_pos h13] at e2
      have x0 := k_x rk hn (by omega) gd hle (i := 0) (by omega)
      rw [if_pos (show nI (yV σ 2 (yst σ 2 j)) = (13 : Int32) by rw [h13]; rfl), Option.bind_some, n_lit 1, nI_add, show nI (yst σ 2 j + 1) = nI (yst σ 2 j + 1 + 0) from rfl, x0, Option.bind_some, o'.ob, Option.bind_some, e2, Option.bind_some, (kp (f'.tr f2)).ob, Option.bind_some, eb, Option.bind_some]
      rfl
    · rw [if_neg h13] at e2
      have e2 : F_X3_add g e (6 : Int32) = some g2 := e2
      rw [if_neg (show ¬ nI (yV σ 2 (yst σ 2 j)) = (13 : Int32) from fun q => h13 ((nI_eq (b := 13) (by omega) (by omega)).mp q)), o'.ob, Option.bind_some, e2, Option.bind_some, (kp (f'.tr f2)).ob, Option.bind_some, eb, Option.bind_some]
      rfl) (by
    rintro ⟨x, g⟩ ⟨hx, A', I', o', c', f'⟩
    dsimp only at hx o' f'
    subst hx
    have rk := kp f'
    have el := k_last rk
    refine ⟨g, ?_, A', I', o', c', f'⟩
    show b_X7_fillLog_12 z a e (nI (yst σ 2 m)) g = _
    unfold b_X7_fillLog_12
    rw [rk.ob, Option.bind_some, el, Option.bind_some, if_pos (show nI n ≤ nI (yst σ 2 m) by rw [hst]; exact nI_le (Nat.le_refl _) (by omega))]) q_N (nI 0, h1) ⟨rfl, A, _, o1, ⟨by rw [pk_us]; rfl, fun k hk => absurd hk (Nat.not_lt_zero _)⟩, r1⟩ (q_lt_N (by have := yst_ge σ 2 m; omega))
  refine ⟨h2, A2, I2, ?_, o2, c2, f2⟩
  have e1 : q_put h e 3 1 (.int (0 : Int32)) = some h1 := e1
  have e2 : q_lp (s_X7_fillLog_12 z a e) q_N ((0 : Int32), h1) = some h2 := e2
  unfold F_X7_fillLog
  rw [e1, Option.bind_some, e2, Option.bind_some]
theorem LV_ok (hg : ∀ j, j < m → yGd σ 2 (yst σ 2 j)) (hL : yLL σ 2 m = none) : LV (yTT σ 2 m) := by
  have key : ∀ j, j ≤ m → ∀ k, k < cn (yTT σ 2 j) 0 → ∃ p, p < 7 ∧ yTT σ 2 j (1 + k) = nI p := by
    intro j
    induction j with
    | zero => intro _ k hk; exact absurd hk (Nat.not_lt_zero _)
    | succ j ih =>
      intro hj k hk
      have gd := hg j (by omega)
      obtain ⟨tb, -⟩ := yTB (by omega) hg j (by omega)
      obtain ⟨b1, b2⟩ := tb.2.2.1 rfl
      obtain ⟨-, -, w1, w2, -, -⟩ := yK_word (by omega) gd.1
      have w1 : 13 ≤ yV σ 2 (yst σ 2 j) := w1
      have w2 : yV σ 2 (yst σ 2 j) < 15 := w2
      obtain ⟨hf, hin⟩ := yLL_st hL (j := j) (by omega)
      have hf := fuB_f hf
      have hc : cn (yTT σ 2 j) 0 < 12 := by omega
      have nx : yTT σ 2 (j + 1) = tlS (yV σ 2 (yst σ 2 j)) (yX σ 2 (yst σ 2 j)) (yTT σ 2 j) := rfl
      rw [tlG w1 w2 hc] at nx
      rw [nx] at hk ⊢
      rw [(cn_us (by omega)).1] at hk
      rw [pk_un (show 1 + k ≠ 0 by omega)]
      by_cases ek : k = cn (yTT σ 2 j) 0
      · subst ek
        rw [pk_us]
        by_cases hw : yV σ 2 (yst σ 2 j) = 13
        · rw [if_pos hw]
          have := (inB_t.mp (hin 0 (by rw [hw]; decide))).2
          rw [hw] at this
          have this : yX σ 2 (yst σ 2 j) 0 ≤ 5 := this
          exact ⟨_, by omega, rfl⟩
        · rw [if_neg hw]; exact ⟨6, by omega, rfl⟩
      · rw [pk_un (show 1 + k ≠ 1 + cn (yTT σ 2 j) 0 by omega)]
        exact ih (by omega) k (by omega)
  obtain ⟨tb, -⟩ := yTB (by omega) hg m (Nat.le_refl _)
  obtain ⟨b1, b2⟩ := tb.2.2.1 rfl
  exact ⟨_, b2, b1, key m (Nat.le_refl _)⟩
end FIL
