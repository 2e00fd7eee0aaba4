/-! ===== odds: comes, harm ===== -/
def ad (t : Nat → Nat) (j x : Nat) : Nat → Nat := fun i => if i = j then t i + x else t i
theorem sm_ad {t : Nat → Nat} {j x : Nat} : ∀ n, j < n → sm (ad t j x) n = sm t n + x := by
  have out : ∀ n, n ≤ j → sm (ad t j x) n = sm t n := by
    intro n
    induction n with
    | zero => intro _; rfl
    | succ n ih =>
      intro hn
      show sm (ad t j x) n + ad t j x n = sm t n + t n
      rw [ih (by omega), show ad t j x n = t n from if_neg (by omega)]
  intro n
  induction n with
  | zero => intro h; omega
  | succ n ih =>
    intro hn
    show sm (ad t j x) n + ad t j x n = sm t n + t n + x
    by_cases hj : j = n
    · subst hj
      rw [out j (Nat.le_refl _), show ad t j x j = t j + x from if_pos rfl]
      omega
    · rw [ih (by omega), show ad t j x n = t n from if_neg (by omega)]
      omega
/-- tenths by which the one who says a line dries -/
def tt (m : MB) (y : Int32) (l : Nat) : Nat := if y = nI 0 then dr m (wh m l) else 0
theorem tt_le {m : MB} (ok : MBok m) {y : Int32} {l : Nat} (hl : l < mbL m) : tt m y l ≤ 10 := by
  unfold tt
  split
  · have := (dr_ok ok (wh_ok ok hl).2).2; omega
  · omega
/-- one line more -/
def sp (m : MB) (y : Int32) (w : Nat → Nat) : Nat → Nat → Nat
  | 0 => fun _ => 0
  | l + 1 => if fn m l = 0 then sp m y w l else if fn m l = 1 then ad (sp m y w l) (gg m l 0) (w l * (10 - tt m y (gg m l 0))) else ad (ad (sp m y w l) (gg m l 0) (w l * (10 - tt m y (gg m l 0)))) (gg m l 1) (w l * tt m y (gg m l 0))
theorem sp_s (m : MB) (y : Int32) (w : Nat → Nat) (l : Nat) : sp m y w (l + 1) = if fn m l = 0 then sp m y w l else if fn m l = 1 then ad (sp m y w l) (gg m l 0) (w l * (10 - tt m y (gg m l 0))) else ad (ad (sp m y w l) (gg m l 0) (w l * (10 - tt m y (gg m l 0)))) (gg m l 1) (w l * tt m y (gg m l 0)) := rfl
def w0 (m : MB) (y : Int32) : Nat → Nat := fun l => if l = 0 ∧ 0 < mbL m then 10 - tt m y 0 else 0
def tkT (m : MB) (s : Option Nat) (w : Nat → Nat) : Nat → Nat := match s with
  | some s => sm (fun l => if sc m l = s then w l else 0)
  | none => sm (fun l => w l * hm m l)
def tkW (m : MB) (s : Option Nat) (w : Nat → Nat) (n : Nat) : Nat → Nat := match s with
  | some s => fun l => if l < n ∧ sc m l = s then 0 else w l
  | none => w
def Wt (m : MB) (y : Int32) (s : Option Nat) : Nat → Nat → Nat
  | 0 => w0 m y
  | i + 1 => sp m y (tkW m s (Wt m y s i) (mbL m)) (mbL m)
def Su (m : MB) (y : Int32) (s : Option Nat) : Nat → Nat
  | 0 => 0
  | i + 1 => Su m y s i * 10 + tkT m s (Wt m y s i) (mbL m)
theorem sp_le {m : MB} (ok : MBok m) {y : Int32} {w : Nat → Nat} : ∀ l, l ≤ mbL m → sm (sp m y w l) 20 ≤ 10 * sm w l := by
  have hL := L_le ok
  intro l
  induction l with
  | zero =>
    intro _
    have := sm_le (f := fun _ => 0) (k := 0) 20 (fun _ _ => Nat.le_refl _)
    show sm (fun _ => 0) 20 ≤ 10 * 0
    omega
  | succ l ih =>
    intro hl
    have ih := ih (by omega)
    have e : sm w (l + 1) = sm w l + w l := rfl
    rw [sp_s]
    by_cases h0 : fn m l = 0
    · rw [if_pos h0]; omega
    · have g0 := gg_lt ok (show l < mbL m by omega) (show 0 < fn m l by omega)
      have t0 := tt_le ok (y := y) g0
      rw [if_neg h0]
      by_cases h1 : fn m l = 1
      · rw [if_pos h1, sm_ad 20 (by omega)]
        have := Nat.mul_le_mul_left (w l) (show 10 - tt m y (gg m l 0) ≤ 10 by omega)
        omega
      · have g1 := gg_lt ok (show l < mbL m by omega) (show 1 < fn m l by omega)
        rw [if_neg h1, sm_ad 20 (by omega), sm_ad 20 (by omega)]
        have : w l * (10 - tt m y (gg m l 0)) + w l * tt m y (gg m l 0) = w l * 10 := by rw [← Nat.mul_add, show 10 - tt m y (gg m l 0) + tt m y (gg m l 0) = 10 by omega]
        omega
theorem sm_up {w : Nat → Nat} : ∀ n k, n ≤ k → sm w n ≤ sm w k := by
  intro n k h
  obtain ⟨d, rfl⟩ : ∃ d, k = n + d := ⟨k - n, by omega⟩
  clear h
  induction d with
  | zero => exact Nat.le_refl _
  | succ d ih =>
    show sm w n ≤ sm w (n + d) + w (n + d)
    omega
theorem Wt_le {m : MB} (ok : MBok m) (y : Int32) (s : Option Nat) : ∀ i, sm (Wt m y s i) 20 ≤ 10 ^ (i + 1) := by
  have hL := L_le ok
  intro i
  induction i with
  | zero =>
    have : sm (w0 m y) 20 ≤ sm (ad (fun _ => 0) 0 10) 20 := sm_mo 20 (fun i _ => by
      unfold w0 ad
      dsimp only
      by_cases hi : i = 0
      · rw [if_pos hi]; split <;> omega
      · rw [if_neg hi, if_neg (fun q => hi q.1)]; omega)
    rw [sm_ad 20 (by omega)] at this
    have h2 := sm_le (f := fun _ => 0) (k := 0) 20 (fun _ _ => Nat.le_refl _)
    show sm (w0 m y) 20 ≤ 10 ^ 1
    omega
  | succ i ih =>
    show sm (sp m y (tkW m s (Wt m y s i) (mbL m)) (mbL m)) 20 ≤ 10 ^ (i + 1 + 1)
    have h1 := sp_le ok (y := y) (w := tkW m s (Wt m y s i) (mbL m)) (mbL m) (Nat.le_refl _)
    have h2 := sm_up (w := tkW m s (Wt m y s i) (mbL m)) (mbL m) 20 hL
    have h3 : sm (tkW m s (Wt m y s i) (mbL m)) 20 ≤ sm (Wt m y s i) 20 := sm_mo 20 (fun j _ => by
      unfold tkW
      split
      · split <;> omega
      · exact Nat.le_refl _)
    rw [Nat.pow_succ]
    omega
theorem tkT_le {m : MB} (ok : MBok m) {s : Option Nat} {w : Nat → Nat} : tkT m s w (mbL m) ≤ 9 * sm w 20 := by
  have hL := L_le ok
  have h2 := sm_up (w := w) (mbL m) 20 hL
  have key : ∀ f : Nat → Nat, ∀ n, (∀ l, l < n → f l ≤ 9 * w l) → sm f n ≤ 9 * sm w n := by
    intro f n
    induction n with
    | zero => intro _; exact Nat.le_refl _
    | succ n ih =>
      intro h
      have h3 := ih (fun l hl => h l (by omega))
      have h4 := h n (by omega)
      show sm f n + f n ≤ 9 * (sm w n + w n)
      omega
  unfold tkT
  split
  · next s' =>
    have := key (fun l => if sc m l = s' then w l else 0) (mbL m) (fun l _ => by split <;> omega)
    omega
  · have := key (fun l => w l * hm m l) (mbL m) (fun l hl => by
      have := (hm_ok ok hl).2
      have := Nat.mul_le_mul_left (w l) (show hm m l ≤ 9 by omega)
      omega)
    omega
theorem Su_le {m : MB} (ok : MBok m) (y : Int32) (s : Option Nat) : ∀ n, Su m y s n ≤ 9 * n * 10 ^ n := by
  intro n
  induction n with
  | zero => exact Nat.zero_le _
  | succ n ih =>
    have h1 := Wt_le ok y s n
    have h2 := tkT_le ok (s := s) (w := Wt m y s n)
    show Su m y s n * 10 + tkT m s (Wt m y s n) (mbL m) ≤ 9 * (n + 1) * 10 ^ (n + 1)
    have e : 9 * (n + 1) * 10 ^ (n + 1) = 9 * n * 10 ^ n * 10 + 9 * 10 ^ (n + 1) := by
      rw [Nat.pow_succ, Nat.mul_add, Nat.add_mul, Nat.mul_one, Nat.mul_assoc (9 * n) (10 ^ n) 10]
    omega
theorem Su_40 {m : MB} (ok : MBok m) (y : Int32) (s : Option Nat) {n : Nat} (hn : n ≤ 9) : Su m y s n < 2 ^ 40 := by
  have h1 := Su_le ok y s n
  have h2 : 10 ^ n ≤ 10 ^ 9 := Nat.pow_le_pow_right (by omega) hn
  have h3 : 9 * n * 10 ^ n ≤ 81 * 10 ^ 9 := Nat.mul_le_mul (by omega) h2
  omega
theorem Su_0 {m : MB} (h0 : mbL m = 0) (y : Int32) (s : Option Nat) : ∀ n, Su m y s n = 0 := by
  intro n
  induction n with
  | zero => rfl
  | succ n ih =>
    show Su m y s n * 10 + tkT m s (Wt m y s n) (mbL m) = 0
    rw [ih, h0]
    cases s <;> rfl
/-- a row of longs -/
def LR (T : Nat → Int64) (w : Nat → Nat) : Prop := ∀ i, i < 20 → T i = lN (w i)
theorem LR.pl {T : Nat → Int64} {t : Nat → Nat} (h : LR T t) {j x : Nat} : LR (vp_updL T j (lN (t j + x))) (ad t j x) := by
  intro i hi
  unfold ad
  by_cases hij : i = j
  · subst hij; rw [pk_uLs, if_pos rfl]
  · rw [pk_uLn hij, if_neg hij]; exact h i hi
section ODC
variable {h : qH} {a b : Nat} {m : MB} {A : Nat → Nat → Int32} {B : Nat → Nat → Int64} {I : Nat → Int32} {J : Nat → Int64}
theorem c_tenths (c : CB h b m) {y : Int32} {l : Nat} (hl : l < mbL m) : F_X5_tenths h b (nI l) y = some (nI (tt m y l)) := by
  have hw := (wh_ok c.1 hl).2
  unfold tt
  by_cases hy : y = nI 0
  · rw [if_pos hy]
    simp (disch := omega) only [F_X5_tenths, nS, if_pos hy, cS c, c_dries c]
  · rw [if_neg hy]
    simp (disch := omega) only [F_X5_tenths, nS, if_neg hy]
theorem c_tenths0 (c : CB h b m) {y : Int32} : F_X5_tenths h b m1 y = some (nI 0) := by
  by_cases hy : y = nI 0
  · simp (disch := omega) only [F_X5_tenths, nS, if_pos hy, cS c, F_X0_driesOf, F_X11_isPerson]
  · simp (disch := omega) only [F_X5_tenths, nS, if_neg hy]
theorem c_ostep (o : OB h a 5 odL A B I J) (c : CB h b m) (hd : b + 12 ≤ a ∨ a + 3 ≤ b) {y : Int32} {w : Nat → Nat} (row : LR (B 0) w) : ∃ h' B', F_X5_step h a b y = some h' ∧ OB h' a 5 odL A B' I J ∧ Fr h h' a (a + 3) ∧ LR (B' 0) (sp m y w (mbL m)) := by
  have ok := c.1
  have hL := L_le ok
  have ck : ∀ {h'}, Fr h h' a (a + 3) → CB h' b m := fun r => c.kept (fun q q1 q2 => r q (by omega))
  obtain ⟨h1, e1, B1, o1, r1, y1, z1⟩ := q_lp1 (step := s_X5_step_2 a b y) (fun i h' => ∃ B', OB h' a 5 odL A B' I J ∧ Fr h h' a (a + 3) ∧ B' 0 = B 0 ∧ ∀ l, l < i → B' 1 l = lN 0) 20 0 (by omega)
    (fun i h1 hi ⟨B1, o1, r1, y1, z1⟩ => by
      obtain ⟨h2, e2, o2, r2⟩ := X5_s1 o1 (i := i) (lN 0) hi
      refine ⟨h2, ?_, _, o2, r1.tr r2, by rw [upF_ne _ _ (show (0 : Nat) ≠ 1 by decide)]; exact y1, fun l hl => ?_⟩
      · simp (disch := omega) only [s_X5_step_2, b_X5_step_2, nS, lS, Nat.add_zero, X5_rd o1, e2]
      · rw [upF_self]
        by_cases hli : l = i
        · subst hli; exact pk_uLs
        · rw [pk_uLn hli]; exact z1 l (by omega))
    (fun h1 _ => by simp (disch := omega) only [s_X5_step_2, b_X5_step_2, nS, Nat.add_zero])
    (h := h) ⟨B, o, Fr.rf, rfl, fun l hl => by omega⟩
  obtain ⟨h3, e3, B3, o3, r3, y3, z3⟩ := q_lp1 (step := s_X5_step_23 a b y) (fun l h' => ∃ B', OB h' a 5 odL A B' I J ∧ Fr h h' a (a + 3) ∧ B' 0 = B 0 ∧ LR (B' 1) (sp m y w l)) (mbL m) 0 (by omega)
    (fun l h1 hl ⟨B1, o1, r1, y1, z1⟩ => by
      have c1 := ck r1
      have hf := fn_le ok hl
      have wl : B1 0 l = lN (w l) := by rw [y1]; exact row l (by omega)
      rcases (show fn m l = 0 ∨ fn m l = 1 ∨ 2 ≤ fn m l by omega) with h0 | h0 | h0
      · refine ⟨h1, ?_, B1, o1, r1, y1, ?_⟩
        · simp (disch := omega) only [s_X5_step_23, b_X5_step_23, j_X5_step_93, nS, Nat.add_zero, cS c1, c_tenths0 c1]
        · rw [sp_s, if_pos h0]; exact z1
      · have g0 := gg_lt ok hl (show 0 < fn m l by omega)
        have t0 := tt_le ok (y := y) g0
        obtain ⟨h2, e2, o2, r2⟩ := X5_s1 o1 (i := gg m l 0) (lN (sp m y w l (gg m l 0) + w l * (10 - tt m y (gg m l 0)))) (by omega)
        have c2 := ck (r1.tr r2)
        refine ⟨h2, ?_, _, o2, r1.tr r2, by rw [upF_ne _ _ (show (0 : Nat) ≠ 1 by decide)]; exact y1, ?_⟩
        · have zz := z1 (gg m l 0) (by omega)
          simp (disch := omega) only [s_X5_step_23, b_X5_step_23, nS, lS, Nat.add_zero, cS c1, c_tenths c1 g0, X5_rd o1, wl, zz, e2]
          simp (disch := omega) only [j_X5_step_93, nS, cS c2]
        · rw [upF_self]
          rw [sp_s, if_neg (by omega), if_pos h0]
          exact z1.pl
      · have g0 := gg_lt ok hl (show 0 < fn m l by omega)
        have g1 := gg_lt ok hl (show 1 < fn m l by omega)
        have t0 := tt_le ok (y := y) g0
        obtain ⟨h2, e2, o2, r2⟩ := X5_s1 o1 (i := gg m l 0) (lN (sp m y w l (gg m l 0) + w l * (10 - tt m y (gg m l 0)))) (by omega)
        have c2 := ck (r1.tr r2)
        have z2   := z1.pl (j := gg m l 0) (x := w l * (10 - tt m y (gg m l 0)))
        obtain ⟨h4, e4, o4, r4⟩ := X5_s1 o2 (i := gg m l 1) (lN (ad (sp m y w l) (gg m l 0) (w l * (10 - tt m y (gg m l 0))) (gg m l 1) + w l * tt m y (gg m l 0))) (by omega)
        refine ⟨h4, ?_, _, o4, (r1.tr r2).tr r4, by rw [upF_ne _ _ (show (0 : Nat) ≠ 1 by decide), upF_ne _ _ (show (0 : Nat) ≠ 1 by decide)]; exact y1, ?_⟩
        · have zz := z1 (gg m l 0) (by omega)
          have zz2 := z2 (gg m l 1) (by omega)
          have wl2 : upF B1 1 (vp_updL (B1 1) (gg m l 0) (lN (sp m y w l (gg m l 0) + w l * (10 - tt m y (gg m l 0))))) 0 l = lN (w l) := by rw [upF_ne _ _ (show (0 : Nat) ≠ 1 by decide)]; exact wl
          simp (disch := omega) only [s_X5_step_23, b_X5_step_23, nS, lS, Nat.add_zero, cS c1, c_tenths c1 g0, X5_rd o1, wl, zz, e2]
          simp (disch := omega) only [j_X5_step_93, nS, lS, cS c2, X5_rd o2, upF_self, wl2, zz2, e4]
        · rw [upF_self]
          rw [sp_s, if_neg (by omega), if_neg (by omega), upF_self]
          exact z2.pl)
    (fun h1 ⟨B1, o1, r1, y1, z1⟩ => by simp (disch := omega) only [s_X5_step_23, b_X5_step_23, nS, Nat.add_zero, cS (ck r1)])
    (h := h1) ⟨B1, o1, r1, y1, fun i hi => z1 i hi⟩
  obtain ⟨h4, e4, o4, r4⟩ := X5_c10 o3
  refine ⟨h4, _, ?_, o4, r3.tr r4, ?_⟩
  · simp (disch := omega) only [F_X5_step, j_X5_step_128, nS, e1, e3, X5_rd o3, e4]
  · rw [upF_self]
    intro i hi
    rw [cpy_in hi]
    exact z3 i hi
theorem c_takeS (o : OB h a 5 odL A B I J) (c : CB h b m) (hd : b + 12 ≤ a ∨ a + 3 ≤ b) {s : Nat} (hs : s < 10) {w : Nat → Nat} (row : LR (B 0) w) : ∃ h' B', F_X5_takeScene h a b (nI s) = some (lN (tkT m (some s) w (mbL m)), h') ∧ OB h' a 5 odL A B' I J ∧ Fr h h' a (a + 3) ∧ LR (B' 0) (tkW m (some s) w (mbL m)) := by
  have ok := c.1
  have hL := L_le ok
  have ck : ∀ {h'}, Fr h h' a (a + 3) → CB h' b m := fun r => c.kept (fun q q1 q2 => r q (by omega))
  have lp := q_lp_idx (step := s_X5_takeScene_5 a b (nI s)) (fun l st => st.1 = lN (tkT m (some s) w l) ∧ st.2.1 = nI l ∧ ∃ B', OB st.2.2 a 5 odL A B' I J ∧ Fr h st.2.2 a (a + 3) ∧ LR (B' 0) (tkW m (some s) w l)) (mbL m) (fun r => r.1 = lN (tkT m (some s) w (mbL m)) ∧ ∃ B', OB r.2 a 5 odL A B' I J ∧ Fr h r.2 a (a + 3) ∧ LR (B' 0) (tkW m (some s) w (mbL m)))
    (by
      rintro l ⟨x1, x2, hh⟩ hl ⟨hx1, hx2, B1, o1, r1, z1⟩
      dsimp only at hx1 hx2 o1 r1
      subst hx1 hx2
      have c1 := ck r1
      have hsc := (sc_ok ok hl).2
      have eT : tkT m (some s) w (l + 1) = tkT m (some s) w l + if sc m l = s then w l else 0 := rfl
      by_cases h1 : sc m l = s
      · obtain ⟨h2, e2, o2, r2⟩ := X5_s0 o1 (i := l) (lN 0) (by omega)
        have zl := z1 l (by omega)
        have : tkW m (some s) w l l = w l := if_neg (fun q => by omega)
        rw [this] at zl
        refine ⟨(lN (tkT m (some s) w (l + 1)), nI (l + 1), h2), ?_, rfl, rfl, _, o2, r1.tr r2, fun i hi => ?_⟩
        · rw [eT, if_pos h1]
          simp (disch := omega) only [s_X5_takeScene_5, b_X5_takeScene_5, nS, lS, cS c1, X5_rd o1, zl, e2]
        · rw [upF_self]
          show _ = lN (if i < l + 1 ∧ sc m i = s then 0 else w i)
          by_cases hil : i = l
          · subst hil; rw [pk_uLs, if_pos ⟨by omega, h1⟩]
          · rw [pk_uLn hil, z1 i hi]
            show lN (if i < l ∧ sc m i = s then 0 else w i) = _
            by_cases h3 : i < l ∧ sc m i = s
            · rw [if_pos h3, if_pos ⟨by omega, h3.2⟩]
            · rw [if_neg h3, if_neg (fun q => h3 ⟨by omega, q.2⟩)]
      · refine ⟨(lN (tkT m (some s) w (l + 1)), nI (l + 1), hh), ?_, rfl, rfl, B1, o1, r1, fun i hi => ?_⟩
        · rw [eT, if_neg h1, Nat.add_zero]
          simp (disch := omega) only [s_X5_takeScene_5, b_X5_takeScene_5, nS, cS c1]
        · rw [z1 i hi]
          show lN (if i < l ∧ sc m i = s then 0 else w i) = lN (if i < l + 1 ∧ sc m i = s then 0 else w i)
          by_cases h3 : i < l ∧ sc m i = s
          · rw [if_pos h3, if_pos ⟨by omega, h3.2⟩]
          · rw [if_neg h3, if_neg (fun q => h3 ⟨by
              rcases Nat.lt_or_ge i l with h4 | h4
              · exact h4
              · exact absurd (by rw [← show i = l by omega]; exact q.2) h1, q.2⟩)])
    (by
      rintro ⟨x1, x2, hh⟩ ⟨hx1, hx2, B1, o1, r1, z1⟩
      dsimp only at hx1 hx2 o1 r1
      subst hx1 hx2
      exact ⟨(lN (tkT m (some s) w (mbL m)), hh), by simp (disch := omega) only [s_X5_takeScene_5, b_X5_takeScene_5, nS, cS (ck r1)], rfl, B1, o1, r1, z1⟩)
    q_N (lN 0, nI 0, h) ⟨rfl, rfl, B, o, Fr.rf, fun i hi => by
      show _ = lN (if i < 0 ∧ sc m i = s then 0 else w i)
      rw [if_neg (fun q => by omega)]
      exact row i hi⟩ (q_lt_N (by omega))
  obtain ⟨⟨v, h'⟩, e, hv, B', o', r', z'⟩ := lp
  dsimp only at hv o' r'
  subst hv
  refine ⟨h', B', ?_, o', r', z'⟩
  simp (disch := omega) only [F_X5_takeScene, nS, lS, e]
theorem c_takeH (o : OB h a 5 odL A B I J) (c : CB h b m) {w : Nat → Nat} (row : LR (B 0) w) : F_X5_takeHarm h a b = some (lN (tkT m none w (mbL m))) := by
  have ok := c.1
  have hL := L_le ok
  have lp : q_lp (s_X5_takeHarm_5 h a b) q_N (lN 0, nI 0) = some (lN (tkT m none w (mbL m))) := by
    refine q_lp_for (fun l => (lN (tkT m none w l), nI l)) (mbL m) (fun l hl => ?_) ?_ q_N (q_lt_N (by omega))
    · have hh := (hm_ok ok hl).2
      have wl := row l (by omega)
      show _ = some (Sum.inl (lN (tkT m none w l + w l * hm m l), nI (l + 1)))
      simp (disch := omega) only [s_X5_takeHarm_5, b_X5_takeHarm_5, nS, lS, cS c, X5_rd o, wl]
    · simp (disch := omega) only [s_X5_takeHarm_5, b_X5_takeHarm_5, nS, cS c]
  simp (disch := omega) only [F_X5_takeHarm, nS, lS, lp]
theorem c_gather (o : OB h a 5 odL A B I J) (c : CB h b m) (hd : b + 12 ≤ a ∨ a + 3 ≤ b) {s : Option Nat} (hs : ∀ x, s = some x → x < 10) {y : Int32} {n : Nat} (hn : n ≤ 9) : ∃ h' B' J', F_X5_gather h a b (oI s) (nI n) y = some h' ∧ OB h' a 5 odL A B' I J' ∧ Fr h h' a (a + 3) ∧ J' 2 = lN (frc (Su m y s n) (10 ^ n) 0) ∧ J' 3 = lN (frc (Su m y s n) (10 ^ n) 1) := by
  have ok := c.1
  have hL := L_le ok
  have ck : ∀ {h'}, Fr h h' a (a + 3) → CB h' b m := fun r => c.kept (fun q q1 q2 => r q (by omega))
  obtain ⟨h1, e1, B1, o1, r1, z1⟩ := q_lp1 (step := s_X5_gather_3 a b (oI s) (nI n) y) (fun i h' => ∃ B', OB h' a 5 odL A B' I J ∧ Fr h h' a (a + 3) ∧ ∀ l, l < i → B' 0 l = lN 0) 20 0 (by omega)
    (fun i h1 hi ⟨B1, o1, r1, z1⟩ => by
      obtain ⟨h2, e2, o2, r2⟩ := X5_s0 o1 (i := i) (lN 0) hi
      refine ⟨h2, ?_, _, o2, r1.tr r2, fun l hl => ?_⟩
      · simp (disch := omega) only [s_X5_gather_3, b_X5_gather_3, nS, lS, Nat.add_zero, X5_rd o1, e2]
      · rw [upF_self]
        by_cases hli : l = i
        · subst hli; exact pk_uLs
        · rw [pk_uLn hli]; exact z1 l (by omega))
    (fun h1 _ => by simp (disch := omega) only [s_X5_gather_3, b_X5_gather_3, nS, Nat.add_zero])
    (h := h) ⟨B, o, Fr.rf, fun l hl => by omega⟩
  have hp40 : 10 ^ n < 2 ^ 40 := by
    have h2 : 10 ^ n ≤ 10 ^ 9 := Nat.pow_le_pow_right (by omega) hn
    omega
  have hp0 : 0 < 10 ^ n := Nat.pow_pos (by omega)
  have go : ∀ h2 B2, OB h2 a 5 odL A B2 I J → Fr h h2 a (a + 3) → LR (B2 0) (w0 m y) → ∃ h' B' J', j_X5_gather_49 h2 a b (oI s) (nI n) y = some h' ∧ OB h' a 5 odL A B' I J' ∧ Fr h h' a (a + 3) ∧ J' 2 = lN (frc (Su m y s n) (10 ^ n) 0) ∧ J' 3 = lN (frc (Su m y s n) (10 ^ n) 1) := by
    intro h2 B2 o2 r2 z2
    have lp := q_lp_idx (step := s_X5_gather_58 a b (oI s) (nI n) y) (fun i st => st.1 = lN (Su m y s i) ∧ st.2.1 = lN (10 ^ i) ∧ st.2.2.1 = nI i ∧ ∃ B', OB st.2.2.2 a 5 odL A B' I J ∧ Fr h st.2.2.2 a (a + 3) ∧ LR (B' 0) (Wt m y s i)) n (fun r => r.1 = lN (Su m y s n) ∧ r.2.1 = lN (10 ^ n) ∧ ∃ B', OB r.2.2 a 5 odL A B' I J ∧ Fr h r.2.2 a (a + 3))
      (by
        rintro i ⟨x1, x2, x3, hh⟩ hi ⟨hx1, hx2, hx3, B3, o3, r3, z3⟩
        dsimp only at hx1 hx2 hx3 o3 r3
        subst hx1 hx2 hx3
        have c3 := ck r3
        have eS : Su m y s (i + 1) = Su m y s i * 10 + tkT m s (Wt m y s i) (mbL m) := rfl
        have eW : Wt m y s (i + 1) = sp m y (tkW m s (Wt m y s i) (mbL m)) (mbL m) := rfl
        have eP : 10 ^ (i + 1) = 10 ^ i * 10 := Nat.pow_succ _ _
        cases s with
        | none =>
          obtain ⟨h4, B4, e4, o4, r4, z4⟩ := c_ostep o3 c3 hd (y := y) z3
          refine ⟨(lN (Su m y none (i + 1)), lN (10 ^ (i + 1)), nI (i + 1), h4), ?_, rfl, rfl, rfl, B4, o4, r3.tr r4, z4⟩
          rw [eS, eP, oI_none]
          simp (disch := omega) only [s_X5_gather_58, b_X5_gather_58, j_X5_gather_89, nS, lS, o3.ob, c_takeH o3 c3 z3, e4]
        | some s =>
          have hs10 := hs s rfl
          obtain ⟨h4, B4, e4, o4, r4, z4⟩ := c_takeS o3 c3 hd hs10 z3
          obtain ⟨h5, B5, e5, o5, r5, z5⟩ := c_ostep o4 (ck (r3.tr r4)) hd (y := y) z4
          refine ⟨(lN (Su m y (some s) (i + 1)), lN (10 ^ (i + 1)), nI (i + 1), h5), ?_, rfl, rfl, rfl, B5, o5, (r3.tr r4).tr r5, z5⟩
          rw [eS, eP, oI_some]
          simp (disch := omega) only [s_X5_gather_58, b_X5_gather_58, j_X5_gather_89, nS, lS, o3.ob, e4, o4.ob, e5])
      (by
        rintro ⟨x1, x2, x3, hh⟩ ⟨hx1, hx2, hx3, B3, o3, r3, z3⟩
        dsimp only at hx1 hx2 hx3 o3 r3
        subst hx1 hx2 hx3
        exact ⟨(lN (Su m y s n), lN (10 ^ n), hh), by simp (disch := omega) only [s_X5_gather_58, b_X5_gather_58, nS], rfl, rfl, B3, o3, r3⟩)
      q_N (lN 0, lN 1, nI 0, h2) ⟨rfl, rfl, rfl, B2, o2, r2, z2⟩ (q_lt_N (by omega))
    obtain ⟨⟨v1, v2, h3⟩, e3, hv1, hv2, B3, o3, r3⟩ := lp
    dsimp only at hv1 hv2 o3 r3
    subst hv1 hv2
    obtain ⟨h4, J4, e4, o4, r4, j2, j3⟩ := c_reduce o3 (Su_40 ok y s hn) hp40 hp0
    refine ⟨h4, B3, J4, ?_, o4, r3.tr r4, j2, j3⟩
    simp (disch := omega) only [j_X5_gather_49, nS, lS, e3, o3.ob, e4]
  have c1 := ck r1
  rcases Nat.eq_zero_or_pos (mbL m) with h0 | h0
  · obtain ⟨h', B', J', e, q⟩ := go h1 B1 o1 r1 (fun i hi => by
      rw [z1 i hi]
      show lN 0 = lN (if i = 0 ∧ 0 < mbL m then 10 - tt m y 0 else 0)
      rw [if_neg (fun q => by omega)])
    refine ⟨h', B', J', ?_, q⟩
    simp (disch := omega) only [F_X5_gather, nS, e1, cS c1, e]
  · have t0 := tt_le ok (y := y) h0
    obtain ⟨h2, e2, o2, r2⟩ := X5_s0 o1 (i := 0) (lN (10 - tt m y 0)) (by omega)
    obtain ⟨h', B', J', e, q⟩ := go h2 _ o2 (r1.tr r2) (fun i hi => by
      rw [upF_self]
      show _ = lN (if i = 0 ∧ 0 < mbL m then 10 - tt m y 0 else 0)
      by_cases hi0 : i = 0
      · subst hi0; rw [pk_uLs, if_pos ⟨rfl, h0⟩]
      · rw [pk_uLn hi0, if_neg (fun q => hi0 q.1)]; exact z1 i hi)
    refine ⟨h', B', J', ?_, q⟩
    simp (disch := omega) only [F_X5_gather, nS, lS, e1, cS c1, X5_rd o1, c_tenths c1 h0, e2, e]
end ODC
