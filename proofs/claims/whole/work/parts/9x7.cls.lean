/-! ===== the call text: the class looks through its tokens ===== -/
section CLS
variable {h : qH} {a : Nat} {σ : SG} {s n m : Nat} {z : Nat → Nat} {u v : Int32}
theorem c_nums (z : Nat → Nat) (h : qH) {w : Nat} (hw : w < 19) : F_X7_numbersOf z h (nI w) = some (nI (nnW w)) := by
  unfold F_X7_numbersOf
  rw [if_neg (show ¬ nI w < (0 : Int32) from nI_pos (by omega)), if_neg (show ¬ Int32.ofNat (qTab 1).length ≤ nI w from nI_ge (b := 19) hw (by omega)), (nn_st w hw).1]
  rfl
theorem k_kind (r : RK h a (n + 1) (tok σ s) u v) (hn : n ≤ 600) {k : Nat} (hk : k ≤ n) : F_X7_kindAt h a (nI k) = some (nI (yK σ s k)) := r.kind (by omega) (k := k) (by omega)
theorem k_start (r : RK h a (n + 1) (tok σ s) u v) (hn : n ≤ 600) {k : Nat} (hk : k ≤ n) : F_X7_startAt h a (nI k) = some (nI (bg σ k)) := r.start (by omega) (k := k) (by omega)
theorem yV_vl (hs : s < 4) {k : Nat} (h2 : yK σ s k ≤ 2) : vl σ s (bg σ k) = nI (yV σ s k) ∧ yV σ s k < 100 := by
  rcases (show yK σ s k = 0 ∨ yK σ s k = 1 ∨ yK σ s k = 2 by omega) with e | e | e
  · obtain ⟨-, -, h3, h4, h5, -⟩ := yK_word hs e
    have := wf_le s hs
    exact ⟨h5, by omega⟩
  · have := yK_num e
    exact ⟨this.2.2.1, this.2.1⟩
  · have := yK_semi e
    exact ⟨this.1, by omega⟩
theorem k_val (r : RK h a (n + 1) (tok σ s) u v) (hn : n ≤ 600) (hs : s < 4) {k : Nat} (hk : k ≤ n) (h2 : yK σ s k ≤ 2) : F_X7_valueAt h a (nI k) = some (nI (yV σ s k)) := by
  rw [← (yV_vl hs h2).1]
  exact r.val (by omega) (k := k) (by omega)
theorem k_last (r : RK h a (n + 1) (tok σ s) u v) : F_X7_lastToken h a = some (nI n) := by
  have := r.tk.1
  simp (disch := omega) only [F_X7_lastToken, nS, this, Nat.add_sub_cancel]
theorem k_behind (r : RK h a (n + 1) (tok σ s) u v) (hn : n ≤ 600) (hs : s < 4) {t : Nat} (ht : t ≤ n) (h0 : yK σ s t = 0) : F_X7_behindStatement z h a (nI t) = some (nI (t + 1 + nnW (yV σ s t) + 1)) := by
  have e1 := k_val r hn hs ht (by omega)
  obtain ⟨-, -, w1, w2, -, -⟩ := yK_word hs h0
  have hw := wf_le s hs
  have e2 := c_nums z h (w := yV σ s t) (by omega)
  have e3 : t + nnW (yV σ s t) + 2 = t + 1 + nnW (yV σ s t) + 1 := by omega
  unfold F_X7_behindStatement
  rw [r.ob, Option.bind_some, e1, Option.bind_some, e2, Option.bind_some, n_lit 2, nI_add, nI_add, e3]
theorem c_blame {f : Nat → Int32 × Int32 × Int32} {N : Nat} (r : RK h a N f u v) (x y : Int32) : ∃ h', F_X7_blame h a x y = some h' ∧ RK h' a N f x y ∧ Fr h h' a (a + 4) := by
  obtain ⟨A, B, I, J, o, i3, i4, i5, hr⟩ := r
  obtain ⟨h1, e1, o1, r1⟩ := X7_p4 o x
  obtain ⟨h2, e2, o2, r2⟩ := X7_p5 o1 y
  refine ⟨h2, ?_, ⟨A, B, _, J, o2, by simp (disch := omega) only [uS]; exact i3, by simp (disch := omega) only [uS], by simp (disch := omega) only [uS], hr⟩, r1.tr r2⟩
  unfold F_X7_blame
  rw [e1, Option.bind_some, e2, Option.bind_some]
/-! the first unfit token -/
theorem k_in (r : RK h a (n + 1) (tok σ s) u v) (hn : n ≤ 600) {t e k : Nat} (hk : k ≤ n) (hke : k ≤ e) (he : e ≤ 1000) : s_X7_firstUnfit_45 z h a (nI t) (nI e) (nI k) = if yK σ s k = (if k = e then 2 else 1) then some (.inl (nI (k + 1))) else some (.inr (.inl (nI k))) := by
  have e1 := k_kind r hn hk
  have hl := yK_le (σ := σ) (s := s) k
  show b_X7_firstUnfit_45 z h a (nI t) (nI e) (nI k) = _
  unfold b_X7_firstUnfit_45 j_X7_firstUnfit_65
  rw [if_neg (show ¬ nI e < nI k from fun q => by have := (nI_ltI (by omega) (by omega)).mp q; omega), r.ob, Option.bind_some, e1, Option.bind_some]
  by_cases hke : k = e
  · rw [if_pos (show nI k = nI e by rw [hke]), if_pos hke]
    by_cases h2 : yK σ s k = 2
    · rw [if_pos h2, if_pos (show nI (yK σ s k) = (2 : Int32) by rw [h2]; rfl), n_lit 1, nI_add]
    · rw [if_neg h2, if_neg (show ¬ nI (yK σ s k) = (2 : Int32) from fun q => h2 ((nI_eq (b := 2) (by omega) (by omega)).mp q))]
  · rw [if_neg (show ¬ nI k = nI e from fun q => hke ((nI_eq (by omega) (by omega)).mp q)), if_neg hke]
    by_cases h2 : yK σ s k = 1
    · rw [if_pos h2, if_pos (show nI (yK σ s k) = (1 : Int32) by rw [h2]; rfl), n_lit 1, nI_add]
    · rw [if_neg h2, if_neg (show ¬ nI (yK σ s k) = (1 : Int32) from fun q => h2 ((nI_eq (b := 1) (by omega) (by omega)).mp q))]
theorem c_unfit (r : RK h a (n + 1) (tok σ s) u v) (hn : n ≤ 600) (hs : s < 4) (h3 : 3 ≤ yK σ s n) (hg : ∀ j, j < m → yGd σ s (yst σ s j)) (hst : yst σ s m ≤ n) : (yK σ s (yst σ s m) = 4 → F_X7_firstUnfit z h a = some m1) ∧ ∀ w, yBad σ s (yst σ s m) w → F_X7_firstUnfit z h a = some (nI w) := by
  have hN := r.tk.1
  have le : ∀ j, j < m → yst σ s j + 1 + nnW (yV σ s (yst σ s j)) + 1 ≤ n := fun j hj => Nat.le_trans (yst_mono hj) hst
  have pre : ∀ {t : Nat}, t ≤ n → yK σ s t = 0 → s_X7_firstUnfit_2 z h a (nI t) = (q_lp (s_X7_firstUnfit_45 z h a (nI t) (nI (t + 1 + nnW (yV σ s t)))) q_N (nI (t + 1))).bind (Sum.elim (fun o15 => some (.inr (.inr (.inl o15)))) (fun _ => some (.inl (nI (t + 1 + nnW (yV σ s t) + 1))))) := by
    intro t ht h0
    have e1 := k_kind r hn ht
    have e2 := k_behind (z := z) r hn hs ht h0
    rw [h0] at e1
    show b_X7_firstUnfit_2 z h a (nI t) = _
    unfold b_X7_firstUnfit_2
    rw [hN, Option.bind_some, if_neg (show ¬ nI (n + 1) ≤ nI t from nI_ge (by omega) (by omega)), r.ob, Option.bind_some, e1, Option.bind_some, if_pos (show nI 0 = (0 : Int32) from rfl), Option.bind_some, e2, Option.bind_some, n_lit 1, pk_sub (by omega), nI_add, Nat.add_sub_cancel]
    simp only [r.ob, e2, Option.bind_some]
  have step : ∀ j, j < m → s_X7_firstUnfit_2 z h a (nI (yst σ s j)) = some (.inl (nI (yst σ s (j + 1)))) := by
    intro j hj
    obtain ⟨g1, g2, g3⟩ := hg j hj
    have hle := le j hj
    have lp := q_lp_for (step := s_X7_firstUnfit_45 z h a (nI (yst σ s j)) (nI (yst σ s j + 1 + nnW (yV σ s (yst σ s j))))) (fun i => nI (yst σ s j + 1 + i)) (nnW (yV σ s (yst σ s j)) + 1) (r := .inr ()) (fun i hi => by
      rw [k_in r hn (by omega) (by omega) (by omega)]
      by_cases e : i = nnW (yV σ s (yst σ s j))
      · rw [if_pos (show yst σ s j + 1 + i = yst σ s j + 1 + nnW (yV σ s (yst σ s j)) by omega), if_pos (by rw [e]; exact g3)]
        rfl
      · rw [if_neg (show ¬ yst σ s j + 1 + i = yst σ s j + 1 + nnW (yV σ s (yst σ s j)) by omega), if_pos (g2 i (by omega))]
        rfl) (by
      show b_X7_firstUnfit_45 z h a _ _ _ = _
      unfold b_X7_firstUnfit_45
      rw [if_pos (nI_lt (by omega) (by omega))]) q_N (q_lt_N (by omega))
    rw [pre (by omega) g1, show nI (yst σ s j + 1) = nI (yst σ s j + 1 + 0) from rfl, lp, Option.bind_some]
    rfl
  constructor
  · intro h4
    have e1 := k_kind r hn hst
    rw [h4] at e1
    have lp := q_lp_for (step := s_X7_firstUnfit_2 z h a) (fun j => nI (yst σ s j)) m (r := .inl (nI (yst σ s m))) step (by
      show b_X7_firstUnfit_2 z h a _ = _
      unfold b_X7_firstUnfit_2
      rw [hN, Option.bind_some, if_neg (show ¬ nI (n + 1) ≤ nI (yst σ s m) from nI_ge (by omega) (by omega)), r.ob, Option.bind_some, e1, Option.bind_some, if_neg (show ¬ nI 4 = (0 : Int32) by decide)]) q_N (q_lt_N (by have := yst_ge σ s m; omega))
    have lp : q_lp (s_X7_firstUnfit_2 z h a) q_N (0 : Int32) = some (.inl (nI (yst σ s m))) := lp
    unfold F_X7_firstUnfit
    rw [lp, Option.bind_some]
    show ((q_ob h a 7).bind fun _ => (F_X7_kindAt h a (nI (yst σ s m))).bind fun x7 => if x7 = (4 : Int32) then some (-1 : Int32) else some (nI (yst σ s m))) = some m1
    rw [r.ob, Option.bind_some, e1, Option.bind_some, if_pos (show nI 4 = (4 : Int32) from rfl)]
    rfl
  · intro w hb
    have hwn := yBad_le hb h3 hst
    rcases hb with ⟨g1, g2, rfl⟩ | ⟨g1, i, g2, rfl, g4, g5, g6⟩
    · have e1 := k_kind r hn hst
      have hl := yK_le (σ := σ) (s := s) (yst σ s m)
      have lp := q_lp_for (step := s_X7_firstUnfit_2 z h a) (fun j => nI (yst σ s j)) m (r := .inl (nI (yst σ s m))) step (by
        show b_X7_firstUnfit_2 z h a _ = _
        unfold b_X7_firstUnfit_2
        rw [hN, Option.bind_some, if_neg (show ¬ nI (n + 1) ≤ nI (yst σ s m) from nI_ge (by omega) (by omega)), r.ob, Option.bind_some, e1, Option.bind_some, if_neg (show ¬ nI (yK σ s (yst σ s m)) = (0 : Int32) from fun q => g1 ((nI_eq (b := 0) (by omega) (by omega)).mp q))]) q_N (q_lt_N (by have := yst_ge σ s m; omega))
      have lp : q_lp (s_X7_firstUnfit_2 z h a) q_N (0 : Int32) = some (.inl (nI (yst σ s m))) := lp
      unfold F_X7_firstUnfit
      rw [lp, Option.bind_some]
      show ((q_ob h a 7).bind fun _ => (F_X7_kindAt h a (nI (yst σ s m))).bind fun x7 => if x7 = (4 : Int32) then some (-1 : Int32) else some (nI (yst σ s m))) = _
      rw [r.ob, Option.bind_some, e1, Option.bind_some, if_neg (show ¬ nI (yK σ s (yst σ s m)) = (4 : Int32) from fun q => g2 ((nI_eq (b := 4) (by omega) (by omega)).mp q))]
    · have hnn : nnW (yV σ s (yst σ s m)) ≤ 4 := by
        obtain ⟨-, -, w1, w2, -, -⟩ := yK_word hs g1
        have := wf_le s hs
        exact (nn_st _ (by omega)).2
      have inn := q_lp_for (step := s_X7_firstUnfit_45 z h a (nI (yst σ s m)) (nI (yst σ s m + 1 + nnW (yV σ s (yst σ s m))))) (fun k => nI (yst σ s m + 1 + k)) i (r := .inl (nI (yst σ s m + 1 + i))) (fun k hk => by
        rw [k_in r hn (by omega) (by omega) (by omega), if_neg (show ¬ yst σ s m + 1 + k = yst σ s m + 1 + nnW (yV σ s (yst σ s m)) by omega), if_pos (g4 k hk)]
        rfl) (by
        rw [k_in r hn (by omega) (by omega) (by omega)]
        by_cases e : i = nnW (yV σ s (yst σ s m))
        · rw [if_pos (show yst σ s m + 1 + i = yst σ s m + 1 + nnW (yV σ s (yst σ s m)) by omega), if_neg (g6 e)]
        · rw [if_neg (show ¬ yst σ s m + 1 + i = yst σ s m + 1 + nnW (yV σ s (yst σ s m)) by omega), if_neg (g5 (by omega))]) q_N (q_lt_N (by omega))
      have lp := q_lp_for (step := s_X7_firstUnfit_2 z h a) (fun j => nI (yst σ s j)) m (r := .inr (.inl (nI (yst σ s m + 1 + i)))) step (by
        rw [pre hst g1, show nI (yst σ s m + 1) = nI (yst σ s m + 1 + 0) from rfl, inn, Option.bind_some]
        rfl) q_N (q_lt_N (by have := yst_ge σ s m; omega))
      have lp : q_lp (s_X7_firstUnfit_2 z h a) q_N (0 : Int32) = some (.inr (.inl (nI (yst σ s m + 1 + i)))) := lp
      unfold F_X7_firstUnfit
      rw [lp, Option.bind_some]
      rfl
/-! numbers out of bounds -/
theorem nlF_pos {w : Nat} {x p : Nat → Nat} {lf : LFt} (hl : ∀ q, lf = some q → 0 < q.1 ∧ q.1 < 5) : ∀ i q, nlF w x p lf i = some q → 0 < q.1 ∧ q.1 < 5 := by
  intro i
  induction i with
  | zero => exact hl
  | succ i ih =>
    intro q hq
    have hq : (if inB w i (x i) = true then nlF w x p lf i else ltr (nlF w x p lf i) (2, p i)) = some q := hq
    by_cases hb : inB w i (x i) = true
    · rw [if_pos hb] at hq; exact ih q hq
    · rw [if_neg hb] at hq
      cases hn : nlF w x p lf i with
      | none => rw [hn] at hq; cases hq; exact ⟨show 0 < 2 by omega, show 2 < 5 by omega⟩
      | some r => rw [hn] at hq; cases hq; exact ih _ hn
theorem yLL_pos (σ : SG) (s : Nat) : ∀ j q, yLL σ s j = some q → 0 < q.1 ∧ q.1 < 5 := by
  intro j
  induction j with
  | zero => intro q hq; cases hq
  | succ j ih =>
    intro q hq
    refine nlF_pos (lf := fuL _ _ _ (yLL σ s j)) ?_ _ q hq
    intro r hr
    unfold fuL at hr
    split at hr
    · cases hn : yLL σ s j with
      | none => rw [hn] at hr; cases hr; exact ⟨show 0 < 3 by omega, show 3 < 5 by omega⟩
      | some r' => rw [hn] at hr; cases hr; exact ih _ hn
    · exact ih r hr
theorem yLL_keep {σ : SG} {s j : Nat} {q : Nat × Nat} (hq : yLL σ s j = some q) : ∀ k, j ≤ k → yLL σ s k = some q := by
  intro k hk
  induction k with
  | zero => rw [show j = 0 by omega] at hq; exact hq
  | succ k ih =>
    by_cases e : j = k + 1
    · subst e; exact hq
    · show lfS _ _ _ _ _ (yLL σ s k) = some q
      rw [ih (by omega), lfS_some]
theorem oFt_0 {o : LFt} (hp : ∀ q, o = some q → 0 < q.1 ∧ q.1 < 5) : oFt o = 0 ↔ o = none := by
  cases o with
  | none => exact ⟨fun _ => rfl, fun _ => rfl⟩
  | some q =>
    have := hp q rfl
    refine ⟨fun e => ?_, fun e => by cases e⟩
    have e : nI q.1 = nI 0 := e
    have := (nI_eq (by omega) (by omega)).mp e
    omega
theorem c_check (hn : n ≤ 600) (hs : s < 4) {t : Nat} (g : yGd σ s t) (hle : t + 1 + nnW (yV σ s t) + 1 ≤ n) (r : RK h a (n + 1) (tok σ s) (oFt none) (oPl none)) : ∃ h', F_X7_checkNumbers z h a (nI t) = some h' ∧ RK h' a (n + 1) (tok σ s) (oFt (nlF (yV σ s t) (yX σ s t) (yP σ t) none (nnW (yV σ s t)))) (oPl (nlF (yV σ s t) (yX σ s t) (yP σ t) none (nnW (yV σ s t)))) ∧ Fr h h' a (a + 4) := by
  have e1 := k_val r hn hs (k := t) (by omega) (by rw [g.1]; omega)
  obtain ⟨-, -, w1, w2, -, -⟩ := yK_word hs g.1
  have hw := wf_le s hs
  have hx : ∀ i, i < nnW (yV σ s t) → yK σ s (t + 1 + i) = 1 := g.2.1
  obtain ⟨w, ew⟩ : ∃ w, w = yV σ s t := ⟨_, rfl⟩
  rw [← ew] at e1 hle hx w1 w2 ⊢
  obtain ⟨X, eX⟩ : ∃ X, X = yX σ s t := ⟨_, rfl⟩
  have hX : ∀ i, yV σ s (t + 1 + i) = X i := fun i => by rw [eX]; rfl
  obtain ⟨P, eP⟩ : ∃ P, P = yP σ t := ⟨_, rfl⟩
  have hP : ∀ i, bg σ (t + 1 + i) = P i := fun i => by rw [eP]; rfl
  rw [← eX, ← eP]
  have hnn := (nn_st w (by omega)).2
  have key := q_lp_inv (step := s_X7_checkNumbers_8 z a (nI t) (nI w)) (fun x => ∃ i, i ≤ nnW w ∧ x.1 = nI i ∧ RK x.2 a (n + 1) (tok σ s) (oFt (nlF w X P none i)) (oPl (nlF w X P none i)) ∧ Fr h x.2 a (a + 4)) (fun x => nnW w - x.1.toNatClampNeg) (fun g => RK g a (n + 1) (tok σ s) (oFt (nlF w X P none (nnW w))) (oPl (nlF w X P none (nnW w))) ∧ Fr h g a (a + 4)) ?_ q_N (nI 0, h) ⟨0, Nat.zero_le _, rfl, r, Fr.rf⟩ (q_lt_N (by dsimp only; omega))
  · obtain ⟨h', e', r', f'⟩ := key
    refine ⟨h', ?_, r', f'⟩
    have e' : q_lp (s_X7_checkNumbers_8 z a (nI t) (nI w)) q_N ((0 : Int32), h) = some h' := e'
    unfold F_X7_checkNumbers
    rw [r.ob, Option.bind_some, e1, Option.bind_some, e', Option.bind_some]
  · rintro ⟨x, g⟩ ⟨i, hi, hx1, rk, fr⟩
    dsimp only at hx1 rk fr
    subst hx1
    have en := c_nums z g (w := w) (by omega)
    have pos := nlF_pos (w := w) (x := X) (p := P) (lf := none) (fun q hq => by cases hq) i
    rcases Nat.lt_or_ge i (nnW w) with hlt | hge
    · have f4 := rk.tk.2.1
      cases hn0 : nlF w X P none i with
      | some q =>
        refine Or.inr ⟨g, ?_, by rw [nlF_keep hn0 _ (Nat.le_of_lt hlt), ← hn0]; exact rk, fr⟩
        have nz : ¬ oFt (nlF w X P none i) = 0 := fun q => by have := (oFt_0 pos).mp q; rw [hn0] at this; cases this
        show b_X7_checkNumbers_8 z a (nI t) (nI w) (nI i) g = _
        unfold b_X7_checkNumbers_8
        rw [en, Option.bind_some, if_neg (nI_ge hlt (by omega)), f4, Option.bind_some, if_neg nz]
      | none =>
        have f4' : q_fI g a 7 4 = some (nI 0) := by rw [hn0] at f4; exact f4
        have hk1 := hx i hlt
        have ev := k_val rk hn hs (k := t + 1 + i) (by omega) (by omega)
        rw [hX] at ev
        have es := k_start rk hn (k := t + 1 + i) (by omega)
        rw [hP] at es
        have hxl : X i < 100 := by rw [← hX]; exact (yK_num hk1).2.1
        obtain ⟨l1, l2, l3, l4⟩ := lo_st (4 * w + i) (by omega)
        have em : nI w * (4 : Int32) + nI i = nI (4 * w + i) := by rw [n_lit 4, pk_mul, nI_add, Nat.mul_comm]
        have ea : nI t + (1 : Int32) + nI i = nI (t + 1 + i) := by rw [n_lit 1, nI_add, nI_add]
        have pre : s_X7_checkNumbers_8 z a (nI t) (nI w) (nI i, g) = if nI (X i) < nI (loB (4 * w + i)) then j_X7_checkNumbers_86 z g a (nI t) (nI w) (nI i) else if nI (X i) ≤ nI (hiB (4 * w + i)) then some (.inl (nI i + 1, g)) else j_X7_checkNumbers_86 z g a (nI t) (nI w) (nI i) := by
          show b_X7_checkNumbers_8 z a (nI t) (nI w) (nI i) g = _
          unfold b_X7_checkNumbers_8
          rw [en, Option.bind_some, if_neg (nI_ge hlt (by omega)), f4', Option.bind_some, if_pos (show nI 0 = (0 : Int32) from rfl), rk.ob, Option.bind_some, ea, ev, Option.bind_some, em, if_neg (show ¬ nI (4 * w + i) < (0 : Int32) from nI_pos (by omega)), if_neg (show ¬ Int32.ofNat (qTab 2).length ≤ nI (4 * w + i) from nI_ge (b := 76) (by omega) (by omega)), if_neg (show ¬ Int32.ofNat (qTab 3).length ≤ nI (4 * w + i) from nI_ge (b := 76) (by omega) (by omega)), l1, Option.bind_some, l2, Option.bind_some]
        have nx : nlF w X P none (i + 1) = if inB w i (X i) = true then nlF w X P none i else ltr (nlF w X P none i) (2, P i) := rfl
        obtain ⟨g2, e2, r2, f2⟩ := c_blame rk (nI 2) (nI (P i))
        have bad : ¬ inB w i (X i) = true → j_X7_checkNumbers_86 z g a (nI t) (nI w) (nI i) = some (.inl (nI (i + 1), g2)) ∧ RK g2 a (n + 1) (tok σ s) (oFt (nlF w X P none (i + 1))) (oPl (nlF w X P none (i + 1))) := by
          intro hb
          have e2 : F_X7_blame g a (2 : Int32) (nI (P i)) = some g2 := e2
          refine ⟨?_, by rw [nx, if_neg hb, hn0]; exact r2⟩
          unfold j_X7_checkNumbers_86
          rw [rk.ob, Option.bind_some, ea, es, Option.bind_some, Option.bind_some, e2, Option.bind_some, n_lit 1, nI_add]
        have dec : nnW w - (nI (i + 1)).toNatClampNeg < nnW w - (nI i).toNatClampNeg := by rw [nI_cl (by omega), nI_cl (by omega)]; omega
        by_cases hlo : X i < loB (4 * w + i)
        · obtain ⟨b1, b2⟩ := bad (fun q => by have := inB_t.mp q; omega)
          refine Or.inl ⟨(nI (i + 1), g2), ?_, ⟨i + 1, by omega, rfl, b2, fr.tr f2⟩, dec⟩
          rw [pre, if_pos (nI_lt hlo (by omega))]
          exact b1
        · rw [if_neg (show ¬ nI (X i) < nI (loB (4 * w + i)) from fun q => hlo ((nI_ltI (by omega) (by omega)).mp q))] at pre
          by_cases hhi : X i ≤ hiB (4 * w + i)
          · rw [if_pos (nI_le hhi (by omega))] at pre
            refine Or.inl ⟨(nI (i + 1), g), by rw [pre, n_lit 1, nI_add], ⟨i + 1, by omega, rfl, by rw [nx, if_pos (inB_t.mpr ⟨by omega, hhi⟩)]; exact rk, fr⟩, dec⟩
          · rw [if_neg (show ¬ nI (X i) ≤ nI (hiB (4 * w + i)) from fun q => hhi ((nI_leI (by omega) (by omega)).mp q))] at pre
            obtain ⟨b1, b2⟩ := bad (fun q => by have := inB_t.mp q; omega)
            exact Or.inl ⟨(nI (i + 1), g2), by rw [pre]; exact b1, ⟨i + 1, by omega, rfl, b2, fr.tr f2⟩, dec⟩
    · have : i = nnW w := by omega
      subst this
      refine Or.inr ⟨g, ?_, rk, fr⟩
      show b_X7_checkNumbers_8 z a (nI t) (nI w) (nI (nnW w)) g = _
      unfold b_X7_checkNumbers_8
      rw [en, Option.bind_some, if_pos (nI_le (Nat.le_refl _) (by omega))]
end CLS
