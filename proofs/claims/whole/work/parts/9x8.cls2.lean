/-! ===== the call text: the class finds what is wrong, its reading whole ===== -/
section CLT
variable {h : qH} {a : Nat} {σ : SG} {s n m : Nat} {z : Nat → Nat} {u v : Int32}
def cL (w : Nat) : Nat := if w = 0 then 1 else 0
def cB (w : Nat) : Nat := if w = 2 then 1 else 0
def cD (w : Nat) : Nat := if 6 ≤ w ∧ w < 13 then 1 else 0
def cV (w : Nat) : Nat := if 13 ≤ w ∧ w < 15 then 1 else 0
theorem w_turn (z : Nat → Nat) (h : qH) (a : Nat) {l b d e w t : Nat} (hw : w < 19) : (if nI w = 0 then j_X7_findWrongNumber_47 z h a (nI b) (nI d) (nI e) (nI t) (nI w) (1 : Int32) (nI l) else j_X7_findWrongNumber_47 z h a (nI b) (nI d) (nI e) (nI t) (nI w) (0 : Int32) (nI l)) = j_X7_findWrongNumber_106 z h a (nI (l + cL w)) (nI (b + cB w)) (nI (d + cD w)) (nI t) (nI (cV w)) (nI e) := by
  have s1 : (if nI w = 0 then j_X7_findWrongNumber_47 z h a (nI b) (nI d) (nI e) (nI t) (nI w) (1 : Int32) (nI l) else j_X7_findWrongNumber_47 z h a (nI b) (nI d) (nI e) (nI t) (nI w) (0 : Int32) (nI l)) = j_X7_findWrongNumber_47 z h a (nI b) (nI d) (nI e) (nI t) (nI w) (nI (cL w)) (nI l) := by
    unfold cL
    by_cases q : w = 0
    · rw [if_pos q, if_pos (show nI w = 0 by rw [q]; rfl)]; rfl
    · rw [if_neg q, if_neg (show ¬ nI w = 0 from fun p => q ((nI_eq (b := 0) (by omega) (by omega)).mp p))]; rfl
  have s2 : j_X7_findWrongNumber_47 z h a (nI b) (nI d) (nI e) (nI t) (nI w) (nI (cL w)) (nI l) = j_X7_findWrongNumber_61 z h a (nI (l + cL w)) (nI d) (nI e) (nI t) (nI w) (nI (cB w)) (nI b) := by
    unfold j_X7_findWrongNumber_47 cB
    rw [nI_add]
    by_cases q : w = 2
    · rw [if_pos q, if_pos (show nI w = (2 : Int32) by rw [q]; rfl)]; rfl
    · rw [if_neg q, if_neg (show ¬ nI w = (2 : Int32) from fun p => q ((nI_eq (b := 2) (by omega) (by omega)).mp p))]; rfl
  have s3 : j_X7_findWrongNumber_61 z h a (nI (l + cL w)) (nI d) (nI e) (nI t) (nI w) (nI (cB w)) (nI b) = j_X7_findWrongNumber_83 z h a (nI (l + cL w)) (nI (b + cB w)) (nI e) (nI t) (nI w) (nI (cD w)) (nI d) := by
    unfold j_X7_findWrongNumber_61 j_X7_findWrongNumber_82 cD
    rw [nI_add]
    rcases Nat.lt_or_ge w 6 with q | q
    · rw [if_pos (show nI w < (6 : Int32) from nI_lt (b := 6) q (by omega)), if_neg (show ¬ (6 ≤ w ∧ w < 13) by omega)]; rfl
    · rw [if_neg (show ¬ nI w < (6 : Int32) from fun p => by have := (nI_ltI (b := 6) (by omega) (by omega)).mp p; omega)]
      rcases Nat.lt_or_ge w 13 with q2 | q2
      · rw [if_neg (show ¬ (13 : Int32) ≤ nI w from nI_ge (b := 13) q2 (by omega)), if_pos ⟨q, q2⟩]; rfl
      · rw [if_pos (show (13 : Int32) ≤ nI w from nI_le (a := 13) q2 (by omega)), if_neg (show ¬ (6 ≤ w ∧ w < 13) by omega)]; rfl
  have s4 : j_X7_findWrongNumber_83 z h a (nI (l + cL w)) (nI (b + cB w)) (nI e) (nI t) (nI w) (nI (cD w)) (nI d) = j_X7_findWrongNumber_106 z h a (nI (l + cL w)) (nI (b + cB w)) (nI (d + cD w)) (nI t) (nI (cV w)) (nI e) := by
    unfold j_X7_findWrongNumber_83 j_X7_findWrongNumber_105 cV
    rw [nI_add]
    rcases Nat.lt_or_ge w 13 with q | q
    · rw [if_pos (show nI w < (13 : Int32) from nI_lt (b := 13) q (by omega)), if_neg (show ¬ (13 ≤ w ∧ w < 15) by omega)]; rfl
    · rw [if_neg (show ¬ nI w < (13 : Int32) from fun p => by have := (nI_ltI (b := 13) (by omega) (by omega)).mp p; omega)]
      rcases Nat.lt_or_ge w 15 with q2 | q2
      · rw [if_neg (show ¬ (15 : Int32) ≤ nI w from nI_ge (b := 15) q2 (by omega)), if_pos ⟨q, q2⟩]; rfl
      · rw [if_pos (show (15 : Int32) ≤ nI w from nI_le (a := 15) q2 (by omega)), if_neg (show ¬ (13 ≤ w ∧ w < 15) by omega)]; rfl
  rw [s1, s2, s3, s4]
/-- how many of each there are, as the class counts them -/
def yzL (s : Nat) (T : Nat → Int32) : Nat := if s = 0 then cn T 0 else 0
def yzB (s : Nat) (T : Nat → Int32) : Nat := if s = 0 then cn T 1 else 0
def yzD (s : Nat) (T : Nat → Int32) : Nat := if s = 1 then cn T 0 else 0
def yzV (s : Nat) (T : Nat → Int32) : Nat := if s = 2 then cn T 0 else 0
theorem n_le {s : Nat} {T : Nat → Int32} (tb : TB s T) : yzL s T ≤ 20 ∧ yzB s T ≤ 8 ∧ yzD s T ≤ 40 ∧ yzV s T ≤ 12 := by
  obtain ⟨t0, t1, t2, -⟩ := tb
  unfold yzL yzB yzD yzV
  refine ⟨?_, ?_, ?_, ?_⟩
  · split
    · next e => exact (t0 e).1.2
    · omega
  · split
    · next e => exact (t0 e).2.2
    · omega
  · split
    · next e => exact (t1 e).2
    · omega
  · split
    · next e => exact (t2 e).2
    · omega
theorem n_full {s w : Nat} {T : Nat → Int32} (hs : s < 4) (h1 : wf s ≤ w) (h2 : w < wf (s + 1)) (tb : TB s T) : fuB w T = true ↔ (20 < yzL s T + cL w ∨ 8 < yzB s T + cB w ∨ 40 < yzD s T + cD w ∨ 12 < yzV s T + cV w) := by
  rw [fuB_t]
  have hn := n_le tb
  unfold cL cB cD cV
  rcases (show s = 0 ∨ s = 1 ∨ s = 2 ∨ s = 3 by omega) with rfl | rfl | rfl | rfl
  · have h1 : 0 ≤ w := h1
    have h2 : w < 6 := h2
    have eyzL : yzL 0 T = cn T 0 := rfl
    have eyzB : yzB 0 T = cn T 1 := rfl
    have eyzD : yzD 0 T = 0 := rfl
    have eyzV : yzV 0 T = 0 := rfl
    rw [eyzL, eyzB, eyzD, eyzV] at hn ⊢
    split <;> split <;> split <;> split <;> omega
  · have h1 : 6 ≤ w := h1
    have h2 : w < 13 := h2
    have eyzL : yzL 1 T = 0 := rfl
    have eyzB : yzB 1 T = 0 := rfl
    have eyzD : yzD 1 T = cn T 0 := rfl
    have eyzV : yzV 1 T = 0 := rfl
    rw [eyzL, eyzB, eyzD, eyzV] at hn ⊢
    split <;> split <;> split <;> split <;> omega
  · have h1 : 13 ≤ w := h1
    have h2 : w < 15 := h2
    have eyzL : yzL 2 T = 0 := rfl
    have eyzB : yzB 2 T = 0 := rfl
    have eyzD : yzD 2 T = 0 := rfl
    have eyzV : yzV 2 T = cn T 0 := rfl
    rw [eyzL, eyzB, eyzD, eyzV] at hn ⊢
    split <;> split <;> split <;> split <;> omega
  · have h1 : 15 ≤ w := h1
    have h2 : w < 19 := h2
    have eyzL : yzL 3 T = 0 := rfl
    have eyzB : yzB 3 T = 0 := rfl
    have eyzD : yzD 3 T = 0 := rfl
    have eyzV : yzV 3 T = 0 := rfl
    rw [eyzL, eyzB, eyzD, eyzV] at hn ⊢
    split <;> split <;> split <;> split <;> omega
/-- behind a statement that is not one too many the counts are one more -/
theorem n_next {s w : Nat} {T : Nat → Int32} {x : Nat → Nat} (hs : s < 4) (h1 : wf s ≤ w) (h2 : w < wf (s + 1)) (tb : TB s T) (hf : fuB w T = false) : yzL s (tlS w x T) = yzL s T + cL w ∧ yzB s (tlS w x T) = yzB s T + cB w ∧ yzD s (tlS w x T) = yzD s T + cD w ∧ yzV s (tlS w x T) = yzV s T + cV w := by
  have hf : ¬ ((w = 0 ∧ cn T 0 = 20) ∨ (w = 2 ∧ cn T 1 = 8) ∨ (6 ≤ w ∧ w < 13 ∧ cn T 0 = 40) ∨ (13 ≤ w ∧ w < 15 ∧ cn T 0 = 12)) := decide_eq_false_iff_not.mp hf
  obtain ⟨t0, t1, t2, -⟩ := tb
  unfold yzL yzB yzD yzV
  rcases (show s = 0 ∨ s = 1 ∨ s = 2 ∨ s = 3 by omega) with rfl | rfl | rfl | rfl
  · obtain ⟨⟨-, a2⟩, -, a4⟩ := t0 rfl
    have h2 : w < 6 := h2
    have key : ∀ (j : Nat) (y : Int32), 2 ≤ j → cn (upd T j y) 0 = cn T 0 ∧ cn (upd T j y) 1 = cn T 1 := fun j y hj => ⟨(cn_un (by omega)).1, (cn_un (by omega)).1⟩
    have own : ∀ (c : Prop) [Decidable c] (j : Nat) (y : Int32), 2 ≤ j → cn (if c then upd T j y else T) 0 = cn T 0 ∧ cn (if c then upd T j y else T) 1 = cn T 1 := by
      intro c _ j y hj
      split
      · exact key j y hj
      · exact ⟨rfl, rfl⟩
    rcases (show w = 0 ∨ w = 1 ∨ w = 2 ∨ w = 3 ∨ w = 4 ∨ w = 5 by omega) with rfl | rfl | rfl | rfl | rfl | rfl
    · have e : tlS 0 x T = upd (upd (upd (upd (upd T (4 + cn T 0) (nI (x 0))) (24 + cn T 0) (nI (x 1))) (44 + cn T 0) (nI (x 2))) (64 + cn T 0) (nI (x 3))) 0 (nI (cn T 0 + 1)) := if_pos (show cn T 0 < 20 by omega)
      rw [e]
      refine ⟨(cn_us (by omega)).1, ?_, rfl, rfl⟩
      show cn _ 1 = cn T 1
      rw [(cn_un (by omega)).1, (cn_un (by omega)).1, (cn_un (by omega)).1, (cn_un (by omega)).1, (cn_un (by omega)).1]
    · have := own (gdF 1 x 2 = true) (100 + x 0) (nI (x 1)) (by omega)
      exact ⟨this.1, this.2, rfl, rfl⟩
    · have e : tlS 2 x T = upd (upd (upd T (84 + cn T 1) (nI (x 0))) (92 + cn T 1) (nI (x 1))) 1 (nI (cn T 1 + 1)) := if_pos (show cn T 1 < 8 by omega)
      rw [e]
      refine ⟨?_, (cn_us (by omega)).1, rfl, rfl⟩
      show cn _ 0 = cn T 0
      rw [(cn_un (by omega)).1, (cn_un (by omega)).1, (cn_un (by omega)).1]
    · have := own (gdF 3 x 1 = true) (106 + x 0) (nI 1) (by omega)
      exact ⟨this.1, this.2, rfl, rfl⟩
    · have := key 2 (nI (x 0)) (by omega)
      exact ⟨this.1, this.2, rfl, rfl⟩
    · have := key 3 (nI (x 0)) (by omega)
      exact ⟨this.1, this.2, rfl, rfl⟩
  · obtain ⟨-, a2⟩ := t1 rfl
    have h1 : 6 ≤ w := h1
    have h2 : w < 13 := h2
    unfold cL cB cD cV
    rw [if_neg (show ¬ w = 0 by omega), if_neg (show ¬ w = 2 by omega), if_pos (show 6 ≤ w ∧ w < 13 from ⟨h1, h2⟩), if_neg (show ¬ (13 ≤ w ∧ w < 15) by omega)]
    refine ⟨rfl, rfl, ?_, rfl⟩
    show cn (tlS w x T) 0 = cn T 0 + 1
    unfold tlS
    rw [if_neg (by omega), if_neg (by omega), if_neg (by omega), if_neg (by omega), if_neg (by omega), if_neg (by omega), if_pos (by omega), if_neg (show ¬ cn T 0 = 40 by omega)]
    exact (cn_us (by omega)).1
  · obtain ⟨-, a2⟩ := t2 rfl
    have h1 : 13 ≤ w := h1
    have h2 : w < 15 := h2
    unfold cL cB cD cV
    rw [if_neg (show ¬ w = 0 by omega), if_neg (show ¬ w = 2 by omega), if_neg (show ¬ (6 ≤ w ∧ w < 13) by omega), if_pos (show 13 ≤ w ∧ w < 15 from ⟨h1, h2⟩)]
    refine ⟨rfl, rfl, rfl, ?_⟩
    show cn (tlS w x T) 0 = cn T 0 + 1
    unfold tlS
    rw [if_neg (by omega), if_neg (by omega), if_neg (by omega), if_neg (by omega), if_neg (by omega), if_neg (by omega), if_neg (by omega), if_pos (by omega), if_neg (show ¬ cn T 0 = 12 by omega)]
    exact (cn_us (by omega)).1
  · have h1 : 15 ≤ w := h1
    unfold cL cB cD cV
    rw [if_neg (show ¬ w = 0 by omega), if_neg (show ¬ w = 2 by omega), if_neg (show ¬ (6 ≤ w ∧ w < 13) by omega), if_neg (show ¬ (13 ≤ w ∧ w < 15) by omega)]
    exact ⟨rfl, rfl, rfl, rfl⟩
theorem c_wrongN (hn : n ≤ 600) (hs : s < 4) (hg : ∀ j, j < m → yGd σ s (yst σ s j)) (hst : yst σ s m = n) (r : RK h a (n + 1) (tok σ s) (oFt none) (oPl none)) : ∃ h', F_X7_findWrongNumber z h a = some h' ∧ RK h' a (n + 1) (tok σ s) (oFt (yLL σ s m)) (oPl (yLL σ s m)) ∧ Fr h h' a (a + 4) := by
  have le : ∀ j, j < m → yst σ s j + 1 + nnW (yV σ s (yst σ s j)) + 1 ≤ n := fun j hj => by rw [← hst]; exact yst_mono hj
  have key := q_lp_inv (step := s_X7_findWrongNumber_12 z a) (fun x => ∃ j, j ≤ m ∧ x.2.2.2.2.1 = nI (yst σ s j) ∧ RK x.2.2.2.2.2 a (n + 1) (tok σ s) (oFt (yLL σ s j)) (oPl (yLL σ s j)) ∧ Fr h x.2.2.2.2.2 a (a + 4) ∧ (yLL σ s j = none → x.1 = nI (yzL s (yTT σ s j)) ∧ x.2.1 = nI (yzB s (yTT σ s j)) ∧ x.2.2.1 = nI (yzD s (yTT σ s j)) ∧ x.2.2.2.1 = nI (yzV s (yTT σ s j)))) (fun x => n - x.2.2.2.2.1.toNatClampNeg) (fun g => RK g a (n + 1) (tok σ s) (oFt (yLL σ s m)) (oPl (yLL σ s m)) ∧ Fr h g a (a + 4)) ?_ q_N ((0 : Int32), (0 : Int32), (0 : Int32), (0 : Int32), (0 : Int32), h) ⟨0, Nat.zero_le _, rfl, r, Fr.rf, fun _ => ?_⟩ (q_lt_N (by dsimp only; omega))
  · obtain ⟨h', e', r', f'⟩ := key
    refine ⟨h', ?_, r', f'⟩
    unfold F_X7_findWrongNumber
    rw [e', Option.bind_some]
  · rintro ⟨l, b, d, e, tt, g⟩ ⟨j, hj, ht, rk, fr, hc⟩
    dsimp only at ht rk fr hc
    subst ht
    have el := k_last rk
    have pos := yLL_pos σ s j
    rcases Nat.lt_or_ge j m with hlt | hge
    · have hle := le j hlt
      have gd := hg j hlt
      have f4 := rk.tk.2.1
      cases hL : yLL σ s j with
      | some q =>
        refine Or.inr ⟨g, ?_, by rw [yLL_keep hL m (Nat.le_of_lt hlt), ← hL]; exact rk, fr⟩
        have nz : ¬ oFt (yLL σ s j) = 0 := fun q => by have := (oFt_0 pos).mp q; rw [hL] at this; cases this
        show b_X7_findWrongNumber_12 z a l b d e (nI (yst σ s j)) g = _
        unfold b_X7_findWrongNumber_12
        rw [rk.ob, Option.bind_some, el, Option.bind_some, if_neg (show ¬ nI n ≤ nI (yst σ s j) from nI_ge (by omega) (by omega)), f4, Option.bind_some, if_neg nz]
      | none =>
        obtain ⟨c1, c2, c3, c4⟩ := hc hL
        subst c1 c2 c3 c4
        have rk0 : RK g a (n + 1) (tok σ s) (oFt none) (oPl none) := by rw [hL] at rk; exact rk
        have f4' : q_fI g a 7 4 = some (nI 0) := rk0.tk.2.1
        obtain ⟨tb, -⟩ := yTB hs hg j (by omega)
        obtain ⟨-, -, w1, w2, -, -⟩ := yK_word hs gd.1
        have hw := wf_le s hs
        have hnl := n_le tb
        have ev := k_val rk hn hs (k := yst σ s j) (by omega) (by rw [gd.1]; omega)
        have es := k_start rk hn (k := yst σ s j) (by omega)
        have pre : s_X7_findWrongNumber_12 z a (nI (yzL s (yTT σ s j)), nI (yzB s (yTT σ s j)), nI (yzD s (yTT σ s j)), nI (yzV s (yTT σ s j)), nI (yst σ s j), g) = j_X7_findWrongNumber_106 z g a (nI (yzL s (yTT σ s j) + cL (yV σ s (yst σ s j)))) (nI (yzB s (yTT σ s j) + cB (yV σ s (yst σ s j)))) (nI (yzD s (yTT σ s j) + cD (yV σ s (yst σ s j)))) (nI (yst σ s j)) (nI (cV (yV σ s (yst σ s j)))) (nI (yzV s (yTT σ s j))) := by
          show b_X7_findWrongNumber_12 z a _ _ _ _ (nI (yst σ s j)) g = _
          unfold b_X7_findWrongNumber_12
          rw [rk.ob, Option.bind_some, el, Option.bind_some, if_neg (show ¬ nI n ≤ nI (yst σ s j) from nI_ge (by omega) (by omega)), f4', Option.bind_some, if_pos (show nI 0 = (0 : Int32) from rfl), Option.bind_some, ev, Option.bind_some]
          exact w_turn z g a (by omega)
        have hful := n_full hs w1 w2 tb
        have hLn : yLL σ s (j + 1) = lfS (yV σ s (yst σ s j)) (bg σ (yst σ s j)) (yX σ s (yst σ s j)) (yP σ (yst σ s j)) (yTT σ s j) none := by
          show lfS _ _ _ _ _ (yLL σ s j) = _
          rw [hL]
        have hTn : yTT σ s (j + 1) = tlS (yV σ s (yst σ s j)) (yX σ s (yst σ s j)) (yTT σ s j) := rfl
        have hYn : yst σ s (j + 1) = yst σ s j + 1 + nnW (yV σ s (yst σ s j)) + 1 := rfl
        have dec : ∀ (g' : qH) (p1 p2 p3 p4 : Int32), (fun x : Int32 × Int32 × Int32 × Int32 × Int32 × qH => n - x.2.2.2.2.1.toNatClampNeg) (p1, p2, p3, p4, nI (yst σ s (j + 1)), g') < (fun x : Int32 × Int32 × Int32 × Int32 × Int32 × qH => n - x.2.2.2.2.1.toNatClampNeg) (nI (yzL s (yTT σ s j)), nI (yzB s (yTT σ s j)), nI (yzD s (yTT σ s j)), nI (yzV s (yTT σ s j)), nI (yst σ s j), g) := by
          intro g' p1 p2 p3 p4
          dsimp only
          rw [nI_cl (by omega), nI_cl (by omega)]
          omega
        have cs : ∀ w, cL w ≤ 1 ∧ cB w ≤ 1 ∧ cD w ≤ 1 ∧ cV w ≤ 1 := by
          intro w
          unfold cL cB cD cV
          refine ⟨?_, ?_, ?_, ?_⟩ <;> split <;> omega
        have cs := cs (yV σ s (yst σ s j))
        generalize eL : yzL s (yTT σ s j) + cL (yV σ s (yst σ s j)) = lN' at pre hful
        generalize eB : yzB s (yTT σ s j) + cB (yV σ s (yst σ s j)) = bN' at pre hful
        generalize eD : yzD s (yTT σ s j) + cD (yV σ s (yst σ s j)) = dN' at pre hful
        by_cases hf : fuB (yV σ s (yst σ s j)) (yTT σ s j) = true
        · have hor := hful.mp hf
          obtain ⟨g2, e2, r2, fr2⟩ := c_blame rk0 (nI 3) (nI (bg σ (yst σ s j)))
          have e2 : F_X7_blame g a (3 : Int32) (nI (bg σ (yst σ s j))) = some g2 := e2
          have eb := k_behind (z := z) r2 hn hs (t := yst σ s j) (by omega) gd.1
          have hLs : yLL σ s (j + 1) = some (3, bg σ (yst σ s j)) := by
            rw [hLn]
            unfold lfS fuL
            rw [if_pos hf]
            exact nlF_some _
          have bl : ∀ x, j_X7_findWrongNumber_134 z g a (nI lN') (nI bN') (nI dN') x (nI (yst σ s j)) = some (.inl (nI lN', nI bN', nI dN', x, nI (yst σ s (j + 1)), g2)) := by
            intro x
            unfold j_X7_findWrongNumber_134
            rw [rk.ob, Option.bind_some, es, Option.bind_some, Option.bind_some, e2, Option.bind_some, r2.ob, Option.bind_some, eb, Option.bind_some, hYn]
          refine Or.inl ⟨(nI lN', nI bN', nI dN', nI (yzV s (yTT σ s j)) + nI (cV (yV σ s (yst σ s j))), nI (yst σ s (j + 1)), g2), ?_, ⟨j + 1, by omega, rfl, by rw [hLs]; exact r2, fr.tr fr2, (fun q => by rw [hLs] at q; cases q)⟩, dec _ _ _ _ _⟩
          · rw [pre]
            unfold j_X7_findWrongNumber_106
            by_cases q1 : 20 < lN'
            · rw [if_pos (show (20 : Int32) < nI lN' from nI_lt (a := 20) q1 (by omega))]; exact bl _
            · rw [if_neg (show ¬ (20 : Int32) < nI lN' from fun p => q1 ((nI_ltI (a := 20) (by omega) (by omega)).mp p))]
              by_cases q2 : 8 < bN'
              · rw [if_pos (show (8 : Int32) < nI bN' from nI_lt (a := 8) q2 (by omega))]; exact bl _
              · rw [if_neg (show ¬ (8 : Int32) < nI bN' from fun p => q2 ((nI_ltI (a := 8) (by omega) (by omega)).mp p))]
                by_cases q3 : 40 < dN'
                · rw [if_pos (show (40 : Int32) < nI dN' from nI_lt (a := 40) q3 (by omega))]; exact bl _
                · rw [if_neg (show ¬ (40 : Int32) < nI dN' from fun p => q3 ((nI_ltI (a := 40) (by omega) (by omega)).mp p)), if_neg (show ¬ nI (yzV s (yTT σ s j)) + nI (cV (yV σ s (yst σ s j))) ≤ (12 : Int32) from fun p => by rw [nI_add] at p; have := (nI_leI (b := 12) (by omega) (by omega)).mp p; omega)]
                  exact bl _
        · have hnor : ¬ (20 < lN' ∨ 8 < bN' ∨ 40 < dN' ∨ 12 < yzV s (yTT σ s j) + cV (yV σ s (yst σ s j))) := fun q => hf (hful.mpr q)
          have hff : fuB (yV σ s (yst σ s j)) (yTT σ s j) = false := Bool.eq_false_iff.mpr hf
          obtain ⟨g2, e2, r2, fr2⟩ := c_check (z := z) hn hs gd hle rk0
          have hLs : yLL σ s (j + 1) = nlF (yV σ s (yst σ s j)) (yX σ s (yst σ s j)) (yP σ (yst σ s j)) none (nnW (yV σ s (yst σ s j))) := by
            rw [hLn]
            unfold lfS fuL
            rw [if_neg hf]
          have eb := k_behind (z := z) r2 hn hs (t := yst σ s j) (by omega) gd.1
          obtain ⟨m1', m2', m3', m4'⟩ := n_next (x := yX σ s (yst σ s j)) hs w1 w2 tb hff
          refine Or.inl ⟨(nI lN', nI bN', nI dN', nI (yzV s (yTT σ s j)) + nI (cV (yV σ s (yst σ s j))), nI (yst σ s (j + 1)), g2), ?_, ⟨j + 1, by omega, rfl, by rw [hLs]; exact r2, fr.tr fr2, fun _ => ?_⟩, dec _ _ _ _ _⟩
          · rw [pre]
            unfold j_X7_findWrongNumber_106
            rw [if_neg (show ¬ (20 : Int32) < nI lN' from fun p => by have := (nI_ltI (a := 20) (by omega) (by omega)).mp p; omega), if_neg (show ¬ (8 : Int32) < nI bN' from fun p => by have := (nI_ltI (a := 8) (by omega) (by omega)).mp p; omega), if_neg (show ¬ (40 : Int32) < nI dN' from fun p => by have := (nI_ltI (a := 40) (by omega) (by omega)).mp p; omega), if_pos (show nI (yzV s (yTT σ s j)) + nI (cV (yV σ s (yst σ s j))) ≤ (12 : Int32) from by rw [nI_add]; exact nI_le (b := 12) (by omega) (by omega)), rk.ob, Option.bind_some, e2, Option.bind_some, r2.ob, Option.bind_some, eb, Option.bind_some, hYn]
          · dsimp only
            rw [hTn, m1', m2', m3', m4', eL, eB, eD, nI_add]
            exact ⟨rfl, rfl, rfl, rfl⟩
    · have : j = m := by omega
      subst this
      refine Or.inr ⟨g, ?_, rk, fr⟩
      show b_X7_findWrongNumber_12 z a l b d e (nI (yst σ s j)) g = _
      unfold b_X7_findWrongNumber_12
      rw [rk.ob, Option.bind_some, el, Option.bind_some, if_pos (show nI n ≤ nI (yst σ s j) by rw [hst]; exact nI_le (Nat.le_refl _) (by omega))]
  · have : yzL s (blk s) = 0 ∧ yzB s (blk s) = 0 ∧ yzD s (blk s) = 0 ∧ yzV s (blk s) = 0 := by
      rcases (show s = 0 ∨ s = 1 ∨ s = 2 ∨ s = 3 by omega) with rfl | rfl | rfl | rfl <;> decide +kernel
    show (0 : Int32) = nI (yzL s (blk s)) ∧ (0 : Int32) = nI (yzB s (blk s)) ∧ (0 : Int32) = nI (yzD s (blk s)) ∧ (0 : Int32) = nI (yzV s (blk s))
    rw [this.1, this.2.1, this.2.2.1, this.2.2.2]
    exact ⟨rfl, rfl, rfl, rfl⟩
end CLT
