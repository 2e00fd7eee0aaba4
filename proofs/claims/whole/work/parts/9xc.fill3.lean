/-! ===== the call text: a book is filled ===== -/
section FIB
variable {h : qH} {a e : Nat} {σ : SG} {n m : Nat} {z : Nat → Nat} {u v : Int32} {A : Nat → Nat → Int32} {B : Nat → Nat → Int64} {I : Nat → Int32} {J : Nat → Int64} {T : Nat → Int32}
def CBk (T : Nat → Int32) (A : Nat → Nat → Int32) (I : Nat → Int32) : Prop := (I 12 = T 0 ∧ I 11 = T 1 ∧ I 13 = T 2 ∧ I 14 = T 3) ∧ (∀ l, l < cn T 0 → A 0 l = T (4 + l) ∧ A 1 l = T (24 + l) ∧ A 2 l = T (44 + l) ∧ A 3 l = T (64 + l)) ∧ (∀ i, i < cn T 1 → A 5 i = T (84 + i) ∧ A 6 i = T (92 + i)) ∧ ∀ p, p < 6 → A 7 p = T (100 + p) ∧ A 8 p = T (106 + p)
def tlB (w : Nat) (x : Nat → Nat) (T : Nat → Int32) : Nat → Int32 := if w = 0 then upd (upd (upd (upd (upd T (4 + cn T 0) (nI (x 0))) (24 + cn T 0) (nI (x 1))) (44 + cn T 0) (nI (x 2))) (64 + cn T 0) (nI (x 3))) 0 (nI (cn T 0 + 1)) else if w = 1 then upd T (100 + x 0) (nI (x 1)) else if w = 2 then upd (upd (upd T (84 + cn T 1) (nI (x 0))) (92 + cn T 1) (nI (x 1))) 1 (nI (cn T 1 + 1)) else if w = 3 then upd T (106 + x 0) (nI 1) else if w = 4 then upd T 2 (nI (x 0)) else upd T 3 (nI (x 0))
theorem tlB_ok {w : Nat} {x : Nat → Nat} (h2 : w < 6) (hf : fuB w T = false) (tb : TB 0 T) (hin : ∀ i, i < nnW w → inB w i (x i) = true) : tlS w x T = tlB w x T ∧ (w = 0 → cn T 0 < 20) ∧ (w = 2 → cn T 1 < 8) := by
  have hf := fuB_f hf
  obtain ⟨⟨-, t1⟩, -, t2⟩ := tb.1 rfl
  refine ⟨?_, fun e => by omega, fun e => by omega⟩
  rcases (show w = 0 ∨ w = 1 ∨ w = 2 ∨ w = 3 ∨ w = 4 ∨ w = 5 by omega) with rfl | rfl | rfl | rfl | rfl | rfl
  · exact if_pos (show cn T 0 < 20 by omega)
  · exact if_pos ((gdF_t 2).mpr hin)
  · exact if_pos (show cn T 1 < 8 by omega)
  · exact if_pos ((gdF_t 1).mpr hin)
  · rfl
  · rfl
theorem inK {w : Nat} {x : Nat → Nat} (hin : ∀ i, i < nnW w → inB w i (x i) = true) : (w = 0 → x 0 ≤ 19 ∧ x 1 ≤ 5 ∧ x 2 ≤ 9 ∧ x 3 ≤ 9) ∧ (w = 1 → x 0 ≤ 5 ∧ x 1 ≤ 10) ∧ (w = 2 → x 0 ≤ 19 ∧ x 1 ≤ 19) ∧ (w = 3 → x 0 ≤ 5) ∧ (w = 4 → x 0 ≤ 9) ∧ (w = 5 → 1 ≤ x 0 ∧ x 0 ≤ 9) := by
  refine ⟨fun e => ?_, fun e => ?_, fun e => ?_, fun e => ?_, fun e => ?_, fun e => ?_⟩
  · subst e; exact ⟨(inB_t.mp (hin 0 (by decide))).2, (inB_t.mp (hin 1 (by decide))).2, (inB_t.mp (hin 2 (by decide))).2, (inB_t.mp (hin 3 (by decide))).2⟩
  · subst e; exact ⟨(inB_t.mp (hin 0 (by decide))).2, (inB_t.mp (hin 1 (by decide))).2⟩
  · subst e; exact ⟨(inB_t.mp (hin 0 (by decide))).2, (inB_t.mp (hin 1 (by decide))).2⟩
  · subst e; exact (inB_t.mp (hin 0 (by decide))).2
  · subst e; exact (inB_t.mp (hin 0 (by decide))).2
  · subst e; exact inB_t.mp (hin 0 (by decide))
theorem c_clearB (o : OB h e 0 bkL A B I J) : ∃ h' A' I', F_X0_clear h e = some h' ∧ OB h' e 0 bkL A' B I' J ∧ CBk (blk 0) A' I' ∧ Fr h h' e (e + 12) := by
  obtain ⟨h1, e1, o1, r1⟩ := X0_p12 o (nI 0)
  obtain ⟨h2, e2, o2, r2⟩ := X0_p11 o1 (nI 0)
  obtain ⟨h3, e3, o3, r3⟩ := X0_p13 o2 (nI 3)
  obtain ⟨h4, e4, o4, r4⟩ := X0_p14 o3 (nI 3)
  obtain ⟨h5, e5, A5, o5, z5, f5⟩ := q_lp_idx (step := s_X0_clear_22 e) (fun i v => v.1 = nI i ∧ ∃ A', OB v.2 e 0 bkL A' B (upd (upd (upd (upd I 12 (nI 0)) 11 (nI 0)) 13 (nI 3)) 14 (nI 3)) J ∧ (∀ k, k < i → A' 7 k = nI 2 ∧ A' 8 k = nI 0) ∧ Fr h v.2 e (e + 12)) 6 (fun g => ∃ A', OB g e 0 bkL A' B (upd (upd (upd (upd I 12 (nI 0)) 11 (nI 0)) 13 (nI 3)) 14 (nI 3)) J ∧ (∀ k, k < 6 → A' 7 k = nI 2 ∧ A' 8 k = nI 0) ∧ Fr h g e (e + 12)) (by
    rintro i ⟨x, g⟩ hi ⟨hx, A', o', z', f'⟩
    dsimp only at hx o' f'
    subst hx
    obtain ⟨g2, q2, o2, r2⟩ := X0_s7 o' (i := i) (nI 2) hi
    obtain ⟨g3, q3, o3, r3⟩ := X0_s8 o2 (i := i) (nI 0) hi
    refine ⟨(nI (i + 1), g3), ?_, rfl, _, o3, fun k hk => ?_, (f'.tr r2).tr r3⟩
    · simp (disch := omega) only [s_X0_clear_22, b_X0_clear_22, nS, X0_rd o', q2, X0_rd o2, q3]
    · rw [upF_ne _ _ (show (7 : Nat) ≠ 8 by decide), upF_self, upF_self, upF_ne _ _ (show (8 : Nat) ≠ 7 by decide)]
      by_cases ek : k = i
      · subst ek
        exact ⟨pk_us, pk_us⟩
      · rw [pk_un ek, pk_un ek]
        exact z' k (by omega)) (by
    rintro ⟨x, g⟩ ⟨hx, A', o', z', f'⟩
    dsimp only at hx o' f'
    subst hx
    exact ⟨g, by simp (disch := omega) only [s_X0_clear_22, b_X0_clear_22, nS], A', o', z', f'⟩) q_N (nI 0, h4) ⟨rfl, A, o4, fun k hk => by omega, ((r1.tr r2).tr r3).tr r4⟩ (q_lt_N (by omega))
  have b1 : ∀ k, k < 6 → blk 0 (100 + k) = nI 2 ∧ blk 0 (106 + k) = nI 0 := by decide +kernel
  refine ⟨h5, A5, _, ?_, o5, ⟨⟨?_, ?_, ?_, ?_⟩, fun k hk => absurd hk (Nat.not_lt_zero _), fun k hk => absurd hk (Nat.not_lt_zero _), fun k hk => by rw [(b1 k hk).1, (b1 k hk).2]; exact z5 k hk⟩, f5⟩
  · have e1 : q_put h e 0 12 (.int (0 : Int32)) = some h1 := e1
    have e2 : q_put h1 e 0 11 (.int (0 : Int32)) = some h2 := e2
    have e3 : q_put h2 e 0 13 (.int (3 : Int32)) = some h3 := e3
    have e4 : q_put h3 e 0 14 (.int (3 : Int32)) = some h4 := e4
    have e5 : q_lp (s_X0_clear_22 e) q_N ((0 : Int32), h4) = some h5 := e5
    unfold F_X0_clear
    rw [e1, Option.bind_some, e2, Option.bind_some, e3, Option.bind_some, e4, Option.bind_some, e5, Option.bind_some]
  · simp (disch := omega) only [uS]; rfl
  · simp (disch := omega) only [uS]; rfl
  · simp (disch := omega) only [uS]; rfl
  · simp (disch := omega) only [uS]; rfl
theorem c_tellB (hn : n ≤ 600) {t : Nat} (g : yGd σ 0 t) (hle : t + 1 + nnW (yV σ 0 t) + 1 ≤ n) (hf : fuB (yV σ 0 t) T = false) (tb : TB 0 T) (hin : ∀ i, i < nnW (yV σ 0 t) → inB (yV σ 0 t) i (yX σ 0 t i) = true) (r : RK h a (n + 1) (tok σ 0) u v) (o : OB h e 0 bkL A B I J) (cw : CBk T A I) : ∃ h' A' I', F_X7_tellBook h a e (nI t) = some h' ∧ OB h' e 0 bkL A' B I' J ∧ CBk (tlS (yV σ 0 t) (yX σ 0 t) T) A' I' ∧ Fr h h' e (e + 12) := by
  obtain ⟨-, -, -, w2, -, -⟩ := yK_word (by omega) g.1
  have w2 : yV σ 0 t < 6 := w2
  have ev := k_val r hn (by omega) (k := t) (by omega) (by rw [g.1]; omega)
  have hnn : 1 ≤ nnW (yV σ 0 t) := by
    rcases (show yV σ 0 t = 0 ∨ yV σ 0 t = 1 ∨ yV σ 0 t = 2 ∨ yV σ 0 t = 3 ∨ yV σ 0 t = 4 ∨ yV σ 0 t = 5 by omega) with hw | hw | hw | hw | hw | hw <;> rw [hw] <;> decide
  have x0 := k_x r hn (by omega) g hle (i := 0) (by omega)
  have x1 := k_x r hn (by omega) g hle (i := 1) hnn
  obtain ⟨i0, i1, i2, i3, i4, i5⟩ := inK hin
  obtain ⟨eT, l20, l8⟩ := tlB_ok w2 hf tb hin
  obtain ⟨⟨t0, -⟩, t1, -⟩ := tb.1 rfl
  rw [eT]
  obtain ⟨⟨c12, c11, c13, c14⟩, c2, c3, c4⟩ := cw
  have pre : ∀ w, yV σ 0 t = w → F_X7_tellBook h a e (nI t) = (if nI w = 0 then (q_ob h a 7).bind fun u14 => (F_X7_valueAt h a (nI t + (3 : Int32))).bind fun x16 => (q_ob h a 7).bind fun u18 => (F_X7_valueAt h a (nI t + (4 : Int32))).bind fun x20 => (q_ob h e 0).bind fun u22 => (F_X0_addLine h e (nI (yX σ 0 t 0)) (nI (yX σ 0 t 1)) x16 x20).bind fun x24 => some x24 else if nI w = 1 then (q_ob h e 0).bind fun u27 => (F_X0_setDry h e (nI (yX σ 0 t 0)) (nI (yX σ 0 t 1))).bind fun x29 => some x29 else if nI w = 2 then (q_ob h e 0).bind fun u32 => (F_X0_addBack h e (nI (yX σ 0 t 0)) (nI (yX σ 0 t 1))).bind fun x34 => some x34 else if nI w = 3 then (q_ob h e 0).bind fun u37 => (F_X0_setChild h e (nI (yX σ 0 t 0))).bind fun x39 => some x39 else if nI w = 4 then (q_put h e 0 13 (.int (nI (yX σ 0 t 0)))).bind fun h42 => some h42 else if nI w = 5 then (q_put h e 0 14 (.int (nI (yX σ 0 t 0)))).bind fun h45 => some h45 else some h) := by
    intro w hw
    rw [hw] at ev
    unfold F_X7_tellBook
    rw [r.ob, Option.bind_some, n_lit 1, nI_add, show nI (t + 1) = nI (t + 1 + 0) from rfl, x0, Option.bind_some, Option.bind_some, n_lit 2, nI_add, show nI (t + 2) = nI (t + 1 + 1) from rfl, x1, Option.bind_some, Option.bind_some, ev, Option.bind_some]
  rcases (show yV σ 0 t = 0 ∨ yV σ 0 t = 1 ∨ yV σ 0 t = 2 ∨ yV σ 0 t = 3 ∨ yV σ 0 t = 4 ∨ yV σ 0 t = 5 by omega) with hw | hw | hw | hw | hw | hw
  · have hc := l20 hw
    have x2 := k_x r hn (by omega) g hle (i := 2) (by rw [hw]; decide)
    have x3 := k_x r hn (by omega) g hle (i := 3) (by rw [hw]; decide)
    rw [t0] at c12
    obtain ⟨h1, e1, o1, r1⟩ := X0_s0 o (i := cn T 0) (nI (yX σ 0 t 0)) hc
    obtain ⟨h2, e2, o2, r2⟩ := X0_s1 o1 (i := cn T 0) (nI (yX σ 0 t 1)) hc
    obtain ⟨h3, e3, o3, r3⟩ := X0_s2 o2 (i := cn T 0) (nI (yX σ 0 t 2)) hc
    obtain ⟨h4, e4, o4, r4⟩ := X0_s3 o3 (i := cn T 0) (nI (yX σ 0 t 3)) hc
    obtain ⟨h5, e5, o5, r5⟩ := X0_p12 o4 (nI (cn T 0 + 1))
    have eB : tlB (yV σ 0 t) (yX σ 0 t) T = upd (upd (upd (upd (upd T (4 + cn T 0) (nI (yX σ 0 t 0))) (24 + cn T 0) (nI (yX σ 0 t 1))) (44 + cn T 0) (nI (yX σ 0 t 2))) (64 + cn T 0) (nI (yX σ 0 t 3))) 0 (nI (cn T 0 + 1)) := by rw [hw]; rfl
    rw [eB]
    refine ⟨h5, _, _, ?_, o5, ⟨⟨?_, ?_, ?_, ?_⟩, fun l hl => ?_, fun i hi => ?_, fun p hp => ?_⟩, (((r1.tr r2).tr r3).tr r4).tr r5⟩
    · have ea : F_X0_addLine h e (nI (yX σ 0 t 0)) (nI (yX σ 0 t 1)) (nI (yX σ 0 t 2)) (nI (yX σ 0 t 3)) = some h5 := by
        simp (disch := omega) only [F_X0_addLine, nS, X0_rd o, c12, e1, X0_rd o1, e2, X0_rd o2, e3, X0_rd o3, e4, X0_rd o4, e5]
      rw [pre 0 hw, if_pos (show nI 0 = (0 : Int32) from rfl), r.ob, Option.bind_some, n_lit 3, nI_add, show nI (t + 3) = nI (t + 1 + 2) from rfl, x2, Option.bind_some, Option.bind_some, n_lit 4, nI_add, show nI (t + 4) = nI (t + 1 + 3) from rfl, x3, Option.bind_some, o.ob, Option.bind_some, ea, Option.bind_some]
    · rw [pk_us, pk_us]
    · simp (disch := omega) only [uS]; exact c11
    · simp (disch := omega) only [uS]; exact c13
    · simp (disch := omega) only [uS]; exact c14
    · rw [(cn_us (by omega)).1] at hl
      simp (disch := omega) only [upF_self, upF_ne]
      by_cases el : l = cn T 0
      · subst el
        simp (disch := omega) only [uS]
        exact ⟨trivial, trivial, trivial, trivial⟩
      · simp (disch := omega) only [uS]
        exact c2 l (by omega)
    · rw [(cn_un (by omega)).1, (cn_un (by omega)).1, (cn_un (by omega)).1, (cn_un (by omega)).1, (cn_un (by omega)).1] at hi
      have h8 : cn T 1 ≤ 8 := (tb.1 rfl).2.2
      simp (disch := omega) only [upF_ne, uS]
      exact c3 i hi
    · simp (disch := omega) only [upF_ne, uS]
      exact c4 p hp
  · obtain ⟨hx0, hx1⟩ := i1 hw
    obtain ⟨h1, e1, o1, r1⟩ := X0_s7 o (i := yX σ 0 t 0) (nI (yX σ 0 t 1)) (by omega)
    have eB : tlB (yV σ 0 t) (yX σ 0 t) T = upd T (100 + yX σ 0 t 0) (nI (yX σ 0 t 1)) := by rw [hw]; rfl
    rw [eB]
    have h20 : cn T 0 ≤ 20 := (tb.1 rfl).1.2
    have h8 : cn T 1 ≤ 8 := (tb.1 rfl).2.2
    refine ⟨h1, _, _, ?_, o1, ⟨⟨?_, ?_, ?_, ?_⟩, fun l hl => ?_, fun i hi => ?_, fun p hp => ?_⟩, r1⟩
    · have ea : F_X0_setDry h e (nI (yX σ 0 t 0)) (nI (yX σ 0 t 1)) = some h1 := by
        simp (disch := omega) only [F_X0_setDry, F_X11_isPerson, nS, X0_rd o, e1]
      rw [pre 1 hw, if_neg (show ¬ nI 1 = (0 : Int32) by decide), if_pos (show nI 1 = (1 : Int32) from rfl), o.ob, Option.bind_some, ea, Option.bind_some]
    · rw [pk_un (by omega)]; exact c12
    · rw [pk_un (by omega)]; exact c11
    · rw [pk_un (by omega)]; exact c13
    · rw [pk_un (by omega)]; exact c14
    · rw [(cn_un (by omega)).1] at hl
      simp (disch := omega) only [upF_ne, uS]
      exact c2 l hl
    · rw [(cn_un (by omega)).1] at hi
      simp (disch := omega) only [upF_ne, uS]
      exact c3 i hi
    · simp (disch := omega) only [upF_self, upF_ne]
      by_cases ep : p = yX σ 0 t 0
      · subst ep
        simp (disch := omega) only [uS]
        exact ⟨trivial, (c4 _ hp).2⟩
      · simp (disch := omega) only [uS]
        exact c4 p hp
  · have hc := l8 hw
    rw [t1] at c11
    obtain ⟨h1, e1, o1, r1⟩ := X0_s5 o (i := cn T 1) (nI (yX σ 0 t 0)) hc
    obtain ⟨h2, e2, o2, r2⟩ := X0_s6 o1 (i := cn T 1) (nI (yX σ 0 t 1)) hc
    obtain ⟨h5, e5, o5, r5⟩ := X0_p11 o2 (nI (cn T 1 + 1))
    have eB : tlB (yV σ 0 t) (yX σ 0 t) T = upd (upd (upd T (84 + cn T 1) (nI (yX σ 0 t 0))) (92 + cn T 1) (nI (yX σ 0 t 1))) 1 (nI (cn T 1 + 1)) := by rw [hw]; rfl
    rw [eB]
    have h20 : cn T 0 ≤ 20 := (tb.1 rfl).1.2
    refine ⟨h5, _, _, ?_, o5, ⟨⟨?_, ?_, ?_, ?_⟩, fun l hl => ?_, fun i hi => ?_, fun p hp => ?_⟩, (r1.tr r2).tr r5⟩
    · have ea : F_X0_addBack h e (nI (yX σ 0 t 0)) (nI (yX σ 0 t 1)) = some h5 := by
        simp (disch := omega) only [F_X0_addBack, nS, X0_rd o, c11, e1, X0_rd o1, e2, X0_rd o2, e5]
      rw [pre 2 hw, if_neg (show ¬ nI 2 = (0 : Int32) by decide), if_neg (show ¬ nI 2 = (1 : Int32) by decide), if_pos (show nI 2 = (2 : Int32) from rfl), o.ob, Option.bind_some, ea, Option.bind_some]
    · simp (disch := omega) only [uS]; exact c12
    · rw [pk_us, pk_us]
    · simp (disch := omega) only [uS]; exact c13
    · simp (disch := omega) only [uS]; exact c14
    · rw [(cn_un (by omega)).1, (cn_un (by omega)).1, (cn_un (by omega)).1] at hl
      simp (disch := omega) only [upF_ne, uS]
      exact c2 l hl
    · rw [(cn_us (by omega)).1] at hi
      simp (disch := omega) only [upF_self, upF_ne]
      by_cases el : i = cn T 1
      · subst el
        simp (disch := omega) only [uS]
        exact ⟨trivial, trivial⟩
      · simp (disch := omega) only [uS]
        exact c3 i (by omega)
    · simp (disch := omega) only [upF_ne, uS]
      exact c4 p hp
  · have hx0 := i3 hw
    obtain ⟨h1, e1, o1, r1⟩ := X0_s8 o (i := yX σ 0 t 0) (nI 1) (by omega)
    have eB : tlB (yV σ 0 t) (yX σ 0 t) T = upd T (106 + yX σ 0 t 0) (nI 1) := by rw [hw]; rfl
    rw [eB]
    have h20 : cn T 0 ≤ 20 := (tb.1 rfl).1.2
    have h8 : cn T 1 ≤ 8 := (tb.1 rfl).2.2
    refine ⟨h1, _, _, ?_, o1, ⟨⟨?_, ?_, ?_, ?_⟩, fun l hl => ?_, fun i hi => ?_, fun p hp => ?_⟩, r1⟩
    · have ea : F_X0_setChild h e (nI (yX σ 0 t 0)) = some h1 := by
        simp (disch := omega) only [F_X0_setChild, F_X11_isPerson, nS, X0_rd o, e1]
      rw [pre 3 hw, if_neg (show ¬ nI 3 = (0 : Int32) by decide), if_neg (show ¬ nI 3 = (1 : Int32) by decide), if_neg (show ¬ nI 3 = (2 : Int32) by decide), if_pos (show nI 3 = (3 : Int32) from rfl), o.ob, Option.bind_some, ea, Option.bind_some]
    · rw [pk_un (by omega)]; exact c12
    · rw [pk_un (by omega)]; exact c11
    · rw [pk_un (by omega)]; exact c13
    · rw [pk_un (by omega)]; exact c14
    · rw [(cn_un (by omega)).1] at hl
      simp (disch := omega) only [upF_ne, uS]
      exact c2 l hl
    · rw [(cn_un (by omega)).1] at hi
      simp (disch := omega) only [upF_ne, uS]
      exact c3 i hi
    · simp (disch := omega) only [upF_self, upF_ne]
      by_cases ep : p = yX σ 0 t 0
      · subst ep
        simp (disch := omega) only [uS]
        exact ⟨(c4 _ hp).1, trivial⟩
      · simp (disch := omega) only [uS]
        exact c4 p hp
  · obtain ⟨h1, e1, o1, r1⟩ := X0_p13 o (nI (yX σ 0 t 0))
    have eB : tlB (yV σ 0 t) (yX σ 0 t) T = upd T 2 (nI (yX σ 0 t 0)) := by rw [hw]; rfl
    rw [eB]
    refine ⟨h1, _, _, ?_, o1, ⟨⟨?_, ?_, ?_, ?_⟩, fun l hl => ?_, fun i hi => ?_, fun p hp => ?_⟩, r1⟩
    · rw [pre 4 hw, if_neg (show ¬ nI 4 = (0 : Int32) by decide), if_neg (show ¬ nI 4 = (1 : Int32) by decide), if_neg (show ¬ nI 4 = (2 : Int32) by decide), if_neg (show ¬ nI 4 = (3 : Int32) by decide), if_pos (show nI 4 = (4 : Int32) from rfl), e1, Option.bind_some]
    · simp (disch := omega) only [uS]; exact c12
    · simp (disch := omega) only [uS]; exact c11
    · rw [pk_us, pk_us]
    · simp (disch := omega) only [uS]; exact c14
    · rw [(cn_un (by omega)).1] at hl
      simp (disch := omega) only [uS]
      exact c2 l hl
    · rw [(cn_un (by omega)).1] at hi
      simp (disch := omega) only [uS]
      exact c3 i hi
    · simp (disch := omega) only [uS]
      exact c4 p hp
  · obtain ⟨h1, e1, o1, r1⟩ := X0_p14 o (nI (yX σ 0 t 0))
    have eB : tlB (yV σ 0 t) (yX σ 0 t) T = upd T 3 (nI (yX σ 0 t 0)) := by rw [hw]; rfl
    rw [eB]
    refine ⟨h1, _, _, ?_, o1, ⟨⟨?_, ?_, ?_, ?_⟩, fun l hl => ?_, fun i hi => ?_, fun p hp => ?_⟩, r1⟩
    · rw [pre 5 hw, if_neg (show ¬ nI 5 = (0 : Int32) by decide), if_neg (show ¬ nI 5 = (1 : Int32) by decide), if_neg (show ¬ nI 5 = (2 : Int32) by decide), if_neg (show ¬ nI 5 = (3 : Int32) by decide), if_neg (show ¬ nI 5 = (4 : Int32) by decide), if_pos (show nI 5 = (5 : Int32) from rfl), e1, Option.bind_some]
    · simp (disch := omega) only [uS]; exact c12
    · simp (disch := omega) only [uS]; exact c11
    · simp (disch := omega) only [uS]; exact c13
    · rw [pk_us, pk_us]
    · rw [(cn_un (by omega)).1] at hl
      simp (disch := omega) only [uS]
      exact c2 l hl
    · rw [(cn_un (by omega)).1] at hi
      simp (disch := omega) only [uS]
      exact c3 i hi
    · simp (disch := omega) only [uS]
      exact c4 p hp
end FIB
