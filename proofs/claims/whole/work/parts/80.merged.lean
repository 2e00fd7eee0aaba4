/-! ===== call: merged ===== -/
theorem c_merge {h : qH} {a b b' n : Nat} {m m' : MB} {A : Nat → Nat → Int32} {B : Nat → Nat → Int64} {I : Nat → Int32} {J : Nat → Int64} (o : OB h a 4 mgL A B I J) (c : CB h b m) (hd : b + 12 ≤ a ∨ a + 5 ≤ b) (c' : CB h b' m') (hd' : b' + 12 ≤ a ∨ a + 5 ≤ b') (hn : n ≤ 12) : ∃ h' A' I', F_X4_merge h a b b' (nI n) = some h' ∧ OB h' a 4 mgL A' B I' J ∧ Fr h h' a (a + 5) ∧ I' 4 = nI (pl m n (st0 m)) ∧ I' 5 = nI (pl m' n (st0 m')) ∧ I' 6 = nI (S2 (wr m) (wr m') (pl m n (st0 m)) (pl m' n (st0 m')) 0 0) ∧ ∀ s, s < S2 (wr m) (wr m') (pl m n (st0 m)) (pl m' n (st0 m')) 0 0 → A' 3 s = nI (vlu (wr m) (wr m') (pl m n (st0 m)) (pl m' n (st0 m')) (wlk (wr m) (wr m') (pl m n (st0 m)) (pl m' n (st0 m')) s)) := by
  have hp := pl_le m n (st0 m)
  have hq := pl_le m' n (st0 m')
  obtain ⟨h1, A1, e1, o1, r1, n1, z1⟩ := c_fill o c hd (r := 0) (by omega) hn
  obtain ⟨h2, e2, o2, r2⟩ := X4_p4 o1 (nI (pl m n (st0 m)))
  obtain ⟨h3, A3, e3, o3, r3, n3, z3⟩ := c_fill o2 (c'.kept (fun q q1 q2 => (r1.tr r2) q (by omega))) hd' (r := 1) (by omega) hn
  obtain ⟨h4, e4, o4, r4⟩ := X4_p5 o3 (nI (pl m' n (st0 m')))
  have g : MGR A3 (upd (upd I 4 (nI (pl m n (st0 m)))) 5 (nI (pl m' n (st0 m')))) (wr m) (wr m') (pl m n (st0 m)) (pl m' n (st0 m')) := by
    refine ⟨by omega, by omega, rfl, rfl, fun i hi => ⟨by rw [n3 0 (by decide)]; exact z1 i hi, ?_⟩, fun j hj => ⟨z3 j hj, ?_⟩⟩
    · obtain ⟨l, -, -, q3, q4⟩ := wr_lt c.1 hi
      rw [q3]; exact q4
    · obtain ⟨l, -, -, q3, q4⟩ := wr_lt c'.1 hj
      rw [q3]; exact q4
  obtain ⟨h5, e5, A5, o5, r5, n5, t5⟩ := m_outer o4 g
  have g5 := g.cg (A' := A5) (n5 0 (by decide)) (n5 1 (by decide)) rfl rfl
  obtain ⟨h6, A6, I6, e6, o6, r6, i4, i5, i6, z6⟩ := m_row o5 g5 t5
  refine ⟨h6, A6, I6, ?_, o6, ((((r1.tr r2).tr r3).tr r4).tr r5).tr r6, i4, i5, i6, z6⟩
  have e1 : F_X4_fillByNext h b (a + 1) (nI n) = some (nI (pl m n (st0 m)), h1) := e1
  have e3 : F_X4_fillByNext h2 b' (a + 2) (nI n) = some (nI (pl m' n (st0 m')), h3) := e3
  have i4' : upd (upd I 4 (nI (pl m n (st0 m)))) 5 (nI (pl m' n (st0 m'))) 4 = nI (pl m n (st0 m)) := rfl
  simp (disch := omega) only [F_X4_merge, nS, X4_rd o, e1, e2, X4_rd o2, e3, e4, X4_rd o4, i4', e5, o5.ob, e6]
/-! the reference -/
def MDR (A : Nat → Nat → Int32) (I : Nat → Int32) (u v : Nat → Nat) (p q : Nat) : Prop := p ≤ 12 ∧ q ≤ 12 ∧ I 36 = nI p ∧ I 37 = nI q ∧ (∀ i, i < p → A 34 i = nI (u i) ∧ u i < 6) ∧ ∀ j, j < q → A 35 j = nI (v j) ∧ v j < 6
theorem MDR.cg {A A' : Nat → Nat → Int32} {I : Nat → Int32} {u v : Nat → Nat} {p q : Nat} (g : MDR A I u v p q) (h0 : A' 34 = A 34) (h1 : A' 35 = A 35) : MDR A' I u v p q := by
  unfold MDR at *
  rw [h0, h1]
  exact g
section MD
variable {h : qH} {a : Nat} {A : Nat → Nat → Int32} {B : Nat → Nat → Int64} {I : Nat → Int32} {J : Nat → Int64} {u v : Nat → Nat} {p q : Nat}
theorem d_cell (o : OB h a 12 mdL A B I J) (g : MDR A I u v p q) {i j : Nat} (hi : i ≤ p) (hj : j ≤ q) (t : TBL (A 38) u v p q (fun i' j' => i < i' ∨ (i' = i ∧ j < j'))) : ∃ h', b_X12_findShortest_14 a (nI i) (nI j) h = some (.inl (nI j + m1, h')) ∧ OB h' a 12 mdL (upF A 38 (upd (A 38) (13 * i + j) (nI (S2 u v p q i j)))) B I J ∧ Fr h h' a (a + 27) := by
  obtain ⟨g1, g2, g3, g4, g5, g6⟩ := g
  obtain ⟨h1, e1, o1, r1⟩ := X12_s38 o (i := 13 * i + j) (nI (S2 u v p q i j)) (by omega)
  refine ⟨h1, ?_, o1, r1⟩
  rcases Nat.lt_or_ge i p with h1 | h1
  · rcases Nat.lt_or_ge j q with h2 | h2
    · have b0 := S2_le (u := u) (v := v) (p := p) (q := q) _ (i + 1) (j + 1) (Nat.le_refl _) (by omega) (by omega)
      have b1 := S2_le (u := u) (v := v) (p := p) (q := q) _ (i + 1) j (Nat.le_refl _) (by omega) (by omega)
      have b2 := S2_le (u := u) (v := v) (p := p) (q := q) _ i (j + 1) (Nat.le_refl _) (by omega) (by omega)
      rw [S2_r h1 h2] at e1
      have a1 := g5 i h1
      have a2 := g6 j h2
      by_cases hs : u i = v j
      · have t1 := t (i + 1) (j + 1) (by omega) (by omega) (Or.inl (by omega))
        rw [show 13 * (i + 1) + (j + 1) = 13 * i + j + 14 by omega] at t1
        rw [if_pos hs] at e1
        simp (disch := omega) only [b_X12_findShortest_14, j_X12_findShortest_55, j_X12_findShortest_129, j_X12_findShortest_130, nS, X12_rd o, g3, g4, a1.1, a2.1, t1, e1]
      · have t1 := t (i + 1) j (by omega) (by omega) (Or.inl (by omega))
        have t2 := t i (j + 1) (by omega) (by omega) (Or.inr ⟨rfl, by omega⟩)
        rw [show 13 * (i + 1) + j = 13 * i + j + 13 by omega] at t1
        rw [← Nat.add_assoc] at t2
        rw [if_neg hs] at e1
        rcases Nat.lt_or_ge (S2 u v p q (i + 1) j) (S2 u v p q i (j + 1)) with h3 | h3
        · rw [Nat.min_eq_left (by omega)] at e1
          simp (disch := omega) only [b_X12_findShortest_14, j_X12_findShortest_55, j_X12_findShortest_129, j_X12_findShortest_130, F_X12_lesser, nS, X12_rd o, g3, g4, a1.1, a2.1, t1, t2, e1]
        · rw [Nat.min_eq_right (by omega)] at e1
          simp (disch := omega) only [b_X12_findShortest_14, j_X12_findShortest_55, j_X12_findShortest_129, j_X12_findShortest_130, F_X12_lesser, nS, X12_rd o, g3, g4, a1.1, a2.1, t1, t2, e1]
    · have : j = q := by omega
      subst this
      rw [S2_q h1] at e1
      simp (disch := omega) only [b_X12_findShortest_14, j_X12_findShortest_55, j_X12_findShortest_130, nS, X12_rd o, g3, g4, e1]
  · have : i = p := by omega
    subst this
    rw [S2_p] at e1
    simp (disch := omega) only [b_X12_findShortest_14, j_X12_findShortest_55, j_X12_findShortest_130, nS, X12_rd o, g3, g4, e1]
theorem d_inner (o : OB h a 12 mdL A B I J) (g : MDR A I u v p q) {i : Nat} (hi : i ≤ p) (t : TBL (A 38) u v p q (fun i' _ => i < i')) : ∃ h', q_lp (s_X12_findShortest_14 a (nI i)) q_N (nI q, h) = some h' ∧ ∃ A', OB h' a 12 mdL A' B I J ∧ Fr h h' a (a + 27) ∧ On [38] A A' ∧ TBL (A' 38) u v p q (fun i' _ => i ≤ i') := by
  have hp := g.1
  have hq := g.2.1
  rw [← dI_0 q]
  refine q_lp_idx (fun t s => s.1 = dI q t ∧ ∃ A', OB s.2 a 12 mdL A' B I J ∧ Fr h s.2 a (a + 27) ∧ On [38] A A' ∧ TBL (A' 38) u v p q (fun i' j' => i < i' ∨ (i' = i ∧ q < j' + t))) (q + 1) _ ?_ ?_ q_N (dI q 0, h) ⟨rfl, A, o, Fr.rf, On.rf, fun i' j' h1 h2 h3 => t i' j' h1 h2 (by omega)⟩ (q_lt_N (by omega))
  · rintro k ⟨x1, hh⟩ hk ⟨hx1, A', o', r', n', t'⟩
    dsimp only at hx1 o' r'
    rw [dI_in (by omega)] at hx1
    subst hx1
    have g' := g.cg (A' := A') (n' 34 (by decide)) (n' 35 (by decide))
    obtain ⟨h5, e5, o5, r5⟩ := d_cell o' g' hi (j := q - k) (by omega) (fun i' j' h1 h2 h3 => t' i' j' h1 h2 (by omega))
    refine ⟨(dI q (k + 1), h5), ?_, rfl, _, o5, r'.tr r5, n'.tr (On.up (by decide)), ?_⟩
    · rw [dI_go (show k ≤ q by omega)] at e5
      exact e5
    · rw [upF_self]
      exact t'.up (by omega) hq (fun i' j' h1 h2 h3 => by omega)
  · rintro ⟨x1, hh⟩ ⟨hx1, A', o', r', n', t'⟩
    dsimp only at hx1 o' r'
    rw [dI_end] at hx1
    subst hx1
    refine ⟨hh, ?_, A', o', r', n', fun i' j' h1 h2 h3 => t' i' j' h1 h2 (by omega)⟩
    simp (disch := omega) only [s_X12_findShortest_14, b_X12_findShortest_14, nS]
theorem d_short (o : OB h a 12 mdL A B I J) (g : MDR A I u v p q) : ∃ h' A', F_X12_findShortest h a = some h' ∧ OB h' a 12 mdL A' B I J ∧ Fr h h' a (a + 27) ∧ On [38] A A' ∧ TBL (A' 38) u v p q (fun _ _ => True) := by
  have hp := g.1
  have hq := g.2.1
  have lp : ∃ h', q_lp (s_X12_findShortest_5 a) q_N (nI p, h) = some h' ∧ ∃ A', OB h' a 12 mdL A' B I J ∧ Fr h h' a (a + 27) ∧ On [38] A A' ∧ TBL (A' 38) u v p q (fun _ _ => True) := by
    rw [← dI_0 p]
    refine q_lp_idx (fun t s => s.1 = dI p t ∧ ∃ A', OB s.2 a 12 mdL A' B I J ∧ Fr h s.2 a (a + 27) ∧ On [38] A A' ∧ TBL (A' 38) u v p q (fun i' _ => p < i' + t)) (p + 1) _ ?_ ?_ q_N (dI p 0, h) ⟨rfl, A, o, Fr.rf, On.rf, fun i' j' h1 h2 h3 => by omega⟩ (q_lt_N (by omega))
    · rintro k ⟨x1, hh⟩ hk ⟨hx1, A', o', r', n', t'⟩
      dsimp only at hx1 o' r'
      rw [dI_in (by omega)] at hx1
      subst hx1
      have g' := g.cg (A' := A') (n' 34 (by decide)) (n' 35 (by decide))
      obtain ⟨h5, e5, A5, o5, r5, n5, t5⟩ := d_inner o' g' (i := p - k) (by omega) (fun i' j' h1 h2 h3 => t' i' j' h1 h2 (by omega))
      refine ⟨(dI p (k + 1), h5), ?_, rfl, A5, o5, r'.tr r5, n'.tr n5, fun i' j' h1 h2 h3 => t5 i' j' h1 h2 (by omega)⟩
      simp (disch := omega) only [s_X12_findShortest_5, b_X12_findShortest_5, nS, X12_rd o', g.2.2.2.1, e5, dI_go (show k ≤ p by omega)]
    · rintro ⟨x1, hh⟩ ⟨hx1, A', o', r', n', t'⟩
      dsimp only at hx1 o' r'
      rw [dI_end] at hx1
      subst hx1
      refine ⟨hh, ?_, A', o', r', n', fun i' j' h1 h2 h3 => t' i' j' h1 h2 (by omega)⟩
      simp (disch := omega) only [s_X12_findShortest_5, b_X12_findShortest_5, nS]
  obtain ⟨h', e', A', o', r', n', t'⟩ := lp
  refine ⟨h', A', ?_, o', r', n', t'⟩
  simp (disch := omega) only [F_X12_findShortest, nS, X12_rd o, g.2.2.1, e']
/-- one turn of the reference -/
theorem d_turn (o : OB h a 12 mdL A B I J) (g : MDR A I u v p q) (t : TBL (A 38) u v p q (fun _ _ => True)) {i j s k : Nat} (hi : i ≤ p) (hj : j ≤ q) (h0 : i < p ∨ j < q) (hs : s ≤ k) (hk : k < 30) (w : Int32) : s_X12_mergedAt_10 h a (nI k) (nI i, nI j, w, nI s) = some (.inl (nI (stp u v p q (i, j)).1, nI (stp u v p q (i, j)).2, nI (vlu u v p q (i, j)), nI (s + 1))) := by
  obtain ⟨g1, g2, g3, g4, g5, g6⟩ := g
  rcases Nat.lt_or_ge i p with h1 | h1
  · have a1 := g5 i h1
    rcases Nat.lt_or_ge j q with h2 | h2
    · have a2 := g6 j h2
      have b1 := S2_le (u := u) (v := v) (p := p) (q := q) _ (i + 1) j (Nat.le_refl _) (by omega) (by omega)
      have b2 := S2_le (u := u) (v := v) (p := p) (q := q) _ i (j + 1) (Nat.le_refl _) (by omega) (by omega)
      by_cases hs2 : u i = v j
      · have q1 : shr u v p q (i, j) = true := by simp [shr, h1, h2, hs2]
        have q2 := fon_sh q1
        have ev : vlu u v p q (i, j) = u i := by simp [vlu, q2]
        rw [ev]
        simp (disch := omega) only [s_X12_mergedAt_10, b_X12_mergedAt_10, nS, X12_rd o, g3, g4, a1.1, a2.1]
        simp (disch := omega) only [j_X12_mergedAt_51, j_X12_mergedAt_52, nS, X12_rd o, g3, g4, a1.1, a2.1]
        simp (disch := omega) only [j_X12_mergedAt_97, j_X12_mergedAt_101, j_X12_mergedAt_102, nS, X12_rd o, g3, g4, a1.1, a2.1]
        simp (disch := omega) only [j_X12_mergedAt_146, j_X12_mergedAt_150, j_X12_mergedAt_151, nS, X12_rd o, g3, g4, a1.1, a2.1]
        simp (disch := omega) only [j_X12_mergedAt_178, j_X12_mergedAt_182, j_X12_mergedAt_183, nS, X12_rd o, g3, g4, a1.1, a2.1]
        simp (disch := omega) only [j_X12_mergedAt_205, nS, X12_rd o, g3, g4, a1.1, a2.1]
        simp (disch := omega) only [j_X12_mergedAt_218, j_X12_mergedAt_223, nS, X12_rd o, g3, g4, a1.1, a2.1, stp, q1, q2, Bool.true_or]
      · have q1 : shr u v p q (i, j) = false := by simp [shr, h1, h2, hs2]
        have t0 := t i j (by omega) (by omega) trivial
        have t1 := t (i + 1) j (by omega) (by omega) trivial
        have t2 := t i (j + 1) (by omega) (by omega) trivial
        rw [S2_r h1 h2, if_neg hs2] at t0
        rw [show 13 * (i + 1) + j = 13 * i + j + 13 by omega] at t1
        rw [← Nat.add_assoc] at t2
        by_cases hc : S2 u v p q (i + 1) j < S2 u v p q i (j + 1) ∨ (S2 u v p q (i + 1) j = S2 u v p q i (j + 1) ∧ u i < v j)
        · have q2 : fon u v p q (i, j) = true := by
            unfold fon
            rw [q1, if_neg (by dsimp only; omega), decide_eq_true (by exact hc)]
            rfl
          have ev : vlu u v p q (i, j) = u i := by simp [vlu, q2]
          rw [ev]
          rw [Nat.min_eq_left (by omega)] at t0
          rcases hc with hc | ⟨hc, hc2⟩
          · simp (disch := omega) only [s_X12_mergedAt_10, b_X12_mergedAt_10, nS, X12_rd o, g3, g4, a1.1, a2.1, t0, t1, t2]
            simp (disch := omega) only [j_X12_mergedAt_51, j_X12_mergedAt_52, nS, X12_rd o, g3, g4, a1.1, a2.1, t0, t1, t2]
            simp (disch := omega) only [j_X12_mergedAt_97, j_X12_mergedAt_101, j_X12_mergedAt_102, nS, X12_rd o, g3, g4, a1.1, a2.1, t0, t1, t2]
            simp (disch := omega) only [j_X12_mergedAt_146, j_X12_mergedAt_150, j_X12_mergedAt_151, nS, X12_rd o, g3, g4, a1.1, a2.1, t0, t1, t2]
            simp (disch := omega) only [j_X12_mergedAt_178, j_X12_mergedAt_182, j_X12_mergedAt_183, nS, X12_rd o, g3, g4, a1.1, a2.1, t0, t1, t2]
            simp (disch := omega) only [j_X12_mergedAt_205, nS, X12_rd o, g3, g4, a1.1, a2.1, t0, t1, t2]
            simp (disch := omega) only [j_X12_mergedAt_218, j_X12_mergedAt_223, nS, X12_rd o, g3, g4, a1.1, a2.1, t0, t1, t2, stp, q1, q2, Bool.false_or, Bool.not_true, Bool.false_eq_true]
          · simp (disch := omega) only [s_X12_mergedAt_10, b_X12_mergedAt_10, nS, X12_rd o, g3, g4, a1.1, a2.1, t0, t1, t2]
            simp (disch := omega) only [j_X12_mergedAt_51, j_X12_mergedAt_52, nS, X12_rd o, g3, g4, a1.1, a2.1, t0, t1, t2]
            simp (disch := omega) only [j_X12_mergedAt_97, j_X12_mergedAt_101, j_X12_mergedAt_102, nS, X12_rd o, g3, g4, a1.1, a2.1, t0, t1, t2]
            simp (disch := omega) only [j_X12_mergedAt_146, j_X12_mergedAt_150, j_X12_mergedAt_151, nS, X12_rd o, g3, g4, a1.1, a2.1, t0, t1, t2]
            simp (disch := omega) only [j_X12_mergedAt_178, j_X12_mergedAt_182, j_X12_mergedAt_183, nS, X12_rd o, g3, g4, a1.1, a2.1, t0, t1, t2]
            simp (disch := omega) only [j_X12_mergedAt_205, nS, X12_rd o, g3, g4, a1.1, a2.1, t0, t1, t2]
            simp (disch := omega) only [j_X12_mergedAt_218, j_X12_mergedAt_223, nS, X12_rd o, g3, g4, a1.1, a2.1, t0, t1, t2, stp, q1, q2, Bool.false_or, Bool.not_true, Bool.false_eq_true]
        · have q2 : fon u v p q (i, j) = false := by
            unfold fon
            rw [q1, if_neg (by dsimp only; omega), decide_eq_false (by exact hc)]
            rfl
          have ev : vlu u v p q (i, j) = v j := by simp [vlu, q2]
          rw [ev]
          rw [Nat.min_eq_right (by omega)] at t0
          rcases Nat.lt_or_ge (S2 u v p q i (j + 1)) (S2 u v p q (i + 1) j) with h3 | h3
          · simp (disch := omega) only [s_X12_mergedAt_10, b_X12_mergedAt_10, nS, X12_rd o, g3, g4, a1.1, a2.1, t0, t1, t2]
            simp (disch := omega) only [j_X12_mergedAt_51, j_X12_mergedAt_52, nS, X12_rd o, g3, g4, a1.1, a2.1, t0, t1, t2]
            simp (disch := omega) only [j_X12_mergedAt_97, j_X12_mergedAt_101, j_X12_mergedAt_102, nS, X12_rd o, g3, g4, a1.1, a2.1, t0, t1, t2]
            simp (disch := omega) only [j_X12_mergedAt_146, j_X12_mergedAt_150, j_X12_mergedAt_151, nS, X12_rd o, g3, g4, a1.1, a2.1, t0, t1, t2]
            simp (disch := omega) only [j_X12_mergedAt_178, j_X12_mergedAt_182, j_X12_mergedAt_183, nS, X12_rd o, g3, g4, a1.1, a2.1, t0, t1, t2]
            simp (disch := omega) only [j_X12_mergedAt_205, nS, X12_rd o, g3, g4, a1.1, a2.1, t0, t1, t2]
            simp (disch := omega) only [j_X12_mergedAt_218, j_X12_mergedAt_223, nS, X12_rd o, g3, g4, a1.1, a2.1, t0, t1, t2, stp, q1, q2, Bool.false_or, Bool.not_false, Bool.false_eq_true]
          · simp (disch := omega) only [s_X12_mergedAt_10, b_X12_mergedAt_10, nS, X12_rd o, g3, g4, a1.1, a2.1, t0, t1, t2]
            simp (disch := omega) only [j_X12_mergedAt_51, j_X12_mergedAt_52, nS, X12_rd o, g3, g4, a1.1, a2.1, t0, t1, t2]
            simp (disch := omega) only [j_X12_mergedAt_97, j_X12_mergedAt_101, j_X12_mergedAt_102, nS, X12_rd o, g3, g4, a1.1, a2.1, t0, t1, t2]
            simp (disch := omega) only [j_X12_mergedAt_146, j_X12_mergedAt_150, j_X12_mergedAt_151, nS, X12_rd o, g3, g4, a1.1, a2.1, t0, t1, t2]
            simp (disch := omega) only [j_X12_mergedAt_178, j_X12_mergedAt_182, j_X12_mergedAt_183, nS, X12_rd o, g3, g4, a1.1, a2.1, t0, t1, t2]
            simp (disch := omega) only [j_X12_mergedAt_205, nS, X12_rd o, g3, g4, a1.1, a2.1, t0, t1, t2]
            simp (disch := omega) only [j_X12_mergedAt_218, j_X12_mergedAt_223, nS, X12_rd o, g3, g4, a1.1, a2.1, t0, t1, t2, stp, q1, q2, Bool.false_or, Bool.not_false, Bool.false_eq_true]
    · have hjq : j = q := by omega
      subst hjq
      have q1 : shr u v p j (i, j) = false := by simp [shr]
      have q2 : fon u v p j (i, j) = true := by simp [fon, q1, h1]
      have ev : vlu u v p j (i, j) = u i := by simp [vlu, q2]
      have t0 := t i j (by omega) (by omega) trivial
      have t1 := t (i + 1) j (by omega) (by omega) trivial
      rw [show 13 * (i + 1) + j = 13 * i + j + 13 by omega] at t1
      rw [S2_q h1] at t0
      have t1' : A 38 (13 * i + j + 13) = nI (p - i - 1) := by
        rw [t1]
        rcases Nat.lt_or_ge (i + 1) p with h3 | h3
        · rw [S2_q h3, Nat.sub_sub]
        · rw [show i + 1 = p by omega, S2_p, Nat.sub_self, show p - i - 1 = 0 by omega]
      rw [ev]
      simp (disch := omega) only [s_X12_mergedAt_10, b_X12_mergedAt_10, nS, X12_rd o, g3, g4, a1.1, t0, t1']
      simp (disch := omega) only [j_X12_mergedAt_51, j_X12_mergedAt_52, nS, X12_rd o, g3, g4, a1.1, t0, t1']
      simp (disch := omega) only [j_X12_mergedAt_97, j_X12_mergedAt_101, j_X12_mergedAt_102, nS, X12_rd o, g3, g4, a1.1, t0, t1']
      simp (disch := omega) only [j_X12_mergedAt_146, j_X12_mergedAt_150, j_X12_mergedAt_151, nS, X12_rd o, g3, g4, a1.1, t0, t1']
      simp (disch := omega) only [j_X12_mergedAt_178, j_X12_mergedAt_182, j_X12_mergedAt_183, nS, X12_rd o, g3, g4, a1.1, t0, t1']
      simp (disch := omega) only [j_X12_mergedAt_205, nS, X12_rd o, g3, g4, a1.1, t0, t1']
      simp (disch := omega) only [j_X12_mergedAt_218, j_X12_mergedAt_223, nS, X12_rd o, g3, g4, a1.1, t0, t1', stp, q1, q2, Bool.false_or, Bool.not_true, Bool.false_eq_true]
  · have hip : i = p := by omega
    subst hip
    have h2 : j < q := by omega
    have a2 := g6 j h2
    have q1 : shr u v i q (i, j) = false := by simp [shr]
    have q2 : fon u v i q (i, j) = false := by simp [fon, q1]
    have ev : vlu u v i q (i, j) = v j := by simp [vlu, q2]
    have t0 := t i j (by omega) (by omega) trivial
    have t2 := t i (j + 1) (by omega) (by omega) trivial
    rw [S2_p] at t0 t2
    rw [← Nat.add_assoc] at t2
    rw [ev]
    simp (disch := omega) only [s_X12_mergedAt_10, b_X12_mergedAt_10, nS, X12_rd o, g3, g4, a2.1, t0, t2]
    simp (disch := omega) only [j_X12_mergedAt_51, j_X12_mergedAt_52, nS, X12_rd o, g3, g4, a2.1, t0, t2]
    simp (disch := omega) only [j_X12_mergedAt_97, j_X12_mergedAt_101, j_X12_mergedAt_102, nS, X12_rd o, g3, g4, a2.1, t0, t2]
    simp (disch := omega) only [j_X12_mergedAt_146, j_X12_mergedAt_150, j_X12_mergedAt_151, nS, X12_rd o, g3, g4, a2.1, t0, t2]
    simp (disch := omega) only [j_X12_mergedAt_178, j_X12_mergedAt_182, j_X12_mergedAt_183, nS, X12_rd o, g3, g4, a2.1, t0, t2]
    simp (disch := omega) only [j_X12_mergedAt_205, nS, X12_rd o, g3, g4, a2.1, t0, t2]
    simp (disch := omega) only [j_X12_mergedAt_218, j_X12_mergedAt_223, nS, X12_rd o, g3, g4, a2.1, t0, t2, stp, q1, q2, Bool.false_or, Bool.not_false, Bool.false_eq_true]
theorem d_mergedAt (o : OB h a 12 mdL A B I J) (g : MDR A I u v p q) (t : TBL (A 38) u v p q (fun _ _ => True)) {k : Nat} (hk : k < S2 u v p q 0 0) : F_X12_mergedAt h a (nI k) = some (nI (vlu u v p q (wlk u v p q k))) := by
  have hp := g.1
  have hq := g.2.1
  have hS := S2_le (u := u) (v := v) (p := p) (q := q) _ 0 0 (Nat.le_refl _) (by omega) (by omega)
  have lp : q_lp (s_X12_mergedAt_10 h a (nI k)) q_N (nI 0, nI 0, m1, nI 0) = some (nI (vlu u v p q (wlk u v p q k))) := by
    refine q_lp_for (fun s => (nI (wlk u v p q s).1, nI (wlk u v p q s).2, (if s = 0 then m1 else nI (vlu u v p q (wlk u v p q (s - 1)))), nI s)) (k + 1) (fun s hs => ?_) ?_ q_N (q_lt_N (by omega))
    · obtain ⟨w1, w2, w3⟩ := wlk_S (u := u) (v := v) (p := p) (q := q) s (by omega)
      have hz := S2_0 (u := u) (v := v) (p := p) (q := q) _ (wlk u v p q s).1 (wlk u v p q s).2 (Nat.le_refl _) w1 w2
      have := d_turn o g t w1 w2 (by omega) (s := s) (k := k) (by omega) (by omega) (if s = 0 then m1 else nI (vlu u v p q (wlk u v p q (s - 1))))
      rw [this, if_neg (show ¬ s + 1 = 0 by omega), Nat.add_sub_cancel]
      rfl
    · rw [if_neg (show ¬ k + 1 = 0 by omega), Nat.add_sub_cancel]
      simp (disch := omega) only [s_X12_mergedAt_10, b_X12_mergedAt_10, nS]
  simp (disch := omega) only [F_X12_mergedAt, nS, lp]
end MD
