/-! ===== the call text: what is told of but missing; the class's reading, whole ===== -/
section CLU
variable {h : qH} {a t : Nat} {σ : SG} {s n m : Nat} {z : Nat → Nat} {u v : Int32}
theorem yLL_none {σ : SG} {s m : Nat} (hL : yLL σ s m = none) : ∀ j, j ≤ m → yLL σ s j = none := by
  intro j hj
  cases h : yLL σ s j with
  | none => rfl
  | some q => rw [yLL_keep h m hj] at hL; cases hL
theorem yLL_st {σ : SG} {s m : Nat} (hL : yLL σ s m = none) {j : Nat} (hj : j < m) : fuB (yV σ s (yst σ s j)) (yTT σ s j) = false ∧ ∀ i, i < nnW (yV σ s (yst σ s j)) → inB (yV σ s (yst σ s j)) i (yX σ s (yst σ s j) i) = true := (lfS_none.mp (yLL_none hL (j + 1) (by omega))).2
theorem k_x (r : RK h a (n + 1) (tok σ s) u v) (hn : n ≤ 600) (hs : s < 4) {t i : Nat} (g : yGd σ s t) (hle : t + 1 + nnW (yV σ s t) + 1 ≤ n) (hi : i ≤ nnW (yV σ s t)) : F_X7_valueAt h a (nI (t + 1 + i)) = some (nI (yX σ s t i)) := by
  refine k_val r hn hs (by omega) ?_
  by_cases e : i = nnW (yV σ s t)
  · subst e; rw [g.2.2]; omega
  · rw [g.2.1 i (by omega)]; omega
theorem oF_max2 (h : qH) {q x y : Nat} (hq : q < 2 ^ 30) (hx : x < 2 ^ 30) (hy : y < 2 ^ 30) : F_J9_max_7cf53 h (oF q) (nI (max x y)) = some (oF (max (max q (x + 1)) (y + 1))) := by
  rw [oF_max h hq (by omega)]
  congr 2
  omega
theorem c_bookMiss (hn : n ≤ 600) (hg : ∀ j, j < m → yGd σ 0 (yst σ 0 j)) (hst : yst σ 0 m = n) (hL : yLL σ 0 m = none) (r : RK h a (n + 1) (tok σ 0) u v) : F_X7_bookTellsOfMissing z h a = some (nI (if cn (yTT σ 0 m) 0 < yFF σ 0 m then 1 else 0)) := by
  have le : ∀ j, j < m → yst σ 0 j + 1 + nnW (yV σ 0 (yst σ 0 j)) + 1 ≤ n := fun j hj => by rw [← hst]; exact yst_mono hj
  have el := k_last r
  have lp := q_lp_for (step := s_X7_bookTellsOfMissing_6 z h a) (fun j => (nI (cn (yTT σ 0 j) 0), oF (yFF σ 0 j), nI (yst σ 0 j))) m (r := (nI (cn (yTT σ 0 m) 0), oF (yFF σ 0 m))) (fun j hj => by
    have hle := le j hj
    have gd := hg j hj
    obtain ⟨tb, ff⟩ := yTB (by omega) hg j (by omega)
    obtain ⟨-, -, w1, w2, -, -⟩ := yK_word (by omega) gd.1
    have w2 : yV σ 0 (yst σ 0 j) < 6 := w2
    have hx := yGd_x gd
    have ev := k_val r hn (by omega) (k := yst σ 0 j) (by omega) (by rw [gd.1]; omega)
    have eb := k_behind (z := z) r hn (by omega) (t := yst σ 0 j) (by omega) gd.1
    have nx := (n_next (x := yX σ 0 (yst σ 0 j)) (by omega) w1 w2 tb (yLL_st hL hj).1).1
    have nx : cn (yTT σ 0 (j + 1)) 0 = cn (yTT σ 0 j) 0 + cL (yV σ 0 (yst σ 0 j)) := nx
    have fx : yFF σ 0 (j + 1) = frS (yV σ 0 (yst σ 0 j)) (yX σ 0 (yst σ 0 j)) (yFF σ 0 j) := rfl
    have hY : yst σ 0 (j + 1) = yst σ 0 j + 1 + nnW (yV σ 0 (yst σ 0 j)) + 1 := rfl
    show b_X7_bookTellsOfMissing_6 z h a (nI (cn (yTT σ 0 j) 0)) (oF (yFF σ 0 j)) (nI (yst σ 0 j)) = _
    rw [nx, fx, hY]
    unfold b_X7_bookTellsOfMissing_6
    rw [r.ob, Option.bind_some, el, Option.bind_some, if_neg (show ¬ nI n ≤ nI (yst σ 0 j) from nI_ge (by omega) (by omega)), Option.bind_some, ev, Option.bind_some]
    by_cases h0 : yV σ 0 (yst σ 0 j) = 0
    · have x0 := k_x r hn (by omega) gd hle (i := 0) (by omega)
      have hx0 := hx 0 (by rw [h0]; decide)
      have em := oF_max h (q := yFF σ 0 j) (x := yX σ 0 (yst σ 0 j) 0) (by omega) (by omega)
      have ef : frS (yV σ 0 (yst σ 0 j)) (yX σ 0 (yst σ 0 j)) (yFF σ 0 j) = max (yFF σ 0 j) (yX σ 0 (yst σ 0 j) 0 + 1) := by rw [h0]; rfl
      have ec : cL (yV σ 0 (yst σ 0 j)) = 1 := by rw [h0]; rfl
      rw [if_pos (show nI (yV σ 0 (yst σ 0 j)) = 0 by rw [h0]; rfl), Option.bind_some, n_lit 1, nI_add, show nI (yst σ 0 j + 1) = nI (yst σ 0 j + 1 + 0) from rfl, x0, Option.bind_some, em, Option.bind_some, Option.bind_some, eb, Option.bind_some, ef, ec, nI_add]
    · rw [if_neg (show ¬ nI (yV σ 0 (yst σ 0 j)) = 0 from fun q => h0 ((nI_eq (b := 0) (by omega) (by omega)).mp q))]
      have ec : cL (yV σ 0 (yst σ 0 j)) = 0 := by unfold cL; rw [if_neg h0]
      by_cases h2 : yV σ 0 (yst σ 0 j) = 2
      · have x0 := k_x r hn (by omega) gd hle (i := 0) (by omega)
        have x1 := k_x r hn (by omega) gd hle (i := 1) (by rw [h2]; decide)
        have hx0 := hx 0 (by rw [h2]; decide)
        have hx1 := hx 1 (by rw [h2]; decide)
        have em := c_max2 h (a := yX σ 0 (yst σ 0 j) 0) (b := yX σ 0 (yst σ 0 j) 1) (by omega) (by omega)
        have em2 := oF_max2 h (q := yFF σ 0 j) (x := yX σ 0 (yst σ 0 j) 0) (y := yX σ 0 (yst σ 0 j) 1) (by omega) (by omega) (by omega)
        have ef : frS (yV σ 0 (yst σ 0 j)) (yX σ 0 (yst σ 0 j)) (yFF σ 0 j) = max (max (yFF σ 0 j) (yX σ 0 (yst σ 0 j) 0 + 1)) (yX σ 0 (yst σ 0 j) 1 + 1) := by rw [h2]; rfl
        rw [if_pos (show nI (yV σ 0 (yst σ 0 j)) = (2 : Int32) by rw [h2]; rfl), Option.bind_some, n_lit 1, nI_add, show nI (yst σ 0 j + 1) = nI (yst σ 0 j + 1 + 0) from rfl, x0, Option.bind_some, Option.bind_some, n_lit 2, nI_add, show nI (yst σ 0 j + 2) = nI (yst σ 0 j + 1 + 1) from rfl, x1, Option.bind_some, em, Option.bind_some, em2, Option.bind_some, Option.bind_some, eb, Option.bind_some, ef, ec]
        rfl
      · have ef : frS (yV σ 0 (yst σ 0 j)) (yX σ 0 (yst σ 0 j)) (yFF σ 0 j) = yFF σ 0 j := by
          unfold frS
          rw [if_neg h0, if_neg h2, if_neg (by omega), if_neg (by omega), if_neg (by omega)]
        rw [if_neg (show ¬ nI (yV σ 0 (yst σ 0 j)) = (2 : Int32) from fun q => h2 ((nI_eq (b := 2) (by omega) (by omega)).mp q)), Option.bind_some, eb, Option.bind_some, ef, ec]
        rfl) (by
    show b_X7_bookTellsOfMissing_6 z h a (nI (cn (yTT σ 0 m) 0)) (oF (yFF σ 0 m)) (nI (yst σ 0 m)) = _
    unfold b_X7_bookTellsOfMissing_6
    rw [r.ob, Option.bind_some, el, Option.bind_some, if_pos (show nI n ≤ nI (yst σ 0 m) by rw [hst]; exact nI_le (Nat.le_refl _) (by omega))]) q_N (q_lt_N (by have := yst_ge σ 0 m; omega))
  obtain ⟨tb, ff⟩ := yTB (by omega) hg m (Nat.le_refl _)
  have hc := (tb.1 rfl).1
  have lp : q_lp (s_X7_bookTellsOfMissing_6 z h a) q_N ((0 : Int32), (-1 : Int32), (0 : Int32)) = some (nI (cn (yTT σ 0 m) 0), oF (yFF σ 0 m)) := lp
  have hl := oF_lt (q := yFF σ 0 m) (k := cn (yTT σ 0 m) 0) (by omega) (by omega)
  unfold F_X7_bookTellsOfMissing
  rw [lp, Option.bind_some]
  show (if oF (yFF σ 0 m) < nI (cn (yTT σ 0 m) 0) then some (0 : Int32) else some (1 : Int32)) = _
  by_cases hq : cn (yTT σ 0 m) 0 < yFF σ 0 m
  · rw [if_pos hq, if_neg (fun q => by have := hl.mp q; omega)]; rfl
  · rw [if_neg hq, if_pos (hl.mpr (by omega))]; rfl
theorem c_townMiss (hn : n ≤ 600) (hg : ∀ j, j < m → yGd σ 3 (yst σ 3 j)) (hst : yst σ 3 m = n) (r : RK h a (n + 1) (tok σ 3) u v) : F_X7_townTellsOfMissing z h a = some (nI (if cn (yTT σ 3 m) 0 < yFF σ 3 m then 1 else 0)) := by
  have le : ∀ j, j < m → yst σ 3 j + 1 + nnW (yV σ 3 (yst σ 3 j)) + 1 ≤ n := fun j hj => by rw [← hst]; exact yst_mono hj
  have el := k_last r
  have lp := q_lp_for (step := s_X7_townTellsOfMissing_6 z h a) (fun j => (nI (cn (yTT σ 3 j) 0), oF (yFF σ 3 j), nI (yst σ 3 j))) m (r := (nI (cn (yTT σ 3 m) 0), oF (yFF σ 3 m))) (fun j hj => by
    have hle := le j hj
    have gd := hg j hj
    obtain ⟨tb, ff⟩ := yTB (by omega) hg j (by omega)
    obtain ⟨-, -, w1, w2, -, -⟩ := yK_word (by omega) gd.1
    have w1 : 15 ≤ yV σ 3 (yst σ 3 j) := w1
    have w2 : yV σ 3 (yst σ 3 j) < 19 := w2
    have hx := yGd_x gd
    have ev := k_val r hn (by omega) (k := yst σ 3 j) (by omega) (by rw [gd.1]; omega)
    have eb := k_behind (z := z) r hn (by omega) (t := yst σ 3 j) (by omega) gd.1
    have nx : yTT σ 3 (j + 1) = tlS (yV σ 3 (yst σ 3 j)) (yX σ 3 (yst σ 3 j)) (yTT σ 3 j) := rfl
    have fx : yFF σ 3 (j + 1) = frS (yV σ 3 (yst σ 3 j)) (yX σ 3 (yst σ 3 j)) (yFF σ 3 j) := rfl
    have hY : yst σ 3 (j + 1) = yst σ 3 j + 1 + nnW (yV σ 3 (yst σ 3 j)) + 1 := rfl
    have x0 := k_x r hn (by omega) gd hle (i := 0) (by omega)
    have own : ∀ (c : Prop) [Decidable c] (i : Nat) (y : Int32), 1 ≤ i → cn (if c then upd (yTT σ 3 j) i y else yTT σ 3 j) 0 = cn (yTT σ 3 j) 0 := by
      intro c _ i y hi
      split
      · exact (cn_un (by omega)).1
      · rfl
    show b_X7_townTellsOfMissing_6 z h a (nI (cn (yTT σ 3 j) 0)) (oF (yFF σ 3 j)) (nI (yst σ 3 j)) = _
    rw [nx, fx, hY]
    unfold b_X7_townTellsOfMissing_6
    rw [r.ob, Option.bind_some, el, Option.bind_some, if_neg (show ¬ nI n ≤ nI (yst σ 3 j) from nI_ge (by omega) (by omega)), Option.bind_some, ev, Option.bind_some]
    rcases (show yV σ 3 (yst σ 3 j) = 15 ∨ yV σ 3 (yst σ 3 j) = 16 ∨ yV σ 3 (yst σ 3 j) = 17 ∨ yV σ 3 (yst σ 3 j) = 18 by omega) with hw | hw | hw | hw
    · have hx0 := hx 0 (by rw [hw]; decide)
      have ef : frS (yV σ 3 (yst σ 3 j)) (yX σ 3 (yst σ 3 j)) (yFF σ 3 j) = yFF σ 3 j := by rw [hw]; rfl
      have et : cn (tlS (yV σ 3 (yst σ 3 j)) (yX σ 3 (yst σ 3 j)) (yTT σ 3 j)) 0 = yX σ 3 (yst σ 3 j) 0 := by rw [hw]; exact (cn_us (by omega)).1
      rw [if_pos (show nI (yV σ 3 (yst σ 3 j)) = (15 : Int32) by rw [hw]; rfl), Option.bind_some, n_lit 1, nI_add, show nI (yst σ 3 j + 1) = nI (yst σ 3 j + 1 + 0) from rfl, x0, Option.bind_some, Option.bind_some, eb, Option.bind_some, ef, et]
    · have hx0 := hx 0 (by rw [hw]; decide)
      have em := oF_max h (q := yFF σ 3 j) (x := yX σ 3 (yst σ 3 j) 0 + 1) (by omega) (by omega)
      have ef : frS (yV σ 3 (yst σ 3 j)) (yX σ 3 (yst σ 3 j)) (yFF σ 3 j) = max (yFF σ 3 j) (yX σ 3 (yst σ 3 j) 0 + 1 + 1) := by rw [hw]; rfl
      have et : cn (tlS (yV σ 3 (yst σ 3 j)) (yX σ 3 (yst σ 3 j)) (yTT σ 3 j)) 0 = cn (yTT σ 3 j) 0 := by rw [hw]; exact own (gdF 16 _ 2 = true) _ _ (by omega)
      rw [if_neg (show ¬ nI (yV σ 3 (yst σ 3 j)) = (15 : Int32) by rw [hw]; decide), Option.bind_some, n_lit 1, nI_add, show nI (yst σ 3 j + 1) = nI (yst σ 3 j + 1 + 0) from rfl, x0, Option.bind_some, if_pos (show nI (yV σ 3 (yst σ 3 j)) = (16 : Int32) by rw [hw]; rfl)]
      unfold j_X7_townTellsOfMissing_59
      rw [nI_add, em, Option.bind_some, r.ob, Option.bind_some, eb, Option.bind_some, ef, et]
    · have hx0 := hx 0 (by rw [hw]; decide)
      have em := oF_max h (q := yFF σ 3 j) (x := yX σ 3 (yst σ 3 j) 0) (by omega) (by omega)
      have ef : frS (yV σ 3 (yst σ 3 j)) (yX σ 3 (yst σ 3 j)) (yFF σ 3 j) = max (yFF σ 3 j) (yX σ 3 (yst σ 3 j) 0 + 1) := by rw [hw]; rfl
      have et : cn (tlS (yV σ 3 (yst σ 3 j)) (yX σ 3 (yst σ 3 j)) (yTT σ 3 j)) 0 = cn (yTT σ 3 j) 0 := by rw [hw]; exact own (gdF 17 _ 2 = true) _ _ (by omega)
      rw [if_neg (show ¬ nI (yV σ 3 (yst σ 3 j)) = (15 : Int32) by rw [hw]; decide), Option.bind_some, n_lit 1, nI_add, show nI (yst σ 3 j + 1) = nI (yst σ 3 j + 1 + 0) from rfl, x0, Option.bind_some, if_neg (show ¬ nI (yV σ 3 (yst σ 3 j)) = (16 : Int32) by rw [hw]; decide)]
      unfold j_X7_townTellsOfMissing_59
      rw [n_lit 0, nI_add, Nat.add_zero, em, Option.bind_some, r.ob, Option.bind_some, eb, Option.bind_some, ef, et]
    · have hx0 := hx 0 (by rw [hw]; decide)
      have em := oF_max h (q := yFF σ 3 j) (x := yX σ 3 (yst σ 3 j) 0) (by omega) (by omega)
      have ef : frS (yV σ 3 (yst σ 3 j)) (yX σ 3 (yst σ 3 j)) (yFF σ 3 j) = max (yFF σ 3 j) (yX σ 3 (yst σ 3 j) 0 + 1) := by rw [hw]; rfl
      have et : cn (tlS (yV σ 3 (yst σ 3 j)) (yX σ 3 (yst σ 3 j)) (yTT σ 3 j)) 0 = cn (yTT σ 3 j) 0 := by rw [hw]; exact own (gdF 18 _ 2 = true) _ _ (by omega)
      rw [if_neg (show ¬ nI (yV σ 3 (yst σ 3 j)) = (15 : Int32) by rw [hw]; decide), Option.bind_some, n_lit 1, nI_add, show nI (yst σ 3 j + 1) = nI (yst σ 3 j + 1 + 0) from rfl, x0, Option.bind_some, if_neg (show ¬ nI (yV σ 3 (yst σ 3 j)) = (16 : Int32) by rw [hw]; decide)]
      unfold j_X7_townTellsOfMissing_59
      rw [n_lit 0, nI_add, Nat.add_zero, em, Option.bind_some, r.ob, Option.bind_some, eb, Option.bind_some, ef, et]) (by
    show b_X7_townTellsOfMissing_6 z h a (nI (cn (yTT σ 3 m) 0)) (oF (yFF σ 3 m)) (nI (yst σ 3 m)) = _
    unfold b_X7_townTellsOfMissing_6
    rw [r.ob, Option.bind_some, el, Option.bind_some, if_pos (show nI n ≤ nI (yst σ 3 m) by rw [hst]; exact nI_le (Nat.le_refl _) (by omega))]) q_N (q_lt_N (by have := yst_ge σ 3 m; omega))
  obtain ⟨tb, ff⟩ := yTB (by omega) hg m (Nat.le_refl _)
  have hc := tb.2.2.2 rfl
  have lp : q_lp (s_X7_townTellsOfMissing_6 z h a) q_N ((4 : Int32), (-1 : Int32), (0 : Int32)) = some (nI (cn (yTT σ 3 m) 0), oF (yFF σ 3 m)) := lp
  have hl := oF_lt (q := yFF σ 3 m) (k := cn (yTT σ 3 m) 0) (by omega) (by omega)
  unfold F_X7_townTellsOfMissing
  rw [lp, Option.bind_some]
  show (if oF (yFF σ 3 m) < nI (cn (yTT σ 3 m) 0) then some (0 : Int32) else some (1 : Int32)) = _
  by_cases hq : cn (yTT σ 3 m) 0 < yFF σ 3 m
  · rw [if_pos hq, if_neg (fun q => by have := hl.mp q; omega)]; rfl
  · rw [if_neg hq, if_pos (hl.mpr (by omega))]; rfl
theorem c_miss (hn : n ≤ 600) (hs : s < 4) (hg : ∀ j, j < m → yGd σ s (yst σ s j)) (hst : yst σ s m = n) (hL : yLL σ s m = none) (r : RK h a (n + 1) (tok σ s) u v) : F_X7_tellsOfMissing z h a (nI s) = some (nI (if (s = 0 ∨ s = 3) ∧ cn (yTT σ s m) 0 < yFF σ s m then 1 else 0)) := by
  unfold F_X7_tellsOfMissing
  rcases (show s = 0 ∨ s = 1 ∨ s = 2 ∨ s = 3 by omega) with rfl | rfl | rfl | rfl
  · rw [if_pos (show nI 0 = (0 : Int32) from rfl), r.ob, Option.bind_some, c_bookMiss hn hg hst hL r, Option.bind_some]
    by_cases hq : cn (yTT σ 0 m) 0 < yFF σ 0 m
    · rw [if_pos hq, if_pos (And.intro (Or.inl rfl) hq)]; rfl
    · rw [if_neg hq, if_neg (show ¬ (((0 : Nat) = 0 ∨ (0 : Nat) = 3) ∧ cn (yTT σ 0 m) 0 < yFF σ 0 m) from fun q => hq q.2)]; rfl
  · rw [if_neg (show ¬ nI 1 = (0 : Int32) by decide), if_neg (show ¬ nI 1 = (3 : Int32) by decide), if_neg (fun q => by omega)]; rfl
  · rw [if_neg (show ¬ nI 2 = (0 : Int32) by decide), if_neg (show ¬ nI 2 = (3 : Int32) by decide), if_neg (fun q => by omega)]; rfl
  · rw [if_neg (show ¬ nI 3 = (0 : Int32) by decide), if_pos (show nI 3 = (3 : Int32) from rfl), r.ob, Option.bind_some, c_townMiss hn hg hst r, Option.bind_some]
    by_cases hq : cn (yTT σ 3 m) 0 < yFF σ 3 m
    · rw [if_pos hq, if_pos (And.intro (Or.inr rfl) hq)]; rfl
    · rw [if_neg hq, if_neg (show ¬ (((3 : Nat) = 0 ∨ (3 : Nat) = 3) ∧ cn (yTT σ 3 m) 0 < yFF σ 3 m) from fun q => hq q.2)]; rfl
theorem nI_any (x : Int32) : nI x.toBitVec.toNat = x := by
  apply Int32.toBitVec_inj.mp
  apply BitVec.eq_of_toNat_eq
  rw [nI_bv, BitVec.toNat_ofNat]
  exact Nat.mod_eq_of_lt x.toBitVec.isLt
/-- the class's reading -/
theorem c_read (tx : Tx h z) (d : TD h t σ) (hz : sZ σ ≤ 600) (hd : a + 4 ≤ t ∨ t + 51 ≤ a) (hlow : ∀ i, i < 18 → z (4 + i) < a) (hs : s < 4) (ox : OBx h a 7 rdL) : ∃ h' n m out, F_X7_read z h a t (nI s) = some h' ∧ yOut σ s m out ∧ m ≤ 600 ∧ n ≤ 600 ∧ RK h' a (n + 1) (tok σ s) (oFt out) (oPl out) ∧ (out = none → yst σ s m = n) ∧ Fr h h' a (a + 4) := by
  obtain ⟨A, B, I, J, o⟩ := ox
  obtain ⟨h1, e1, o1, r1⟩ := X7_p4 o (nI 0)
  obtain ⟨h2, e2, o2, r2⟩ := X7_p5 o1 m1
  have fr2 := r1.tr r2
  have dk : ∀ {g}, Fr h g a (a + 4) → TD g t σ := fun f => d.kept (fun q q1 q2 => f q (by omega))
  have tk : ∀ {g}, Fr h g a (a + 4) → Tx g z := fun f i hi => by
    have := tx i hi
    unfold F_J0_length_8abf5 F_J0_charAt_5068e q_sl_ q_sc_ at *
    rw [f _ (Or.inl (hlow i hi))]
    exact this
  have rk0 : RK h2 a (upd (upd I 4 (nI 0)) 5 m1 3).toBitVec.toNat (fun k => (A 0 k, A 1 k, A 2 k)) (oFt none) (oPl none) := ⟨A, B, _, J, o2, (nI_any _).symm, by simp (disch := omega) only [uS]; rfl, by simp (disch := omega) only [uS]; rfl, fun k hk => ⟨rfl, rfl, rfl⟩⟩
  obtain ⟨h4, n, e4, rk, hn, hk, h3k, f4⟩ := c_split (tk fr2) (dk fr2) hz hd hlow hs rk0
  have h3k : 3 ≤ yK σ s n := h3k
  obtain ⟨m, hg, hst, hfin⟩ := yAll h3k
  have hm := yst_ge σ s m
  obtain ⟨q1, q2⟩ := c_unfit (z := z) rk hn hs h3k hg hst
  have e1 : q_put h a 7 4 (.int (0 : Int32)) = some h1 := e1
  have e2 : q_put h1 a 7 5 (.int (-1 : Int32)) = some h2 := e2
  have pre : F_X7_read z h a t (nI s) = (F_X7_firstUnfit z h4 a).bind fun x11 => (if x11 = (-1 : Int32) then (q_ob h4 a 7).bind fun u14 => (F_X7_findWrongNumber z h4 a).bind fun x16 => (q_fI x16 a 7 4).bind fun x18 => (if x18 = 0 then (q_ob x16 a 7).bind fun u21 => (F_X7_tellsOfMissing z x16 a (nI s)).bind fun x23 => (if x23 = 0 then some x16 else (q_fI x16 t 9 6).bind fun x26 => (q_ob x16 a 7).bind fun u28 => (F_X7_blame x16 a (4 : Int32) x26).bind fun x30 => some x30) else some x16) else (q_ob h4 a 7).bind fun u32 => (F_X7_startAt h4 a x11).bind fun x34 => (q_ob h4 a 7).bind fun u36 => (F_X7_blame h4 a (1 : Int32) x34).bind fun x38 => some x38) := by
    unfold F_X7_read
    rw [e1, Option.bind_some, e2, Option.bind_some, o2.ob, Option.bind_some, e4, Option.bind_some, rk.ob, Option.bind_some]
  rw [pre]
  rcases hfin with h4' | ⟨w, hw⟩
  · have hnm : yst σ s m = n := by
      rcases Nat.lt_or_ge (yst σ s m) n with hh | hh
      · have : yK σ s (yst σ s m) < 3 := hk _ hh
        omega
      · omega
    obtain ⟨h5, e5, rk5, f5⟩ := c_wrongN (z := z) hn hs hg hnm rk
    have pos := yLL_pos σ s m
    have f54 := rk5.tk.2.1
    have um : F_X7_firstUnfit z h4 a = some (-1 : Int32) := q1 h4'
    rw [um, Option.bind_some, if_pos rfl, rk.ob, Option.bind_some, e5, Option.bind_some, f54, Option.bind_some]
    have fr5 := (fr2.tr f4).tr f5
    cases hL : yLL σ s m with
    | some q =>
      have eF : yFin σ s m = some q := by unfold yFin; rw [hL]
      have nz : ¬ oFt (yLL σ s m) = 0 := fun p => by have := (oFt_0 pos).mp p; rw [hL] at this; cases this
      rw [hL] at nz rk5
      refine ⟨h5, n, m, yFin σ s m, ?_, ⟨hg, Or.inr ⟨h4', rfl⟩⟩, by omega, hn, by rw [eF]; exact rk5, (fun _ => hnm), fr5⟩
      rw [if_neg nz]
    | none =>
      rw [hL] at rk5
      have em := c_miss (z := z) hn hs hg hnm hL rk5
      rw [if_pos (show oFt none = 0 from rfl), rk5.ob, Option.bind_some, em, Option.bind_some]
      by_cases hc : (s = 0 ∨ s = 3) ∧ cn (yTT σ s m) 0 < yFF σ s m
      · have eF : yFin σ s m = some (4, sZ σ) := by unfold yFin; rw [hL]; exact if_pos hc
        obtain ⟨h6, e6, rk6, f6⟩ := c_blame rk5 (nI 4) (nI (sZ σ))
        have e6 : F_X7_blame h5 a (4 : Int32) (nI (sZ σ)) = some h6 := e6
        have td := dk fr5
        refine ⟨h6, n, m, yFin σ s m, ?_, ⟨hg, Or.inr ⟨h4', rfl⟩⟩, by omega, hn, by rw [eF]; exact rk6, (fun _ => hnm), fr5.tr f6⟩
        rw [if_pos hc, if_neg (show ¬ nI 1 = (0 : Int32) by decide), (tS td).2.1, Option.bind_some, Option.bind_some, e6, Option.bind_some]
      · have eF : yFin σ s m = none := by unfold yFin; rw [hL]; exact if_neg hc
        refine ⟨h5, n, m, yFin σ s m, ?_, ⟨hg, Or.inr ⟨h4', rfl⟩⟩, by omega, hn, by rw [eF]; exact rk5, (fun _ => hnm), fr5⟩
        rw [if_neg hc, if_pos (show nI 0 = (0 : Int32) from rfl)]
  · have hwn := yBad_le hw h3k hst
    have es := k_start rk hn hwn
    obtain ⟨h5, e5, rk5, f5⟩ := c_blame rk (nI 1) (nI (bg σ w))
    have e5 : F_X7_blame h4 a (1 : Int32) (nI (bg σ w)) = some h5 := e5
    refine ⟨h5, n, m, some (1, bg σ w), ?_, ⟨hg, Or.inl ⟨w, hw, rfl⟩⟩, by omega, hn, rk5, (fun q => by cases q), (fr2.tr f4).tr f5⟩
    rw [q2 w hw, Option.bind_some, if_neg (show ¬ nI w = (-1 : Int32) from fun q => (nm1_eq (a := w) (by omega)).mp q), rk.ob, Option.bind_some, es, Option.bind_some, Option.bind_some, e5, Option.bind_some]
end CLU
