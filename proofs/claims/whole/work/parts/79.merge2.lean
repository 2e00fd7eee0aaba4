/-! ===== the merger's table and row ===== -/
theorem MGR.cg {A A' : Nat → Nat → Int32} {I I' : Nat → Int32} {u v : Nat → Nat} {p q : Nat} (g : MGR A I u v p q) (h0 : A' 0 = A 0) (h1 : A' 1 = A 1) (i4 : I' 4 = I 4) (i5 : I' 5 = I 5) : MGR A' I' u v p q := by
  unfold MGR at *
  rw [h0, h1, i4, i5]
  exact g
theorem TBL.up {T : Nat → Int32} {u v : Nat → Nat} {p q : Nat} {P P' : Nat → Nat → Prop} (t : TBL T u v p q P) {i j : Nat} (hj : j ≤ 12) (hq : q ≤ 12) (hP : ∀ i' j', i' ≤ p → j' ≤ q → P' i' j' → P i' j' ∨ (i' = i ∧ j' = j)) : TBL (upd T (13 * i + j) (nI (S2 u v p q i j))) u v p q P' := by
  intro i' j' hi' hj' h'
  by_cases he : i' = i ∧ j' = j
  · obtain ⟨rfl, rfl⟩ := he
    exact pk_us
  · rw [pk_un (by omega)]
    exact t i' j' hi' hj' ((hP i' j' hi' hj' h').resolve_right he)
section MG
variable {h : qH} {a : Nat} {A : Nat → Nat → Int32} {B : Nat → Nat → Int64} {I : Nat → Int32} {J : Nat → Int64} {u v : Nat → Nat} {p q : Nat}
theorem m_inner (o : OB h a 4 mgL A B I J) (g : MGR A I u v p q) {i : Nat} (hi : i ≤ p) (t : TBL (A 2) u v p q (fun i' _ => i < i')) : ∃ h', q_lp (s_X4_merge_43 a (nI i)) q_N (nI q, h) = some h' ∧ ∃ A', OB h' a 4 mgL A' B I J ∧ Fr h h' a (a + 5) ∧ On [2] A A' ∧ TBL (A' 2) u v p q (fun i' _ => i ≤ i') := by
  have hp := g.1
  have hq := g.2.1
  rw [← dI_0 q]
  refine q_lp_idx (fun t s => s.1 = dI q t ∧ ∃ A', OB s.2 a 4 mgL A' B I J ∧ Fr h s.2 a (a + 5) ∧ On [2] A A' ∧ TBL (A' 2) u v p q (fun i' j' => i < i' ∨ (i' = i ∧ q < j' + t))) (q + 1) _ ?_ ?_ q_N (dI q 0, h) ⟨rfl, A, o, Fr.rf, On.rf, fun i' j' h1 h2 h3 => t i' j' h1 h2 (by omega)⟩ (q_lt_N (by omega))
  · rintro k ⟨x1, hh⟩ hk ⟨hx1, A', o', r', n', t'⟩
    dsimp only at hx1 o' r'
    rw [dI_in (by omega)] at hx1
    subst hx1
    have g' := g.cg (A' := A') (I' := I) (n' 0 (by decide)) (n' 1 (by decide)) rfl rfl
    have e1 := m_from o' g' hi (j := q - k) (by omega) (fun i' j' h1 h2 h3 => t' i' j' h1 h2 (by omega))
    obtain ⟨h5, e5, o5, r5⟩ := X4_s2 o' (i := 13 * i + (q - k)) (nI (S2 u v p q i (q - k))) (by omega)
    refine ⟨(dI q (k + 1), h5), ?_, rfl, _, o5, r'.tr r5, n'.tr (On.up (by decide)), ?_⟩
    · rw [Nat.mul_comm] at e5
      simp (disch := omega) only [s_X4_merge_43, b_X4_merge_43, nS, X4_rd o', e1, e5, dI_go (show k ≤ q by omega)]
    · rw [upF_self]
      exact t'.up (by omega) hq (fun i' j' h1 h2 h3 => by omega)
  · rintro ⟨x1, hh⟩ ⟨hx1, A', o', r', n', t'⟩
    dsimp only at hx1 o' r'
    rw [dI_end] at hx1
    subst hx1
    refine ⟨hh, ?_, A', o', r', n', fun i' j' h1 h2 h3 => t' i' j' h1 h2 (by omega)⟩
    simp (disch := omega) only [s_X4_merge_43, b_X4_merge_43, nS]
theorem m_outer (o : OB h a 4 mgL A B I J) (g : MGR A I u v p q) : ∃ h', q_lp (s_X4_merge_32 a) q_N (nI p, h) = some h' ∧ ∃ A', OB h' a 4 mgL A' B I J ∧ Fr h h' a (a + 5) ∧ On [2] A A' ∧ TBL (A' 2) u v p q (fun _ _ => True) := by
  have hp := g.1
  have hq := g.2.1
  rw [← dI_0 p]
  refine q_lp_idx (fun t s => s.1 = dI p t ∧ ∃ A', OB s.2 a 4 mgL A' B I J ∧ Fr h s.2 a (a + 5) ∧ On [2] A A' ∧ TBL (A' 2) u v p q (fun i' _ => p < i' + t)) (p + 1) _ ?_ ?_ q_N (dI p 0, h) ⟨rfl, A, o, Fr.rf, On.rf, fun i' j' h1 h2 h3 => by omega⟩ (q_lt_N (by omega))
  · rintro k ⟨x1, hh⟩ hk ⟨hx1, A', o', r', n', t'⟩
    dsimp only at hx1 o' r'
    rw [dI_in (by omega)] at hx1
    subst hx1
    have g' := g.cg (A' := A') (I' := I) (n' 0 (by decide)) (n' 1 (by decide)) rfl rfl
    obtain ⟨h5, e5, A5, o5, r5, n5, t5⟩ := m_inner o' g' (i := p - k) (by omega) (fun i' j' h1 h2 h3 => t' i' j' h1 h2 (by omega))
    refine ⟨(dI p (k + 1), h5), ?_, rfl, A5, o5, r'.tr r5, n'.tr n5, fun i' j' h1 h2 h3 => t5 i' j' h1 h2 (by omega)⟩
    simp (disch := omega) only [s_X4_merge_32, b_X4_merge_32, nS, X4_rd o', g.2.2.2.1, e5, dI_go (show k ≤ p by omega)]
  · rintro ⟨x1, hh⟩ ⟨hx1, A', o', r', n', t'⟩
    dsimp only at hx1 o' r'
    rw [dI_end] at hx1
    subst hx1
    refine ⟨hh, ?_, A', o', r', n', fun i' j' h1 h2 h3 => t' i' j' h1 h2 (by omega)⟩
    simp (disch := omega) only [s_X4_merge_32, b_X4_merge_32, nS]
theorem m_takes (o : OB h a 4 mgL A B I J) (g : MGR A I u v p q) (t : TBL (A 2) u v p q (fun _ _ => True)) {i j : Nat} (hi : i ≤ p) (hj : j ≤ q) (hs : shr u v p q (i, j) = false) : F_X4_takesOne h a (nI i) (nI j) = some (nI (if fon u v p q (i, j) then 1 else 0)) := by
  have g' := g
  obtain ⟨g1, g2, g3, g4, g5, g6⟩ := g
  rcases Nat.lt_or_ge i p with h1 | h1
  · rcases Nat.lt_or_ge j q with h2 | h2
    · have b1 := S2_le (u := u) (v := v) (p := p) (q := q) _ (i + 1) j (Nat.le_refl _) (by omega) (by omega)
      have b2 := S2_le (u := u) (v := v) (p := p) (q := q) _ i (j + 1) (Nat.le_refl _) (by omega) (by omega)
      have a1 := g5 i h1
      have a2 := g6 j h2
      have t1 := m_at o g' (i := i + 1) (j := j) (by omega) (by omega) t trivial
      have t2 := m_at o g' (i := i) (j := j + 1) (by omega) (by omega) t trivial
      by_cases hc : S2 u v p q (i + 1) j < S2 u v p q i (j + 1) ∨ (S2 u v p q (i + 1) j = S2 u v p q i (j + 1) ∧ u i < v j)
      · have e2 : fon u v p q (i, j) = true := by
          unfold fon
          rw [hs, if_neg (by dsimp only; omega), decide_eq_true (by exact hc)]
          rfl
        rcases hc with hc | ⟨hc, hc2⟩
        · simp (disch := omega) only [F_X4_takesOne, nS, X4_rd o, g3, g4, t1, t2, e2]
        · simp (disch := omega) only [F_X4_takesOne, nS, X4_rd o, g3, g4, t1, t2, e2, a1.1, a2.1]
      · have e2 : fon u v p q (i, j) = false := by
          unfold fon
          rw [hs, if_neg (by dsimp only; omega), decide_eq_false (by exact hc)]
          rfl
        rcases Nat.lt_or_ge (S2 u v p q i (j + 1)) (S2 u v p q (i + 1) j) with h3 | h3
        · simp (disch := omega) only [F_X4_takesOne, nS, X4_rd o, g3, g4, t1, t2, e2, Bool.false_eq_true]
        · simp (disch := omega) only [F_X4_takesOne, nS, X4_rd o, g3, g4, t1, t2, e2, a1.1, a2.1, Bool.false_eq_true]
    · have e2 : fon u v p q (i, j) = true := by
        unfold fon
        rw [hs, if_pos (by dsimp only; omega), decide_eq_true (by exact h1)]
        rfl
      simp (disch := omega) only [F_X4_takesOne, j_X4_takesOne_16, nS, X4_rd o, g3, g4, e2]
  · have e2 : fon u v p q (i, j) = false := by
      unfold fon
      rw [hs, if_pos (by dsimp only; omega), decide_eq_false (by dsimp only; omega)]
      rfl
    simp (disch := omega) only [F_X4_takesOne, j_X4_takesOne_16, nS, X4_rd o, g3, g4, e2, Bool.false_eq_true]
theorem fon_sh {w : Nat × Nat} (h1 : shr u v p q w = true) : fon u v p q w = true := by unfold fon; rw [h1]; rfl
/-- one turn of the row -/
theorem m_turn (o : OB h a 4 mgL A B I J) (g : MGR A I u v p q) (t : TBL (A 2) u v p q (fun _ _ => True)) {i j s : Nat} (hi : i ≤ p) (hj : j ≤ q) (h0 : i < p ∨ j < q) (hs : s < 24) (i6 : I 6 = nI s) : ∃ h' I', s_X4_fillRow_9 a (nI i, nI j, h) = some (.inl (nI (stp u v p q (i, j)).1, nI (stp u v p q (i, j)).2, h')) ∧ OB h' a 4 mgL (upF A 3 (upd (A 3) s (nI (vlu u v p q (i, j))))) B I' J ∧ Fr h h' a (a + 5) ∧ On [6] I I' ∧ I' 6 = nI (s + 1) := by
  have hsh := m_shared o g hi hj
  have htk := m_takes o g t hi hj
  obtain ⟨g1, g2, g3, g4, g5, g6⟩ := g
  obtain ⟨h1, e1, o1, r1⟩ := X4_s3 o (i := s) (nI (vlu u v p q (i, j))) (by omega)
  obtain ⟨h2, e2, o2, r2⟩ := X4_p6 o1 (nI (s + 1))
  refine ⟨h2, _, ?_, o2, r1.tr r2, On.ud (by decide), rfl⟩
  have start : s_X4_fillRow_9 a (nI i, nI j, h) = j_X4_fillRow_37 h a (nI i) (nI j) := by
    rcases Nat.lt_or_ge i p with q1 | q1
    · simp (disch := omega) only [s_X4_fillRow_9, b_X4_fillRow_9, nS, X4_rd o, g3, g4, i6]
    · simp (disch := omega) only [s_X4_fillRow_9, b_X4_fillRow_9, nS, X4_rd o, g3, g4, i6]
  rw [start]
  cases q1 : shr u v p q (i, j) with
  | true =>
    have q2 := fon_sh q1
    have q3 : i < p ∧ j < q := by
      unfold shr at q1
      have := of_decide_eq_true q1
      exact ⟨this.1, this.2.1⟩
    have a1 := g5 i q3.1
    have ev : vlu u v p q (i, j) = u i := by simp [vlu, q2]
    rw [q1] at hsh
    rw [ev] at e1
    simp (disch := omega) only [j_X4_fillRow_37, j_X4_fillRow_57, j_X4_fillRow_62, j_X4_fillRow_112, j_X4_fillRow_134, nS, X4_rd o, hsh, g3, a1.1, i6, e1, X4_rd o1, e2, stp, q1, q2, Bool.true_or]
  | false =>
    have htk := htk q1
    rw [q1] at hsh
    cases q2 : fon u v p q (i, j) with
    | true =>
      have q3 : i < p := by
        rcases Nat.lt_or_ge i p with q3 | q3
        · exact q3
        · unfold fon at q2
          rw [q1, if_pos (by dsimp only; omega), decide_eq_false (by dsimp only; omega)] at q2
          cases q2
      have a1 := g5 i q3
      have ev : vlu u v p q (i, j) = u i := by simp [vlu, q2]
      rw [q2] at htk
      rw [ev] at e1
      simp (disch := omega) only [j_X4_fillRow_37, j_X4_fillRow_57, j_X4_fillRow_62, j_X4_fillRow_112, j_X4_fillRow_134, nS, X4_rd o, hsh, htk, g3, a1.1, i6, e1, X4_rd o1, e2, stp, q1, q2, Bool.false_or, Bool.not_true, Bool.false_eq_true]
    | false =>
      have q3 : j < q := by
        rcases Nat.lt_or_ge j q with q3 | q3
        · exact q3
        · unfold fon at q2
          rw [q1, if_pos (by dsimp only; omega), decide_eq_true (by dsimp only; omega)] at q2
          cases q2
      have a1 := g6 j q3
      have ev : vlu u v p q (i, j) = v j := by simp [vlu, q2]
      rw [q2] at htk
      rw [ev] at e1
      simp (disch := omega) only [j_X4_fillRow_37, j_X4_fillRow_94, j_X4_fillRow_62, j_X4_fillRow_112, j_X4_fillRow_134, nS, X4_rd o, hsh, htk, g3, g4, a1.1, i6, e1, X4_rd o1, e2, stp, q1, q2, Bool.false_or, Bool.not_false, Bool.false_eq_true]
theorem m_row (o : OB h a 4 mgL A B I J) (g : MGR A I u v p q) (t : TBL (A 2) u v p q (fun _ _ => True)) : ∃ h' A' I', F_X4_fillRow h a = some h' ∧ OB h' a 4 mgL A' B I' J ∧ Fr h h' a (a + 5) ∧ I' 4 = nI p ∧ I' 5 = nI q ∧ I' 6 = nI (S2 u v p q 0 0) ∧ ∀ s, s < S2 u v p q 0 0 → A' 3 s = nI (vlu u v p q (wlk u v p q s)) := by
  have hp := g.1
  have hq := g.2.1
  have hS := S2_le (u := u) (v := v) (p := p) (q := q) _ 0 0 (Nat.le_refl _) (by omega) (by omega)
  obtain ⟨h1, e1, o1, r1⟩ := X4_p6 o (nI 0)
  have lp : ∃ h', q_lp (s_X4_fillRow_9 a) q_N (nI 0, nI 0, h1) = some h' ∧ ∃ A' I', OB h' a 4 mgL A' B I' J ∧ Fr h h' a (a + 5) ∧ On [6] I I' ∧ I' 6 = nI (S2 u v p q 0 0) ∧ ∀ s, s < S2 u v p q 0 0 → A' 3 s = nI (vlu u v p q (wlk u v p q s)) := by
    refine q_lp_idx (fun s x => x.1 = nI (wlk u v p q s).1 ∧ x.2.1 = nI (wlk u v p q s).2 ∧ ∃ A' I', OB x.2.2 a 4 mgL A' B I' J ∧ Fr h x.2.2 a (a + 5) ∧ On [3] A A' ∧ On [6] I I' ∧ I' 6 = nI s ∧ ∀ s', s' < s → A' 3 s' = nI (vlu u v p q (wlk u v p q s'))) (S2 u v p q 0 0) _ ?_ ?_ q_N (nI 0, nI 0, h1) ⟨rfl, rfl, A, _, o1, r1, On.rf, On.ud (by decide), rfl, fun s hs => by omega⟩ (q_lt_N (by omega))
    · rintro s ⟨x1, x2, hh⟩ hs ⟨hx1, hx2, A', I', o', r', n', ni', i6, z'⟩
      dsimp only at hx1 hx2 o' r'
      subst hx1 hx2
      obtain ⟨w1, w2, w3⟩ := wlk_S (u := u) (v := v) (p := p) (q := q) s (by omega)
      have hz := S2_0 (u := u) (v := v) (p := p) (q := q) _ (wlk u v p q s).1 (wlk u v p q s).2 (Nat.le_refl _) w1 w2
      have g' := g.cg (A' := A') (I' := I') (n' 0 (by decide)) (n' 1 (by decide)) (ni' 4 (by decide)) (ni' 5 (by decide))
      have t' : TBL (A' 2) u v p q (fun _ _ => True) := by rw [n' 2 (by decide)]; exact t
      obtain ⟨h5, I5, e5, o5, r5, ni5, i65⟩ := m_turn o' g' t' w1 w2 (by omega) (s := s) (by omega) i6
      refine ⟨_, e5, rfl, rfl, _, I5, o5, r'.tr r5, n'.tr (On.up (by decide)), ni'.tr ni5, i65, fun s' hs' => ?_⟩
      rw [upF_self]
      by_cases he : s' = s
      · subst he; exact pk_us
      · rw [pk_un he]; exact z' s' (by omega)
    · rintro ⟨x1, x2, hh⟩ ⟨hx1, hx2, A', I', o', r', n', ni', i6, z'⟩
      dsimp only at hx1 hx2 o' r'
      obtain ⟨w1, w2, w3⟩ := wlk_S (u := u) (v := v) (p := p) (q := q) _ (Nat.le_refl (S2 u v p q 0 0))
      have hz := (S2_0 (u := u) (v := v) (p := p) (q := q) _ _ _ (Nat.le_refl _) w1 w2).mp (by omega)
      rw [hz.1] at hx1
      rw [hz.2] at hx2
      subst hx1 hx2
      have g3 : I' 4 = nI p := by rw [ni' 4 (by decide)]; exact g.2.2.1
      have g4 : I' 5 = nI q := by rw [ni' 5 (by decide)]; exact g.2.2.2.1
      refine ⟨hh, ?_, A', I', o', r', ni', i6, z'⟩
      rcases Nat.lt_or_ge (S2 u v p q 0 0) 24 with h24 | h24
      · simp (disch := omega) only [s_X4_fillRow_9, b_X4_fillRow_9, nS, X4_rd o', g3, g4, i6]
      · simp (disch := omega) only [s_X4_fillRow_9, b_X4_fillRow_9, nS, X4_rd o', i6]
  obtain ⟨h', e', A', I', o', r', ni', i6, z'⟩ := lp
  refine ⟨h', A', I', ?_, o', r', by rw [ni' 4 (by decide)]; exact g.2.2.1, by rw [ni' 5 (by decide)]; exact g.2.2.2.1, i6, z'⟩
  simp (disch := omega) only [F_X4_fillRow, nS, e1, e']
end MG
