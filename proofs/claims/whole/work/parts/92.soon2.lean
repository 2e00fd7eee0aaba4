/-! ===== soonest: the class, the call ===== -/
/-- the strayings of ways of n steps -/
def Dn (m : MB) (k n : Nat) (D : Nat → Nat) : Prop := ∀ l, l < mbL m → D l ≤ 1000000 ∧ ∀ u, u ≤ k → (D l ≤ u ↔ ∃ u', u' ≤ u ∧ Wg (dgS m k) (tgS m k) 0 n (20 * u' + l))
/-- the least over the pairs looked at -/
def Dp (m : MB) (k : Nat) (D : Nat → Nat) (l f : Nat) (D' : Nat → Nat) : Prop := ∀ j, j < mbL m → D' j ≤ 1000000 ∧ ∀ u, u ≤ k → (D' j ≤ u ↔ ∃ l' f', (l' < l ∨ (l' = l ∧ f' < f)) ∧ l' < mbL m ∧ f' < fn m l' ∧ gg m l' f' = j ∧ D l' + sty f' ≤ u)
theorem Dp.step {m : MB} (ok : MBok m) {k : Nat} (hk : k < 10) {D D' : Nat → Nat} {l f : Nat} (hl : l < mbL m) (hf : f < fn m l) (p : Dp m k D l f D') : Dp m k D l (f + 1) (fun j => if j = gg m l f then min (D' j) (D l + sty f) else D' j) := by
  intro j hj
  obtain ⟨p1, p2⟩ := p j hj
  dsimp only
  by_cases hje : j = gg m l f
  · rw [if_pos hje]
    refine ⟨by omega, fun u hu => ?_⟩
    constructor
    · intro hle
      rcases Nat.lt_or_ge u (D l + sty f) with h1 | h1
      · obtain ⟨l', f', q1, q2⟩ := (p2 u hu).mp (by omega)
        exact ⟨l', f', by omega, q2⟩
      · exact ⟨l, f, Or.inr ⟨rfl, by omega⟩, hl, hf, hje.symm, h1⟩
    · rintro ⟨l', f', q1, q2, q3, q4, q5⟩
      by_cases hh : l' = l ∧ f' = f
      · obtain ⟨rfl, rfl⟩ := hh; omega
      · have := (p2 u hu).mpr ⟨l', f', by omega, q2, q3, q4, q5⟩
        omega
  · rw [if_neg hje]
    refine ⟨p1, fun u hu => ?_⟩
    rw [p2 u hu]
    constructor
    · rintro ⟨l', f', q1, q2⟩; exact ⟨l', f', by omega, q2⟩
    · rintro ⟨l', f', q1, q2, q3, q4, q5⟩
      refine ⟨l', f', ?_, q2, q3, q4, q5⟩
      by_cases hh : l' = l ∧ f' = f
      · obtain ⟨rfl, rfl⟩ := hh; exact absurd q4.symm hje
      · omega
theorem Dp.next {m : MB} {k : Nat} {D D' : Nat → Nat} {l f : Nat} (hf : fn m l ≤ f) (p : Dp m k D l f D') : Dp m k D (l + 1) 0 D' := by
  intro j hj
  obtain ⟨p1, p2⟩ := p j hj
  refine ⟨p1, fun u hu => ?_⟩
  rw [p2 u hu]
  constructor
  · rintro ⟨l', f', q1, q2⟩; exact ⟨l', f', by omega, q2⟩
  · rintro ⟨l', f', q1, q2, q3, q4⟩
    refine ⟨l', f', ?_, q2, q3, q4⟩
    by_cases hh : l' = l
    · subst hh; omega
    · omega
theorem Dn.step {m : MB} (ok : MBok m) (fo : FO m) {k n : Nat} {D D' : Nat → Nat} (d : Dn m k n D) (p : Dp m k D (mbL m) 0 D') : Dn m k (n + 1) D' := by
  have hL := L_le ok
  intro j hj
  obtain ⟨p1, p2⟩ := p j hj
  refine ⟨p1, fun u hu => ?_⟩
  rw [p2 u hu]
  constructor
  · rintro ⟨l', f', -, q2, q3, q4, q5⟩
    obtain ⟨u', w1, w2⟩ := ((d l' q2).2 (u - sty f') (by omega)).mp (by omega)
    refine ⟨u' + sty f', by omega, 20 * u' + l', f', w2, ?_, ?_⟩
    · unfold dgS
      rw [if_pos (by omega), show (20 * u' + l') % 20 = l' by omega]
      exact q3
    · unfold tgS
      rw [if_pos (by omega), show (20 * u' + l') / 20 = u' by omega, show (20 * u' + l') % 20 = l' by omega, q4]
  · rintro ⟨u', w1, i, f, w2, w3, w4⟩
    have h1 := tgS_lt ok fo w3 w4
    obtain ⟨h2, h3⟩ := dgS_in w3
    have h4 := fo_lt fo h3
    have h5 := ((d (i % 20) h4).2 (i / 20) (by omega)).mpr ⟨i / 20, Nat.le_refl _, by rw [show 20 * (i / 20) + i % 20 = i by omega]; exact w2⟩
    refine ⟨i % 20, f, Or.inl h4, h4, h3, ?_, ?_⟩
    · omega
    · omega
section SOC
variable {h : qH} {a b : Nat} {m : MB} {A : Nat → Nat → Int32} {B : Nat → Nat → Int64} {I : Nat → Int32} {J : Nat → Int64}
theorem c_stepS (o : OB h a 6 ptL A B I J) (c : CB h b m) (hd : b + 12 ≤ a ∨ a + 8 ≤ b) {k : Nat} (hk : k < 10) {D : Nat → Nat} (hD : ∀ l, l < mbL m → D l ≤ 1000000) (row : ∀ l, l < mbL m → A 1 l = nI (D l)) : ∃ h' A' D', F_X6_stepStrayings h a b = some h' ∧ OB h' a 6 ptL A' B I J ∧ Fr h h' a (a + 8) ∧ (∀ l, l < mbL m → A' 1 l = nI (D' l)) ∧ Dp m k D (mbL m) 0 D' := by
  have ok := c.1
  have hL := L_le ok
  have ck : ∀ {h'}, Fr h h' a (a + 8) → CB h' b m := fun r => c.kept (fun q q1 q2 => r q (by omega))
  obtain ⟨h1, e1, A1, o1, r1, y1, z1⟩ := q_lp1 (step := s_X6_stepStrayings_2 a b) (fun i h' => ∃ A', OB h' a 6 ptL A' B I J ∧ Fr h h' a (a + 8) ∧ A' 1 = A 1 ∧ ∀ l, l < i → A' 2 l = nI 1000000) 20 0 (by omega)
    (fun i h1 hi ⟨A1, o1, r1, y1, z1⟩ => by
      obtain ⟨h2, e2, o2, r2⟩ := X6_s2 o1 (i := i) (nI 1000000) (by omega)
      refine ⟨h2, ?_, _, o2, r1.tr r2, by rw [upF_ne _ _ (show (1 : Nat) ≠ 2 by decide)]; exact y1, fun l hl => ?_⟩
      · simp (disch := omega) only [s_X6_stepStrayings_2, b_X6_stepStrayings_2, nS, Nat.add_zero, X6_rd o1, e2]
      · rw [upF_self]
        by_cases hli : l = i
        · subst hli; exact pk_us
        · rw [pk_un hli]; exact z1 l (by omega))
    (fun h1 _ => by simp (disch := omega) only [s_X6_stepStrayings_2, b_X6_stepStrayings_2, nS, Nat.add_zero])
    (h := h) ⟨A, o, Fr.rf, rfl, fun l hl => by omega⟩
  obtain ⟨h3, e3, A3, o3, r3, y3, D3, z3, p3⟩ := q_lp1 (step := s_X6_stepStrayings_24 a b) (fun l h' => ∃ A', OB h' a 6 ptL A' B I J ∧ Fr h h' a (a + 8) ∧ A' 1 = A 1 ∧ ∃ D', (∀ j, j < mbL m → A' 2 j = nI (D' j)) ∧ Dp m k D l 0 D') (mbL m) 0 (by omega)
    (fun l h1 hl ⟨A1, o1, r1, y1, D1, z1, p1⟩ => by
      have hf := fn_le ok hl
      have hDl := hD l hl
      have rl := row l hl
      obtain ⟨h2, e2, A2, o2, r2, y2, D2, z2, p2⟩ := q_lp1 (step := s_X6_stepStrayings_40 a b (nI l)) (fun f h' => ∃ A', OB h' a 6 ptL A' B I J ∧ Fr h h' a (a + 8) ∧ A' 1 = A 1 ∧ ∃ D', (∀ j, j < mbL m → A' 2 j = nI (D' j)) ∧ Dp m k D l f D') (fn m l) 0 (by omega)
        (fun f h1 hf2 ⟨A1, o1, r1, y1, D1, z1, p1⟩ => by
          have c1 := ck r1
          have hg := gg_lt ok hl hf2
          have b3 := sty_le f
          have hD1 := (p1 _ hg).1
          have e1 : A1 1 l = nI (D l) := by rw [y1]; exact rl
          obtain ⟨h2, e2, o2, r2⟩ := X6_s2 o1 (i := gg m l f) (nI (min (D1 (gg m l f)) (D l + sty f))) (by omega)
          refine ⟨h2, ?_, _, o2, r1.tr r2, by rw [upF_ne _ _ (show (1 : Nat) ≠ 2 by decide)]; exact y1, _, fun j hj => ?_, p1.step ok hk hl hf2⟩
          · have e4 := z1 _ hg
            rcases Nat.lt_or_ge (D l + sty f) (D1 (gg m l f)) with h5 | h5
            · rw [Nat.min_eq_right (by omega)] at e2
              simp (disch := omega) only [s_X6_stepStrayings_40, b_X6_stepStrayings_40, nS, Nat.add_zero, cS c1, ← show sty f = (if f = 0 then 0 else 1) from rfl, X6_rd o1, e1, e4, F_J9_min_7cf53, e2]
            · rw [Nat.min_eq_left (by omega)] at e2
              simp (disch := omega) only [s_X6_stepStrayings_40, b_X6_stepStrayings_40, nS, Nat.add_zero, cS c1, ← show sty f = (if f = 0 then 0 else 1) from rfl, X6_rd o1, e1, e4, F_J9_min_7cf53, e2]
          · rw [upF_self]
            by_cases hjg : j = gg m l f
            · subst hjg; rw [pk_us, if_pos rfl]
            · rw [pk_un hjg, if_neg hjg]; exact z1 j hj)
        (fun h1 ⟨A1, o1, r1, y1, D1, z1, p1⟩ => by simp (disch := omega) only [s_X6_stepStrayings_40, b_X6_stepStrayings_40, nS, Nat.add_zero, cS (ck r1)])
        (h := h1) ⟨A1, o1, r1, y1, D1, z1, p1⟩
      refine ⟨h2, ?_, A2, o2, r2, y2, D2, z2, p2.next (Nat.le_refl _)⟩
      simp (disch := omega) only [s_X6_stepStrayings_24, b_X6_stepStrayings_24, nS, Nat.add_zero, cS (ck r1), e2])
    (fun h1 ⟨A1, o1, r1, y1, D1, z1, p1⟩ => by simp (disch := omega) only [s_X6_stepStrayings_24, b_X6_stepStrayings_24, nS, Nat.add_zero, cS (ck r1)])
    (h := h1) ⟨A1, o1, r1, y1, fun _ => 1000000, fun j hj => z1 j (by omega), fun j hj => ⟨Nat.le_refl _, fun u hu => ⟨fun q => by have q : 1000000 ≤ u := q; omega, fun ⟨l', f', q, _⟩ => by omega⟩⟩⟩
  obtain ⟨h4, e4, o4, r4⟩ := X6_c21 o3 (n := 20) (by omega)
  refine ⟨h4, _, D3, ?_, o4, r3.tr r4, fun l hl => ?_, p3⟩
  · simp (disch := omega) only [F_X6_stepStrayings, j_X6_stepStrayings_109, nS, e1, e3, X6_rd o3, e4]
  · rw [upF_self, cpy_in (by omega)]
    exact z3 l hl
theorem c_soon (o : OB h a 6 ptL A B I J) (c : CB h b m) (fo : FO m) (hd : b + 12 ≤ a ∨ a + 8 ≤ b) {s k : Nat} (hs : s < 10) (hk : k < 10) (h0 : 0 < mbL m) : ∃ h' A' r, F_X6_linesUpTo h a b (nI s) (nI k) = some (r, h') ∧ OB h' a 6 ptL A' B I J ∧ Fr h h' a (a + 8) ∧ Ans (Hit m s k) r := by
  have ok := c.1
  have hL := L_le ok
  have ck : ∀ {h'}, Fr h h' a (a + 8) → CB h' b m := fun r => c.kept (fun q q1 q2 => r q (by omega))
  obtain ⟨h1, e1, A1, o1, r1, z1⟩ := q_lp1 (step := s_X6_linesUpTo_3 a b (nI s) (nI k)) (fun i h' => ∃ A', OB h' a 6 ptL A' B I J ∧ Fr h h' a (a + 8) ∧ ∀ l, l < i → A' 1 l = nI (if l = 0 then 0 else 1000000)) 20 0 (by omega)
    (fun i h1 hi ⟨A1, o1, r1, z1⟩ => by
      obtain ⟨h2, e2, o2, r2⟩ := X6_s1 o1 (i := i) (nI (if i = 0 then 0 else 1000000)) (by omega)
      have c1 := ck r1
      refine ⟨h2, ?_, _, o2, r1.tr r2, fun l hl => ?_⟩
      · by_cases hi0 : i = 0
        · rw [if_pos hi0] at e2
          simp (disch := omega) only [s_X6_linesUpTo_3, b_X6_linesUpTo_3, nS, Nat.add_zero, X6_rd o1, cS c1, e2]
        · rw [if_neg hi0] at e2
          simp (disch := omega) only [s_X6_linesUpTo_3, b_X6_linesUpTo_3, nS, Nat.add_zero, X6_rd o1, e2]
      · rw [upF_self]
        by_cases hli : l = i
        · subst hli; exact pk_us
        · rw [pk_un hli]; exact z1 l (by omega))
    (fun h1 _ => by simp (disch := omega) only [s_X6_linesUpTo_3, b_X6_linesUpTo_3, nS, Nat.add_zero])
    (h := h) ⟨A, o, Fr.rf, fun l hl => by omega⟩
  -- a hit, by the strayings
  have hitD : ∀ n D, Dn m k n D → (Hit m s k n ↔ ∃ l, l < mbL m ∧ D l ≤ k ∧ sc m l = s) := by
    intro n D d
    constructor
    · rintro ⟨i, q1, q2, q3, q4⟩
      refine ⟨i % 20, q2, ((d _ q2).2 k (Nat.le_refl _)).mpr ⟨i / 20, by omega, ?_⟩, q3⟩
      rw [show 20 * (i / 20) + i % 20 = i by omega]
      exact q4
    · rintro ⟨l, q1, q2, q3⟩
      obtain ⟨u, q4, q5⟩ := ((d l q1).2 k (Nat.le_refl _)).mp q2
      have e : (20 * u + l) % 20 = l := by omega
      exact ⟨20 * u + l, by omega, by rw [e]; exact q1, by rw [e]; exact q3, q5⟩
  have lp : ∃ r, q_lp (s_X6_linesUpTo_45 a b (nI s) (nI k)) q_N (nI 1, h1) = some r ∧ ∃ hh A', OB hh a 6 ptL A' B I J ∧ Fr h hh a (a + 8) ∧ ((∃ n, r = .inl (nI (n + 1), hh) ∧ n < 20 ∧ Hit m s k n ∧ ∀ n', n' < n → ¬ Hit m s k n') ∨ (r = .inr hh ∧ ∀ n, n < 20 → ¬ Hit m s k n)) := by
    refine q_lp_inv (fun st => ∃ n, n ≤ 20 ∧ st.1 = nI (n + 1) ∧ (∀ n', n' < n → ¬ Hit m s k n') ∧ ∃ A' D, OB st.2 a 6 ptL A' B I J ∧ Fr h st.2 a (a + 8) ∧ (∀ l, l < mbL m → A' 1 l = nI (D l)) ∧ Dn m k n D) (fun st => 21 - st.1.toNatClampNeg) _ ?_ q_N (nI 1, h1) ⟨0, by omega, rfl, fun n' q => by omega, A1, fun l => if l = 0 then 0 else 1000000, o1, r1, fun l hl => z1 l (by omega), fun l hl => ⟨by dsimp only; split <;> omega, fun u hu => ?_⟩⟩ (q_lt_N (by dsimp only; omega))
    · rintro ⟨x, hh⟩ ⟨n, hn, hx, hno, A1, D, o1, r1, row, d⟩
      dsimp only at hx o1 r1
      subst hx
      have c1 := ck r1
      by_cases hn20 : n = 20
      · refine Or.inr ⟨.inr hh, ?_, hh, A1, o1, r1, Or.inr ⟨rfl, fun n' q => hno n' (by omega)⟩⟩
        simp (disch := omega) only [s_X6_linesUpTo_45, b_X6_linesUpTo_45, nS]
      · have st : ∀ l, l < mbL m → s_X6_linesUpTo_55 hh a b (nI s) (nI k) (nI (n + 1)) (nI l) = if D l ≤ k ∧ sc m l = s then some (.inr (.inl ())) else some (.inl (nI (l + 1))) := by
          intro l hl
          have hsc := (sc_ok ok hl).2
          have hDl := (d l hl).1
          have e := row l hl
          by_cases q1 : D l ≤ k
          · by_cases q2 : sc m l = s
            · rw [if_pos ⟨q1, q2⟩]
              simp (disch := omega) only [s_X6_linesUpTo_55, b_X6_linesUpTo_55, nS, cS c1, X6_rd o1, e]
            · rw [if_neg (fun q => q2 q.2)]
              simp (disch := omega) only [s_X6_linesUpTo_55, b_X6_linesUpTo_55, nS, cS c1, X6_rd o1, e]
          · rw [if_neg (fun q => q1 q.1)]
            simp (disch := omega) only [s_X6_linesUpTo_55, b_X6_linesUpTo_55, nS, cS c1, X6_rd o1, e]
        have hstop : s_X6_linesUpTo_55 hh a b (nI s) (nI k) (nI (n + 1)) (nI (mbL m)) = some (.inr (.inr ())) := by
          simp (disch := omega) only [s_X6_linesUpTo_55, b_X6_linesUpTo_55, nS, cS c1]
        rcases q_lp_find (ρ := Unit ⊕ Unit) (step := s_X6_linesUpTo_55 hh a b (nI s) (nI k) (nI (n + 1))) (mbL m) (by omega) (fun l => D l ≤ k ∧ sc m l = s) (yes := fun _ => .inl ()) (no := .inr ()) (fun i hi hp => by rw [st i hi, if_pos hp]) (fun i hi hp => by rw [st i hi, if_neg hp]) hstop (N := q_N) (q_lt_N (by omega)) with ⟨i, hi, hp, -, he⟩ | ⟨hp, he⟩
        · refine Or.inr ⟨.inl (nI (n + 1), hh), ?_, hh, A1, o1, r1, Or.inl ⟨n, rfl, by omega, (hitD n D d).mpr ⟨i, hi, hp⟩, hno⟩⟩
          simp (disch := omega) only [s_X6_linesUpTo_45, b_X6_linesUpTo_45, nS, he]
        · obtain ⟨h2, A2, D2, e2, o2, r2, row2, p2⟩ := c_stepS o1 c1 hd hk (fun l hl => (d l hl).1) row
          refine Or.inl ⟨(nI (n + 1 + 1), h2), ?_, ⟨n + 1, by omega, rfl, fun n' q => ?_, A2, D2, o2, r1.tr r2, row2, d.step ok fo p2⟩, ?_⟩
          · simp (disch := omega) only [s_X6_linesUpTo_45, b_X6_linesUpTo_45, nS, he, o1.ob, e2]
          · by_cases hnn : n' = n
            · subst hnn
              intro hq
              obtain ⟨l, q1, q2⟩ := (hitD n' D d).mp hq
              exact hp l q1 q2
            · exact hno n' (by omega)
          · show 21 - (nI (n + 1 + 1)).toNatClampNeg < 21 - (nI (n + 1)).toNatClampNeg
            rw [nI_cl (by omega), nI_cl (by omega)]
            omega
    · dsimp only
      constructor
      · intro q
        by_cases hl0 : l = 0
        · subst hl0; exact ⟨0, by omega, rfl⟩
        · rw [if_neg hl0] at q; omega
      · rintro ⟨u', q1, q2⟩
        have q2 : 20 * u' + l = 0 := q2
        rw [if_pos (by omega)]
        omega
  obtain ⟨r, er, hh, A2, o2, r2, hr⟩ := lp
  rcases hr with ⟨n, rfl, hn, hq, hno⟩ | ⟨rfl, hno⟩
  · refine ⟨hh, A2, nI (n + 1), ?_, o2, r2, Or.inr ⟨n, by omega, hq, hno, rfl⟩⟩
    simp (disch := omega) only [F_X6_linesUpTo, nS, e1, er]
  · refine ⟨hh, A2, m1, ?_, o2, r2, Or.inl ⟨rfl, fun n hq => ?_⟩⟩
    · simp (disch := omega) only [F_X6_linesUpTo, nS, e1, er]
    · -- the least of them would be short
      have : ∃ n', Hit m s k n' ∧ ∀ n'', n'' < n' → ¬ Hit m s k n'' := by
        induction n using Nat.strongRecOn with
        | ind n ih =>
          by_cases hx : ∃ n', n' < n ∧ Hit m s k n'
          · obtain ⟨n', q1, q2⟩ := hx
            exact ih n' q1 q2
          · exact ⟨n, hq, fun n'' q1 q2 => hx ⟨n'', q1, q2⟩⟩
      obtain ⟨n', q1, q2⟩ := this
      exact hno n' (hit_short ok fo h0 q1 q2) q1
/-- a book without lines -/
theorem c_soon0 (o : OB h a 6 ptL A B I J) (c : CB h b m) (hd : b + 12 ≤ a ∨ a + 8 ≤ b) {s k : Nat} (hs : s < 10) (hk : k < 10) (h0 : mbL m = 0) : ∃ h' A', F_X6_linesUpTo h a b (nI s) (nI k) = some (m1, h') ∧ OB h' a 6 ptL A' B I J ∧ Fr h h' a (a + 8) := by
  have ok := c.1
  have ck : ∀ {h'}, Fr h h' a (a + 8) → CB h' b m := fun r => c.kept (fun q q1 q2 => r q (by omega))
  obtain ⟨h1, e1, A1, o1, r1⟩ := q_lp1 (step := s_X6_linesUpTo_3 a b (nI s) (nI k)) (fun i h' => ∃ A', OB h' a 6 ptL A' B I J ∧ Fr h h' a (a + 8)) 20 0 (by omega)
    (fun i h1 hi ⟨A1, o1, r1⟩ => by
      obtain ⟨h2, e2, o2, r2⟩ := X6_s1 o1 (i := i) (nI 1000000) (by omega)
      have c1 := ck r1
      refine ⟨h2, ?_, _, o2, r1.tr r2⟩
      by_cases hi0 : i = 0
      · simp (disch := omega) only [s_X6_linesUpTo_3, b_X6_linesUpTo_3, nS, Nat.add_zero, X6_rd o1, cS c1, e2]
      · simp (disch := omega) only [s_X6_linesUpTo_3, b_X6_linesUpTo_3, nS, Nat.add_zero, X6_rd o1, e2])
    (fun h1 _ => by simp (disch := omega) only [s_X6_linesUpTo_3, b_X6_linesUpTo_3, nS, Nat.add_zero])
    (h := h) ⟨A, o, Fr.rf⟩
  have lp : ∃ r, q_lp (s_X6_linesUpTo_45 a b (nI s) (nI k)) q_N (nI 1, h1) = some r ∧ ∃ hh A', OB hh a 6 ptL A' B I J ∧ Fr h hh a (a + 8) ∧ r = .inr hh := by
    refine q_lp_inv (fun st => ∃ n, n ≤ 20 ∧ st.1 = nI (n + 1) ∧ ∃ A', OB st.2 a 6 ptL A' B I J ∧ Fr h st.2 a (a + 8)) (fun st => 21 - st.1.toNatClampNeg) _ ?_ q_N (nI 1, h1) ⟨0, by omega, rfl, A1, o1, r1⟩ (q_lt_N (by dsimp only; omega))
    rintro ⟨x, hh⟩ ⟨n, hn, hx, A1, o1, r1⟩
    dsimp only at hx o1 r1
    subst hx
    have c1 := ck r1
    by_cases hn20 : n = 20
    · refine Or.inr ⟨.inr hh, ?_, hh, A1, o1, r1, rfl⟩
      simp (disch := omega) only [s_X6_linesUpTo_45, b_X6_linesUpTo_45, nS]
    · have he : q_lp (s_X6_linesUpTo_55 hh a b (nI s) (nI k) (nI (n + 1))) q_N (nI 0) = some (.inr ()) := by
        refine q_lp_stop (n := 999999) ?_
        simp (disch := omega) only [s_X6_linesUpTo_55, b_X6_linesUpTo_55, nS, cS c1]
      obtain ⟨h2, A2, D2, e2, o2, r2, -⟩ := c_stepS o1 c1 hd hk (D := fun _ => 0) (fun l hl => by omega) (fun l hl => by omega)
      refine Or.inl ⟨(nI (n + 1 + 1), h2), ?_, ⟨n + 1, by omega, rfl, A2, o2, r1.tr r2⟩, ?_⟩
      · simp (disch := omega) only [s_X6_linesUpTo_45, b_X6_linesUpTo_45, nS, he, o1.ob, e2]
      · show 21 - (nI (n + 1 + 1)).toNatClampNeg < 21 - (nI (n + 1)).toNatClampNeg
        rw [nI_cl (by omega), nI_cl (by omega)]
        omega
  obtain ⟨r, er, hh, A2, o2, r2, rfl⟩ := lp
  refine ⟨hh, A2, ?_, o2, r2⟩
  simp (disch := omega) only [F_X6_linesUpTo, nS, e1, er]
end SOC
theorem Ans.cg {P P' : Nat → Prop} {r : Int32} (h : Ans P r) (hp : ∀ n, P n ↔ P' n) : Ans P' r := by
  rcases h with ⟨e, h⟩ | ⟨n, h0, h1, h2, e⟩
  · exact Or.inl ⟨e, fun n q => h n ((hp n).mpr q)⟩
  · exact Or.inr ⟨n, h0, (hp n).mp h1, fun n' q1 q2 => h2 n' q1 ((hp n').mpr q2), e⟩
theorem d_soon {h : qH} {a : Nat} {A : Nat → Nat → Int32} {B : Nat → Nat → Int64} {I : Nat → Int32} {J : Nat → Int64} {b : Nat → Int32} {k : Nat} (o : OB h a 12 mdL A B I J) (hb : HB A I b k) {s kk : Nat} (hs : s < 10) (hk : kk < 10) (h0L : 0 < mbL (bMB b)) : ∃ h1 h2 A2 x, q_lp (s_X12_soonest_42 a (nI s) (nI kk)) q_N (nI 0, h) = some h1 ∧ q_lp (s_X12_soonest_78 a (nI s) (nI kk)) q_N (nI 1, h1) = some h2 ∧ q_lp (s_X12_soonest_223 h2 a (nI s) (nI kk)) q_N (nI 1000000, nI 0) = some (nI x) ∧ x ≤ 1000000 ∧ OB h2 a 12 mdL A2 B I J ∧ Fr h h2 a (a + 27) ∧ On [30] A A2 ∧ Ans (Hit (bMB b) s kk) (if x < 1000000 then nI x else m1) := by
  obtain ⟨h1, h2, V, A2, e1, e2, ri, ck, o2, r2, n2, z2⟩ := d_soonR o hb hs hk h0L
  have hb2 : HB A2 I b k := hb.cg (n2 6 (by decide)) (n2 25 (by decide)) (n2 26 (by decide)) rfl rfl
  refine ⟨h1, h2, A2, _, e1, e2, d_soonMin o2 hb2 hs hk (fun x => (ri.2.1 x).2) z2, mnC_le _ _ _, o2, r2, n2, ?_⟩
  refine (ri.ans ck (fun i hi => by unfold dgS; rw [if_neg (by omega)]) (by omega)).cg (fun n => ?_)
  constructor
  · rintro ⟨i, q1, q2, q3⟩
    rw [Nat.zero_add] at q3
    have q2 := of_decide_eq_true q2
    exact ⟨i, q1, q2.1, q2.2, q3⟩
  · rintro ⟨i, q1, q2, q3, q4⟩
    exact ⟨i, q1, decide_eq_true ⟨q2, q3⟩, by rw [Nat.zero_add]; exact q4⟩
section CALLS
variable {h : qH} {c nx : Nat} {σ : SG} {im : Nat → Option SG}
theorem q_soonest (s : ST h c nx σ im) (x y z : Int32) : QW h c σ im (F_X11_soonest h c x y z) (fun h1 => F_X12_soonest h1 (c + 80) x y z) := by
  obtain ⟨ok, ⟨xc, td, sc, -⟩, rm, -⟩ := s
  have hc0 := ok.2.1 0 (by omega)
  rcases nRg z 0 9 (by omega) with hz | ⟨j, rfl, -, hj⟩
  · refine QW.bad (v := m1) rm Fr.rf sc ?_ (fun h1 e1 ob1 => ?_)
    · rcases nOut_or x (n := sC σ 0) (by omega) with hx | ⟨k, hk, rfl⟩
      · simp (disch := omega) only [F_X11_soonest, xS xc, tS td, nS, t_bookOut td hx]
      · rcases scn y with ⟨s1, s2⟩ | ⟨s, hs, rfl, s1, s2⟩
        · simp (disch := omega) only [F_X11_soonest, xS xc, tS td, nS, t_bookIn td ok hk, s1]
        · rcases hz with h0 | ⟨n, rfl, hn, h0⟩
          · simp (disch := omega) only [F_X11_soonest, xS xc, tS td, nS, t_bookIn td ok hk, s1, gN h0]
          · simp (disch := omega) only [F_X11_soonest, xS xc, tS td, nS, t_bookIn td ok hk, s1]
    · have := in_out h1 (by omega) (by omega) hz
      simp (disch := omega) only [F_X12_soonest, nS, e1, this]
  have i2 : ∀ h1, F_X12_in h1 (nI j) (nI 0) (nI 9) = some (nI 1) := fun h1 => in_in h1 (by omega) (by omega) hj
  rcases scn y with ⟨s1, s2⟩ | ⟨s, hs, rfl, s1, s2⟩
  · refine QW.bad (v := m1) rm Fr.rf sc ?_ (fun h1 e1 ob1 => ?_)
    · rcases nOut_or x (n := sC σ 0) (by omega) with hx | ⟨k, hk, rfl⟩
      · simp (disch := omega) only [F_X11_soonest, xS xc, tS td, nS, t_bookOut td hx]
      · simp (disch := omega) only [F_X11_soonest, xS xc, tS td, nS, t_bookIn td ok hk, s1]
    · simp (disch := omega) only [F_X12_soonest, nS, e1, i2, s2]
  rcases nOut_or x (n := sC σ 0) (by omega) with hx | ⟨k, hk, rfl⟩
  · refine QW.nob (v := m1) ok rm sc hx ?_ (fun h1 h2 e1 ob1 e2 => ?_)
    · simp (disch := omega) only [F_X11_soonest, xS xc, tS td, nS, t_bookOut td hx]
    · simp (disch := omega) only [F_X12_soonest, nS, e1, s2, i2, ob1, e2]
  have cb := t_CB td ok hk
  have okm := cb.1
  have hL := L_le okm
  have hsc := sc
  obtain ⟨-, -, ⟨A6, B6, I6, J6, o6⟩, -, -, -⟩ := sc
  rcases Nat.eq_zero_or_pos (mbL (bMB (sB σ k))) with h0 | h0
  · obtain ⟨hc, A7, e7, o7, r7⟩ := c_soon0 o6 cb (by omega) hs (k := j) (by omega) h0
    have fr7 : Fr h hc (c + 53) (c + 80) := r7.wd (by omega) (by omega)
    have sc7 : SC hc c := hsc.u6 r7 ⟨A7, B6, I6, J6, o7⟩
    refine QW.go (v := m1) [] ok rm hk (hc := hc) ?_ fr7 sc7 (by decide) (fun h1 h2 A B I J e1 ob1 e2 o2 hb => ⟨h2, A, B, I, J, ?_, o2, Fr.rf, On.rf⟩)
    · simp (disch := omega) only [F_X11_soonest, xS xc, tS td, nS, t_bookIn td ok hk, s1, o6.ob, e7]
    · have e24 := (d_pack o2 hb).1
      rw [h0] at e24
      simp (disch := omega) only [F_X12_soonest, nS, e1, s2, i2, ob1, e2, e24]
  have fo := FO_b (ok.2.2.1 k hk)
  obtain ⟨hc, A7, r, e7, o7, r7, an⟩ := c_soon o6 cb fo (by omega) hs (k := j) (by omega) h0
  have fr7 : Fr h hc (c + 53) (c + 80) := r7.wd (by omega) (by omega)
  have sc7 : SC hc c := hsc.u6 r7 ⟨A7, B6, I6, J6, o7⟩
  refine QW.go (v := r) [30] ok rm hk ?_ fr7 sc7 (by decide) (fun h1 h2 A B I J e1 ob1 e2 o2 hb => ?_)
  · simp (disch := omega) only [F_X11_soonest, xS xc, tS td, nS, t_bookIn td ok hk, s1, o6.ob, e7]
  · obtain ⟨h3, h4, A4, x4, e3, e4, e5, hx4, o4, r4, n4, an2⟩ := d_soon o2 hb hs (kk := j) (by omega) h0
    refine ⟨h4, A4, B, I, J, ?_, o4, r4, n4⟩
    rw [an.eq an2]
    by_cases hh : x4 < 1000000
    · rw [if_pos hh]
      simp (disch := omega) only [F_X12_soonest, nS, e1, s2, i2, ob1, e2, d_pack o2 hb, e3, e4, e5]
    · rw [if_neg hh]
      simp (disch := omega) only [F_X12_soonest, nS, e1, s2, i2, ob1, e2, d_pack o2 hb, e3, e4, e5]
end CALLS
