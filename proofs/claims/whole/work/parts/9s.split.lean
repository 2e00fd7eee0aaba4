/-! ===== the call text: the class splits the tape ===== -/
section SPL
variable {h : qH} {t a : Nat} {σ : SG} {z : Nat → Nat}
theorem RK.tk {n : Nat} {f : Nat → Int32 × Int32 × Int32} {u v : Int32} (r : RK h a n f u v) : q_fI h a 7 3 = some (nI n) ∧ q_fI h a 7 4 = some u ∧ q_fI h a 7 5 = some v := by
  obtain ⟨A, B, I, J, o, i3, i4, i5, -⟩ := r
  exact ⟨by rw [← i3]; exact o.fI (k := 3) rfl, by rw [← i4]; exact o.fI (k := 4) rfl, by rw [← i5]; exact o.fI (k := 5) rfl⟩
theorem RK.kind {n : Nat} {f : Nat → Int32 × Int32 × Int32} {u v : Int32} (r : RK h a n f u v) (hn : n ≤ 601) {k : Nat} (hk : k < n) : F_X7_kindAt h a (nI k) = some (f k).1 := by
  obtain ⟨A, B, I, J, o, i3, i4, i5, hr⟩ := r
  have := (hr k hk).1
  simp (disch := omega) only [F_X7_kindAt, nS, X7_rd o, i3, this]
theorem RK.kindE {n : Nat} {f : Nat → Int32 × Int32 × Int32} {u v : Int32} (r : RK h a n f u v) (hn : n ≤ 601) {k : Nat} (hk : n ≤ k) (h31 : k < 2 ^ 31) : F_X7_kindAt h a (nI k) = some (nI 4) := by
  obtain ⟨A, B, I, J, o, i3, i4, i5, hr⟩ := r
  simp (disch := omega) only [F_X7_kindAt, nS, X7_rd o, i3]
theorem RK.val {n : Nat} {f : Nat → Int32 × Int32 × Int32} {u v : Int32} (r : RK h a n f u v) (hn : n ≤ 601) {k : Nat} (hk : k < n) : F_X7_valueAt h a (nI k) = some (f k).2.1 := by
  obtain ⟨A, B, I, J, o, i3, i4, i5, hr⟩ := r
  have := (hr k hk).2.1
  simp (disch := omega) only [F_X7_valueAt, nS, X7_rd o, i3, this]
theorem RK.start {n : Nat} {f : Nat → Int32 × Int32 × Int32} {u v : Int32} (r : RK h a n f u v) (hn : n ≤ 601) {k : Nat} (hk : k < n) : F_X7_startAt h a (nI k) = some (f k).2.2 := by
  obtain ⟨A, B, I, J, o, i3, i4, i5, hr⟩ := r
  have := (hr k hk).2.2
  simp (disch := omega) only [F_X7_startAt, nS, X7_rd o, i3, this]
theorem kd_le (σ : SG) (s p : Nat) : kd σ s p ≤ 4 := by
  unfold kd
  split
  · omega
  · split
    · split <;> omega
    · split
      · omega
      · split <;> omega
theorem kd_end {σ : SG} {s p : Nat} : kd σ s p = 4 ↔ sZ σ ≤ p := by
  unfold kd
  by_cases hp : sZ σ ≤ p
  · rw [if_pos hp]; exact ⟨fun _ => hp, fun _ => rfl⟩
  · rw [if_neg hp]
    refine ⟨fun q => ?_, fun q => absurd q hp⟩
    split at q
    · split at q <;> omega
    · split at q
      · omega
      · split at q <;> omega
/-- from a place in the white ahead of a token the token is the same -/
theorem sta_ws {σ : SG} {p : Nat} (hp : p < sZ σ) (hw : ws σ p = true) : sta σ (p + 1) = sta σ p := by
  obtain ⟨g1, g2, g3, g4⟩ := ru_ok (ws σ) (show p ≤ sZ σ by omega)
  refine ru_un (ws σ) ?_ g2 (fun q q1 q2 => g3 q (by omega) q2) g4
  rcases Nat.lt_or_ge p (ru (ws σ) (sZ σ) p) with h1 | h1
  · exact h1
  · have h2 : ru (ws σ) (sZ σ) p = p := by omega
    rw [h2] at g4
    rcases g4 with g4 | g4
    · omega
    · rw [hw] at g4; cases g4
theorem sta_at {σ : SG} {p : Nat} (hp : p ≤ sZ σ) (hw : ws σ p = false) : sta σ p = p := ru_un (ws σ) (Nat.le_refl _) hp (fun q q1 q2 => by omega) (Or.inr hw)
theorem sta_Z {σ : SG} : sta σ (sZ σ) = sZ σ := ru_un (ws σ) (Nat.le_refl _) (Nat.le_refl _) (fun q q1 q2 => by omega) (Or.inl rfl)
/-- how the splitting stands at a place -/
def SPk (h0 : qH) (a t : Nat) (σ : SG) (s : Nat) (u v : Int32) (h : qH) (p i : Nat) : Prop := p ≤ sZ σ ∧ RK h a i (tok σ s) u v ∧ sta σ p = bg σ i ∧ (∀ k, k < i → kd σ s (bg σ k) < 3) ∧ i ≤ p ∧ Fr h0 h a (a + 4)
theorem c_split (tx : Tx h z) (d : TD h t σ) (hz : sZ σ ≤ 600) (hd : a + 4 ≤ t ∨ t + 51 ≤ a) (hlow : ∀ i, i < 18 → z (4 + i) < a) {s : Nat} (hs : s < 4) {n0 : Nat} {f0 : Nat → Int32 × Int32 × Int32} {u v : Int32} (r : RK h a n0 f0 u v) : ∃ h' n, F_X7_split z h a t (nI s) = some h' ∧ RK h' a (n + 1) (tok σ s) u v ∧ n ≤ 600 ∧ (∀ k, k < n → kd σ s (bg σ k) < 3) ∧ 3 ≤ kd σ s (bg σ n) ∧ Fr h h' a (a + 4) := by
  obtain ⟨h1, e1, r1, f1⟩ : ∃ h1, q_put h a 7 3 (.int (nI 0)) = some h1 ∧ RK h1 a 0 (tok σ s) u v ∧ Fr h h1 a (a + 4) := by
    obtain ⟨A, B, I, J, o, i3, i4, i5, -⟩ := r
    obtain ⟨h1, e1, o1, r1⟩ := X7_p3 o (nI 0)
    exact ⟨h1, e1, ⟨A, B, _, J, o1, by simp (disch := omega) only [uS], by simp (disch := omega) only [uS]; exact i4, by simp (disch := omega) only [uS]; exact i5, fun k hk => by omega⟩, r1⟩
  have dk : ∀ {g}, Fr h g a (a + 4) → TD g t σ := fun f => d.kept (fun q q1 q2 => f q (by omega))
  have tk : ∀ {g}, Fr h g a (a + 4) → Tx g z := fun f i hi => by
    have := tx i hi
    unfold F_J0_length_8abf5 F_J0_charAt_5068e q_sl_ q_sc_ at *
    rw [f _ (Or.inl (hlow i hi))]
    exact this
  have key := q_lp_inv (step := s_X7_split_7 z a t (nI s)) (fun x => ∃ p i, x.1 = nI p ∧ SPk h a t σ s u v x.2 p i) (fun x => sZ σ - x.1.toNatClampNeg) (fun y => match y with
      | .inl g => ∃ n, RK g a (n + 1) (tok σ s) u v ∧ n ≤ 600 ∧ (∀ k, k < n → kd σ s (bg σ k) < 3) ∧ kd σ s (bg σ n) = 3 ∧ Fr h g a (a + 4)
      | .inr g => ∃ n, RK g a n (tok σ s) u v ∧ n ≤ 600 ∧ (∀ k, k < n → kd σ s (bg σ k) < 3) ∧ bg σ n = sZ σ ∧ Fr h g a (a + 4)) ?_ q_N (nI 0, h1) ⟨0, 0, rfl, Nat.zero_le _, r1, rfl, fun k hk => by omega, Nat.le_refl _, f1⟩ (q_lt_N (by dsimp only; omega))
  · obtain ⟨y, ey, hy⟩ := key
    have e1 : q_put h a 7 3 (.int (0 : Int32)) = some h1 := e1
    have ey : q_lp (s_X7_split_7 z a t (nI s)) q_N ((0 : Int32), h1) = some y := ey
    cases y with
    | inl g =>
      obtain ⟨n, k1, k2, k3, k4, k5⟩ := hy
      refine ⟨g, n, ?_, k1, k2, k3, by omega, k5⟩
      unfold F_X7_split
      rw [e1, Option.bind_some, ey, Option.bind_some]
      rfl
    | inr g =>
      obtain ⟨n, k1, k2, k3, k4, k5⟩ := hy
      obtain ⟨g2, e2, r2, f2⟩ := c_putT k1 (by omega)
      have hk4 : kd σ s (bg σ n) = 4 := kd_end.mpr (by omega)
      have hv : vl σ s (bg σ n) = nI 0 := by unfold vl; rw [if_pos (by omega)]
      have e2 : F_X7_put g a (nI (kd σ s (bg σ n))) (vl σ s (bg σ n)) (nI (bg σ n)) = some g2 := e2
      rw [hk4, hv, k4] at e2
      refine ⟨g2, n, ?_, r2, k2, k3, by omega, k5.tr f2⟩
      have td := dk k5
      unfold F_X7_split
      rw [e1, Option.bind_some, ey, Option.bind_some]
      show ((q_fI g t 9 6).bind fun x10 => (q_ob g a 7).bind fun _ => (F_X7_put g a (4 : Int32) (0 : Int32) x10).bind fun x14 => some x14) = some g2
      have e2 : F_X7_put g a (4 : Int32) (0 : Int32) (nI (sZ σ)) = some g2 := e2
      rw [(tS td).2.1, Option.bind_some, k1.ob, Option.bind_some, e2, Option.bind_some]
  · rintro ⟨x, g⟩ ⟨p, i, hx, hp, rk, hsta, hkd, hip, fr⟩
    dsimp only at hx rk fr
    subst hx
    have td := dk fr
    have ktx := tk fr
    rcases Nat.lt_or_ge p (sZ σ) with hlt | hge
    · have e0 := c_byte td hz hlt
      have b0 : sn σ p < 256 := sg_lt _
      by_cases hw : ws σ p = true
      · refine Or.inl ⟨(nI (p + 1), g), ?_, ⟨p + 1, i, rfl, by omega, rk, by rw [sta_ws hlt hw]; exact hsta, hkd, by omega, fr⟩, by dsimp only; rw [nI_cl (by omega), nI_cl (by omega)]; omega⟩
        rcases isW_t.mp hw with h10 | h32
        · simp (disch := omega) only [s_X7_split_7, b_X7_split_7, nS, tS td, e0]
        · simp (disch := omega) only [s_X7_split_7, b_X7_split_7, nS, tS td, e0]
      · have hwf : ws σ p = false := Bool.eq_false_iff.mpr hw
        have hpb : bg σ i = p := by rw [← hsta]; exact sta_at hp hwf
        have hnw := isW_f.mp hwf
        have hR := eR_ok σ hlt
        obtain ⟨g2, e2, r2, f2⟩ := c_addToken ktx td hz hs rk (by omega) (by omega)
        rw [hpb] at e2
        have er := c_endOfRow td hz hlt
        have ek := r2.kind (by omega) (k := i) (by omega)
        have ek : F_X7_kindAt g2 a (nI i) = some (nI (kd σ s (bg σ i))) := ek
        have hkl := kd_le σ s (bg σ i)
        have hk4 : kd σ s (bg σ i) ≠ 4 := fun q => by have := kd_end.mp q; omega
        have ob := rk.ob
        have ob2 := r2.ob
        have e3 := r2.tk.1
        have stp : s_X7_split_7 z a t (nI s) (nI p, g) = if kd σ s (bg σ i) = 3 then some (.inr (.inl g2)) else some (.inl (nI (eR σ p), g2)) := by
          by_cases h3 : kd σ s (bg σ i) = 3
          · rw [if_pos h3]
            rw [h3] at ek
            simp (disch := omega) only [s_X7_split_7, b_X7_split_7, nS, tS td, e0, er, ob, e2, e3, ob2, Nat.add_sub_cancel, ek]
          · rw [if_neg h3]
            simp (disch := omega) only [s_X7_split_7, b_X7_split_7, nS, tS td, e0, er, ob, e2, e3, ob2, Nat.add_sub_cancel, ek]
        by_cases h3 : kd σ s (bg σ i) = 3
        · rw [if_pos h3] at stp
          exact Or.inr ⟨.inl g2, stp, i, r2, by omega, hkd, h3, fr.tr f2⟩
        · rw [if_neg h3] at stp
          have hnx : pos σ (i + 1) = eR σ p := by
            show nxp σ (pos σ i) = _
            unfold nxp
            rw [show sta σ (pos σ i) = p from hpb, if_pos hlt]
          refine Or.inl ⟨(nI (eR σ p), g2), stp, ⟨eR σ p, i + 1, rfl, hR.2, r2, by unfold bg; rw [hnx], fun k hk => ?_, by omega, fr.tr f2⟩, by dsimp only; rw [nI_cl (by omega), nI_cl (by omega)]; omega⟩
          by_cases e : k = i
          · subst e; omega
          · exact hkd k (by omega)
    · have hpz : p = sZ σ := by omega
      subst hpz
      refine Or.inr ⟨.inr g, ?_, i, rk, by omega, hkd, by rw [← hsta]; exact sta_Z, fr⟩
      simp (disch := omega) only [s_X7_split_7, b_X7_split_7, nS, tS td]
end SPL
