/-! ===== call: merged ===== -/
section CALLS
variable {h : qH} {c nx : Nat} {σ : SG} {im : Nat → Option SG}
/-- a number out of lo .. hi, or in it -/
theorem nRg (y : Int32) (lo hi : Nat) (hh : hi < 2 ^ 31) : (y < nI 0 ∨ (∃ n, y = nI n ∧ n < 2 ^ 31 ∧ (n < lo ∨ hi < n))) ∨ ∃ n, y = nI n ∧ lo ≤ n ∧ n ≤ hi := by
  rcases nSg y with h0 | ⟨n, hn, rfl⟩
  · exact Or.inl (Or.inl h0)
  · rcases (show (n < lo ∨ hi < n) ∨ (lo ≤ n ∧ n ≤ hi) by omega) with h0 | h0
    · exact Or.inl (Or.inr ⟨n, rfl, hn, h0⟩)
    · exact Or.inr ⟨n, rfl, h0⟩
theorem in_out (h : qH) {y : Int32} {lo hi : Nat} (hl : lo < 2 ^ 31) (hh : hi < 2 ^ 31) (hy : y < nI 0 ∨ (∃ n, y = nI n ∧ n < 2 ^ 31 ∧ (n < lo ∨ hi < n))) : F_X12_in h y (nI lo) (nI hi) = some (nI 0) := by
  rcases hy with h0 | ⟨n, rfl, hn, h0 | h0⟩
  · simp (disch := omega) only [F_X12_in, nS, gN h0]
  · simp (disch := omega) only [F_X12_in, nS]
  · rcases Nat.lt_or_ge n lo with h1 | h1
    · simp (disch := omega) only [F_X12_in, nS]
    · simp (disch := omega) only [F_X12_in, nS]
theorem in_in (h : qH) {n lo hi : Nat} (hh : hi < 2 ^ 31) (h1 : lo ≤ n) (h2 : n ≤ hi) : F_X12_in h (nI n) (nI lo) (nI hi) = some (nI 1) := by
  simp (disch := omega) only [F_X12_in, nS]
/-- the class's own test of the same -/
theorem rg_out {α : Type} {y : Int32} {lo hi : Nat} (hl : lo < 2 ^ 31) (hh : hi < 2 ^ 31) (hy : y < nI 0 ∨ (∃ n, y = nI n ∧ n < 2 ^ 31 ∧ (n < lo ∨ hi < n))) (A B : α) (h0 : 0 < lo) : (if y < nI lo then A else if y ≤ nI hi then B else A) = A := by
  rcases hy with h0 | ⟨n, rfl, hn, h0 | h0⟩
  · simp (disch := omega) only [nS, gN h0]
  · simp (disch := omega) only [nS]
  · rcases Nat.lt_or_ge n lo with h1 | h1
    · simp (disch := omega) only [nS]
    · simp (disch := omega) only [nS]
theorem q_merged (s : ST h c nx σ im) (x y z w : Int32) : QW h c σ im (F_X11_merged h c x y z w) (fun h1 => F_X12_merged h1 (c + 80) x y z w) := by
  obtain ⟨ok, ⟨xc, td, sc, -⟩, rm, -⟩ := s
  have triv : (∃ h', F_X12_merged h (c + 80) x y z w = some (m1, h') ∧ Fr h h' (c + 80) (c + 80 + 27) ∧ RM h' (c + 80) σ im) → F_X11_merged h c x y z w = some (m1, h) → QW h c σ im (F_X11_merged h c x y z w) (fun h1 => F_X12_merged h1 (c + 80) x y z w) := fun ⟨h', e1, e2, e3⟩ e4 => ⟨m1, h, h', e4, e1, Fr.rf, sc, e2, e3⟩
  have hc2 := ok.2.1 0 (by omega)
  have hbx := nOut_or x (n := sC σ 0) (by omega)
  have hby := nOut_or y (n := sC σ 0) (by omega)
  rcases nRg z 1 12 (by omega) with hz | ⟨n, rfl, hn1, hn2⟩
  · obtain ⟨h1, A, B, I, J, e1, o1, pm, ki, r1⟩ := rm.p0
    refine triv ⟨h1, ?_, r1, ⟨A, B, I, J, o1, pm, ki⟩⟩ ?_
    · have := in_out h1 (lo := 1) (hi := 12) (by omega) (by omega) hz
      simp (disch := omega) only [F_X12_merged, nS, e1, this]
    · rcases hbx with hx | ⟨k, hk, rfl⟩ <;> rcases hby with hy | ⟨k', hk', rfl⟩
      · simp (disch := omega) only [F_X11_merged, xS xc, tS td, nS, t_bookOut td hx, t_bookOut td hy]
      · simp (disch := omega) only [F_X11_merged, xS xc, tS td, nS, t_bookOut td hx, t_bookIn td ok hk']
      · simp (disch := omega) only [F_X11_merged, xS xc, tS td, nS, t_bookIn td ok hk, t_bookOut td hy]
      · simp (disch := omega) only [F_X11_merged, xS xc, tS td, nS, t_bookIn td ok hk, t_bookIn td ok hk']
        exact rg_out (lo := 1) (hi := 12) (by omega) (by omega) hz _ _ (by omega)
  rcases hbx with hx | ⟨k, hk, rfl⟩
  · obtain ⟨h1, A, B, I, J, e1, o1, pm, ki, r1⟩ := rm.p0
    obtain ⟨h2, e2, rm2, r2⟩ := hand_out o1 pm ki ok hx
    refine triv ⟨h2, ?_, r1.tr r2, rm2⟩ ?_
    · simp (disch := omega) only [F_X12_merged, nS, e1, in_in h1 (lo := 1) (hi := 12) (by omega) hn1 hn2, o1.ob, e2]
    · rcases hby with hy | ⟨k', hk', rfl⟩
      · simp (disch := omega) only [F_X11_merged, xS xc, tS td, nS, t_bookOut td hx, t_bookOut td hy]
      · simp (disch := omega) only [F_X11_merged, xS xc, tS td, nS, t_bookOut td hx, t_bookIn td ok hk']
  rcases hby with hy | ⟨k', hk', rfl⟩
  · obtain ⟨h1, A, B, I, J, e1, o1, pm, ki, r1⟩ := rm.p0
    obtain ⟨h2, A2, I2, e2, o2, hb, pm2, ki2, r2⟩ := hand_in o1 pm ki ok hk
    obtain ⟨h3, A3, e3, o3, r3, n3, z3⟩ := d_layRow o2 hb (r := 34) (q := c + 80 + 19) (Or.inl ⟨rfl, rfl⟩) (n := n) (by omega)
    obtain ⟨h5, e5, o5, r5⟩ := X12_p36 o3 (nI (pl (bMB (sB σ k)) n (st0 (bMB (sB σ k)))))
    obtain ⟨h6, e6, rm6, r6⟩ := hand_out o5 (pm2.cg n3 (by decide)) (ki2.cg n3 (by decide)) ok hy
    refine triv ⟨h6, ?_, (((r1.tr r2).tr r3).tr r5).tr r6, rm6⟩ ?_
    · simp (disch := omega) only [F_X12_merged, nS, e1, in_in h1 (lo := 1) (hi := 12) (by omega) hn1 hn2, o1.ob, e2, X12_rd o2, e3, e5, o5.ob, e6]
    · simp (disch := omega) only [F_X11_merged, xS xc, tS td, nS, t_bookIn td ok hk, t_bookOut td hy]
  clear triv
  have cb := t_CB td ok hk
  have cc := t_CB td ok hk'
  have hsc := sc
  obtain ⟨-, -, -, -, ⟨A4, B4, I4, J4, o4⟩, -⟩ := sc
  obtain ⟨hc, A6, I6, e6, o6, r6, i4, i5, i6, z6⟩ := c_merge o4 cb (by omega) cc (by omega) hn2
  obtain ⟨b, hbe⟩ : ∃ b, b = sB σ k := ⟨_, rfl⟩
  obtain ⟨b', hbe'⟩ : ∃ b, b = sB σ k' := ⟨_, rfl⟩
  rw [← hbe] at cb i4 i6 z6
  rw [← hbe'] at cc i5 i6 z6
  have xc6 : XC hc c := by unfold XC at *; rw [r6 _ (by omega)]; exact xc
  have fr6 : Fr h hc (c + 53) (c + 80) := r6.wd (by omega) (by omega)
  have sc6 : SC hc c := hsc.u4 r6 ⟨A6, B4, I6, J4, o6⟩
  obtain ⟨h1, A, B, I, J, e1, o1, pm, ki, r1⟩ := (rm.c fr6 (Or.inl (Nat.le_refl _))).p0
  obtain ⟨h2, A2, I2, e2, o2, hb, pm2, ki2, r2⟩ := hand_in o1 pm ki ok hk
  rw [← hbe] at hb
  obtain ⟨h3, A3, e3, o3, r3, n3, z3⟩ := d_layRow o2 hb (r := 34) (q := c + 80 + 19) (Or.inl ⟨rfl, rfl⟩) (n := n) (by omega)
  have hp := pl_le (bMB b) n (st0 (bMB b))
  have hq := pl_le (bMB b') n (st0 (bMB b'))
  obtain ⟨h5, e5, o5, r5⟩ := X12_p36 o3 (nI (pl (bMB b) n (st0 (bMB b))))
  have pm5 := pm2.cg n3 (by decide)
  have ki5 := ki2.cg n3 (by decide)
  obtain ⟨h7, A7, I7, e7, o7, r7, n7, ni7, hb7⟩ := d_hand_in o5 pm5 ok hk'
  rw [← hbe'] at hb7
  obtain ⟨h8, A8, e8, o8, r8, n8, z8⟩ := d_layRow o7 hb7 (r := 35) (q := c + 80 + 20) (Or.inr ⟨rfl, rfl⟩) (n := n) (by omega)
  obtain ⟨h9, e9, o9, r9⟩ := X12_p37 o8 (nI (pl (bMB b') n (st0 (bMB b'))))
  have g : MDR A8 (upd I7 37 (nI (pl (bMB b') n (st0 (bMB b'))))) (wr (bMB b)) (wr (bMB b')) (pl (bMB b) n (st0 (bMB b))) (pl (bMB b') n (st0 (bMB b'))) := by
    refine ⟨by omega, by omega, ?_, rfl, fun i hi => ⟨by rw [n8 34 (by decide), n7 34 (by decide)]; exact z3 i hi, ?_⟩, fun j hj => ⟨z8 j hj, ?_⟩⟩
    · show I7 36 = _
      rw [ni7 36 (by decide)]
      rfl
    · obtain ⟨l, -, -, q3, q4⟩ := wr_lt cb.1 hi
      rw [q3]; exact q4
    · obtain ⟨l, -, -, q3, q4⟩ := wr_lt cc.1 hj
      rw [q3]; exact q4
  obtain ⟨hA, AA, eA, oA, rA, nA, tA⟩ := d_short o9 g
  have gA := g.cg (A' := AA) (nA 34 (by decide)) (nA 35 (by decide))
  have rmF : RM hA (c + 80) σ im := RM.mk (S := [38, 35, 25, 26]) pm5 ki5 oA (((n7.mo (by decide)).tr (n8.mo (by decide))).tr (nA.mo (by decide))) (by decide)
  have frF : Fr hc hA (c + 80) (c + 80 + 27) := (((((((r1.tr r2).tr r3).tr r5).tr r7).tr r8).tr r9).tr rA)
  have hd := @d_mergedAt hA (c + 80) AA B _ J _ _ _ _ oA gA tA
  have t0 := tA 0 0 (Nat.zero_le _) (Nat.zero_le _) trivial
  rw [Nat.mul_zero, Nat.zero_add] at t0
  have hS := S2_le (u := wr (bMB b)) (v := wr (bMB b')) (p := pl (bMB b) n (st0 (bMB b))) (q := pl (bMB b') n (st0 (bMB b'))) _ 0 0 (Nat.le_refl _) (by omega) (by omega)
  have g3 := gA.2.2.1
  have g4 := gA.2.2.2.1
  obtain ⟨u, hu⟩ : ∃ u, u = wr (bMB b) := ⟨_, rfl⟩
  obtain ⟨v, hv⟩ : ∃ v, v = wr (bMB b') := ⟨_, rfl⟩
  obtain ⟨p, hp'⟩ : ∃ p, p = pl (bMB b) n (st0 (bMB b)) := ⟨_, rfl⟩
  obtain ⟨q, hq'⟩ : ∃ q, q = pl (bMB b') n (st0 (bMB b')) := ⟨_, rfl⟩
  rw [← hu, ← hv, ← hp', ← hq'] at hd t0 hS i6 z6
  rw [← hp'] at hp i4 g3 e3 e5
  rw [← hq'] at hq i5 g3 g4 e8 e9 oA
  have fin : ∀ v0, F_X11_merged h c (nI k) (nI k') (nI n) w = some (v0, hc) → F_X12_merged hc (c + 80) (nI k) (nI k') (nI n) w = some (v0, hA) → QW h c σ im (F_X11_merged h c (nI k) (nI k') (nI n) w) (fun h1 => F_X12_merged h1 (c + 80) (nI k) (nI k') (nI n) w) := fun v0 q1 q2 => ⟨v0, hc, hA, q1, q2, fr6, sc6, frF, rmF⟩
  have go : F_X12_merged hc (c + 80) (nI k) (nI k') (nI n) w = (if w = m1 then some (nI (S2 u v p q 0 0), hA) else if w = m2 then some (nI (p + q - S2 u v p q 0 0), hA) else (F_X12_in hA w (nI 0) (nI (S2 u v p q 0 0) - nI 1)).bind fun x42 => (if x42 = nI 0 then some (m1, hA) else (F_X12_mergedAt hA (c + 80) w).bind fun x47 => some (x47, hA))) := by
    unfold F_X12_merged
    simp (disch := omega) only [nS, e1, in_in h1 (lo := 1) (hi := 12) (by omega) hn1 hn2, o1.ob, e2, X12_rd o2, e3]
    simp (disch := omega) only [nS, e5, o5.ob, e7, X12_rd o7, e8]
    simp (disch := omega) only [nS, e9, o9.ob, eA, X12_rd oA, t0, g3, g4]
  have goC : F_X11_merged h c (nI k) (nI k') (nI n) w = (if w = m2 then some (nI (p + q - S2 u v p q 0 0), hc) else if w = m1 then some (nI (S2 u v p q 0 0), hc) else (F_X4_person hc (c + 71) w).bind fun x39 => some (x39, hc)) := by
    unfold F_X11_merged
    simp (disch := omega) only [nS, xS xc, tS td, t_bookIn td ok hk, t_bookIn td ok hk', o4.ob, e6]
    simp (disch := omega) only [nS, xS xc6, o6.ob, F_X4_common, X4_rd o6, i4, i5, i6]
  rcases nSg3 w with hw | rfl | ⟨j, hj, rfl⟩
  · have hw0 := (gN1 hw).1
    by_cases hw2 : w = m2
    · subst hw2
      exact fin (nI (p + q - S2 u v p q 0 0)) (by rw [goC]; simp only [nS]) (by rw [go]; simp only [nS])
    · have hw2' : (w = m2) ↔ False := iff_of_false hw2 id
      refine fin m1 ?_ ?_
      · rw [goC]; simp (disch := omega) only [nS, gN1 hw, hw2', F_X4_person, gN hw0]
      · rw [go]; simp (disch := omega) only [nS, gN1 hw, hw2', F_X12_in, gN hw0]
  · exact fin (nI (S2 u v p q 0 0)) (by rw [goC]; simp only [nS]) (by rw [go]; simp only [nS])
  · rcases Nat.lt_or_ge j (S2 u v p q 0 0) with hj2 | hj2
    · refine fin (nI (vlu u v p q (wlk u v p q j))) ?_ ?_
      · rw [goC]; simp (disch := omega) only [nS, F_X4_person, X4_rd o6, i6, z6 j hj2]
      · have := d_in_in hA hj2 (by omega)
        rw [pk_sub (by omega)] at this
        rw [go]
        simp (disch := omega) only [nS, this, hd hj2]
    · refine fin m1 ?_ ?_
      · rw [goC]; simp (disch := omega) only [nS, F_X4_person, X4_rd o6, i6]
      · have := d_in_out hA (x := nI j) (n := S2 u v p q 0 0) (Or.inr (nI_le hj2 hj)) (by omega)
        rw [go]
        simp (disch := omega) only [nS, this]
end CALLS
