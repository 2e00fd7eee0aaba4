/-! ===== the reference copies one of its slots into another ===== -/
theorem nar_fit {x : Int32} (hx : fits .byte (.int x) = true) : vp_nar .byte x = x := by
  rw [vp_nar_byte]
  have hx : (-128 ≤ x && x ≤ 127) = true := hx
  rw [Bool.and_eq_true, decide_eq_true_iff, decide_eq_true_iff] at hx
  have h1 := Int32.le_iff_toInt_le.mp hx.1
  have h2 := Int32.le_iff_toInt_le.mp hx.2
  have k1 : (-128 : Int32).toInt = -128 := by decide
  have k2 : (127 : Int32).toInt = 127 := by decide
  rw [k1] at h1
  rw [k2] at h2
  apply Int32.toInt_inj.mp
  rw [Int8.toInt_toInt32, Int32.toInt_toInt8]
  unfold Int.bmod
  dsimp only
  split <;> omega
section DCP
variable {h : qH} {a : Nat} {A : Nat → Nat → Int32} {B : Nat → Nat → Int64} {I : Nat → Int32} {J : Nat → Int64}
theorem d_cprow (o : OB h a 12 mdL A B I J) {r n w j k : Nat} (hr : mdL[r]? = some (1, n)) (hn : n < 1000000) (hw : w < 1000000) (hj : w * j + w ≤ n) (hk : w * k + w ≤ n) (hjk : w * j + w ≤ w * k ∨ w * k + w ≤ w * j) : ∃ h' A', F_X12_copyRow h (a + 1 + rk mdL r) (nI w) (nI j) (nI k) = some h' ∧ OB h' a 12 mdL A' B I J ∧ Fr h h' a (a + 27) ∧ On [r] A A' ∧ (∀ i, i < w → A' r (w * k + i) = A r (w * j + i)) ∧ ∀ q, (q < w * k ∨ w * k + w ≤ q) → A' r q = A r q := by
  obtain ⟨h', e', A', o', r', n', z1, z2⟩ := q_lp1 (step := s_X12_copyRow_3 (a + 1 + rk mdL r) (nI w) (nI j) (nI k)) (fun i h' => ∃ A', OB h' a 12 mdL A' B I J ∧ Fr h h' a (a + 27) ∧ On [r] A A' ∧ (∀ i', i' < i → A' r (w * k + i') = A r (w * j + i')) ∧ ∀ q, (q < w * k ∨ w * k + i ≤ q) → A' r q = A r q) w 0 hw
    (fun i h1 hi ⟨A1, o1, r1, n1, z1, z2⟩ => by
      have e1 := o1.aI (k := r) (i := nI (w * j + i)) hr (nI_nn (by omega)) (by rw [nI_cl (by omega)]; omega)
      rw [nI_cl (by omega), z2 (w * j + i) (by omega)] at e1
      obtain ⟨h2, e2, o2, r2⟩ := o1.sI (k := r) (i := nI (w * k + i)) (x := A r (w * j + i)) hr (nI_nn (by omega)) (by rw [nI_cl (by omega)]; omega)
      rw [nI_cl (by omega)] at o2
      rw [X12_Z] at r2
      refine ⟨h2, ?_, _, o2, r1.tr r2, n1.tr (On.up (List.mem_singleton.mpr rfl)), fun i' hi' => ?_, fun q hq => ?_⟩
      · simp (disch := omega) only [s_X12_copyRow_3, b_X12_copyRow_3, nS, Nat.add_zero, e1, e2]
      · rw [upF_self]
        by_cases e : i' = i
        · subst e; exact pk_us
        · rw [pk_un (by omega)]; exact z1 i' (by omega)
      · rw [upF_self, pk_un (by omega)]
        exact z2 q (by omega))
    (fun h1 _ => by simp (disch := omega) only [s_X12_copyRow_3, b_X12_copyRow_3, nS, Nat.add_zero])
    (h := h) ⟨A, o, Fr.rf, On.rf, fun i hi => by omega, fun q _ => rfl⟩
  refine ⟨h', A', ?_, o', r', n', z1, z2⟩
  simp (disch := omega) only [F_X12_copyRow, nS, e']
theorem d_cpbyte (o : OB h a 12 mdL A B I J) {j k : Nat} (hj : j < 4) (hk : k < 4) (hjk : j ≠ k) (hf : ∀ i, i < 600 → fits .byte (.int (A 1 (600 * j + i))) = true) : ∃ h' A', q_lp (s_X12_copyAll_2 a (nI j) (nI k)) q_N (nI 0, h) = some h' ∧ OB h' a 12 mdL A' B I J ∧ Fr h h' a (a + 27) ∧ On [1] A A' ∧ (∀ i, i < 600 → A' 1 (600 * k + i) = A 1 (600 * j + i)) ∧ ∀ q, (q < 600 * k ∨ 600 * k + 600 ≤ q) → A' 1 q = A 1 q := by
  obtain ⟨h', e', A', o', r', n', z1, z2⟩ := q_lp1 (step := s_X12_copyAll_2 a (nI j) (nI k)) (fun i h' => ∃ A', OB h' a 12 mdL A' B I J ∧ Fr h h' a (a + 27) ∧ On [1] A A' ∧ (∀ i', i' < i → A' 1 (600 * k + i') = A 1 (600 * j + i')) ∧ ∀ q, (q < 600 * k ∨ 600 * k + i ≤ q) → A' 1 q = A 1 q) 600 0 (by omega)
    (fun i h1 hi ⟨A1, o1, r1, n1, z1, z2⟩ => by
      have e1 : A1 1 (600 * j + i) = A 1 (600 * j + i) := z2 _ (by omega)
      obtain ⟨h2, e2, o2, r2⟩ := X12_s1 o1 (i := 600 * k + i) (A 1 (600 * j + i)) (by omega)
      rw [nar_fit (hf i hi)] at o2
      refine ⟨h2, ?_, _, o2, r1.tr r2, n1.tr (On.up (by decide)), fun i' hi' => ?_, fun q hq => ?_⟩
      · simp (disch := omega) only [s_X12_copyAll_2, b_X12_copyAll_2, nS, Nat.add_zero, X12_rd o1, e1, e2]
      · rw [upF_self]
        by_cases e : i' = i
        · subst e; exact pk_us
        · rw [pk_un (by omega)]; exact z1 i' (by omega)
      · rw [upF_self, pk_un (by omega)]
        exact z2 q (by omega))
    (fun h1 _ => by simp (disch := omega) only [s_X12_copyAll_2, b_X12_copyAll_2, nS, Nat.add_zero])
    (h := h) ⟨A, o, Fr.rf, On.rf, fun i hi => by omega, fun q _ => rfl⟩
  exact ⟨h', A', e', o', r', n', z1, z2⟩
theorem d_copyAll (o : OB h a 12 mdL A B I J) {j k : Nat} (hj : j < 4) (hk : k < 4) (hjk : j ≠ k) {τ : SG} (pm : PM A j τ) (ok : SGok τ) : ∃ h' A', F_X12_copyAll h a (nI j) (nI k) = some h' ∧ OB h' a 12 mdL A' B I J ∧ Fr h h' a (a + 27) ∧ PM A' k τ ∧ (∀ l υ, l ≠ k → PM A l υ → PM A' l υ) ∧ A' 48 = A 48 := by
  have lt : ∀ w, w * j + w ≤ w * k ∨ w * k + w ≤ w * j := fun w => by
    rcases Nat.lt_or_gt_of_ne hjk with h1 | h1
    · left; have := Nat.mul_le_mul_left w (show j + 1 ≤ k by omega); rw [Nat.mul_add, Nat.mul_one] at this; exact this
    · right; have := Nat.mul_le_mul_left w (show k + 1 ≤ j by omega); rw [Nat.mul_add, Nat.mul_one] at this; exact this
  obtain ⟨p1, p2, p3, p4, p5, p6, p7, p8, p9⟩ := pm
  obtain ⟨h1, A1, e1, o1, r1, n1, y1, z1⟩ := d_cpbyte o hj hk hjk (fun i hi => by rw [p1 i hi]; exact ok.2.2.2.2.2.2 i)
  obtain ⟨h2, A2, e2, o2, r2, n2, y2, z2⟩ := d_cprow o1 (r := 2) (n := 4) (w := 1) (j := j) (k := k) rfl (by omega) (by omega) (by omega) (by omega) (lt 1)
  obtain ⟨h3, A3, e3, o3, r3, n3, y3, z3⟩ := d_cprow o2 (r := 3) (n := 4) (w := 1) (j := j) (k := k) rfl (by omega) (by omega) (by omega) (by omega) (lt 1)
  obtain ⟨h4, A4, e4, o4, r4, n4, y4, z4⟩ := d_cprow o3 (r := 4) (n := 4) (w := 1) (j := j) (k := k) rfl (by omega) (by omega) (by omega) (by omega) (lt 1)
  obtain ⟨h5, A5, e5, o5, r5, n5, y5, z5⟩ := d_cprow o4 (r := 5) (n := 16) (w := 4) (j := j) (k := k) rfl (by omega) (by omega) (by omega) (by omega) (lt 4)
  obtain ⟨h6, A6, e6, o6, r6, n6, y6, z6⟩ := d_cprow o5 (r := 6) (n := 896) (w := 224) (j := j) (k := k) rfl (by omega) (by omega) (by omega) (by omega) (lt 224)
  obtain ⟨h7, A7, e7, o7, r7, n7, y7, z7⟩ := d_cprow o6 (r := 7) (n := 648) (w := 162) (j := j) (k := k) rfl (by omega) (by omega) (by omega) (by omega) (lt 162)
  obtain ⟨h8, A8, e8, o8, r8, n8, y8, z8⟩ := d_cprow o7 (r := 8) (n := 104) (w := 26) (j := j) (k := k) rfl (by omega) (by omega) (by omega) (by omega) (lt 26)
  obtain ⟨h9, A9, e9, o9, r9, n9, y9, z9⟩ := d_cprow o8 (r := 9) (n := 216) (w := 54) (j := j) (k := k) rfl (by omega) (by omega) (by omega) (by omega) (lt 54)
  have g : ∀ r, r ≠ 9 → r ≠ 8 → r ≠ 7 → r ≠ 6 → r ≠ 5 → r ≠ 4 → r ≠ 3 → r ≠ 2 → A9 r = A1 r := fun r q9 q8 q7 q6 q5 q4 q3 q2 => by
    rw [n9 r (fun q => q9 (List.mem_singleton.mp q)), n8 r (fun q => q8 (List.mem_singleton.mp q)), n7 r (fun q => q7 (List.mem_singleton.mp q)), n6 r (fun q => q6 (List.mem_singleton.mp q)), n5 r (fun q => q5 (List.mem_singleton.mp q)), n4 r (fun q => q4 (List.mem_singleton.mp q)), n3 r (fun q => q3 (List.mem_singleton.mp q)), n2 r (fun q => q2 (List.mem_singleton.mp q))]
  have f1 : A9 1 = A1 1 := g 1 (by decide) (by decide) (by decide) (by decide) (by decide) (by decide) (by decide) (by decide)
  have f2 : A9 2 = A2 2 := by rw [n9 2 (by decide), n8 2 (by decide), n7 2 (by decide), n6 2 (by decide), n5 2 (by decide), n4 2 (by decide), n3 2 (by decide)]
  have f3 : A9 3 = A3 3 := by rw [n9 3 (by decide), n8 3 (by decide), n7 3 (by decide), n6 3 (by decide), n5 3 (by decide), n4 3 (by decide)]
  have f4 : A9 4 = A4 4 := by rw [n9 4 (by decide), n8 4 (by decide), n7 4 (by decide), n6 4 (by decide), n5 4 (by decide)]
  have f5 : A9 5 = A5 5 := by rw [n9 5 (by decide), n8 5 (by decide), n7 5 (by decide), n6 5 (by decide)]
  have f6 : A9 6 = A6 6 := by rw [n9 6 (by decide), n8 6 (by decide), n7 6 (by decide)]
  have f7 : A9 7 = A7 7 := by rw [n9 7 (by decide), n8 7 (by decide)]
  have f8 : A9 8 = A8 8 := by rw [n9 8 (by decide)]
  have b2 : A1 2 = A 2 := n1 2 (by decide)
  have b3 : A2 3 = A 3 := by rw [n2 3 (by decide), n1 3 (by decide)]
  have b4 : A3 4 = A 4 := by rw [n3 4 (by decide), n2 4 (by decide), n1 4 (by decide)]
  have b5 : A4 5 = A 5 := by rw [n4 5 (by decide), n3 5 (by decide), n2 5 (by decide), n1 5 (by decide)]
  have b6 : A5 6 = A 6 := by rw [n5 6 (by decide), n4 6 (by decide), n3 6 (by decide), n2 6 (by decide), n1 6 (by decide)]
  have b7 : A6 7 = A 7 := by rw [n6 7 (by decide), n5 7 (by decide), n4 7 (by decide), n3 7 (by decide), n2 7 (by decide), n1 7 (by decide)]
  have b8 : A7 8 = A 8 := by rw [n7 8 (by decide), n6 8 (by decide), n5 8 (by decide), n4 8 (by decide), n3 8 (by decide), n2 8 (by decide), n1 8 (by decide)]
  have b9 : A8 9 = A 9 := by rw [n8 9 (by decide), n7 9 (by decide), n6 9 (by decide), n5 9 (by decide), n4 9 (by decide), n3 9 (by decide), n2 9 (by decide), n1 9 (by decide)]
  rw [b2] at y2 z2
  rw [b3] at y3 z3
  rw [b4] at y4 z4
  rw [b5] at y5 z5
  rw [b6] at y6 z6
  rw [b7] at y7 z7
  rw [b8] at y8 z8
  rw [b9] at y9 z9
  refine ⟨h9, A9, ?_, o9, (((r1.tr r2).tr r3).tr (r4.tr r5)).tr (((r6.tr r7).tr r8).tr r9), ?_, ?_, ?_⟩
  · unfold F_X12_copyAll
    have e1 : q_lp (s_X12_copyAll_2 a (nI j) (nI k)) q_N ((0 : Int32), h) = some h1 := e1
    rw [e1, Option.bind_some, o1.fR (k := 2) rfl rfl, Option.bind_some, n_lit 1, e2, Option.bind_some, o2.fR (k := 3) rfl rfl, Option.bind_some, e3, Option.bind_some, o3.fR (k := 4) rfl rfl, Option.bind_some, e4, Option.bind_some, o4.fR (k := 5) rfl rfl, Option.bind_some, n_lit 4, e5, Option.bind_some, o5.fR (k := 6) rfl rfl, Option.bind_some, n_lit 224, e6, Option.bind_some, o6.fR (k := 7) rfl rfl, Option.bind_some, n_lit 162, e7, Option.bind_some, o7.fR (k := 8) rfl rfl, Option.bind_some, n_lit 26, e8, Option.bind_some, o8.fR (k := 9) rfl rfl, Option.bind_some, n_lit 54, e9, Option.bind_some]
  · refine ⟨fun i hi => ?_, ?_, ?_, ?_, fun s hs => ?_, fun q i hq hi => ?_, fun q i hq hi => ?_, fun q i hq hi => ?_, fun q i hq hi => ?_⟩
    · rw [f1, y1 i hi]; exact p1 i hi
    · have := y2 0 (by omega)
      rw [show 1 * k + 0 = k by omega, show 1 * j + 0 = j by omega] at this
      rw [f2, this]; exact p2
    · have := y3 0 (by omega)
      rw [show 1 * k + 0 = k by omega, show 1 * j + 0 = j by omega] at this
      rw [f3, this]; exact p3
    · have := y4 0 (by omega)
      rw [show 1 * k + 0 = k by omega, show 1 * j + 0 = j by omega] at this
      rw [f4, this]; exact p4
    · rw [f5, y5 s hs]; exact p5 s hs
    · rw [f6, y6 _ (by omega)]; exact p6 q i hq hi
    · rw [f7, y7 _ (by omega)]; exact p7 q i hq hi
    · rw [f8, y8 _ (by omega)]; exact p8 q i hq hi
    · rw [y9 _ (by omega)]; exact p9 q i hq hi
  · rintro l υ hl ⟨p1, p2, p3, p4, p5, p6, p7, p8, p9⟩
    have lw : ∀ w, w * l + w ≤ w * k ∨ w * k + w ≤ w * l := fun w => by
      rcases Nat.lt_or_gt_of_ne hl with h1 | h1
      · left; have := Nat.mul_le_mul_left w (show l + 1 ≤ k by omega); rw [Nat.mul_add, Nat.mul_one] at this; exact this
      · right; have := Nat.mul_le_mul_left w (show k + 1 ≤ l by omega); rw [Nat.mul_add, Nat.mul_one] at this; exact this
    refine ⟨fun i hi => ?_, ?_, ?_, ?_, fun s hs => ?_, fun q i hq hi => ?_, fun q i hq hi => ?_, fun q i hq hi => ?_, fun q i hq hi => ?_⟩
    · have := lw 600
      rw [f1, z1 _ (by omega)]; exact p1 i hi
    · rw [f2, z2 _ (by omega)]; exact p2
    · rw [f3, z3 _ (by omega)]; exact p3
    · rw [f4, z4 _ (by omega)]; exact p4
    · have := lw 4
      rw [f5, z5 _ (by omega)]; exact p5 s hs
    · have := lw 224
      rw [f6, z6 _ (by omega)]; exact p6 q i hq hi
    · have := lw 162
      rw [f7, z7 _ (by omega)]; exact p7 q i hq hi
    · have := lw 26
      rw [f8, z8 _ (by omega)]; exact p8 q i hq hi
    · have := lw 54
      rw [z9 _ (by omega)]; exact p9 q i hq hi
  · rw [g 48 (by decide) (by decide) (by decide) (by decide) (by decide) (by decide) (by decide) (by decide)]
    exact n1 48 (by decide)
end DCP
