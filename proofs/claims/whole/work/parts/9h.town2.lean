/-! ===== call: town, the guards; what is shown ===== -/
theorem bb_last {t : Nat → Int32} (v : TV t) : bb (gdT t) (2 ^ eN t - 1 + 1) = some (gu2 t (2 ^ eN t - 1)) := by
  have hn := (tv_ok v).2.2.1
  have hK : gdT t (2 ^ eN t - 1) = true := gdT_iff.mpr (fun i hi => Or.inl (tb_full (eN t) (by omega) i hi))
  have hlt := bb_lt (good := gdT t) (2 ^ eN t - 1)
  have hof := on_full (eN t) (by omega)
  unfold gu2
  generalize 2 ^ eN t - 1 = K at *
  have hbb : bb (gdT t) (K + 1) = match bb (gdT t) K with
    | none => if gdT t K then some K else none
    | some x => if on K < on x ∧ gdT t K = true then some K else some x := rfl
  rw [hbb]
  cases hb : bb (gdT t) K with
  | none => dsimp only; rw [if_pos hK]; rfl
  | some x =>
    have := hof x (hlt x hb)
    dsimp only
    rw [if_neg (fun q => by omega)]
    rfl
theorem CWc.cg {t : Nat → Int32} {A A' : Nat → Nat → Int32} {I : Nat → Int32} (w : CWc t A I) (n : On [3] A A') : CWc t A' I := by
  unfold CWc
  rw [n 0 (by decide), n 1 (by decide), n 2 (by decide)]
  exact w
section TWC
variable {h : qH} {a : Nat} {t : Nat → Int32} {A : Nat → Nat → Int32} {B : Nat → Nat → Int64} {I : Nat → Int32} {J : Nat → Int64}
theorem c_all (o : OB h a 10 twL A B I J) (w : CWc t A I) (v : TV t) (h3 : ∀ i, i < eN t → A 3 i = nI (hmk t i (eN t))) {M : Nat} (hM : M < 512) : F_X10_allHeardBy h a (nI M) = some (nI (if gdT t M then 1 else 0)) := by
  obtain ⟨v0, v2, v9, vw, vk⟩ := tv_ok v
  haveI dc : ∀ i, Decidable (co t M i) := fun i => Classical.propDecidable _
  have st : ∀ i, i < eN t → s_X10_allHeardBy_2 h a (nI M) (nI i) = if ¬ co t M i then some (.inr (.inl ())) else some (.inl (nI (i + 1))) := by
    intro i hi
    have hl := (vk i (by omega)).2.2
    have hlt := hmk_lt t i (eN t) (by omega)
    have ht := tb_le M i
    have e3 := h3 i hi
    have hand : hmk t i (eN t) &&& M < 2 ^ 31 := Nat.lt_of_le_of_lt Nat.and_le_right (by omega)
    by_cases c1 : tb M i = 1
    · rw [if_neg (fun q => q (Or.inl c1))]
      simp (disch := omega) only [s_X10_allHeardBy_2, b_X10_allHeardBy_2, j_X10_allHeardBy_30, nS, bS, wS o w v, c1]
    · have c0 : tb M i = 0 := by omega
      by_cases c2 : tl t i = 0
      · rw [if_neg (fun q => q (Or.inr (Or.inl c2)))]
        simp (disch := omega) only [s_X10_allHeardBy_2, b_X10_allHeardBy_2, j_X10_allHeardBy_30, nS, bS, wS o w v, c0, c2]
      · by_cases c3 : hmk t i (eN t) &&& M = 0
        · rw [if_pos (fun q => q.elim c1 (fun q => q.elim c2 (fun q => q c3)))]
          simp (disch := omega) only [s_X10_allHeardBy_2, b_X10_allHeardBy_2, j_X10_allHeardBy_30, nS, bS, wS o w v, c0, e3, c3]
        · rw [if_neg (fun q => q (Or.inr (Or.inr c3)))]
          simp (disch := omega) only [s_X10_allHeardBy_2, b_X10_allHeardBy_2, j_X10_allHeardBy_30, nS, bS, wS o w v, c0, e3]
  have hstop : s_X10_allHeardBy_2 h a (nI M) (nI (eN t)) = some (.inr (.inr ())) := by
    simp (disch := omega) only [s_X10_allHeardBy_2, b_X10_allHeardBy_2, nS, wS o w v]
  rcases q_lp_find (ρ := Unit ⊕ Unit) (step := s_X10_allHeardBy_2 h a (nI M)) (eN t) (by omega) (fun i => ¬ co t M i) (yes := fun _ => .inl ()) (no := .inr ()) (fun i hi hp => by rw [st i hi, if_pos hp]) (fun i hi hp => by rw [st i hi, if_neg hp]) hstop (N := q_N) (q_lt_N (by omega)) with ⟨i, hi, hp, -, he⟩ | ⟨hp, he⟩
  · have : ¬ gdT t M = true := fun q => hp (gdT_iff.mp q i hi)
    rw [if_neg this]
    simp (disch := omega) only [F_X10_allHeardBy, nS, he]
  · have : gdT t M = true := gdT_iff.mpr (fun i hi => Classical.byContradiction (hp i hi))
    rw [if_pos this]
    simp (disch := omega) only [F_X10_allHeardBy, nS, he]
theorem c_guards (o : OB h a 10 twL A B I J) (w : CWc t A I) (v : TV t) : ∃ h' A', F_X10_fewestGuards h a = some (nI (gu2 t (2 ^ eN t - 1)), h') ∧ OB h' a 10 twL A' B I J ∧ CWc t A' I ∧ Fr h h' a (a + 5) := by
  obtain ⟨v0, v2, v9, vw, vk⟩ := tv_ok v
  obtain ⟨h1, e1, A1, o1, n1, r1, z1⟩ := q_lp1 (step := s_X10_fewestGuards_2 a) (fun i h' => ∃ A', OB h' a 10 twL A' B I J ∧ On [3] A A' ∧ Fr h h' a (a + 5) ∧ ∀ j, j < i → A' 3 j = nI (hmk t j (eN t))) (eN t) 0 (by omega)
    (fun i h1 hi ⟨A1, o1, n1, r1, z1⟩ => by
      have w1 := w.cg n1
      have ew := c_where o1 w1 v hi
      obtain ⟨h2, e2, o2, r2⟩ := X10_s3 o1 (i := i) (nI (hmk t i (eN t))) (by omega)
      refine ⟨h2, ?_, _, o2, n1.tr (On.up (by decide)), r1.tr r2, fun j hj => ?_⟩
      · simp (disch := omega) only [s_X10_fewestGuards_2, b_X10_fewestGuards_2, nS, Nat.add_zero, wS o1 w1 v, ew, e2]
      · rw [upF_self]
        by_cases hji : j = i
        · subst hji; exact pk_us
        · rw [pk_un hji]; exact z1 j (by omega))
    (fun h1 ⟨A1, o1, n1, r1, z1⟩ => by
      have w1 := w.cg n1
      simp (disch := omega) only [s_X10_fewestGuards_2, b_X10_fewestGuards_2, nS, Nat.add_zero, wS o1 w1 v])
    (h := h) ⟨A, o, On.rf, Fr.rf, fun j hj => by omega⟩
  have w1 := w.cg n1
  have p9 : 2 ^ eN t ≤ 2 ^ 9 := Nat.pow_le_pow_right (by omega) v9
  have p1 : 0 < 2 ^ eN t := Nat.two_pow_pos _
  have hof := on_full (eN t) (by omega)
  have esh : q_shl (nI 1) (nI (eN t)) - nI 1 = nI (2 ^ eN t - 1) := by rw [b_shl (by omega), pk_sub (by omega)]
  have hK9 : 2 ^ eN t - 1 < 512 := by omega
  refine ⟨h1, A1, ?_, o1, w1, r1⟩
  have lp : q_lp (s_X10_fewestGuards_46 h1 a (nI (2 ^ eN t - 1))) q_N (nI (2 ^ eN t - 1), nI 0) = some (nI (gu2 t (2 ^ eN t - 1))) := by
    unfold gu2
    generalize 2 ^ eN t - 1 = K at hof hK9 ⊢
    refine q_lp_for (fun i => (nI ((bb (gdT t) i).getD K), nI i)) K (fun i hi => ?_) ?_ q_N (q_lt_N (by omega))
    · have ea := c_all o1 w1 v z1 (M := i) (by omega)
      have hlt := bb_lt (good := gdT t) i
      have oi := on_le i
      have b1 := c_bits h1 (x := i) (by omega)
      have hbb : bb (gdT t) (i + 1) = match bb (gdT t) i with
        | none => if gdT t i then some i else none
        | some x => if on i < on x ∧ gdT t i = true then some i else some x := rfl
      rw [hbb]
      generalize bb (gdT t) i = B0 at hlt
      cases B0 with
      | none =>
        show s_X10_fewestGuards_46 h1 a (nI K) (nI K, nI i) = some (.inl (nI ((if gdT t i then some i else none).getD K), nI (i + 1)))
        have b2 := c_bits h1 (x := K) (by omega)
        have oK := on_le K
        have := hof i hi
        cases hg : gdT t i with
        | false =>
          rw [hg] at ea
          have ea : F_X10_allHeardBy h1 a (nI i) = some (nI 0) := ea
          simp (disch := omega) only [s_X10_fewestGuards_46, b_X10_fewestGuards_46, nS, b1, b2, o1.ob, ea]
          rfl
        | true =>
          rw [hg] at ea
          have ea : F_X10_allHeardBy h1 a (nI i) = some (nI 1) := ea
          simp (disch := omega) only [s_X10_fewestGuards_46, b_X10_fewestGuards_46, nS, b1, b2, o1.ob, ea]
          rfl
      | some x =>
        have hx := hlt x rfl
        show s_X10_fewestGuards_46 h1 a (nI K) (nI x, nI i) = some (.inl (nI ((if on i < on x ∧ gdT t i = true then some i else some x).getD K), nI (i + 1)))
        have b2 := c_bits h1 (x := x) (by omega)
        have ox := on_le x
        rcases Nat.lt_or_ge (on i) (on x) with h1' | h1'
        · cases hg : gdT t i with
          | false =>
            rw [hg] at ea
            have ea : F_X10_allHeardBy h1 a (nI i) = some (nI 0) := ea
            rw [if_neg (fun q => by cases q.2)]
            simp (disch := omega) only [s_X10_fewestGuards_46, b_X10_fewestGuards_46, nS, b1, b2, o1.ob, ea]
            rfl
          | true =>
            rw [hg] at ea
            have ea : F_X10_allHeardBy h1 a (nI i) = some (nI 1) := ea
            rw [if_pos ⟨h1', rfl⟩]
            simp (disch := omega) only [s_X10_fewestGuards_46, b_X10_fewestGuards_46, nS, b1, b2, o1.ob, ea]
            rfl
        · rw [if_neg (fun q => by omega)]
          simp (disch := omega) only [s_X10_fewestGuards_46, b_X10_fewestGuards_46, nS, b1, b2]
          rfl
    · simp (disch := omega) only [s_X10_fewestGuards_46, b_X10_fewestGuards_46, nS]
  have j33 : j_X10_fewestGuards_33 h1 a = some (nI (gu2 t (2 ^ eN t - 1)), h1) := by
    unfold j_X10_fewestGuards_33
    rw [(wS o1 w1 v).2.1, Option.bind_some, n_lit 1, esh, n_lit 0, lp, Option.bind_some]
  unfold F_X10_fewestGuards
  rw [n_lit 0, e1, Option.bind_some, j33]
/-- what is shown of a town -/
noncomputable def aT (t : Nat → Int32) (q : Nat) : Int32 :=
  if q = 0 then nI (eN t) else if q = 1 then nI (bl t (eN t - 1)) else if q = 2 then nI (ot t (bl t (eN t - 1)) (eN t)) else if q = 3 then nI (gu2 t (2 ^ eN t - 1)) else if q = 4 then nI (wcp t (eN t - 1)) else if q = 5 then nI (hu t (eN t - 1))
  else if q < 10 ∨ 50 ≤ q then m1 else if eN t ≤ q % 10 then m1 else if q / 10 = 1 then (if eN t - 1 ≤ q % 10 then m1 else nI (tw t (q % 10))) else if q / 10 = 2 then nI (tk t (q % 10)) else if q / 10 = 3 then nI (tl t (q % 10)) else nI (hmk t (q % 10) (eN t))
theorem aT_h {t : Nat → Int32} {q : Nat} (h1 : 10 ≤ q) (h2 : q < 50) : aT t q = if eN t ≤ q % 10 then m1 else if q / 10 = 1 then (if eN t - 1 ≤ q % 10 then m1 else nI (tw t (q % 10))) else if q / 10 = 2 then nI (tk t (q % 10)) else if q / 10 = 3 then nI (tl t (q % 10)) else nI (hmk t (q % 10) (eN t)) := by
  unfold aT
  rw [if_neg (by omega), if_neg (by omega), if_neg (by omega), if_neg (by omega), if_neg (by omega), if_neg (by omega), if_neg (by omega)]
theorem aT_m {t : Nat → Int32} {q : Nat} (h1 : 6 ≤ q) (h2 : q < 10 ∨ 50 ≤ q) : aT t q = m1 := by
  unfold aT
  rw [if_neg (by omega), if_neg (by omega), if_neg (by omega), if_neg (by omega), if_neg (by omega), if_neg (by omega), if_pos h2]
theorem c_house (o : OB h a 10 twL A B I J) (w : CWc t A I) (v : TV t) {q : Nat} (h1 : 10 ≤ q) (h2 : q < 50) : F_X10_showHouse h a (nI (q / 10)) (nI (q % 10)) = some (aT t q) := by
  obtain ⟨v0, v2, v9, vw, vk⟩ := tv_ok v
  rw [aT_h h1 h2]
  have hr := Nat.mod_lt q (show 0 < 10 by omega)
  have hd : q / 10 = 1 ∨ q / 10 = 2 ∨ q / 10 = 3 ∨ q / 10 = 4 := by omega
  generalize q % 10 = r at hr ⊢
  generalize q / 10 = d at hd ⊢
  rcases Nat.lt_or_ge r (eN t) with hc | hc
  · rw [if_neg (by omega)]
    rcases hd with rfl | rfl | rfl | rfl
    · rw [if_pos rfl]
      rcases Nat.lt_or_ge (r + 1) (eN t) with hc2 | hc2
      · rw [if_neg (by omega)]
        simp (disch := omega) only [F_X10_showHouse, nS, wS o w v]
      · rw [if_pos (by omega)]
        simp (disch := omega) only [F_X10_showHouse, nS, wS o w v]
    · simp (disch := omega) only [F_X10_showHouse, nS, wS o w v]
    · simp (disch := omega) only [F_X10_showHouse, nS, wS o w v]
    · have := c_where o w v hc
      simp (disch := omega) only [F_X10_showHouse, nS, wS o w v, this]
  · rw [if_pos hc]
    simp (disch := omega) only [F_X10_showHouse, nS, wS o w v]
theorem c_tshow (o : OB h a 10 twL A B I J) (w : CWc t A I) (v : TV t) (x : Int32) : ∃ h' A', F_X10_show h a x = some (if x < nI 0 then m1 else aT t x.toNatClampNeg, h') ∧ OB h' a 10 twL A' B I J ∧ CWc t A' I ∧ Fr h h' a (a + 5) := by
  obtain ⟨v0, v2, v9, vw, vk⟩ := tv_ok v
  rcases nSg x with hx | ⟨q, hq, rfl⟩
  · rw [if_pos hx]
    refine ⟨h, A, ?_, o, w, Fr.rf⟩
    simp (disch := omega) only [F_X10_show, nS, gN hx]
  rw [if_neg (fun e => by have := (nI_ltI hq (by omega)).mp e; omega), nI_cl hq]
  have hbl := bl_le t (eN t - 1)
  rcases (show q = 0 ∨ q = 1 ∨ q = 2 ∨ q = 3 ∨ q = 4 ∨ q = 5 ∨ (6 ≤ q ∧ (q < 10 ∨ 50 ≤ q)) ∨ (10 ≤ q ∧ q < 50) by omega) with rfl | rfl | rfl | rfl | rfl | rfl | ⟨q1, q2⟩ | ⟨q1, q2⟩
  · refine ⟨h, A, ?_, o, w, Fr.rf⟩
    show F_X10_show h a (nI 0) = some (nI (eN t), h)
    simp (disch := omega) only [F_X10_show, nS, wS o w v]
  · refine ⟨h, A, ?_, o, w, Fr.rf⟩
    show F_X10_show h a (nI 1) = some (nI (bl t (eN t - 1)), h)
    simp (disch := omega) only [F_X10_show, nS, o.ob, c_listen o w v]
  · refine ⟨h, A, ?_, o, w, Fr.rf⟩
    show F_X10_show h a (nI 2) = some (nI (ot t (bl t (eN t - 1)) (eN t)), h)
    have := c_others o w v (j := bl t (eN t - 1)) (by omega)
    simp (disch := omega) only [F_X10_show, nS, o.ob, c_listen o w v, this]
  · obtain ⟨h', A', e', o', w', r'⟩ := c_guards o w v
    refine ⟨h', A', ?_, o', w', r'⟩
    show F_X10_show h a (nI 3) = some (nI (gu2 t (2 ^ eN t - 1)), h')
    generalize gu2 t (2 ^ eN t - 1) = G at e' ⊢
    simp (disch := omega) only [F_X10_show, nS, o.ob, e']
  · refine ⟨h, A, ?_, o, w, Fr.rf⟩
    show F_X10_show h a (nI 4) = some (nI (wcp t (eN t - 1)), h)
    simp (disch := omega) only [F_X10_show, nS, o.ob, c_wrong o w v]
  · refine ⟨h, A, ?_, o, w, Fr.rf⟩
    show F_X10_show h a (nI 5) = some (nI (hu t (eN t - 1)), h)
    simp (disch := omega) only [F_X10_show, nS, o.ob, c_hush o w v]
  · refine ⟨h, A, ?_, o, w, Fr.rf⟩
    rw [aT_m q1 q2]
    rcases q2 with q2 | q2
    · simp (disch := omega) only [F_X10_show, nS]
    · simp (disch := omega) only [F_X10_show, nS]
  · refine ⟨h, A, ?_, o, w, Fr.rf⟩
    have := c_house o w v q1 q2
    simp (disch := omega) only [F_X10_show, nS, o.ob, this]
end TWC
section TWD
variable {h : qH} {a : Nat} {t : Nat → Int32} {j : Nat} {A : Nat → Nat → Int32} {B : Nat → Nat → Int64} {I : Nat → Int32} {J : Nat → Int64}
/-- the reference with a town -/
def HT (A : Nat → Nat → Int32) (I : Nat → Int32) (t : Nat → Int32) (j : Nat) : Prop := TV t ∧ j < 2 ∧ I 44 = nI j ∧ I 45 = nI (eN t) ∧ ∀ i, i < 27 → A 9 (27 * j + i) = t i
theorem tS2 (o : OB h a 12 mdL A B I J) (ht : HT A I t j) : q_ob h a 12 = some () ∧ q_fI h a 12 45 = some (nI (eN t)) ∧ (∀ k, k < 8 → F_X12_townOf h a (nI (1 + k)) = some (nI (tw t k))) ∧ (∀ k, k < 9 → F_X12_townOf h a (nI (9 + k)) = some (nI (tk t k))) ∧ (∀ k, k < 9 → F_X12_townOf h a (nI (18 + k)) = some (nI (tl t k))) ∧ (∀ k, k < 8 → F_X12_townOf h a (nI (9 + k + 1)) = some (nI (tk t (k + 1)))) ∧ ∀ k, k < 8 → F_X12_townOf h a (nI (18 + k + 1)) = some (nI (tl t (k + 1))) := by
  obtain ⟨v, hj, i44, i45, hr⟩ := ht
  obtain ⟨v0, v2, v9, vw, vk⟩ := tv_ok v
  have g : ∀ i, i < 27 → F_X12_townOf h a (nI i) = some (t i) := fun i hi => by
    simp (disch := omega) only [F_X12_townOf, nS, X12_rd o, i44, hr i hi]
  refine ⟨o.ob, by rw [← i45]; exact o.fI (k := 45) rfl, fun k hk => ?_, fun k hk => ?_, fun k hk => ?_, fun k hk => ?_, fun k hk => ?_⟩
  · rw [g _ (by omega), (vw k hk).1]
  · rw [g _ (by omega), (vk k hk).1.1]
  · rw [g _ (by omega), (vk k hk).2.1]
  · rw [g _ (by omega), Nat.add_assoc, (vk (k + 1) (by omega)).1.1]
  · rw [g _ (by omega), Nat.add_assoc, (vk (k + 1) (by omega)).2.1]
theorem d_between (o : OB h a 12 mdL A B I J) (ht : HT A I t j) {x y : Nat} (hx : x < eN t) (hy : y < eN t) : F_X12_between h a (nI x) (nI y) = some (nI (wb t (min x y) (max x y - min x y))) := by
  obtain ⟨v0, v2, v9, vw, vk⟩ := tv_ok ht.1
  have lp : q_lp (s_X12_between_9 h a (nI x) (nI y)) q_N (nI 0, nI (min x y)) = some (nI (wb t (min x y) (max x y - min x y))) := by
    refine q_lp_for (fun i => (nI (wb t (min x y) i), nI (min x y + i))) (max x y - min x y) (fun i hi => ?_) ?_ q_N (q_lt_N (by omega))
    · show _ = some (Sum.inl (nI (wb t (min x y) i + tw t (min x y + i)), nI (min x y + (i + 1))))
      rw [← Nat.add_assoc (min x y) i 1]
      simp (disch := omega) only [s_X12_between_9, b_X12_between_9, d_gre2 h, nS, tS2 o ht]
    · simp (disch := omega) only [s_X12_between_9, b_X12_between_9, d_gre2 h, nS]
  simp (disch := omega) only [F_X12_between, d_les2 h, nS, lp]
theorem d_isHeardIn (o : OB h a 12 mdL A B I J) (ht : HT A I t j) {x y : Nat} (hx : x < eN t) (hy : y < eN t) : F_X12_isHeardIn h a (nI x) (nI y) = some (nI (if hr t x y then 1 else 0)) := by
  obtain ⟨v0, v2, v9, vw, vk⟩ := tv_ok ht.1
  have e := d_between o ht hx hy
  have hl := (vk x (by omega)).2.2
  have hb := wb_le ht.1 (lo := min x y) (d := max x y - min x y) (by omega)
  by_cases hh : wb t (min x y) (max x y - min x y) < tl t x
  · have : hr t x y = true := decide_eq_true hh
    rw [if_pos this]
    simp (disch := omega) only [F_X12_isHeardIn, nS, tS2 o ht, e]
  · have : ¬ hr t x y = true := fun q => hh (of_decide_eq_true q)
    rw [if_neg this]
    simp (disch := omega) only [F_X12_isHeardIn, nS, tS2 o ht, e]
theorem d_heardIn (o : OB h a 12 mdL A B I J) (ht : HT A I t j) {i : Nat} (hi : i < eN t) : F_X12_heardIn h a (nI i) = some (nI (hmk t i (eN t))) := by
  obtain ⟨v0, v2, v9, vw, vk⟩ := tv_ok ht.1
  have lp : q_lp (s_X12_heardIn_4 h a (nI i)) q_N (nI 0, nI 0) = some (nI (hmk t i (eN t))) := by
    refine q_lp_for (fun j => (nI (hmk t i j), nI j)) (eN t) (fun j hj => ?_) ?_ q_N (q_lt_N (by omega))
    · have hlt := hmk_lt t i j (by omega)
      have e := d_isHeardIn o ht hi hj
      have hp : 2 ^ j < 2 ^ 31 := p2_lt (by omega)
      show _ = some (Sum.inl (nI (if hr t i j then hmk t i j ||| 2 ^ j else hmk t i j), nI (j + 1)))
      cases hh : hr t i j with
      | true =>
        rw [hh] at e
        have e : F_X12_isHeardIn h a (nI i) (nI j) = some (nI 1) := e
        rw [if_pos rfl]
        simp (disch := omega) only [s_X12_heardIn_4, b_X12_heardIn_4, nS, bS, tS2 o ht, e]
      | false =>
        rw [hh] at e
        have e : F_X12_isHeardIn h a (nI i) (nI j) = some (nI 0) := e
        rw [if_neg (by decide)]
        simp (disch := omega) only [s_X12_heardIn_4, b_X12_heardIn_4, nS, bS, tS2 o ht, e, Nat.or_zero]
    · simp (disch := omega) only [s_X12_heardIn_4, b_X12_heardIn_4, nS, tS2 o ht]
  simp (disch := omega) only [F_X12_heardIn, nS, lp]
theorem d_others (o : OB h a 12 mdL A B I J) (ht : HT A I t j) {x : Nat} (hx : x < eN t) : F_X12_othersIn h a (nI x) = some (nI (ot t x (eN t))) := by
  obtain ⟨v0, v2, v9, vw, vk⟩ := tv_ok ht.1
  have lp : q_lp (s_X12_othersIn_4 h a (nI x)) q_N (nI 0, nI 0) = some (nI (ot t x (eN t))) := by
    refine q_lp_for (fun i => (nI (ot t x i), nI i)) (eN t) (fun i hi => ?_) ?_ q_N (q_lt_N (by omega))
    · have e := d_isHeardIn o ht hi hx
      have ho := ot_le t x i
      show _ = some (Sum.inl (nI (ot t x i + (if i = x then 0 else if hr t i x then 1 else 0)), nI (i + 1)))
      by_cases hij : i = x
      · rw [if_pos hij]
        subst hij
        simp (disch := omega) only [s_X12_othersIn_4, b_X12_othersIn_4, nS, tS2 o ht]
      · rw [if_neg hij]
        cases hh : hr t i x with
        | true =>
          rw [hh] at e
          have e : F_X12_isHeardIn h a (nI i) (nI x) = some (nI 1) := e
          rw [if_pos rfl]
          simp (disch := omega) only [s_X12_othersIn_4, b_X12_othersIn_4, nS, tS2 o ht, e]
        | false =>
          rw [hh] at e
          have e : F_X12_isHeardIn h a (nI i) (nI x) = some (nI 0) := e
          rw [if_neg (by decide)]
          simp (disch := omega) only [s_X12_othersIn_4, b_X12_othersIn_4, nS, tS2 o ht, e]
    · simp (disch := omega) only [s_X12_othersIn_4, b_X12_othersIn_4, nS, tS2 o ht]
  simp (disch := omega) only [F_X12_othersIn, nS, lp]
theorem d_listen (o : OB h a 12 mdL A B I J) (ht : HT A I t j) : F_X12_listen h a = some (nI (bl t (eN t - 1))) := by
  obtain ⟨v0, v2, v9, vw, vk⟩ := tv_ok ht.1
  have lp : q_lp (s_X12_listen_4 h a) q_N (nI 0, nI 1) = some (nI (bl t (eN t - 1))) := by
    refine q_lp_for (fun i => (nI (bl t i), nI (i + 1))) (eN t - 1) (fun i hi => ?_) ?_ q_N (q_lt_N (by omega))
    · have hb := bl_le t i
      have e1 := d_others o ht (x := i + 1) (by omega)
      have e2 := d_others o ht (x := bl t i) (by omega)
      have h1 := ot_le t (i + 1) (eN t)
      have h2 := ot_le t (bl t i) (eN t)
      have hbl : bl t (i + 1) = if ot t (i + 1) (eN t) ≤ ot t (bl t i) (eN t) then bl t i else i + 1 := rfl
      rw [hbl]
      by_cases hh : ot t (i + 1) (eN t) ≤ ot t (bl t i) (eN t)
      · rw [if_pos hh]
        simp (disch := omega) only [s_X12_listen_4, b_X12_listen_4, nS, tS2 o ht, e1, e2]
      · rw [if_neg hh]
        simp (disch := omega) only [s_X12_listen_4, b_X12_listen_4, nS, tS2 o ht, e1, e2]
    · rw [show eN t - 1 + 1 = eN t by omega]
      simp (disch := omega) only [s_X12_listen_4, b_X12_listen_4, nS, tS2 o ht]
  simp (disch := omega) only [F_X12_listen, nS, lp]
theorem d_wrong (o : OB h a 12 mdL A B I J) (ht : HT A I t j) : F_X12_wrong h a = some (nI (wcp t (eN t - 1))) := by
  obtain ⟨v0, v2, v9, vw, vk⟩ := tv_ok ht.1
  have lp : q_lp (s_X12_wrong_4 h a) q_N (nI 0, nI 0) = some (nI (wcp t (eN t - 1))) := by
    refine q_lp_for (fun i => (nI (wcp t i), nI i)) (eN t - 1) (fun k hk => ?_) ?_ q_N (q_lt_N (by omega))
    · have b2 := (vk k (by omega)).1.2
      have b3 := (vk (k + 1) (by omega)).1.2
      have w1 : wb t k 1 = tw t k := Nat.zero_add _
      have e1 := d_isHeardIn o ht (x := k) (y := k + 1) (by omega) (by omega)
      have e2 := d_isHeardIn o ht (x := k + 1) (y := k) (by omega) (by omega)
      have k1 : hr t k (k + 1) = decide (tw t k < tl t k) := by
        unfold hr
        rw [show min k (k + 1) = k by omega, show max k (k + 1) - k = 1 by omega, w1]
      have k2 : hr t (k + 1) k = decide (tw t k < tl t (k + 1)) := by
        unfold hr
        rw [show min (k + 1) k = k by omega, show max (k + 1) k - k = 1 by omega, w1]
      rw [k1] at e1
      rw [k2] at e2
      show _ = some (Sum.inl (nI (wcp t k + if tk t k = tk t (k + 1) then 0 else if tl t k ≤ tw t k then 0 else if tl t (k + 1) ≤ tw t k then 0 else 1), nI (k + 1)))
      by_cases h1 : tk t k = tk t (k + 1)
      · rw [if_pos h1]
        simp (disch := omega) only [s_X12_wrong_4, b_X12_wrong_4, nS, tS2 o ht]
      · rw [if_neg h1]
        by_cases h2 : tl t k ≤ tw t k
        · rw [if_pos h2]
          rw [if_neg (by rw [decide_eq_true_iff]; omega)] at e1
          simp (disch := omega) only [s_X12_wrong_4, b_X12_wrong_4, nS, tS2 o ht, e1]
        · rw [if_neg h2]
          rw [if_pos (by rw [decide_eq_true_iff]; omega)] at e1
          by_cases h3 : tl t (k + 1) ≤ tw t k
          · rw [if_pos h3]
            rw [if_neg (by rw [decide_eq_true_iff]; omega)] at e2
            simp (disch := omega) only [s_X12_wrong_4, b_X12_wrong_4, nS, tS2 o ht, e1, e2]
          · rw [if_neg h3]
            rw [if_pos (by rw [decide_eq_true_iff]; omega)] at e2
            simp (disch := omega) only [s_X12_wrong_4, b_X12_wrong_4, nS, tS2 o ht, e1, e2]
    · simp (disch := omega) only [s_X12_wrong_4, b_X12_wrong_4, nS, tS2 o ht]
  simp (disch := omega) only [F_X12_wrong, nS, lp]
theorem d_hush (o : OB h a 12 mdL A B I J) (ht : HT A I t j) : F_X12_hush h a = some (nI (hu t (eN t - 1))) := by
  obtain ⟨v0, v2, v9, vw, vk⟩ := tv_ok ht.1
  have lp : q_lp (s_X12_hush_4 h a) q_N (nI 0, nI 0) = some (nI (hu t (eN t - 1))) := by
    refine q_lp_for (fun i => (nI (hu t i), nI i)) (eN t - 1) (fun k hk => ?_) ?_ q_N (q_lt_N (by omega))
    · have b1 := (vw k (by omega)).2
      have b4 := (vk k (by omega)).2.2
      have b5 := (vk (k + 1) (by omega)).2.2
      have b6 := hu_lt ht.1 k (by omega)
      show _ = some (Sum.inl (nI (max (hu t k) (max (tl t k) (tl t (k + 1)) - tw t k)), nI (k + 1)))
      have em := d_gre2 h (a := tl t k) (b := tl t (k + 1)) (by omega) (by omega)
      have ed := d_gred h (a := hu t k) (b := max (tl t k) (tl t (k + 1))) (c := tw t k) (by omega) (by omega) (by omega)
      simp (disch := omega) only [s_X12_hush_4, b_X12_hush_4, nS, tS2 o ht, em, ed]
    · simp (disch := omega) only [s_X12_hush_4, b_X12_hush_4, nS, tS2 o ht]
  simp (disch := omega) only [F_X12_hush, nS, lp]
/-- the guard of one set of houses -/
theorem d_gset (o : OB h a 12 mdL A B I J) (ht : HT A I t j) {M : Nat} (hM : M < 512) (y : Int32) : ∃ r, q_lp (s_X12_guard_39 h a y (nI M)) q_N (nI 1, nI 0) = some r ∧ r = nI (if gdT t M then 1 else 0) := by
  obtain ⟨v0, v2, v9, vw, vk⟩ := tv_ok ht.1
  have key := q_lp_inv (step := s_X12_guard_39 h a y (nI M)) (fun s => ∃ i, i ≤ eN t ∧ s.2 = nI i ∧ ((s.1 = nI 1 ∧ ∀ k, k < i → co t M k) ∨ (s.1 = nI 0 ∧ ∃ k, k < eN t ∧ ¬ co t M k))) (fun s => eN t + 1 - s.2.toNatClampNeg) (fun r => r = nI (if gdT t M then 1 else 0)) ?_ q_N (nI 1, nI 0) ⟨0, by omega, rfl, Or.inl ⟨rfl, fun k hk => by omega⟩⟩ (q_lt_N (by dsimp only; omega))
  · exact key
  · rintro ⟨x, z⟩ ⟨i, hi, hz, hs⟩
    dsimp only at hz hs
    subst hz
    rcases Nat.lt_or_ge i (eN t) with hlt | hge
    · rcases hs with ⟨hx, hall⟩ | ⟨hx, k, hk, hno⟩
      · subst hx
        have hl := (vk i (by omega)).2.2
        have hml := hmk_lt t i (eN t) (by omega)
        have htb := tb_le M i
        have e3 := d_heardIn o ht hlt
        have hand : hmk t i (eN t) &&& M < 2 ^ 31 := Nat.lt_of_le_of_lt Nat.and_le_right (by omega)
        refine Or.inl ?_
        have dec : eN t + 1 - (nI (i + 1)).toNatClampNeg < eN t + 1 - (nI i).toNatClampNeg := by
          rw [nI_cl (by omega), nI_cl (by omega)]; omega
        by_cases c1 : tb M i = 1
        · refine ⟨(nI 1, nI (i + 1)), ?_, ⟨i + 1, by omega, rfl, Or.inl ⟨rfl, fun k hk => ?_⟩⟩, dec⟩
          · simp (disch := omega) only [s_X12_guard_39, b_X12_guard_39, nS, bS, tS2 o ht, c1]
          · rcases (show k < i ∨ k = i by omega) with h1 | rfl
            · exact hall k h1
            · exact Or.inl c1
        · have c0 : tb M i = 0 := by omega
          by_cases c2 : tl t i = 0
          · refine ⟨(nI 1, nI (i + 1)), ?_, ⟨i + 1, by omega, rfl, Or.inl ⟨rfl, fun k hk => ?_⟩⟩, dec⟩
            · simp (disch := omega) only [s_X12_guard_39, b_X12_guard_39, nS, bS, tS2 o ht, c0, c2]
            · rcases (show k < i ∨ k = i by omega) with h1 | rfl
              · exact hall k h1
              · exact Or.inr (Or.inl c2)
          · by_cases c3 : hmk t i (eN t) &&& M = 0
            · refine ⟨(nI 0, nI (i + 1)), ?_, ⟨i + 1, by omega, rfl, Or.inr ⟨rfl, i, hlt, fun q => q.elim c1 (fun q => q.elim c2 (fun q => q c3))⟩⟩, dec⟩
              simp (disch := omega) only [s_X12_guard_39, b_X12_guard_39, nS, bS, tS2 o ht, c0, e3, c3]
            · refine ⟨(nI 1, nI (i + 1)), ?_, ⟨i + 1, by omega, rfl, Or.inl ⟨rfl, fun k hk => ?_⟩⟩, dec⟩
              · simp (disch := omega) only [s_X12_guard_39, b_X12_guard_39, nS, bS, tS2 o ht, c0, e3]
              · rcases (show k < i ∨ k = i by omega) with h1 | rfl
                · exact hall k h1
                · exact Or.inr (Or.inr c3)
      · subst hx
        refine Or.inr ⟨nI 0, ?_, ?_⟩
        · simp (disch := omega) only [s_X12_guard_39, b_X12_guard_39, nS, tS2 o ht]
        · rw [if_neg (fun q => hno (gdT_iff.mp q k hk))]
    · have hie : i = eN t := by omega
      subst hie
      rcases hs with ⟨hx, hall⟩ | ⟨hx, k, hk, hno⟩
      · subst hx
        refine Or.inr ⟨nI 1, ?_, ?_⟩
        · simp (disch := omega) only [s_X12_guard_39, b_X12_guard_39, nS, tS2 o ht]
        · rw [if_pos (gdT_iff.mpr hall)]
      · subst hx
        refine Or.inr ⟨nI 0, ?_, ?_⟩
        · simp (disch := omega) only [s_X12_guard_39, b_X12_guard_39, nS, tS2 o ht]
        · rw [if_neg (fun q => hno (gdT_iff.mp q k hk))]
theorem d_guard (o : OB h a 12 mdL A B I J) (ht : HT A I t j) : F_X12_guard h a = some (nI (gu2 t (2 ^ eN t - 1))) := by
  obtain ⟨v0, v2, v9, vw, vk⟩ := tv_ok ht.1
  have p9 : 2 ^ eN t ≤ 2 ^ 9 := Nat.pow_le_pow_right (by omega) v9
  have p1 : 0 < 2 ^ eN t := Nat.two_pow_pos _
  have hlast := bb_last ht.1
  rw [show 2 ^ eN t - 1 + 1 = 2 ^ eN t by omega] at hlast
  have esh : q_shl (nI 1) (nI (eN t)) = nI (2 ^ eN t) := b_shl (by omega)
  generalize gu2 t (2 ^ eN t - 1) = G at hlast ⊢
  have lp : q_lp (s_X12_guard_4 h a) q_N (m1, nI 0) = some (oI (bb (gdT t) (2 ^ eN t))) := by
    generalize 2 ^ eN t = K at p9 p1 esh
    clear hlast
    refine q_lp_for (fun i => (oI (bb (gdT t) i), nI i)) K (fun i hi => ?_) ?_ q_N (q_lt_N (by omega))
    · have hlt := bb_lt (good := gdT t) i
      have oi := on_le i
      have b1 := d_ones h (x := i) (by omega)
      have hbb : bb (gdT t) (i + 1) = match bb (gdT t) i with
        | none => if gdT t i then some i else none
        | some x => if on i < on x ∧ gdT t i = true then some i else some x := rfl
      rw [hbb]
      generalize bb (gdT t) i = B0 at hlt
      have run : ∀ y, j_X12_guard_30 h a y (nI i) = some (.inl (if gdT t i then nI i else y, nI (i + 1))) := by
        intro y
        obtain ⟨r, er, hr⟩ := d_gset o ht (M := i) (by omega) y
        subst hr
        cases hg : gdT t i with
        | false =>
          rw [hg] at er
          have er : q_lp (s_X12_guard_39 h a y (nI i)) q_N (nI 1, nI 0) = some (nI 0) := er
          rw [if_neg (by decide)]
          simp (disch := omega) only [j_X12_guard_30, j_X12_guard_35, j_X12_guard_96, nS, er]
        | true =>
          rw [hg] at er
          have er : q_lp (s_X12_guard_39 h a y (nI i)) q_N (nI 1, nI 0) = some (nI 1) := er
          rw [if_pos rfl]
          simp (disch := omega) only [j_X12_guard_30, j_X12_guard_35, j_X12_guard_96, nS, er]
      cases B0 with
      | none =>
        have r1 := run m1
        show s_X12_guard_4 h a (m1, nI i) = some (.inl (oI (if gdT t i then some i else none), nI (i + 1)))
        cases hg : gdT t i with
        | false =>
          rw [hg] at r1
          simp (disch := omega) only [s_X12_guard_4, b_X12_guard_4, nS, tS2 o ht, esh, r1]
          rfl
        | true =>
          rw [hg] at r1
          simp (disch := omega) only [s_X12_guard_4, b_X12_guard_4, nS, tS2 o ht, esh, r1]
          rfl
      | some x =>
        have hx := hlt x rfl
        have r1 := run (nI x)
        have b2 := d_ones h (x := x) (by omega)
        have ox := on_le x
        show s_X12_guard_4 h a (nI x, nI i) = some (.inl (oI (if on i < on x ∧ gdT t i = true then some i else some x), nI (i + 1)))
        rcases Nat.lt_or_ge (on i) (on x) with h1' | h1'
        · cases hg : gdT t i with
          | false =>
            rw [hg] at r1
            rw [if_neg (fun q => by cases q.2)]
            simp (disch := omega) only [s_X12_guard_4, b_X12_guard_4, nS, tS2 o ht, esh, b1, b2, r1]
            rfl
          | true =>
            rw [hg] at r1
            rw [if_pos ⟨h1', rfl⟩]
            simp (disch := omega) only [s_X12_guard_4, b_X12_guard_4, nS, tS2 o ht, esh, b1, b2, r1]
            rfl
        · rw [if_neg (fun q => by omega)]
          have z : q_lp (s_X12_guard_39 h a (nI x) (nI i)) q_N (nI 0, nI 0) = some (nI 0) := by
            refine q_lp_stop (n := 999999) ?_
            simp (disch := omega) only [s_X12_guard_39, b_X12_guard_39, nS, tS2 o ht]
          simp (disch := omega) only [s_X12_guard_4, b_X12_guard_4, j_X12_guard_35, j_X12_guard_96, nS, tS2 o ht, esh, b1, b2, z]
          rfl
    · simp (disch := omega) only [s_X12_guard_4, b_X12_guard_4, nS, tS2 o ht, esh]
  rw [hlast, oI_some] at lp
  simp (disch := omega) only [F_X12_guard, nS, lp]
theorem d_house (o : OB h a 12 mdL A B I J) (ht : HT A I t j) {q : Nat} (h1 : 10 ≤ q) (h2 : q < 50) (hr : q % 10 < eN t) : F_X12_ofHouse h a (nI (q / 10)) (nI (q % 10)) = some (aT t q) := by
  obtain ⟨v0, v2, v9, vw, vk⟩ := tv_ok ht.1
  rw [aT_h h1 h2, if_neg (by omega)]
  have hd : q / 10 = 1 ∨ q / 10 = 2 ∨ q / 10 = 3 ∨ q / 10 = 4 := by omega
  generalize q % 10 = r at hr ⊢
  generalize q / 10 = d at hd ⊢
  rcases hd with rfl | rfl | rfl | rfl
  · rw [if_pos rfl]
    rcases Nat.lt_or_ge (r + 1) (eN t) with hc2 | hc2
    · rw [if_neg (by omega)]
      simp (disch := omega) only [F_X12_ofHouse, nS, tS2 o ht]
    · rw [if_pos (by omega)]
      simp (disch := omega) only [F_X12_ofHouse, nS, tS2 o ht]
  · simp (disch := omega) only [F_X12_ofHouse, nS, tS2 o ht]
  · simp (disch := omega) only [F_X12_ofHouse, nS, tS2 o ht]
  · have := d_heardIn o ht hr
    simp (disch := omega) only [F_X12_ofHouse, nS, tS2 o ht, this]
end TWD
