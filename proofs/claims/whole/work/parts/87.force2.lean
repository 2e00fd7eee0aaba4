/-! ===== force: the programs ===== -/
theorem fG_no {m : MB} {s p : Nat} {V : Nat → Nat} {l : Nat} (h : ¬ sc m l = s) : fG m s p V l = f1 (ba (yo m p l) (fun k => V (gg m l k)) (fn m l)) := if_neg h
theorem fG_is {m : MB} {s p : Nat} {V : Nat → Nat} {l : Nat} (h : sc m l = s) : fG m s p V l = 1 := if_pos h
theorem ba_lt {y : Int32} {v : Nat → Nat} {M n : Nat} (hv : ∀ k, k < n → v k < M) : ∀ x, ba y v n = some x → x < M := bs_lt n (fun k hk _ => hv k hk)
section FOC
variable {h : qH} {a b : Nat} {m : MB} {A : Nat → Nat → Int32} {B : Nat → Nat → Int64} {I : Nat → Int32} {J : Nat → Int64}
theorem c_sure (o : OB h a 6 ptL A B I J) (c : CB h b m) {p l : Nat} (hp : p < 64) (hl : l < mbL m) {V : Nat → Nat} (hV : ∀ l, V l ≤ 1000000) (g : ∀ l, l < mbL m → A 1 l = nI (V l)) : F_X6_sureBehind h a b (nI l) (nI p) = some (nI ((ba (yo m p l) (fun k => V (gg m l k)) (fn m l)).getD 1000000)) := by
  have ok := c.1
  have hL := L_le ok
  have hf := fn_le ok hl
  have hw := (wh_ok ok hl).2
  have hlt : ∀ j x, ba (yo m p l) (fun k => V (gg m l k)) j = some x → x < 1000001 := fun j => ba_lt (fun k hk => by have := hV (gg m l k); omega)
  have lp : q_lp (s_X6_sureBehind_26 h a b (nI l) (yo m p l)) q_N (m1, nI 0) = some (oI (ba (yo m p l) (fun k => V (gg m l k)) (fn m l))) := by
    refine q_lp_for (fun j => (oI (ba (yo m p l) (fun k => V (gg m l k)) j), nI j)) (fn m l) (fun j hj => ?_) ?_ q_N (q_lt_N (by omega))
    · have hg := gg_lt ok hl hj
      have e := g _ hg
      have hv := hV (gg m l j)
      rw [ba_s, ← sel_go (α := Option ((Int32 × Int32) ⊕ Int32)) (y := yo m p l) (by omega) (fun x hx => by have := hlt j x hx; omega) (fun z => some (Sum.inl (z, nI (j + 1))))]
      simp (disch := omega) only [s_X6_sureBehind_26, b_X6_sureBehind_26, j_X6_sureBehind_66, nS, cS c, X6_rd o, e]
    · simp (disch := omega) only [s_X6_sureBehind_26, b_X6_sureBehind_26, nS, cS c]
  have hx := hlt (fn m l)
  have j18 : j_X6_sureBehind_18 h a b (nI l) (yo m p l) = some (nI ((ba (yo m p l) (fun k => V (gg m l k)) (fn m l)).getD 1000000)) := by
    generalize ba (yo m p l) (fun k => V (gg m l k)) (fn m l) = bb at lp hx
    cases bb with
    | none =>
      rw [oI_none] at lp
      simp (disch := omega) only [j_X6_sureBehind_18, nS, lp]
      rfl
    | some x =>
      have := hx x rfl
      rw [oI_some] at lp
      simp (disch := omega) only [j_X6_sureBehind_18, nS, lp]
      rfl
  have ht := tb_le p (wh m l)
  unfold yo at *
  by_cases h1 : tb p (wh m l) = 1
  · rw [h1] at j18 ⊢
    simp (disch := omega) only [F_X6_sureBehind, nS, cS c, bS, h1, j18]
  · have h1 : tb p (wh m l) = 0 := by omega
    rw [h1] at j18 ⊢
    simp (disch := omega) only [F_X6_sureBehind, nS, cS c, bS, h1, j18]
theorem c_force (o : OB h a 6 ptL A B I J) (c : CB h b m) (hd : b + 12 ≤ a ∨ a + 8 ≤ b) {s p : Nat} (hs : s < 10) (hp : p < 64) (h0 : 0 < mbL m) : ∃ h' A', F_X6_linesForSure h a b (nI s) (nI p) = some (if vJ m s p 20 0 < 1000000 then nI (vJ m s p 20 0) else m1, h') ∧ OB h' a 6 ptL A' B I J ∧ Fr h h' a (a + 8) := by
  have ok := c.1
  have hL := L_le ok
  have ck : ∀ {h'}, Fr h h' a (a + 8) → CB h' b m := fun r => c.kept (fun q q1 q2 => r q (by omega))
  obtain ⟨h1, e1, A1, o1, r1, z1⟩ := q_lp1 (step := s_X6_linesForSure_13 a b (nI s) (nI p)) (fun i h' => ∃ A', OB h' a 6 ptL A' B I J ∧ Fr h h' a (a + 8) ∧ ∀ l, l < i → A' 1 l = nI 1000000) 20 0 (by omega)
    (fun i h1 hi ⟨A1, o1, r1, z1⟩ => by
      obtain ⟨h2, e2, o2, r2⟩ := X6_s1 o1 (i := i) (nI 1000000) (by omega)
      refine ⟨h2, ?_, _, o2, r1.tr r2, fun l hl => ?_⟩
      · simp (disch := omega) only [s_X6_linesForSure_13, b_X6_linesForSure_13, nS, Nat.add_zero, X6_rd o1, e2]
      · rw [upF_self]
        by_cases hli : l = i
        · subst hli; exact pk_us
        · rw [pk_un hli]; exact z1 l (by omega))
    (fun h1 _ => by simp (disch := omega) only [s_X6_linesForSure_13, b_X6_linesForSure_13, nS, Nat.add_zero])
    (h := h) ⟨A, o, Fr.rf, fun l hl => by omega⟩
  obtain ⟨h3, e3, A3, o3, r3, z3⟩ := q_lp1 (step := s_X6_linesForSure_38 a b (nI s) (nI p)) (fun t h' => ∃ A', OB h' a 6 ptL A' B I J ∧ Fr h h' a (a + 8) ∧ ∀ l, l < mbL m → A' 1 l = nI (vJ m s p t l)) 20 0 (by omega)
    (fun t h1 ht ⟨A1, o1, r1, z1⟩ => by
      obtain ⟨h2, e2, A2, o2, r2, y2, z2⟩ := q_lp1 (step := s_X6_linesForSure_48 a b (nI s) (nI p) (nI t)) (fun i h' => ∃ A', OB h' a 6 ptL A' B I J ∧ Fr h h' a (a + 8) ∧ (∀ l, l < mbL m → A' 1 l = nI (vJ m s p t l)) ∧ ∀ j, j < i → A' 2 j = nI (vJ m s p (t + 1) j)) (mbL m) 0 (by omega)
        (fun i h1 hi ⟨A1, o1, r1, y1, z1⟩ => by
          have c1 := ck r1
          have hsc := (sc_ok ok hi).2
          obtain ⟨h2, e2, o2, r2⟩ := X6_s2 o1 (i := i) (nI (vJ m s p (t + 1) i)) (by omega)
          have hb := c_sure o1 c1 hp hi (V := vJ m s p t) (fun l => (vJ_le m s p t l).2) y1
          have hlt := ba_lt (y := yo m p i) (v := fun k => vJ m s p t (gg m i k)) (M := 1000001) (n := fn m i) (fun k hk => by have := (vJ_le m s p t (gg m i k)).2; omega)
          refine ⟨h2, ?_, _, o2, r1.tr r2, fun l hl => by rw [upF_ne _ _ (show (1 : Nat) ≠ 2 by decide)]; exact y1 l hl, fun j hj => ?_⟩
          · have e2 : q_sI h1 .int (a + 3) (nI i) (nI (fG m s p (vJ m s p t) i)) = some h2 := e2
            by_cases hs2 : sc m i = s
            · rw [fG_is hs2] at e2
              simp (disch := omega) only [s_X6_linesForSure_48, b_X6_linesForSure_48, nS, Nat.add_zero, cS c1, X6_rd o1, e2]
            · rw [fG_no hs2] at e2
              generalize ba (yo m p i) (fun k => vJ m s p t (gg m i k)) (fn m i) = bb at e2 hb hlt
              cases bb with
              | none =>
                dsimp only [f1] at e2
                have hb : F_X6_sureBehind h1 a b (nI i) (nI p) = some (nI 1000000) := hb
                simp (disch := omega) only [s_X6_linesForSure_48, b_X6_linesForSure_48, nS, Nat.add_zero, cS c1, X6_rd o1, hb, F_J9_min_7cf53, e2]
              | some x =>
                dsimp only [f1] at e2
                have hb : F_X6_sureBehind h1 a b (nI i) (nI p) = some (nI x) := hb
                have := hlt x rfl
                rcases Nat.lt_or_ge (1 + x) 1000000 with h3 | h3
                · rw [Nat.min_eq_right (by omega), Nat.add_comm x 1] at e2
                  simp (disch := omega) only [s_X6_linesForSure_48, b_X6_linesForSure_48, nS, Nat.add_zero, cS c1, X6_rd o1, hb, F_J9_min_7cf53, e2]
                · rw [Nat.min_eq_left (by omega)] at e2
                  simp (disch := omega) only [s_X6_linesForSure_48, b_X6_linesForSure_48, nS, Nat.add_zero, cS c1, X6_rd o1, hb, F_J9_min_7cf53, e2]
          · rw [upF_self]
            by_cases hji : j = i
            · subst hji; exact pk_us
            · rw [pk_un hji]; exact z1 j (by omega))
        (fun h1 ⟨A1, o1, r1, y1, z1⟩ => by simp (disch := omega) only [s_X6_linesForSure_48, b_X6_linesForSure_48, nS, Nat.add_zero, cS (ck r1)])
        (h := h1) ⟨A1, o1, r1, z1, fun l hl => by omega⟩
      obtain ⟨h4, e4, o4, r4⟩ := X6_c21 o2 (n := 20) (by omega)
      refine ⟨h4, ?_, _, o4, r2.tr r4, fun l hl => ?_⟩
      · simp (disch := omega) only [s_X6_linesForSure_38, b_X6_linesForSure_38, j_X6_linesForSure_106, nS, Nat.add_zero, e2, X6_rd o2, e4]
      · rw [upF_self, cpy_in (by omega), z2 l hl])
    (fun h1 _ => by simp (disch := omega) only [s_X6_linesForSure_38, b_X6_linesForSure_38, nS, Nat.add_zero])
    (h := h1) ⟨A1, o1, r1, fun l hl => z1 l (by omega)⟩
  have e0 := z3 0 h0
  have hv := (vJ_le m s p 20 0).2
  refine ⟨h3, A3, ?_, o3, r3⟩
  by_cases hh : vJ m s p 20 0 < 1000000
  · rw [if_pos hh]
    simp (disch := omega) only [F_X6_linesForSure, nS, cS c, e1, e3, X6_rd o3, e0]
  · rw [if_neg hh]
    simp (disch := omega) only [F_X6_linesForSure, nS, cS c, e1, e3, X6_rd o3, e0]
end FOC
/-- what the reference holds while it looks through the followers -/
def fv (y : Int32) (o : Option Nat) : Nat := match o with
  | none => if y = nI 0 then 0 else 1000000
  | some x => if y = nI 0 then x + 1 else min 1000000 (x + 1)
theorem fv_sel (y : Int32) (o : Option Nat) (v : Nat) : fv y (sel y o v) = if y = nI 0 then max (fv y o) (v + 1) else min (fv y o) (v + 1) := by
  by_cases hy : y = nI 0
  · rw [if_pos hy]
    cases o with
    | none => simp only [sel, fv, if_pos hy]; omega
    | some x =>
      simp only [sel, if_pos hy]
      split
      · simp only [fv, if_pos hy]; omega
      · simp only [fv, if_pos hy]; omega
  · rw [if_neg hy]
    cases o with
    | none => simp only [sel, fv, if_neg hy]
    | some x =>
      simp only [sel, if_neg hy]
      split
      · simp only [fv, if_neg hy]; omega
      · simp only [fv, if_neg hy]; omega
section FOD
variable {h : qH} {a : Nat} {A : Nat → Nat → Int32} {B : Nat → Nat → Int64} {I : Nat → Int32} {J : Nat → Int64} {b : Nat → Int32} {k : Nat}
theorem d_forceCell (o : OB h a 12 mdL A B I J) (hb : HB A I b k) {rr : Int32} {s p l : Nat} (hs : s < 10) (hp : p < 64) (hl : l < mbL (bMB b)) {V : Nat → Nat} (hV : ∀ l, l < mbL (bMB b) → V l ≤ 1000000) (g : ∀ l, l < mbL (bMB b) → A 30 l = nI (V l)) : ∃ h', s_X12_force_94 a (nI s) (nI p) rr (nI l, h) = some (.inl (nI (l + 1), h')) ∧ OB h' a 12 mdL (upF A 30 (upd (A 30) l (nI (fG (bMB b) s p V l)))) B I J ∧ Fr h h' a (a + 27) := by
  have ok := bMB_ok hb.1
  have hL := L_le ok
  have hf := fn_le ok hl
  have hsc := (sc_ok ok hl).2
  have hw := (wh_ok ok hl).2
  have hGl := (fG_le (bMB b) s p V l).2
  obtain ⟨h1, e1, o1, r1⟩ := X12_s30 o (i := l) (nI (fG (bMB b) s p V l)) (by omega)
  refine ⟨h1, ?_, o1, r1⟩
  have ht := tb_le p (wh (bMB b) l)
  obtain ⟨m, hm'⟩ : ∃ m, m = bMB b := ⟨_, rfl⟩
  have hlt : ∀ j, j ≤ fn (bMB b) l → ∀ x, ba (yo (bMB b) p l) (fun k => V (gg (bMB b) l k)) j = some x → x < 1000001 := fun j hj => ba_lt (fun k hk => by have := hV (gg (bMB b) l k) (gg_lt ok hl (by omega)); omega)
  have hfv : ∀ j, j ≤ fn (bMB b) l → fv (yo (bMB b) p l) (ba (yo (bMB b) p l) (fun k => V (gg (bMB b) l k)) j) < 2000000 := by
    intro j hj
    have := hlt j hj
    cases hba : ba (yo (bMB b) p l) (fun k => V (gg (bMB b) l k)) j with
    | none => unfold fv; dsimp only; split <;> omega
    | some x => have := this x hba; unfold fv; dsimp only; split <;> omega
  -- the loop
  have lp : ∀ v0, (v0 = fv (yo (bMB b) p l) none) → q_lp (s_X12_force_142 h a (nI s) (nI p) rr (nI l) (nI (tb p (wh (bMB b) l)))) q_N (nI v0, nI 0) = some (nI (fv (yo (bMB b) p l) (ba (yo (bMB b) p l) (fun k => V (gg (bMB b) l k)) (fn (bMB b) l)))) := by
    rintro v0 rfl
    refine q_lp_for (fun j => (nI (fv (yo (bMB b) p l) (ba (yo (bMB b) p l) (fun k => V (gg (bMB b) l k)) j)), nI j)) (fn (bMB b) l) (fun j hj => ?_) ?_ q_N (q_lt_N (by omega))
    · have hg := gg_lt ok hl hj
      have e := g _ hg
      have hv := hV _ hg
      have hb1 := hfv j (by omega)
      rw [ba_s, fv_sel]
      by_cases h1 : tb p (wh (bMB b) l) = 1
      · have hy : ¬ yo (bMB b) p l = nI 0 := by unfold yo; rw [h1]; decide
        rw [if_neg hy]
        generalize fv (yo (bMB b) p l) (ba (yo (bMB b) p l) (fun k => V (gg (bMB b) l k)) j) = z at hb1
        rcases Nat.lt_or_ge z (V (gg (bMB b) l j) + 1) with h3 | h3
        · rw [Nat.min_eq_left (by omega)]
          simp (disch := omega) only [s_X12_force_142, b_X12_force_142, nS, X12_rd o, d_pack o hb, e, h1, F_X12_lesser]
        · rw [Nat.min_eq_right (by omega)]
          simp (disch := omega) only [s_X12_force_142, b_X12_force_142, nS, X12_rd o, d_pack o hb, e, h1, F_X12_lesser]
      · have h1 : tb p (wh (bMB b) l) = 0 := by omega
        have hy : yo (bMB b) p l = nI 0 := by unfold yo; rw [h1]
        rw [if_pos hy]
        generalize fv (yo (bMB b) p l) (ba (yo (bMB b) p l) (fun k => V (gg (bMB b) l k)) j) = z at hb1
        rcases Nat.lt_or_ge (V (gg (bMB b) l j) + 1) z with h3 | h3
        · rw [Nat.max_eq_left (by omega)]
          simp (disch := omega) only [s_X12_force_142, b_X12_force_142, nS, X12_rd o, d_pack o hb, e, h1, F_X12_greater]
        · rw [Nat.max_eq_right (by omega)]
          simp (disch := omega) only [s_X12_force_142, b_X12_force_142, nS, X12_rd o, d_pack o hb, e, h1, F_X12_greater]
    · simp (disch := omega) only [s_X12_force_142, b_X12_force_142, nS, X12_rd o, d_pack o hb]
  -- the end
  have fin : ∀ v0 v1, q_lp (s_X12_force_142 h a (nI s) (nI p) rr (nI l) (nI (tb p (wh (bMB b) l)))) q_N (nI v0, nI 0) = some (nI v1) → v1 < 2000000 → (¬ sc (bMB b) l = s → fG (bMB b) s p V l = min 1000000 v1) → j_X12_force_137 h a (nI s) (nI p) rr (nI l) (nI (tb p (wh (bMB b) l))) (nI v0) = some (.inl (nI (l + 1), h1)) := by
    intro v0 v1 hlp hv1 he
    by_cases hs2 : sc (bMB b) l = s
    · rw [fG_is hs2] at e1
      simp (disch := omega) only [j_X12_force_137, nS, hlp, X12_rd o, d_pack o hb, e1]
    · rw [he hs2] at e1
      rcases Nat.lt_or_ge v1 1000000 with h3 | h3
      · rw [Nat.min_eq_right (by omega)] at e1
        simp (disch := omega) only [j_X12_force_137, nS, hlp, X12_rd o, d_pack o hb, F_X12_lesser, e1]
      · rw [Nat.min_eq_left (by omega)] at e1
        simp (disch := omega) only [j_X12_force_137, nS, hlp, X12_rd o, d_pack o hb, F_X12_lesser, e1]
  have hvf := hfv (fn (bMB b) l) (Nat.le_refl _)
  by_cases h1 : tb p (wh (bMB b) l) = 1
  · have hy : ¬ yo (bMB b) p l = nI 0 := by unfold yo; rw [h1]; decide
    have := fin 1000000 _ (lp 1000000 (by simp only [fv, if_neg hy])) hvf (fun q => by
      rw [fG_no q]
      cases ba (yo (bMB b) p l) (fun k => V (gg (bMB b) l k)) (fn (bMB b) l) with
      | none => simp only [f1, fv, if_neg hy]; omega
      | some x => simp only [f1, fv, if_neg hy]; omega)
    rw [h1] at this
    simp (disch := omega) only [s_X12_force_94, b_X12_force_94, nS, X12_rd o, hb.i24, d_pack o hb, bS, h1, j_X12_force_130, this]
  · have h1 : tb p (wh (bMB b) l) = 0 := by omega
    have hy : yo (bMB b) p l = nI 0 := by unfold yo; rw [h1]
    rcases Nat.eq_zero_or_pos (fn (bMB b) l) with h0 | h0
    · have lp0 : q_lp (s_X12_force_142 h a (nI s) (nI p) rr (nI l) (nI (tb p (wh (bMB b) l)))) q_N (nI 1000000, nI 0) = some (nI 1000000) := by
        refine q_lp_stop (n := 999999) ?_
        simp (disch := omega) only [s_X12_force_142, b_X12_force_142, nS, X12_rd o, d_pack o hb]
      have := fin 1000000 1000000 lp0 (by omega) (fun q => by
        rw [fG_no q, h0]
        rfl)
      rw [h1] at this
      simp (disch := omega) only [s_X12_force_94, b_X12_force_94, nS, X12_rd o, hb.i24, d_pack o hb, bS, h1, j_X12_force_130, this]
    · have := fin 0 _ (lp 0 (by simp only [fv, if_pos hy])) hvf (fun q => by
        rw [fG_no q]
        have hne : ba (yo (bMB b) p l) (fun k => V (gg (bMB b) l k)) (fn (bMB b) l) ≠ none := by
          obtain ⟨n, hn⟩ : ∃ n, fn (bMB b) l = n + 1 := ⟨fn (bMB b) l - 1, by omega⟩
          rw [hn, ba_s]
          unfold sel
          split
          · exact fun e => by cases e
          · split <;> split <;> exact fun e => by cases e
        cases hba : ba (yo (bMB b) p l) (fun k => V (gg (bMB b) l k)) (fn (bMB b) l) with
        | none => exact absurd hba hne
        | some x => simp only [f1, fv, if_pos hy])
      rw [h1] at this
      simp (disch := omega) only [s_X12_force_94, b_X12_force_94, nS, X12_rd o, hb.i24, d_pack o hb, bS, h1, this]
theorem d_force (o : OB h a 12 mdL A B I J) (hb : HB A I b k) {s p : Nat} (hs : s < 10) (hp : p < 64) : ∃ h1 h' A', q_lp (s_X12_force_42 a (nI s) (nI p)) q_N (nI 0, h) = some h1 ∧ q_lp (s_X12_force_84 a (nI s) (nI p)) q_N (nI 0, h1) = some h' ∧ OB h' a 12 mdL A' B I J ∧ Fr h h' a (a + 27) ∧ On [30] A A' ∧ ∀ l, l < mbL (bMB b) → A' 30 l = nI (vJ (bMB b) s p 20 l) := by
  have ok := bMB_ok hb.1
  have hL := L_le ok
  have hbk : ∀ {A' : Nat → Nat → Int32}, On [30] A A' → HB A' I b k := fun n => hb.cg (n 6 (by decide)) (n 25 (by decide)) (n 26 (by decide)) rfl rfl
  have v1 : ∀ l, vJ (bMB b) s p 1 l = if sc (bMB b) l = s then 1 else 1000000 := by
    intro l
    show fG (bMB b) s p (vJ (bMB b) s p 0) l = _
    split
    · next h => exact fG_is h
    · next h =>
      rw [fG_no h]
      cases hba : ba (yo (bMB b) p l) (fun k => vJ (bMB b) s p 0 (gg (bMB b) l k)) (fn (bMB b) l) with
      | none => rfl
      | some x =>
        obtain ⟨k, -, e⟩ := ba_mem _ _ hba
        have e : x = 1000000 := e
        rw [e]
        show min 1000000 (1000000 + 1) = 1000000
        omega
  obtain ⟨h1, e1, A1, o1, r1, n1, z1⟩ := q_lp1 (step := s_X12_force_42 a (nI s) (nI p)) (fun i h' => ∃ A', OB h' a 12 mdL A' B I J ∧ Fr h h' a (a + 27) ∧ On [30] A A' ∧ ∀ l, l < i → A' 30 l = nI (vJ (bMB b) s p 1 l)) (mbL (bMB b)) 0 (by omega)
    (fun i h1 hi ⟨A1, o1, r1, n1, z1⟩ => by
      have hb1 := hbk n1
      obtain ⟨h2, e2, o2, r2⟩ := X12_s30 o1 (i := i) (nI (vJ (bMB b) s p 1 i)) (by omega)
      refine ⟨h2, ?_, _, o2, r1.tr r2, n1.tr (On.up (by decide)), fun l hl => ?_⟩
      · rw [v1] at e2
        by_cases hs2 : sc (bMB b) i = s
        · rw [if_pos hs2] at e2
          simp (disch := omega) only [s_X12_force_42, b_X12_force_42, nS, Nat.add_zero, X12_rd o1, hb1.i24, d_pack o1 hb1, e2]
        · rw [if_neg hs2] at e2
          simp (disch := omega) only [s_X12_force_42, b_X12_force_42, nS, Nat.add_zero, X12_rd o1, hb1.i24, d_pack o1 hb1, e2]
      · rw [upF_self]
        by_cases hli : l = i
        · subst hli; exact pk_us
        · rw [pk_un hli]; exact z1 l (by omega))
    (fun h1 ⟨A1, o1, r1, n1, z1⟩ => by simp (disch := omega) only [s_X12_force_42, b_X12_force_42, nS, Nat.add_zero, d_pack o1 (hbk n1)])
    (h := h) ⟨A, o, Fr.rf, On.rf, fun l hl => by omega⟩
  obtain ⟨h', e', A', o', r', n', V, z', w', -⟩ := q_lp2 (stepO := s_X12_force_84 a (nI s) (nI p)) (stepI := fun t => s_X12_force_94 a (nI s) (nI p) (nI t)) (fun t i h' => ∃ A', OB h' a 12 mdL A' B I J ∧ Fr h h' a (a + 27) ∧ On [30] A A' ∧ ∃ V : Nat → Nat, (∀ l, l < mbL (bMB b) → A' 30 l = nI (V l)) ∧ (∀ l, l < mbL (bMB b) → vJ (bMB b) s p 20 l ≤ V l ∧ V l ≤ vJ (bMB b) s p (t + 1) l) ∧ ∀ l, l < mbL (bMB b) → l < i → V l ≤ vJ (bMB b) s p (t + 2) l) 20 (mbL (bMB b)) 0 (by omega) (by omega)
    (fun t i h1 ht hi ⟨A1, o1, r1, n1, V, z1, w1, y1⟩ => by
      obtain ⟨h2, e2, o2, r2⟩ := d_forceCell o1 (hbk n1) (rr := nI t) hs hp hi (V := V) (fun l hl => Nat.le_trans (w1 l hl).2 (vJ_le _ _ _ _ _).2) z1
      have hlow : vJ (bMB b) s p 20 i ≤ fG (bMB b) s p V i := by
        rw [← vJ_fix ok hi]
        exact fG_mo ok hi (fun l hl => (w1 l hl).1)
      have hup : fG (bMB b) s p V i ≤ vJ (bMB b) s p (t + 2) i := fG_mo ok hi (fun l hl => (w1 l hl).2)
      have hmo := vJ_mo ok (s := s) (p := p) (t + 1) i hi
      refine ⟨h2, e2, _, o2, r1.tr r2, n1.tr (On.up (by decide)), fun l => if l = i then fG (bMB b) s p V i else V l, fun l hl => ?_, fun l hl => ?_, fun l hl hli => ?_⟩
      · rw [upF_self]
        by_cases hli : l = i
        · subst hli; dsimp only; rw [pk_us, if_pos rfl]
        · dsimp only; rw [pk_un hli, if_neg hli]; exact z1 l hl
      · dsimp only
        by_cases hli : l = i
        · subst hli; rw [if_pos rfl]; exact ⟨hlow, Nat.le_trans hup hmo⟩
        · rw [if_neg hli]; exact w1 l hl
      · dsimp only
        by_cases hli2 : l = i
        · subst hli2; rw [if_pos rfl]; exact hup
        · rw [if_neg hli2]; exact y1 l hl (by omega))
    (fun t h1 ht ⟨A1, o1, r1, n1, g1⟩ => by simp (disch := omega) only [s_X12_force_94, b_X12_force_94, nS, d_pack o1 (hbk n1)])
    (fun t h1 ht ⟨A1, o1, r1, n1, V, z1, w1, y1⟩ => ⟨A1, o1, r1, n1, V, z1, fun l hl => ⟨(w1 l hl).1, y1 l hl hl⟩, fun l hl hli => by omega⟩)
    (fun t h1 h2 ht _ e => by simp (disch := omega) only [s_X12_force_84, b_X12_force_84, nS, Nat.add_zero, e])
    (fun h1 _ => by simp (disch := omega) only [s_X12_force_84, b_X12_force_84, nS, Nat.add_zero])
    (h := h1) ⟨A1, o1, r1, n1, vJ (bMB b) s p 1, z1, fun l hl => ⟨by
      have key : ∀ r, vJ (bMB b) s p (r + 1) l ≤ vJ (bMB b) s p 1 l := fun r => by
        induction r with
        | zero => exact Nat.le_refl _
        | succ r ih => exact Nat.le_trans (vJ_mo ok (r + 1) l hl) ih
      exact key 19, Nat.le_refl _⟩, fun l hl hli => by omega⟩
  refine ⟨h1, h', A', e1, e', o', r', n', fun l hl => ?_⟩
  have h2 : vJ (bMB b) s p 20 l ≤ V l ∧ V l ≤ vJ (bMB b) s p 21 l := w' l hl
  have h3 := vJ_fix ok (s := s) (p := p) hl
  rw [z' l hl, show V l = vJ (bMB b) s p 20 l by omega]
end FOD
section CALLS
variable {h : qH} {c nx : Nat} {σ : SG} {im : Nat → Option SG}
theorem q_force (s : ST h c nx σ im) (x y z : Int32) : QW h c σ im (F_X11_force h c x y z) (fun h1 => F_X12_force h1 (c + 80) x y z) := by
  obtain ⟨ok, ⟨xc, td, sc, -⟩, rm, -⟩ := s
  have hc0 := ok.2.1 0 (by omega)
  rcases scn y with ⟨s1, s2⟩ | ⟨s, hs, rfl, s1, s2⟩
  · refine QW.bad (v := m1) rm Fr.rf sc ?_ (fun h1 e1 ob1 => ?_)
    · rcases nOut_or x (n := sC σ 0) (by omega) with hx | ⟨k, hk, rfl⟩
      · simp (disch := omega) only [F_X11_force, xS xc, tS td, nS, t_bookOut td hx]
      · simp (disch := omega) only [F_X11_force, xS xc, tS td, nS, t_bookIn td ok hk, s1]
    · simp (disch := omega) only [F_X12_force, nS, e1, s2]
  rcases nRg z 0 63 (by omega) with hz | ⟨p, rfl, -, hp⟩
  · refine QW.bad (v := m1) rm Fr.rf sc ?_ (fun h1 e1 ob1 => ?_)
    · rcases nOut_or x (n := sC σ 0) (by omega) with hx | ⟨k, hk, rfl⟩
      · simp (disch := omega) only [F_X11_force, xS xc, tS td, nS, t_bookOut td hx]
      · rcases hz with h0 | ⟨n, rfl, hn, h0⟩
        · simp (disch := omega) only [F_X11_force, xS xc, tS td, nS, t_bookIn td ok hk, s1, gN h0]
        · simp (disch := omega) only [F_X11_force, xS xc, tS td, nS, t_bookIn td ok hk, s1]
    · have := in_out h1 (by omega) (by omega) hz
      simp (disch := omega) only [F_X12_force, nS, e1, s2, this]
  have i2 : ∀ h1, F_X12_in h1 (nI p) (nI 0) (nI 63) = some (nI 1) := fun h1 => in_in h1 (by omega) (by omega) hp
  rcases nOut_or x (n := sC σ 0) (by omega) with hx | ⟨k, hk, rfl⟩
  · refine QW.nob (v := m1) ok rm sc hx ?_ (fun h1 h2 e1 ob1 e2 => ?_)
    · simp (disch := omega) only [F_X11_force, xS xc, tS td, nS, t_bookOut td hx]
    · simp (disch := omega) only [F_X12_force, nS, e1, s2, i2, ob1, e2]
  have cb := t_CB td ok hk
  have okm := cb.1
  have hL := L_le okm
  have hsc := sc
  obtain ⟨-, -, ⟨A6, B6, I6, J6, o6⟩, -, -, -⟩ := sc
  rcases Nat.eq_zero_or_pos (mbL (bMB (sB σ k))) with h0 | h0
  · refine QW.go (v := m1) [] ok rm hk (hc := h) ?_ Fr.rf hsc (by decide) (fun h1 h2 A B I J e1 ob1 e2 o2 hb => ⟨h2, A, B, I, J, ?_, o2, Fr.rf, On.rf⟩)
    · simp (disch := omega) only [F_X11_force, F_X6_linesForSure, xS xc, tS td, nS, t_bookIn td ok hk, s1, o6.ob, cS cb]
    · have e24 := (d_pack o2 hb).1
      rw [h0] at e24
      simp (disch := omega) only [F_X12_force, nS, e1, s2, i2, ob1, e2, e24]
  obtain ⟨hc, A7, e7, o7, r7⟩ := c_force o6 cb (by omega) hs (p := p) (by omega) h0
  have fr7 : Fr h hc (c + 53) (c + 80) := r7.wd (by omega) (by omega)
  have sc7 : SC hc c := hsc.u6 r7 ⟨A7, B6, I6, J6, o7⟩
  refine QW.go (v := if vJ (bMB (sB σ k)) s p 20 0 < 1000000 then nI (vJ (bMB (sB σ k)) s p 20 0) else m1) [30] ok rm hk ?_ fr7 sc7 (by decide) (fun h1 h2 A B I J e1 ob1 e2 o2 hb => ?_)
  · simp (disch := omega) only [F_X11_force, xS xc, tS td, nS, t_bookIn td ok hk, s1, o6.ob, e7]
  · obtain ⟨h3, h4, A3, e3, e4, o3, r3, n3, g3⟩ := d_force o2 hb hs (p := p) (by omega)
    have t0 := g3 0 h0
    have hv := (vJ_le (bMB (sB σ k)) s p 20 0).2
    refine ⟨h4, A3, B, I, J, ?_, o3, r3, n3⟩
    by_cases hh : vJ (bMB (sB σ k)) s p 20 0 < 1000000
    · rw [if_pos hh]
      simp (disch := omega) only [F_X12_force, nS, e1, s2, i2, ob1, e2, d_pack o2 hb, e3, e4, X12_rd o3, t0]
    · rw [if_neg hh]
      simp (disch := omega) only [F_X12_force, nS, e1, s2, i2, ob1, e2, d_pack o2 hb, e3, e4, X12_rd o3, t0]
end CALLS
