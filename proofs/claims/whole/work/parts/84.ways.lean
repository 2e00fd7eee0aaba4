/-! ===== copies within an object; ways ===== -/
section CPY
variable {h : qH} {a ci : Nat} {lay : List (Nat × Nat)} {A : Nat → Nat → Int32} {B : Nat → Nat → Int64} {I : Nat → Int32} {J : Nat → Int64}
theorem OB.cpI (o : OB h a ci lay A B I J) {j k nj nk n : Nat} (hj : lay[j]? = some (1, nj)) (hk : lay[k]? = some (1, nk)) (h1 : n ≤ nj) (h2 : n ≤ nk) (h31 : n < 2 ^ 31) : ∃ h', q_cpI h .int (a + 1 + rk lay j) (nI 0) (a + 1 + rk lay k) (nI 0) (nI n) = some h' ∧ OB h' a ci lay (upF A k (va_cpy (A j) (A k) 0 0 n)) B I J ∧ Fr h h' a (a + obZ lay) := by
  refine ⟨_, ?_, o.row hk rfl (fun j hj => upF_ne _ _ hj) (fun j _ => rfl), OB.frm hk rfl⟩
  unfold q_cpI
  rw [o.2 j 1 nj hj rfl, o.2 k 1 nk hk rfl]
  simp only [obC, upF_self]
  have e0 : (nI 0).toNatClampNeg = 0 := nI_cl (by omega)
  rw [if_pos ⟨trivial, trivial, nI_nn (by omega), nI_nn (by omega), nI_nn h31, by rw [e0, nI_cl h31]; omega, by rw [e0, nI_cl h31]; omega, fun i hi => rfl⟩, e0, nI_cl h31]
theorem OB.cpL (o : OB h a ci lay A B I J) {j k nj nk n : Nat} (hj : lay[j]? = some (3, nj)) (hk : lay[k]? = some (3, nk)) (h1 : n ≤ nj) (h2 : n ≤ nk) (h31 : n < 2 ^ 31) : ∃ h', q_cpL h (a + 1 + rk lay j) (nI 0) (a + 1 + rk lay k) (nI 0) (nI n) = some h' ∧ OB h' a ci lay A (upF B k (va_cpy (B j) (B k) 0 0 n)) I J ∧ Fr h h' a (a + obZ lay) := by
  refine ⟨_, ?_, o.row hk rfl (fun j _ => rfl) (fun j hj => upF_ne _ _ hj), OB.frm hk rfl⟩
  unfold q_cpL
  rw [o.2 j 3 nj hj rfl, o.2 k 3 nk hk rfl]
  simp only [obC, upF_self]
  have e0 : (nI 0).toNatClampNeg = 0 := nI_cl (by omega)
  rw [if_pos ⟨trivial, trivial, nI_nn (by omega), nI_nn (by omega), nI_nn h31, by rw [e0, nI_cl h31]; omega, by rw [e0, nI_cl h31]; omega⟩, e0, nI_cl h31]
end CPY
theorem cpy_in {α : Type} {f g : Nat → α} {n i : Nat} (hi : i < n) : va_cpy f g 0 0 n i = f i := by
  unfold va_cpy
  rw [if_pos ⟨Nat.zero_le _, by omega⟩, Nat.sub_zero, Nat.zero_add]
theorem X6_c21 {h : qH} {a : Nat} {A : Nat → Nat → Int32} {B : Nat → Nat → Int64} {I : Nat → Int32} {J : Nat → Int64} (o : OB h a 6 ptL A B I J) {n : Nat} (hn : n ≤ 200) : ∃ h', q_cpI h .int (a + 3) (nI 0) (a + 2) (nI 0) (nI n) = some h' ∧ OB h' a 6 ptL (upF A 1 (va_cpy (A 2) (A 1) 0 0 n)) B I J ∧ Fr h h' a (a + 8) := o.cpI (j := 2) (k := 1) rfl rfl hn hn (by omega)
theorem X6_c65 {h : qH} {a : Nat} {A : Nat → Nat → Int32} {B : Nat → Nat → Int64} {I : Nat → Int32} {J : Nat → Int64} (o : OB h a 6 ptL A B I J) : ∃ h', q_cpI h .int (a + 7) (nI 0) (a + 6) (nI 0) (nI 4) = some h' ∧ OB h' a 6 ptL (upF A 5 (va_cpy (A 6) (A 5) 0 0 4)) B I J ∧ Fr h h' a (a + 8) := o.cpI (j := 6) (k := 5) rfl rfl (by omega) (by omega) (by omega)
theorem X6_c43 {h : qH} {a : Nat} {A : Nat → Nat → Int32} {B : Nat → Nat → Int64} {I : Nat → Int32} {J : Nat → Int64} (o : OB h a 6 ptL A B I J) : ∃ h', q_cpL h (a + 5) (nI 0) (a + 4) (nI 0) (nI 20) = some h' ∧ OB h' a 6 ptL A (upF B 3 (va_cpy (B 4) (B 3) 0 0 20)) I J ∧ Fr h h' a (a + 8) := o.cpL (j := 4) (k := 3) rfl rfl (by omega) (by omega) (by omega)
theorem X5_c10 {h : qH} {a : Nat} {A : Nat → Nat → Int32} {B : Nat → Nat → Int64} {I : Nat → Int32} {J : Nat → Int64} (o : OB h a 5 odL A B I J) : ∃ h', q_cpL h (a + 2) (nI 0) (a + 1) (nI 0) (nI 20) = some h' ∧ OB h' a 5 odL A (upF B 0 (va_cpy (B 1) (B 0) 0 0 20)) I J ∧ Fr h h' a (a + 3) := o.cpL (j := 1) (k := 0) rfl rfl (by omega) (by omega) (by omega)
/-! how many ways -/
def sl (f : Nat → Int64) : Nat → Int64
  | 0 => lN 0
  | n + 1 => sl f n + f n
def wc (m : MB) : Nat → Nat → Int64
  | 0, _ => lN 1
  | t + 1, l => if fn m l = 0 then lN 1 else sl (fun k => wc m t (gg m l k)) (fn m l)
def GL (T : Nat → Int64) (L : Nat) (ix : Nat → Nat → Nat) (val : Nat → Nat → Int64) (P : Nat → Nat → Prop) : Prop := ∀ t l, l < L → P t l → T (ix t l) = val t l
theorem GL.up {T : Nat → Int64} {L : Nat} {ix : Nat → Nat → Nat} {val : Nat → Nat → Int64} {P P' : Nat → Nat → Prop} (g : GL T L ix val P) {t l : Nat} (hix : ∀ t' l', l' < L → ix t' l' = ix t l → t' = t ∧ l' = l) (hP : ∀ t' l', l' < L → P' t' l' → P t' l' ∨ (t' = t ∧ l' = l)) : GL (vp_updL T (ix t l) (val t l)) L ix val P' := by
  intro t' l' hl' h'
  by_cases he : ix t' l' = ix t l
  · obtain ⟨rfl, rfl⟩ := hix t' l' hl' he
    exact pk_uLs
  · rw [pk_uLn he]
    refine g t' l' hl' ((hP t' l' hl' h').resolve_right (fun e => he ?_))
    rw [e.1, e.2]
theorem GL.mo {T : Nat → Int64} {L : Nat} {ix : Nat → Nat → Nat} {val : Nat → Nat → Int64} {P P' : Nat → Nat → Prop} (g : GL T L ix val P) (hP : ∀ t' l', l' < L → P' t' l' → P t' l') : GL T L ix val P' := fun t' l' hl' h' => g t' l' hl' (hP t' l' hl' h')
section WYC
variable {h : qH} {a b : Nat} {m : MB} {A : Nat → Nat → Int32} {B : Nat → Nat → Int64} {I : Nat → Int32} {J : Nat → Int64}
theorem c_sumF (o : OB h a 6 ptL A B I J) (c : CB h b m) {l : Nat} (hl : l < mbL m) {v : Nat → Int64} (g : ∀ l, l < mbL m → B 3 l = v l) : F_X6_sumOfFollowers h a b (nI l) = some (sl (fun k => v (gg m l k)) (fn m l)) := by
  have ok := c.1
  have hL := L_le ok
  have hf := fn_le ok hl
  have lp : q_lp (s_X6_sumOfFollowers_5 h a b (nI l)) q_N (lN 0, nI 0) = some (sl (fun k => v (gg m l k)) (fn m l)) := by
    refine q_lp_for (fun k => (sl (fun k => v (gg m l k)) k, nI k)) (fn m l) (fun k hk => ?_) ?_ q_N (q_lt_N (by omega))
    · have hg := gg_lt ok hl hk
      have e := g _ hg
      show _ = some (Sum.inl (sl (fun k => v (gg m l k)) k + v (gg m l k), nI (k + 1)))
      simp (disch := omega) only [s_X6_sumOfFollowers_5, b_X6_sumOfFollowers_5, nS, cS c, X6_rd o, e]
    · simp (disch := omega) only [s_X6_sumOfFollowers_5, b_X6_sumOfFollowers_5, nS, cS c]
  simp (disch := omega) only [F_X6_sumOfFollowers, nS, lS, lp]
theorem c_ways (o : OB h a 6 ptL A B I J) (c : CB h b m) (hd : b + 12 ≤ a ∨ a + 8 ≤ b) {n : Nat} (hn : 1 ≤ n) (hn2 : n ≤ 12) (h0 : 0 < mbL m) : ∃ h' B', F_X6_howManyWays h a b (nI n) = some (wc m (n - 1) 0, h') ∧ OB h' a 6 ptL A B' I J ∧ Fr h h' a (a + 8) := by
  have ok := c.1
  have hL := L_le ok
  have ck : ∀ {h'}, Fr h h' a (a + 8) → CB h' b m := fun r => c.kept (fun q q1 q2 => r q (by omega))
  obtain ⟨h1, e1, B1, o1, r1, z1⟩ := q_lp1 (step := s_X6_howManyWays_12 a b (nI n)) (fun i h' => ∃ B', OB h' a 6 ptL A B' I J ∧ Fr h h' a (a + 8) ∧ ∀ l, l < i → B' 3 l = lN 1) 20 0 (by omega)
    (fun i h1 hi ⟨B1, o1, r1, z1⟩ => by
      obtain ⟨h2, e2, o2, r2⟩ := X6_s3 o1 (i := i) (lN 1) hi
      refine ⟨h2, ?_, _, o2, r1.tr r2, fun l hl => ?_⟩
      · simp (disch := omega) only [s_X6_howManyWays_12, b_X6_howManyWays_12, nS, lS, Nat.add_zero, X6_rd o1, e2]
      · rw [upF_self]
        by_cases hli : l = i
        · subst hli; exact pk_uLs
        · rw [pk_uLn hli]; exact z1 l (by omega))
    (fun h1 _ => by simp (disch := omega) only [s_X6_howManyWays_12, b_X6_howManyWays_12, nS, Nat.add_zero])
    (h := h) ⟨B, o, Fr.rf, fun l hl => by omega⟩
  obtain ⟨h3, e3, B3, o3, r3, z3⟩ := q_lp1 (step := s_X6_howManyWays_33 a b (nI n)) (fun t h' => ∃ B', OB h' a 6 ptL A B' I J ∧ Fr h h' a (a + 8) ∧ ∀ l, l < mbL m → B' 3 l = wc m t l) (n - 1) 2 (by omega)
    (fun t h1 ht ⟨B1, o1, r1, z1⟩ => by
      obtain ⟨h2, e2, B2, o2, r2, y2, z2⟩ := q_lp1 (step := s_X6_howManyWays_41 a b (nI n) (nI (t + 2))) (fun l h' => ∃ B', OB h' a 6 ptL A B' I J ∧ Fr h h' a (a + 8) ∧ (∀ l, l < mbL m → B' 3 l = wc m t l) ∧ ∀ l', l' < l → B' 4 l' = wc m (t + 1) l') (mbL m) 0 (by omega)
        (fun l h1 hl ⟨B1, o1, r1, y1, z1⟩ => by
          have c1 := ck r1
          have hf := fn_le ok hl
          obtain ⟨h2, e2, o2, r2⟩ := X6_s4 o1 (i := l) (wc m (t + 1) l) (by omega)
          refine ⟨h2, ?_, _, o2, r1.tr r2, fun l hl => by rw [upF_ne _ _ (show (3 : Nat) ≠ 4 by decide)]; exact y1 l hl, fun l' hl' => ?_⟩
          · rcases Nat.eq_zero_or_pos (fn m l) with h0 | h0
            · have e : wc m (t + 1) l = lN 1 := by simp only [wc, if_pos h0]
              rw [e] at e2
              simp (disch := omega) only [s_X6_howManyWays_41, b_X6_howManyWays_41, nS, lS, Nat.add_zero, cS c1, X6_rd o1, e2]
            · have e : wc m (t + 1) l = sl (fun k => wc m t (gg m l k)) (fn m l) := by simp only [wc]; rw [if_neg (by omega)]
              rw [e] at e2
              simp (disch := omega) only [s_X6_howManyWays_41, b_X6_howManyWays_41, nS, lS, Nat.add_zero, cS c1, X6_rd o1, c_sumF o1 c1 hl y1, e2]
          · rw [upF_self]
            by_cases hli : l' = l
            · subst hli; exact pk_uLs
            · rw [pk_uLn hli]; exact z1 l' (by omega))
        (fun h1 ⟨B1, o1, r1, y1, z1⟩ => by simp (disch := omega) only [s_X6_howManyWays_41, b_X6_howManyWays_41, nS, Nat.add_zero, cS (ck r1)])
        (h := h1) ⟨B1, o1, r1, z1, fun l hl => by omega⟩
      obtain ⟨h4, e4, o4, r4⟩ := X6_c43 o2
      refine ⟨h4, ?_, _, o4, r2.tr r4, fun l hl => ?_⟩
      · simp (disch := omega) only [s_X6_howManyWays_33, b_X6_howManyWays_33, j_X6_howManyWays_90, nS, e2, X6_rd o2, e4]
      · rw [upF_self, cpy_in (by omega)]
        exact z2 l hl)
    (fun h1 _ => by simp (disch := omega) only [s_X6_howManyWays_33, b_X6_howManyWays_33, nS])
    (h := h1) ⟨B1, o1, r1, fun l hl => z1 l (by omega)⟩
  refine ⟨h3, B3, ?_, o3, r3⟩
  simp (disch := omega) only [F_X6_howManyWays, nS, lS, cS c, e1, e3, X6_rd o3, z3 0 h0]
end WYC
section WYD
variable {h : qH} {a : Nat} {A : Nat → Nat → Int32} {B : Nat → Nat → Int64} {I : Nat → Int32} {J : Nat → Int64} {b : Nat → Int32} {k : Nat}
theorem d_waysCell (o : OB h a 12 mdL A B I J) (hb : HB A I b k) {n : Int32} {t l : Nat} (ht : t < 12) (hl : l < mbL (bMB b)) (g : GL (B 40) (mbL (bMB b)) ixd (wc (bMB b)) (fun t' _ => t' < t)) : ∃ h', s_X12_ways_37 a n (nI t) (nI l, h) = some (.inl (nI (l + 1), h')) ∧ OB h' a 12 mdL A (upF B 40 (vp_updL (B 40) (ixd t l) (wc (bMB b) t l))) I J ∧ Fr h h' a (a + 27) := by
  have ok := bMB_ok hb.1
  have hL := L_le ok
  have hf := fn_le ok hl
  obtain ⟨h1, e1, o1, r1⟩ := X12_s40 o (i := 20 * t + l) (wc (bMB b) t l) (by omega)
  refine ⟨h1, ?_, o1, r1⟩
  cases t with
  | zero =>
    have lp : q_lp (s_X12_ways_70 h a n (nI 0) (nI l)) q_N (lN 1, nI 0) = some (lN 1) := by
      refine q_lp_stop (n := 999999) ?_
      rcases Nat.eq_zero_or_pos (fn (bMB b) l) with h0 | h0
      · simp (disch := omega) only [s_X12_ways_70, b_X12_ways_70, nS, X12_rd o, d_pack o hb]
      · simp (disch := omega) only [s_X12_ways_70, b_X12_ways_70, nS, X12_rd o, d_pack o hb]
    have e : wc (bMB b) 0 l = lN 1 := rfl
    rw [e] at e1
    simp (disch := omega) only [s_X12_ways_37, b_X12_ways_37, j_X12_ways_60, j_X12_ways_65, j_X12_ways_117, nS, lS, d_pack o hb, X12_rd o, lp, e1]
  | succ t =>
    rcases Nat.eq_zero_or_pos (fn (bMB b) l) with h0 | h0
    · have lp : q_lp (s_X12_ways_70 h a n (nI (t + 1)) (nI l)) q_N (lN 1, nI 0) = some (lN 1) := by
        refine q_lp_stop (n := 999999) ?_
        simp (disch := omega) only [s_X12_ways_70, b_X12_ways_70, nS, X12_rd o, d_pack o hb]
      have e : wc (bMB b) (t + 1) l = lN 1 := by simp only [wc, if_pos h0]
      rw [e] at e1
      simp (disch := omega) only [s_X12_ways_37, b_X12_ways_37, nS, lS, X12_rd o, d_pack o hb, hb.i24]
      simp (disch := omega) only [j_X12_ways_60, j_X12_ways_65, j_X12_ways_117, nS, lS, X12_rd o, lp, e1]
    · have lp : q_lp (s_X12_ways_70 h a n (nI (t + 1)) (nI l)) q_N (lN 0, nI 0) = some (sl (fun k => wc (bMB b) t (gg (bMB b) l k)) (fn (bMB b) l)) := by
        refine q_lp_for (fun j => (sl (fun k => wc (bMB b) t (gg (bMB b) l k)) j, nI j)) (fn (bMB b) l) (fun j hj => ?_) ?_ q_N (q_lt_N (by omega))
        · have hg := gg_lt ok hl hj
          have e := g t (gg (bMB b) l j) hg (by omega)
          unfold ixd at e
          show _ = some (Sum.inl (sl (fun k => wc (bMB b) t (gg (bMB b) l k)) j + wc (bMB b) t (gg (bMB b) l j), nI (j + 1)))
          simp (disch := omega) only [s_X12_ways_70, b_X12_ways_70, nS, X12_rd o, d_pack o hb, Nat.add_sub_cancel, e]
        · simp (disch := omega) only [s_X12_ways_70, b_X12_ways_70, nS, X12_rd o, d_pack o hb]
      have e : wc (bMB b) (t + 1) l = sl (fun k => wc (bMB b) t (gg (bMB b) l k)) (fn (bMB b) l) := by simp only [wc]; rw [if_neg (by omega)]
      rw [e] at e1
      simp (disch := omega) only [s_X12_ways_37, b_X12_ways_37, nS, lS, X12_rd o, d_pack o hb, hb.i24]
      simp (disch := omega) only [j_X12_ways_65, j_X12_ways_117, nS, lS, X12_rd o, lp, e1]
theorem d_ways (o : OB h a 12 mdL A B I J) (hb : HB A I b k) {n : Nat} (hn : n ≤ 12) : ∃ h' B', q_lp (s_X12_ways_29 a (nI n)) q_N (nI 0, h) = some h' ∧ OB h' a 12 mdL A B' I J ∧ Fr h h' a (a + 27) ∧ GL (B' 40) (mbL (bMB b)) ixd (wc (bMB b)) (fun t' _ => t' < n) := by
  have ok := bMB_ok hb.1
  have hL := L_le ok
  obtain ⟨h', e', B', o', r', g'⟩ := q_lp2 (stepO := s_X12_ways_29 a (nI n)) (stepI := fun t => s_X12_ways_37 a (nI n) (nI t)) (fun t l h' => ∃ B', OB h' a 12 mdL A B' I J ∧ Fr h h' a (a + 27) ∧ GL (B' 40) (mbL (bMB b)) ixd (wc (bMB b)) (fun t' l' => t' < t ∨ (t' = t ∧ l' < l))) n (mbL (bMB b)) 0 (by omega) (by omega)
    (fun t l h1 ht hl ⟨B1, o1, r1, g1⟩ => by
      obtain ⟨h2, e2, o2, r2⟩ := d_waysCell o1 hb (n := nI n) (t := t) (by omega) hl (g1.mo (fun t' l' _ q => Or.inl q))
      exact ⟨h2, e2, _, o2, r1.tr r2, by
        rw [upF_self]
        exact g1.up (fun t' l' hl' q => ixd_inj (by omega) (by omega) q) (fun t' l' hl' q => by omega)⟩)
    (fun t h1 ht ⟨B1, o1, r1, g1⟩ => by simp (disch := omega) only [s_X12_ways_37, b_X12_ways_37, nS, d_pack o1 hb])
    (fun t h1 ht ⟨B1, o1, r1, g1⟩ => ⟨B1, o1, r1, g1.mo (fun t' l' _ q => by omega)⟩)
    (fun t h1 h2 ht _ e => by simp (disch := omega) only [s_X12_ways_29, b_X12_ways_29, nS, Nat.add_zero, e])
    (fun h1 _ => by simp (disch := omega) only [s_X12_ways_29, b_X12_ways_29, nS, Nat.add_zero])
    (h := h) ⟨B, o, Fr.rf, fun t' l' _ q => by omega⟩
  exact ⟨h', B', e', o', r', g'.mo (fun t' l' _ q => by omega)⟩
end WYD
section CALLS
variable {h : qH} {c nx : Nat} {σ : SG} {im : Nat → Option SG}
theorem q_ways (s : ST h c nx σ im) (x y : Int32) : QW h c σ im (F_X11_ways h c x y) (fun h1 => F_X12_ways h1 (c + 80) x y) := by
  obtain ⟨ok, ⟨xc, td, sc, -⟩, rm, -⟩ := s
  have hc0 := ok.2.1 0 (by omega)
  rcases nRg y 1 12 (by omega) with hy | ⟨n, rfl, hn1, hn2⟩
  · refine QW.bad (v := lM1) rm Fr.rf sc ?_ (fun h1 e1 ob1 => ?_)
    · rcases nOut_or x (n := sC σ 0) (by omega) with hx | ⟨k, hk, rfl⟩
      · simp (disch := omega) only [F_X11_ways, xS xc, tS td, nS, lS, t_bookOut td hx]
      · simp (disch := omega) only [F_X11_ways, xS xc, tS td, nS, lS, t_bookIn td ok hk, rg_out (lo := 1) (hi := 12) (by omega) (by omega) hy]
    · have := in_out h1 (by omega) (by omega) hy
      simp (disch := omega) only [F_X12_ways, nS, lS, e1, this]
  have i1 : ∀ h1, F_X12_in h1 (nI n) (nI 1) (nI 12) = some (nI 1) := fun h1 => in_in h1 (by omega) hn1 hn2
  rcases nOut_or x (n := sC σ 0) (by omega) with hx | ⟨k, hk, rfl⟩
  · refine QW.nob (v := lM1) ok rm sc hx ?_ (fun h1 h2 e1 ob1 e2 => ?_)
    · simp (disch := omega) only [F_X11_ways, xS xc, tS td, nS, lS, t_bookOut td hx]
    · simp (disch := omega) only [F_X12_ways, nS, lS, e1, i1, ob1, e2]
  have cb := t_CB td ok hk
  have okm := cb.1
  have hL := L_le okm
  have hsc := sc
  obtain ⟨-, -, ⟨A6, B6, I6, J6, o6⟩, -, -, -⟩ := sc
  rcases Nat.eq_zero_or_pos (mbL (bMB (sB σ k))) with h0 | h0
  · refine QW.go (v := lN 0) [] ok rm hk (hc := h) ?_ Fr.rf hsc (by decide) (fun h1 h2 A B I J e1 ob1 e2 o2 hb => ?_)
    · simp (disch := omega) only [F_X11_ways, F_X6_howManyWays, xS xc, tS td, nS, lS, t_bookIn td ok hk, o6.ob, cS cb]
    · obtain ⟨h3, B3, e3, o3, r3, g3⟩ := d_ways o2 hb hn2
      refine ⟨h3, A, B3, I, J, ?_, o3, r3, On.rf⟩
      have e24 := (d_pack o3 hb).1
      rw [h0] at e24
      simp (disch := omega) only [F_X12_ways, nS, lS, e1, i1, ob1, e2, e3, e24]
  obtain ⟨hc, B7, e7, o7, r7⟩ := c_ways o6 cb (by omega) hn1 hn2 h0
  have fr7 : Fr h hc (c + 53) (c + 80) := r7.wd (by omega) (by omega)
  have sc7 : SC hc c := hsc.u6 r7 ⟨A6, B7, I6, J6, o7⟩
  refine QW.go (v := wc (bMB (sB σ k)) (n - 1) 0) [] ok rm hk ?_ fr7 sc7 (by decide) (fun h1 h2 A B I J e1 ob1 e2 o2 hb => ?_)
  · simp (disch := omega) only [F_X11_ways, xS xc, tS td, nS, lS, t_bookIn td ok hk, o6.ob, e7]
  · obtain ⟨h3, B3, e3, o3, r3, g3⟩ := d_ways o2 hb hn2
    have t0 := g3 (n - 1) 0 h0 (by omega)
    unfold ixd at t0
    rw [Nat.add_zero] at t0
    refine ⟨h3, A, B3, I, J, ?_, o3, r3, On.rf⟩
    simp (disch := omega) only [F_X12_ways, nS, lS, e1, i1, ob1, e2, e3, d_pack o3 hb, X12_rd o3, t0]
end CALLS
