/-! ===== odds: the reference, the calls ===== -/
theorem sp_out {m : MB} (fo : FO m) {y : Int32} {w : Nat → Nat} : ∀ d, sp m y w (mbL m + d) = sp m y w (mbL m) := by
  intro d
  induction d with
  | zero => rfl
  | succ d ih =>
    rw [show mbL m + (d + 1) = mbL m + d + 1 by omega, sp_s, if_pos (fo _ (by omega))]
    exact ih
section ODD
variable {h : qH} {a : Nat} {A : Nat → Nat → Int32} {B : Nat → Nat → Int64} {I : Nat → Int32} {J : Nat → Int64} {b : Nat → Int32} {k : Nat}
theorem d_tens (h : qH) {n : Nat} (hn : n < 100) : F_X12_tens h (nI n) = some (lN (10 ^ n)) := by
  have lp : q_lp (s_X12_tens_4 h (nI n)) q_N (lN 1, nI 0) = some (lN (10 ^ n)) := by
    refine q_lp_for (fun i => (lN (10 ^ i), nI i)) n (fun i hi => ?_) ?_ q_N (q_lt_N (by omega))
    · rw [Nat.pow_succ]
      simp (disch := omega) only [s_X12_tens_4, b_X12_tens_4, nS, lS]
    · simp (disch := omega) only [s_X12_tens_4, b_X12_tens_4, nS]
  simp (disch := omega) only [F_X12_tens, nS, lS, lp]
theorem d_drp (o : OB h a 12 mdL A B I J) (hb : HB A I b k) {p : Nat} (hp : p < 6) : F_X12_of h a (nI (100 + p)) = some (nI (dr (bMB b) p)) := (d_pack o hb).2.2.2.2.2.2.2.2.1 p hp
theorem d_whl (o : OB h a 12 mdL A B I J) (hb : HB A I b k) {l : Nat} (hl : l < mbL (bMB b)) : F_X12_who h a (nI l) = some (nI (wh (bMB b) l)) := (d_pack o hb).2.2.2.2.2.1 l hl
theorem d_be (o : OB h a 12 mdL A B I J) (hb : HB A I b k) {l j : Nat} (hl : l < 20) : (j < fn (bMB b) l → F_X12_behind h a (nI l) (nI j) = some (nI (gg (bMB b) l j))) ∧ (fn (bMB b) l ≤ j → j < 2 ^ 31 → F_X12_behind h a (nI l) (nI j) = some m1) := ⟨(d_pack o hb).2.2.2.1 l j hl, (d_pack o hb).2.2.2.2.1 l j hl⟩
theorem d_more0 (o : OB h a 12 mdL A B I J) (hb : HB A I b k) {y : Int32} (h0 : 0 < mbL (bMB b)) : ∃ h' B', F_X12_oneMore h a (nI 0) y = some h' ∧ OB h' a 12 mdL A B' I J ∧ Fr h h' a (a + 27) ∧ LR (B' 31) (w0 (bMB b) y) := by
  have ok := bMB_ok hb.1
  have hL := L_le ok
  obtain ⟨h1, e1, B1, o1, r1, z1⟩ := q_lp1 (step := s_X12_oneMore_2 a (nI 0) y) (fun i h' => ∃ B', OB h' a 12 mdL A B' I J ∧ Fr h h' a (a + 27) ∧ ∀ l, l < i → B' 32 l = lN 0) 20 0 (by omega)
    (fun i h1 hi ⟨B1, o1, r1, z1⟩ => by
      obtain ⟨h2, e2, o2, r2⟩ := X12_s32 o1 (i := i) (lN 0) hi
      refine ⟨h2, ?_, _, o2, r1.tr r2, fun l hl => ?_⟩
      · simp (disch := omega) only [s_X12_oneMore_2, b_X12_oneMore_2, nS, lS, Nat.add_zero, X12_rd o1, e2]
      · rw [upF_self]
        by_cases hli : l = i
        · subst hli; exact pk_uLs
        · rw [pk_uLn hli]; exact z1 l (by omega))
    (fun h1 _ => by simp (disch := omega) only [s_X12_oneMore_2, b_X12_oneMore_2, nS, Nat.add_zero])
    (h := h) ⟨B, o, Fr.rf, fun l hl => by omega⟩
  have t0 := tt_le ok (y := y) h0
  obtain ⟨h2, e2, o2, r2⟩ := X12_s32 o1 (i := 0) (lN (10 - tt (bMB b) y 0)) (by omega)
  have z2 : LR (upF B1 32 (vp_updL (B1 32) 0 (lN (10 - tt (bMB b) y 0))) 32) (w0 (bMB b) y) := by
    intro i hi
    rw [upF_self]
    show _ = lN (if i = 0 ∧ 0 < mbL (bMB b) then 10 - tt (bMB b) y 0 else 0)
    by_cases hi0 : i = 0
    · subst hi0; rw [pk_uLs, if_pos ⟨rfl, h0⟩]
    · rw [pk_uLn hi0, if_neg (fun q => hi0 q.1)]; exact z1 i hi
  have lp59 : q_lp (s_X12_oneMore_59 a (nI 0) y) q_N (nI 0, h2) = some h2 := by
    refine q_lp_stop (n := 999999) ?_
    simp (disch := omega) only [s_X12_oneMore_59, b_X12_oneMore_59, nS]
  obtain ⟨h3, e3, B3, o3, r3, -, z3⟩ := q_lp1 (step := s_X12_oneMore_177 a) (fun i h' => ∃ B', OB h' a 12 mdL A B' I J ∧ Fr h h' a (a + 27) ∧ LR (B' 32) (w0 (bMB b) y) ∧ ∀ l, l < i → B' 31 l = lN (w0 (bMB b) y l)) 20 0 (by omega)
    (fun i h1 hi ⟨B1, o1, r1, y1, z1⟩ => by
      obtain ⟨h2, e2, o2, r2⟩ := X12_s31 o1 (i := i) (lN (w0 (bMB b) y i)) hi
      refine ⟨h2, ?_, _, o2, r1.tr r2, by rw [upF_ne _ _ (show (32 : Nat) ≠ 31 by decide)]; exact y1, fun l hl => ?_⟩
      · simp (disch := omega) only [s_X12_oneMore_177, b_X12_oneMore_177, nS, lS, Nat.add_zero, X12_rd o1, y1 i hi, e2]
      · rw [upF_self]
        by_cases hli : l = i
        · subst hli; exact pk_uLs
        · rw [pk_uLn hli]; exact z1 l (by omega))
    (fun h1 _ => by simp (disch := omega) only [s_X12_oneMore_177, b_X12_oneMore_177, nS, Nat.add_zero])
    (h := h2) ⟨_, o2, r1.tr r2, z2, fun l hl => by omega⟩
  refine ⟨h3, B3, ?_, o3, r3, z3⟩
  have hw := (wh_ok ok h0).2
  unfold tt at e2 t0
  by_cases hy : y = nI 0
  · subst hy
    rw [if_pos rfl] at e2 t0
    simp (disch := omega) only [F_X12_oneMore, nS, lS, e1, X12_rd o1, d_whl o1 hb h0, d_drp o1 hb hw, j_X12_oneMore_56, e2]
    simp (disch := omega) only [j_X12_oneMore_57, j_X12_oneMore_175, nS, lp59, e3]
  · rw [if_neg hy] at e2
    simp (disch := omega) only [F_X12_oneMore, nS, lS, e1, if_neg hy, X12_rd o1, j_X12_oneMore_56, e2]
    simp (disch := omega) only [j_X12_oneMore_57, j_X12_oneMore_175, nS, lp59, e3]
theorem d_more (o : OB h a 12 mdL A B I J) (hb : HB A I b k) {y : Int32} {i : Nat} (hi : 0 < i) (hi9 : i < 9) {w : Nat → Nat} (row : LR (B 31) w) : ∃ h' B', F_X12_oneMore h a (nI i) y = some h' ∧ OB h' a 12 mdL A B' I J ∧ Fr h h' a (a + 27) ∧ LR (B' 31) (sp (bMB b) y w (mbL (bMB b))) := by
  have ok := bMB_ok hb.1
  have hL := L_le ok
  have fo := FO_b hb.1
  obtain ⟨h1, e1, B1, o1, r1, y1, z1⟩ := q_lp1 (step := s_X12_oneMore_2 a (nI i) y) (fun i h' => ∃ B', OB h' a 12 mdL A B' I J ∧ Fr h h' a (a + 27) ∧ B' 31 = B 31 ∧ ∀ l, l < i → B' 32 l = lN 0) 20 0 (by omega)
    (fun i h1 hi ⟨B1, o1, r1, y1, z1⟩ => by
      obtain ⟨h2, e2, o2, r2⟩ := X12_s32 o1 (i := i) (lN 0) hi
      refine ⟨h2, ?_, _, o2, r1.tr r2, by rw [upF_ne _ _ (show (31 : Nat) ≠ 32 by decide)]; exact y1, fun l hl => ?_⟩
      · simp (disch := omega) only [s_X12_oneMore_2, b_X12_oneMore_2, nS, lS, Nat.add_zero, X12_rd o1, e2]
      · rw [upF_self]
        by_cases hli : l = i
        · subst hli; exact pk_uLs
        · rw [pk_uLn hli]; exact z1 l (by omega))
    (fun h1 _ => by simp (disch := omega) only [s_X12_oneMore_2, b_X12_oneMore_2, nS, Nat.add_zero])
    (h := h) ⟨B, o, Fr.rf, rfl, fun l hl => by omega⟩
  obtain ⟨h2, e2, B2, o2, r2, z2⟩ := q_lp1 (step := s_X12_oneMore_59 a (nI i) y) (fun l h' => ∃ B', OB h' a 12 mdL A B' I J ∧ Fr h h' a (a + 27) ∧ B' 31 = B 31 ∧ LR (B' 32) (sp (bMB b) y w l)) 20 0 (by omega)
    (fun l h1 hl ⟨B1, o1, r1, y1, z1⟩ => by
      have wl : B1 31 l = lN (w l) := by rw [y1]; exact row l (by omega)
      have be0 := d_be o1 hb (l := l) (j := 0) hl
      have be1 := d_be o1 hb (l := l) (j := 1) hl
      rcases Nat.eq_zero_or_pos (fn (bMB b) l) with h0 | h0
      · refine ⟨h1, ?_, B1, o1, r1, y1, ?_⟩
        · simp (disch := omega) only [s_X12_oneMore_59, b_X12_oneMore_59, j_X12_oneMore_95, j_X12_oneMore_112, j_X12_oneMore_143, nS, Nat.add_zero, o1.ob, be0.2 (by omega) (by omega), be1.2 (by omega) (by omega)]
        · rw [sp_s, if_pos h0]; exact z1
      · have hlL := fo_lt fo h0
        have g0 := gg_lt ok hlL h0
        have t0 := tt_le ok (y := y) g0
        have hw := (wh_ok ok g0).2
        obtain ⟨h2, e2, o2, r2⟩ := X12_s32 o1 (i := gg (bMB b) l 0) (lN (sp (bMB b) y w l (gg (bMB b) l 0) + w l * (10 - tt (bMB b) y (gg (bMB b) l 0)))) (by omega)
        have zz := z1 (gg (bMB b) l 0) (by omega)
        have z2 := z1.pl (j := gg (bMB b) l 0) (x := w l * (10 - tt (bMB b) y (gg (bMB b) l 0)))
        -- the first part of it
        have fst : ∀ x9 r, F_X12_behind h1 a (nI l) (nI 1) = some x9 → j_X12_oneMore_143 h2 a (nI i) y (nI l) x9 (nI (tt (bMB b) y (gg (bMB b) l 0))) = r → s_X12_oneMore_59 a (nI i) y (nI (l + 0), h1) = r := by
          intro x9 r ex9 er
          have j112 : j_X12_oneMore_112 h1 a (nI i) y (nI l) (nI (gg (bMB b) l 0)) x9 (nI (tt (bMB b) y (gg (bMB b) l 0))) = r := by
            simp (disch := omega) only [j_X12_oneMore_112, nS, lS, X12_rd o1, wl, zz, e2, er]
          unfold tt at j112
          by_cases hy : y = nI 0
          · rw [if_pos hy] at j112
            rw [← j112]
            simp (disch := omega) only [s_X12_oneMore_59, b_X12_oneMore_59, nS, Nat.add_zero, o1.ob, be0.1 h0, ex9, if_pos hy, d_whl o1 hb g0, d_drp o1 hb hw]
          · rw [if_neg hy] at j112
            rw [← j112]
            simp (disch := omega) only [s_X12_oneMore_59, b_X12_oneMore_59, j_X12_oneMore_95, nS, Nat.add_zero, o1.ob, be0.1 h0, ex9, if_neg hy]
        rcases (show fn (bMB b) l = 1 ∨ 2 ≤ fn (bMB b) l by omega) with h3 | h3
        · refine ⟨h2, fst m1 _ (be1.2 (by omega) (by omega)) (by simp (disch := omega) only [j_X12_oneMore_143, nS]), _, o2, r1.tr r2, by rw [upF_ne _ _ (show (31 : Nat) ≠ 32 by decide)]; exact y1, ?_⟩
          rw [upF_self, sp_s, if_neg (by omega), if_pos h3]
          exact z1.pl
        · have g1 := gg_lt ok hlL (show 1 < fn (bMB b) l by omega)
          obtain ⟨h4, e4, o4, r4⟩ := X12_s32 o2 (i := gg (bMB b) l 1) (lN (ad (sp (bMB b) y w l) (gg (bMB b) l 0) (w l * (10 - tt (bMB b) y (gg (bMB b) l 0))) (gg (bMB b) l 1) + w l * tt (bMB b) y (gg (bMB b) l 0))) (by omega)
          have zz2 := z2 (gg (bMB b) l 1) (by omega)
          have wl2 : upF B1 32 (vp_updL (B1 32) (gg (bMB b) l 0) (lN (sp (bMB b) y w l (gg (bMB b) l 0) + w l * (10 - tt (bMB b) y (gg (bMB b) l 0))))) 31 l = lN (w l) := by rw [upF_ne _ _ (show (31 : Nat) ≠ 32 by decide)]; exact wl
          refine ⟨h4, fst (nI (gg (bMB b) l 1)) _ (be1.1 (by omega)) ?_, _, o4, (r1.tr r2).tr r4, by rw [upF_ne _ _ (show (31 : Nat) ≠ 32 by decide), upF_ne _ _ (show (31 : Nat) ≠ 32 by decide)]; exact y1, ?_⟩
          · rw [Nat.add_zero]
            simp (disch := omega) only [j_X12_oneMore_143, nS, lS, X12_rd o2, upF_self, wl2, zz2, e4]
          · rw [upF_self, upF_self, sp_s, if_neg (by omega), if_neg (by omega)]
            exact z2.pl)
    (fun h1 _ => by simp (disch := omega) only [s_X12_oneMore_59, b_X12_oneMore_59, nS, Nat.add_zero])
    (h := h1) ⟨B1, o1, r1, y1, fun i hi => z1 i hi⟩
  have z2 := z2.2
  have e20 : sp (bMB b) y w 20 = sp (bMB b) y w (mbL (bMB b)) := by
    have := sp_out fo (y := y) (w := w) (20 - mbL (bMB b))
    rw [show mbL (bMB b) + (20 - mbL (bMB b)) = 20 by omega] at this
    exact this
  rw [e20] at z2
  obtain ⟨h3, e3, B3, o3, r3, -, z3⟩ := q_lp1 (step := s_X12_oneMore_177 a) (fun i h' => ∃ B', OB h' a 12 mdL A B' I J ∧ Fr h h' a (a + 27) ∧ LR (B' 32) (sp (bMB b) y w (mbL (bMB b))) ∧ ∀ l, l < i → B' 31 l = lN (sp (bMB b) y w (mbL (bMB b)) l)) 20 0 (by omega)
    (fun i h1 hi ⟨B1, o1, r1, y1, z1⟩ => by
      obtain ⟨h2, e2, o2, r2⟩ := X12_s31 o1 (i := i) (lN (sp (bMB b) y w (mbL (bMB b)) i)) hi
      refine ⟨h2, ?_, _, o2, r1.tr r2, by rw [upF_ne _ _ (show (32 : Nat) ≠ 31 by decide)]; exact y1, fun l hl => ?_⟩
      · simp (disch := omega) only [s_X12_oneMore_177, b_X12_oneMore_177, nS, lS, Nat.add_zero, X12_rd o1, y1 i hi, e2]
      · rw [upF_self]
        by_cases hli : l = i
        · subst hli; exact pk_uLs
        · rw [pk_uLn hli]; exact z1 l (by omega))
    (fun h1 _ => by simp (disch := omega) only [s_X12_oneMore_177, b_X12_oneMore_177, nS, Nat.add_zero])
    (h := h2) ⟨_, o2, r2, z2, fun l hl => by omega⟩
  refine ⟨h3, B3, ?_, o3, r3, z3⟩
  simp (disch := omega) only [F_X12_oneMore, nS, e1, j_X12_oneMore_57, j_X12_oneMore_175, e2, e3]
/-- the row of weights ahead of the i-th line -/
def Wr (m : MB) (y : Int32) (s : Option Nat) (T : Nat → Int64) (i : Nat) : Prop := ∀ j, i = j + 1 → LR T (tkW m s (Wt m y s j) (mbL m))
theorem d_moreW (o : OB h a 12 mdL A B I J) (hb : HB A I b k) {y : Int32} {s : Option Nat} {i : Nat} (hi9 : i < 9) (h0 : 0 < mbL (bMB b)) (row : Wr (bMB b) y s (B 31) i) : ∃ h' B', F_X12_oneMore h a (nI i) y = some h' ∧ OB h' a 12 mdL A B' I J ∧ Fr h h' a (a + 27) ∧ LR (B' 31) (Wt (bMB b) y s i) := by
  cases i with
  | zero => exact d_more0 o hb h0
  | succ j => exact d_more o hb (by omega) hi9 (row j rfl)
theorem d_comesL (o : OB h a 12 mdL A B I J) (hb : HB A I b k) {y u : Int32} {s n : Nat} (hs : s < 10) (hn : n ≤ 9) : ∃ h' B', q_lp (s_X12_comes_40 a (nI s) (nI n) y u) q_N (lN 0, nI 0, h) = some (lN (Su (bMB b) y (some s) n), h') ∧ OB h' a 12 mdL A B' I J ∧ Fr h h' a (a + 27) := by
  have ok := bMB_ok hb.1
  have hL := L_le ok
  rcases Nat.eq_zero_or_pos (mbL (bMB b)) with h0 | h0
  · refine ⟨h, B, ?_, o, Fr.rf⟩
    rw [Su_0 h0]
    refine q_lp_stop (n := 999999) ?_
    rcases Nat.eq_zero_or_pos n with hn0 | hn0
    · simp (disch := omega) only [s_X12_comes_40, b_X12_comes_40, nS]
    · simp (disch := omega) only [s_X12_comes_40, b_X12_comes_40, nS, d_pack o hb]
  have lp := q_lp_idx (step := s_X12_comes_40 a (nI s) (nI n) y u) (fun i st => st.1 = lN (Su (bMB b) y (some s) i * 10 ^ (n - i)) ∧ st.2.1 = nI i ∧ ∃ B', OB st.2.2 a 12 mdL A B' I J ∧ Fr h st.2.2 a (a + 27) ∧ Wr (bMB b) y (some s) (B' 31) i) n (fun r => r.1 = lN (Su (bMB b) y (some s) n) ∧ ∃ B', OB r.2 a 12 mdL A B' I J ∧ Fr h r.2 a (a + 27))
    (by
      rintro i ⟨x1, x2, hh⟩ hi ⟨hx1, hx2, B1, o1, r1, z1⟩
      dsimp only at hx1 hx2 o1 r1
      subst hx1 hx2
      obtain ⟨h2, B2, e2, o2, r2, z2⟩ := d_moreW o1 hb (y := y) (s := some s) (i := i) (by omega) h0 z1
      have ht : ∀ hh, F_X12_tens hh (nI (n - 1 - i)) = some (lN (10 ^ (n - 1 - i))) := fun hh => d_tens hh (by omega)
      obtain ⟨P, hP⟩ : ∃ P, P = 10 ^ (n - 1 - i) := ⟨_, rfl⟩
      obtain ⟨w, hw⟩ : ∃ w, w = Wt (bMB b) y (some s) i := ⟨_, rfl⟩
      obtain ⟨R, hR⟩ : ∃ R, R = Su (bMB b) y (some s) i * 10 ^ (n - i) := ⟨_, rfl⟩
      rw [← hw] at z2
      rw [← hP] at ht
      have inner := q_lp_idx (step := s_X12_comes_64 a (nI s) (nI n) y u (nI i)) (fun l st => st.1 = lN (R + tkT (bMB b) (some s) w l * P) ∧ st.2.1 = nI l ∧ ∃ B', OB st.2.2 a 12 mdL A B' I J ∧ Fr h st.2.2 a (a + 27) ∧ LR (B' 31) (tkW (bMB b) (some s) w l)) (mbL (bMB b)) (fun r => r.1 = lN (R + tkT (bMB b) (some s) w (mbL (bMB b)) * P) ∧ ∃ B', OB r.2 a 12 mdL A B' I J ∧ Fr h r.2 a (a + 27) ∧ LR (B' 31) (tkW (bMB b) (some s) w (mbL (bMB b))))
        (by
          rintro l ⟨x1, x2, hh⟩ hl ⟨hx1, hx2, B1, o1, r1, z1⟩
          dsimp only at hx1 hx2 o1 r1
          subst hx1 hx2
          have his := (d_pack o1 hb).2.2.2.2.2.2.1 l s hl (by omega)
          have eT : tkT (bMB b) (some s) w (l + 1) = tkT (bMB b) (some s) w l + if sc (bMB b) l = s then w l else 0 := rfl
          by_cases h1 : sc (bMB b) l = s
          · obtain ⟨h2, e2, o2, r2⟩ := X12_s31 o1 (i := l) (lN 0) (by omega)
            have zl := z1 l (by omega)
            have : tkW (bMB b) (some s) w l l = w l := if_neg (fun q => by omega)
            rw [this] at zl
            rw [if_pos h1] at his
            refine ⟨(lN (R + tkT (bMB b) (some s) w (l + 1) * P), nI (l + 1), h2), ?_, rfl, rfl, _, o2, r1.tr r2, fun i hi => ?_⟩
            · rw [eT, if_pos h1, Nat.add_mul, ← Nat.add_assoc]
              simp (disch := omega) only [s_X12_comes_64, b_X12_comes_64, nS, lS, X12_rd o1, hb.i24, his, zl, ht, e2]
            · rw [upF_self]
              show _ = lN (if i < l + 1 ∧ sc (bMB b) i = s then 0 else w i)
              by_cases hil : i = l
              · subst hil; rw [pk_uLs, if_pos ⟨by omega, h1⟩]
              · rw [pk_uLn hil, z1 i hi]
                show lN (if i < l ∧ sc (bMB b) i = s then 0 else w i) = _
                by_cases h3 : i < l ∧ sc (bMB b) i = s
                · rw [if_pos h3, if_pos ⟨by omega, h3.2⟩]
                · rw [if_neg h3, if_neg (fun q => h3 ⟨by omega, q.2⟩)]
          · rw [if_neg h1] at his
            refine ⟨(lN (R + tkT (bMB b) (some s) w (l + 1) * P), nI (l + 1), hh), ?_, rfl, rfl, B1, o1, r1, fun i hi => ?_⟩
            · rw [eT, if_neg h1, Nat.add_zero]
              simp (disch := omega) only [s_X12_comes_64, b_X12_comes_64, nS, X12_rd o1, hb.i24, his]
            · rw [z1 i hi]
              show lN (if i < l ∧ sc (bMB b) i = s then 0 else w i) = lN (if i < l + 1 ∧ sc (bMB b) i = s then 0 else w i)
              by_cases h3 : i < l ∧ sc (bMB b) i = s
              · rw [if_pos h3, if_pos ⟨by omega, h3.2⟩]
              · rw [if_neg h3, if_neg (fun q => h3 ⟨by
                  rcases Nat.lt_or_ge i l with h4 | h4
                  · exact h4
                  · exact absurd (by rw [← show i = l by omega]; exact q.2) h1, q.2⟩)])
        (by
          rintro ⟨x1, x2, hh⟩ ⟨hx1, hx2, B1, o1, r1, z1⟩
          dsimp only at hx1 hx2 o1 r1
          subst hx1 hx2
          exact ⟨(lN (R + tkT (bMB b) (some s) w (mbL (bMB b)) * P), hh), by simp (disch := omega) only [s_X12_comes_64, b_X12_comes_64, nS, d_pack o1 hb], rfl, B1, o1, r1, z1⟩)
        q_N (lN R, nI 0, h2) ⟨by show lN R = lN (R + 0 * P); rw [Nat.zero_mul, Nat.add_zero], rfl, B2, o2, r1.tr r2, fun i hi => by
          show _ = lN (if i < 0 ∧ sc (bMB b) i = s then 0 else w i)
          rw [if_neg (fun q => by omega)]
          exact z2 i hi⟩ (q_lt_N (by omega))
      obtain ⟨⟨v, h'⟩, e, hv, B', o', r', z'⟩ := inner
      dsimp only at hv o' r'
      subst hv
      refine ⟨(lN (Su (bMB b) y (some s) (i + 1) * 10 ^ (n - (i + 1))), nI (i + 1), h'), ?_, rfl, rfl, B', o', r', fun j hj => ?_⟩
      · have eS : Su (bMB b) y (some s) (i + 1) * 10 ^ (n - (i + 1)) = R + tkT (bMB b) (some s) w (mbL (bMB b)) * P := by
          show (Su (bMB b) y (some s) i * 10 + tkT (bMB b) (some s) (Wt (bMB b) y (some s) i) (mbL (bMB b))) * _ = _
          rw [hR, hP, hw, Nat.add_mul, show n - (i + 1) = n - 1 - i by omega, Nat.mul_assoc, show n - i = n - 1 - i + 1 by omega, Nat.pow_succ, Nat.mul_comm 10]
        rw [eS, ← hR]
        simp (disch := omega) only [s_X12_comes_40, b_X12_comes_40, nS, d_pack o1 hb, o1.ob, e2, e]
      · have hj : i = j := by omega
        subst hj
        rw [hw] at z'
        exact z')
    (by
      rintro ⟨x1, x2, hh⟩ ⟨hx1, hx2, B1, o1, r1, z1⟩
      dsimp only at hx1 hx2 o1 r1
      rw [Nat.sub_self, Nat.pow_zero, Nat.mul_one] at hx1
      subst hx1 hx2
      exact ⟨(lN (Su (bMB b) y (some s) n), hh), by simp (disch := omega) only [s_X12_comes_40, b_X12_comes_40, nS], rfl, B1, o1, r1⟩)
    q_N (lN 0, nI 0, h) ⟨by show lN 0 = lN (0 * 10 ^ (n - 0)); rw [Nat.zero_mul], rfl, B, o, Fr.rf, fun j hj => by omega⟩ (q_lt_N (by omega))
  obtain ⟨⟨v, h'⟩, e, hv, B', o', r'⟩ := lp
  dsimp only at hv o' r'
  subst hv
  exact ⟨h', B', e, o', r'⟩
theorem d_harmL (o : OB h a 12 mdL A B I J) (hb : HB A I b k) {y u : Int32} {n : Nat} (hn : n ≤ 9) : ∃ h' B', q_lp (s_X12_harm_33 a (nI n) y u) q_N (lN 0, nI 0, h) = some (lN (Su (bMB b) y none n), h') ∧ OB h' a 12 mdL A B' I J ∧ Fr h h' a (a + 27) := by
  have ok := bMB_ok hb.1
  have hL := L_le ok
  rcases Nat.eq_zero_or_pos (mbL (bMB b)) with h0 | h0
  · refine ⟨h, B, ?_, o, Fr.rf⟩
    rw [Su_0 h0]
    refine q_lp_stop (n := 999999) ?_
    rcases Nat.eq_zero_or_pos n with hn0 | hn0
    · simp (disch := omega) only [s_X12_harm_33, b_X12_harm_33, nS]
    · simp (disch := omega) only [s_X12_harm_33, b_X12_harm_33, nS, d_pack o hb]
  have lp := q_lp_idx (step := s_X12_harm_33 a (nI n) y u) (fun i st => st.1 = lN (Su (bMB b) y none i * 10 ^ (n - i)) ∧ st.2.1 = nI i ∧ ∃ B', OB st.2.2 a 12 mdL A B' I J ∧ Fr h st.2.2 a (a + 27) ∧ Wr (bMB b) y none (B' 31) i) n (fun r => r.1 = lN (Su (bMB b) y none n) ∧ ∃ B', OB r.2 a 12 mdL A B' I J ∧ Fr h r.2 a (a + 27))
    (by
      rintro i ⟨x1, x2, hh⟩ hi ⟨hx1, hx2, B1, o1, r1, z1⟩
      dsimp only at hx1 hx2 o1 r1
      subst hx1 hx2
      obtain ⟨h2, B2, e2, o2, r2, z2⟩ := d_moreW o1 hb (y := y) (s := none) (i := i) (by omega) h0 z1
      have ht : ∀ hh, F_X12_tens hh (nI (n - 1 - i)) = some (lN (10 ^ (n - 1 - i))) := fun hh => d_tens hh (by omega)
      obtain ⟨P, hP⟩ : ∃ P, P = 10 ^ (n - 1 - i) := ⟨_, rfl⟩
      obtain ⟨w, hw⟩ : ∃ w, w = Wt (bMB b) y none i := ⟨_, rfl⟩
      obtain ⟨R, hR⟩ : ∃ R, R = Su (bMB b) y none i * 10 ^ (n - i) := ⟨_, rfl⟩
      have z2' := z2
      rw [← hw] at z2
      rw [← hP] at ht
      have inner : q_lp (s_X12_harm_56 h2 a (nI n) y u (nI i)) q_N (lN R, nI 0) = some (lN (R + tkT (bMB b) none w (mbL (bMB b)) * P)) := by
        have e0 : lN R = lN (R + tkT (bMB b) none w 0 * P) := by show lN R = lN (R + 0 * P); rw [Nat.zero_mul, Nat.add_zero]
        rw [e0]
        refine q_lp_for (fun l => (lN (R + tkT (bMB b) none w l * P), nI l)) (mbL (bMB b)) (fun l hl => ?_) ?_ q_N (q_lt_N (by omega))
        · have hh := (hm_ok ok hl).2
          have wl := z2 l (by omega)
          have hhm := (d_pack o2 hb).2.2.2.2.2.2.2.1 l hl
          have eT : tkT (bMB b) none w (l + 1) = tkT (bMB b) none w l + w l * hm (bMB b) l := rfl
          rw [eT, Nat.add_mul, ← Nat.add_assoc]
          simp (disch := omega) only [s_X12_harm_56, b_X12_harm_56, nS, lS, X12_rd o2, hb.i24, wl, hhm, ht]
        · simp (disch := omega) only [s_X12_harm_56, b_X12_harm_56, nS, d_pack o2 hb]
      refine ⟨(lN (Su (bMB b) y none (i + 1) * 10 ^ (n - (i + 1))), nI (i + 1), h2), ?_, rfl, rfl, B2, o2, r1.tr r2, fun j hj => ?_⟩
      · have eS : Su (bMB b) y none (i + 1) * 10 ^ (n - (i + 1)) = R + tkT (bMB b) none w (mbL (bMB b)) * P := by
          show (Su (bMB b) y none i * 10 + tkT (bMB b) none (Wt (bMB b) y none i) (mbL (bMB b))) * _ = _
          rw [hR, hP, hw, Nat.add_mul, show n - (i + 1) = n - 1 - i by omega, Nat.mul_assoc, show n - i = n - 1 - i + 1 by omega, Nat.pow_succ, Nat.mul_comm 10]
        rw [eS, ← hR]
        simp (disch := omega) only [s_X12_harm_33, b_X12_harm_33, nS, d_pack o1 hb, o1.ob, e2, inner]
      · have hj : i = j := by omega
        subst hj
        exact z2')
    (by
      rintro ⟨x1, x2, hh⟩ ⟨hx1, hx2, B1, o1, r1, z1⟩
      dsimp only at hx1 hx2 o1 r1
      rw [Nat.sub_self, Nat.pow_zero, Nat.mul_one] at hx1
      subst hx1 hx2
      exact ⟨(lN (Su (bMB b) y none n), hh), by simp (disch := omega) only [s_X12_harm_33, b_X12_harm_33, nS], rfl, B1, o1, r1⟩)
    q_N (lN 0, nI 0, h) ⟨by show lN 0 = lN (0 * 10 ^ (n - 0)); rw [Nat.zero_mul], rfl, B, o, Fr.rf, fun j hj => by omega⟩ (q_lt_N (by omega))
  obtain ⟨⟨v, h'⟩, e, hv, B', o', r'⟩ := lp
  dsimp only at hv o' r'
  subst hv
  exact ⟨h', B', e, o', r'⟩
end ODD
section CALLS
variable {h : qH} {c nx : Nat} {σ : SG} {im : Nat → Option SG}
theorem q_comes (s : ST h c nx σ im) (x y z w u : Int32) : QW h c σ im (F_X11_comes h c x y z w u) (fun h1 => F_X12_comes h1 (c + 80) x y z w u) := by
  obtain ⟨ok, ⟨xc, td, sc, -⟩, rm, -⟩ := s
  have hc0 := ok.2.1 0 (by omega)
  rcases nRg z 1 9 (by omega) with hz | ⟨n, rfl, hn1, hn2⟩
  · refine QW.bad (v := lM1) rm Fr.rf sc ?_ (fun h1 e1 ob1 => ?_)
    · rcases nOut_or x (n := sC σ 0) (by omega) with hx | ⟨k, hk, rfl⟩
      · simp (disch := omega) only [F_X11_comes, xS xc, tS td, nS, lS, t_bookOut td hx]
      · rcases scn y with ⟨s1, s2⟩ | ⟨s, hs, rfl, s1, s2⟩
        · simp (disch := omega) only [F_X11_comes, xS xc, tS td, nS, lS, t_bookIn td ok hk, s1]
        · simp (disch := omega) only [F_X11_comes, xS xc, tS td, nS, lS, t_bookIn td ok hk, s1, rg_out (lo := 1) (hi := 9) (by omega) (by omega) hz]
    · have := in_out h1 (by omega) (by omega) hz
      simp (disch := omega) only [F_X12_comes, nS, lS, e1, this]
  have i1 : ∀ h1, F_X12_in h1 (nI n) (nI 1) (nI 9) = some (nI 1) := fun h1 => in_in h1 (by omega) hn1 hn2
  rcases scn y with ⟨s1, s2⟩ | ⟨s, hs, rfl, s1, s2⟩
  · refine QW.bad (v := lM1) rm Fr.rf sc ?_ (fun h1 e1 ob1 => ?_)
    · rcases nOut_or x (n := sC σ 0) (by omega) with hx | ⟨k, hk, rfl⟩
      · simp (disch := omega) only [F_X11_comes, xS xc, tS td, nS, lS, t_bookOut td hx]
      · simp (disch := omega) only [F_X11_comes, xS xc, tS td, nS, lS, t_bookIn td ok hk, s1]
    · simp (disch := omega) only [F_X12_comes, nS, lS, e1, i1, s2]
  rcases nOut_or x (n := sC σ 0) (by omega) with hx | ⟨k, hk, rfl⟩
  · refine QW.nob (v := lM1) ok rm sc hx ?_ (fun h1 h2 e1 ob1 e2 => ?_)
    · simp (disch := omega) only [F_X11_comes, xS xc, tS td, nS, lS, t_bookOut td hx]
    · simp (disch := omega) only [F_X12_comes, nS, lS, e1, i1, s2, ob1, e2]
  have cb := t_CB td ok hk
  have okm := cb.1
  have hsc := sc
  obtain ⟨-, -, -, ⟨A5, B5, I5, J5, o5⟩, -, -⟩ := sc
  obtain ⟨hc, B6, J6, e6, o6, r6, j2, j3⟩ := c_gather o5 cb (by omega) (s := some s) (fun x hx => by cases hx; exact hs) (y := w) hn2
  rw [oI_some] at e6
  have fr6 : Fr h hc (c + 53) (c + 80) := r6.wd (by omega) (by omega)
  have sc6 : SC hc c := hsc.u5 r6 ⟨A5, B6, I5, J6, o6⟩
  have xc6 := xc.kept fr6
  have hp : 10 ^ n ≤ 10 ^ 9 := Nat.pow_le_pow_right (by omega) hn2
  have hp0 : 0 < 10 ^ n := Nat.pow_pos (by omega)
  refine QW.go (v := lN (frc (Su (bMB (sB σ k)) w (some s) n) (10 ^ n) u)) [] ok rm hk ?_ fr6 sc6 (by decide) (fun h1 h2 A B I J e1 ob1 e2 o2 hb => ?_)
  · by_cases hu : u = nI 0
    · subst hu
      simp (disch := omega) only [F_X11_comes, xS xc, tS td, nS, lS, t_bookIn td ok hk, s1, o5.ob, e6, xS xc6, X5_rd o6, j2]
    · have hu' : (u = nI 0) ↔ False := iff_of_false hu id
      rw [frc_ne _ _ hu]
      simp (disch := omega) only [F_X11_comes, xS xc, tS td, nS, lS, t_bookIn td ok hk, s1, o5.ob, e6, xS xc6, X5_rd o6, j3, hu']
  · obtain ⟨h3, B3, e3, o3, r3⟩ := d_comesL o2 hb (y := w) (u := u) hs hn2
    have hpt := d_part (h := h3) (y := u) (Su_40 okm w (some s) hn2) (show 10 ^ n < 2 ^ 40 by omega) hp0
    refine ⟨h3, A, B3, I, J, ?_, o3, r3, On.rf⟩
    simp (disch := omega) only [F_X12_comes, nS, lS, e1, i1, s2, ob1, e2, e3, d_tens h3 (show n < 100 by omega), hpt]
theorem q_harm (s : ST h c nx σ im) (x z w u : Int32) : QW h c σ im (F_X11_harm h c x z w u) (fun h1 => F_X12_harm h1 (c + 80) x z w u) := by
  obtain ⟨ok, ⟨xc, td, sc, -⟩, rm, -⟩ := s
  have hc0 := ok.2.1 0 (by omega)
  rcases nRg z 1 9 (by omega) with hz | ⟨n, rfl, hn1, hn2⟩
  · refine QW.bad (v := lM1) rm Fr.rf sc ?_ (fun h1 e1 ob1 => ?_)
    · rcases nOut_or x (n := sC σ 0) (by omega) with hx | ⟨k, hk, rfl⟩
      · simp (disch := omega) only [F_X11_harm, xS xc, tS td, nS, lS, t_bookOut td hx]
      · simp (disch := omega) only [F_X11_harm, xS xc, tS td, nS, lS, t_bookIn td ok hk, rg_out (lo := 1) (hi := 9) (by omega) (by omega) hz]
    · have := in_out h1 (by omega) (by omega) hz
      simp (disch := omega) only [F_X12_harm, nS, lS, e1, this]
  have i1 : ∀ h1, F_X12_in h1 (nI n) (nI 1) (nI 9) = some (nI 1) := fun h1 => in_in h1 (by omega) hn1 hn2
  rcases nOut_or x (n := sC σ 0) (by omega) with hx | ⟨k, hk, rfl⟩
  · refine QW.nob (v := lM1) ok rm sc hx ?_ (fun h1 h2 e1 ob1 e2 => ?_)
    · simp (disch := omega) only [F_X11_harm, xS xc, tS td, nS, lS, t_bookOut td hx]
    · simp (disch := omega) only [F_X12_harm, nS, lS, e1, i1, ob1, e2]
  have cb := t_CB td ok hk
  have okm := cb.1
  have hsc := sc
  obtain ⟨-, -, -, ⟨A5, B5, I5, J5, o5⟩, -, -⟩ := sc
  obtain ⟨hc, B6, J6, e6, o6, r6, j2, j3⟩ := c_gather o5 cb (by omega) (s := none) (fun x hx => by cases hx) (y := w) hn2
  rw [oI_none] at e6
  have fr6 : Fr h hc (c + 53) (c + 80) := r6.wd (by omega) (by omega)
  have sc6 : SC hc c := hsc.u5 r6 ⟨A5, B6, I5, J6, o6⟩
  have xc6 := xc.kept fr6
  have hp : 10 ^ n ≤ 10 ^ 9 := Nat.pow_le_pow_right (by omega) hn2
  have hp0 : 0 < 10 ^ n := Nat.pow_pos (by omega)
  refine QW.go (v := lN (frc (Su (bMB (sB σ k)) w none n) (10 ^ n) u)) [] ok rm hk ?_ fr6 sc6 (by decide) (fun h1 h2 A B I J e1 ob1 e2 o2 hb => ?_)
  · by_cases hu : u = nI 0
    · subst hu
      simp (disch := omega) only [F_X11_harm, xS xc, tS td, nS, lS, t_bookIn td ok hk, o5.ob, e6, xS xc6, X5_rd o6, j2]
    · have hu' : (u = nI 0) ↔ False := iff_of_false hu id
      rw [frc_ne _ _ hu]
      simp (disch := omega) only [F_X11_harm, xS xc, tS td, nS, lS, t_bookIn td ok hk, o5.ob, e6, xS xc6, X5_rd o6, j3, hu']
  · obtain ⟨h3, B3, e3, o3, r3⟩ := d_harmL o2 hb (y := w) (u := u) hn2
    have hpt := d_part (h := h3) (y := u) (Su_40 okm w none hn2) (show 10 ^ n < 2 ^ 40 by omega) hp0
    refine ⟨h3, A, B3, I, J, ?_, o3, r3, On.rf⟩
    simp (disch := omega) only [F_X12_harm, nS, lS, e1, i1, ob1, e2, e3, d_tens h3 (show n < 100 by omega), hpt]
end CALLS
