/-! ===== fits: the reference ===== -/
section FTD
variable {h : qH} {a : Nat} {g : Nat → Int32} {j : Nat} {A : Nat → Nat → Int32} {B : Nat → Nat → Int64} {I : Nat → Int32} {J : Nat → Int64} {b : Nat → Int32} {k : Nat}
theorem d_heard (o : OB h a 12 mdL A B I J) (hb : HB A I b k) (hg : HG A I g j) {v l : Nat} (hv : v < eN g) (hl : l < mbL (bMB b)) : F_X12_isHeard h a (nI v) (nI l) = some (nI (if hd (bMB b) g v l then 1 else 0)) := by
  rw [← hd_if]
  obtain ⟨e1, e2⟩ := vo_ok hg.1 hv
  have hw := (wh_ok (bMB_ok hb.1) hl).2
  have hvo := (g_pack o hg).2 v hv
  rw [e1] at hvo
  have hwo := d_whl o hb hl
  by_cases h6 : vo g v = 6
  · rw [if_pos (Or.inl h6)]
    simp (disch := omega) only [F_X12_isHeard, nS, o.ob, hvo]
  · by_cases hq : vo g v = wh (bMB b) l
    · rw [if_pos (Or.inr hq)]
      simp (disch := omega) only [F_X12_isHeard, nS, o.ob, hvo, hwo]
    · rw [if_neg (fun q => q.elim h6 hq)]
      simp (disch := omega) only [F_X12_isHeard, nS, o.ob, hvo, hwo]
def RT (m : MB) (g : Nat → Int32) (T : Nat → Int64) (S : Nat → Int32) (t l : Nat) : Prop := ∀ t' l', t' < eN g → l' < mbL m → (t' < t ∨ (t' = t ∧ l' < l)) → T (20 * (eN g - 1 - t') + l') = lN (fr m g t' l') ∧ S (20 * (eN g - 1 - t') + l') = nI (fs m g t' l')
theorem HG.n42 {A A' : Nat → Nat → Int32} {I : Nat → Int32} {e : Nat → Int32} {j : Nat} (he : HG A I e j) (n : On [42] A A') : HG A' I e j := ⟨he.1, he.2.1, he.2.2.1, by rw [n 8 (by decide)]; exact he.2.2.2⟩
theorem HB.n42 {A A' : Nat → Nat → Int32} {I : Nat → Int32} {b : Nat → Int32} {k : Nat} (hb : HB A I b k) (n : On [42] A A') : HB A' I b k := hb.cg (n 6 (by decide)) (n 25 (by decide)) (n 26 (by decide)) rfl rfl
theorem d_fcell (o : OB h a 12 mdL A B I J) (hb : HB A I b k) (hg : HG A I g j) {t l : Nat} (ht : t < eN g) (hl : l < mbL (bMB b)) (rt : RT (bMB b) g (B 41) (A 42) t l) : ∃ h' A' B', s_X12_findFrom_13 a (nI (eN g - 1 - t)) (nI l, h) = some (.inl (nI (l + 1), h')) ∧ OB h' a 12 mdL A' B' I J ∧ Fr h h' a (a + 27) ∧ On [42] A A' ∧ RT (bMB b) g (B' 41) (A' 42) t (l + 1) := by
  have ok := bMB_ok hb.1
  have hL := L_le ok
  have hN := (lv_ok hg.1).2
  have hf := fn_le ok hl
  have gv := (g_pack o hg).1
  have efm := (d_pack o hb).2.2.2.2.2.2.2.2.2.2.2 l (by omega)
  have efs := fs_le (bMB b) g t l
  obtain ⟨h1, e1, o1, r1⟩ := X12_s41 o (i := 20 * (eN g - 1 - t) + l) (lN (fr (bMB b) g t l)) (by omega)
  obtain ⟨h2, e2, o2, r2⟩ := X12_s42 o1 (i := 20 * (eN g - 1 - t) + l) (nI (fs (bMB b) g t l)) (by omega)
  have hh0 := d_heard o hb hg (v := eN g - 1 - t) (by omega) hl
  have hh1 := d_heard o1 hb hg (v := eN g - 1 - t) (by omega) hl
  -- the end
  have fin : ∀ x y, y ≤ 1000000 → (hd (bMB b) g (eN g - 1 - t) l = true → x = fr (bMB b) g t l ∧ y = fs (bMB b) g t l) → j_X12_findFrom_132 h a (nI (eN g - 1 - t)) (nI l) (lN x) (nI y) = some (.inl (nI (l + 1), h2)) := by
    intro x y hy hxy
    cases hh : hd (bMB b) g (eN g - 1 - t) l with
    | false =>
      rw [hh] at hh0 hh1
      have hh0 : F_X12_isHeard h a (nI (eN g - 1 - t)) (nI l) = some (nI 0) := hh0
      have hh1 : F_X12_isHeard h1 a (nI (eN g - 1 - t)) (nI l) = some (nI 0) := hh1
      have f1 : fr (bMB b) g t l = 0 := by
        cases t with
        | zero => unfold fr; rw [show eN g - 1 = eN g - 1 - 0 by omega, hh]; rfl
        | succ t => unfold fr; rw [hh]; rfl
      have f2 : fs (bMB b) g t l = 1000000 := by
        cases t with
        | zero => unfold fs; rw [show eN g - 1 = eN g - 1 - 0 by omega, hh]; rfl
        | succ t => unfold fs; rw [hh]; rfl
      rw [f1] at e1
      rw [f2] at e2
      simp (disch := omega) only [j_X12_findFrom_132, j_X12_findFrom_156, nS, lS, X12_rd o, hh0, e1, X12_rd o1, hh1, e2]
    | true =>
      rw [hh] at hh0 hh1
      have hh0 : F_X12_isHeard h a (nI (eN g - 1 - t)) (nI l) = some (nI 1) := hh0
      have hh1 : F_X12_isHeard h1 a (nI (eN g - 1 - t)) (nI l) = some (nI 1) := hh1
      obtain ⟨q1, q2⟩ := hxy hh
      rw [← q1] at e1
      rw [← q2] at e2
      have hles : F_X12_lesser h1 (nI y) (nI 1000000) = some (nI y) := by
        rcases Nat.lt_or_ge y 1000000 with h3 | h3
        · simp (disch := omega) only [F_X12_lesser, nS]
        · rw [show y = 1000000 by omega]
          simp (disch := omega) only [F_X12_lesser, nS]
      simp (disch := omega) only [j_X12_findFrom_132, j_X12_findFrom_156, nS, lS, X12_rd o, hh0, e1, X12_rd o1, hh1, hles, e2]
  refine ⟨h2, _, _, ?_, o2, r1.tr r2, On.up (by decide), fun t' l' q1 q2 q3 => ?_⟩
  · cases t with
    | zero =>
      have lp : q_lp (s_X12_findFrom_59 h a (nI (eN g - 1)) (nI l)) q_N (lN 1, nI 0, nI 0) = some (lN 1, nI 0) := by
        refine q_lp_stop (n := 999999) ?_
        rcases Nat.eq_zero_or_pos (fn (bMB b) l) with h0 | h0
        · simp (disch := omega) only [s_X12_findFrom_59, b_X12_findFrom_59, nS, X12_rd o, efm]
        · simp (disch := omega) only [s_X12_findFrom_59, b_X12_findFrom_59, nS, X12_rd o, efm, gv]
      have := fin 1 0 (by omega) (fun hh => by
        rw [Nat.sub_zero] at hh
        exact ⟨by unfold fr; rw [hh]; rfl, by unfold fs; rw [hh]; rfl⟩)
      rw [Nat.sub_zero] at this ⊢
      simp (disch := omega) only [s_X12_findFrom_13, b_X12_findFrom_13, j_X12_findFrom_36, j_X12_findFrom_54, nS, lS, d_pack o hb, o.ob, gv, lp, this]
    | succ t =>
      have lp : q_lp (s_X12_findFrom_59 h a (nI (eN g - 1 - (t + 1))) (nI l)) q_N (lN 0, nI 1000000, nI 0) = some (lN (sm (fun k => fr (bMB b) g t (gg (bMB b) l k)) (fn (bMB b) l)), nI (mn (fun k => fs (bMB b) g t (gg (bMB b) l k) + sty k) (fn (bMB b) l))) := by
        refine q_lp_for (fun k => (lN (sm (fun k => fr (bMB b) g t (gg (bMB b) l k)) k), nI (mn (fun k => fs (bMB b) g t (gg (bMB b) l k) + sty k) k), nI k)) (fn (bMB b) l) (fun k hk => ?_) ?_ q_N (q_lt_N (by omega))
        · have hgl := gg_lt ok hl hk
          obtain ⟨ea, eb⟩ := rt t (gg (bMB b) l k) (by omega) hgl (Or.inl (by omega))
          rw [show eN g - 1 - t = eN g - 1 - (t + 1) + 1 by omega] at ea eb
          have hbe := (d_pack o hb).2.2.2.1 l k (by omega) hk
          have b1 := mn_le (fun k => fs (bMB b) g t (gg (bMB b) l k) + sty k) k
          have b2 := fs_le (bMB b) g t (gg (bMB b) l k)
          have b3 := sty_le k
          show _ = some (Sum.inl (lN (sm (fun k => fr (bMB b) g t (gg (bMB b) l k)) k + fr (bMB b) g t (gg (bMB b) l k)), nI (min (mn (fun k => fs (bMB b) g t (gg (bMB b) l k) + sty k) k) (fs (bMB b) g t (gg (bMB b) l k) + sty k)), nI (k + 1)))
          generalize mn (fun k => fs (bMB b) g t (gg (bMB b) l k) + sty k) k = M at b1
          rw [Nat.add_comm (fs (bMB b) g t (gg (bMB b) l k)) (sty k)]
          rcases Nat.lt_or_ge M (sty k + fs (bMB b) g t (gg (bMB b) l k)) with h3 | h3
          · rw [Nat.min_eq_left (by omega)]
            simp (disch := omega) only [s_X12_findFrom_59, b_X12_findFrom_59, nS, lS, X12_rd o, efm, gv, hbe, ea, eb, d_sty h, F_X12_lesser]
          · rw [Nat.min_eq_right (by omega)]
            simp (disch := omega) only [s_X12_findFrom_59, b_X12_findFrom_59, nS, lS, X12_rd o, efm, gv, hbe, ea, eb, d_sty h, F_X12_lesser]
        · simp (disch := omega) only [s_X12_findFrom_59, b_X12_findFrom_59, nS, X12_rd o, efm]
      have := fin (sm (fun k => fr (bMB b) g t (gg (bMB b) l k)) (fn (bMB b) l)) (mn (fun k => fs (bMB b) g t (gg (bMB b) l k) + sty k) (fn (bMB b) l)) (mn_le (fun k => fs (bMB b) g t (gg (bMB b) l k) + sty k) (fn (bMB b) l)) (fun hh => ⟨(show sm (fun k => fr (bMB b) g t (gg (bMB b) l k)) (fn (bMB b) l) = (if hd (bMB b) g (eN g - 1 - (t + 1)) l = true then sm (fun k => fr (bMB b) g t (gg (bMB b) l k)) (fn (bMB b) l) else 0) from (if_pos hh).symm), (show mn (fun k => fs (bMB b) g t (gg (bMB b) l k) + sty k) (fn (bMB b) l) = (if hd (bMB b) g (eN g - 1 - (t + 1)) l = true then mn (fun k => fs (bMB b) g t (gg (bMB b) l k) + sty k) (fn (bMB b) l) else 1000000) from (if_pos hh).symm)⟩)
      simp (disch := omega) only [s_X12_findFrom_13, b_X12_findFrom_13, j_X12_findFrom_36, j_X12_findFrom_54, nS, lS, d_pack o hb, o.ob, gv, lp, this]
  · rw [upF_self, upF_self]
    by_cases hix : 20 * (eN g - 1 - t') + l' = 20 * (eN g - 1 - t) + l
    · have k1 : t' = t := by omega
      have k2 : l' = l := by omega
      subst k1 k2
      exact ⟨pk_uLs, pk_us⟩
    · rw [pk_uLn hix, pk_un hix]
      refine rt t' l' q1 q2 ?_
      by_cases hc : t' = t ∧ l' = l
      · exact absurd (by rw [hc.1, hc.2]) hix
      · omega
theorem d_from (o : OB h a 12 mdL A B I J) (hb : HB A I b k) (hg : HG A I g j) : ∃ h' A' B', F_X12_findFrom h a = some h' ∧ OB h' a 12 mdL A' B' I J ∧ Fr h h' a (a + 27) ∧ On [42] A A' ∧ RT (bMB b) g (B' 41) (A' 42) (eN g) 0 := by
  have ok := bMB_ok hb.1
  have hL := L_le ok
  have hN := (lv_ok hg.1).2
  have gv := (g_pack o hg).1
  rcases Nat.eq_zero_or_pos (eN g) with hn0 | hn0
  · have lp : q_lp (s_X12_findFrom_7 a) q_N (m1, h) = some h := by
      refine q_lp_stop (n := 999999) ?_
      simp (disch := omega) only [s_X12_findFrom_7, b_X12_findFrom_7, nS]
    rw [hn0] at gv
    refine ⟨h, A, B, ?_, o, Fr.rf, On.rf, fun t' l' q1 => by omega⟩
    simp (disch := omega) only [F_X12_findFrom, nS, o.ob, gv, lp]
  have lp : ∃ h', q_lp (s_X12_findFrom_7 a) q_N (nI (eN g - 1), h) = some h' ∧ ∃ A' B', OB h' a 12 mdL A' B' I J ∧ Fr h h' a (a + 27) ∧ On [42] A A' ∧ RT (bMB b) g (B' 41) (A' 42) (eN g) 0 := by
    rw [← dI_0 (eN g - 1)]
    refine q_lp_idx (fun t s => s.1 = dI (eN g - 1) t ∧ ∃ A' B', OB s.2 a 12 mdL A' B' I J ∧ Fr h s.2 a (a + 27) ∧ On [42] A A' ∧ RT (bMB b) g (B' 41) (A' 42) t 0) (eN g) _ ?_ ?_ q_N (dI (eN g - 1) 0, h) ⟨rfl, A, B, o, Fr.rf, On.rf, fun t' l' q1 q2 q3 => by omega⟩ (q_lt_N (by omega))
    · rintro t ⟨x1, hh⟩ ht ⟨hx1, A2, B2, o2, r2, n2, rt2⟩
      dsimp only at hx1 o2 r2
      rw [dI_in (by omega)] at hx1
      subst hx1
      obtain ⟨h3, e3, A3, B3, o3, r3, n3, rt3⟩ := q_lp1 (step := s_X12_findFrom_13 a (nI (eN g - 1 - t))) (fun l h' => ∃ A' B', OB h' a 12 mdL A' B' I J ∧ Fr h h' a (a + 27) ∧ On [42] A A' ∧ RT (bMB b) g (B' 41) (A' 42) t l) (mbL (bMB b)) 0 (by omega)
        (fun l h1 hl ⟨A1, B1, o1, r1, n1, rt1⟩ => by
          obtain ⟨h2, A2, B2, e2, o2, r2, n2, rt2⟩ := d_fcell o1 (hb.n42 n1) (hg.n42 n1) ht hl rt1
          exact ⟨h2, e2, A2, B2, o2, r1.tr r2, n1.tr n2, rt2⟩)
        (fun h1 ⟨A1, B1, o1, r1, n1, _⟩ => by simp (disch := omega) only [s_X12_findFrom_13, b_X12_findFrom_13, nS, Nat.add_zero, d_pack o1 (hb.n42 n1)])
        (h := hh) ⟨A2, B2, o2, r2, n2, rt2⟩
      refine ⟨(dI (eN g - 1) (t + 1), h3), ?_, rfl, A3, B3, o3, r3, n3, fun t' l' q1 q2 q => rt3 t' l' q1 q2 (by omega)⟩
      simp (disch := omega) only [s_X12_findFrom_7, b_X12_findFrom_7, nS, e3, dI_go (show t ≤ eN g - 1 by omega)]
    · rintro ⟨x1, hh⟩ ⟨hx1, A2, B2, o2, r2, n2, rt2⟩
      dsimp only at hx1 o2 r2
      have := dI_end (eN g - 1)
      rw [show eN g - 1 + 1 = eN g by omega] at this
      rw [this] at hx1
      subst hx1
      refine ⟨hh, ?_, A2, B2, o2, r2, n2, rt2⟩
      simp (disch := omega) only [s_X12_findFrom_7, b_X12_findFrom_7, nS]
  obtain ⟨h2, e2, A2, B2, o2, r2, n2, rt2⟩ := lp
  refine ⟨h2, A2, B2, ?_, o2, r2, n2, rt2⟩
  simp (disch := omega) only [F_X12_findFrom, nS, o.ob, gv, e2]
/-- not yet masked -/
def rw1 (m : MB) (g : Nat → Int32) : Nat → Nat → Nat
  | 0 => fun j => if j = 0 then 1 else 0
  | v + 1 => fun j => ac m (uu m g v) (mbL m) j
theorem uu_rw (m : MB) (g : Nat → Int32) (v j : Nat) : uu m g v j = if hd m g v j then rw1 m g v j else 0 := by
  cases v with
  | zero =>
    show (if j = 0 ∧ hd m g 0 0 = true then 1 else 0) = if hd m g 0 j = true then (if j = 0 then 1 else 0) else 0
    by_cases hj : j = 0
    · subst hj
      cases hd m g 0 0 <;> rfl
    · rw [if_neg (fun q => hj q.1), if_neg hj]
      split <;> rfl
  | succ v => rfl
def VT (m : MB) (g : Nat → Int32) (T : Nat → Int64) (v l l2 k : Nat) : Prop := (∀ v' j, v' < v → v' < eN g → j < mbL m → T (20 * v' + j) = lN (uu m g v' j)) ∧ (v < eN g → ∀ j, j < mbL m → T (20 * v + j) = lN (if j < l then uu m g v j else rw1 m g v j)) ∧ (v + 1 < eN g → ∀ j, j < mbL m → T (20 * (v + 1) + j) = lN (sd m (ac m (uu m g v) l2) (uu m g v l2) l2 k j)) ∧ ∀ v' j, v + 1 < v' → v' < eN g → j < mbL m → T (20 * v' + j) = lN 0
theorem d_upTo (o : OB h a 12 mdL A B I J) (hb : HB A I b k) (hg : HG A I g j) : ∃ h' B', F_X12_findUpTo h a = some h' ∧ OB h' a 12 mdL A B' I J ∧ Fr h h' a (a + 27) ∧ B' 41 = B 41 ∧ ∀ v j, v < eN g → j < mbL (bMB b) → B' 40 (20 * v + j) = lN (uu (bMB b) g v j) := by
  have ok := bMB_ok hb.1
  have hL := L_le ok
  have hN := (lv_ok hg.1).2
  obtain ⟨h1, e1, B1, o1, r1, y1, z1⟩ := q_lp1 (step := s_X12_findUpTo_2 a) (fun i h' => ∃ B', OB h' a 12 mdL A B' I J ∧ Fr h h' a (a + 27) ∧ B' 41 = B 41 ∧ ∀ j, j < i → B' 40 j = lN 0) 240 0 (by omega)
    (fun i h1 hi ⟨B1, o1, r1, y1, z1⟩ => by
      obtain ⟨h2, e2, o2, r2⟩ := X12_s40 o1 (i := i) (lN 0) hi
      refine ⟨h2, ?_, _, o2, r1.tr r2, by rw [upF_ne _ _ (show (41 : Nat) ≠ 40 by decide)]; exact y1, fun j hj => ?_⟩
      · simp (disch := omega) only [s_X12_findUpTo_2, b_X12_findUpTo_2, nS, lS, Nat.add_zero, X12_rd o1, e2]
      · rw [upF_self]
        by_cases hji : j = i
        · subst hji; exact pk_uLs
        · rw [pk_uLn hji]; exact z1 j (by omega))
    (fun h1 _ => by simp (disch := omega) only [s_X12_findUpTo_2, b_X12_findUpTo_2, nS, Nat.add_zero])
    (h := h) ⟨B, o, Fr.rf, rfl, fun l hl => by omega⟩
  -- one voice
  have voice : ∀ v hh B1, v < eN g → OB hh a 12 mdL A B1 I J → Fr h hh a (a + 27) → B1 41 = B 41 → VT (bMB b) g (B1 40) v 0 0 0 → ∃ h' B', q_lp (s_X12_findUpTo_52 a (nI v)) q_N (nI 0, hh) = some h' ∧ OB h' a 12 mdL A B' I J ∧ Fr h h' a (a + 27) ∧ B' 41 = B 41 ∧ VT (bMB b) g (B' 40) v (mbL (bMB b)) (mbL (bMB b)) 0 := by
    intro v hh B1 hv o1 r1 y1 vt1
    obtain ⟨h2, e2, B2, o2, r2, y2, vt2⟩ := q_lp1 (step := s_X12_findUpTo_52 a (nI v)) (fun l h' => ∃ B', OB h' a 12 mdL A B' I J ∧ Fr h h' a (a + 27) ∧ B' 41 = B 41 ∧ VT (bMB b) g (B' 40) v l l 0) (mbL (bMB b)) 0 (by omega)
      (fun l hh hl ⟨B1, o1, r1, y1, u1, u2, u3, u4⟩ => by
        have hf := fn_le ok hl
        have hhe := d_heard o1 hb hg hv hl
        have vl := u2 hv l hl
        rw [if_neg (Nat.lt_irrefl l)] at vl
        obtain ⟨h2, e2, o2, r2⟩ := X12_s40 o1 (i := 20 * v + l) (lN (uu (bMB b) g v l)) (by omega)
        have vt2 : VT (bMB b) g (upF B1 40 (vp_updL (B1 40) (20 * v + l) (lN (uu (bMB b) g v l))) 40) v (l + 1) l 0 := by
          rw [upF_self]
          refine ⟨fun v' j q1 q2 q3 => by rw [pk_uLn (by omega)]; exact u1 v' j q1 q2 q3, fun q1 j q2 => ?_, fun q1 j q2 => by rw [pk_uLn (by omega)]; exact u3 q1 j q2, fun v' j q1 q2 q3 => by rw [pk_uLn (by omega)]; exact u4 v' j q1 q2 q3⟩
          by_cases hj : j = l
          · subst hj; rw [pk_uLs, if_pos (by omega)]
          · rw [pk_uLn (by omega), u2 q1 j q2]
            by_cases hjl : j < l
            · rw [if_pos hjl, if_pos (by omega)]
            · rw [if_neg hjl, if_neg (by omega)]
        obtain ⟨h3, e3, B3, o3, r3, y3, vt3⟩ : ∃ h', q_lp (s_X12_findUpTo_97 a (nI v) (nI l)) q_N (nI 0, h2) = some h' ∧ ∃ B', OB h' a 12 mdL A B' I J ∧ Fr h h' a (a + 27) ∧ B' 41 = B 41 ∧ VT (bMB b) g (B' 40) v (l + 1) l (fn (bMB b) l) := by
          by_cases hlast : v + 1 < eN g
          · refine q_lp1 (step := s_X12_findUpTo_97 a (nI v) (nI l)) (fun k h' => ∃ B', OB h' a 12 mdL A B' I J ∧ Fr h h' a (a + 27) ∧ B' 41 = B 41 ∧ VT (bMB b) g (B' 40) v (l + 1) l k) (fn (bMB b) l) 0 (by omega)
              (fun k hh hk ⟨B1, o1, r1, y1, u1, u2, u3, u4⟩ => ?_) (fun hh ⟨B1, o1, r1, y1, _⟩ => ?_) ⟨_, o2, r1.tr r2, by rw [upF_ne _ _ (show (41 : Nat) ≠ 40 by decide)]; exact y1, vt2⟩
            · have hgl := gg_lt ok hl hk
              have efm := (d_pack o1 hb).2.2.2.2.2.2.2.2.2.2.2 l (by omega)
              have hbe := (d_pack o1 hb).2.2.2.1 l k (by omega) hk
              have gv := (g_pack o1 hg).1
              have v1 := u3 hlast (gg (bMB b) l k) hgl
              have v2 := u2 hv l hl
              rw [if_pos (by omega)] at v2
              obtain ⟨h2, e2, o2, r2⟩ := X12_s40 o1 (i := 20 * (v + 1) + gg (bMB b) l k) (lN (sd (bMB b) (ac (bMB b) (uu (bMB b) g v) l) (uu (bMB b) g v l) l k (gg (bMB b) l k) + uu (bMB b) g v l)) (by omega)
              refine ⟨h2, ?_, _, o2, r1.tr r2, by rw [upF_ne _ _ (show (41 : Nat) ≠ 40 by decide)]; exact y1, ?_⟩
              · simp (disch := omega) only [s_X12_findUpTo_97, b_X12_findUpTo_97, nS, lS, Nat.add_zero, X12_rd o1, efm, gv, hbe, v1, v2, e2]
              · rw [upF_self]
                refine ⟨fun v' j q1 q2 q3 => by rw [pk_uLn (by omega)]; exact u1 v' j q1 q2 q3, fun q1 j q2 => by rw [pk_uLn (by omega)]; exact u2 q1 j q2, fun q1 j q2 => ?_, fun v' j q1 q2 q3 => by rw [pk_uLn (by omega)]; exact u4 v' j q1 q2 q3⟩
                show _ = lN (if j = gg (bMB b) l k then sd (bMB b) (ac (bMB b) (uu (bMB b) g v) l) (uu (bMB b) g v l) l k j + uu (bMB b) g v l else sd (bMB b) (ac (bMB b) (uu (bMB b) g v) l) (uu (bMB b) g v l) l k j)
                by_cases hj : j = gg (bMB b) l k
                · subst hj; rw [pk_uLs, if_pos rfl]
                · rw [pk_uLn (by omega), if_neg hj]; exact u3 q1 j q2
            · have efm := (d_pack o1 hb).2.2.2.2.2.2.2.2.2.2.2 l (by omega)
              simp (disch := omega) only [s_X12_findUpTo_97, b_X12_findUpTo_97, nS, Nat.add_zero, X12_rd o1, efm]
          · refine ⟨h2, ?_, _, o2, r1.tr r2, by rw [upF_ne _ _ (show (41 : Nat) ≠ 40 by decide)]; exact y1, vt2.1, vt2.2.1, fun q => absurd q hlast, vt2.2.2.2⟩
            have efm := (d_pack o2 hb).2.2.2.2.2.2.2.2.2.2.2 l (by omega)
            have gv := (g_pack o2 hg).1
            refine q_lp_stop (n := 999999) ?_
            rcases Nat.eq_zero_or_pos (fn (bMB b) l) with h0 | h0
            · simp (disch := omega) only [s_X12_findUpTo_97, b_X12_findUpTo_97, nS, X12_rd o2, efm]
            · simp (disch := omega) only [s_X12_findUpTo_97, b_X12_findUpTo_97, nS, X12_rd o2, efm, gv]
        refine ⟨h3, ?_, B3, o3, r3, y3, vt3⟩
        cases hq : hd (bMB b) g v l with
        | false =>
          rw [hq] at hhe
          have hhe : F_X12_isHeard hh a (nI v) (nI l) = some (nI 0) := hhe
          have u0 : uu (bMB b) g v l = 0 := by rw [uu_rw, hq]; rfl
          rw [u0] at e2
          simp (disch := omega) only [s_X12_findUpTo_52, b_X12_findUpTo_52, nS, lS, Nat.add_zero, X12_rd o1, hb.i24, hhe]
          simp (disch := omega) only [j_X12_findUpTo_94, nS, e2, e3]
        | true =>
          rw [hq] at hhe
          have hhe : F_X12_isHeard hh a (nI v) (nI l) = some (nI 1) := hhe
          have u0 : rw1 (bMB b) g v l = uu (bMB b) g v l := by rw [uu_rw, hq]; rfl
          rw [u0] at vl
          simp (disch := omega) only [s_X12_findUpTo_52, b_X12_findUpTo_52, nS, lS, Nat.add_zero, X12_rd o1, hb.i24, hhe, vl]
          simp (disch := omega) only [j_X12_findUpTo_94, nS, e2, e3])
      (fun hh ⟨B1, o1, r1, _⟩ => by simp (disch := omega) only [s_X12_findUpTo_52, b_X12_findUpTo_52, nS, Nat.add_zero, d_pack o1 hb])
      (h := hh) ⟨B1, o1, r1, y1, vt1⟩
    exact ⟨h2, B2, e2, o2, r2, y2, vt2⟩
  obtain ⟨h3, e3, B3, o3, r3, y3, vt3⟩ := q_lp1 (step := s_X12_findUpTo_24 a) (fun v h' => ∃ B', OB h' a 12 mdL A B' I J ∧ Fr h h' a (a + 27) ∧ B' 41 = B 41 ∧ (v = 0 → ∀ j, j < 240 → B' 40 j = lN 0) ∧ (0 < v → VT (bMB b) g (B' 40) v 0 0 0)) (eN g) 0 (by omega)
    (fun v hh hv ⟨B1, o1, r1, y1, z1, vt1⟩ => by
      have gv := (g_pack o1 hg).1
      -- the row ahead of the voice
      obtain ⟨h2, B2, e2, o2, r2, y2, vt2⟩ : ∃ h2 B2, s_X12_findUpTo_24 a (nI v, hh) = j_X12_findUpTo_50 h2 a (nI v) ∧ OB h2 a 12 mdL A B2 I J ∧ Fr h h2 a (a + 27) ∧ B2 41 = B 41 ∧ VT (bMB b) g (B2 40) v 0 0 0 := by
        rcases Nat.eq_zero_or_pos v with hv0 | hv0
        · subst hv0
          have z1 := z1 rfl
          rcases Nat.eq_zero_or_pos (mbL (bMB b)) with hl0 | hl0
          · refine ⟨hh, B1, ?_, o1, r1, y1, fun v' j q1 => by omega, fun _ j q => by omega, fun _ j q => by omega, fun v' j _ _ q => by omega⟩
            simp (disch := omega) only [s_X12_findUpTo_24, b_X12_findUpTo_24, nS, o1.ob, gv, d_pack o1 hb]
          · obtain ⟨h2, e2, o2, r2⟩ := X12_s40 o1 (i := 0) (lN 1) (by omega)
            refine ⟨h2, _, ?_, o2, r1.tr r2, by rw [upF_ne _ _ (show (41 : Nat) ≠ 40 by decide)]; exact y1, ?_⟩
            · simp (disch := omega) only [s_X12_findUpTo_24, b_X12_findUpTo_24, nS, lS, o1.ob, gv, d_pack o1 hb, X12_rd o1, hb.i24, e2]
            · rw [upF_self]
              refine ⟨fun v' j q1 => by omega, fun _ j q => ?_, fun _ j q => ?_, fun v' j q1 q2 q3 => by rw [pk_uLn (by omega)]; exact z1 _ (by omega)⟩
              · rw [if_neg (by omega)]
                show _ = lN (if j = 0 then 1 else 0)
                by_cases hj : j = 0
                · subst hj; exact pk_uLs
                · rw [if_neg hj, pk_uLn (by omega)]; exact z1 _ (by omega)
              · rw [pk_uLn (by omega)]; exact z1 _ (by omega)
        · refine ⟨hh, B1, ?_, o1, r1, y1, vt1 hv0⟩
          simp (disch := omega) only [s_X12_findUpTo_24, b_X12_findUpTo_24, nS, o1.ob, gv]
      obtain ⟨h3, B3, e3, o3, r3, y3, u1, u2, u3, u4⟩ := voice v h2 B2 hv o2 r2 y2 vt2
      refine ⟨h3, ?_, B3, o3, r3, y3, fun q => by omega, fun _ => ⟨fun v' j q1 q2 q3 => ?_, fun q1 j q2 => ?_, fun q1 j q2 => u4 _ j (by omega) q1 q2, fun v' j q1 q2 q3 => u4 v' j (by omega) q2 q3⟩⟩
      · rw [Nat.add_zero, e2]
        simp (disch := omega) only [j_X12_findUpTo_50, nS, e3]
      · by_cases hv' : v' = v
        · subst hv'
          rw [u2 q2 j q3, if_pos q3]
        · exact u1 v' j (by omega) q2 q3
      · rw [u3 q1 j q2, if_neg (by omega)]
        rfl)
    (fun hh ⟨B1, o1, r1, _⟩ => by
      have gv := (g_pack o1 hg).1
      simp (disch := omega) only [s_X12_findUpTo_24, b_X12_findUpTo_24, nS, Nat.add_zero, o1.ob, gv])
    (h := h1) ⟨B1, o1, r1, y1, fun _ => z1, fun q => by omega⟩
  refine ⟨h3, B3, ?_, o3, r3, y3, fun v j hv hj => ?_⟩
  · simp (disch := omega) only [F_X12_findUpTo, nS, e1, e3]
  · exact (vt3.2 (by omega)).1 v j hv hv hj
end FTD
