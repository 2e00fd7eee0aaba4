/-! ===== fits: the mathematics ===== -/
def vo (g : Nat → Int32) (v : Nat) : Nat := (g (1 + v)).toNatClampNeg
theorem vo_ok {g : Nat → Int32} (lv : LV g) {v : Nat} (hv : v < eN g) : g (1 + v) = nI (vo g v) ∧ vo g v < 7 := by
  obtain ⟨n, hn, e0, hk⟩ := lv
  have hen : eN g = n := by unfold eN; rw [e0, nI_cl (by omega)]
  obtain ⟨p, hp, he⟩ := hk v (by omega)
  unfold vo
  rw [he, nI_cl (by omega)]
  exact ⟨rfl, hp⟩
def hd (m : MB) (g : Nat → Int32) (v l : Nat) : Bool := decide (vo g v = 6 ∨ vo g v = wh m l)
/-- how many ways fit from a line on, t voices ahead of the end -/
def fr (m : MB) (g : Nat → Int32) : Nat → Nat → Nat
  | 0, l => if hd m g (eN g - 1) l then 1 else 0
  | t + 1, l => if hd m g (eN g - 1 - (t + 1)) l then sm (fun k => fr m g t (gg m l k)) (fn m l) else 0
/-- their fewest strayings -/
def fs (m : MB) (g : Nat → Int32) : Nat → Nat → Nat
  | 0, l => if hd m g (eN g - 1) l then 0 else 1000000
  | t + 1, l => if hd m g (eN g - 1 - (t + 1)) l then mn (fun k => fs m g t (gg m l k) + sty k) (fn m l) else 1000000
theorem fs_le (m : MB) (g : Nat → Int32) (t l : Nat) : fs m g t l ≤ 1000000 := by
  cases t with
  | zero => unfold fs; split <;> omega
  | succ t =>
    unfold fs
    split
    · exact mn_le _ _
    · omega
theorem fr_le {m : MB} (ok : MBok m) (g : Nat → Int32) : ∀ t l, l < mbL m → fr m g t l ≤ 20 ^ t := by
  intro t
  induction t with
  | zero => intro l _; unfold fr; split <;> omega
  | succ t ih =>
    intro l hl
    unfold fr
    split
    · have h1 := sm_le (f := fun k => fr m g t (gg m l k)) (k := 20 ^ t) (fn m l) (fun k hk => ih _ (gg_lt ok hl hk))
      have h2 := Nat.mul_le_mul_left (20 ^ t) (fn_le ok hl)
      rw [Nat.pow_succ]
      exact Nat.le_trans h1 h2
    · exact Nat.zero_le _
theorem fr_63 {m : MB} (ok : MBok m) {g : Nat → Int32} {t l : Nat} (hl : l < mbL m) (ht : t < 12) : fr m g t l < 2 ^ 63 := by
  have h1 := fr_le ok g t l hl
  have h2 : 20 ^ t ≤ 20 ^ 11 := Nat.pow_le_pow_right (by omega) (by omega)
  have h3 : (20 : Nat) ^ 11 < 2 ^ 63 := by decide
  omega
/-- what is spread over the followers -/
def sd (m : MB) (t : Nat → Nat) (x l : Nat) : Nat → Nat → Nat
  | 0 => t
  | k + 1 => ad (sd m t x l k) (gg m l k) x
def ac (m : MB) (w : Nat → Nat) : Nat → Nat → Nat
  | 0 => fun _ => 0
  | l + 1 => sd m (ac m w l) (w l) l (fn m l)
/-- how many ways come up to a line -/
def uu (m : MB) (g : Nat → Int32) : Nat → Nat → Nat
  | 0 => fun j => if j = 0 ∧ hd m g 0 0 then 1 else 0
  | v + 1 => fun j => if hd m g (v + 1) j then ac m (uu m g v) (mbL m) j else 0
/-- all ways -/
def aw (m : MB) (g : Nat → Int32) : Nat := if eN g = 0 then 1 else if mbL m = 0 then 0 else fr m g (eN g - 1) 0
/-- through a line -/
def thr (m : MB) (g : Nat → Int32) (v l : Nat) : Int64 := lN (uu m g v l * fr m g (eN g - 1 - v) l)
def su1 (m : MB) (g : Nat → Int32) (v p : Nat) : Nat → Int64
  | 0 => lN 0
  | l + 1 => su1 m g v p l + if wh m l = p then thr m g v l else lN 0
def mo1 (m : MB) (g : Nat → Int32) (v : Nat) : Nat → Int64
  | 0 => lN 0
  | p + 1 => if mo1 m g v p < su1 m g v p (mbL m) then su1 m g v p (mbL m) else mo1 m g v p
def gu (m : MB) (g : Nat → Int32) : Nat → Option Nat × Int64
  | 0 => (none, lN 0)
  | v + 1 => if vo g v = 6 then (match (gu m g v).1 with
    | none => (some v, mo1 m g v 6)
    | some x => if (gu m g v).2 ≤ mo1 m g v 6 then gu m g v else (some v, mo1 m g v 6)) else gu m g v
theorem gu_lt (m : MB) (g : Nat → Int32) : ∀ v x, (gu m g v).1 = some x → x < v := by
  intro v
  induction v with
  | zero => intro x hx; cases hx
  | succ v ih =>
    intro x hx
    unfold gu at hx
    split at hx
    · split at hx
      · cases hx; omega
      · split at hx
        · have := ih x hx; omega
        · cases hx; omega
    · have := ih x hx; omega
/-- the first way -/
def fa (m : MB) (g : Nat → Int32) : Nat → Option Nat
  | 0 => some 0
  | i + 1 => match fa m g i with
    | none => none
    | some l => lst (fun k => decide (0 < fr m g (eN g - 1 - (i + 1)) (gg m l k))) (gg m l) (fn m l)
theorem fa_lt {m : MB} (ok : MBok m) (h0 : 0 < mbL m) {g : Nat → Int32} : ∀ i x, fa m g i = some x → x < mbL m := by
  intro i
  induction i with
  | zero => intro x hx; cases hx; exact h0
  | succ i ih =>
    intro x hx
    unfold fa at hx
    split at hx
    · cases hx
    · next l hl => exact lst_lt _ (fun k hk => gg_lt ok (ih l hl) hk) x hx
theorem fa_none {m : MB} {g : Nat → Int32} : ∀ i j, fa m g i = none → i ≤ j → fa m g j = none := by
  intro i j h1 h2
  obtain ⟨d, rfl⟩ : ∃ d, j = i + d := ⟨j - i, by omega⟩
  clear h2
  induction d with
  | zero => exact h1
  | succ d ih =>
    show (match fa m g (i + d) with | none => none | some l => lst (fun k => decide (0 < fr m g (eN g - 1 - (i + d + 1)) (gg m l k))) (gg m l) (fn m l)) = none
    rw [ih]
/-! the class -/
section FTC
variable {h : qH} {a b ga : Nat} {m : MB} {g : Nat → Int32} {A : Nat → Nat → Int32} {B : Nat → Nat → Int64} {I : Nat → Int32} {J : Nat → Int64}
theorem CG.kept {h h' : qH} {a : Nat} {e : Nat → Int32} (c : CG h a e) (hk : ∀ q, a ≤ q → q < a + 2 → h' q = h q) : CG h' a e := ⟨c.1, c.2.kept hk⟩
theorem c_mayBe (cg : CG h ga g) {v p : Nat} (hv : v < eN g) (hp : p < 6) : F_X3_mayBe h ga (nI v) (nI p) = some (nI (if vo g v = 6 ∨ vo g v = p then 1 else 0)) := by
  obtain ⟨e1, e2⟩ := vo_ok cg.1 hv
  have hN := (lv_ok cg.1).2
  by_cases h6 : vo g v = 6
  · rw [if_pos (Or.inl h6)]
    simp (disch := omega) only [F_X3_mayBe, nS, gS cg, e1]
  · by_cases hq : vo g v = p
    · rw [if_pos (Or.inr hq)]
      simp (disch := omega) only [F_X3_mayBe, nS, gS cg, e1]
    · rw [if_neg (fun q => q.elim h6 hq)]
      simp (disch := omega) only [F_X3_mayBe, nS, gS cg, e1]
theorem hd_if (m : MB) (g : Nat → Int32) (v l : Nat) : (if vo g v = 6 ∨ vo g v = wh m l then 1 else 0) = if hd m g v l then 1 else 0 := by
  unfold hd
  by_cases hc : vo g v = 6 ∨ vo g v = wh m l
  · rw [if_pos hc, decide_eq_true hc]; rfl
  · rw [if_neg hc, decide_eq_false hc]; rfl
/-- the table of the class, as far as it stands -/
def FT (m : MB) (g : Nat → Int32) (B0 : Nat → Int64) (A2 : Nat → Int32) (t l : Nat) : Prop := ∀ t' l', t' < eN g → l' < mbL m → ((t' < t ∨ (t' = t ∧ l' < l)) → B0 ((eN g - 1 - t') * 20 + l') = lN (fr m g t' l') ∧ A2 ((eN g - 1 - t') * 20 + l') = nI (fs m g t' l')) ∧ (¬ (t' < t ∨ (t' = t ∧ l' < l)) → B0 ((eN g - 1 - t') * 20 + l') = lN 0 ∧ A2 ((eN g - 1 - t') * 20 + l') = nI 1000000)
theorem c_at0 (o : OB h a 2 fiL A B I J) {v l : Nat} (hv : v < 12) (hl : l < 20) : F_X2_at h (a + 1) (nI v) (nI l) = some (B 0 (v * 20 + l)) := by
  simp (disch := omega) only [F_X2_at, nS, X2_rd o]
theorem c_at1 (o : OB h a 2 fiL A B I J) {v l : Nat} (hv : v < 12) (hl : l < 20) : F_X2_at h (a + 2) (nI v) (nI l) = some (B 1 (v * 20 + l)) := by
  simp (disch := omega) only [F_X2_at, nS, X2_rd o]
theorem c_cell (o : OB h a 2 fiL A B I J) (c : CB h b m) (hdd : b + 12 ≤ a ∨ a + 4 ≤ b) (cg : CG h ga g) (hg : ga + 2 ≤ a ∨ a + 4 ≤ ga) {t l : Nat} (ht : t < eN g) (hl : l < mbL m) (ft : FT m g (B 0) (A 2) t l) : ∃ h' A' B', s_X2_countFrom_50 a b ga (nI (eN g - 1 - t)) (nI l, h) = some (.inl (nI (l + 1), h')) ∧ OB h' a 2 fiL A' B' I J ∧ Fr h h' a (a + 4) ∧ FT m g (B' 0) (A' 2) t (l + 1) := by
  have ok := c.1
  have hL := L_le ok
  have hN := (lv_ok cg.1).2
  have hf := fn_le ok hl
  have hw := (wh_ok ok hl).2
  have hmb := c_mayBe cg (v := eN g - 1 - t) (p := wh m l) (by omega) hw
  rw [hd_if] at hmb
  cases hh : hd m g (eN g - 1 - t) l with
  | false =>
    rw [hh] at hmb
    have hmb : F_X3_mayBe h ga (nI (eN g - 1 - t)) (nI (wh m l)) = some (nI 0) := hmb
    refine ⟨h, A, B, ?_, o, Fr.rf, fun t' l' q1 q2 => ⟨fun q => ?_, fun q => (ft t' l' q1 q2).2 (by omega)⟩⟩
    · simp (disch := omega) only [s_X2_countFrom_50, b_X2_countFrom_50, nS, cS c, gS cg, hmb]
    · by_cases hc : t' < t ∨ (t' = t ∧ l' < l)
      · exact (ft t' l' q1 q2).1 hc
      · have k1 : t' = t := by omega
        have k2 : l' = l := by omega
        subst k1 k2
        have := (ft t' l' q1 q2).2 hc
        have f1 : fr m g t' l' = 0 := by
          cases t' with
          | zero => unfold fr; rw [show eN g - 1 = eN g - 1 - 0 by omega, hh]; rfl
          | succ t' => unfold fr; rw [hh]; rfl
        have f2 : fs m g t' l' = 1000000 := by
          cases t' with
          | zero => unfold fs; rw [show eN g - 1 = eN g - 1 - 0 by omega, hh]; rfl
          | succ t' => unfold fs; rw [hh]; rfl
        rw [f1, f2]
        exact this
  | true =>
    rw [hh] at hmb
    have hmb : F_X3_mayBe h ga (nI (eN g - 1 - t)) (nI (wh m l)) = some (nI 1) := hmb
    have e63 := fr_63 ok (g := g) hl (show t < 12 by omega)
    have efs := fs_le m g t l
    -- what comes behind
    have hbeh : F_X2_behind h a b ga (nI (eN g - 1 - t)) (nI l) = some (lN (fr m g t l)) := by
      cases t with
      | zero =>
        have f1 : fr m g 0 l = 1 := by unfold fr; rw [show eN g - 1 = eN g - 1 - 0 by omega, hh]; rfl
        rw [f1]
        simp (disch := omega) only [F_X2_behind, nS, lS, gS cg]
      | succ t =>
        have f1 : fr m g (t + 1) l = sm (fun k => fr m g t (gg m l k)) (fn m l) := by
          show (if hd m g (eN g - 1 - (t + 1)) l = true then sm (fun k => fr m g t (gg m l k)) (fn m l) else 0) = sm (fun k => fr m g t (gg m l k)) (fn m l)
          exact if_pos hh
        rw [f1]
        have lp : q_lp (s_X2_behind_18 h a b (nI (eN g - 1 - (t + 1))) (nI l)) q_N (lN 0, nI 0) = some (lN (sm (fun k => fr m g t (gg m l k)) (fn m l))) := by
          refine q_lp_for (fun k => (lN (sm (fun k => fr m g t (gg m l k)) k), nI k)) (fn m l) (fun k hk => ?_) ?_ q_N (q_lt_N (by omega))
          · have hgl := gg_lt ok hl hk
            have e := ((ft t (gg m l k) (by omega) hgl).1 (Or.inl (by omega))).1
            rw [show eN g - 1 - t = eN g - 1 - (t + 1) + 1 by omega] at e
            have ea := c_at0 o (v := eN g - 1 - (t + 1) + 1) (l := gg m l k) (by omega) (by omega)
            rw [e] at ea
            show _ = some (Sum.inl (lN (sm (fun k => fr m g t (gg m l k)) k + fr m g t (gg m l k)), nI (k + 1)))
            simp (disch := omega) only [s_X2_behind_18, b_X2_behind_18, nS, lS, cS c, X2_rd o, ea]
          · simp (disch := omega) only [s_X2_behind_18, b_X2_behind_18, nS, cS c]
        simp (disch := omega) only [F_X2_behind, nS, lS, gS cg, lp]
    obtain ⟨h1, e1, o1, r1⟩ := X2_s0 o (i := (eN g - 1 - t) * 20 + l) (lN (fr m g t l)) (by omega)
    have c1 : CB h1 b m := c.kept (fun q q1 q2 => r1 q (by omega))
    have cg1 : CG h1 ga g := cg.kept (fun q q1 q2 => r1 q (by omega))
    have hfew : F_X2_fewestBehind h1 a b ga (nI (eN g - 1 - t)) (nI l) = some (nI (fs m g t l)) := by
      cases t with
      | zero =>
        have f1 : fs m g 0 l = 0 := by unfold fs; rw [show eN g - 1 = eN g - 1 - 0 by omega, hh]; rfl
        rw [f1]
        simp (disch := omega) only [F_X2_fewestBehind, nS, gS cg1]
      | succ t =>
        have f1 : fs m g (t + 1) l = mn (fun k => fs m g t (gg m l k) + sty k) (fn m l) := by
          show (if hd m g (eN g - 1 - (t + 1)) l = true then mn (fun k => fs m g t (gg m l k) + sty k) (fn m l) else 1000000) = mn (fun k => fs m g t (gg m l k) + sty k) (fn m l)
          exact if_pos hh
        rw [f1]
        have lp : q_lp (s_X2_fewestBehind_19 h1 a b (nI (eN g - 1 - (t + 1))) (nI l)) q_N (nI 1000000, nI 0) = some (nI (mn (fun k => fs m g t (gg m l k) + sty k) (fn m l))) := by
          refine q_lp_for (fun k => (nI (mn (fun k => fs m g t (gg m l k) + sty k) k), nI k)) (fn m l) (fun k hk => ?_) ?_ q_N (q_lt_N (by omega))
          · have hgl := gg_lt ok hl hk
            have e := ((ft t (gg m l k) (by omega) hgl).1 (Or.inl (by omega))).2
            rw [show eN g - 1 - t = eN g - 1 - (t + 1) + 1 by omega] at e
            have b1 := mn_le (fun k => fs m g t (gg m l k) + sty k) k
            have b2 := fs_le m g t (gg m l k)
            have b3 := sty_le k
            rw [show (nI (mn (fun k => fs m g t (gg m l k) + sty k) (k + 1))) = nI (min (mn (fun k => fs m g t (gg m l k) + sty k) k) (fs m g t (gg m l k) + sty k)) from rfl]
            generalize mn (fun k => fs m g t (gg m l k) + sty k) k = M at b1
            rcases Nat.lt_or_ge (fs m g t (gg m l k) + sty k) M with h3 | h3
            · rw [Nat.min_eq_right (by omega)]
              simp (disch := omega) only [s_X2_fewestBehind_19, b_X2_fewestBehind_19, nS, cS c1, X2_rd o1, e, F_J9_min_7cf53, ← show sty k = (if k = 0 then 0 else 1) from rfl]
            · rw [Nat.min_eq_left (by omega)]
              simp (disch := omega) only [s_X2_fewestBehind_19, b_X2_fewestBehind_19, nS, cS c1, X2_rd o1, e, F_J9_min_7cf53, ← show sty k = (if k = 0 then 0 else 1) from rfl]
          · simp (disch := omega) only [s_X2_fewestBehind_19, b_X2_fewestBehind_19, nS, cS c1]
        simp (disch := omega) only [F_X2_fewestBehind, nS, gS cg1, lp]
    obtain ⟨h2, e2, o2, r2⟩ := X2_s2 o1 (i := (eN g - 1 - t) * 20 + l) (nI (fs m g t l)) (by omega)
    refine ⟨h2, _, _, ?_, o2, r1.tr r2, fun t' l' q1 q2 => ?_⟩
    · simp (disch := omega) only [s_X2_countFrom_50, b_X2_countFrom_50, nS, cS c, gS cg, hmb, X2_rd o, hbeh, e1, X2_rd o1, hfew, e2]
    · rw [upF_self, upF_self]
      by_cases hix : (eN g - 1 - t') * 20 + l' = (eN g - 1 - t) * 20 + l
      · have k1 : t' = t := by omega
        have k2 : l' = l := by omega
        subst k1 k2
        exact ⟨fun _ => ⟨pk_uLs, pk_us⟩, fun q => absurd (Or.inr ⟨rfl, by omega⟩) q⟩
      · rw [pk_uLn hix, pk_un hix]
        refine ⟨fun q => (ft t' l' q1 q2).1 ?_, fun q => (ft t' l' q1 q2).2 (by omega)⟩
        by_cases hc : t' = t ∧ l' = l
        · exact absurd (by rw [hc.1, hc.2]) hix
        · omega
theorem c_countFrom (o : OB h a 2 fiL A B I J) (c : CB h b m) (hdd : b + 12 ≤ a ∨ a + 4 ≤ b) (cg : CG h ga g) (hg : ga + 2 ≤ a ∨ a + 4 ≤ ga) : ∃ h' A' B', F_X2_countFrom h a b ga = some h' ∧ OB h' a 2 fiL A' B' I J ∧ Fr h h' a (a + 4) ∧ FT m g (B' 0) (A' 2) (eN g) 0 ∧ ((eN g = 0 ∨ mbL m = 0) → B' 0 0 = lN 0) := by
  have ok := c.1
  have hL := L_le ok
  have hN := (lv_ok cg.1).2
  have ck : ∀ {h'}, Fr h h' a (a + 4) → CB h' b m := fun r => c.kept (fun q q1 q2 => r q (by omega))
  have cgk : ∀ {h'}, Fr h h' a (a + 4) → CG h' ga g := fun r => cg.kept (fun q q1 q2 => r q (by omega))
  obtain ⟨h1, e1, A1, B1, o1, r1, z1⟩ := q_lp1 (step := s_X2_countFrom_2 a b ga) (fun i h' => ∃ A' B', OB h' a 2 fiL A' B' I J ∧ Fr h h' a (a + 4) ∧ ∀ j, j < i → B' 0 j = lN 0 ∧ A' 2 j = nI 1000000) 240 0 (by omega)
    (fun i h1 hi ⟨A1, B1, o1, r1, z1⟩ => by
      obtain ⟨h2, e2, o2, r2⟩ := X2_s0 o1 (i := i) (lN 0) hi
      obtain ⟨h3, e3, o3, r3⟩ := X2_s2 o2 (i := i) (nI 1000000) hi
      refine ⟨h3, ?_, _, _, o3, (r1.tr r2).tr r3, fun j hj => ?_⟩
      · simp (disch := omega) only [s_X2_countFrom_2, b_X2_countFrom_2, nS, lS, Nat.add_zero, X2_rd o1, e2, X2_rd o2, e3]
      · rw [upF_self, upF_self]
        by_cases hji : j = i
        · subst hji; exact ⟨pk_uLs, pk_us⟩
        · rw [pk_uLn hji, pk_un hji]; exact z1 j (by omega))
    (fun h1 _ => by simp (disch := omega) only [s_X2_countFrom_2, b_X2_countFrom_2, nS, Nat.add_zero])
    (h := h) ⟨A, B, o, Fr.rf, fun l hl => by omega⟩
  have ft0 : FT m g (B1 0) (A1 2) 0 0 := fun t' l' q1 q2 => ⟨fun q => by omega, fun _ => z1 _ (by omega)⟩
  rcases Nat.eq_zero_or_pos (eN g) with hn0 | hn0
  · refine ⟨h1, A1, B1, ?_, o1, r1, by rw [hn0]; exact ft0, fun _ => (z1 0 (by omega)).1⟩
    have lp : q_lp (s_X2_countFrom_37 a b ga) q_N (m1, h1) = some h1 := by
      refine q_lp_stop (n := 999999) ?_
      simp (disch := omega) only [s_X2_countFrom_37, b_X2_countFrom_37, nS]
    have eg := gS (cgk r1)
    rw [hn0] at eg
    simp (disch := omega) only [F_X2_countFrom, nS, e1, eg, lp]
  have lp : ∃ h', q_lp (s_X2_countFrom_37 a b ga) q_N (nI (eN g - 1), h1) = some h' ∧ ∃ A' B', OB h' a 2 fiL A' B' I J ∧ Fr h h' a (a + 4) ∧ FT m g (B' 0) (A' 2) (eN g) 0 ∧ (mbL m = 0 → B' 0 0 = lN 0) := by
    rw [← dI_0 (eN g - 1)]
    refine q_lp_idx (fun t s => s.1 = dI (eN g - 1) t ∧ ∃ A' B', OB s.2 a 2 fiL A' B' I J ∧ Fr h s.2 a (a + 4) ∧ FT m g (B' 0) (A' 2) t 0 ∧ (mbL m = 0 → B' 0 0 = lN 0)) (eN g) _ ?_ ?_ q_N (dI (eN g - 1) 0, h1) ⟨rfl, A1, B1, o1, r1, ft0, fun _ => (z1 0 (by omega)).1⟩ (q_lt_N (by omega))
    · rintro t ⟨x1, hh⟩ ht ⟨hx1, A2, B2, o2, r2, ft2, y2⟩
      dsimp only at hx1 o2 r2
      rw [dI_in (by omega)] at hx1
      subst hx1
      obtain ⟨h3, e3, A3, B3, o3, r3, ft3, y3⟩ := q_lp1 (step := s_X2_countFrom_50 a b ga (nI (eN g - 1 - t))) (fun l h' => ∃ A' B', OB h' a 2 fiL A' B' I J ∧ Fr h h' a (a + 4) ∧ FT m g (B' 0) (A' 2) t l ∧ (mbL m = 0 → B' 0 0 = lN 0)) (mbL m) 0 (by omega)
        (fun l h1 hl ⟨A1, B1, o1, r1, ft1, _⟩ => by
          obtain ⟨h2, A2, B2, e2, o2, r2, ft2⟩ := c_cell o1 (ck r1) hdd (cgk r1) hg ht hl ft1
          exact ⟨h2, e2, A2, B2, o2, r1.tr r2, ft2, fun q => by omega⟩)
        (fun h1 ⟨A1, B1, o1, r1, _⟩ => by simp (disch := omega) only [s_X2_countFrom_50, b_X2_countFrom_50, nS, Nat.add_zero, cS (ck r1)])
        (h := hh) ⟨A2, B2, o2, r2, ft2, y2⟩
      refine ⟨(dI (eN g - 1) (t + 1), h3), ?_, rfl, A3, B3, o3, r3, fun t' l' q1 q2 => ⟨fun q => (ft3 t' l' q1 q2).1 (by omega), fun q => (ft3 t' l' q1 q2).2 (by omega)⟩, y3⟩
      simp (disch := omega) only [s_X2_countFrom_37, b_X2_countFrom_37, nS, e3, dI_go (show t ≤ eN g - 1 by omega)]
    · rintro ⟨x1, hh⟩ ⟨hx1, A2, B2, o2, r2, ft2, y2⟩
      dsimp only at hx1 o2 r2
      have := dI_end (eN g - 1)
      rw [show eN g - 1 + 1 = eN g by omega] at this
      rw [this] at hx1
      subst hx1
      refine ⟨hh, ?_, A2, B2, o2, r2, ft2, y2⟩
      simp (disch := omega) only [s_X2_countFrom_37, b_X2_countFrom_37, nS]
  obtain ⟨h2, e2, A2, B2, o2, r2, ft2, y2⟩ := lp
  refine ⟨h2, A2, B2, ?_, o2, r2, ft2, fun q => y2 (by omega)⟩
  simp (disch := omega) only [F_X2_countFrom, nS, e1, gS (cgk r1), e2]
end FTC
