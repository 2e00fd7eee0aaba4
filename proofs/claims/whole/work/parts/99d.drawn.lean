/-! ===== call: drawn ===== -/
def dv (x : Int32) : Nat := x.toBitVec.toNat / 65536
theorem dv_lt (x : Int32) : dv x < 65536 := by
  unfold dv
  have := x.toBitVec.isLt
  omega
theorem dv_eq (x : Int32) : q_ushr x (nI 16) = nI (dv x) := by
  apply Int32.toBitVec_inj.mp
  apply BitVec.eq_of_toNat_eq
  have := dv_lt x
  unfold q_ushr
  rw [pk_ushr x (nI 16) 16 (by decide), nI_bv, BitVec.toNat_ofNat, Nat.mod_eq_of_lt (by omega)]
  rfl
def nsd (g : Int32) : Int32 := g * nI 1103515245 + nI 12345
def pfD (m : MB) (d : Nat) (x : Option Nat) (s : SS) : SS := (pf m d x s).getD s
def d1 (m : MB) (s : SS) (N : Nat) (K : Nat → Nat) : Bool × SS :=
  if N < 3 then (false, pfD m 0 (du m s.1) s)
  else if N = 3 then (match s.1 with
    | none => (false, s)
    | some l => if fn m l = 0 then (false, s) else (true, pfD m 0 (some (gg m l (K (fn m l)))) s))
  else if N = 4 then (false, pfD m 3 none s)
  else if N = 5 then (false, pfD m 4 none s)
  else if N = 6 then (false, pfD m 6 none s)
  else (true, pfD m (if tb (s.2 9) (K 6) = 1 then 1 else 2) (some (K 6)) s)
/-- the drawing as two functions of which no more is known -/
def DD (D : Int32 → Nat → Nat) (N : Int32 → Int32) : Prop := (∀ g, N g = nsd g) ∧ ∀ g k, D g k = dv (nsd g) % k
theorem DD.lt {D : Int32 → Nat → Nat} {N : Int32 → Int32} (hD : DD D N) (g : Int32) {k : Nat} (hk : 0 < k) : D g k < k := by
  rw [hD.2]
  exact Nat.mod_lt _ hk
theorem DD.some : ∃ D N, DD D N := ⟨fun g k => dv (nsd g) % k, nsd, fun _ => rfl, fun _ _ => rfl⟩
def dd (D : Int32 → Nat → Nat) (N : Int32 → Int32) (m : MB) (q : SS × Int32) : SS × Int32 := ((d1 m q.1 (D q.2 8) (D (N q.2))).2, if (d1 m q.1 (D q.2 8) (D (N q.2))).1 then N (N q.2) else N q.2)
def dn (D : Int32 → Nat → Nat) (N : Int32 → Int32) (m : MB) (g : Int32) : Nat → SS × Int32
  | 0 => (sz, g)
  | n + 1 => dd D N m (dn D N m g n)
theorem pfD_ok {m : MB} (ok : MBok m) {d n : Nat} {x : Option Nat} {s : SS} (w : WS m n s) (hx : d = 1 ∨ d = 2 → ∃ p, p < 6 ∧ x = some p) : WS m (n + 1) (pfD m d x s) := by
  unfold pfD
  cases hp : pf m d x s with
  | none => exact w.s1
  | some s' => exact pf_ok ok w hx hp
theorem d1_ok {m : MB} (ok : MBok m) {n : Nat} {s : SS} (w : WS m n s) (N : Nat) {K : Nat → Nat} (hK : K 6 < 6) : WS m (n + 1) (d1 m s N K).2 := by
  unfold d1
  split
  · exact pfD_ok ok w (fun q => by omega)
  · split
    · split
      · exact w.s1
      · split
        · exact w.s1
        · exact pfD_ok ok w (fun q => by omega)
    · split
      · exact pfD_ok ok w (fun q => by omega)
      · split
        · exact pfD_ok ok w (fun q => by omega)
        · split
          · exact pfD_ok ok w (fun q => by omega)
          · exact pfD_ok ok w (fun _ => ⟨_, hK, rfl⟩)
theorem dd_ok {D : Int32 → Nat → Nat} {N : Int32 → Int32} (hD : DD D N) {m : MB} (ok : MBok m) {n : Nat} {q : SS × Int32} (w : WS m n q.1) : WS m (n + 1) (dd D N m q).1 := d1_ok ok w _ (hD.lt _ (by omega))
theorem dn_ok {D : Int32 → Nat → Nat} {N : Int32 → Int32} (hD : DD D N) {m : MB} (ok : MBok m) (g : Int32) : ∀ n, WS m n (dn D N m g n).1 := by
  intro n
  induction n with
  | zero => exact sz_ok m
  | succ n ih => exact dd_ok hD ok ih
section DRC
variable {h h0 : qH} {a b n : Nat} {m : MB} {B : Nat → Nat → Int64} {J : Nat → Int64} {s : SS} {g : Int32}
def CSg (h0 h : qH) (a : Nat) (B : Nat → Nat → Int64) (J : Nat → Int64) (s : SS) (g : Int32) : Prop := ∃ A I, OB h a 8 stL A B I J ∧ Fr h0 h a (a + 3) ∧ SX A I s ∧ I 10 = g
theorem CSg.cs (c : CSg h0 h a B J s g) : CS h0 h a B J s := by
  obtain ⟨A, I, o, r, x, -⟩ := c
  exact ⟨A, I, o, r, x⟩
theorem c_draw {D : Int32 → Nat → Nat} {N : Int32 → Int32} (hD : DD D N) (cs : CSg h0 h a B J s g) {k : Nat} (hk0 : 0 < k) (hk : k ≤ 20) : ∃ h', F_X8_draw h a (nI k) = some (nI (D g k), h') ∧ CSg h0 h' a B J s (N g) := by
  rw [hD.1, hD.2]
  obtain ⟨A, I, o, r, sx, e10⟩ := cs
  obtain ⟨h1, e1, o1, r1⟩ := X8_p10 o (nsd g)
  have hd := dv_lt (nsd g)
  refine ⟨h1, ?_, A, _, o1, r.tr r1, ?_, by simp (disch := omega) only [uS]⟩
  · have e10' : upd I 10 (nsd g) 10 = nsd g := by simp (disch := omega) only [uS]
    have e1' : q_put h a 8 10 (.int (g * nI 1103515245 + nI 12345)) = some h1 := e1
    simp (disch := omega) only [F_X8_draw, nS, X8_rd o, e10, e1', X8_rd o1, e10', n_nz hk0 (show k < 2 ^ 31 by omega), dv_eq]
  · obtain ⟨s3, s2, s4, s5, s6, s7, s8, s9, sa, sb⟩ := sx
    exact ⟨by simp (disch := omega) only [uS]; exact s3, by simp (disch := omega) only [uS]; exact s2, by simp (disch := omega) only [uS]; exact s4, by simp (disch := omega) only [uS]; exact s5, by simp (disch := omega) only [uS]; exact s6, by simp (disch := omega) only [uS]; exact s7, by simp (disch := omega) only [uS]; exact s8, by simp (disch := omega) only [uS]; exact s9, sa, sb⟩
theorem c_per (cs : CSg h0 h a B J s g) (c : CB h b m) (hd : b + 12 ≤ a ∨ a + 3 ≤ b) (w : WS m n s) (hn : n < 100) {d : Nat} (hd6 : d < 7) {x : Option Nat} (hx : ∀ l, x = some l → l < 2 ^ 31) (hx2 : d = 1 ∨ d = 2 → ∃ p, p < 6 ∧ x = some p) : ∃ r h', F_X8_perform h a b (nI d) (oI x) = some (r, h') ∧ CSg h0 h' a B J (pfD m d x s) g := by
  obtain ⟨A, I, o, r, sx, e10⟩ := cs
  rcases c_pf o sx c hd w hn hd6 hx hx2 with ⟨s', hs, h', A', I', e', o', r', x', q'⟩ | ⟨hs, e'⟩
  · refine ⟨_, h', e', A', I', o', r.tr r', ?_, q'.trans e10⟩
    unfold pfD; rw [hs]; exact x'
  · refine ⟨_, h, e', A, I, o, r, ?_, e10⟩
    unfold pfD; rw [hs]; exact sx
theorem c_drawDeed {D : Int32 → Nat → Nat} {Nx : Int32 → Int32} (hD : DD D Nx) (cs : CSg h0 h a B J s g) (c : CB h0 b m) (hd : b + 12 ≤ a ∨ a + 3 ≤ b) (w : WS m n s) (hn : n < 100) : ∃ h', F_X8_drawDeed h a b = some h' ∧ CSg h0 h' a B J (dd D Nx m (s, g)).1 (dd D Nx m (s, g)).2 := by
  have ok := c.1
  have hL := L_le ok
  have ck : ∀ {h' s g}, CSg h0 h' a B J s g → CB h' b m := fun cs => c.kept (fun q q1 q2 => cs.cs.xb.2.1 q (by omega))
  have hdok := du_ok ok w.1
  obtain ⟨h1, e1, cs1⟩ := c_draw hD cs (k := 8) (by omega) (by omega)
  have draw2 := fun k (q1 : 0 < k) (q2 : k ≤ 20) => c_draw hD cs1 (k := k) q1 q2
  have hK : ∀ k, 0 < k → D (Nx g) k < k := fun k hk => hD.lt _ hk
  have ob0 := cs.cs.xb.2.2
  have ob1 := cs1.cs.xb.2.2
  have hm8 : D g 8 < 8 := hD.lt g (by omega)
  show ∃ h', F_X8_drawDeed h a b = some h' ∧ CSg h0 h' a B J (d1 m s (D g 8) (D (Nx g))).2 (if (d1 m s (D g 8) (D (Nx g))).1 then Nx (Nx g) else Nx g)
  generalize D (Nx g) = K at hK draw2 ⊢
  generalize Nx (Nx g) = g2 at draw2 ⊢
  generalize D g 8 = N at e1 hm8 ⊢
  generalize Nx g = g1 at cs1 ⊢
  have to23 : N ≠ 7 → F_X8_drawDeed h a b = j_X8_drawDeed_23 h1 a b (nI N) m1 := by
    intro hN
    unfold F_X8_drawDeed
    rw [ob0, Option.bind_some, n_lit 8, e1, Option.bind_some]
    dsimp only
    rw [if_neg (show ¬ nI N = (7 : Int32) from fun q => hN ((nI_eq (b := 7) (by omega) (by omega)).mp q))]
    rfl
  rcases (show N < 3 ∨ N = 3 ∨ N = 4 ∨ N = 5 ∨ N = 6 ∨ N = 7 by omega) with hh | hh | hh | hh | hh | hh
  · have hd1 : d1 m s N K = (false, pfD m 0 (du m s.1) s) := if_pos hh
    rw [hd1, to23 (by omega)]
    have hdue : F_X8_due h1 a b = some (oI (du m s.1)) := by
      obtain ⟨A, I, o, r, sx, -⟩ := cs1
      exact c_due o sx (ck ⟨A, I, o, r, sx, rfl⟩) w.1
    obtain ⟨r2, h2, e2, cs2⟩ := c_per cs1 (ck cs1) hd w hn (d := 0) (by omega) (okL_31 ok hdok) (fun q => by omega)
    refine ⟨h2, ?_, cs2⟩
    unfold j_X8_drawDeed_23
    have ne : ∀ k, 3 ≤ k → k < 10 → ¬ nI N = nI k := fun k q1 q2 q => by have := (nI_eq (by omega) (by omega)).mp q; omega
    rw [if_neg (show ¬ nI N = (3 : Int32) from ne 3 (by omega) (by omega)), if_neg (show ¬ nI N = (4 : Int32) from ne 4 (by omega) (by omega)), if_neg (show ¬ nI N = (5 : Int32) from ne 5 (by omega) (by omega)), if_neg (show ¬ nI N = (6 : Int32) from ne 6 (by omega) (by omega)), if_neg (show ¬ nI N = (7 : Int32) from ne 7 (by omega) (by omega))]
    simp only [nS, ob1, hdue, e2]
  · subst hh
    rw [to23 (by omega)]
    have e3 : q_fI h1 a 8 3 = some (oI s.1) := by
      obtain ⟨A, I, o, r, sx, -⟩ := cs1
      rw [o.fI (k := 3) rfl, sx.1]
    have c1 := ck cs1
    have j3 : j_X8_drawDeed_23 h1 a b (nI 3) m1 = (q_ob h1 a 8).bind fun _ => (F_X8_drawFollower h1 a b).bind fun x4 => (q_ob x4.2 a 8).bind fun _ => (F_X8_perform x4.2 a b (nI 0) x4.1).bind fun x8 => some x8.2 := by
      unfold j_X8_drawDeed_23
      rw [if_pos (show nI 3 = 3 from rfl)]
      rfl
    rw [j3]
    have none_case : F_X0_howManyFollow h1 b (oI s.1) = some (nI 0) → ∃ h', ((q_ob h1 a 8).bind fun _ => (F_X8_drawFollower h1 a b).bind fun x4 => (q_ob x4.2 a 8).bind fun _ => (F_X8_perform x4.2 a b (nI 0) x4.1).bind fun x8 => some x8.2) = some h' ∧ CSg h0 h' a B J s g1 := by
      intro hc
      obtain ⟨r2, h2, e2, cs2⟩ := c_per cs1 c1 hd w hn (d := 0) (x := none) (by omega) (fun l hl => by cases hl) (fun q => by omega)
      rw [oI_none] at e2
      refine ⟨h2, ?_, cs2⟩
      have ef : F_X8_drawFollower h1 a b = some (m1, h1) := by
        simp (disch := omega) only [F_X8_drawFollower, nS, e3, c1.ob, hc]
      simp only [nS, ob1, ef, e2]
    cases hla : s.1 with
    | none =>
      have hd1 : d1 m s 3 K = (false, s) := by
        unfold d1
        rw [if_neg (by omega), if_pos rfl, hla]
      rw [hd1]
      refine none_case ?_
      rw [hla, oI_none]
      simp (disch := omega) only [cS c1]
    | some l =>
      have hl := w.1 l hla
      have hf := fn_le ok hl
      by_cases h0 : fn m l = 0
      · have hd1 : d1 m s 3 K = (false, s) := by
          unfold d1
          rw [if_neg (by omega), if_pos rfl, hla]
          dsimp only
          rw [if_pos h0]
        rw [hd1]
        refine none_case ?_
        rw [hla, oI_some]
        simp (disch := omega) only [cS c1, h0]
      · have hd1 : d1 m s 3 K = (true, pfD m 0 (some (gg m l (K (fn m l)))) s) := by
          unfold d1
          rw [if_neg (by omega), if_pos rfl, hla]
          dsimp only
          rw [if_neg h0]
        rw [hd1]
        rw [hla, oI_some] at e3
        obtain ⟨h2, e2, cs2⟩ := draw2 (fn m l) (by omega) hf
        have hml := hK (fn m l) (by omega)
        have hg := gg_lt ok hl hml
        have c2 := ck cs2
        have ob2 := cs2.cs.xb.2.2
        obtain ⟨r3, h3, e3', cs3⟩ := c_per cs2 c2 hd w hn (d := 0) (x := some (gg m l (K (fn m l)))) (by omega) (fun l' hl' => by cases hl'; omega) (fun q => by omega)
        rw [oI_some] at e3'
        refine ⟨h3, ?_, cs3⟩
        have ef : F_X8_drawFollower h1 a b = some (nI (gg m l (K (fn m l))), h2) := by
          simp (disch := omega) only [F_X8_drawFollower, nS, e3, cS c1, ob1, e2, cS c2]
        simp only [nS, ob1, ef, ob2, e3']
  · subst hh
    have hd1 : d1 m s 4 K = (false, pfD m 3 none s) := rfl
    rw [hd1, to23 (by omega)]
    obtain ⟨r2, h2, e2, cs2⟩ := c_per cs1 (ck cs1) hd w hn (d := 3) (x := none) (by omega) (fun l hl => by cases hl) (fun q => by omega)
    rw [oI_none] at e2
    refine ⟨h2, ?_, cs2⟩
    unfold j_X8_drawDeed_23
    rw [if_neg (by decide), if_pos (by decide)]
    simp only [nS, ob1, e2]
  · subst hh
    have hd1 : d1 m s 5 K = (false, pfD m 4 none s) := rfl
    rw [hd1, to23 (by omega)]
    obtain ⟨r2, h2, e2, cs2⟩ := c_per cs1 (ck cs1) hd w hn (d := 4) (x := none) (by omega) (fun l hl => by cases hl) (fun q => by omega)
    rw [oI_none] at e2
    refine ⟨h2, ?_, cs2⟩
    unfold j_X8_drawDeed_23
    rw [if_neg (by decide), if_neg (by decide), if_pos (by decide)]
    simp only [nS, ob1, e2]
  · subst hh
    have hd1 : d1 m s 6 K = (false, pfD m 6 none s) := rfl
    rw [hd1, to23 (by omega)]
    obtain ⟨r2, h2, e2, cs2⟩ := c_per cs1 (ck cs1) hd w hn (d := 6) (x := none) (by omega) (fun l hl => by cases hl) (fun q => by omega)
    rw [oI_none] at e2
    refine ⟨h2, ?_, cs2⟩
    unfold j_X8_drawDeed_23
    rw [if_neg (by decide), if_neg (by decide), if_neg (by decide), if_pos (by decide)]
    simp only [nS, ob1, e2]
  · subst hh
    have hd1 : d1 m s 7 K = (true, pfD m (if tb (s.2 9) (K 6) = 1 then 1 else 2) (some (K 6)) s) := rfl
    rw [hd1]
    obtain ⟨h2, e2, cs2⟩ := draw2 6 (by omega) (by omega)
    have hm6 := hK 6 (by omega)
    have ob2 := cs2.cs.xb.2.2
    generalize K 6 = K6 at e2 hm6 ⊢
    have hin : F_X8_isIn h2 a (nI K6) = some (nI (tb (s.2 9) K6)) := by
      obtain ⟨A, I, o, r, sx, -⟩ := cs2
      exact c_isIn o sx w.2.2 hm6
    have htb := tb_le (s.2 9) K6
    have j7 : F_X8_drawDeed h a b = (if nI (tb (s.2 9) K6) = nI 0 then (F_X8_perform h2 a b (nI 2) (nI K6)).bind (fun x33 => some x33.2) else (F_X8_perform h2 a b (nI 1) (nI K6)).bind fun x37 => some x37.2) := by
      unfold F_X8_drawDeed
      rw [ob0, Option.bind_some, n_lit 8, e1, Option.bind_some]
      dsimp only
      rw [if_pos (by decide), ob1, Option.bind_some, n_lit 6, e2, Option.bind_some]
      dsimp only
      unfold j_X8_drawDeed_23
      rw [if_neg (by decide), if_neg (by decide), if_neg (by decide), if_neg (by decide), if_pos (by decide), ob2, Option.bind_some, hin, Option.bind_some, Option.bind_some, Option.bind_some]
      rfl
    rw [j7]
    by_cases h1' : tb (s.2 9) K6 = 1
    · rw [if_pos h1', h1', if_neg (by decide)]
      obtain ⟨r3, h3, e3, cs3⟩ := c_per cs2 (ck cs2) hd w hn (d := 1) (x := some K6) (by omega) (fun l' hl' => by cases hl'; omega) (fun _ => ⟨K6, hm6, rfl⟩)
      rw [oI_some] at e3
      exact ⟨h3, by rw [e3]; rfl, cs3⟩
    · rw [if_neg h1', show tb (s.2 9) K6 = 0 by omega, if_pos rfl]
      obtain ⟨r3, h3, e3, cs3⟩ := c_per cs2 (ck cs2) hd w hn (d := 2) (x := some K6) (by omega) (fun l' hl' => by cases hl'; omega) (fun _ => ⟨K6, hm6, rfl⟩)
      rw [oI_some] at e3
      exact ⟨h3, by rw [e3]; rfl, cs3⟩
theorem c_playDrawn {D : Int32 → Nat → Nat} {Nx : Int32 → Int32} (hD : DD D Nx) {A : Nat → Nat → Int32} {I : Nat → Int32} (o : OB h a 8 stL A B I J) (c : CB h b m) (hd : b + 12 ≤ a ∨ a + 3 ≤ b) (g : Int32) {N : Nat} (hN : N ≤ 60) : ∃ h', F_X8_playDrawn h a b g (nI N) = some h' ∧ CS h h' a B J (dn D Nx m g N).1 := by
  have ok := c.1
  obtain ⟨h1, A1, I1, e1, o1, r1, x1, -⟩ := c_begin o
  obtain ⟨h2, e2, o2, r2⟩ := X8_p10 o1 g
  have cs2 : CSg h h2 a B J sz g := by
    refine ⟨A1, _, o2, r1.tr r2, ?_, by simp (disch := omega) only [uS]⟩
    obtain ⟨s3, s2, s4, s5, s6, s7, s8, s9, sa, sb⟩ := x1
    exact ⟨by simp (disch := omega) only [uS]; exact s3, by simp (disch := omega) only [uS]; exact s2, by simp (disch := omega) only [uS]; exact s4, by simp (disch := omega) only [uS]; exact s5, by simp (disch := omega) only [uS]; exact s6, by simp (disch := omega) only [uS]; exact s7, by simp (disch := omega) only [uS]; exact s8, by simp (disch := omega) only [uS]; exact s9, sa, sb⟩
  obtain ⟨h3, e3, cs3⟩ := q_lp1 (step := s_X8_playDrawn_12 a b (nI N)) (fun i h' => CSg h h' a B J (dn D Nx m g i).1 (dn D Nx m g i).2) N 0 (by omega)
    (fun i h1 hi cs => by
      obtain ⟨h2, e2, cs2⟩ := c_drawDeed hD cs c hd (dn_ok hD ok g i) (by omega)
      refine ⟨h2, ?_, cs2⟩
      have ob := cs.cs.xb.2.2
      simp (disch := omega) only [s_X8_playDrawn_12, b_X8_playDrawn_12, nS, Nat.add_zero, ob, e2])
    (fun h1 _ => by simp (disch := omega) only [s_X8_playDrawn_12, b_X8_playDrawn_12, nS, Nat.add_zero])
    (h := h2) cs2
  refine ⟨h3, ?_, cs3.cs⟩
  simp (disch := omega) only [F_X8_playDrawn, nS, o.ob, e1, e2, e3]
end DRC
section DRD
variable {h h0 : qH} {a n : Nat} {A0 : Nat → Nat → Int32} {B : Nat → Nat → Int64} {I0 : Nat → Int32} {J : Nat → Int64} {b : Nat → Int32} {k : Nat} {s : SS} {g : Int32}
def DSg (h0 h : qH) (a : Nat) (A0 : Nat → Nat → Int32) (B : Nat → Nat → Int64) (I0 : Nat → Int32) (J : Nat → Int64) (m : MB) (s : SS) (g : Int32) : Prop := ∃ A I, OB h a 12 mdL A B I J ∧ Fr h0 h a (a + 27) ∧ On [28] A0 A ∧ On [46] I0 I ∧ RN m (A 28) s ∧ I 46 = g
theorem HB.n46 {A A' : Nat → Nat → Int32} {I I' : Nat → Int32} {b : Nat → Int32} {k : Nat} (hb : HB A I b k) (n : On [28] A A') (i : On [46] I I') : HB A' I' b k := hb.cg (n 6 (by decide)) (n 25 (by decide)) (n 26 (by decide)) (i 23 (by decide)) (i 24 (by decide))
theorem DSg.ob {m : MB} (ds : DSg h0 h a A0 B I0 J m s g) : q_ob h a 12 = some () := by
  obtain ⟨A, I, o, -⟩ := ds
  exact o.ob
theorem d_draw {D : Int32 → Nat → Nat} {N : Int32 → Int32} (hD : DD D N) {m : MB} (ds : DSg h0 h a A0 B I0 J m s g) {k : Nat} (hk0 : 0 < k) (hk : k ≤ 20) : ∃ h', F_X12_draw h a (nI k) = some (nI (D g k), h') ∧ DSg h0 h' a A0 B I0 J m s (N g) := by
  rw [hD.1, hD.2]
  obtain ⟨A, I, o, r, n1, i1, rn, e46⟩ := ds
  obtain ⟨h1, e1, o1, r1⟩ := X12_p46 o (nsd g)
  have hd := dv_lt (nsd g)
  refine ⟨h1, ?_, A, _, o1, r.tr r1, n1, i1.tr (On.ud (by decide)), rn, by simp (disch := omega) only [uS]⟩
  have e46' : upd I 46 (nsd g) 46 = nsd g := by simp (disch := omega) only [uS]
  have e1' : q_put h a 12 46 (.int (g * nI 1103515245 + nI 12345)) = some h1 := e1
  simp (disch := omega) only [F_X12_draw, nS, X12_rd o, e46, e1', X12_rd o1, e46', n_nz hk0 (show k < 2 ^ 31 by omega), dv_eq]
theorem d_per (ds : DSg h0 h a A0 B I0 J (bMB b) s g) (hb : HB A0 I0 b k) (w : WS (bMB b) n s) (hn : n < 100) {d : Nat} (hd6 : d < 7) {x : Option Nat} (hx : ∀ l, x = some l → l < 2 ^ 31) (hx2 : d = 1 ∨ d = 2 → ∃ p, p < 6 ∧ x = some p) : ∃ r h', F_X12_does h a (nI d) (oI x) = some (r, h') ∧ DSg h0 h' a A0 B I0 J (bMB b) (pfD (bMB b) d x s) g := by
  obtain ⟨A, I, o, r, n1, i1, rn, e46⟩ := ds
  rcases d_pf o (hb.n46 n1 i1) rn w hn hd6 hx hx2 with ⟨s', hs, h', A', e', o', r', n', rn'⟩ | ⟨hs, h', A', e', o', r', n', rn'⟩
  · refine ⟨_, h', e', A', I, o', r.tr r', n1.tr n', i1, ?_, e46⟩
    unfold pfD; rw [hs]; exact rn'
  · refine ⟨_, h', e', A', I, o', r.tr r', n1.tr n', i1, ?_, e46⟩
    unfold pfD; rw [hs]; exact rn'
theorem d_drawDeed {D : Int32 → Nat → Nat} {Nx : Int32 → Int32} (hD : DD D Nx) (ds : DSg h0 h a A0 B I0 J (bMB b) s g) (hb : HB A0 I0 b k) (w : WS (bMB b) n s) (hn : n < 100) : ∃ h', F_X12_drawDeed h a = some h' ∧ DSg h0 h' a A0 B I0 J (bMB b) (dd D Nx (bMB b) (s, g)).1 (dd D Nx (bMB b) (s, g)).2 := by
  have ok := bMB_ok hb.1
  have hL := L_le ok
  have hdok := du_ok ok w.1
  obtain ⟨h1, e1, ds1⟩ := d_draw hD ds (k := 8) (by omega) (by omega)
  have ob0 := ds.ob
  have ob1 := ds1.ob
  have hm8 : D g 8 < 8 := hD.lt g (by omega)
  have rd : ∀ {h' g'}, DSg h0 h' a A0 B I0 J (bMB b) s g' → q_fR h' a 12 28 = some (a + 14) ∧ q_aI h' .int (a + 14) (nI 1) = some (oI s.1) ∧ q_aI h' .int (a + 14) (nI 2) = some (oI (du (bMB b) s.1)) ∧ q_fR h' a 12 26 = some (a + 13) ∧ (∀ l, l < 20 → q_aI h' .int (a + 13) (nI l) = some (nI (fn (bMB b) l))) ∧ (∀ l j, l < 20 → j < fn (bMB b) l → F_X12_behind h' a (nI l) (nI j) = some (nI (gg (bMB b) l j))) ∧ ∀ p, p < 6 → F_X12_isThere h' a (nI p) = some (nI (tb (s.2 9) p)) := by
    intro h' g' ds'
    obtain ⟨A, I, o, r, n1, i1, rn, -⟩ := ds'
    have hb' := hb.n46 n1 i1
    obtain ⟨r1, r2, r6, rp⟩ := rn
    refine ⟨o.fR (k := 28) rfl rfl, ?_, ?_, o.fR (k := 26) rfl rfl, (d_pack o hb').2.2.1, (d_pack o hb').2.2.2.1, fun p hp => d_there o (rp 9 (by omega) (by omega) (by omega) (by omega)) w.2.2 hp⟩
    · rw [← r1]; simp (disch := omega) only [X12_rd o]
    · rw [← r2]; simp (disch := omega) only [X12_rd o]
  have draw2 := fun k (q1 : 0 < k) (q2 : k ≤ 20) => d_draw hD ds1 (k := k) q1 q2
  have hK : ∀ k, 0 < k → D (Nx g) k < k := fun k hk => hD.lt _ hk
  show ∃ h', F_X12_drawDeed h a = some h' ∧ DSg h0 h' a A0 B I0 J (bMB b) (d1 (bMB b) s (D g 8) (D (Nx g))).2 (if (d1 (bMB b) s (D g 8) (D (Nx g))).1 then Nx (Nx g) else Nx g)
  generalize D (Nx g) = K at hK draw2 ⊢
  generalize Nx (Nx g) = g2 at draw2 ⊢
  generalize D g 8 = N at e1 hm8 ⊢
  generalize Nx g = g1 at ds1 ⊢
  have rd1 := rd ds1
  have u0 : F_X12_drawDeed h a = (if (3 : Int32) ≤ nI N then (if nI N = (3 : Int32) then (q_fR h1 a 12 28).bind fun x39 => (q_aI h1 .int x39 (1 : Int32)).bind fun x41 => (if x41 = (-1 : Int32) then some h1 else (q_fR h1 a 12 26).bind fun x44 => (q_aI h1 .int x44 x41).bind fun x46 => (if x46 ≤ 0 then some h1 else (q_fR h1 a 12 26).bind fun x49 => (q_aI h1 .int x49 x41).bind fun x51 => (q_ob h1 a 12).bind fun u53 => (F_X12_draw h1 a x51).bind fun x55 => (q_ob x55.2 a 12).bind fun u57 => (F_X12_behind x55.2 a x41 x55.1).bind fun x59 => (q_ob x55.2 a 12).bind fun u61 => (F_X12_does x55.2 a (0 : Int32) x59).bind fun x63 => some x63.2)) else (if (7 : Int32) ≤ nI N then (q_ob h1 a 12).bind fun u8 => (F_X12_draw h1 a (6 : Int32)).bind fun x10 => (q_ob x10.2 a 12).bind fun u12 => (F_X12_isThere x10.2 a x10.1).bind fun x14 => (if x14 = 0 then (q_ob x10.2 a 12).bind fun u17 => (F_X12_does x10.2 a (2 : Int32) x10.1).bind fun x19 => some x19.2 else (q_ob x10.2 a 12).bind fun u21 => (F_X12_does x10.2 a (1 : Int32) x10.1).bind fun x23 => some x23.2) else (if nI N = (4 : Int32) then (q_ob h1 a 12).bind fun u35 => (F_X12_does h1 a (3 : Int32) (-1 : Int32)).bind fun x37 => some x37.2 else (if nI N = (5 : Int32) then (q_ob h1 a 12).bind fun u31 => (F_X12_does h1 a (4 : Int32) (-1 : Int32)).bind fun x33 => some x33.2 else (q_ob h1 a 12).bind fun u27 => (F_X12_does h1 a (6 : Int32) (-1 : Int32)).bind fun x29 => some x29.2)))) else (q_fR h1 a 12 28).bind fun x65 => (q_aI h1 .int x65 (2 : Int32)).bind fun x67 => (q_ob h1 a 12).bind fun u69 => (F_X12_does h1 a (0 : Int32) x67).bind fun x71 => some x71.2) := by
    unfold F_X12_drawDeed
    rw [ob0, Option.bind_some, n_lit 8, e1, Option.bind_some]
  rw [u0]
  clear u0
  rcases (show N < 3 ∨ N = 3 ∨ N = 4 ∨ N = 5 ∨ N = 6 ∨ N = 7 by omega) with hh | hh | hh | hh | hh | hh
  · have hd1 : d1 (bMB b) s N K = (false, pfD (bMB b) 0 (du (bMB b) s.1) s) := if_pos hh
    rw [hd1, if_neg (fun q => by have := (nI_leI (a := 3) (by omega) (by omega)).mp q; omega)]
    obtain ⟨r2, h2, e2, ds2⟩ := d_per ds1 hb w hn (d := 0) (by omega) (okL_31 ok hdok) (fun q => by omega)
    refine ⟨h2, ?_, ds2⟩
    simp only [nS, rd1.1, rd1.2.2.1, ob1, e2]
  · subst hh
    rw [if_pos (by decide), if_pos (by decide)]
    have e3 := rd1.2.1
    cases hla : s.1 with
    | none =>
      have hd1 : d1 (bMB b) s 3 K = (false, s) := by
        unfold d1
        rw [if_neg (by omega), if_pos rfl, hla]
      rw [hd1]
      rw [hla, oI_none] at e3
      refine ⟨h1, ?_, ds1⟩
      simp only [nS, rd1.1, e3]
    | some l =>
      have hl := w.1 l hla
      have hf := fn_le ok hl
      rw [hla, oI_some] at e3
      have e26 := rd1.2.2.2.2.1 l (by omega)
      by_cases h0 : fn (bMB b) l = 0
      · have hd1 : d1 (bMB b) s 3 K = (false, s) := by
          unfold d1
          rw [if_neg (by omega), if_pos rfl, hla]
          dsimp only
          rw [if_pos h0]
        rw [hd1]
        refine ⟨h1, ?_, ds1⟩
        simp (disch := omega) only [nS, rd1.1, e3, rd1.2.2.2.1, e26]
      · have hd1 : d1 (bMB b) s 3 K = (true, pfD (bMB b) 0 (some (gg (bMB b) l (K (fn (bMB b) l)))) s) := by
          unfold d1
          rw [if_neg (by omega), if_pos rfl, hla]
          dsimp only
          rw [if_neg h0]
        rw [hd1]
        obtain ⟨h2, e2, ds2⟩ := draw2 (fn (bMB b) l) (by omega) hf
        have hml := hK (fn (bMB b) l) (by omega)
        have hg := gg_lt ok hl hml
        have ob2 := ds2.ob
        have hbe := (rd ds2).2.2.2.2.2.1 l _ (by omega) hml
        obtain ⟨r3, h3, e3', ds3⟩ := d_per ds2 hb w hn (d := 0) (x := some (gg (bMB b) l (K (fn (bMB b) l)))) (by omega) (fun l' hl' => by cases hl'; omega) (fun q => by omega)
        rw [oI_some] at e3'
        refine ⟨h3, ?_, ds3⟩
        simp (disch := omega) only [nS, rd1.1, e3, rd1.2.2.2.1, e26, ob1, e2, ob2, hbe, e3']
  · subst hh
    have hd1 : d1 (bMB b) s 4 K = (false, pfD (bMB b) 3 none s) := rfl
    rw [hd1, if_pos (by decide), if_neg (by decide), if_neg (by decide), if_pos (by decide)]
    obtain ⟨r2, h2, e2, ds2⟩ := d_per ds1 hb w hn (d := 3) (x := none) (by omega) (fun l hl => by cases hl) (fun q => by omega)
    rw [oI_none] at e2
    refine ⟨h2, ?_, ds2⟩
    simp only [nS, ob1, e2]
  · subst hh
    have hd1 : d1 (bMB b) s 5 K = (false, pfD (bMB b) 4 none s) := rfl
    rw [hd1, if_pos (by decide), if_neg (by decide), if_neg (by decide), if_neg (by decide), if_pos (by decide)]
    obtain ⟨r2, h2, e2, ds2⟩ := d_per ds1 hb w hn (d := 4) (x := none) (by omega) (fun l hl => by cases hl) (fun q => by omega)
    rw [oI_none] at e2
    refine ⟨h2, ?_, ds2⟩
    simp only [nS, ob1, e2]
  · subst hh
    have hd1 : d1 (bMB b) s 6 K = (false, pfD (bMB b) 6 none s) := rfl
    rw [hd1, if_pos (by decide), if_neg (by decide), if_neg (by decide), if_neg (by decide), if_neg (by decide)]
    obtain ⟨r2, h2, e2, ds2⟩ := d_per ds1 hb w hn (d := 6) (x := none) (by omega) (fun l hl => by cases hl) (fun q => by omega)
    rw [oI_none] at e2
    refine ⟨h2, ?_, ds2⟩
    simp only [nS, ob1, e2]
  · subst hh
    have hd1 : d1 (bMB b) s 7 K = (true, pfD (bMB b) (if tb (s.2 9) (K 6) = 1 then 1 else 2) (some (K 6)) s) := rfl
    rw [hd1, if_pos (by decide), if_neg (by decide), if_pos (by decide)]
    obtain ⟨h2, e2, ds2⟩ := draw2 6 (by omega) (by omega)
    have hm6 := hK 6 (by omega)
    have ob2 := ds2.ob
    generalize K 6 = K6 at e2 hm6 ⊢
    have hin := (rd ds2).2.2.2.2.2.2 K6 hm6
    have htb := tb_le (s.2 9) K6
    by_cases h1' : tb (s.2 9) K6 = 1
    · rw [if_pos h1']
      rw [h1'] at hin
      obtain ⟨r3, h3, e3, ds3⟩ := d_per ds2 hb w hn (d := 1) (x := some K6) (by omega) (fun l' hl' => by cases hl'; omega) (fun _ => ⟨K6, hm6, rfl⟩)
      rw [oI_some] at e3
      refine ⟨h3, ?_, ds3⟩
      simp (disch := omega) only [nS, ob1, e2, ob2, hin, e3]
    · rw [if_neg h1']
      rw [show tb (s.2 9) K6 = 0 by omega] at hin
      obtain ⟨r3, h3, e3, ds3⟩ := d_per ds2 hb w hn (d := 2) (x := some K6) (by omega) (fun l' hl' => by cases hl'; omega) (fun _ => ⟨K6, hm6, rfl⟩)
      rw [oI_some] at e3
      refine ⟨h3, ?_, ds3⟩
      simp (disch := omega) only [nS, ob1, e2, ob2, hin, e3]
theorem d_drawnL {D : Int32 → Nat → Nat} {Nx : Int32 → Int32} (hD : DD D Nx) {A : Nat → Nat → Int32} {I : Nat → Int32} (o : OB h a 12 mdL A B I J) (hb : HB A I b k) (g : Int32) {N : Nat} (hN : N ≤ 60) (w : Int32) : ∃ h1 h2 h3, q_put h a 12 46 (.int g) = some h1 ∧ q_ob h1 a 12 = some () ∧ F_X12_begin h1 a = some h2 ∧ q_lp (s_X12_drawn_45 a (nI N) w) q_N (nI 0, h2) = some h3 ∧ DSg h h3 a A B I J (bMB b) (dn D Nx (bMB b) g N).1 (dn D Nx (bMB b) g N).2 := by
  have ok := bMB_ok hb.1
  obtain ⟨h1, e1, o1, r1⟩ := X12_p46 o g
  have hb1 : HB A (upd I 46 g) b k := hb.n46 On.rf (On.ud (by decide))
  obtain ⟨h2, A2, e2, o2, r2, n2, rn2⟩ := d_begin o1 hb1
  have ds2 : DSg h h2 a A B I J (bMB b) sz g := ⟨A2, _, o2, r1.tr r2, n2, On.ud (by decide), rn2, by simp (disch := omega) only [uS]⟩
  obtain ⟨h3, e3, ds3⟩ := q_lp1 (step := s_X12_drawn_45 a (nI N) w) (fun i h' => DSg h h' a A B I J (bMB b) (dn D Nx (bMB b) g i).1 (dn D Nx (bMB b) g i).2) N 0 (by omega)
    (fun i h1 hi ds => by
      obtain ⟨h2, e2, ds2⟩ := d_drawDeed hD ds hb (dn_ok hD ok g i) (by omega)
      refine ⟨h2, ?_, ds2⟩
      simp (disch := omega) only [s_X12_drawn_45, b_X12_drawn_45, nS, Nat.add_zero, ds.ob, e2])
    (fun h1 _ => by simp (disch := omega) only [s_X12_drawn_45, b_X12_drawn_45, nS, Nat.add_zero])
    (h := h2) ds2
  exact ⟨h1, h2, h3, e1, o1.ob, e2, e3, ds3⟩
end DRD
section CALLS
variable {h : qH} {c nx : Nat} {σ : SG} {im : Nat → Option SG}
theorem q_drawn (s : ST h c nx σ im) (x g z w : Int32) : QW h c σ im (F_X11_drawn h c x g z w) (fun h1 => F_X12_drawn h1 (c + 80) x g z w) := by
  obtain ⟨ok, ⟨xc, td, sc, -⟩, rm, -⟩ := s
  have hc0 := ok.2.1 0 (by omega)
  rcases nRg z 0 60 (by omega) with hz | ⟨n, rfl, -, hn⟩
  · refine QW.bad (v := m2) rm Fr.rf sc ?_ (fun h1 e1 ob1 => ?_)
    · rcases nOut_or x (n := sC σ 0) (by omega) with hx | ⟨k, hk, rfl⟩
      · simp (disch := omega) only [F_X11_drawn, xS xc, tS td, nS, t_bookOut td hx]
      · have cb := t_CB td ok hk
        have hL := L_le cb.1
        rcases Nat.eq_zero_or_pos (mbL (bMB (sB σ k))) with h0 | h0
        · simp (disch := omega) only [F_X11_drawn, xS xc, tS td, nS, t_bookIn td ok hk, cS cb, h0]
        · rcases hz with h0 | ⟨n, rfl, hn, h0⟩
          · simp (disch := omega) only [F_X11_drawn, xS xc, tS td, nS, t_bookIn td ok hk, cS cb, gN h0]
          · simp (disch := omega) only [F_X11_drawn, xS xc, tS td, nS, t_bookIn td ok hk, cS cb]
    · have := in_out h1 (by omega) (by omega) hz
      simp (disch := omega) only [F_X12_drawn, nS, e1, this]
  have i1 : ∀ h1, F_X12_in h1 (nI n) (nI 0) (nI 60) = some (nI 1) := fun h1 => in_in h1 (by omega) (by omega) hn
  rcases nOut_or x (n := sC σ 0) (by omega) with hx | ⟨k, hk, rfl⟩
  · refine QW.nob (v := m2) ok rm sc hx ?_ (fun h1 h2 e1 ob1 e2 => ?_)
    · simp (disch := omega) only [F_X11_drawn, xS xc, tS td, nS, t_bookOut td hx]
    · simp (disch := omega) only [F_X12_drawn, nS, e1, i1, ob1, e2]
  have cb := t_CB td ok hk
  have okm := cb.1
  have hL := L_le okm
  have hsc := sc
  obtain ⟨-, ⟨A8, B8, I8, J8, o8⟩, -, -, -, -⟩ := sc
  rcases Nat.eq_zero_or_pos (mbL (bMB (sB σ k))) with h0 | h0
  · refine QW.go (v := m2) [] ok rm hk (hc := h) ?_ Fr.rf hsc (by decide) (fun h1 h2 A B I J e1 ob1 e2 o2 hb => ⟨h2, A, B, I, J, ?_, o2, Fr.rf, On.rf⟩)
    · simp (disch := omega) only [F_X11_drawn, xS xc, tS td, nS, t_bookIn td ok hk, cS cb, h0]
    · have e24 := (d_pack o2 hb).1
      rw [h0] at e24
      simp (disch := omega) only [F_X12_drawn, nS, e1, i1, ob1, e2, e24]
  obtain ⟨D, Nx, hD⟩ := DD.some
  obtain ⟨hc, e7, cs⟩ := c_playDrawn hD o8 cb (by omega) g hn
  obtain ⟨xb, r7, ob7⟩ := cs.xb
  have fr7 : Fr h hc (c + 53) (c + 80) := r7.wd (by omega) (by omega)
  have xc7 := xc.kept fr7
  have cb7 := cb.kept (h' := hc) (fun q q1 q2 => r7 q (by omega))
  have hw := dn_ok hD okm g n
  have go : ∀ v : Int32, F_X8_show hc (c + 57) (c + 1 + 7 + 22 * k) w = some v → (∀ h2 h3 A B I J, DS h2 h3 (c + 80) A B I J (bMB (sB σ k)) (dn D Nx (bMB (sB σ k)) g n).1 → F_X12_ofState h3 (c + 80) w = some v) → QW h c σ im (F_X11_drawn h c (nI k) g (nI n) w) (fun h1 => F_X12_drawn h1 (c + 80) (nI k) g (nI n) w) := by
    intro v hs hv
    refine QW.go (v := v) [28] ok rm hk (hc := hc) ?_ fr7 (hsc.u8 r7 xb) (by decide) (fun h1 h2 A B I J e1 ob1 e2 o2 hb => ?_)
    · simp (disch := omega) only [F_X11_drawn, xS xc, tS td, nS, t_bookIn td ok hk, cS cb, o8.ob, e7, xS xc7, ob7, hs]
    · obtain ⟨h3, h4, h5, e3, ob3, e4, e5, A5, I5, o5, r5, n5, -, rn5, -⟩ := d_drawnL hD o2 hb g hn w
      refine ⟨h5, A5, B, I5, J, ?_, o5, r5, n5⟩
      have hv5 := hv h2 h5 A B I5 J ⟨A5, o5, r5, n5, rn5⟩
      simp (disch := omega) only [F_X12_drawn, nS, e1, i1, ob1, e2, d_pack o2 hb, e3, ob3, e4, e5, o5.ob, hv5]
  rcases c_show cs cb7 hw (by omega) w with ⟨q, hq, rfl, hs⟩ | ⟨hq, hs⟩
  · refine go _ hs (fun h2 h3 A B I J ds => ?_)
    rcases d_show ds (nI q) with ⟨q', hq', eq, hs'⟩ | ⟨hq', -⟩
    · have := (nI_eq hq hq').mp eq
      subst this
      exact hs'
    · exact absurd ((nI_ltI hq (by omega)).mp hq') (by omega)
  · refine go _ hs (fun h2 h3 A B I J ds => ?_)
    rcases d_show ds w with ⟨q', hq', eq, hs'⟩ | ⟨hq', hs'⟩
    · rw [eq] at hq; exact absurd ((nI_ltI hq' (by omega)).mp hq) (by omega)
    · exact hs'
end CALLS
