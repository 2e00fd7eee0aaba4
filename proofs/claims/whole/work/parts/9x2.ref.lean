/-! ===== the call text: the reference's reading, piece by piece ===== -/
def oF (q : Nat) : Int32 := if q = 0 then m1 else nI (q - 1)
theorem oF_s (q : Nat) : oF (q + 1) = nI q := rfl
theorem oF_0 : oF 0 = m1 := rfl
theorem oF_gre (h : qH) {q x : Nat} (hq : q < 2 ^ 30) (hx : x < 2 ^ 30) : F_X12_greater h (oF q) (nI x) = some (oF (max q (x + 1))) := by
  cases q with
  | zero =>
    rw [Nat.max_eq_right (by omega), oF_s, oF_0]
    simp (disch := omega) only [F_X12_greater, nS]
  | succ q =>
    rw [oF_s]
    rcases Nat.le_total q x with h1 | h1
    · rw [Nat.max_eq_right (by omega), oF_s]
      simp (disch := omega) only [F_X12_greater, nS]
    · rw [Nat.max_eq_left (by omega), oF_s]
      by_cases e : q = x
      · subst e
        simp (disch := omega) only [F_X12_greater, nS]
      · simp (disch := omega) only [F_X12_greater, nS]
theorem oF_max (h : qH) {q x : Nat} (hq : q < 2 ^ 30) (hx : x < 2 ^ 30) : F_J9_max_7cf53 h (oF q) (nI x) = some (oF (max q (x + 1))) := by
  cases q with
  | zero =>
    rw [Nat.max_eq_right (by omega), oF_s, oF_0]
    simp (disch := omega) only [F_J9_max_7cf53, nS]
  | succ q =>
    rw [oF_s]
    rcases Nat.le_total q x with h1 | h1
    · rw [Nat.max_eq_right (by omega), oF_s]
      by_cases e : q = x
      · subst e
        simp (disch := omega) only [F_J9_max_7cf53, nS]
      · simp (disch := omega) only [F_J9_max_7cf53, nS]
    · rw [Nat.max_eq_left (by omega), oF_s]
      simp (disch := omega) only [F_J9_max_7cf53, nS]
theorem oF_lt {q k : Nat} (hq : q < 2 ^ 30) (hk : k < 2 ^ 30) : oF q < nI k ↔ q ≤ k := by
  cases q with
  | zero =>
    rw [oF_0]
    exact ⟨fun _ => Nat.zero_le _, fun _ => (m1_lt (by omega)).mpr trivial⟩
  | succ q =>
    rw [oF_s, nI_ltI (by omega) (by omega)]
    omega
/-- the fault that comes later, as the reference holds it -/
def LT (lf : LFt) (bd : Nat) (I : Nat → Int32) : Prop := match lf with
  | none => I 17 = nI 0
  | some (f, q) => I 17 = nI f ∧ I 18 = nI q ∧ 0 < f ∧ f < 5 ∧ q < bd
theorem LT.mo {lf : LFt} {bd bd' : Nat} {I : Nat → Int32} (l : LT lf bd I) (h : bd ≤ bd') : LT lf bd' I := by
  cases lf with
  | none => exact l
  | some q =>
    obtain ⟨f, p⟩ := q
    obtain ⟨l1, l2, l3, l4, l5⟩ := l
    exact ⟨l1, l2, l3, l4, by omega⟩
theorem LT.on {lf : LFt} {bd : Nat} {I I' : Nat → Int32} {S : List Nat} (l : LT lf bd I) (n : On S I I') (h1 : 17 ∉ S) (h2 : 18 ∉ S) : LT lf bd I' := by
  have e1 := n 17 h1
  have e2 := n 18 h2
  cases lf with
  | none => show I' 17 = nI 0; rw [e1]; exact l
  | some q =>
    obtain ⟨f, p⟩ := q
    obtain ⟨l1, l2, l3⟩ := l
    exact ⟨by rw [e1]; exact l1, by rw [e2]; exact l2, l3⟩
section REF
variable {h0 h : qH} {a : Nat} {σ : SG} {s : Nat} {A0 A : Nat → Nat → Int32} {B : Nat → Nat → Int64} {I : Nat → Int32} {J : Nat → Int64}
theorem d_later (o : OB h a 12 mdL A B I J) {lf : LFt} {bd : Nat} (l : LT lf bd I) {f p : Nat} (hf : 0 < f) (hf5 : f < 5) (hp : bd ≤ p) (hp2 : p < 2 ^ 30) : ∃ h' I', F_X12_later h a (nI f) (nI p) = some h' ∧ OB h' a 12 mdL A B I' J ∧ LT (ltr lf (f, p)) (p + 1) I' ∧ On [17, 18] I I' ∧ Fr h h' a (a + 27) := by
  cases lf with
  | none =>
    have l : I 17 = nI 0 := l
    obtain ⟨h1, e1, o1, r1⟩ := X12_p17 o (nI f)
    obtain ⟨h2, e2, o2, r2⟩ := X12_p18 o1 (nI p)
    refine ⟨h2, _, ?_, o2, ⟨by simp (disch := omega) only [uS], by simp (disch := omega) only [uS], hf, hf5, by omega⟩, (On.ud (by decide)).tr (On.ud (by decide)), r1.tr r2⟩
    simp (disch := omega) only [F_X12_later, nS, X12_rd o, l, e1, e2]
  | some q =>
    obtain ⟨g, q⟩ := q
    obtain ⟨l1, l2, l3, l4, l5⟩ := l
    refine ⟨h, I, ?_, o, ⟨l1, l2, l3, l4, by omega⟩, On.rf, Fr.rf⟩
    simp (disch := omega) only [F_X12_later, nS, X12_rd o, l1, l2]
/-- the reference goes wrong at a place -/
def FLd (h0 h : qH) (a : Nat) (A0 : Nat → Nat → Int32) (B : Nat → Nat → Int64) (p : Nat) : Prop := ∃ A I J, OB h a 12 mdL A B I J ∧ On [19, 20] A0 A ∧ I 16 = nI p ∧ Fr h0 h a (a + 27)
/-- the reference in the midst of its reading: token i is seen -/
def CU (σ : SG) (h0 h : qH) (a : Nat) (A0 : Nat → Nat → Int32) (B : Nat → Nat → Int64) (i bd : Nat) (lf : LFt) (T R : Nat → Int32) (fr : Nat) (gd : Option Bool) : Prop := ∃ A I J, OB h a 12 mdL A B I J ∧ LA σ i I J ∧ On [19, 20] A0 A ∧ (∀ j, j < 112 → A 19 j = T j) ∧ A 20 = R ∧ LT lf bd I ∧ I 21 = oF fr ∧ (∀ b, gd = some b → I 22 = nI (if b = true then 1 else 0)) ∧ Fr h0 h a (a + 27)
section
variable {i bd : Nat} {lf : LFt} {T R : Nat → Int32} {fr : Nat} {gd : Option Bool}
theorem CU.ob (c : CU σ h0 h a A0 B i bd lf T R fr gd) : q_ob h a 12 = some () := by
  obtain ⟨A, I, J, o, -⟩ := c
  exact o.ob
theorem CU.mo (c : CU σ h0 h a A0 B i bd lf T R fr gd) {bd' : Nat} (h1 : bd ≤ bd') : CU σ h0 h a A0 B i bd' lf T R fr gd := by
  obtain ⟨A, I, J, o, la, on, t, r, l, f⟩ := c
  exact ⟨A, I, J, o, la, on, t, r, l.mo h1, f⟩
theorem CU.wk (c : CU σ h0 h a A0 B i bd lf T R fr gd) {gd' : Option Bool} (h1 : ∀ b, gd' = some b → gd = some b) : CU σ h0 h a A0 B i bd lf T R fr gd' := by
  obtain ⟨A, I, J, o, la, on, t, r, l, f, g, r'⟩ := c
  exact ⟨A, I, J, o, la, on, t, r, l, f, fun b hb => g b (h1 b hb), r'⟩
theorem CU.i12 (c : CU σ h0 h a A0 B i bd lf T R fr gd) : q_fI h a 12 12 = some (nI (bg σ i)) ∧ q_fI h a 12 13 = some (nI (rs σ (bg σ i))) ∧ (∀ b, gd = some b → q_fI h a 12 22 = some (nI (if b = true then 1 else 0))) ∧ q_fI h a 12 21 = some (oF fr) := by
  obtain ⟨A, I, J, o, la, on, t, r, l, f, g, -⟩ := c
  exact ⟨by rw [← la.2.2.1]; exact o.fI (k := 12) rfl, by rw [← la.2.2.2.1]; exact o.fI (k := 13) rfl, fun b hb => by rw [← g b hb]; exact o.fI (k := 22) rfl, by rw [← f]; exact o.fI (k := 21) rfl⟩
theorem CU.rd (c : CU σ h0 h a A0 B i bd lf T R fr gd) : q_fR h a 12 19 = some (a + 10) ∧ q_fR h a 12 20 = some (a + 11) ∧ (∀ j, j < 112 → q_aI h .int (a + 10) (nI j) = some (T j)) ∧ ∀ j, j < 4 → q_aI h .int (a + 11) (nI j) = some (R j) := by
  obtain ⟨A, I, J, o, la, on, t, r, -⟩ := c
  subst r
  refine ⟨o.fR (k := 19) rfl rfl, o.fR (k := 20) rfl rfl, fun j hj => ?_, fun j hj => ?_⟩
  · rw [← t j hj]; exact q_ixI (fun i h0 h1 => o.aI (k := 19) rfl h0 h1) hj (by decide)
  · exact q_ixI (fun i h0 h1 => o.aI (k := 20) rfl h0 h1) hj (by decide)
theorem CU.s19 (c : CU σ h0 h a A0 B i bd lf T R fr gd) {j : Nat} (hj : j < 112) (x : Int32) : ∃ h', q_sI h .int (a + 10) (nI j) x = some h' ∧ CU σ h0 h' a A0 B i bd lf (upd T j x) R fr gd := by
  obtain ⟨A, I, J, o, la, on, t, r, l, f, g, fr'⟩ := c
  obtain ⟨h1, e1, o1, r1⟩ := X12_s19 o (i := j) x hj
  refine ⟨h1, e1, _, I, J, o1, la, on.tr (On.up (by decide)), fun k hk => ?_, ?_, l, f, g, fr'.tr r1⟩
  · rw [upF_self]
    by_cases e : k = j
    · subst e; rw [pk_us, pk_us]
    · rw [pk_un e, pk_un e]; exact t k hk
  · rw [upF_ne _ _ (by decide)]; exact r
theorem CU.s20 (c : CU σ h0 h a A0 B i bd lf T R fr gd) {j : Nat} (hj : j < 4) (x : Int32) : ∃ h', q_sI h .int (a + 11) (nI j) x = some h' ∧ CU σ h0 h' a A0 B i bd lf T (upd R j x) fr gd := by
  obtain ⟨A, I, J, o, la, on, t, r, l, f, g, fr'⟩ := c
  obtain ⟨h1, e1, o1, r1⟩ := X12_s20 o (i := j) x hj
  refine ⟨h1, e1, _, I, J, o1, la, on.tr (On.up (by decide)), fun k hk => ?_, ?_, l, f, g, fr'.tr r1⟩
  · rw [upF_ne _ _ (by decide)]; exact t k hk
  · rw [upF_self, r]
theorem CU.p21 (c : CU σ h0 h a A0 B i bd lf T R fr gd) (q : Nat) : ∃ h', q_put h a 12 21 (.int (oF q)) = some h' ∧ CU σ h0 h' a A0 B i bd lf T R q gd := by
  obtain ⟨A, I, J, o, la, on, t, r, l, f, g, fr'⟩ := c
  obtain ⟨h1, e1, o1, r1⟩ := X12_p21 o (oF q)
  have n : On [21] I (upd I 21 (oF q)) := On.ud (by decide)
  refine ⟨h1, e1, A, _, J, o1, ?_, on, t, r, l.on n (by decide) (by decide), by simp (disch := omega) only [uS], fun b hb => by rw [n 22 (by decide)]; exact g b hb, fr'.tr r1⟩
  unfold LA at *
  rw [n 10 (by decide), n 11 (by decide), n 12 (by decide), n 13 (by decide), n 14 (by decide)]
  exact la
theorem CU.p22 (c : CU σ h0 h a A0 B i bd lf T R fr gd) (b : Bool) : ∃ h', q_put h a 12 22 (.int (nI (if b = true then 1 else 0))) = some h' ∧ CU σ h0 h' a A0 B i bd lf T R fr (some b) := by
  obtain ⟨A, I, J, o, la, on, t, r, l, f, g, fr'⟩ := c
  obtain ⟨h1, e1, o1, r1⟩ := X12_p22 o (nI (if b = true then 1 else 0))
  have n : On [22] I (upd I 22 (nI (if b = true then 1 else 0))) := On.ud (by decide)
  refine ⟨h1, e1, A, _, J, o1, ?_, on, t, r, l.on n (by decide) (by decide), by rw [n 21 (by decide)]; exact f, fun b' hb => by cases hb; simp (disch := omega) only [uS], fr'.tr r1⟩
  unfold LA at *
  rw [n 10 (by decide), n 11 (by decide), n 12 (by decide), n 13 (by decide), n 14 (by decide)]
  exact la
theorem CU.fails (c : CU σ h0 h a A0 B i bd lf T R fr gd) : ∃ h', F_X12_fails h a = some (nI 0, h') ∧ FLd h0 h' a A0 B (bg σ i) := by
  have i12 := c.i12.1
  obtain ⟨A, I, J, o, la, on, t, r, l, f, g, fr'⟩ := c
  obtain ⟨h1, e1, o1, r1⟩ := X12_p16 o (nI (bg σ i))
  refine ⟨h1, ?_, A, _, J, o1, on, by simp (disch := omega) only [uS], fr'.tr r1⟩
  simp (disch := omega) only [F_X12_fails, nS, i12, e1]
theorem CU.later (c : CU σ h0 h a A0 B i bd lf T R fr gd) {f p : Nat} (hf : 0 < f) (hf5 : f < 5) (hp : bd ≤ p) (hp2 : p < 2 ^ 30) : ∃ h', F_X12_later h a (nI f) (nI p) = some h' ∧ CU σ h0 h' a A0 B i (p + 1) (ltr lf (f, p)) T R fr gd := by
  obtain ⟨A, I, J, o, la, on, t, r, l, fq, g, fr'⟩ := c
  obtain ⟨h1, I1, e1, o1, l1, n, r1⟩ := d_later o l hf hf5 hp hp2
  refine ⟨h1, e1, A, I1, J, o1, ?_, on, t, r, l1, by rw [n 21 (by decide)]; exact fq, fun b hb => by rw [n 22 (by decide)]; exact g b hb, fr'.tr r1⟩
  unfold LA at *
  rw [n 10 (by decide), n 11 (by decide), n 12 (by decide), n 13 (by decide), n 14 (by decide)]
  exact la
theorem CU.token (c : CU σ h0 h a A0 B i bd lf T R fr gd) (tp : TP A0 σ) (hz : sZ σ ≤ 600) : ∃ h', F_X12_token h a = some h' ∧ CU σ h0 h' a A0 B (i + 1) bd lf T R fr gd := by
  obtain ⟨A, I, J, o, la, on, t, r, l, fq, g, fr'⟩ := c
  have tp' : TP A σ := fun p hp => by rw [on 1 (by decide)]; exact tp p hp
  obtain ⟨h1, I1, J1, e1, o1, la1, n, -, r1⟩ := d_token o tp' hz la.2.1 la.1
  exact ⟨h1, e1, A, I1, J1, o1, la1, on, t, r, l.on n (by decide) (by decide), by rw [n 21 (by decide)]; exact fq, fun b hb => by rw [n 22 (by decide)]; exact g b hb, fr'.tr r1⟩
theorem CU.full (c : CU σ h0 h a A0 B i bd lf T R fr gd) {k n : Nat} (hk : k < 112) (hT : T k = nI (cn T k)) (hc : cn T k < 2 ^ 31) (hn : n < 2 ^ 31) (hp : bd ≤ bg σ i) (hz : sZ σ ≤ 600) : ∃ h', F_X12_full h a (nI k) (nI n) (nI (bg σ i)) = some h' ∧ CU σ h0 h' a A0 B i (bg σ i + 1) (if cn T k = n then ltr lf (3, bg σ i) else lf) T R fr gd := by
  have hb := bg_le σ i
  obtain ⟨r1, r2, r3, r4⟩ := c.rd
  have e0 := r3 k hk
  rw [hT] at e0
  by_cases e : cn T k = n
  · obtain ⟨h1, e1, c1⟩ := c.later (f := 3) (p := bg σ i) (by omega) (by omega) hp (by omega)
    refine ⟨h1, ?_, by rw [if_pos e]; exact c1⟩
    rw [e] at e0
    simp (disch := omega) only [F_X12_full, nS, r1, e0, c.ob, e1]
  · refine ⟨h, ?_, by rw [if_neg e]; exact c.mo (by omega)⟩
    simp (disch := omega) only [F_X12_full, nS, r1, e0]
theorem CU.take (c : CU σ h0 h a A0 B i bd lf T R fr gd) (tp : TP A0 σ) (hz : sZ σ ≤ 600) (hb : bd ≤ bg σ i) {k lo hi : Nat} (hk : k < 4) (hl : lo < 100) (hh : hi < 100) : (yK σ s i = 1 ∧ ∃ h', F_X12_take h a (nI k) (nI lo) (nI hi) = some (nI 1, h') ∧ CU σ h0 h' a A0 B (i + 1) (bg σ (i + 1)) (if lo ≤ yV σ s i ∧ yV σ s i ≤ hi then lf else ltr lf (2, bg σ i)) T (upd R k (nI (yV σ s i))) fr (gd.map (fun b => b && decide (lo ≤ yV σ s i ∧ yV σ s i ≤ hi)))) ∨ (yK σ s i ≠ 1 ∧ ∃ h', F_X12_take h a (nI k) (nI lo) (nI hi) = some (nI 0, h') ∧ FLd h0 h' a A0 B (bg σ i)) := by
  have hbl := bg_le σ i
  obtain ⟨i12, i13, -, -⟩ := c.i12
  obtain ⟨r1, r2, -, -⟩ := c.rd
  have hk3 := (yK_rs (σ := σ) (s := s) i).1
  by_cases h1 : yK σ s i = 1
  · refine Or.inl ⟨h1, ?_⟩
    obtain ⟨v1, v2, v3, v4⟩ := yK_num h1
    have hbn := bg_lt v4
    have hr := hk3.mp h1
    rw [hr] at i13
    have i14 : q_fI h a 12 14 = some (nI (yV σ s i)) := by
      obtain ⟨A, I, J, o, la, -⟩ := c
      rw [← v1, ← la.2.2.2.2.1 hr]
      exact o.fI (k := 14) rfl
    obtain ⟨h2, e2, c2⟩ := c.s20 hk (nI (yV σ s i))
    have j14 : q_fI h2 a 12 14 = some (nI (yV σ s i)) := by
      obtain ⟨A, I, J, o, la, -⟩ := c2
      rw [← v1, ← la.2.2.2.2.1 hr]
      exact o.fI (k := 14) rfl
    have j12 := c2.i12.1
    by_cases hin : lo ≤ yV σ s i ∧ yV σ s i ≤ hi
    · rw [if_pos hin, decide_eq_true hin]
      have ii := in_in h2 (by omega) hin.1 hin.2
      obtain ⟨h3, e3, c3⟩ := c2.token tp hz
      refine ⟨h3, ?_, CU.wk (c3.mo (bd' := bg σ (i + 1)) (by omega)) (fun b hb => by cases gd <;> simp_all)⟩
      unfold F_X12_take
      rw [i13, Option.bind_some, if_pos (show nI 3 = (3 : Int32) from rfl), r2, Option.bind_some, i14, Option.bind_some, e2, Option.bind_some, j14, Option.bind_some, ii, Option.bind_some, if_neg (by decide), c2.ob, Option.bind_some, e3, Option.bind_some]
      rfl
    · rw [if_neg hin, decide_eq_false hin]
      have ii := in_out h2 (y := nI (yV σ s i)) (lo := lo) (hi := hi) (by omega) (by omega) (Or.inr ⟨_, rfl, by omega, by omega⟩)
      obtain ⟨h3, e3, c3⟩ := c2.later (f := 2) (p := bg σ i) (by omega) (by omega) hb (by omega)
      have e3 : F_X12_later h2 a (2 : Int32) (nI (bg σ i)) = some h3 := e3
      obtain ⟨h4, e4, c4⟩ := c3.p22 false
      have e4 : q_put h3 a 12 22 (.int (0 : Int32)) = some h4 := e4
      obtain ⟨h5, e5, c5⟩ := c4.token tp hz
      refine ⟨h5, ?_, CU.wk (c5.mo (bd' := bg σ (i + 1)) (by omega)) (fun b hb => by cases gd <;> simp_all)⟩
      unfold F_X12_take
      rw [i13, Option.bind_some, if_pos (show nI 3 = (3 : Int32) from rfl), r2, Option.bind_some, i14, Option.bind_some, e2, Option.bind_some, j14, Option.bind_some, ii, Option.bind_some, if_pos (show nI 0 = (0 : Int32) from rfl), j12, Option.bind_some, c2.ob, Option.bind_some, e3, Option.bind_some, e4, Option.bind_some, c4.ob, Option.bind_some, e5, Option.bind_some]
      rfl
  · refine Or.inr ⟨h1, ?_⟩
    have hr : rs σ (bg σ i) ≠ 3 := fun q => h1 (hk3.mpr q)
    have hrl : rs σ (bg σ i) < 5 := by
      unfold rs
      repeat' split
      all_goals omega
    obtain ⟨h2, e2, f2⟩ := c.fails
    refine ⟨h2, ?_, f2⟩
    unfold F_X12_take
    rw [i13, Option.bind_some, if_neg (show ¬ nI (rs σ (bg σ i)) = (3 : Int32) from fun q => hr ((nI_eq (by omega) (by omega)).mp q)), c.ob, Option.bind_some, e2, Option.bind_some]
    rfl
/-- one more number of a word: its bounds by the class's tables -/
theorem CU.tk (c : CU σ h0 h a A0 B i bd lf T R fr gd) (tp : TP A0 σ) (hz : sZ σ ≤ 600) (hb : bd ≤ bg σ i) (w j : Nat) (hj : 4 * w + j < 76) {k : Nat} (hk : k < 4) : (yK σ s i = 1 ∧ ∃ h', F_X12_take h a (nI k) (nI (loB (4 * w + j))) (nI (hiB (4 * w + j))) = some (nI 1, h') ∧ CU σ h0 h' a A0 B (i + 1) (bg σ (i + 1)) (if inB w j (yV σ s i) = true then lf else ltr lf (2, bg σ i)) T (upd R k (nI (yV σ s i))) fr (gd.map (fun b => b && inB w j (yV σ s i)))) ∨ (yK σ s i ≠ 1 ∧ ∃ h', F_X12_take h a (nI k) (nI (loB (4 * w + j))) (nI (hiB (4 * w + j))) = some (nI 0, h') ∧ FLd h0 h' a A0 B (bg σ i)) := by
  obtain ⟨-, -, l1, l2⟩ := lo_st (4 * w + j) hj
  rcases c.take (s := s) tp hz hb hk l1 l2 with ⟨h1, h2, e2, c2⟩ | h1
  · refine Or.inl ⟨h1, h2, e2, ?_⟩
    have : (if inB w j (yV σ s i) = true then lf else ltr lf (2, bg σ i)) = if loB (4 * w + j) ≤ yV σ s i ∧ yV σ s i ≤ hiB (4 * w + j) then lf else ltr lf (2, bg σ i) := by
      by_cases hq : inB w j (yV σ s i) = true
      · rw [if_pos hq, if_pos (inB_t.mp hq)]
      · rw [if_neg hq, if_neg (fun z => hq (inB_t.mpr z))]
    rw [this]
    exact c2
  · exact Or.inr h1
theorem CU.tf (c : CU σ h0 h a A0 B i bd lf T R fr gd) (tp : TP A0 σ) (hz : sZ σ ≤ 600) (hb : bd ≤ bg σ i) (hfr : fr < 1000) (w j : Nat) (hj : 4 * w + j < 76) (hlo : loB (4 * w + j) = 0) {k more : Nat} (hk : k < 4) (hm : more < 2) : (yK σ s i = 1 ∧ ∃ h', F_X12_takeFar h a (nI k) (nI (hiB (4 * w + j))) (nI more) = some (nI 1, h') ∧ CU σ h0 h' a A0 B (i + 1) (bg σ (i + 1)) (if inB w j (yV σ s i) = true then lf else ltr lf (2, bg σ i)) T (upd R k (nI (yV σ s i))) (max fr (yV σ s i + more + 1)) (gd.map (fun b => b && inB w j (yV σ s i)))) ∨ (yK σ s i ≠ 1 ∧ ∃ h', F_X12_takeFar h a (nI k) (nI (hiB (4 * w + j))) (nI more) = some (nI 0, h') ∧ FLd h0 h' a A0 B (bg σ i)) := by
  rcases c.tk (s := s) tp hz hb w j hj hk with ⟨h1, h2, e2, c2⟩ | ⟨h1, h2, e2, f2⟩
  · rw [hlo] at e2
    have e2 : F_X12_take h a (nI k) (0 : Int32) (nI (hiB (4 * w + j))) = some (nI 1, h2) := e2
    refine Or.inl ⟨h1, ?_⟩
    obtain ⟨v1, v2, v3, v4⟩ := yK_num h1
    obtain ⟨-, -, -, i21⟩ := c2.i12
    obtain ⟨r1, r2, r3, r4⟩ := c2.rd
    have e3 := r4 k hk
    rw [pk_us] at e3
    have e4 := oF_gre h2 (q := fr) (x := yV σ s i + more) (by omega) (by omega)
    obtain ⟨h5, e5, c5⟩ := c2.p21 (max fr (yV σ s i + more + 1))
    refine ⟨h5, ?_, c5⟩
    unfold F_X12_takeFar
    rw [c.ob, Option.bind_some, e2, Option.bind_some, if_neg (show ¬ nI 1 = (0 : Int32) by decide)]
    dsimp only
    rw [i21, Option.bind_some, r2, Option.bind_some, e3, Option.bind_some, nI_add, e4, Option.bind_some, e5, Option.bind_some]
    rfl
  · rw [hlo] at e2
    have e2 : F_X12_take h a (nI k) (0 : Int32) (nI (hiB (4 * w + j))) = some (nI 0, h2) := e2
    refine Or.inr ⟨h1, h2, ?_, f2⟩
    unfold F_X12_takeFar
    rw [c.ob, Option.bind_some, e2, Option.bind_some, if_pos (show nI 0 = (0 : Int32) from rfl)]
    rfl
end
end REF
