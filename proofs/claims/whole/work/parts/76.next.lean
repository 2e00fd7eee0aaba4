/-! ===== the lines by next: who says them; prompts ===== -/
def sm (f : Nat → Nat) : Nat → Nat
  | 0 => 0
  | n + 1 => sm f n + f n
theorem sm_le {f : Nat → Nat} {k : Nat} : ∀ n, (∀ i, i < n → f i ≤ k) → sm f n ≤ k * n := by
  intro n
  induction n with
  | zero => intro _; exact Nat.le_refl _
  | succ n ih =>
    intro h
    have h1 := ih (fun i hi => h i (by omega))
    have h2 := h n (by omega)
    show sm f n + f n ≤ k * (n + 1)
    rw [Nat.mul_succ]
    omega
/-- how many lines there are by next, n at most -/
def pl (m : MB) : Nat → Option Nat → Nat
  | 0, _ => 0
  | _ + 1, none => 0
  | n + 1, some l => pl m n (nxt m (some l)) + 1
theorem pl_le (m : MB) : ∀ n o, pl m n o ≤ n := by
  intro n
  induction n with
  | zero => intro o; exact Nat.le_refl _
  | succ n ih =>
    intro o
    cases o with
    | none => exact Nat.zero_le _
    | some l => exact Nat.succ_le_succ (ih _)
theorem pl_in (m : MB) : ∀ n o i, i < pl m n o → ∃ l, itr m i o = some l := by
  intro n
  induction n with
  | zero => intro o i hi; exact absurd hi (Nat.not_lt_zero _)
  | succ n ih =>
    intro o i hi
    cases o with
    | none => exact absurd hi (Nat.not_lt_zero _)
    | some l =>
      cases i with
      | zero => exact ⟨l, rfl⟩
      | succ i => exact ih (nxt m (some l)) i (Nat.lt_of_succ_lt_succ hi)
theorem pl_end (m : MB) : ∀ n o, pl m n o = n ∨ itr m (pl m n o) o = none := by
  intro n
  induction n with
  | zero => intro o; exact Or.inl rfl
  | succ n ih =>
    intro o
    cases o with
    | none => exact Or.inr rfl
    | some l =>
      rcases ih (nxt m (some l)) with h | h
      · exact Or.inl (by show pl m n _ + 1 = n + 1; rw [h])
      · exact Or.inr h
/-- who says the i-th line by next -/
def wr (m : MB) (i : Nat) : Nat := wh m ((itr m i (st0 m)).getD 0)
theorem wr_lt {m : MB} (ok : MBok m) {n i : Nat} (hi : i < pl m n (st0 m)) : ∃ l, itr m i (st0 m) = some l ∧ l < mbL m ∧ wr m i = wh m l ∧ wh m l < 6 := by
  obtain ⟨l, hl⟩ := pl_in m n (st0 m) i hi
  have h2 := itr_ok ok i (st0_ok m) l hl
  exact ⟨l, hl, h2, by unfold wr; rw [hl]; rfl, (wh_ok ok h2).2⟩
theorem st0_oI {m : MB} : (mbL m = 0 ∧ oI (st0 m) = m1) ∨ (0 < mbL m ∧ oI (st0 m) = nI 0) := by
  unfold st0
  split
  · next h => exact Or.inl ⟨h, rfl⟩
  · next h => exact Or.inr ⟨by omega, rfl⟩
theorem c_dries {h : qH} {a : Nat} {m : MB} (c : CB h a m) {p : Nat} (hp : p < 6) : F_X0_driesOf h a (nI p) = some (nI (dr m p)) := by
  simp (disch := omega) only [F_X0_driesOf, F_X11_isPerson, nS, cS2 c]
def drs (m : MB) (n : Nat) : Nat := sm (fun i => dr m (wr m i)) (pl m n (st0 m))
theorem drs_le {m : MB} (ok : MBok m) (n : Nat) : drs m n ≤ 10 * pl m n (st0 m) := sm_le _ (fun i hi => by
  obtain ⟨l, -, -, h1, h2⟩ := wr_lt ok hi
  rw [h1]
  have := (dr_ok ok h2).2
  omega)
theorem c_driesByNext {h : qH} {a b : Nat} {m : MB} {A : Nat → Nat → Int32} {B : Nat → Nat → Int64} {I : Nat → Int32} {J : Nat → Int64} (o : OB h a 5 odL A B I J) (c : CB h b m) {n : Nat} (hn : n ≤ 20) : ∃ h' J', F_X5_driesByNext h a b (nI n) = some h' ∧ OB h' a 5 odL A B I J' ∧ Fr h h' a (a + 3) ∧ J' 2 = lN (frc (drs m n) 10 0) ∧ J' 3 = lN (frc (drs m n) 10 1) := by
  have ok := c.1
  have hL := L_le ok
  have hpl := pl_le m n (st0 m)
  have hd := drs_le ok n
  have lp : q_lp (s_X5_driesByNext_20 h a b (nI n)) q_N (lN 0, oI (st0 m), nI 0) = some (lN (drs m n)) := by
    refine q_lp_for (fun i => (lN (sm (fun i => dr m (wr m i)) i), oI (itr m i (st0 m)), nI i)) (pl m n (st0 m)) (fun i hi => ?_) ?_ q_N (q_lt_N (by omega))
    · obtain ⟨l, h1, h2, h3, h4⟩ := wr_lt ok hi
      have hnx := c_next c (o := some l) (fun j hj => by cases hj; exact h2)
      have hdr := (dr_ok ok h4).2
      rw [oI_some] at hnx
      show s_X5_driesByNext_20 h a b (nI n) (lN (sm (fun i => dr m (wr m i)) i), oI (itr m i (st0 m)), nI i) = some (.inl (lN (sm (fun i => dr m (wr m i)) i + dr m (wr m i)), oI (itr m (i + 1) (st0 m)), nI (i + 1)))
      rw [itr_succ, h1, h3, oI_some]
      simp (disch := omega) only [s_X5_driesByNext_20, b_X5_driesByNext_20, nS, lS, cS c, c_dries c, hnx]
    · show s_X5_driesByNext_20 h a b (nI n) (lN (drs m n), oI (itr m (pl m n (st0 m)) (st0 m)), nI (pl m n (st0 m))) = _
      rcases pl_end m n (st0 m) with he | he
      · simp (disch := omega) only [s_X5_driesByNext_20, b_X5_driesByNext_20, nS]
      · rw [he, oI_none]
        rcases Nat.lt_or_ge (pl m n (st0 m)) n with h5 | h5
        · simp (disch := omega) only [s_X5_driesByNext_20, b_X5_driesByNext_20, nS]
        · simp (disch := omega) only [s_X5_driesByNext_20, b_X5_driesByNext_20, nS]
  obtain ⟨h', J', e, o', r, j2, j3⟩ := c_reduce o (up := drs m n) (down := 10) (by omega) (by omega) (by omega)
  refine ⟨h', J', ?_, o', r, j2, j3⟩
  rcases st0_oI (m := m) with ⟨h0, e0⟩ | ⟨h0, e0⟩
  · rw [e0] at lp
    simp (disch := omega) only [F_X5_driesByNext, j_X5_driesByNext_15, nS, lS, cS c, lp, o.ob, e]
  · rw [e0] at lp
    simp (disch := omega) only [F_X5_driesByNext, j_X5_driesByNext_15, nS, lS, cS c, lp, o.ob, e]
/-- the reference lays a row of people: rows 34 and 35 -/
theorem d_layRow {h : qH} {a : Nat} {A : Nat → Nat → Int32} {B : Nat → Nat → Int64} {I : Nat → Int32} {J : Nat → Int64} {b : Nat → Int32} {k : Nat} (o : OB h a 12 mdL A B I J) (hb : HB A I b k) {r q : Nat} (hr : (r = 34 ∧ q = a + 19) ∨ (r = 35 ∧ q = a + 20)) {n : Nat} (hn : n ≤ 20) : ∃ h' A', F_X12_layRow h a q (nI n) = some (nI (pl (bMB b) n (st0 (bMB b))), h') ∧ OB h' a 12 mdL A' B I J ∧ Fr h h' a (a + 27) ∧ On [r] A A' ∧ (∀ i, i < pl (bMB b) n (st0 (bMB b)) → A' r i = nI (wr (bMB b) i)) := by
  have ok := bMB_ok hb.1
  have hL := L_le ok
  obtain ⟨m, hm⟩ : ∃ m, m = bMB b := ⟨_, rfl⟩
  have hpl := pl_le m n (st0 m)
  have wrt : ∀ {h' : qH} {A' : Nat → Nat → Int32}, OB h' a 12 mdL A' B I J → ∀ i x, i < 20 → ∃ h'', q_sI h' .int q (nI i) x = some h'' ∧ OB h'' a 12 mdL (upF A' r (upd (A' r) i x)) B I J ∧ Fr h' h'' a (a + 27) := by
    intro h' A' o' i x hi
    rcases hr with ⟨rfl, rfl⟩ | ⟨rfl, rfl⟩
    · exact X12_s34 o' x hi
    · exact X12_s35 o' x hi
  have hbk : ∀ {A' : Nat → Nat → Int32}, On [r] A A' → HB A' I b k := fun hA => by
    have e : ∀ j, j = 6 ∨ j = 25 ∨ j = 26 → j ∉ [r] := fun j hj => by
      rcases hr with ⟨rfl, -⟩ | ⟨rfl, -⟩ <;> rcases hj with rfl | rfl | rfl <;> decide
    exact hb.cg (hA 6 (e 6 (Or.inl rfl))) (hA 25 (e 25 (Or.inr (Or.inl rfl)))) (hA 26 (e 26 (Or.inr (Or.inr rfl)))) rfl rfl
  rw [← hm] at ok hL ⊢
  have lp : ∃ r', q_lp (s_X12_layRow_16 a q (nI n)) q_N (oI (st0 m), nI 0, h) = some r' ∧ r'.1 = nI (pl m n (st0 m)) ∧ ∃ A', OB r'.2 a 12 mdL A' B I J ∧ Fr h r'.2 a (a + 27) ∧ On [r] A A' ∧ ∀ i, i < pl m n (st0 m) → A' r i = nI (wr m i) := by
    refine q_lp_idx (fun i s => s.1 = oI (itr m i (st0 m)) ∧ s.2.1 = nI i ∧ ∃ A', OB s.2.2 a 12 mdL A' B I J ∧ Fr h s.2.2 a (a + 27) ∧ On [r] A A' ∧ ∀ j, j < i → A' r j = nI (wr m j)) (pl m n (st0 m)) _ ?_ ?_ q_N (oI (st0 m), nI 0, h) ⟨rfl, rfl, A, o, Fr.rf, On.rf, fun j hj => by omega⟩ (q_lt_N (by omega))
    · rintro i ⟨x1, x2, hh⟩ hi ⟨hx1, hx2, A', o', r', n', z'⟩
      dsimp only at hx1 hx2 o' r'
      obtain ⟨l, h1, h2, h3, h4⟩ := wr_lt ok hi
      rw [h1, oI_some] at hx1
      subst hx1 hx2
      obtain ⟨h5, e5, o5, r5⟩ := wrt o' i (nI (wh m l)) (by omega)
      have hb' := hbk n'
      have n5 := n'.tr (On.up (S := [r]) (A := A') (k := r) (f := upd (A' r) i (nI (wh m l))) (List.mem_singleton.mpr rfl))
      have hb5 := hbk n5
      rw [hm] at h2
      have hbe := d_beh0 o5 hb5 h2
      have hwo := (d_pack o' hb').2.2.2.2.2.1 l h2
      rw [← hm] at hbe hwo h2
      refine ⟨(oI (itr m (i + 1) (st0 m)), nI (i + 1), h5), ?_, rfl, rfl, _, o5, r'.tr r5, n5, fun j hj => ?_⟩
      · rw [itr_succ, h1]
        simp (disch := omega) only [s_X12_layRow_16, b_X12_layRow_16, nS, o'.ob, hwo, e5, o5.ob, hbe]
      · rw [upF_self]
        by_cases hji : j = i
        · subst hji; rw [pk_us, h3]
        · rw [pk_un hji]; exact z' j (by omega)
    · rintro ⟨x1, x2, hh⟩ ⟨hx1, hx2, A', o', r', n', z'⟩
      dsimp only at hx1 hx2 o' r'
      subst hx1 hx2
      refine ⟨(nI (pl m n (st0 m)), hh), ?_, rfl, A', o', r', n', z'⟩
      rcases pl_end m n (st0 m) with he | he
      · simp (disch := omega) only [s_X12_layRow_16, b_X12_layRow_16, nS]
      · rw [he, oI_none]
        rcases Nat.lt_or_ge (pl m n (st0 m)) n with h5 | h5
        · simp (disch := omega) only [s_X12_layRow_16, b_X12_layRow_16, nS]
        · simp (disch := omega) only [s_X12_layRow_16, b_X12_layRow_16, nS]
  obtain ⟨⟨v, h'⟩, e, hv, A', o', r', n', z'⟩ := lp
  dsimp only at hv o' r'
  subst hv
  refine ⟨h', A', ?_, o', r', n', z'⟩
  have e24 := (d_pack o hb).1
  rw [← hm] at e24
  rcases st0_oI (m := m) with ⟨h0, e0⟩ | ⟨h0, e0⟩
  · rw [e0] at e
    simp (disch := omega) only [F_X12_layRow, j_X12_layRow_12, nS, e24, e]
  · rw [e0] at e
    simp (disch := omega) only [F_X12_layRow, j_X12_layRow_12, nS, e24, e]
/-! what the class works with: one object changed -/
section SCS
variable {h h' : qH} {c : Nat}
theorem SC.u8 (s : SC h c) (f : Fr h h' (c + 57) (c + 57 + 3)) (n : OBx h' (c + 57) 8 stL) : SC h' c := by
  obtain ⟨s1, s2, s3, s4, s5, s6⟩ := s
  exact ⟨s1.kept fun q h1 h2 => f q (by rw [X7_Z] at h2; omega), n, s3.kept fun q h1 h2 => f q (by omega), s4.kept fun q h1 h2 => f q (by omega), s5.kept fun q h1 h2 => f q (by omega), s6.kept fun q h1 h2 => f q (by omega)⟩
theorem SC.u6 (s : SC h c) (f : Fr h h' (c + 60) (c + 60 + 8)) (n : OBx h' (c + 60) 6 ptL) : SC h' c := by
  obtain ⟨s1, s2, s3, s4, s5, s6⟩ := s
  exact ⟨s1.kept fun q h1 h2 => f q (by rw [X7_Z] at h2; omega), s2.kept fun q h1 h2 => f q (by rw [X8_Z] at h2; omega), n, s4.kept fun q h1 h2 => f q (by omega), s5.kept fun q h1 h2 => f q (by omega), s6.kept fun q h1 h2 => f q (by omega)⟩
theorem SC.u5 (s : SC h c) (f : Fr h h' (c + 68) (c + 68 + 3)) (n : OBx h' (c + 68) 5 odL) : SC h' c := by
  obtain ⟨s1, s2, s3, s4, s5, s6⟩ := s
  exact ⟨s1.kept fun q h1 h2 => f q (by rw [X7_Z] at h2; omega), s2.kept fun q h1 h2 => f q (by rw [X8_Z] at h2; omega), s3.kept fun q h1 h2 => f q (by rw [X6_Z] at h2; omega), n, s5.kept fun q h1 h2 => f q (by omega), s6.kept fun q h1 h2 => f q (by omega)⟩
theorem SC.u4 (s : SC h c) (f : Fr h h' (c + 71) (c + 71 + 5)) (n : OBx h' (c + 71) 4 mgL) : SC h' c := by
  obtain ⟨s1, s2, s3, s4, s5, s6⟩ := s
  exact ⟨s1.kept fun q h1 h2 => f q (by rw [X7_Z] at h2; omega), s2.kept fun q h1 h2 => f q (by rw [X8_Z] at h2; omega), s3.kept fun q h1 h2 => f q (by rw [X6_Z] at h2; omega), s4.kept fun q h1 h2 => f q (by rw [X5_Z] at h2; omega), n, s6.kept fun q h1 h2 => f q (by omega)⟩
theorem SC.u2 (s : SC h c) (f : Fr h h' (c + 76) (c + 76 + 4)) (n : OBx h' (c + 76) 2 fiL) : SC h' c := by
  obtain ⟨s1, s2, s3, s4, s5, s6⟩ := s
  exact ⟨s1.kept fun q h1 h2 => f q (by rw [X7_Z] at h2; omega), s2.kept fun q h1 h2 => f q (by rw [X8_Z] at h2; omega), s3.kept fun q h1 h2 => f q (by rw [X6_Z] at h2; omega), s4.kept fun q h1 h2 => f q (by rw [X5_Z] at h2; omega), s5.kept fun q h1 h2 => f q (by rw [X4_Z] at h2; omega), n⟩
end SCS
