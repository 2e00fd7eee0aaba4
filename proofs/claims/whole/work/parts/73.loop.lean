/-! ===== calls: loop, lost ===== -/
/-- the line that comes next if one follows none -/
def nw (m : MB) (w : Option Nat) (l : Nat) : Option Nat := match (mbF m l)[0]? with
  | none => none
  | some x => if some x = w then (mbF m l)[1]? else some x
/-- going on by next until nothing or a line again: how many lines, and what was met last -/
def lw (m : MB) (w : Option Nat) : Nat → Nat → Option Nat → Nat × Option Nat
  | 0, _, o => (0, o)
  | _ + 1, _, none => (0, none)
  | f + 1, S, some l => if tb S l = 1 then (0, some l) else ((lw m w f (S ||| 2 ^ l) (nw m w l)).1 + 1, (lw m w f (S ||| 2 ^ l) (nw m w l)).2)
def st0 (m : MB) : Option Nat := if mbL m = 0 then none else some 0
theorem st0_ok (m : MB) : okL m (st0 m) := by
  intro j hj
  unfold st0 at hj
  split at hj
  · cases hj
  · cases hj; omega
theorem nw_ok {m : MB} (ok : MBok m) {w : Option Nat} {l : Nat} (hl : l < mbL m) : okL m (nw m w l) := by
  unfold nw
  have h1 := okL_fol ok hl 0
  have h2 := okL_fol ok hl 1
  split
  · exact okL_none m
  · next x hx =>
    split
    · exact h2
    · rw [← hx]; exact h1
theorem lw_le (m : MB) (w : Option Nat) : ∀ f S o, (lw m w f S o).1 ≤ f := by
  intro f
  induction f with
  | zero => intro S o; exact Nat.le_refl _
  | succ f ih =>
    intro S o
    cases o with
    | none => exact Nat.zero_le _
    | some l =>
      unfold lw
      split
      · exact Nat.zero_le _
      · have := ih (S ||| 2 ^ l) (nw m w l)
        dsimp only
        omega
theorem oI_none : oI none = m1 := rfl
theorem oI_some (j : Nat) : oI (some j) = nI j := rfl
/-- a line or none as simp wants it -/
theorem c_nw {h : qH} {a : Nat} {m : MB} (c : CB h a m) {w : Option Nat} (hw : okL m w) {l : Nat} (hl : l < mbL m) : F_X0_nextWithout h a (nI l) (oI w) = some (oI (nw m w l)) := by
  have ok := c.1
  have hL := L_le ok
  have hf := fn_le ok hl
  unfold nw
  rcases Nat.eq_zero_or_pos (fn m l) with h0 | h0
  · rw [gg_none (Nat.le_of_eq h0), oI_none]
    simp (disch := omega) only [F_X0_nextWithout, cS c, nS]
  · rw [gg_some h0]
    have hg := gg_lt ok hl h0
    dsimp only
    by_cases hx : some (gg m l 0) = w
    · rw [if_pos hx, ← hx, oI_some]
      rcases Nat.lt_or_ge 1 (fn m l) with h1 | h1
      · rw [gg_some h1, oI_some]
        simp (disch := omega) only [F_X0_nextWithout, cS c, nS]
      · rw [gg_none h1, oI_none]
        simp (disch := omega) only [F_X0_nextWithout, cS c, nS]
    · rw [if_neg hx, oI_some]
      have hne : (nI (gg m l 0) = oI w) ↔ False := iff_of_false (fun e => hx ((oI_eq (okL_31 ok hw) (by omega)).mp e.symm).symm) id
      simp (disch := omega) only [F_X0_nextWithout, cS c, nS, hne]
theorem d_nw {h : qH} {a : Nat} {A : Nat → Nat → Int32} {B : Nat → Nat → Int64} {I : Nat → Int32} {J : Nat → Int64} {b : Nat → Int32} {k : Nat} (o : OB h a 12 mdL A B I J) (hb : HB A I b k) {w : Option Nat} (hw : okL (bMB b) w) {l : Nat} (hl : l < mbL (bMB b)) : F_X12_next h a (nI l) (oI w) = some (oI (nw (bMB b) w l)) := by
  have ok := bMB_ok hb.1
  have hL := L_le ok
  have hf := fn_le ok hl
  unfold nw
  rcases Nat.eq_zero_or_pos (fn (bMB b) l) with h0 | h0
  · rw [gg_none (Nat.le_of_eq h0), oI_none]
    by_cases hw0 : m1 = oI w
    · simp (disch := omega) only [F_X12_next, o.ob, d_pack o hb, nS, ← hw0]
    · simp (disch := omega) only [F_X12_next, o.ob, d_pack o hb, nS, hw0]
  · rw [gg_some h0]
    have hg := gg_lt ok hl h0
    dsimp only
    by_cases hx : some (gg (bMB b) l 0) = w
    · rw [if_pos hx, ← hx, oI_some]
      rcases Nat.lt_or_ge 1 (fn (bMB b) l) with h1 | h1
      · rw [gg_some h1, oI_some]
        simp (disch := omega) only [F_X12_next, o.ob, d_pack o hb, nS]
      · rw [gg_none h1, oI_none]
        simp (disch := omega) only [F_X12_next, o.ob, d_pack o hb, nS]
    · rw [if_neg hx, oI_some]
      have hne : (nI (gg (bMB b) l 0) = oI w) ↔ False := iff_of_false (fun e => hx ((oI_eq (okL_31 ok hw) (by omega)).mp e.symm).symm) id
      simp (disch := omega) only [F_X12_next, o.ob, d_pack o hb, nS, hne]
theorem c_lw {h : qH} {a : Nat} {m : MB} (c : CB h a m) {w : Option Nat} (hw : okL m w) : ∀ f N S o n, f < N → n + f = 20 → S < 2 ^ 20 → okL m o → q_lp (s_X0_lengthWithout_19 h a (oI w)) N (nI S, oI o, nI n) = some (nI (n + (lw m w f S o).1)) := by
  have ok := c.1
  have hL := L_le ok
  intro f
  induction f with
  | zero =>
    intro N S o n hN hn hS ho
    obtain ⟨N, rfl⟩ : ∃ N', N = N' + 1 := ⟨N - 1, by omega⟩
    refine q_lp_stop ?_
    simp (disch := omega) only [s_X0_lengthWithout_19, b_X0_lengthWithout_19, nS, lw]
    rfl
  | succ f ih =>
    intro N S o n hN hn hS ho
    obtain ⟨N, rfl⟩ : ∃ N', N = N' + 1 := ⟨N - 1, by omega⟩
    cases o with
    | none =>
      refine q_lp_stop ?_
      simp (disch := omega) only [s_X0_lengthWithout_19, b_X0_lengthWithout_19, nS, lw, cS c, oI_none]
      rfl
    | some l =>
      have hl := ho l rfl
      have ht := tb_le S l
      by_cases h1 : tb S l = 1
      · refine q_lp_stop ?_
        simp (disch := omega) only [s_X0_lengthWithout_19, b_X0_lengthWithout_19, nS, lw, cS c, oI_some, bS, h1]
        rfl
      · have hS2 := orp_lt (k := l) hS (by omega)
        have hp := p2_lt (k := l) (by omega)
        rw [q_lp_go (s' := (nI (S ||| 2 ^ l), oI (nw m w l), nI (n + 1)))]
        · rw [ih N _ _ _ (by omega) (by omega) hS2 (nw_ok ok hl)]
          simp only [lw, if_neg h1]
          rw [show n + 1 + (lw m w f (S ||| 2 ^ l) (nw m w l)).1 = n + ((lw m w f (S ||| 2 ^ l) (nw m w l)).1 + 1) by omega]
        · simp (disch := omega) only [s_X0_lengthWithout_19, b_X0_lengthWithout_19, nS, cS c, oI_some, bS, c_nw c hw hl]
theorem d_lw {h : qH} {a : Nat} {A : Nat → Nat → Int32} {B : Nat → Nat → Int64} {I : Nat → Int32} {J : Nat → Int64} {b : Nat → Int32} {k : Nat} (o : OB h a 12 mdL A B I J) (hb : HB A I b k) {w : Option Nat} (hw : okL (bMB b) w) : ∀ f N S q n, f < N → n + f < 2 ^ 31 → cz (mbL (bMB b)) S ≤ f → S < 2 ^ 20 → okL (bMB b) q → q_lp (s_X12_lengthWithout_18 h a (oI w)) N (nI S, nI n, oI q) = some (nI (n + (lw (bMB b) w f S q).1), oI (lw (bMB b) w f S q).2) := by
  have ok := bMB_ok hb.1
  have hL := L_le ok
  intro f
  induction f with
  | zero =>
    intro N S q n hN hn hc hS ho
    obtain ⟨N, rfl⟩ : ∃ N', N = N' + 1 := ⟨N - 1, by omega⟩
    refine q_lp_stop ?_
    cases q with
    | none =>
      simp (disch := omega) only [s_X12_lengthWithout_18, b_X12_lengthWithout_18, nS, lw, oI_none]
      rfl
    | some l =>
      have hl := ho l rfl
      have h1 := cz_0 (Nat.le_zero.mp hc) hl
      simp (disch := omega) only [s_X12_lengthWithout_18, b_X12_lengthWithout_18, nS, lw, oI_some, bS, h1]
      rfl
  | succ f ih =>
    intro N S q n hN hn hc hS ho
    obtain ⟨N, rfl⟩ : ∃ N', N = N' + 1 := ⟨N - 1, by omega⟩
    cases q with
    | none =>
      refine q_lp_stop ?_
      simp (disch := omega) only [s_X12_lengthWithout_18, b_X12_lengthWithout_18, nS, lw, oI_none]
      rfl
    | some l =>
      have hl := ho l rfl
      have ht := tb_le S l
      by_cases h1 : tb S l = 1
      · refine q_lp_stop ?_
        simp (disch := omega) only [s_X12_lengthWithout_18, b_X12_lengthWithout_18, nS, lw, oI_some, bS, h1]
        rfl
      · have hS2 := orp_lt (k := l) hS (by omega)
        have hp := p2_lt (k := l) (by omega)
        have hcz := cz_add hl (show tb S l = 0 by omega)
        rw [q_lp_go (s' := (nI (S ||| 2 ^ l), nI (n + 1), oI (nw (bMB b) w l)))]
        · rw [ih N _ _ _ (by omega) (by omega) (by omega) hS2 (nw_ok ok hl)]
          simp only [lw, if_neg h1]
          rw [show n + 1 + (lw (bMB b) w f (S ||| 2 ^ l) (nw (bMB b) w l)).1 = n + ((lw (bMB b) w f (S ||| 2 ^ l) (nw (bMB b) w l)).1 + 1) by omega]
        · simp (disch := omega) only [s_X12_lengthWithout_18, b_X12_lengthWithout_18, nS, oI_some, bS, o.ob, d_nw o hb hw hl]
theorem c_length {h : qH} {a : Nat} {m : MB} (c : CB h a m) {w : Option Nat} (hw : okL m w) : F_X0_lengthWithout h a (oI w) = some (nI (lw m w 20 0 (st0 m)).1) := by
  have ok := c.1
  have hL := L_le ok
  have key := c_lw c hw 20 q_N 0 (st0 m) 0 (q_lt_N (by omega)) (by omega) (by omega) (st0_ok m)
  rw [Nat.zero_add] at key
  rcases Nat.eq_zero_or_pos (mbL m) with h0 | h0
  · have e : oI (st0 m) = m1 := by unfold st0; rw [if_pos h0]; rfl
    rw [e] at key
    simp (disch := omega) only [F_X0_lengthWithout, j_X0_lengthWithout_15, cS c, nS, key]
  · have e : oI (st0 m) = nI 0 := by unfold st0; rw [if_neg (by omega)]; rfl
    rw [e] at key
    simp (disch := omega) only [F_X0_lengthWithout, j_X0_lengthWithout_15, cS c, nS, key]
theorem d_length {h : qH} {a : Nat} {A : Nat → Nat → Int32} {B : Nat → Nat → Int64} {I : Nat → Int32} {J : Nat → Int64} {b : Nat → Int32} {k : Nat} (o : OB h a 12 mdL A B I J) (hb : HB A I b k) {w : Option Nat} (hw : okL (bMB b) w) : ∃ h', F_X12_lengthWithout h a (oI w) = some (nI (lw (bMB b) w 20 0 (st0 (bMB b))).1, h') ∧ OB h' a 12 mdL A B (upd I 33 (oI (lw (bMB b) w 20 0 (st0 (bMB b))).2)) J ∧ Fr h h' a (a + 27) := by
  have ok := bMB_ok hb.1
  have hL := L_le ok
  have hcz := cz_le (mbL (bMB b)) 0
  have key := d_lw o hb hw 20 q_N 0 (st0 (bMB b)) 0 (q_lt_N (by omega)) (by omega) (by omega) (by omega) (st0_ok _)
  rw [Nat.zero_add] at key
  obtain ⟨h1, e1, o1, r1⟩ := X12_p33 o (oI (lw (bMB b) w 20 0 (st0 (bMB b))).2)
  refine ⟨h1, ?_, o1, r1⟩
  rcases Nat.eq_zero_or_pos (mbL (bMB b)) with h0 | h0
  · have e : oI (st0 (bMB b)) = m1 := by unfold st0; rw [if_pos h0]; rfl
    rw [e] at key
    simp (disch := omega) only [F_X12_lengthWithout, j_X12_lengthWithout_16, d_pack o hb, nS, key, e1]
  · have e : oI (st0 (bMB b)) = nI 0 := by unfold st0; rw [if_neg (by omega)]; rfl
    rw [e] at key
    simp (disch := omega) only [F_X12_lengthWithout, j_X12_lengthWithout_16, d_pack o hb, nS, key, e1]
