/-! ===== the cycle ===== -/
def itr (m : MB) : Nat → Option Nat → Option Nat
  | 0, o => o
  | n + 1, o => itr m n (nxt m o)
theorem itr_add (m : MB) (j k : Nat) (o : Option Nat) : itr m (j + k) o = itr m j (itr m k o) := by
  induction k generalizing o with
  | zero => rfl
  | succ k ih => exact ih (nxt m o)
theorem itr_comm (m : MB) (j k : Nat) (o : Option Nat) : itr m j (itr m k o) = itr m k (itr m j o) := by
  rw [← itr_add, ← itr_add, Nat.add_comm]
theorem itr_none (m : MB) (n : Nat) : itr m n none = none := by
  induction n with
  | zero => rfl
  | succ n ih => exact ih
theorem itr_ok {m : MB} (ok : MBok m) (n : Nat) {o : Option Nat} (ho : okL m o) : okL m (itr m n o) := by
  induction n generalizing o with
  | zero => exact ho
  | succ n ih => exact ih (okL_nxt ok ho)
theorem nw_nxt (m : MB) (l : Nat) : nw m none l = nxt m (some l) := by
  unfold nw
  show _ = (mbF m l)[0]?
  split
  · next h => exact h.symm
  · next x h =>
    rw [if_neg (by simp)]
    exact h.symm
/-- what is met last is nothing, or a line that was there -/
theorem lw_met {m : MB} (ok : MBok m) : ∀ f S o, cz (mbL m) S ≤ f → okL m o → (lw m none f S o).2 = itr m (lw m none f S o).1 o ∧ ((lw m none f S o).2 = none ∨ ∃ l, (lw m none f S o).2 = some l ∧ (tb S l = 1 ∨ ∃ i, i < (lw m none f S o).1 ∧ itr m i o = some l)) := by
  intro f
  induction f with
  | zero =>
    intro S o hc ho
    refine ⟨rfl, ?_⟩
    cases o with
    | none => exact Or.inl rfl
    | some l => exact Or.inr ⟨l, rfl, Or.inl (cz_0 (Nat.le_zero.mp hc) (ho l rfl))⟩
  | succ f ih =>
    intro S o hc ho
    cases o with
    | none => exact ⟨rfl, Or.inl rfl⟩
    | some l =>
      have hl := ho l rfl
      by_cases h1 : tb S l = 1
      · simp only [lw, if_pos h1]
        exact ⟨rfl, Or.inr ⟨l, rfl, Or.inl h1⟩⟩
      · have ht := tb_le S l
        have hcz := cz_add hl (show tb S l = 0 by omega)
        have h2 := ih (S ||| 2 ^ l) (nw m none l) (by omega) (nw_ok ok hl)
        simp only [lw, if_neg h1]
        refine ⟨by rw [h2.1]; rw [nw_nxt]; rfl, ?_⟩
        rcases h2.2 with h3 | ⟨x, h3, h4⟩
        · exact Or.inl h3
        · refine Or.inr ⟨x, h3, ?_⟩
          rcases h4 with h4 | ⟨i, hi, h4⟩
          · rw [tb_or, tb_pow] at h4
            by_cases h5 : tb S x = 1
            · exact Or.inl h5
            · refine Or.inr ⟨0, by omega, ?_⟩
              by_cases h6 : x = l
              · rw [h6]; rfl
              · rw [if_neg h6, if_neg (by omega)] at h4
                omega
          · exact Or.inr ⟨i + 1, by omega, by rw [← h4, nw_nxt]; rfl⟩
/-- the first return -/
theorem first_ret {P : Nat → Prop} {N : Nat} (hN : 0 < N) (hP : P N) : ∃ p, 0 < p ∧ p ≤ N ∧ P p ∧ ∀ q, 0 < q → q < p → ¬ P q := by
  obtain ⟨k, hk, hmin⟩ := pk_least (fun k => 0 < k ∧ P k) ⟨N, hN, hP⟩
  refine ⟨k, hk.1, ?_, hk.2, fun q h1 h2 h3 => hmin q h2 ⟨h1, h3⟩⟩
  rcases Nat.lt_or_ge N k with h | h
  · exact absurd ⟨hN, hP⟩ (hmin N h)
  · exact h
theorem itr_per {m : MB} {o : Option Nat} {P : Nat} (hP : itr m P o = o) (j : Nat) : itr m (P * j) o = o := by
  induction j with
  | zero => rfl
  | succ j ih => rw [Nat.mul_succ, itr_add, hP, ih]
/-- all lines of a cycle come back after as many steps -/
theorem itr_same {m : MB} {o : Option Nat} {P : Nat} (hP0 : 0 < P) (hP : itr m P o = o) (k p : Nat) : itr m p (itr m k o) = itr m k o ↔ itr m p o = o := by
  constructor
  · intro h
    have h1 : itr m (P * k - k + k) o = o := by
      rw [Nat.sub_add_cancel (Nat.le_mul_of_pos_left k hP0)]
      exact itr_per hP k
    calc itr m p o = itr m p (itr m (P * k - k + k) o) := by rw [h1]
      _ = itr m p (itr m (P * k - k) (itr m k o)) := by rw [itr_add]
      _ = itr m (P * k - k) (itr m p (itr m k o)) := itr_comm _ _ _ _
      _ = itr m (P * k - k) (itr m k o) := by rw [h]
      _ = o := by rw [← itr_add, h1]
  · intro h
    rw [itr_comm, h]
/-- both ways of counting the cycle -/
theorem cyc_spec {m : MB} (ok : MBok m) : ((lw m none 20 0 (st0 m)).2 = none ∧ itr m 20 (st0 m) = none) ∨ ∃ l x p, (lw m none 20 0 (st0 m)).2 = some l ∧ l < mbL m ∧ itr m 20 (st0 m) = some x ∧ x < mbL m ∧ 0 < p ∧ p ≤ 20 ∧ itr m p (some l) = some l ∧ (∀ q, 0 < q → q < p → itr m q (some l) ≠ some l) ∧ itr m p (some x) = some x ∧ (∀ q, 0 < q → q < p → itr m q (some x) ≠ some x) := by
  have hL := L_le ok
  have hcz := cz_le (mbL m) 0
  have h1 := lw_met ok 20 0 (st0 m) (by omega) (st0_ok m)
  have hle := lw_le m none 20 0 (st0 m)
  obtain ⟨n, hn⟩ : ∃ n, n = (lw m none 20 0 (st0 m)).1 := ⟨_, rfl⟩
  rw [← hn] at h1 hle
  have h20 : itr m 20 (st0 m) = itr m (20 - n) (itr m n (st0 m)) := by rw [← itr_add, Nat.sub_add_cancel hle]
  rcases h1.2 with h2 | ⟨l, h2, h3⟩
  · refine Or.inl ⟨h2, ?_⟩
    rw [h20, ← h1.1, h2, itr_none]
  · rcases h3 with h3 | ⟨i, hi, h3⟩
    · rw [tb_0] at h3; omega
    · have hs : itr m n (st0 m) = some l := by rw [← h1.1, h2]
      have hp : itr m (n - i) (some l) = some l := by
        rw [← h3, ← itr_add, Nat.sub_add_cancel (by omega), hs, h3]
      have hk := itr_ok ok n (st0_ok m)
      rw [hs] at hk
      obtain ⟨p, p1, p2, p3, p4⟩ := first_ret (P := fun p => itr m p (some l) = some l) (N := n - i) (by omega) hp
      have hx : itr m 20 (st0 m) = itr m (20 - n) (some l) := by rw [h20, hs]
      have hsame := fun p => itr_same (m := m) (o := some l) (P := n - i) (by omega) hp (20 - n) p
      have hxs : ∃ x, itr m 20 (st0 m) = some x := by
        cases hh : itr m 20 (st0 m) with
        | some x => exact ⟨x, rfl⟩
        | none =>
          rw [hx] at hh
          have := (hsame 1).mp (by rw [hh]; exact itr_none m 1)
          have h6 : itr m (20 - n) (some l) = some l := by
            generalize 20 - n = q at *
            clear hh hsame hx h20
            induction q with
            | zero => rfl
            | succ q ih =>
              show itr m q (nxt m (some l)) = some l
              rw [show nxt m (some l) = some l from this]
              exact ih
          rw [h6] at hh
          cases hh
      obtain ⟨x, hxx⟩ := hxs
      have hxo := itr_ok ok 20 (st0_ok m)
      rw [hxx] at hxo
      rw [hx] at hxx
      rw [hxx] at hsame
      exact Or.inr ⟨l, x, p, h2, hk l rfl, by rw [hx, hxx], hxo x rfl, p1, by omega, p3, p4, (hsame p).mpr p3, fun q q1 q2 q3 => p4 q q1 q2 ((hsame q).mp q3)⟩
theorem itr_succ (m : MB) (n : Nat) (o : Option Nat) : itr m (n + 1) o = nxt m (itr m n o) := by
  rw [Nat.add_comm, itr_add]
  rfl
theorem d_beh0 {h : qH} {a : Nat} {A : Nat → Nat → Int32} {B : Nat → Nat → Int64} {I : Nat → Int32} {J : Nat → Int64} {b : Nat → Int32} {k : Nat} (o : OB h a 12 mdL A B I J) (hb : HB A I b k) {l : Nat} (hl : l < mbL (bMB b)) : F_X12_behind h a (nI l) (nI 0) = some (oI (nxt (bMB b) (some l))) := by
  have hL := L_le (bMB_ok hb.1)
  rcases Nat.eq_zero_or_pos (fn (bMB b) l) with h0 | h0
  · rw [nx_none h0]
    simp (disch := omega) only [d_pack o hb]
    rfl
  · rw [nx_some h0]
    simp (disch := omega) only [d_pack o hb]
    rfl
theorem c_loop {h : qH} {a : Nat} {m : MB} (c : CB h a m) : ((lw m none 20 0 (st0 m)).2 = none ∧ F_X0_lengthOfLoop h a = some (nI 0)) ∨ ∃ l p, (lw m none 20 0 (st0 m)).2 = some l ∧ l < mbL m ∧ 0 < p ∧ p ≤ 20 ∧ itr m p (some l) = some l ∧ (∀ q, 0 < q → q < p → itr m q (some l) ≠ some l) ∧ F_X0_lengthOfLoop h a = some (nI p) := by
  have ok := c.1
  have hL := L_le ok
  have l1 : q_lp (s_X0_lengthOfLoop_16 h a) q_N (oI (st0 m), nI 0) = some (oI (itr m 20 (st0 m))) := by
    refine q_lp_for (fun i => (oI (itr m i (st0 m)), nI i)) 20 (fun i hi => ?_) ?_ q_N (by decide)
    · simp (disch := omega) only [s_X0_lengthOfLoop_16, b_X0_lengthOfLoop_16, nS, cS c, c_next c (itr_ok ok i (st0_ok m)), itr_succ]
    · simp (disch := omega) only [s_X0_lengthOfLoop_16, b_X0_lengthOfLoop_16, nS]
  have key : F_X0_lengthOfLoop h a = j_X0_lengthOfLoop_13 h a (oI (st0 m)) := by
    rcases Nat.eq_zero_or_pos (mbL m) with h0 | h0
    · have e : oI (st0 m) = m1 := by unfold st0; rw [if_pos h0]; rfl
      rw [e]
      simp (disch := omega) only [F_X0_lengthOfLoop, cS c, nS]
    · have e : oI (st0 m) = nI 0 := by unfold st0; rw [if_neg (by omega)]; rfl
      rw [e]
      simp (disch := omega) only [F_X0_lengthOfLoop, cS c, nS]
  rcases cyc_spec ok with ⟨h1, h2⟩ | ⟨l, x, p, h1, hl, h2, hx, p1, p2, p3, p4, p5, p6⟩
  · refine Or.inl ⟨h1, ?_⟩
    rw [key]
    simp (disch := omega) only [j_X0_lengthOfLoop_13, nS, l1, h2, oI_none, cS c]
  · refine Or.inr ⟨l, p, h1, hl, p1, p2, p3, p4, ?_⟩
    have hxo : okL m (some x) := fun j hj => by cases hj; exact hx
    have l2 : q_lp (s_X0_lengthOfLoop_52 h a (nI x)) q_N (oI (itr m 1 (some x)), nI 1) = some (nI p) := by
      refine q_lp_for (fun i => (oI (itr m (i + 1) (some x)), nI (i + 1))) (p - 1) (fun i hi => ?_) ?_ q_N (q_lt_N (by omega))
      · have hne : (oI (itr m (i + 1) (some x)) = nI x) ↔ False := iff_of_false (fun e => p6 (i + 1) (by omega) (by omega) ((oI_eq (okL_31 ok (itr_ok ok _ hxo)) (by omega)).mp e)) id
        simp (disch := omega) only [s_X0_lengthOfLoop_52, b_X0_lengthOfLoop_52, nS, cS c, c_next c (itr_ok ok (i + 1) hxo), hne, itr_succ m (i + 1)]
      · rw [Nat.sub_add_cancel p1, p5]
        simp (disch := omega) only [s_X0_lengthOfLoop_52, b_X0_lengthOfLoop_52, nS, oI_some]
    have hn := c_next c hxo
    rw [oI_some] at hn
    rw [show itr m 1 (some x) = nxt m (some x) from rfl] at l2
    rw [key]
    simp (disch := omega) only [j_X0_lengthOfLoop_13, nS, l1, h2, oI_some, cS c, hn, l2]
theorem d_loop {h : qH} {a : Nat} {A : Nat → Nat → Int32} {B : Nat → Nat → Int64} {I : Nat → Int32} {J : Nat → Int64} {b : Nat → Int32} {k : Nat} (o : OB h a 12 mdL A B I J) (hb : HB A I b k) {l p : Nat} (hl : l < mbL (bMB b)) (i33 : I 33 = nI l) (p1 : 0 < p) (p2 : p ≤ 20) (p3 : itr (bMB b) p (some l) = some l) (p4 : ∀ q, 0 < q → q < p → itr (bMB b) q (some l) ≠ some l) : q_lp (s_X12_loop_36 h a) q_N (nI 0, nI l) = some (nI p) := by
  have ok := bMB_ok hb.1
  have hL := L_le ok
  have hlo : okL (bMB b) (some l) := fun j hj => by cases hj; exact hl
  have hsm : ∀ i, i ≤ p → ∃ y, itr (bMB b) i (some l) = some y ∧ y < mbL (bMB b) := fun i hi => by
    cases hh : itr (bMB b) i (some l) with
    | none =>
      have : itr (bMB b) p (some l) = none := by
        rw [← Nat.sub_add_cancel hi, itr_add, hh, itr_none]
      rw [p3] at this
      cases this
    | some y => exact ⟨y, rfl, itr_ok ok i hlo y hh⟩
  refine q_lp_for (fun i => (nI i, oI (itr (bMB b) i (some l)))) p (fun i hi => ?_) ?_ q_N (q_lt_N (by omega))
  · obtain ⟨y, hy, hyl⟩ := hsm i (by omega)
    rw [itr_succ, hy, oI_some]
    rcases Nat.eq_zero_or_pos i with rfl | h0
    · simp (disch := omega) only [s_X12_loop_36, b_X12_loop_36, j_X12_loop_56, nS, o.ob, d_beh0 o hb hyl]
    · have hne : y ≠ l := fun e => p4 i h0 hi (by rw [hy, e])
      simp (disch := omega) only [s_X12_loop_36, b_X12_loop_36, j_X12_loop_56, nS, X12_rd o, i33, d_beh0 o hb hyl]
  · rw [p3, oI_some]
    simp (disch := omega) only [s_X12_loop_36, b_X12_loop_36, nS, X12_rd o, i33]
section CALLS
variable {h : qH} {c nx : Nat} {σ : SG} {im : Nat → Option SG}
theorem q_loop (s : ST h c nx σ im) (x y : Int32) : QR h c nx σ im (F_X11_loop h c x y) (F_X12_loop h (c + 80) x y) := by
  obtain ⟨ok, ⟨xc, td, -, -⟩, rm, -⟩ := s
  obtain ⟨h1, A, B, I, J, e1, o1, pm, ki, r1⟩ := rm.p0
  rcases nOut_or x (n := sC σ 0) (by have := ok.2.1 0 (by omega); omega) with hx | ⟨k, hk, rfl⟩
  · obtain ⟨h2, e2, rm2, r2⟩ := hand_out o1 pm ki ok hx
    refine ⟨m1, h2, ?_, ?_, r1.tr r2, rm2⟩
    · simp (disch := omega) only [F_X11_loop, xS xc, tS td, nS, t_bookOut td hx]
    · simp (disch := omega) only [F_X12_loop, nS, e1, o1.ob, e2]
  · obtain ⟨h2, A2, I2, e2, o2, hb, pm2, ki2, r2⟩ := hand_in o1 pm ki ok hk
    have cb := t_CB td ok hk
    have okm := cb.1
    have hL := L_le okm
    obtain ⟨b, hbe⟩ : ∃ b, b = sB σ k := ⟨_, rfl⟩
    rw [← hbe] at hb cb okm hL
    obtain ⟨h3, e3, o3, r3⟩ := d_length o2 hb (w := none) (okL_none _)
    have e4 := c_length cb (w := none) (okL_none _)
    rw [oI_none] at e3 e4
    have hr : RM h3 (c + 80) σ im := ⟨A2, B, _, J, o3, pm2, ki2⟩
    have hb3 := hb.cg (A' := A2) (I' := upd I2 33 (oI (lw (bMB b) none 20 0 (st0 (bMB b))).2)) rfl rfl rfl rfl rfl
    by_cases hy : y = nI 0
    · subst hy
      rcases c_loop cb with ⟨q1, q2⟩ | ⟨l, p, q1, hl, p1, p2, p3, p4, q2⟩
      · refine ⟨nI 0, h3, ?_, ?_, (r1.tr r2).tr r3, hr⟩
        · simp (disch := omega) only [F_X11_loop, xS xc, tS td, nS, t_bookIn td ok hk, cb.ob, q2]
        · have i33 : upd I2 33 (oI (lw (bMB b) none 20 0 (st0 (bMB b))).2) 33 = m1 := by rw [q1]; rfl
          have hl0 : q_lp (s_X12_loop_36 h3 (c + 80)) q_N (nI 0, m1) = some (nI 0) := q_lp_stop (n := 999999) (by
            simp (disch := omega) only [s_X12_loop_36, b_X12_loop_36, nS])
          simp (disch := omega) only [F_X12_loop, nS, e1, o1.ob, e2, o2.ob, e3, X12_rd o3, i33, hl0]
      · refine ⟨nI p, h3, ?_, ?_, (r1.tr r2).tr r3, hr⟩
        · simp (disch := omega) only [F_X11_loop, xS xc, tS td, nS, t_bookIn td ok hk, cb.ob, q2]
        · have i33 : upd I2 33 (oI (lw (bMB b) none 20 0 (st0 (bMB b))).2) 33 = nI l := by rw [q1]; rfl
          have hl0 := d_loop o3 hb3 hl i33 p1 p2 p3 p4
          simp (disch := omega) only [F_X12_loop, nS, e1, o1.ob, e2, o2.ob, e3, X12_rd o3, i33, hl0]
    · have hy' : (y = nI 0) ↔ False := iff_of_false hy id
      refine ⟨nI (lw (bMB b) none 20 0 (st0 (bMB b))).1, h3, ?_, ?_, (r1.tr r2).tr r3, hr⟩
      · simp (disch := omega) only [F_X11_loop, xS xc, tS td, nS, t_bookIn td ok hk, cb.ob, hy', e4]
      · simp (disch := omega) only [F_X12_loop, nS, e1, o1.ob, e2, o2.ob, e3, hy']
/-- how long it is without a line; the first of those without which it is shortest -/
def ln (m : MB) (w : Nat) : Nat := (lw m (some w) 20 0 (st0 m)).1
def bst (m : MB) : Nat → Nat
  | 0 => 1
  | i + 1 => if ln m (i + 2) < ln m (bst m i) then i + 2 else bst m i
theorem bst_le (m : MB) (i : Nat) : 0 < bst m i ∧ bst m i ≤ i + 1 := by
  induction i with
  | zero => exact ⟨by simp [bst], by simp [bst]⟩
  | succ i ih =>
    unfold bst
    split <;> omega
theorem ln_le (m : MB) (w : Nat) : ln m w ≤ 20 := lw_le _ _ _ _ _
theorem c_ln {a : Nat} {m : MB} (cb : CB h a m) {w : Nat} (hw : w < mbL m) : F_X0_lengthWithout h a (nI w) = some (nI (ln m w)) := c_length cb (w := some w) (fun j hj => by cases hj; exact hw)
theorem c_short {a : Nat} {m : MB} (cb : CB h a m) (h2 : 2 ≤ mbL m) : F_X0_shortestWithout h a = some (nI (bst m (mbL m - 2))) := by
  have ok := cb.1
  have hL := L_le ok
  have key : q_lp (s_X0_shortestWithout_7 h a) q_N (m1, nI 1000000, nI 1) = some (nI (bst m (mbL m - 2))) := by
    have hl1 := ln_le m 1
    rw [show q_N = 999999 + 1 from rfl, q_lp_go (s' := (nI 1, nI (ln m 1), nI 2))]
    · refine q_lp_for (fun i => (nI (bst m i), nI (ln m (bst m i)), nI (i + 2))) (mbL m - 2) (fun i hi => ?_) ?_ _ (by omega)
      · have hl := ln_le m (i + 2)
        have hl2 := ln_le m (bst m i)
        have hc := c_ln cb (w := i + 2) (by omega)
        show s_X0_shortestWithout_7 h a (nI (bst m i), nI (ln m (bst m i)), nI (i + 2)) = _
        by_cases hh : ln m (i + 2) < ln m (bst m i)
        · simp (disch := omega) only [s_X0_shortestWithout_7, b_X0_shortestWithout_7, nS, cS cb, hc, bst]
        · simp (disch := omega) only [s_X0_shortestWithout_7, b_X0_shortestWithout_7, nS, cS cb, hc, bst]
      · show s_X0_shortestWithout_7 h a (nI (bst m (mbL m - 2)), nI (ln m (bst m (mbL m - 2))), nI (mbL m - 2 + 2)) = _
        simp (disch := omega) only [s_X0_shortestWithout_7, b_X0_shortestWithout_7, nS, cS cb]
    · have hc := c_ln cb (w := 1) (by omega)
      simp (disch := omega) only [s_X0_shortestWithout_7, b_X0_shortestWithout_7, nS, cS cb, hc]
  simp (disch := omega) only [F_X0_shortestWithout, nS, key]
theorem q_lost (s : ST h c nx σ im) (x y : Int32) : QR h c nx σ im (F_X11_lost h c x y) (F_X12_lost h (c + 80) x y) := by
  obtain ⟨ok, ⟨xc, td, -, -⟩, rm, -⟩ := s
  obtain ⟨h1, A, B, I, J, e1, o1, pm, ki, r1⟩ := rm.p0
  rcases nOut_or x (n := sC σ 0) (by have := ok.2.1 0 (by omega); omega) with hx | ⟨k, hk, rfl⟩
  · obtain ⟨h2, e2, rm2, r2⟩ := hand_out o1 pm ki ok hx
    refine ⟨m1, h2, ?_, ?_, r1.tr r2, rm2⟩
    · simp (disch := omega) only [F_X11_lost, xS xc, tS td, nS, t_bookOut td hx]
    · simp (disch := omega) only [F_X12_lost, nS, e1, o1.ob, e2]
  · obtain ⟨h2, A2, I2, e2, o2, hb, pm2, ki2, r2⟩ := hand_in o1 pm ki ok hk
    have cb := t_CB td ok hk
    have okm := cb.1
    have hL := L_le okm
    obtain ⟨b, hbe⟩ : ∃ b, b = sB σ k := ⟨_, rfl⟩
    rw [← hbe] at hb cb okm hL
    rcases Nat.lt_or_ge (mbL (bMB b)) 2 with hL2 | hL2
    · refine ⟨m1, h2, ?_, ?_, r1.tr r2, ⟨A2, B, I2, J, o2, pm2, ki2⟩⟩
      · simp (disch := omega) only [F_X11_lost, xS xc, tS td, nS, t_bookIn td ok hk, cS cb]
      · simp (disch := omega) only [F_X12_lost, nS, e1, o1.ob, e2, d_pack o2 hb]
    have e3 := c_short cb hL2
    have d_ln : ∀ {h' : qH} {I' : Nat → Int32}, OB h' (c + 80) 12 mdL A2 B I' J → HB A2 I' b k → ∀ w, w < mbL (bMB b) → ∃ h'' I'', F_X12_lengthWithout h' (c + 80) (nI w) = some (nI (ln (bMB b) w), h'') ∧ OB h'' (c + 80) 12 mdL A2 B I'' J ∧ HB A2 I'' b k ∧ Fr h' h'' (c + 80) (c + 80 + 27) := by
      intro h' I' o' hb' w hw
      obtain ⟨h4, e4, o4, r4⟩ := d_length o' hb' (w := some w) (fun j hj => by cases hj; exact hw)
      exact ⟨h4, _, e4, o4, hb'.cg rfl rfl rfl rfl rfl, r4⟩
    have lp : ∃ r, q_lp (s_X12_lost_28 (c + 80) y) q_N (nI 1, nI 2, h2) = some r ∧ r.1 = nI (bst (bMB b) (mbL (bMB b) - 2)) ∧ ∃ I', OB r.2 (c + 80) 12 mdL A2 B I' J ∧ HB A2 I' b k ∧ Fr h2 r.2 (c + 80) (c + 80 + 27) := by
      refine q_lp_idx (fun i s => s.1 = nI (bst (bMB b) i) ∧ s.2.1 = nI (i + 2) ∧ ∃ I', OB s.2.2 (c + 80) 12 mdL A2 B I' J ∧ HB A2 I' b k ∧ Fr h2 s.2.2 (c + 80) (c + 80 + 27)) (mbL (bMB b) - 2) _ ?_ ?_ q_N (nI 1, nI 2, h2) ⟨rfl, rfl, I2, o2, hb, Fr.rf⟩ (q_lt_N (by omega))
      · rintro i ⟨x1, x2, hh⟩ hi ⟨hx1, hx2, I', o', hb', r'⟩
        dsimp only at hx1 hx2 o' r'
        subst hx1 hx2
        have hbl := bst_le (bMB b) i
        obtain ⟨h4, I4, e4, o4, hb4, r4⟩ := d_ln o' hb' (i + 2) (by omega)
        obtain ⟨h5, I5, e5, o5, hb5, r5⟩ := d_ln o4 hb4 (bst (bMB b) i) (by omega)
        have q1 := ln_le (bMB b) (i + 2)
        have q2 := ln_le (bMB b) (bst (bMB b) i)
        refine ⟨(nI (bst (bMB b) (i + 1)), nI (i + 1 + 2), h5), ?_, rfl, rfl, I5, o5, hb5, (r'.tr r4).tr r5⟩
        by_cases hh : ln (bMB b) (i + 2) < ln (bMB b) (bst (bMB b) i)
        · simp (disch := omega) only [s_X12_lost_28, b_X12_lost_28, nS, d_pack o' hb', o'.ob, e4, o4.ob, e5, bst]
        · simp (disch := omega) only [s_X12_lost_28, b_X12_lost_28, nS, d_pack o' hb', o'.ob, e4, o4.ob, e5, bst]
      · rintro ⟨x1, x2, hh⟩ ⟨hx1, hx2, I', o', hb', r'⟩
        dsimp only at hx1 hx2 o' r'
        subst hx1 hx2
        refine ⟨(nI (bst (bMB b) (mbL (bMB b) - 2)), hh), ?_, rfl, I', o', hb', r'⟩
        simp (disch := omega) only [s_X12_lost_28, b_X12_lost_28, nS, d_pack o' hb']
    obtain ⟨⟨r, h4⟩, e4, hr, I4, o4, hb4, r4⟩ := lp
    dsimp only at hr o4 r4
    subst hr
    have hbl := bst_le (bMB b) (mbL (bMB b) - 2)
    by_cases hy : y = nI 0
    · subst hy
      refine ⟨nI (bst (bMB b) (mbL (bMB b) - 2)), h4, ?_, ?_, (r1.tr r2).tr r4, ⟨A2, B, I4, J, o4, pm2, ki2⟩⟩
      · simp (disch := omega) only [F_X11_lost, xS xc, tS td, nS, t_bookIn td ok hk, cS cb, e3]
      · simp (disch := omega) only [F_X12_lost, nS, e1, o1.ob, e2, d_pack o2 hb, e4]
    · have hy' : (y = nI 0) ↔ False := iff_of_false hy id
      obtain ⟨h5, I5, e5, o5, hb5, r5⟩ := d_ln o4 hb4 (bst (bMB b) (mbL (bMB b) - 2)) (by omega)
      have e6 := c_ln cb (w := bst (bMB b) (mbL (bMB b) - 2)) (by omega)
      refine ⟨nI (ln (bMB b) (bst (bMB b) (mbL (bMB b) - 2))), h5, ?_, ?_, ((r1.tr r2).tr r4).tr r5, ⟨A2, B, I5, J, o5, pm2, ki2⟩⟩
      · simp (disch := omega) only [F_X11_lost, xS xc, tS td, nS, t_bookIn td ok hk, cS cb, e3, hy', e6]
      · simp (disch := omega) only [F_X12_lost, nS, e1, o1.ob, e2, d_pack o2 hb, e4, hy', o4.ob, e5]
end CALLS
