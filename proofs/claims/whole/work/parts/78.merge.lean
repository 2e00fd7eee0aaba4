/-! ===== two rows of people, the shortest row that has both ===== -/
/-- by how many are left of both -/
def lef (u v : Nat → Nat) (p q : Nat) : Nat → Nat → Nat
  | 0, b => b
  | a + 1, 0 => a + 1
  | a + 1, b + 1 => if u (p - (a + 1)) = v (q - (b + 1)) then 1 + lef u v p q a b else 1 + min (lef u v p q a (b + 1)) (lef u v p q (a + 1) b)
termination_by a b => a + b
def S2 (u v : Nat → Nat) (p q i j : Nat) : Nat := lef u v p q (p - i) (q - j)
section MERGE
variable {u v : Nat → Nat} {p q : Nat}
theorem S2_p (j : Nat) : S2 u v p q p j = q - j := by unfold S2; rw [Nat.sub_self, lef]
theorem S2_q {i : Nat} (hi : i < p) : S2 u v p q i q = p - i := by
  unfold S2
  rw [Nat.sub_self]
  obtain ⟨a, ha⟩ : ∃ a, p - i = a + 1 := ⟨p - i - 1, by omega⟩
  rw [ha, lef]
theorem S2_r {i j : Nat} (hi : i < p) (hj : j < q) : S2 u v p q i j = if u i = v j then 1 + S2 u v p q (i + 1) (j + 1) else 1 + min (S2 u v p q (i + 1) j) (S2 u v p q i (j + 1)) := by
  unfold S2
  obtain ⟨a, ha⟩ : ∃ a, p - i = a + 1 := ⟨p - i - 1, by omega⟩
  obtain ⟨b, hb⟩ : ∃ b, q - j = b + 1 := ⟨q - j - 1, by omega⟩
  rw [ha, hb, lef, show p - (a + 1) = i by omega, show q - (b + 1) = j by omega, show p - (i + 1) = a by omega, show q - (j + 1) = b by omega]
theorem S2_le : ∀ n i j, (p - i) + (q - j) ≤ n → i ≤ p → j ≤ q → S2 u v p q i j ≤ (p - i) + (q - j) := by
  intro n
  induction n with
  | zero =>
    intro i j hn hi hj
    rw [show i = p by omega, S2_p]; omega
  | succ n ih =>
    intro i j hn hi hj
    rcases Nat.lt_or_ge i p with h1 | h1
    · rcases Nat.lt_or_ge j q with h2 | h2
      · rw [S2_r h1 h2]
        have a1 := ih (i + 1) (j + 1) (by omega) (by omega) (by omega)
        have a2 := ih (i + 1) j (by omega) (by omega) (by omega)
        split <;> omega
      · rw [show j = q by omega, S2_q h1]; omega
    · rw [show i = p by omega, S2_p]; omega
theorem S2_0 : ∀ n i j, (p - i) + (q - j) ≤ n → i ≤ p → j ≤ q → (S2 u v p q i j = 0 ↔ i = p ∧ j = q) := by
  intro n i j hn hi hj
  rcases Nat.lt_or_ge i p with h1 | h1
  · rcases Nat.lt_or_ge j q with h2 | h2
    · rw [S2_r h1 h2]
      split <;> omega
    · rw [show j = q by omega, S2_q h1]; omega
  · rw [show i = p by omega, S2_p]; omega
/-- whether the next is one of both; whether it is the one's -/
def shr (u v : Nat → Nat) (p q : Nat) (w : Nat × Nat) : Bool := decide (w.1 < p ∧ w.2 < q ∧ u w.1 = v w.2)
def fon (u v : Nat → Nat) (p q : Nat) (w : Nat × Nat) : Bool := shr u v p q w || (if p ≤ w.1 ∨ q ≤ w.2 then decide (w.1 < p) else decide (S2 u v p q (w.1 + 1) w.2 < S2 u v p q w.1 (w.2 + 1) ∨ (S2 u v p q (w.1 + 1) w.2 = S2 u v p q w.1 (w.2 + 1) ∧ u w.1 < v w.2)))
def stp (u v : Nat → Nat) (p q : Nat) (w : Nat × Nat) : Nat × Nat := (w.1 + (if fon u v p q w then 1 else 0), w.2 + (if shr u v p q w || !fon u v p q w then 1 else 0))
def vlu (u v : Nat → Nat) (p q : Nat) (w : Nat × Nat) : Nat := if fon u v p q w then u w.1 else v w.2
def wlk (u v : Nat → Nat) (p q : Nat) : Nat → Nat × Nat
  | 0 => (0, 0)
  | s + 1 => stp u v p q (wlk u v p q s)
theorem stp_S {i j : Nat} (hi : i ≤ p) (hj : j ≤ q) (h0 : S2 u v p q i j ≠ 0) : (stp u v p q (i, j)).1 ≤ p ∧ (stp u v p q (i, j)).2 ≤ q ∧ S2 u v p q (stp u v p q (i, j)).1 (stp u v p q (i, j)).2 + 1 = S2 u v p q i j := by
  have hz := S2_0 (u := u) (v := v) _ i j (Nat.le_refl _) hi hj
  rcases Nat.lt_or_ge i p with h1 | h1
  · rcases Nat.lt_or_ge j q with h2 | h2
    · have hr := S2_r (u := u) (v := v) h1 h2
      by_cases hs : u i = v j
      · have e1 : shr u v p q (i, j) = true := by simp [shr, h1, h2, hs]
        have e2 : fon u v p q (i, j) = true := by simp [fon, e1]
        rw [if_pos hs] at hr
        simp only [stp, e1, e2, if_true, Bool.true_or]
        omega
      · have e1 : shr u v p q (i, j) = false := by simp [shr, h1, h2, hs]
        rw [if_neg hs] at hr
        by_cases hc : S2 u v p q (i + 1) j < S2 u v p q i (j + 1) ∨ (S2 u v p q (i + 1) j = S2 u v p q i (j + 1) ∧ u i < v j)
        · have e2 : fon u v p q (i, j) = true := by
            unfold fon
            rw [e1, if_neg (by dsimp only; omega), decide_eq_true (by exact hc)]
            rfl
          simp only [stp, e1, e2, if_true, Bool.false_or, Bool.not_true, if_false, Bool.false_eq_true, Nat.add_zero]
          omega
        · have e2 : fon u v p q (i, j) = false := by
            unfold fon
            rw [e1, if_neg (by dsimp only; omega), decide_eq_false (by exact hc)]
            rfl
          simp only [stp, e1, e2, if_true, Bool.false_or, Bool.not_false, if_false, Bool.false_eq_true, Nat.add_zero]
          omega
    · have hjq : j = q := by omega
      subst hjq
      have e1 : shr u v p j (i, j) = false := by simp [shr]
      have e2 : fon u v p j (i, j) = true := by simp [fon, e1, h1]
      have hr := S2_q (u := u) (v := v) (q := j) h1
      simp only [stp, e1, e2, if_true, Bool.false_or, Bool.not_true, if_false, Bool.false_eq_true]
      refine ⟨by omega, by omega, ?_⟩
      rcases Nat.lt_or_ge (i + 1) p with h3 | h3
      · have := S2_q (u := u) (v := v) (q := j) h3
        simp only [Nat.add_zero]
        omega
      · rw [show i + 1 = p by omega, S2_p]
        omega
  · have hip : i = p := by omega
    subst hip
    have e1 : shr u v i q (i, j) = false := by simp [shr]
    have e2 : fon u v i q (i, j) = false := by simp [fon, e1]
    have hr := S2_p (u := u) (v := v) (p := i) (q := q) j
    simp only [stp, e1, e2, if_true, Bool.false_or, Bool.not_false, if_false, Bool.false_eq_true]
    rw [Nat.add_zero, S2_p]
    omega
theorem wlk_S : ∀ s, s ≤ S2 u v p q 0 0 → (wlk u v p q s).1 ≤ p ∧ (wlk u v p q s).2 ≤ q ∧ S2 u v p q (wlk u v p q s).1 (wlk u v p q s).2 + s = S2 u v p q 0 0 := by
  intro s
  induction s with
  | zero => intro _; exact ⟨Nat.zero_le _, Nat.zero_le _, rfl⟩
  | succ s ih =>
    intro hs
    obtain ⟨a1, a2, a3⟩ := ih (by omega)
    obtain ⟨b1, b2, b3⟩ := stp_S (u := u) (v := v) a1 a2 (by omega)
    have b4 : S2 u v p q (wlk u v p q (s + 1)).1 (wlk u v p q (s + 1)).2 + 1 = S2 u v p q (wlk u v p q s).1 (wlk u v p q s).2 := b3
    exact ⟨b1, b2, by omega⟩
end MERGE
theorem nD : (∀ a : Nat, 0 < a → nI a + m1 = nI (a - 1)) ∧ (nI 0 + m1 = m1) ∧ (m1 < nI 0 ↔ True) := ⟨fun a ha => by
  obtain ⟨b, rfl⟩ : ∃ b, a = b + 1 := ⟨a - 1, by omega⟩
  exact pk_m1 b, by decide, by decide⟩
/-- counting down: the number at turn t -/
def dI (p t : Nat) : Int32 := if t ≤ p then nI (p - t) else m1
theorem dI_in {p t : Nat} (h : t ≤ p) : dI p t = nI (p - t) := if_pos h
theorem dI_0 (p : Nat) : dI p 0 = nI p := if_pos (Nat.zero_le _)
theorem dI_end (p : Nat) : dI p (p + 1) = m1 := if_neg (by omega)
theorem dI_go {p t : Nat} (h : t ≤ p) : nI (p - t) + m1 = dI p (t + 1) := by
  rcases Nat.lt_or_ge t p with h1 | h1
  · rw [nD.1 _ (by omega), dI_in (by omega), Nat.sub_sub]
  · rw [show p - t = 0 by omega, show t = p by omega, dI_end]; rfl
/-! the class: rows 0 and 1 of the merger -/
theorem c_fill {h : qH} {a b : Nat} {m : MB} {A : Nat → Nat → Int32} {B : Nat → Nat → Int64} {I : Nat → Int32} {J : Nat → Int64} (o : OB h a 4 mgL A B I J) (c : CB h b m) (hd : b + 12 ≤ a ∨ a + 5 ≤ b) {r : Nat} (hr : r < 2) {n : Nat} (hn : n ≤ 12) : ∃ h' A', F_X4_fillByNext h b (a + 1 + r) (nI n) = some (nI (pl m n (st0 m)), h') ∧ OB h' a 4 mgL A' B I J ∧ Fr h h' a (a + 5) ∧ On [r] A A' ∧ (∀ i, i < pl m n (st0 m) → A' r i = nI (wr m i)) := by
  have ok := c.1
  have hL := L_le ok
  have hpl := pl_le m n (st0 m)
  have wrt : ∀ {h' : qH} {A' : Nat → Nat → Int32}, OB h' a 4 mgL A' B I J → ∀ i x, i < 12 → ∃ h'', q_sI h' .int (a + 1 + r) (nI i) x = some h'' ∧ OB h'' a 4 mgL (upF A' r (upd (A' r) i x)) B I J ∧ Fr h' h'' a (a + 5) := by
    intro h' A' o' i x hi
    rcases (show r = 0 ∨ r = 1 by omega) with rfl | rfl
    · exact X4_s0 o' x hi
    · exact X4_s1 o' x hi
  have len : ∀ {h' : qH} {A' : Nat → Nat → Int32}, OB h' a 4 mgL A' B I J → q_len h' (a + 1 + r) = some (nI 12) := by
    intro h' A' o'
    rcases (show r = 0 ∨ r = 1 by omega) with rfl | rfl
    · exact o'.len (k := 0) rfl rfl
    · exact o'.len (k := 1) rfl rfl
  have lp : ∃ r', q_lp (s_X4_fillByNext_17 b (a + 1 + r) (nI n)) q_N (nI 0, oI (st0 m), h) = some r' ∧ r'.1 = nI (pl m n (st0 m)) ∧ ∃ A', OB r'.2 a 4 mgL A' B I J ∧ Fr h r'.2 a (a + 5) ∧ On [r] A A' ∧ ∀ i, i < pl m n (st0 m) → A' r i = nI (wr m i) := by
    refine q_lp_idx (fun i s => s.1 = nI i ∧ s.2.1 = oI (itr m i (st0 m)) ∧ ∃ A', OB s.2.2 a 4 mgL A' B I J ∧ Fr h s.2.2 a (a + 5) ∧ On [r] A A' ∧ ∀ j, j < i → A' r j = nI (wr m j)) (pl m n (st0 m)) _ ?_ ?_ q_N (nI 0, oI (st0 m), h) ⟨rfl, rfl, A, o, Fr.rf, On.rf, fun j hj => by omega⟩ (q_lt_N (by omega))
    · rintro i ⟨x1, x2, hh⟩ hi ⟨hx1, hx2, A', o', r', n', z'⟩
      dsimp only at hx1 hx2 o' r'
      obtain ⟨l, h1, h2, h3, h4⟩ := wr_lt ok hi
      rw [h1, oI_some] at hx2
      subst hx1 hx2
      have c' : CB hh b m := c.kept (fun q q1 q2 => r' q (by omega))
      obtain ⟨h5, e5, o5, r5⟩ := wrt o' i (nI (wh m l)) (by omega)
      have c5 : CB h5 b m := c.kept (fun q q1 q2 => (r'.tr r5) q (by omega))
      have hnx := c_next c5 (o := some l) (fun j hj => by cases hj; exact h2)
      rw [oI_some] at hnx
      refine ⟨(nI (i + 1), oI (itr m (i + 1) (st0 m)), h5), ?_, rfl, rfl, _, o5, r'.tr r5, n'.tr (On.up (List.mem_singleton.mpr rfl)), fun j hj => ?_⟩
      · rw [itr_succ, h1]
        simp (disch := omega) only [s_X4_fillByNext_17, b_X4_fillByNext_17, nS, len o', cS c', e5, c5.ob, hnx]
      · rw [upF_self]
        by_cases hji : j = i
        · subst hji; rw [pk_us, h3]
        · rw [pk_un hji]; exact z' j (by omega)
    · rintro ⟨x1, x2, hh⟩ ⟨hx1, hx2, A', o', r', n', z'⟩
      dsimp only at hx1 hx2 o' r'
      subst hx1 hx2
      refine ⟨(nI (pl m n (st0 m)), hh), ?_, rfl, A', o', r', n', z'⟩
      rcases pl_end m n (st0 m) with he | he
      · simp (disch := omega) only [s_X4_fillByNext_17, b_X4_fillByNext_17, nS]
      · rw [he, oI_none]
        rcases Nat.lt_or_ge (pl m n (st0 m)) n with h5 | h5
        · simp (disch := omega) only [s_X4_fillByNext_17, b_X4_fillByNext_17, nS, len o']
        · simp (disch := omega) only [s_X4_fillByNext_17, b_X4_fillByNext_17, nS]
  obtain ⟨⟨v, h'⟩, e, hv, A', o', r', n', z'⟩ := lp
  dsimp only at hv o' r'
  subst hv
  refine ⟨h', A', ?_, o', r', n', z'⟩
  rcases st0_oI (m := m) with ⟨h0, e0⟩ | ⟨h0, e0⟩
  · rw [e0] at e
    simp (disch := omega) only [F_X4_fillByNext, j_X4_fillByNext_15, nS, cS c, e]
  · rw [e0] at e
    simp (disch := omega) only [F_X4_fillByNext, j_X4_fillByNext_15, nS, cS c, e]
/-- what the merger holds: both rows, and the table from a place on -/
def MGR (A : Nat → Nat → Int32) (I : Nat → Int32) (u v : Nat → Nat) (p q : Nat) : Prop := p ≤ 12 ∧ q ≤ 12 ∧ I 4 = nI p ∧ I 5 = nI q ∧ (∀ i, i < p → A 0 i = nI (u i) ∧ u i < 6) ∧ ∀ j, j < q → A 1 j = nI (v j) ∧ v j < 6
def TBL (T : Nat → Int32) (u v : Nat → Nat) (p q : Nat) (P : Nat → Nat → Prop) : Prop := ∀ i j, i ≤ p → j ≤ q → P i j → T (13 * i + j) = nI (S2 u v p q i j)
section MG
variable {h : qH} {a : Nat} {A : Nat → Nat → Int32} {B : Nat → Nat → Int64} {I : Nat → Int32} {J : Nat → Int64} {u v : Nat → Nat} {p q : Nat}
theorem m_at (o : OB h a 4 mgL A B I J) (g : MGR A I u v p q) {i j : Nat} (hi : i ≤ p) (hj : j ≤ q) {P : Nat → Nat → Prop} (t : TBL (A 2) u v p q P) (hP : P i j) : F_X4_shortestAt h a (nI i) (nI j) = some (nI (S2 u v p q i j)) := by
  obtain ⟨g1, g2, g3, g4, g5, g6⟩ := g
  have e := t i j hi hj hP
  rw [Nat.mul_comm] at e
  simp (disch := omega) only [F_X4_shortestAt, nS, X4_rd o, g3, g4, e]
theorem m_shared (o : OB h a 4 mgL A B I J) (g : MGR A I u v p q) {i j : Nat} (hi : i ≤ p) (hj : j ≤ q) : F_X4_isShared h a (nI i) (nI j) = some (nI (if shr u v p q (i, j) then 1 else 0)) := by
  obtain ⟨g1, g2, g3, g4, g5, g6⟩ := g
  rcases Nat.lt_or_ge i p with h1 | h1
  · rcases Nat.lt_or_ge j q with h2 | h2
    · have a1 := g5 i h1
      have a2 := g6 j h2
      by_cases hs : u i = v j
      · have e1 : shr u v p q (i, j) = true := by simp [shr, h1, h2, hs]
        simp (disch := omega) only [F_X4_isShared, nS, X4_rd o, g3, g4, a1.1, a2.1, e1]
      · have e1 : shr u v p q (i, j) = false := by simp [shr, h1, h2, hs]
        simp (disch := omega) only [F_X4_isShared, nS, X4_rd o, g3, g4, a1.1, a2.1, e1, Bool.false_eq_true]
    · have e1 : shr u v p q (i, j) = false := by simp [shr]; omega
      simp (disch := omega) only [F_X4_isShared, nS, X4_rd o, g3, g4, e1, Bool.false_eq_true]
  · have e1 : shr u v p q (i, j) = false := by simp [shr]; omega
    simp (disch := omega) only [F_X4_isShared, nS, X4_rd o, g3, g4, e1, Bool.false_eq_true]
theorem m_from (o : OB h a 4 mgL A B I J) (g : MGR A I u v p q) {i j : Nat} (hi : i ≤ p) (hj : j ≤ q) (t : TBL (A 2) u v p q (fun i' j' => i < i' ∨ (i' = i ∧ j < j'))) : F_X4_shortestFrom h a (nI i) (nI j) = some (nI (S2 u v p q i j)) := by
  have hsh := m_shared o g hi hj
  have g' := g
  obtain ⟨g1, g2, g3, g4, g5, g6⟩ := g
  rcases Nat.lt_or_ge i p with h1 | h1
  · rcases Nat.lt_or_ge j q with h2 | h2
    · have b1 := S2_le (u := u) (v := v) (p := p) (q := q) _ (i + 1) j (Nat.le_refl _) (by omega) (by omega)
      have b2 := S2_le (u := u) (v := v) (p := p) (q := q) _ i (j + 1) (Nat.le_refl _) (by omega) (by omega)
      rw [S2_r h1 h2]
      have a1 := g5 i h1
      have a2 := g6 j h2
      by_cases hs : u i = v j
      · have e1 : shr u v p q (i, j) = true := by simp [shr, h1, h2, hs]
        have t1 := m_at o g' (i := i + 1) (j := j + 1) (by omega) (by omega) t (Or.inl (by omega))
        rw [e1] at hsh
        simp (disch := omega) only [F_X4_shortestFrom, nS, X4_rd o, g3, g4, hsh, t1]
      · have e1 : shr u v p q (i, j) = false := by simp [shr, h1, h2, hs]
        have t1 := m_at o g' (i := i + 1) (j := j) (by omega) (by omega) t (Or.inl (by omega))
        have t2 := m_at o g' (i := i) (j := j + 1) (by omega) (by omega) t (Or.inr ⟨rfl, by omega⟩)
        rw [e1] at hsh
        rcases Nat.lt_or_ge (S2 u v p q i (j + 1)) (S2 u v p q (i + 1) j) with h3 | h3
        · rw [Nat.min_eq_right (by omega)]
          simp (disch := omega) only [F_X4_shortestFrom, F_J9_min_7cf53, nS, X4_rd o, g3, g4, hsh, t1, t2, Bool.false_eq_true]
        · rw [Nat.min_eq_left (by omega)]
          simp (disch := omega) only [F_X4_shortestFrom, F_J9_min_7cf53, nS, X4_rd o, g3, g4, hsh, t1, t2, Bool.false_eq_true]
    · rw [show j = q by omega, S2_q h1]
      simp (disch := omega) only [F_X4_shortestFrom, nS, X4_rd o, g3, g4]
  · rw [show i = p by omega, S2_p]
    simp (disch := omega) only [F_X4_shortestFrom, nS, X4_rd o, g3, g4]
end MG
