/-! ===== an evening as it goes on: the state, the class ===== -/
abbrev SS : Type := Option Nat × (Nat → Nat)
def un (v : Nat → Nat) (i x : Nat) : Nat → Nat := fun j => if j = i then x else v j
theorem uS : (∀ (v : Nat → Nat) (i x : Nat), un v i x i = x) ∧ (∀ (v : Nat → Nat) (i x j : Nat), j ≠ i → un v i x j = v j) ∧ (∀ (f : Nat → Int32) (i : Nat) (x : Int32), upd f i x i = x) ∧ (∀ (f : Nat → Int32) (i : Nat) (x : Int32) (j : Nat), j ≠ i → upd f i x j = f j) := ⟨fun _ _ _ => if_pos rfl, fun _ _ _ _ h => if_neg h, fun _ _ _ => if_pos rfl, fun _ _ _ _ h => if_neg h⟩
def du (m : MB) (la : Option Nat) : Option Nat := match la with
  | none => st0 m
  | some l => nxt m (some l)
def fos (m : MB) (la : Option Nat) : List Nat := match la with
  | none => []
  | some l => mbF m l
def mn1 (v : Nat → Nat) : Nat → Nat := un v 0 (v 0 + 1)
def spk (m : MB) (v : Nat → Nat) (l : Nat) : Nat → Nat := un (un (un v 4 (v 4 + hm m l)) (10 + wh m l) (v (10 + wh m l) + 1)) 3 0
def p0 (m : MB) (s : SS) (l : Nat) : Option SS := if l < mbL m ∧ (du m s.1 = some l ∨ l ∈ fos m s.1) ∧ tb (s.2 9) (wh m l) = 1 then some (some l, mn1 (spk m (if du m s.1 = some l then s.2 else un s.2 5 (s.2 5 + 1)) l)) else none
def p1 (s : SS) (t p : Nat) : Option SS := if tb (s.2 9) p = t then some (s.1, un s.2 9 (s.2 9 ^^^ 2 ^ p)) else none
def p3 (m : MB) (s : SS) (l : Nat) : Option SS := if tb (s.2 9) (wh m l) = 1 then some (s.1, mn1 (un (un s.2 (20 + wh m l) (s.2 (20 + wh m l) + 1)) 3 (s.2 3 + 1))) else none
def p4 (m : MB) (s : SS) (l : Nat) : Option SS := if ¬ s.2 3 = 0 ∧ tb (s.2 9) (wh m l) = 1 then some (some l, mn1 (spk m (un s.2 7 (s.2 7 + 1)) l)) else none
def p6 (m : MB) (s : SS) (l : Nat) : Option SS := if ctt m ≤ s.2 3 ∨ tb (s.2 9) (wh m l) = 0 then some (some l, mn1 (un (un s.2 8 (s.2 8 + 1)) 3 0)) else none
def pf (m : MB) (d : Nat) (x : Option Nat) (s : SS) : Option SS := match d with
  | 0 => x.bind (p0 m s)
  | 1 => x.bind (p1 s 1)
  | 2 => x.bind (p1 s 0)
  | 3 => (du m s.1).bind (p3 m s)
  | 4 => (du m s.1).bind (p4 m s)
  | 5 => some (s.1, mn1 (un s.2 3 (s.2 3 + 1)))
  | _ => (du m s.1).bind (p6 m s)
theorem pf_n {m : MB} {d : Nat} {x : Option Nat} {s : SS} (hd : d = 3 ∨ d = 4 ∨ d = 6) (h : du m s.1 = none) : pf m d x s = none := by
  rcases hd with rfl | rfl | rfl
  · show (du m s.1).bind _ = none; rw [h]; rfl
  · show (du m s.1).bind _ = none; rw [h]; rfl
  · show (du m s.1).bind _ = none; rw [h]; rfl
theorem pf_3 {m : MB} {x : Option Nat} {s : SS} {l : Nat} (h : du m s.1 = some l) : pf m 3 x s = p3 m s l := by show (du m s.1).bind _ = _; rw [h]; rfl
theorem pf_4 {m : MB} {x : Option Nat} {s : SS} {l : Nat} (h : du m s.1 = some l) : pf m 4 x s = p4 m s l := by show (du m s.1).bind _ = _; rw [h]; rfl
theorem pf_6 {m : MB} {x : Option Nat} {s : SS} {l : Nat} (h : du m s.1 = some l) : pf m 6 x s = p6 m s l := by show (du m s.1).bind _ = _; rw [h]; rfl
/-- what holds of a state after n deeds -/
def WS (m : MB) (n : Nat) (s : SS) : Prop := okL m s.1 ∧ (∀ i, s.2 i ≤ 100 + 10 * n) ∧ s.2 9 < 64
theorem du_ok {m : MB} (ok : MBok m) {la : Option Nat} (h : okL m la) : okL m (du m la) := by
  cases la with
  | none => exact st0_ok m
  | some l => exact okL_nxt ok h
theorem un_le {v : Nat → Nat} {K i x : Nat} (h : ∀ j, v j ≤ K) (hx : x ≤ K) : ∀ j, un v i x j ≤ K := by
  intro j
  unfold un
  split
  · exact hx
  · exact h j
theorem WS.s1 {m : MB} {n : Nat} {s : SS} (w : WS m n s) : WS m (n + 1) s := ⟨w.1, fun i => by have := w.2.1 i; omega, w.2.2⟩
theorem mn1_9 (v : Nat → Nat) : mn1 v 9 = v 9 := by unfold mn1; exact if_neg (by decide)
theorem spk_9 (m : MB) (v : Nat → Nat) (l : Nat) : spk m v l 9 = v 9 := by
  unfold spk
  simp (disch := omega) only [uS]
theorem b_xor {a b : Nat} (ha : a < 2 ^ 31) (hb : b < 2 ^ 31) : nI a ^^^ nI b = nI (a ^^^ b) := by
  apply Int32.toBitVec_inj.mp
  apply BitVec.eq_of_toNat_eq
  have := Nat.xor_lt_two_pow ha hb
  rw [Int32.toBitVec_xor, BitVec.toNat_xor, nI_bv, nI_bv, nI_bv, BitVec.toNat_ofNat, BitVec.toNat_ofNat, BitVec.toNat_ofNat, Nat.mod_eq_of_lt (by omega), Nat.mod_eq_of_lt (by omega), Nat.mod_eq_of_lt (by omega)]
theorem mn1_le {v : Nat → Nat} {K : Nat} (h : ∀ j, v j ≤ K) (h0 : v 0 + 1 ≤ K) : ∀ j, mn1 v j ≤ K := un_le h h0
theorem spk_le {m : MB} (ok : MBok m) {v : Nat → Nat} {K l : Nat} (hl : l < mbL m) (h : ∀ j, v j + 9 ≤ K) : ∀ j, spk m v l j ≤ K := by
  have := (hm_ok ok hl).2
  have h4 := h 4
  have hw := h (10 + wh m l)
  exact un_le (un_le (un_le (fun j => by have := h j; omega) (by omega)) (by omega)) (by omega)
theorem un_le2 {v : Nat → Nat} {K i x : Nat} (h : ∀ j, v j + 9 ≤ K) (hx : x + 9 ≤ K) : ∀ j, un v i x j + 9 ≤ K := by
  intro j
  unfold un
  split
  · exact hx
  · exact h j
theorem spk_0 (m : MB) (v : Nat → Nat) (l : Nat) : spk m v l 0 = v 0 := by
  unfold spk
  simp (disch := omega) only [uS]
theorem pf_ok {m : MB} (ok : MBok m) {d n : Nat} {x : Option Nat} {s s' : SS} (w : WS m n s) (hx : d = 1 ∨ d = 2 → ∃ p, p < 6 ∧ x = some p) (e : pf m d x s = some s') : WS m (n + 1) s' := by
  obtain ⟨w1, w2, w3⟩ := w
  have hd := du_ok ok w1
  have K1 : ∀ j, s.2 j + 9 ≤ 100 + 10 * (n + 1) := fun j => by have := w2 j; omega
  have K0 : ∀ j, s.2 j ≤ 100 + 10 * (n + 1) := fun j => by have := w2 j; omega
  have k0 := w2 0
  have k3 := w2 3
  have k5 := w2 5
  have k7 := w2 7
  have k8 := w2 8
  have okl : ∀ l, l < mbL m → okL m (some l) := fun l hl j hj => by cases hj; exact hl
  have c0 : ∀ l, p0 m s l = some s' → WS m (n + 1) s' := by
    intro l e
    unfold p0 at e
    split at e
    · next hc =>
      cases e
      refine ⟨okl l hc.1, ?_, ?_⟩
      · refine mn1_le (spk_le ok hc.1 ?_) ?_
        · split
          · exact K1
          · exact un_le2 K1 (by omega)
        · rw [spk_0]
          split
          · omega
          · rw [show un s.2 5 (s.2 5 + 1) 0 = s.2 0 from if_neg (by decide)]; omega
      · dsimp only
        rw [mn1_9, spk_9]
        split
        · exact w3
        · rw [show un s.2 5 (s.2 5 + 1) 9 = s.2 9 from if_neg (by decide)]; exact w3
    · cases e
  have c1 : ∀ t p, p < 6 → p1 s t p = some s' → WS m (n + 1) s' := by
    intro t p hp e
    unfold p1 at e
    have hxr : s.2 9 ^^^ 2 ^ p < 64 := Nat.xor_lt_two_pow (n := 6) w3 (Nat.pow_lt_pow_right (by omega) hp)
    split at e
    · cases e
      exact ⟨w1, un_le K0 (by omega), by show un s.2 9 (s.2 9 ^^^ 2 ^ p) 9 < 64; rw [show un s.2 9 (s.2 9 ^^^ 2 ^ p) 9 = s.2 9 ^^^ 2 ^ p from if_pos rfl]; exact hxr⟩
    · cases e
  have c3 : ∀ l, l < mbL m → p3 m s l = some s' → WS m (n + 1) s' := by
    intro l hl e
    unfold p3 at e
    have hw := (wh_ok ok hl).2
    have kw := w2 (20 + wh m l)
    split at e
    · cases e
      refine ⟨w1, mn1_le (un_le (un_le K0 (by omega)) (by omega)) ?_, ?_⟩
      · simp (disch := omega) only [uS]; omega
      · dsimp only
        rw [mn1_9]; simp (disch := omega) only [uS]; exact w3
    · cases e
  have c4 : ∀ l, l < mbL m → p4 m s l = some s' → WS m (n + 1) s' := by
    intro l hl e
    unfold p4 at e
    split at e
    · cases e
      refine ⟨okl l hl, mn1_le (spk_le ok hl (un_le2 K1 (by omega))) ?_, ?_⟩
      · rw [spk_0, show un s.2 7 (s.2 7 + 1) 0 = s.2 0 from if_neg (by decide)]; omega
      · dsimp only
        rw [mn1_9, spk_9, show un s.2 7 (s.2 7 + 1) 9 = s.2 9 from if_neg (by decide)]; exact w3
    · cases e
  have c6 : ∀ l, l < mbL m → p6 m s l = some s' → WS m (n + 1) s' := by
    intro l hl e
    unfold p6 at e
    split at e
    · cases e
      refine ⟨okl l hl, mn1_le (un_le (un_le K0 (by omega)) (by omega)) ?_, ?_⟩
      · simp (disch := omega) only [uS]; omega
      · dsimp only
        rw [mn1_9]; simp (disch := omega) only [uS]; exact w3
    · cases e
  have bnd : ∀ {q : Option Nat} {f : Nat → Option SS}, q.bind f = some s' → ∃ l, q = some l ∧ f l = some s' := by
    intro q f e
    cases q with
    | none => cases e
    | some l => exact ⟨l, rfl, e⟩
  rcases (show d = 0 ∨ d = 1 ∨ d = 2 ∨ d = 3 ∨ d = 4 ∨ d = 5 ∨ 6 ≤ d by omega) with rfl | rfl | rfl | rfl | rfl | rfl | h6
  · obtain ⟨l, -, e⟩ := bnd (show x.bind (p0 m s) = some s' from e)
    exact c0 l e
  · obtain ⟨p, hp, rfl⟩ := hx (Or.inl rfl)
    exact c1 1 p hp e
  · obtain ⟨p, hp, rfl⟩ := hx (Or.inr rfl)
    exact c1 0 p hp e
  · obtain ⟨l, hl, e⟩ := bnd (show (du m s.1).bind (p3 m s) = some s' from e)
    exact c3 l (hd l hl) e
  · obtain ⟨l, hl, e⟩ := bnd (show (du m s.1).bind (p4 m s) = some s' from e)
    exact c4 l (hd l hl) e
  · cases e
    refine ⟨w1, mn1_le (un_le K0 (by omega)) ?_, ?_⟩
    · rw [show un s.2 3 (s.2 3 + 1) 0 = s.2 0 from if_neg (by decide)]; omega
    · dsimp only
      rw [mn1_9, show un s.2 3 (s.2 3 + 1) 9 = s.2 9 from if_neg (by decide)]; exact w3
  · obtain ⟨d', rfl⟩ : ∃ d', d = d' + 6 := ⟨d - 6, by omega⟩
    obtain ⟨l, hl, e⟩ := bnd (show (du m s.1).bind (p6 m s) = some s' from e)
    exact c6 l (hd l hl) e
/-- the class's stage -/
def SX (A : Nat → Nat → Int32) (I : Nat → Int32) (s : SS) : Prop := I 3 = oI s.1 ∧ I 2 = nI (s.2 0) ∧ I 4 = nI (s.2 3) ∧ I 5 = nI (s.2 4) ∧ I 6 = nI (s.2 5) ∧ I 7 = nI (s.2 7) ∧ I 8 = nI (s.2 8) ∧ I 9 = nI (s.2 9) ∧ (∀ p, p < 6 → A 0 p = nI (s.2 (10 + p))) ∧ ∀ p, p < 6 → A 1 p = nI (s.2 (20 + p))
theorem n_neg {a b : Nat} (h : a < b) (hb : b < 2 ^ 31) : nI a - nI b < nI 0 := by
  refine Int32.lt_iff_toInt_lt.mpr ?_
  have e0 : (nI 0).toInt = 0 := by decide
  rw [e0, Int32.toInt_sub, nI_toInt (by omega), nI_toInt hb]
  unfold Int.bmod
  dsimp only
  split <;> omega
section STC
variable {h : qH} {a b n : Nat} {m : MB} {A : Nat → Nat → Int32} {B : Nat → Nat → Int64} {I : Nat → Int32} {J : Nat → Int64} {s : SS}
theorem c_due (o : OB h a 8 stL A B I J) (sx : SX A I s) (c : CB h b m) (w : okL m s.1) : F_X8_due h a b = some (oI (du m s.1)) := by
  have ok := c.1
  have hL := L_le ok
  have e3 := sx.1
  cases hla : s.1 with
  | none =>
    rw [hla, oI_none] at e3
    show _ = some (oI (st0 m))
    rcases st0_oI (m := m) with ⟨h0, e0⟩ | ⟨h0, e0⟩
    · rw [e0]
      simp (disch := omega) only [F_X8_due, nS, X8_rd o, e3, cS c]
    · rw [e0]
      simp (disch := omega) only [F_X8_due, nS, X8_rd o, e3, cS c]
  | some l =>
    have hl := w l hla
    rw [hla, oI_some] at e3
    show _ = some (oI (nxt m (some l)))
    rcases Nat.eq_zero_or_pos (fn m l) with h0 | h0
    · rw [nx_none h0, oI_none]
      simp (disch := omega) only [F_X8_due, nS, X8_rd o, e3, cS c]
    · rw [nx_some h0, oI_some]
      simp (disch := omega) only [F_X8_due, nS, X8_rd o, e3, cS c]
theorem c_isIn (o : OB h a 8 stL A B I J) (sx : SX A I s) (hr : s.2 9 < 64) {p : Nat} (hp : p < 6) : F_X8_isIn h a (nI p) = some (nI (tb (s.2 9) p)) := by
  have e9 := sx.2.2.2.2.2.2.2.1
  have ht := tb_le (s.2 9) p
  by_cases h1 : tb (s.2 9) p = 1
  · rw [h1]
    simp (disch := omega) only [F_X8_isIn, F_X11_isPerson, nS, X8_rd o, e9, bS, h1]
  · have h1 : tb (s.2 9) p = 0 := by omega
    rw [h1]
    simp (disch := omega) only [F_X8_isIn, F_X11_isPerson, nS, X8_rd o, e9, bS, h1]
theorem c_isIn0 (h : qH) (a : Nat) : F_X8_isIn h a m1 = some (nI 0) := by
  simp (disch := omega) only [F_X8_isIn, F_X11_isPerson, nS]
theorem c_speak (o : OB h a 8 stL A B I J) (sx : SX A I s) (c : CB h b m) (hd : b + 12 ≤ a ∨ a + 3 ≤ b) {l : Nat} (hl : l < mbL m) : ∃ h' A' I', F_X8_speak h a b (nI l) = some h' ∧ OB h' a 8 stL A' B I' J ∧ Fr h h' a (a + 3) ∧ SX A' I' (some l, spk m s.2 l) ∧ I' 10 = I 10 := by
  have ok := c.1
  have hw := (wh_ok ok hl).2
  obtain ⟨s3, s2, s4, s5, s6, s7, s8, s9, sa, sb⟩ := sx
  obtain ⟨h1, e1, o1, r1⟩ := X8_s0 o (i := wh m l) (nI (s.2 (10 + wh m l) + 1)) hw
  have c1 : CB h1 b m := c.kept (fun q q1 q2 => r1 q (by omega))
  obtain ⟨h2, e2, o2, r2⟩ := X8_p5 o1 (nI (s.2 4 + hm m l))
  obtain ⟨h3, e3, o3, r3⟩ := X8_p3 o2 (nI l)
  obtain ⟨h4, e4, o4, r4⟩ := X8_p4 o3 (nI 0)
  have ea := sa (wh m l) hw
  refine ⟨h4, _, _, ?_, o4, ((r1.tr r2).tr r3).tr r4, ?_, by simp (disch := omega) only [uS]⟩
  · simp (disch := omega) only [F_X8_speak, F_X11_isPerson, nS, cS c, X8_rd o, ea, e1]
    simp (disch := omega) only [j_X8_speak_23, nS, X8_rd o1, s5, cS c1, e2, e3, e4]
  · unfold spk
    refine ⟨by simp (disch := omega) only [uS]; rfl, by simp (disch := omega) only [uS]; exact s2, by simp (disch := omega) only [uS], by simp (disch := omega) only [uS], by simp (disch := omega) only [uS]; exact s6, by simp (disch := omega) only [uS]; exact s7, by simp (disch := omega) only [uS]; exact s8, by simp (disch := omega) only [uS]; exact s9, fun p hp => ?_, fun p hp => ?_⟩
    · rw [upF_self]
      by_cases hpw : p = wh m l
      · subst hpw; simp (disch := omega) only [uS]
      · simp (disch := omega) only [uS]; exact sa p hp
    · rw [upF_ne _ _ (show (1 : Nat) ≠ 0 by decide)]
      simp (disch := omega) only [uS]; exact sb p hp
theorem c_117 (o : OB h a 8 stL A B I J) {v : Nat → Nat} {la : Option Nat} (sx : SX A I (la, v)) : ∃ h' I', j_X8_perform_117 h a (nI 1) = some (nI 1, h') ∧ OB h' a 8 stL A B I' J ∧ Fr h h' a (a + 3) ∧ SX A I' (la, mn1 v) ∧ I' 10 = I 10 := by
  obtain ⟨s3, s2, s4, s5, s6, s7, s8, s9, sa, sb⟩ := sx
  obtain ⟨h1, e1, o1, r1⟩ := X8_p2 o (nI (v 0 + 1))
  refine ⟨h1, _, ?_, o1, r1, ?_, by simp (disch := omega) only [uS]⟩
  · have s2 : I 2 = nI (v 0) := s2
    simp (disch := omega) only [j_X8_perform_117, nS, X8_rd o, s2, e1]
  · unfold mn1
    refine ⟨by simp (disch := omega) only [uS]; exact s3, by simp (disch := omega) only [uS], by simp (disch := omega) only [uS]; exact s4, by simp (disch := omega) only [uS]; exact s5, by simp (disch := omega) only [uS]; exact s6, by simp (disch := omega) only [uS]; exact s7, by simp (disch := omega) only [uS]; exact s8, by simp (disch := omega) only [uS]; exact s9, fun p hp => by simp (disch := omega) only [uS]; exact sa p hp, fun p hp => by simp (disch := omega) only [uS]; exact sb p hp⟩
/-- the deed can be done: what the class does -/
def CY (h : qH) (a b : Nat) (m : MB) (B : Nat → Nat → Int64) (I : Nat → Int32) (J : Nat → Int64) (f : Option (Int32 × qH)) (s' : SS) : Prop := ∃ h' A' I', f = some (nI 1, h') ∧ OB h' a 8 stL A' B I' J ∧ Fr h h' a (a + 3) ∧ SX A' I' s' ∧ I' 10 = I 10
theorem c_say (o : OB h a 8 stL A B I J) (sx : SX A I s) (c : CB h b m) (hd : b + 12 ≤ a ∨ a + 3 ≤ b) (w : WS m n s) (hn : n < 100) {x : Option Nat} (hx : ∀ l, x = some l → l < 2 ^ 31) : (∃ s', pf m 0 x s = some s' ∧ CY h a b m B I J (F_X8_perform h a b (nI 0) (oI x)) s') ∨ (pf m 0 x s = none ∧ F_X8_perform h a b (nI 0) (oI x) = some (nI 0, h)) := by
  have ok := c.1
  have hL := L_le ok
  have hdue := c_due o sx c w.1
  have hdok := du_ok ok w.1
  have e3 := sx.1
  have e6 := sx.2.2.2.2.1
  -- whether it follows
  have fol : ∀ l, l < 2 ^ 31 → F_X0_follows h b (oI s.1) (nI l) = some (nI (if l ∈ fos m s.1 then 1 else 0)) := by
    intro l hl
    cases hla : s.1 with
    | none =>
      rw [oI_none]
      show _ = some (nI (if l ∈ [] then 1 else 0))
      rw [if_neg (by simp)]
      have lp : q_lp (s_X0_follows_2 h b m1 (nI l)) q_N (nI 0) = some (.inr ()) := by
        refine q_lp_stop (n := 999999) ?_
        simp (disch := omega) only [s_X0_follows_2, b_X0_follows_2, nS, cS c]
      simp (disch := omega) only [F_X0_follows, nS, lp]
    | some k =>
      have hk := w.1 k hla
      rw [oI_some, c_follows c hk hl]
      show some (if l ∈ mbF m k then 1 else 0) = some (nI (if l ∈ mbF m k then 1 else 0))
      split <;> rfl
  cases x with
  | none =>
    refine Or.inr ⟨rfl, ?_⟩
    rw [oI_none]
    have f0 : F_X0_follows h b (oI s.1) m1 = some (nI 0) := by
      have lp : ∀ q, okL m q → q_lp (s_X0_follows_2 h b (oI q) m1) q_N (nI 0) = some (.inr ()) := by
        intro q hq
        cases q with
        | none =>
          refine q_lp_stop (n := 999999) ?_
          rw [oI_none]
          simp (disch := omega) only [s_X0_follows_2, b_X0_follows_2, nS, cS c]
        | some k =>
          have hk := hq k rfl
          have hf := fn_le ok hk
          rw [oI_some]
          refine q_lp_for (fun j => nI j) (fn m k) (fun j hj => ?_) ?_ q_N (q_lt_N (by omega))
          · have hg := gg_lt ok hk hj
            simp (disch := omega) only [s_X0_follows_2, b_X0_follows_2, nS, cS c]
          · simp (disch := omega) only [s_X0_follows_2, b_X0_follows_2, nS, cS c]
      simp (disch := omega) only [F_X0_follows, nS, lp s.1 w.1]
    simp (disch := omega) only [F_X8_perform, F_X8_sayLine, j_X8_sayLine_18, j_X8_sayLine_19, j_X8_perform_117, nS, o.ob, X8_rd o, e3, c.ob, f0]
  | some l =>
    have hl31 := hx l rfl
    have hfl := fol l hl31
    rw [oI_some]
    -- what comes at the end
    have fin : ∀ t0 : Nat, t0 = (if du m s.1 = some l then 1 else 0) → (du m s.1 = some l ∨ l ∈ fos m s.1) → F_X8_perform h a b (nI 0) (nI l) = (j_X8_sayLine_36 h a b (nI l) (nI t0)).bind (fun x4 => j_X8_perform_117 x4.2 a x4.1) → (∃ s', pf m 0 (some l) s = some s' ∧ CY h a b m B I J (F_X8_perform h a b (nI 0) (nI l)) s') ∨ (pf m 0 (some l) s = none ∧ F_X8_perform h a b (nI 0) (nI l) = some (nI 0, h)) := by
      intro t0 ht0 hor hF
      have hlL : l < mbL m := by
        rcases hor with q | q
        · exact hdok l q
        · cases hla : s.1 with
          | none => rw [hla] at q; cases q
          | some k =>
            rw [hla] at q
            exact (ok.2.1 k (w.1 k hla)).2 l q
      have hw := (wh_ok ok hlL).2
      have hin := c_isIn o sx w.2.2 hw
      have ht := tb_le (s.2 9) (wh m l)
      by_cases h1 : tb (s.2 9) (wh m l) = 1
      · rw [h1] at hin
        refine Or.inl ⟨(some l, mn1 (spk m (if du m s.1 = some l then s.2 else un s.2 5 (s.2 5 + 1)) l)), if_pos ⟨hlL, hor, h1⟩, ?_⟩
        rw [hF]
        by_cases hdl : du m s.1 = some l
        · rw [if_pos hdl] at ht0 ⊢
          subst ht0
          obtain ⟨h2, A2, I2, e2, o2, r2, x2, q2⟩ := c_speak o sx c hd hlL
          obtain ⟨h3, I3, e3', o3, r3, x3, q3⟩ := c_117 o2 x2
          refine ⟨h3, A2, I3, ?_, o3, r2.tr r3, x3, q3.trans q2⟩
          simp (disch := omega) only [j_X8_sayLine_36, nS, cS c, o.ob, hin, e2, e3']
        · rw [if_neg hdl] at ht0 ⊢
          subst ht0
          obtain ⟨h1', e1', o1', r1'⟩ := X8_p6 o (nI (s.2 5 + 1))
          have sx1 : SX A (upd I 6 (nI (s.2 5 + 1))) (s.1, un s.2 5 (s.2 5 + 1)) := by
            obtain ⟨s3, s2, s4, s5, s6, s7, s8, s9, sa, sb⟩ := sx
            refine ⟨by simp (disch := omega) only [uS]; exact s3, by simp (disch := omega) only [uS]; exact s2, by simp (disch := omega) only [uS]; exact s4, by simp (disch := omega) only [uS]; exact s5, by simp (disch := omega) only [uS], by simp (disch := omega) only [uS]; exact s7, by simp (disch := omega) only [uS]; exact s8, by simp (disch := omega) only [uS]; exact s9, fun p hp => by simp (disch := omega) only [uS]; exact sa p hp, fun p hp => by simp (disch := omega) only [uS]; exact sb p hp⟩
          obtain ⟨h2, A2, I2, e2, o2, r2, x2, q2⟩ := c_speak o1' sx1 (c.kept (fun q q1 q2 => r1' q (by omega))) hd hlL
          obtain ⟨h3, I3, e3', o3, r3, x3, q3⟩ := c_117 o2 x2
          refine ⟨h3, A2, I3, ?_, o3, (r1'.tr r2).tr r3, x3, by rw [q3, q2]; simp (disch := omega) only [uS]⟩
          simp (disch := omega) only [j_X8_sayLine_36, nS, cS c, o.ob, hin, X8_rd o, e6, e1', o1'.ob, e2, e3']
      · have h1 : tb (s.2 9) (wh m l) = 0 := by omega
        rw [h1] at hin
        refine Or.inr ⟨if_neg (fun q => by have := q.2.2; omega), ?_⟩
        rw [hF]
        simp (disch := omega) only [j_X8_sayLine_36, j_X8_perform_117, nS, cS c, o.ob, hin]
    by_cases hdl : du m s.1 = some l
    · refine fin 1 (by rw [if_pos hdl]) (Or.inl hdl) ?_
      rw [hdl, oI_some] at hdue
      simp (disch := omega) only [F_X8_perform, F_X8_sayLine, j_X8_sayLine_19, nS, o.ob, hdue]
    · have hne : (nI l = oI (du m s.1)) ↔ False := iff_of_false (fun e => hdl ((oI_eq (okL_31 ok hdok) hl31).mp e.symm)) id
      by_cases hf : l ∈ fos m s.1
      · refine fin 0 (by rw [if_neg hdl]) (Or.inr hf) ?_
        rw [if_pos hf] at hfl
        simp (disch := omega) only [F_X8_perform, F_X8_sayLine, j_X8_sayLine_18, j_X8_sayLine_19, nS, o.ob, hdue, hne, X8_rd o, e3, c.ob, hfl]
      · rw [if_neg hf] at hfl
        refine Or.inr ⟨if_neg (fun q => q.2.1.elim hdl hf), ?_⟩
        simp (disch := omega) only [F_X8_perform, F_X8_sayLine, j_X8_sayLine_18, j_X8_sayLine_19, j_X8_perform_117, nS, o.ob, hdue, hne, X8_rd o, e3, c.ob, hfl]
end STC
