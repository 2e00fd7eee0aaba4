/-! ===== the call text: the class's tokens ===== -/
theorem q_lp_from {ρ : Type} {step : Int32 → Option (Int32 ⊕ ρ)} (n : Nat) (P : Nat → Prop) [DecidablePred P] {yes : Nat → ρ} {no : ρ} (h1 : ∀ i, i < n → P i → step (nI i) = some (.inr (yes i))) (h2 : ∀ i, i < n → ¬ P i → step (nI i) = some (.inl (nI (i + 1)))) (h3 : step (nI n) = some (.inr no)) : ∀ k a N, a + k = n → k < N → (∃ i, a ≤ i ∧ i < n ∧ P i ∧ (∀ j, a ≤ j → j < i → ¬ P j) ∧ q_lp step N (nI a) = some (yes i)) ∨ ((∀ i, a ≤ i → i < n → ¬ P i) ∧ q_lp step N (nI a) = some no) := by
  intro k
  induction k with
  | zero =>
    intro a N ha hN
    obtain ⟨N, rfl⟩ : ∃ M, N = M + 1 := ⟨N - 1, by omega⟩
    have : a = n := by omega
    subst this
    exact Or.inr ⟨fun i q1 q2 => by omega, q_lp_stop h3⟩
  | succ k ih =>
    intro a N ha hN
    obtain ⟨N, rfl⟩ : ∃ M, N = M + 1 := ⟨N - 1, by omega⟩
    by_cases hp : P a
    · exact Or.inl ⟨a, Nat.le_refl _, by omega, hp, fun j q1 q2 => by omega, q_lp_stop (h1 a (by omega) hp)⟩
    · rw [q_lp_go (h2 a (by omega) hp)]
      rcases ih (a + 1) N (by omega) (by omega) with ⟨i, q1, q2, q3, q4, q5⟩ | ⟨q1, q2⟩
      · refine Or.inl ⟨i, by omega, q2, q3, fun j r1 r2 => ?_, q5⟩
        by_cases e : j = a
        · subst e; exact hp
        · exact q4 j (by omega) r2
      · refine Or.inr ⟨fun i r1 r2 => ?_, q2⟩
        by_cases e : i = a
        · subst e; exact hp
        · exact q1 i (by omega) r2
/-- the first word of a sort -/
def wf (s : Nat) : Nat := [0, 6, 13, 15, 19].getD s 0
theorem wf_st : ∀ s, s < 5 → q_st 0 (nI s) = some (nI (wf s)) := by decide +kernel
theorem wf_le : ∀ s, s < 4 → wf s < wf (s + 1) ∧ wf (s + 1) ≤ 19 := by decide +kernel
theorem tiW_lt : ∀ w, w < 19 → tiW w < 18 := by decide +kernel
/-- the word of a sort that a row of letters is -/
def IsWo (s : Nat) (l : List Nat) (o : Option Nat) : Prop := (∃ w, wf s ≤ w ∧ w < wf (s + 1) ∧ l = nm w ∧ o = some w) ∨ ((∀ w, wf s ≤ w → w < wf (s + 1) → ¬ l = nm w) ∧ o = none)
def nmY (w v : Nat) : Bool := decide (nm w = nm v → w = v ∨ (w = 1 ∧ v = 9) ∨ (w = 9 ∧ v = 1))
theorem nmY_ok : ∀ w, w < 19 → ∀ v, v < 19 → nmY w v = true := by decide +kernel
theorem wf_19 : ∀ s, s < 4 → ¬ (wf s ≤ 1 ∧ 9 < wf (s + 1)) := by decide +kernel
theorem nm_inj (s : Nat) (hs : s < 4) (w : Nat) (h1 : w < wf (s + 1)) (h2 : wf s ≤ w) (v : Nat) (h3 : v < wf (s + 1)) (h4 : wf s ≤ v) (h5 : nm w = nm v) : w = v := by
  have k1 := wf_le s hs
  have k2 := wf_19 s hs
  have k3 := nmY_ok w (by omega) v (by omega)
  have k3 := (decide_eq_true_iff.mp k3) h5
  omega
noncomputable def fwd (s : Nat) (l : List Nat) : Option Nat := @dite _ (∃ w, wf s ≤ w ∧ w < wf (s + 1) ∧ l = nm w) (Classical.propDecidable _) (fun h => some (Classical.choose h)) (fun _ => none)
theorem fwd_ok (s : Nat) (l : List Nat) : IsWo s l (fwd s l) := by
  unfold fwd
  by_cases h : ∃ w, wf s ≤ w ∧ w < wf (s + 1) ∧ l = nm w
  · rw [dif_pos h]
    have := Classical.choose_spec h
    exact Or.inl ⟨_, this.1, this.2.1, this.2.2, rfl⟩
  · rw [dif_neg h]
    exact Or.inr ⟨fun w h1 h2 h3 => h ⟨w, h1, h2, h3⟩, rfl⟩
theorem fwd_is {s w : Nat} (hs : s < 4) {l : List Nat} (h1 : wf s ≤ w) (h2 : w < wf (s + 1)) (hl : l = nm w) : fwd s l = some w := by
  rcases fwd_ok s l with ⟨v, v1, v2, v3, v4⟩ | ⟨v1, -⟩
  · rw [v4, nm_inj s hs w h2 h1 v v2 v1 (by rw [← hl, v3])]
  · exact absurd hl (v1 w h1 h2)
theorem fwd_no {s : Nat} {l : List Nat} (h : ∀ w, wf s ≤ w → w < wf (s + 1) → ¬ l = nm w) : fwd s l = none := by
  rcases fwd_ok s l with ⟨v, v1, v2, v3, -⟩ | ⟨-, v2⟩
  · exact absurd v3 (h v v1 v2)
  · exact v2
theorem fwd_lt {s w : Nat} {l : List Nat} (h : fwd s l = some w) : wf s ≤ w ∧ w < wf (s + 1) ∧ l = nm w := by
  rcases fwd_ok s l with ⟨v, v1, v2, v3, v4⟩ | ⟨-, v2⟩
  · rw [v4] at h; cases h; exact ⟨v1, v2, v3⟩
  · rw [v2] at h; cases h
section LXT
variable {h : qH} {t a : Nat} {σ : SG} {z : Nat → Nat}
theorem c_nameOf (z : Nat → Nat) (h : qH) {w : Nat} (hw : w < 19) : F_X7_nameOf z h (nI w) = some (some (z (4 + tiW w))) := by
  rcases (show w = 0 ∨ w = 1 ∨ w = 2 ∨ w = 3 ∨ w = 4 ∨ w = 5 ∨ w = 6 ∨ w = 7 ∨ w = 8 ∨ w = 9 ∨ w = 10 ∨ w = 11 ∨ w = 12 ∨ w = 13 ∨ w = 14 ∨ w = 15 ∨ w = 16 ∨ w = 17 ∨ w = 18 by omega) with rfl | rfl | rfl | rfl | rfl | rfl | rfl | rfl | rfl | rfl | rfl | rfl | rfl | rfl | rfl | rfl | rfl | rfl | rfl <;> rfl
theorem c_wordOf (tx : Tx h z) (d : TD h t σ) (hz : sZ σ ≤ 600) {s p e : Nat} (hs : s < 4) (hp : p < e) (he : e ≤ sZ σ) : F_X7_wordOf z h t (nI s) (nI p) (nI e) = some (oI (fwd s (lt σ p e))) := by
  have f1 := wf_st s (by omega)
  have f2 := wf_st (s + 1) (by omega)
  obtain ⟨w1, w2⟩ := wf_le s hs
  have st : ∀ w, w < wf (s + 1) → s_X7_wordOf_18 z h t (nI s) (nI p) (nI e) (nI w) = if lt σ p e = nm w then some (.inr (.inl (nI w))) else some (.inl (nI (w + 1))) := by
    intro w hw
    have e1 := c_nameOf z h (w := w) (by omega)
    have e2 := c_isName tx d hz (i := tiW w) (tiW_lt w (by omega)) hp he
    by_cases hc : lt σ p e = nm w
    · rw [if_pos hc]
      rw [if_pos (show lt σ p e = nmT (tiW w) from hc)] at e2
      simp (disch := omega) only [s_X7_wordOf_18, b_X7_wordOf_18, nS, f2, e1, e2]
    · rw [if_neg hc]
      rw [if_neg (show ¬ lt σ p e = nmT (tiW w) from hc)] at e2
      simp (disch := omega) only [s_X7_wordOf_18, b_X7_wordOf_18, nS, f2, e1, e2]
  have hstop : s_X7_wordOf_18 z h t (nI s) (nI p) (nI e) (nI (wf (s + 1))) = some (.inr (.inr ())) := by
    simp (disch := omega) only [s_X7_wordOf_18, b_X7_wordOf_18, nS, f2]
  rcases q_lp_from (ρ := Int32 ⊕ Unit) (step := s_X7_wordOf_18 z h t (nI s) (nI p) (nI e)) (wf (s + 1)) (fun w => lt σ p e = nm w) (yes := fun w => .inl (nI w)) (no := .inr ()) (fun i hi hp => by rw [st i hi, if_pos hp]) (fun i hi hp => by rw [st i hi, if_neg hp]) hstop (wf (s + 1) - wf s) (wf s) q_N (by omega) (q_lt_N (by omega)) with ⟨w, q1, q2, q3, -, q5⟩ | ⟨q1, q2⟩
  · rw [fwd_is hs q1 q2 q3, oI_some]
    simp (disch := omega) only [F_X7_wordOf, nS, f1, q5]
  · rw [fwd_no q1, oI_none]
    simp (disch := omega) only [F_X7_wordOf, nS, f1, q2]
/-- the reader's rows hold the first n of a row of tokens -/
def RK (h : qH) (a n : Nat) (f : Nat → Int32 × Int32 × Int32) (u v : Int32) : Prop := ∃ A B I J, OB h a 7 rdL A B I J ∧ I 3 = nI n ∧ I 4 = u ∧ I 5 = v ∧ ∀ k, k < n → A 0 k = (f k).1 ∧ A 1 k = (f k).2.1 ∧ A 2 k = (f k).2.2
theorem RK.ob {n : Nat} {f : Nat → Int32 × Int32 × Int32} {u v : Int32} (r : RK h a n f u v) : q_ob h a 7 = some () := by
  obtain ⟨A, B, I, J, o, -⟩ := r
  exact o.ob
theorem c_putT {n : Nat} {f : Nat → Int32 × Int32 × Int32} {u v : Int32} (r : RK h a n f u v) (hn : n < 601) : ∃ h', F_X7_put h a (f n).1 (f n).2.1 (f n).2.2 = some h' ∧ RK h' a (n + 1) f u v ∧ Fr h h' a (a + 4) := by
  obtain ⟨A, B, I, J, o, i3, i4, i5, hk⟩ := r
  obtain ⟨h1, e1, o1, r1⟩ := X7_s0 o (i := n) (f n).1 hn
  obtain ⟨h2, e2, o2, r2⟩ := X7_s1 o1 (i := n) (f n).2.1 hn
  obtain ⟨h3, e3, o3, r3⟩ := X7_s2 o2 (i := n) (f n).2.2 hn
  obtain ⟨h4, e4, o4, r4⟩ := X7_p3 o3 (nI (n + 1))
  refine ⟨h4, ?_, ⟨_, B, _, J, o4, by simp (disch := omega) only [uS], by simp (disch := omega) only [uS]; exact i4, by simp (disch := omega) only [uS]; exact i5, fun k hk2 => ?_⟩, ((r1.tr r2).tr r3).tr r4⟩
  · simp (disch := omega) only [F_X7_put, nS, X7_rd o, i3, e1, X7_rd o1, e2, X7_rd o2, e3, X7_rd o3, e4]
  · rw [upF_ne _ _ (show (0 : Nat) ≠ 2 by decide), upF_ne _ _ (show (0 : Nat) ≠ 1 by decide), upF_self, upF_ne _ _ (show (1 : Nat) ≠ 2 by decide), upF_self, upF_ne _ _ (show (1 : Nat) ≠ 0 by decide), upF_self, upF_ne _ _ (show (2 : Nat) ≠ 1 by decide), upF_ne _ _ (show (2 : Nat) ≠ 0 by decide)]
    by_cases e : k = n
    · subst e
      exact ⟨pk_us, pk_us, pk_us⟩
    · rw [pk_un e, pk_un e, pk_un e]
      exact hk k (by omega)
/-! the row of tokens -/
def ws (σ : SG) (q : Nat) : Bool := isW (sn σ q)
/-- the token's beginning, from a place on -/
def sta (σ : SG) (p : Nat) : Nat := ru (ws σ) (sZ σ) p
def nxp (σ : SG) (p : Nat) : Nat := if sta σ p < sZ σ then eR σ (sta σ p) else sZ σ
def pos (σ : SG) : Nat → Nat
  | 0 => 0
  | i + 1 => nxp σ (pos σ i)
def bg (σ : SG) (i : Nat) : Nat := sta σ (pos σ i)
theorem sta_ok (σ : SG) {p : Nat} (hp : p ≤ sZ σ) : p ≤ sta σ p ∧ sta σ p ≤ sZ σ := by
  have := ru_ok (ws σ) hp
  exact ⟨this.1, this.2.1⟩
theorem nxp_ok (σ : SG) {p : Nat} (hp : p ≤ sZ σ) : p ≤ nxp σ p ∧ nxp σ p ≤ sZ σ ∧ (sta σ p < sZ σ → p < nxp σ p) := by
  have h1 := sta_ok σ hp
  unfold nxp
  split
  · next h => have := eR_ok σ h; omega
  · omega
theorem pos_le (σ : SG) : ∀ i, pos σ i ≤ sZ σ := by
  intro i
  induction i with
  | zero => exact Nat.zero_le _
  | succ i ih => exact (nxp_ok σ ih).2.1
theorem bg_le (σ : SG) (i : Nat) : bg σ i ≤ sZ σ := (sta_ok σ (pos_le σ i)).2
theorem pos_ge (σ : SG) : ∀ n, (∀ k, k < n → bg σ k < sZ σ) → n ≤ pos σ n := by
  intro n
  induction n with
  | zero => intro _; exact Nat.zero_le _
  | succ n ih =>
    intro hk
    have h1 := ih (fun k hk2 => hk k (by omega))
    have h2 := (nxp_ok σ (pos_le σ n)).2.2 (hk n (by omega))
    show n + 1 ≤ nxp σ (pos σ n)
    omega
/-- the number that begins at a place -/
def num (σ : SG) (p : Nat) : Nat := if eR σ p - p = 2 then (sn σ p - 48) * 10 + (sn σ (p + 1) - 48) else sn σ p - 48
/-- what begins at a place: 0 a word of the sort, 1 a number, 2 a semicolon, 3 what is unfit, 4 the end -/
noncomputable def kd (σ : SG) (s p : Nat) : Nat := if sZ σ ≤ p then 4 else if isL (sn σ p) then (match fwd s (lt σ p (eR σ p)) with
    | some _ => 0
    | none => 3) else if isD (sn σ p) = true ∧ eR σ p - p ≤ 2 then 1 else if sn σ p = 59 then 2 else 3
noncomputable def vl (σ : SG) (s p : Nat) : Int32 := if sZ σ ≤ p then nI 0 else if isL (sn σ p) then oI (fwd s (lt σ p (eR σ p))) else if isD (sn σ p) = true ∧ eR σ p - p ≤ 2 then nI (num σ p) else nI 0
noncomputable def tok (σ : SG) (s i : Nat) : Int32 × Int32 × Int32 := (nI (kd σ s (bg σ i)), vl σ s (bg σ i), nI (bg σ i))
theorem num_lt (σ : SG) {p : Nat} (hp : p < sZ σ) (h1 : isD (sn σ p) = true) (h2 : eR σ p - p ≤ 2) : num σ p < 100 ∧ (eR σ p - p = 2 → isD (sn σ (p + 1)) = true) := by
  have h3 := isD_t.mp h1
  have h4 := eR_ok σ hp
  have hL : isL (sn σ p) = false := isL_f.mpr (by omega)
  have h5 : eR σ p - p = 2 → isD (sn σ (p + 1)) = true := by
    intro h5
    have : eR σ p = ru (fun q => isD (sn σ q)) (sZ σ) (p + 1) := by
      unfold eR
      rw [hL, if_neg (by decide), if_pos h1]
    obtain ⟨-, -, g3, -⟩ := ru_ok (fun q => isD (sn σ q)) (show p + 1 ≤ sZ σ by omega)
    exact g3 (p + 1) (Nat.le_refl _) (by omega)
  refine ⟨?_, h5⟩
  unfold num
  split
  · next h6 => have := isD_t.mp (h5 h6); omega
  · omega
theorem c_addToken (tx : Tx h z) (d : TD h t σ) (hz : sZ σ ≤ 600) {s n : Nat} (hs : s < 4) {u v : Int32} (r : RK h a n (tok σ s) u v) (hn : n < 601) (hb : bg σ n < sZ σ) : ∃ h', F_X7_addToken z h a t (nI s) (nI (bg σ n)) (nI (eR σ (bg σ n))) = some h' ∧ RK h' a (n + 1) (tok σ s) u v ∧ Fr h h' a (a + 4) := by
  obtain ⟨h', e', r', f'⟩ := c_putT r hn
  refine ⟨h', ?_, r', f'⟩
  have ob := r.ob
  have e' : F_X7_put h a (nI (kd σ s (bg σ n))) (vl σ s (bg σ n)) (nI (bg σ n)) = some h' := e'
  generalize bg σ n = p at hb e' ⊢
  have hR := eR_ok σ hb
  have e0 := c_byte d hz hb
  have b0 : sn σ p < 256 := sg_lt _
  have l1 := c_isL h b0
  have d1 := c_isD h b0
  have hw := c_wordOf tx d hz hs hR.1 hR.2
  have hzp : ¬ sZ σ ≤ p := by omega
  by_cases eL : isL (sn σ p) = true
  · rw [if_pos eL] at l1
    have hv : vl σ s p = oI (fwd s (lt σ p (eR σ p))) := by simp only [vl, if_neg hzp, if_pos eL]
    cases hf : fwd s (lt σ p (eR σ p)) with
    | none =>
      have hk : kd σ s p = 3 := by simp only [kd, if_neg hzp, if_pos eL, hf]
      rw [hk, hv, hf, oI_none] at e'
      rw [hf, oI_none] at hw
      simp (disch := omega) only [F_X7_addToken, nS, tS d, e0, l1, hw, ob, e']
    | some w =>
      have hk : kd σ s p = 0 := by simp only [kd, if_neg hzp, if_pos eL, hf]
      rw [hk, hv, hf, oI_some] at e'
      rw [hf, oI_some] at hw
      have := fwd_lt hf
      have := wf_le s hs
      simp (disch := omega) only [F_X7_addToken, nS, tS d, e0, l1, hw, ob, e']
  · rw [if_neg eL] at l1
    by_cases eD : isD (sn σ p) = true
    · have h48 := isD_t.mp eD
      rw [if_pos eD] at d1
      by_cases h2 : eR σ p - p ≤ 2
      · have hk : kd σ s p = 1 := by simp only [kd, if_neg hzp, if_neg eL, if_pos (And.intro eD h2)]
        have hv : vl σ s p = nI (num σ p) := by simp only [vl, if_neg hzp, if_neg eL, if_pos (And.intro eD h2)]
        rw [hk, hv] at e'
        obtain ⟨-, hd2⟩ := num_lt σ hb eD h2
        by_cases h3 : eR σ p - p = 2
        · have h49 := isD_t.mp (hd2 h3)
          have e1 := c_byte d hz (p := p + 1) (by omega)
          have hnum : (sn σ p - 48) * 10 + sn σ (p + 1) - 48 = num σ p := by unfold num; rw [if_pos h3]; omega
          simp (disch := omega) only [F_X7_addToken, nS, tS d, e0, l1, d1, ob, e1, hnum, e']
        · have hnum : sn σ p - 48 = num σ p := by unfold num; rw [if_neg h3]
          simp (disch := omega) only [F_X7_addToken, nS, tS d, e0, l1, d1, ob, hnum, e']
      · have h2' : ¬ (isD (sn σ p) = true ∧ eR σ p - p ≤ 2) := fun q => h2 q.2
        have hk : kd σ s p = 3 := by simp only [kd, if_neg hzp, if_neg eL, if_neg h2', if_neg (show ¬ sn σ p = 59 by omega)]
        have hv : vl σ s p = nI 0 := by simp only [vl, if_neg hzp, if_neg eL, if_neg h2']
        rw [hk, hv] at e'
        simp (disch := omega) only [F_X7_addToken, j_X7_addToken_106, nS, tS d, e0, l1, d1, ob, e']
    · rw [if_neg eD] at d1
      have h2' : ¬ (isD (sn σ p) = true ∧ eR σ p - p ≤ 2) := fun q => eD q.1
      have hv : vl σ s p = nI 0 := by simp only [vl, if_neg hzp, if_neg eL, if_neg h2']
      by_cases h59 : sn σ p = 59
      · have hk : kd σ s p = 2 := by simp only [kd, if_neg hzp, if_neg eL, if_neg h2', if_pos h59]
        rw [hk, hv] at e'
        simp (disch := omega) only [F_X7_addToken, j_X7_addToken_106, nS, tS d, e0, l1, d1, ob, e']
      · have hk : kd σ s p = 3 := by simp only [kd, if_neg hzp, if_neg eL, if_neg h2', if_neg h59]
        rw [hk, hv] at e'
        simp (disch := omega) only [F_X7_addToken, j_X7_addToken_106, nS, tS d, e0, l1, d1, ob, e']
end LXT
