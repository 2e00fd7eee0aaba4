/-! ===== the best of some values; worst ===== -/
def sel (y : Int32) (o : Option Nat) (v : Nat) : Option Nat := match o with
  | none => some v
  | some x => if y = nI 0 then (if v ≤ x then some x else some v) else (if x ≤ v then some x else some v)
def bs (y : Int32) (C : Nat → Bool) (v : Nat → Nat) : Nat → Option Nat
  | 0 => none
  | k + 1 => if C k then sel y (bs y C v k) (v k) else bs y C v k
theorem sel_lt {y : Int32} {o : Option Nat} {v M : Nat} (ho : ∀ x, o = some x → x < M) (hv : v < M) : ∀ x, sel y o v = some x → x < M := by
  intro x hx
  unfold sel at hx
  split at hx
  · cases hx; exact hv
  · next z => 
    have := ho z rfl
    split at hx <;> split at hx <;> cases hx <;> assumption
theorem bs_lt {y : Int32} {C : Nat → Bool} {v : Nat → Nat} {M : Nat} : ∀ n, (∀ k, k < n → C k = true → v k < M) → ∀ x, bs y C v n = some x → x < M := by
  intro n
  induction n with
  | zero => intro _ x hx; cases hx
  | succ n ih =>
    intro hv x hx
    have h1 := ih (fun k hk => hv k (by omega))
    unfold bs at hx
    split at hx
    · next hc => exact sel_lt h1 (hv n (by omega) hc) x hx
    · exact h1 x hx
theorem sel_go {y : Int32} {o : Option Nat} {v : Nat} (hv : v < 2 ^ 31) (ho : ∀ x, o = some x → x < 2 ^ 31) {α : Type} (F : Int32 → α) : (if oI o = m1 then F (nI v) else (if y = nI 0 then (if nI v ≤ oI o then F (oI o) else F (nI v)) else (if oI o ≤ nI v then F (oI o) else F (nI v)))) = F (oI (sel y o v)) := by
  unfold sel
  cases o with
  | none => rw [oI_none, if_pos rfl]; rfl
  | some x =>
    have := ho x rfl
    rw [oI_some, if_neg (fun e => (nm1_eq (by omega)).mp e)]
    dsimp only
    by_cases hy : y = nI 0
    · rw [if_pos hy, if_pos hy]
      by_cases hx : v ≤ x
      · rw [if_pos ((nI_leI (by omega) (by omega)).mpr hx), if_pos hx, oI_some]
      · rw [if_neg (fun e => hx ((nI_leI (by omega) (by omega)).mp e)), if_neg hx, oI_some]
    · rw [if_neg hy, if_neg hy]
      by_cases hx : x ≤ v
      · rw [if_pos ((nI_leI (by omega) (by omega)).mpr hx), if_pos hx, oI_some]
      · rw [if_neg (fun e => hx ((nI_leI (by omega) (by omega)).mp e)), if_neg hx, oI_some]
theorem n_nz {a : Nat} (h0 : 0 < a) (ha : a < 2 ^ 31) : q_nz (nI a) = some () := by
  unfold q_nz
  rw [if_neg (fun e => by have := (nI_eq (a := a) (b := 0) ha (by omega)).mp e; omega)]
/-- harm of a way: lines left, strayings left, the line -/
def wo (m : MB) (y : Int32) : Nat → Nat → Nat → Nat
  | 0, _, l => hm m l
  | t + 1, u, l => hm m l + (bs y (fun k => decide (sty k ≤ u)) (fun k => wo m y t (u - sty k) (gg m l k)) (fn m l)).getD 0
theorem wo_le {m : MB} (ok : MBok m) (y : Int32) : ∀ t u l, l < mbL m → wo m y t u l < 10 + 9 * t := by
  intro t
  induction t with
  | zero =>
    intro u l hl
    have := (hm_ok ok hl).2
    show hm m l < 10 + 9 * 0
    omega
  | succ t ih =>
    intro u l hl
    have h1 := (hm_ok ok hl).2
    have h2 := bs_lt (y := y) (C := fun k => decide (sty k ≤ u)) (v := fun k => wo m y t (u - sty k) (gg m l k)) (M := 10 + 9 * t) (fn m l) (fun k hk _ => ih _ _ (gg_lt ok hl hk))
    show hm m l + _ < _
    cases hb : bs y (fun k => decide (sty k ≤ u)) (fun k => wo m y t (u - sty k) (gg m l k)) (fn m l) with
    | none => show hm m l + 0 < _; omega
    | some x => have := h2 x hb; show hm m l + x < _; omega
section WOC
variable {h : qH} {a b : Nat} {m : MB} {A : Nat → Nat → Int32} {B : Nat → Nat → Int64} {I : Nat → Int32} {J : Nat → Int64}
theorem c_harmBehind (o : OB h a 6 ptL A B I J) (c : CB h b m) {y : Int32} {t u l : Nat} (ht : t < 20) (hu : u < 10) (hl : l < mbL m) (g : ∀ l u, l < mbL m → u < 10 → A 1 (l * 10 + u) = nI (wo m y t u l)) : F_X6_harmBehind h a b (nI l) (nI u) y = some (nI ((bs y (fun k => decide (sty k ≤ u)) (fun k => wo m y t (u - sty k) (gg m l k)) (fn m l)).getD 0)) := by
  have ok := c.1
  have hL := L_le ok
  have hf := fn_le ok hl
  have hlt : ∀ j, j ≤ fn m l → ∀ x, bs y (fun k => decide (sty k ≤ u)) (fun k => wo m y t (u - sty k) (gg m l k)) j = some x → x < 200 := fun j hj x hx => by
    have := bs_lt j (fun k hk _ => wo_le ok y t (u - sty k) (gg m l k) (gg_lt ok hl (show k < fn m l by omega))) x hx
    omega
  have lp : q_lp (s_X6_harmBehind_6 h a b (nI l) (nI u) y) q_N (m1, nI 0) = some (oI (bs y (fun k => decide (sty k ≤ u)) (fun k => wo m y t (u - sty k) (gg m l k)) (fn m l))) := by
    refine q_lp_for (fun j => (oI (bs y (fun k => decide (sty k ≤ u)) (fun k => wo m y t (u - sty k) (gg m l k)) j), nI j)) (fn m l) (fun j hj => ?_) ?_ q_N (q_lt_N (by omega))
    · have hg := gg_lt ok hl hj
      have b3 := sty_le j
      by_cases hc : sty j ≤ u
      · have e := g (gg m l j) (u - sty j) hg (by omega)
        have hw := wo_le ok y t (u - sty j) (gg m l j) hg
        rw [show bs y (fun k => decide (sty k ≤ u)) (fun k => wo m y t (u - sty k) (gg m l k)) (j + 1) = sel y (bs y (fun k => decide (sty k ≤ u)) (fun k => wo m y t (u - sty k) (gg m l k)) j) (wo m y t (u - sty j) (gg m l j)) from if_pos (by simp [hc])]
        have hx := hlt j (by omega)
        generalize bs y (fun k => decide (sty k ≤ u)) (fun k => wo m y t (u - sty k) (gg m l k)) j = B0 at hx
        generalize wo m y t (u - sty j) (gg m l j) = v0 at e hw
        rw [← sel_go (α := Option ((Int32 × Int32) ⊕ Int32)) (y := y) (by omega) (fun x h => by have := hx x h; omega) (fun z => some (Sum.inl (z, nI (j + 1))))]
        simp (disch := omega) only [s_X6_harmBehind_6, b_X6_harmBehind_6, nS, cS c, ← show sty j = (if j = 0 then 0 else 1) from rfl, X6_rd o, e]
      · have hu0 : u = 0 := by omega
        have hs1 : sty j = 1 := by omega
        rw [show bs y (fun k => decide (sty k ≤ u)) (fun k => wo m y t (u - sty k) (gg m l k)) (j + 1) = bs y (fun k => decide (sty k ≤ u)) (fun k => wo m y t (u - sty k) (gg m l k)) j from if_neg (by simp [hc])]
        generalize bs y (fun k => decide (sty k ≤ u)) (fun k => wo m y t (u - sty k) (gg m l k)) j = bb
        subst hu0
        simp (disch := omega) only [s_X6_harmBehind_6, b_X6_harmBehind_6, nS, cS c, ← show sty j = (if j = 0 then 0 else 1) from rfl, hs1]
    · simp (disch := omega) only [s_X6_harmBehind_6, b_X6_harmBehind_6, nS, cS c]
  have hx := hlt (fn m l) (Nat.le_refl _)
  generalize bs y (fun k => decide (sty k ≤ u)) (fun k => wo m y t (u - sty k) (gg m l k)) (fn m l) = bb at lp hx
  cases bb with
  | none =>
    rw [oI_none] at lp
    simp (disch := omega) only [F_X6_harmBehind, nS, lp]
    rfl
  | some x =>
    have := hx x rfl
    rw [oI_some] at lp
    simp (disch := omega) only [F_X6_harmBehind, nS, lp]
    rfl
theorem c_worst (o : OB h a 6 ptL A B I J) (c : CB h b m) (hd : b + 12 ≤ a ∨ a + 8 ≤ b) {y : Int32} {n k : Nat} (hn : 1 ≤ n) (hn2 : n ≤ 20) (hk : k < 10) (h0 : 0 < mbL m) : ∃ h' A', F_X6_harmOfWay h a b (nI n) (nI k) y = some (nI (wo m y (n - 1) k 0), h') ∧ OB h' a 6 ptL A' B I J ∧ Fr h h' a (a + 8) := by
  have ok := c.1
  have hL := L_le ok
  have ck : ∀ {h'}, Fr h h' a (a + 8) → CB h' b m := fun r => c.kept (fun q q1 q2 => r q (by omega))
  obtain ⟨h1, e1, A1, o1, r1, z1⟩ := q_lp1 (step := s_X6_harmOfWay_3 a b (nI n) (nI k) y) (fun i h' => ∃ A', OB h' a 6 ptL A' B I J ∧ Fr h h' a (a + 8) ∧ ∀ j, j < i → j / 10 < mbL m → A' 1 j = nI (hm m (j / 10))) 200 0 (by omega)
    (fun i h1 hi ⟨A1, o1, r1, z1⟩ => by
      have c1 := ck r1
      rcases Nat.lt_or_ge (i / 10) (mbL m) with h3 | h3
      · obtain ⟨h2, e2, o2, r2⟩ := X6_s1 o1 (i := i) (nI (hm m (i / 10))) hi
        refine ⟨h2, ?_, _, o2, r1.tr r2, fun j hj hj2 => ?_⟩
        · simp (disch := omega) only [s_X6_harmOfWay_3, b_X6_harmOfWay_3, nS, Nat.add_zero, cS c1, X6_rd o1, e2]
        · rw [upF_self]
          by_cases hji : j = i
          · subst hji; exact pk_us
          · rw [pk_un hji]; exact z1 j (by omega) hj2
      · obtain ⟨h2, e2, o2, r2⟩ := X6_s1 o1 (i := i) (nI 0) hi
        refine ⟨h2, ?_, _, o2, r1.tr r2, fun j hj hj2 => ?_⟩
        · simp (disch := omega) only [s_X6_harmOfWay_3, b_X6_harmOfWay_3, nS, Nat.add_zero, cS c1, X6_rd o1, e2]
        · rw [upF_self, pk_un (show j ≠ i by omega)]; exact z1 j (by omega) hj2)
    (fun h1 _ => by simp (disch := omega) only [s_X6_harmOfWay_3, b_X6_harmOfWay_3, nS, Nat.add_zero])
    (h := h) ⟨A, o, Fr.rf, fun l hl => by omega⟩
  obtain ⟨h3, e3, A3, o3, r3, z3⟩ := q_lp1 (step := s_X6_harmOfWay_36 a b (nI n) (nI k) y) (fun t h' => ∃ A', OB h' a 6 ptL A' B I J ∧ Fr h h' a (a + 8) ∧ ∀ l u, l < mbL m → u < 10 → A' 1 (l * 10 + u) = nI (wo m y t u l)) (n - 1) 2 (by omega)
    (fun t h1 ht ⟨A1, o1, r1, z1⟩ => by
      obtain ⟨h2, e2, A2, o2, r2, y2, z2⟩ := q_lp1 (step := s_X6_harmOfWay_45 a b (nI n) (nI k) y (nI (t + 2))) (fun i h' => ∃ A', OB h' a 6 ptL A' B I J ∧ Fr h h' a (a + 8) ∧ (∀ l u, l < mbL m → u < 10 → A' 1 (l * 10 + u) = nI (wo m y t u l)) ∧ ∀ j, j < i → A' 2 j = nI (wo m y (t + 1) (j % 10) (j / 10))) (mbL m * 10) 0 (by omega)
        (fun i h1 hi ⟨A1, o1, r1, y1, z1⟩ => by
          have c1 := ck r1
          obtain ⟨h2, e2, o2, r2⟩ := X6_s2 o1 (i := i) (nI (wo m y (t + 1) (i % 10) (i / 10))) (by omega)
          have hb := c_harmBehind o1 c1 (t := t) (u := i % 10) (l := i / 10) (by omega) (by omega) (by omega) y1
          refine ⟨h2, ?_, _, o2, r1.tr r2, fun l u hl hu => by rw [upF_ne _ _ (show (1 : Nat) ≠ 2 by decide)]; exact y1 l u hl hu, fun j hj => ?_⟩
          · have e2' : q_sI h1 .int (a + 3) (nI i) (nI (hm m (i / 10) + (bs y (fun k => decide (sty k ≤ i % 10)) (fun k => wo m y t (i % 10 - sty k) (gg m (i / 10) k)) (fn m (i / 10))).getD 0)) = some h2 := e2
            simp (disch := omega) only [s_X6_harmOfWay_45, b_X6_harmOfWay_45, nS, Nat.add_zero, cS c1, X6_rd o1, hb, e2']
          · rw [upF_self]
            by_cases hji : j = i
            · subst hji; exact pk_us
            · rw [pk_un hji]; exact z1 j (by omega))
        (fun h1 ⟨A1, o1, r1, y1, z1⟩ => by simp (disch := omega) only [s_X6_harmOfWay_45, b_X6_harmOfWay_45, nS, Nat.add_zero, cS (ck r1)])
        (h := h1) ⟨A1, o1, r1, z1, fun l hl => by omega⟩
      obtain ⟨h4, e4, o4, r4⟩ := X6_c21 o2 (n := 200) (by omega)
      refine ⟨h4, ?_, _, o4, r2.tr r4, fun l u hl hu => ?_⟩
      · simp (disch := omega) only [s_X6_harmOfWay_36, b_X6_harmOfWay_36, j_X6_harmOfWay_106, nS, e2, X6_rd o2, e4]
      · rw [upF_self, cpy_in (by omega), z2 _ (by omega), show (l * 10 + u) % 10 = u by omega, show (l * 10 + u) / 10 = l by omega])
    (fun h1 _ => by simp (disch := omega) only [s_X6_harmOfWay_36, b_X6_harmOfWay_36, nS])
    (h := h1) ⟨A1, o1, r1, fun l u hl hu => by rw [z1 _ (by omega) (by omega), show (l * 10 + u) / 10 = l by omega]; rfl⟩
  have e0 := z3 0 k h0 hk
  rw [Nat.zero_mul, Nat.zero_add] at e0
  refine ⟨h3, A3, ?_, o3, r3⟩
  simp (disch := omega) only [F_X6_harmOfWay, nS, e1, e3, X6_rd o3, e0]
end WOC
theorem dm_ix {L u l : Nat} (hl : l < L) : (L * u + l) / L = u ∧ (L * u + l) % L = l := by
  refine ⟨?_, ?_⟩
  · rw [Nat.mul_add_div (by omega), Nat.div_eq_of_lt hl, Nat.add_zero]
  · rw [Nat.mul_add_mod, Nat.mod_eq_of_lt hl]
def WT (T : Nat → Int32) (m : MB) (y : Int32) (t i : Nat) : Prop := ∀ t' u' l', u' < 10 → l' < mbL m → (t' < t ∨ (t' = t ∧ mbL m * u' + l' < i)) → T ((10 * t' + u') * 20 + l') = nI (wo m y t' u' l')
section WOD
variable {h : qH} {a : Nat} {A : Nat → Nat → Int32} {B : Nat → Nat → Int64} {I : Nat → Int32} {J : Nat → Int64} {b : Nat → Int32} {k : Nat}
theorem d_worstCell (o : OB h a 12 mdL A B I J) (hb : HB A I b k) {n kk y : Int32} {t i : Nat} (ht : t < 20) (hi : i < 10 * mbL (bMB b)) (g : WT (A 47) (bMB b) y t i) : ∃ h', s_X12_worst_54 a n kk y (nI t) (nI i, h) = some (.inl (nI (i + 1), h')) ∧ OB h' a 12 mdL (upF A 47 (upd (A 47) ((10 * t + i / mbL (bMB b)) * 20 + i % mbL (bMB b)) (nI (wo (bMB b) y t (i / mbL (bMB b)) (i % mbL (bMB b)))))) B I J ∧ Fr h h' a (a + 27) := by
  have ok := bMB_ok hb.1
  have hL := L_le ok
  have h0 : 0 < mbL (bMB b) := by omega
  have hl := Nat.mod_lt i h0
  have hu : i / mbL (bMB b) < 10 := Nat.div_lt_of_lt_mul (by rw [Nat.mul_comm]; exact hi)
  obtain ⟨m, hm'⟩ : ∃ m, m = bMB b := ⟨_, rfl⟩
  obtain ⟨l, hle⟩ : ∃ l, l = i % mbL (bMB b) := ⟨_, rfl⟩
  obtain ⟨u, hue⟩ : ∃ u, u = i / mbL (bMB b) := ⟨_, rfl⟩
  rw [← hle] at hl ⊢
  rw [← hue] at hu ⊢
  have hdi : nI i / nI (mbL (bMB b)) = nI u := by rw [hue]; exact pk_div (by omega) h0 (by omega)
  have hri : q_rem (nI i) (nI (mbL (bMB b))) = nI l := by rw [hle]; exact n_rem (by omega) h0 (by omega)
  have hnz := n_nz h0 (by omega)
  have hf := fn_le ok hl
  obtain ⟨h1, e1, o1, r1⟩ := X12_s47 o (i := (10 * t + u) * 20 + l) (nI (wo (bMB b) y t u l)) (by omega)
  refine ⟨h1, ?_, o1, r1⟩
  have hhm := (hm_ok ok hl).2
  -- the end
  have fin : ∀ ob : Option Nat, (∀ x, ob = some x → x < 1000) → hm (bMB b) l + ob.getD 0 = wo (bMB b) y t u l → j_X12_worst_213 h a n kk y (nI t) (nI i) (nI l) (oI ob) = some (.inl (nI (i + 1), h1)) := by
    intro ob hob hv
    cases ob with
    | none =>
      have hv : hm (bMB b) l = wo (bMB b) y t u l := hv
      rw [← hv] at e1
      rw [oI_none]
      simp (disch := omega) only [j_X12_worst_213, nS, X12_rd o, hb.i24, hnz, hdi, F_X12_cell, d_pack o hb, F_X12_greater, Nat.add_zero, e1]
    | some x =>
      have hv : hm (bMB b) l + x = wo (bMB b) y t u l := hv
      have := hob x rfl
      rw [← hv] at e1
      rw [oI_some]
      simp (disch := omega) only [j_X12_worst_213, nS, X12_rd o, hb.i24, hnz, hdi, F_X12_cell, d_pack o hb, F_X12_greater, e1]
  cases t with
  | zero =>
    have lp : q_lp (s_X12_worst_81 h a n kk y (nI 0) (nI i) (nI l)) q_N (m1, nI 0) = some m1 := by
      refine q_lp_stop (n := 999999) ?_
      rcases Nat.eq_zero_or_pos (fn (bMB b) l) with h0 | h0
      · simp (disch := omega) only [s_X12_worst_81, b_X12_worst_81, nS, X12_rd o, d_pack o hb]
      · simp (disch := omega) only [s_X12_worst_81, b_X12_worst_81, nS, X12_rd o, d_pack o hb]
    have := fin none (fun x hx => by cases hx) rfl
    rw [oI_none] at this
    simp (disch := omega) only [s_X12_worst_54, b_X12_worst_54, nS, X12_rd o, hb.i24, hnz, hri, lp, this]
  | succ t =>
    have hlt : ∀ j, j ≤ fn (bMB b) l → ∀ x, bs y (fun k => decide (sty k ≤ u)) (fun k => wo (bMB b) y t (u - sty k) (gg (bMB b) l k)) j = some x → x < 200 := fun j hj x hx => by
      have := bs_lt j (fun k hk _ => wo_le ok y t (u - sty k) (gg (bMB b) l k) (gg_lt ok hl (show k < fn (bMB b) l by omega))) x hx
      omega
    have lp : q_lp (s_X12_worst_81 h a n kk y (nI (t + 1)) (nI i) (nI l)) q_N (m1, nI 0) = some (oI (bs y (fun k => decide (sty k ≤ u)) (fun k => wo (bMB b) y t (u - sty k) (gg (bMB b) l k)) (fn (bMB b) l))) := by
      refine q_lp_for (fun j => (oI (bs y (fun k => decide (sty k ≤ u)) (fun k => wo (bMB b) y t (u - sty k) (gg (bMB b) l k)) j), nI j)) (fn (bMB b) l) (fun j hj => ?_) ?_ q_N (q_lt_N (by omega))
      · have hg := gg_lt ok hl hj
        have b3 := sty_le j
        by_cases hc : sty j ≤ u
        · have e := g t (u - sty j) (gg (bMB b) l j) (by omega) hg (Or.inl (by omega))
          have hw := wo_le ok y t (u - sty j) (gg (bMB b) l j) hg
          rw [show bs y (fun k => decide (sty k ≤ u)) (fun k => wo (bMB b) y t (u - sty k) (gg (bMB b) l k)) (j + 1) = sel y (bs y (fun k => decide (sty k ≤ u)) (fun k => wo (bMB b) y t (u - sty k) (gg (bMB b) l k)) j) (wo (bMB b) y t (u - sty j) (gg (bMB b) l j)) from if_pos (by simp [hc])]
          have hx := hlt j (by omega)
          generalize bs y (fun k => decide (sty k ≤ u)) (fun k => wo (bMB b) y t (u - sty k) (gg (bMB b) l k)) j = B0 at hx
          generalize wo (bMB b) y t (u - sty j) (gg (bMB b) l j) = v0 at e hw
          rw [← sel_go (α := Option ((Int32 × Int32) ⊕ Int32)) (y := y) (by omega) (fun x h => by have := hx x h; omega) (fun z => some (Sum.inl (z, nI (j + 1))))]
          simp (disch := omega) only [s_X12_worst_81, b_X12_worst_81, j_X12_worst_150, j_X12_worst_190, j_X12_worst_186, j_X12_worst_191, nS, X12_rd o, hb.i24, hnz, hdi, d_pack o hb, d_sty h, F_X12_cell, Nat.add_sub_cancel, e]
        · have hu0 : u = 0 := by omega
          have hs1 : sty j = 1 := by omega
          rw [show bs y (fun k => decide (sty k ≤ u)) (fun k => wo (bMB b) y t (u - sty k) (gg (bMB b) l k)) (j + 1) = bs y (fun k => decide (sty k ≤ u)) (fun k => wo (bMB b) y t (u - sty k) (gg (bMB b) l k)) j from if_neg (by simp [hc])]
          generalize bs y (fun k => decide (sty k ≤ u)) (fun k => wo (bMB b) y t (u - sty k) (gg (bMB b) l k)) j = bb
          rw [hu0] at hdi
          simp (disch := omega) only [s_X12_worst_81, b_X12_worst_81, j_X12_worst_150, j_X12_worst_190, j_X12_worst_191, nS, X12_rd o, hb.i24, hnz, hdi, d_pack o hb, d_sty h, hs1]
      · simp (disch := omega) only [s_X12_worst_81, b_X12_worst_81, nS, X12_rd o, d_pack o hb]
    have := fin _ (fun x hx => by have := hlt (fn (bMB b) l) (Nat.le_refl _) x hx; omega) rfl
    simp (disch := omega) only [s_X12_worst_54, b_X12_worst_54, nS, X12_rd o, hb.i24, hnz, hri, lp, this]
theorem d_worst (o : OB h a 12 mdL A B I J) (hb : HB A I b k) {n : Nat} {kk y : Int32} (hn : n ≤ 20) (h0 : 0 < mbL (bMB b)) : ∃ h' A', q_lp (s_X12_worst_45 a (nI n) kk y) q_N (nI 0, h) = some h' ∧ OB h' a 12 mdL A' B I J ∧ Fr h h' a (a + 27) ∧ On [47] A A' ∧ WT (A' 47) (bMB b) y n 0 := by
  have ok := bMB_ok hb.1
  have hL := L_le ok
  have hbk : ∀ {A' : Nat → Nat → Int32}, On [47] A A' → HB A' I b k := fun n => hb.cg (n 6 (by decide)) (n 25 (by decide)) (n 26 (by decide)) rfl rfl
  obtain ⟨h', e', A', o', r', n', g'⟩ := q_lp2 (stepO := s_X12_worst_45 a (nI n) kk y) (stepI := fun t => s_X12_worst_54 a (nI n) kk y (nI t)) (fun t i h' => ∃ A', OB h' a 12 mdL A' B I J ∧ Fr h h' a (a + 27) ∧ On [47] A A' ∧ WT (A' 47) (bMB b) y t i) n (10 * mbL (bMB b)) 0 (by omega) (by omega)
    (fun t i h1 ht hi ⟨A1, o1, r1, n1, g1⟩ => by
      obtain ⟨h2, e2, o2, r2⟩ := d_worstCell o1 (hbk n1) (n := nI n) (kk := kk) (t := t) (by omega) hi g1
      refine ⟨h2, e2, _, o2, r1.tr r2, n1.tr (On.up (by decide)), ?_⟩
      rw [upF_self]
      have hl := Nat.mod_lt i h0
      have hu : i / mbL (bMB b) < 10 := Nat.div_lt_of_lt_mul (by rw [Nat.mul_comm]; exact hi)
      intro t' u' l' hu' hl' q
      by_cases he : (10 * t' + u') * 20 + l' = (10 * t + i / mbL (bMB b)) * 20 + i % mbL (bMB b)
      · have key : ∀ u l, u < 10 → l < mbL (bMB b) → (10 * t' + u') * 20 + l' = (10 * t + u) * 20 + l → t' = t ∧ u' = u ∧ l' = l := fun u l q1 q2 q3 => by omega
        obtain ⟨k1, k2, k3⟩ := key _ _ hu hl he
        rw [k1, k2, k3]
        exact pk_us
      · rw [pk_un he]
        refine g1 t' u' l' hu' hl' ?_
        rcases q with q | ⟨q1, q2⟩
        · exact Or.inl q
        · refine Or.inr ⟨q1, ?_⟩
          rcases Nat.lt_or_ge (mbL (bMB b) * u' + l') i with h5 | h5
          · exact h5
          · exfalso
            have h6 : mbL (bMB b) * u' + l' = i := by omega
            have h7 := dm_ix (L := mbL (bMB b)) (u := u') (l := l') hl'
            rw [h6] at h7
            exact he (by rw [q1, h7.1, h7.2]))
    (fun t h1 ht ⟨A1, o1, r1, n1, g1⟩ => by simp (disch := omega) only [s_X12_worst_54, b_X12_worst_54, nS, d_pack o1 (hbk n1)])
    (fun t h1 ht ⟨A1, o1, r1, n1, g1⟩ => ⟨A1, o1, r1, n1, fun t' u' l' hu' hl' q => g1 t' u' l' hu' hl' (by
      rcases Nat.lt_or_ge t' t with h5 | h5
      · exact Or.inl h5
      · refine Or.inr ⟨by omega, ?_⟩
        have := Nat.mul_le_mul_left (mbL (bMB b)) (show u' ≤ 9 by omega)
        omega)⟩)
    (fun t h1 h2 ht _ e => by simp (disch := omega) only [s_X12_worst_45, b_X12_worst_45, nS, Nat.add_zero, e])
    (fun h1 _ => by simp (disch := omega) only [s_X12_worst_45, b_X12_worst_45, nS, Nat.add_zero])
    (h := h) ⟨A, o, Fr.rf, On.rf, fun t' u' l' _ _ q => by omega⟩
  exact ⟨h', A', e', o', r', n', g'⟩
end WOD
section CALLS
variable {h : qH} {c nx : Nat} {σ : SG} {im : Nat → Option SG}
theorem q_worst (s : ST h c nx σ im) (x y z w : Int32) : QW h c σ im (F_X11_worst h c x y z w) (fun h1 => F_X12_worst h1 (c + 80) x y z w) := by
  obtain ⟨ok, ⟨xc, td, sc, -⟩, rm, -⟩ := s
  have hc0 := ok.2.1 0 (by omega)
  rcases nRg y 1 20 (by omega) with hy | ⟨n, rfl, hn1, hn2⟩
  · refine QW.bad (v := m1) rm Fr.rf sc ?_ (fun h1 e1 ob1 => ?_)
    · rcases nOut_or x (n := sC σ 0) (by omega) with hx | ⟨k, hk, rfl⟩
      · simp (disch := omega) only [F_X11_worst, xS xc, tS td, nS, t_bookOut td hx]
      · have cb := t_CB td ok hk
        rcases Nat.eq_zero_or_pos (mbL (bMB (sB σ k))) with h0 | h0
        · simp (disch := omega) only [F_X11_worst, xS xc, tS td, nS, t_bookIn td ok hk, cS cb, h0]
        · have hL := L_le cb.1
          rcases hy with h0 | ⟨n, rfl, hn, h0⟩
          · simp (disch := omega) only [F_X11_worst, xS xc, tS td, nS, t_bookIn td ok hk, cS cb, gN h0]
          · rcases Nat.lt_or_ge n 1 with h1 | h1
            · simp (disch := omega) only [F_X11_worst, xS xc, tS td, nS, t_bookIn td ok hk, cS cb]
            · simp (disch := omega) only [F_X11_worst, xS xc, tS td, nS, t_bookIn td ok hk, cS cb]
    · have := in_out h1 (by omega) (by omega) hy
      simp (disch := omega) only [F_X12_worst, nS, e1, this]
  have i1 : ∀ h1, F_X12_in h1 (nI n) (nI 1) (nI 20) = some (nI 1) := fun h1 => in_in h1 (by omega) hn1 hn2
  rcases nRg z 0 9 (by omega) with hz | ⟨j, rfl, -, hj⟩
  · refine QW.bad (v := m1) rm Fr.rf sc ?_ (fun h1 e1 ob1 => ?_)
    · rcases nOut_or x (n := sC σ 0) (by omega) with hx | ⟨k, hk, rfl⟩
      · simp (disch := omega) only [F_X11_worst, xS xc, tS td, nS, t_bookOut td hx]
      · have cb := t_CB td ok hk
        rcases Nat.eq_zero_or_pos (mbL (bMB (sB σ k))) with h0 | h0
        · simp (disch := omega) only [F_X11_worst, xS xc, tS td, nS, t_bookIn td ok hk, cS cb, h0]
        · have hL := L_le cb.1
          rcases hz with h0 | ⟨n, rfl, hn, h0⟩
          · simp (disch := omega) only [F_X11_worst, xS xc, tS td, nS, t_bookIn td ok hk, cS cb, gN h0]
          · simp (disch := omega) only [F_X11_worst, xS xc, tS td, nS, t_bookIn td ok hk, cS cb]
    · have := in_out h1 (by omega) (by omega) hz
      simp (disch := omega) only [F_X12_worst, nS, e1, i1, this]
  have i2 : ∀ h1, F_X12_in h1 (nI j) (nI 0) (nI 9) = some (nI 1) := fun h1 => in_in h1 (by omega) (by omega) hj
  rcases nOut_or x (n := sC σ 0) (by omega) with hx | ⟨k, hk, rfl⟩
  · refine QW.nob (v := m1) ok rm sc hx ?_ (fun h1 h2 e1 ob1 e2 => ?_)
    · simp (disch := omega) only [F_X11_worst, xS xc, tS td, nS, t_bookOut td hx]
    · simp (disch := omega) only [F_X12_worst, nS, e1, i1, i2, ob1, e2]
  have cb := t_CB td ok hk
  have okm := cb.1
  have hL := L_le okm
  have hsc := sc
  obtain ⟨-, -, ⟨A6, B6, I6, J6, o6⟩, -, -, -⟩ := sc
  rcases Nat.eq_zero_or_pos (mbL (bMB (sB σ k))) with h0 | h0
  · refine QW.go (v := m1) [] ok rm hk (hc := h) ?_ Fr.rf hsc (by decide) (fun h1 h2 A B I J e1 ob1 e2 o2 hb => ⟨h2, A, B, I, J, ?_, o2, Fr.rf, On.rf⟩)
    · simp (disch := omega) only [F_X11_worst, xS xc, tS td, nS, t_bookIn td ok hk, cS cb, h0]
    · have e24 := (d_pack o2 hb).1
      rw [h0] at e24
      simp (disch := omega) only [F_X12_worst, nS, e1, i1, i2, ob1, e2, e24]
  obtain ⟨hc, A7, e7, o7, r7⟩ := c_worst o6 cb (by omega) (y := w) (k := j) hn1 hn2 (by omega) h0
  have fr7 : Fr h hc (c + 53) (c + 80) := r7.wd (by omega) (by omega)
  have sc7 : SC hc c := hsc.u6 r7 ⟨A7, B6, I6, J6, o7⟩
  refine QW.go (v := nI (wo (bMB (sB σ k)) w (n - 1) j 0)) [47] ok rm hk ?_ fr7 sc7 (by decide) (fun h1 h2 A B I J e1 ob1 e2 o2 hb => ?_)
  · simp (disch := omega) only [F_X11_worst, xS xc, tS td, nS, t_bookIn td ok hk, cS cb, o6.ob, e7]
  · obtain ⟨h3, A3, e3, o3, r3, n3, g3⟩ := d_worst o2 hb (kk := nI j) (y := w) hn2 h0
    have t0 := g3 (n - 1) j 0 (by omega) h0 (Or.inl (by omega))
    rw [Nat.add_zero] at t0
    refine ⟨h3, A3, B, I, J, ?_, o3, r3, n3⟩
    simp (disch := omega) only [F_X12_worst, nS, e1, i1, i2, ob1, e2, d_pack o2 hb, e3, X12_rd o3, F_X12_cell, Nat.add_zero, t0]
end CALLS
