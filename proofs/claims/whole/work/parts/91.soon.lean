/-! ===== soonest ===== -/
def dgS (m : MB) (k i : Nat) : Nat := if i < 20 * (k + 1) then fn m (i % 20) else 0
def tgS (m : MB) (k i f : Nat) : Option Nat := if i / 20 + sty f ≤ k then some (20 * (i / 20 + sty f) + gg m (i % 20) f) else none
theorem tgS_some {m : MB} {k i f j : Nat} (h : tgS m k i f = some j) : i / 20 + sty f ≤ k ∧ j = 20 * (i / 20 + sty f) + gg m (i % 20) f := by
  unfold tgS at h
  split at h
  · next hc => cases h; exact ⟨hc, rfl⟩
  · cases h
theorem dgS_in {m : MB} {k i f : Nat} (h : f < dgS m k i) : i < 20 * (k + 1) ∧ f < fn m (i % 20) := by
  unfold dgS at h
  split at h
  · next hc => exact ⟨hc, h⟩
  · omega
/-- fn is 0 outside -/
def FO (m : MB) : Prop := ∀ l, mbL m ≤ l → fn m l = 0
theorem FO_b {b : Nat → Int32} (hb : BV b) : FO (bMB b) := fun l hl => fn_out hb hl
theorem fo_lt {m : MB} (fo : FO m) {l f : Nat} (h : f < fn m l) : l < mbL m := by
  rcases Nat.lt_or_ge l (mbL m) with h1 | h1
  · exact h1
  · have := fo l h1; omega
theorem tgS_lt {m : MB} (ok : MBok m) (fo : FO m) {k i f j : Nat} (hf : f < dgS m k i) (h : tgS m k i f = some j) : j < 20 * (k + 1) ∧ j % 20 = gg m (i % 20) f ∧ j / 20 = i / 20 + sty f ∧ gg m (i % 20) f < mbL m := by
  obtain ⟨h1, h2⟩ := tgS_some h
  obtain ⟨h3, h4⟩ := dgS_in hf
  have h5 := fo_lt fo h4
  have h6 := gg_lt ok h5 h4
  have hL := L_le ok
  omega
/-- a line of the scene is come to by n steps -/
def Hit (m : MB) (s k n : Nat) : Prop := ∃ i, i < 20 * (k + 1) ∧ i % 20 < mbL m ∧ sc m (i % 20) = s ∧ Wg (dgS m k) (tgS m k) 0 n i
theorem hit_short {m : MB} (ok : MBok m) (fo : FO m) (h0 : 0 < mbL m) {s k n : Nat} (hh : Hit m s k n) (hmin : ∀ n', n' < n → ¬ Hit m s k n') : n < 20 := by
  have hL := L_le ok
  obtain ⟨t, ht, htl, hts, hw⟩ := hh
  obtain ⟨w, w0, wn, ws⟩ := Wg_fun n t hw
  have wlt : ∀ i, i ≤ n → w i < 20 * (k + 1) ∧ w i % 20 < mbL m := by
    intro i
    induction i with
    | zero => intro _; rw [w0]; exact ⟨by omega, by omega⟩
    | succ i ih =>
      intro hi
      obtain ⟨f, hf, he⟩ := ws i (by omega)
      have := tgS_lt ok fo hf he
      exact ⟨this.1, by rw [this.2.1]; exact this.2.2.2⟩
  have wmo : ∀ i d, i + d ≤ n → w i / 20 ≤ w (i + d) / 20 := by
    intro i d
    induction d with
    | zero => intro _; exact Nat.le_refl _
    | succ d ih =>
      intro hd
      obtain ⟨f, hf, he⟩ := ws (i + d) (by omega)
      have h1 := tgS_lt ok fo hf he
      have h2 := ih (by omega)
      rw [show i + (d + 1) = i + d + 1 by omega]
      omega
  have key : ∀ i j, i < j → j ≤ n → w i % 20 ≠ w j % 20 := by
    intro i j hij hj he
    have hq := wmo i (j - i) (by omega)
    rw [show i + (j - i) = j by omega] at hq
    obtain ⟨δ, hδ⟩ : ∃ δ, δ = w j / 20 - w i / 20 := ⟨_, rfl⟩
    obtain ⟨d, hd⟩ : ∃ d, d = j - i := ⟨_, rfl⟩
    obtain ⟨w', hw'⟩ : ∃ w' : Nat → Nat, w' = fun x => if x ≤ i then w x else w (x + d) - 20 * δ := ⟨_, rfl⟩
    have e1 : ∀ x, x ≤ i → w' x = w x := fun x hx => by rw [hw']; exact if_pos hx
    have e2 : ∀ x, i < x → w' x = w (x + d) - 20 * δ := fun x hx => by rw [hw']; exact if_neg (by omega)
    have edge : ∀ v v' z, v' < 20 * (k + 1) → v' % 20 = v % 20 → v' / 20 + δ = v / 20 → (∃ f, f < dgS m k v ∧ tgS m k v f = some z) → ∃ f, f < dgS m k v' ∧ tgS m k v' f = some (z - 20 * δ) := by
      rintro v v' z h1 h2 h3 ⟨f, hf, he⟩
      obtain ⟨a1, a2⟩ := dgS_in hf
      obtain ⟨a3, a4⟩ := tgS_some he
      refine ⟨f, ?_, ?_⟩
      · unfold dgS
        rw [if_pos h1, h2]
        exact a2
      · unfold tgS
        rw [if_pos (by omega), h2]
        congr 1
        omega
    have hW : Wg (dgS m k) (tgS m k) 0 (n - d) (w' (n - d)) := by
      refine fun_Wg (by rw [e1 0 (by omega)]; exact w0) (n - d) (fun x hx => ?_)
      rcases Nat.lt_trichotomy x i with hxi | hxi | hxi
      · rw [e1 x (by omega), e1 (x + 1) (by omega)]
        exact ws x (by omega)
      · subst hxi
        rw [e1 x (Nat.le_refl _), e2 (x + 1) (by omega), show x + 1 + d = j + 1 by omega]
        exact edge (w j) (w x) _ (wlt x (by omega)).1 he (by omega) (ws j (by omega))
      · rw [e2 x hxi, e2 (x + 1) (by omega), show x + 1 + d = x + d + 1 by omega]
        have h4 := wmo j (x + d - j) (by omega)
        rw [show j + (x + d - j) = x + d by omega] at h4
        have h5 := (wlt (x + d) (by omega)).1
        exact edge (w (x + d)) _ _ (by omega) (by omega) (by omega) (ws (x + d) (by omega))
    refine hmin (n - d) (by omega) ⟨w' (n - d), ?_, ?_, ?_, hW⟩
    · rcases Nat.lt_or_ge i (n - d) with h6 | h6
      · rw [e2 _ h6, show n - d + d = n by omega, wn]; omega
      · rw [e1 _ h6]; exact (wlt _ (by omega)).1
    · rcases Nat.lt_or_ge i (n - d) with h6 | h6
      · have h4 := wmo j (n - j) (by omega)
        rw [show j + (n - j) = n by omega, wn] at h4
        rw [e2 _ h6, show n - d + d = n by omega, wn, show (t - 20 * δ) % 20 = t % 20 by omega]; exact htl
      · rw [e1 _ h6]; exact (wlt _ (by omega)).2
    · rcases Nat.lt_or_ge i (n - d) with h6 | h6
      · have h4 := wmo j (n - j) (by omega)
        rw [show j + (n - j) = n by omega, wn] at h4
        rw [e2 _ h6, show n - d + d = n by omega, wn, show (t - 20 * δ) % 20 = t % 20 by omega]; exact hts
      · rw [e1 _ h6, show n - d = i by omega, he, show j = n by omega, wn]; exact hts
  have := inj_len (w := fun i => w i % 20) (n := n) (L := mbL m) (fun i hi => (wlt i hi).2) key
  omega
/-- the answer: the least n, or none -/
def Ans (P : Nat → Prop) (r : Int32) : Prop := (r = m1 ∧ ∀ n, ¬ P n) ∨ ∃ n, n < 1000 ∧ P n ∧ (∀ n', n' < n → ¬ P n') ∧ r = nI (n + 1)
theorem Ans.eq {P : Nat → Prop} {r r' : Int32} (h : Ans P r) (h' : Ans P r') : r = r' := by
  rcases h with ⟨e, h⟩ | ⟨n, -, h1, h2, e⟩
  · rcases h' with ⟨e', -⟩ | ⟨n, -, h1, -⟩
    · rw [e, e']
    · exact absurd h1 (h n)
  · rcases h' with ⟨-, h⟩ | ⟨n', -, h1', h2', e'⟩
    · exact absurd h1 (h n)
    · have : n = n' := by
        rcases Nat.lt_trichotomy n n' with q | q | q
        · exact absurd h1 (h2' n q)
        · exact q
        · exact absurd h1' (h2 n' q)
      rw [e, e', this]
/-- the least of the values of those that count -/
def mnC (C : Nat → Bool) (v : Nat → Nat) : Nat → Nat
  | 0 => 1000000
  | n + 1 => if C n then min (mnC C v n) (v n) else mnC C v n
theorem mnC_le (C : Nat → Bool) (v : Nat → Nat) : ∀ n, mnC C v n ≤ 1000000 := by
  intro n
  induction n with
  | zero => exact Nat.le_refl _
  | succ n ih =>
    unfold mnC
    split
    · exact Nat.le_trans (Nat.min_le_left _ _) ih
    · exact ih
theorem mnC_th {C : Nat → Bool} {v : Nat → Nat} {d : Nat} (hd : d < 1000000) : ∀ n, mnC C v n ≤ d ↔ ∃ i, i < n ∧ C i = true ∧ v i ≤ d := by
  intro n
  induction n with
  | zero => exact ⟨fun h => by have h : 1000000 ≤ d := h; omega, fun ⟨i, hi, _⟩ => by omega⟩
  | succ n ih =>
    unfold mnC
    by_cases hC : C n = true
    · rw [if_pos hC]
      constructor
      · intro h
        rcases Nat.lt_or_ge d (v n) with h1 | h1
        · obtain ⟨i, h2, h3⟩ := ih.mp (by omega)
          exact ⟨i, by omega, h3⟩
        · exact ⟨n, by omega, hC, h1⟩
      · rintro ⟨i, hi, h1, h2⟩
        by_cases hin : i = n
        · subst hin; omega
        · have := ih.mpr ⟨i, by omega, h1, h2⟩
          omega
    · rw [if_neg hC]
      constructor
      · intro h
        obtain ⟨i, h2, h3⟩ := ih.mp h
        exact ⟨i, by omega, h3⟩
      · rintro ⟨i, hi, h1, h2⟩
        refine ih.mpr ⟨i, ?_, h1, h2⟩
        by_cases hin : i = n
        · subst hin; exact absurd h1 hC
        · omega
/-- all that is come to is far enough from FAR -/
theorem RI.near {dg : Nat → Nat} {tg : Nat → Nat → Option Nat} {z N : Nat} {V : Nat → Nat} (ri : RI dg tg z N V) (ck : Ck dg tg V N 0) (hdg : ∀ i, N ≤ i → dg i = 0) (hN : N < 900) : ∀ n j, Wg dg tg z n j → V j < 1000000 := by
  intro n
  induction n with
  | zero => intro j hj; have hj : j = z := hj; rw [hj, ri.1]; omega
  | succ n ih =>
    rintro j ⟨i, f, hw, hf, ht⟩
    have h1 := ih i hw
    have hiN : i < N := by
      rcases Nat.lt_or_ge i N with h | h
      · exact h
      · have := hdg i h; omega
    have h2 := ck i f j (Or.inl hiN) h1 hf ht
    have h3 := ri.2.2.2 i h1
    have h4 := cnp_le (fin V) N
    omega
/-- the answer out of the reference's table -/
theorem RI.ans {dg : Nat → Nat} {tg : Nat → Nat → Option Nat} {z N : Nat} {V : Nat → Nat} (ri : RI dg tg z N V) (ck : Ck dg tg V N 0) (hdg : ∀ i, N ≤ i → dg i = 0) (hN : N < 900) {C : Nat → Bool} {M off : Nat} : Ans (fun n => ∃ i, i < M ∧ C i = true ∧ Wg dg tg z n (off + i)) (if mnC C (fun i => V (off + i)) M < 1000000 then nI (mnC C (fun i => V (off + i)) M) else m1) := by
  have hle := mnC_le C (fun i => V (off + i)) M
  have hth := fun d hd => @mnC_th C (fun i => V (off + i)) d hd M
  generalize mnC C (fun i => V (off + i)) M = x at *
  by_cases hx : x < 1000000
  · rw [if_pos hx]
    obtain ⟨i, hi, hC, hv⟩ := (hth x hx).mp (Nat.le_refl _)
    have hv : V (off + i) ≤ x := hv
    obtain ⟨n, hn, hw⟩ := ri.2.2.1 (off + i) (by omega)
    have hb := ri.2.2.2 (off + i) (by omega)
    have hb2 := cnp_le (fin V) N
    have hxe : V (off + i) = x := by
      rcases Nat.lt_or_ge (V (off + i)) x with h | h
      · have := (hth (V (off + i)) (by omega)).mpr ⟨i, hi, hC, Nat.le_refl _⟩
        omega
      · omega
    refine Or.inr ⟨n, by omega, ⟨i, hi, hC, hw⟩, fun n' hn' hq => ?_, by rw [← hxe, hn]⟩
    obtain ⟨i', hi', hC', hw'⟩ := hq
    have h1 := ri.dist ck hdg n' (off + i') hw'
    have := (hth (n' + 1) (by omega)).mpr ⟨i', hi', hC', h1⟩
    omega
  · rw [if_neg hx]
    refine Or.inl ⟨rfl, fun n hq => ?_⟩
    obtain ⟨i', hi', hC', hw'⟩ := hq
    have h1 := ri.near ck hdg hN n (off + i') hw'
    have := (hth (V (off + i')) h1).mpr ⟨i', hi', hC', Nat.le_refl _⟩
    omega
section SOD
variable {h : qH} {a : Nat} {A : Nat → Nat → Int32} {B : Nat → Nat → Int64} {I : Nat → Int32} {J : Nat → Int64} {b : Nat → Int32} {k : Nat}
theorem d_nears (o : OB h a 12 mdL A B I J) {i j vi vj : Nat} (hi : i < 200) (hj : j < 200) (h1 : vi < 1000000) (h2 : vj ≤ 1000000) (e1 : A 30 i = nI vi) (e2 : A 30 j = nI vj) : ∃ h', F_X12_nears h a (nI i) (nI j) = some (nI (if vi + 1 < vj then 1 else 0), h') ∧ OB h' a 12 mdL (upF A 30 (upd (A 30) j (nI (if vi + 1 < vj then vi + 1 else vj)))) B I J ∧ Fr h h' a (a + 27) := by
  obtain ⟨h', e', o', r'⟩ := X12_s30 o (i := j) (nI (if vi + 1 < vj then vi + 1 else vj)) hj
  refine ⟨h', ?_, o', r'⟩
  by_cases hc : vi + 1 < vj
  · rw [if_pos hc] at e' ⊢
    simp (disch := omega) only [F_X12_nears, j_X12_nears_22, nS, X12_rd o, e1, e2, e']
  · rw [if_neg hc] at e' ⊢
    simp (disch := omega) only [F_X12_nears, j_X12_nears_22, nS, X12_rd o, e1, e2, e']
/-- a node is relaxed: the row afterwards -/
theorem RW_rel {tg : Nat → Nat → Option Nat} {h0 h' : qH} {A0 : Nat → Nat → Int32} {V : Nat → Nat} {i f j : Nat} (hj : tg i f = some j) (row : ∀ j, j < 200 → A 30 j = nI (V j)) (r0 : Fr h0 h a (a + 27)) (n0 : On [30] A0 A) (o' : OB h' a 12 mdL (upF A 30 (upd (A 30) j (nI (if V i + 1 < V j then V i + 1 else V j)))) B I J) (r' : Fr h h' a (a + 27)) : RW a A0 B I J h0 h' (rel tg V i f) := by
  refine ⟨_, o', r0.tr r', n0.tr (On.up (by decide)), fun x hx => ?_⟩
  rw [upF_self]
  by_cases hc : V i + 1 < V j
  · have hr : rx tg V i f = true := by unfold rx; rw [hj]; exact decide_eq_true hc
    have e : rel tg V i f = fun x => if tg i f = some x then V i + 1 else V x := by unfold rel; rw [hr]; rfl
    rw [e, if_pos hc]
    dsimp only
    rw [hj]
    by_cases hxj : x = j
    · subst hxj; rw [pk_us, if_pos rfl]
    · rw [pk_un hxj, if_neg (fun q => hxj (by cases q; rfl)), row x hx]
  · have hr : rx tg V i f = false := by unfold rx; rw [hj]; exact decide_eq_false hc
    have e : rel tg V i f = V := by unfold rel; rw [hr]; rfl
    rw [e, if_neg hc]
    by_cases hxj : x = j
    · subst hxj; rw [pk_us]
    · rw [pk_un hxj, row x hx]
theorem d_soonR {h0 : qH} (o : OB h0 a 12 mdL A B I J) (hb : HB A I b k) {s kk : Nat} (hs : s < 10) (hk : kk < 10) (h0L : 0 < mbL (bMB b)) : ∃ h1 h2 V A2, q_lp (s_X12_soonest_42 a (nI s) (nI kk)) q_N (nI 0, h0) = some h1 ∧ q_lp (s_X12_soonest_78 a (nI s) (nI kk)) q_N (nI 1, h1) = some h2 ∧ RI (dgS (bMB b) kk) (tgS (bMB b) kk) 0 (20 * (kk + 1)) V ∧ Ck (dgS (bMB b) kk) (tgS (bMB b) kk) V (20 * (kk + 1)) 0 ∧ OB h2 a 12 mdL A2 B I J ∧ Fr h0 h2 a (a + 27) ∧ On [30] A A2 ∧ ∀ j, j < 200 → A2 30 j = nI (V j) := by
  have ok := bMB_ok hb.1
  have hL := L_le ok
  have fo := FO_b hb.1
  have hbk : ∀ {A' : Nat → Nat → Int32}, On [30] A A' → HB A' I b k := fun n => hb.cg (n 6 (by decide)) (n 25 (by decide)) (n 26 (by decide)) rfl rfl
  obtain ⟨h1, e1, A1, o1, r1, n1, z1⟩ := q_lp1 (step := s_X12_soonest_42 a (nI s) (nI kk)) (fun i h' => ∃ A', OB h' a 12 mdL A' B I J ∧ Fr h0 h' a (a + 27) ∧ On [30] A A' ∧ ∀ j, j < i → A' 30 j = nI (if j = 0 then 1 else 1000000)) 200 0 (by omega)
    (fun i h1 hi ⟨A1, o1, r1, n1, z1⟩ => by
      obtain ⟨h2, e2, o2, r2⟩ := X12_s30 o1 (i := i) (nI (if i = 0 then 1 else 1000000)) hi
      refine ⟨h2, ?_, _, o2, r1.tr r2, n1.tr (On.up (by decide)), fun j hj => ?_⟩
      · by_cases hi0 : i = 0
        · rw [if_pos hi0] at e2
          simp (disch := omega) only [s_X12_soonest_42, b_X12_soonest_42, nS, Nat.add_zero, X12_rd o1, e2]
        · rw [if_neg hi0] at e2
          simp (disch := omega) only [s_X12_soonest_42, b_X12_soonest_42, nS, Nat.add_zero, X12_rd o1, e2]
      · rw [upF_self]
        by_cases hji : j = i
        · subst hji; exact pk_us
        · rw [pk_un hji]; exact z1 j (by omega))
    (fun h1 _ => by simp (disch := omega) only [s_X12_soonest_42, b_X12_soonest_42, nS, Nat.add_zero])
    (h := h0) ⟨A, o, Fr.rf, On.rf, fun l hl => by omega⟩
  obtain ⟨h2, V, e2, ri, ck, A2, o2, r2, n2, z2⟩ := relax (dg := dgS (bMB b) kk) (tg := tgS (bMB b) kk) (z := 0) (N := 20 * (kk + 1)) (a := a) (A0 := A) (B := B) (I := I) (J := J) (h0 := h0) (s78 := s_X12_soonest_78 a (nI s) (nI kk)) (s89 := s_X12_soonest_89 a (nI s) (nI kk)) (s103 := fun i => s_X12_soonest_103 a (nI s) (nI kk) (nI i)) (by omega)
    (fun i hi => by
      unfold dgS
      rw [if_pos hi]
      rcases Nat.lt_or_ge (i % 20) (mbL (bMB b)) with h | h
      · exact fn_le ok h
      · rw [fo _ h]; omega)
    (fun i f j hi hf hj => (tgS_lt ok fo hf hj).1)
    (fun h V i f mo hmo hV hi hf hVi ⟨A', o', r', n', row⟩ => by
      have hb' := hbk n'
      obtain ⟨-, hf2⟩ := dgS_in hf
      have hlL := fo_lt fo hf2
      have hg := gg_lt ok hlL hf2
      have hfn := fn_le ok hlL
      have b3 := sty_le f
      have eVi := row i (by omega)
      have efm := (d_pack o' hb').2.2.2.2.2.2.2.2.2.2.2 (i % 20) (by omega)
      by_cases hc : i / 20 + sty f ≤ kk
      · have hj : tgS (bMB b) kk i f = some (20 * (i / 20 + sty f) + gg (bMB b) (i % 20) f) := if_pos hc
        obtain ⟨j, hje⟩ : ∃ j, j = 20 * (i / 20 + sty f) + gg (bMB b) (i % 20) f := ⟨_, rfl⟩
        rw [← hje] at hj
        have hjN := (tgS_lt ok fo hf hj).1
        have hVj := hV j
        obtain ⟨h', e', o'', r''⟩ := d_nears o' (i := i) (j := j) (vi := V i) (vj := V j) (by omega) (by omega) hVi hVj eVi (row j (by omega))
        refine ⟨h', ?_, RW_rel hj row r' n' o'' r''⟩
        have hrx : rx (tgS (bMB b) kk) V i f = decide (V i + 1 < V j) := by unfold rx; rw [hj]
        rw [hrx]
        have hbeh := (d_pack o' hb').2.2.2.1 (i % 20) f (by omega) hf2
        by_cases hlt : V i + 1 < V j
        · rw [decide_eq_true hlt, if_pos rfl]
          rw [if_pos hlt] at e'
          rcases (show mo = 0 ∨ mo = 1 by omega) with rfl | rfl
          · simp (disch := omega) only [s_X12_soonest_103, b_X12_soonest_103, j_X12_soonest_181, nS, X12_rd o', eVi, efm, d_sty h, hbeh, ← hje, e']
          · simp (disch := omega) only [s_X12_soonest_103, b_X12_soonest_103, j_X12_soonest_181, nS, X12_rd o', eVi, efm, d_sty h, hbeh, ← hje, e']
        · rw [decide_eq_false hlt, if_neg (by decide)]
          rw [if_neg hlt] at e'
          rcases (show mo = 0 ∨ mo = 1 by omega) with rfl | rfl
          · simp (disch := omega) only [s_X12_soonest_103, b_X12_soonest_103, j_X12_soonest_180, j_X12_soonest_181, nS, X12_rd o', eVi, efm, d_sty h, hbeh, ← hje, e']
          · simp (disch := omega) only [s_X12_soonest_103, b_X12_soonest_103, j_X12_soonest_180, j_X12_soonest_181, nS, X12_rd o', eVi, efm, d_sty h, hbeh, ← hje, e']
      · have hj : tgS (bMB b) kk i f = none := if_neg hc
        have hrx : rx (tgS (bMB b) kk) V i f = false := by unfold rx; rw [hj]
        have hrel : rel (tgS (bMB b) kk) V i f = V := by unfold rel; rw [hrx]; rfl
        refine ⟨h, ?_, by rw [hrel]; exact ⟨A', o', r', n', row⟩⟩
        rw [hrx, if_neg (by decide)]
        rcases (show mo = 0 ∨ mo = 1 by omega) with rfl | rfl
        · simp (disch := omega) only [s_X12_soonest_103, b_X12_soonest_103, j_X12_soonest_180, j_X12_soonest_181, nS, X12_rd o', eVi, efm, d_sty h]
        · simp (disch := omega) only [s_X12_soonest_103, b_X12_soonest_103, j_X12_soonest_180, j_X12_soonest_181, nS, X12_rd o', eVi, efm, d_sty h])
    (fun h V i f mo hV hi hf hst ⟨A', o', r', n', row⟩ => by
      have hb' := hbk n'
      have eVi := row i (by omega)
      have hVi := hV i
      have efm := (d_pack o' hb').2.2.2.2.2.2.2.2.2.2.2 (i % 20) (by omega)
      have hfn : fn (bMB b) (i % 20) ≤ 20 := by
        rcases Nat.lt_or_ge (i % 20) (mbL (bMB b)) with h | h
        · exact fn_le ok h
        · rw [fo _ h]; omega
      rcases Nat.lt_or_ge (V i) 1000000 with h1 | h1
      · have hst : fn (bMB b) (i % 20) ≤ f := by
          have := hst.resolve_left (by omega)
          unfold dgS at this
          rw [if_pos hi] at this
          exact this
        simp (disch := omega) only [s_X12_soonest_103, b_X12_soonest_103, nS, X12_rd o', eVi, efm]
      · simp (disch := omega) only [s_X12_soonest_103, b_X12_soonest_103, nS, X12_rd o', eVi])
    (fun h h' i mo mo' hi e => by simp (disch := omega) only [s_X12_soonest_89, b_X12_soonest_89, nS, e])
    (fun h mo => by simp (disch := omega) only [s_X12_soonest_89, b_X12_soonest_89, nS])
    (fun h h' mo e => by simp (disch := omega) only [s_X12_soonest_78, b_X12_soonest_78, nS, e])
    (fun h => by simp (disch := omega) only [s_X12_soonest_78, b_X12_soonest_78, nS])
    (h := h1) (V := fun j => if j = 0 then 1 else 1000000)
    ⟨rfl, fun j => by dsimp only; split <;> omega, fun j hj => by
      dsimp only at hj
      by_cases hj0 : j = 0
      · subst hj0; exact ⟨0, rfl, rfl⟩
      · rw [if_neg hj0] at hj; omega, fun j hj => by
      dsimp only at hj ⊢
      by_cases hj0 : j = 0
      · subst hj0
        have : cnp (fun _ => False) (20 * (kk + 1)) < cnp (fin (fun j => if j = 0 then 1 else 1000000)) (20 * (kk + 1)) := cnp_st _ (fun _ _ q => q.elim) ⟨0, by omega, by show (if 0 = 0 then 1 else 1000000) < 1000000; decide, fun q => q⟩
        rw [if_pos rfl]
        omega
      · rw [if_neg hj0] at hj; omega⟩
    ⟨A1, o1, r1, n1, z1⟩
  exact ⟨h1, h2, V, A2, e1, e2, ri, ck, o2, r2, n2, z2⟩
theorem d_soonMin (o : OB h a 12 mdL A B I J) (hb : HB A I b k) {s kk : Nat} (hs : s < 10) (hk : kk < 10) {V : Nat → Nat} (hV : ∀ j, V j ≤ 1000000) (row : ∀ j, j < 200 → A 30 j = nI (V j)) : q_lp (s_X12_soonest_223 h a (nI s) (nI kk)) q_N (nI 1000000, nI 0) = some (nI (mnC (fun i => decide (i % 20 < mbL (bMB b) ∧ sc (bMB b) (i % 20) = s)) (fun i => V (0 + i)) (20 * (kk + 1)))) := by
  have ok := bMB_ok hb.1
  have hL := L_le ok
  refine q_lp_for (fun i => (nI (mnC (fun i => decide (i % 20 < mbL (bMB b) ∧ sc (bMB b) (i % 20) = s)) (fun i => V (0 + i)) i), nI i)) (20 * (kk + 1)) (fun i hi => ?_) ?_ q_N (q_lt_N (by omega))
  · have e := row i (by omega)
    have hv := hV i
    have hm := mnC_le (fun i => decide (i % 20 < mbL (bMB b) ∧ sc (bMB b) (i % 20) = s)) (fun i => V (0 + i)) i
    show _ = some (Sum.inl (nI (if decide (i % 20 < mbL (bMB b) ∧ sc (bMB b) (i % 20) = s) = true then min (mnC (fun i => decide (i % 20 < mbL (bMB b) ∧ sc (bMB b) (i % 20) = s)) (fun i => V (0 + i)) i) (V (0 + i)) else mnC (fun i => decide (i % 20 < mbL (bMB b) ∧ sc (bMB b) (i % 20) = s)) (fun i => V (0 + i)) i), nI (i + 1)))
    generalize mnC (fun i => decide (i % 20 < mbL (bMB b) ∧ sc (bMB b) (i % 20) = s)) (fun i => V (0 + i)) i = M at hm
    rw [Nat.zero_add]
    rcases Nat.lt_or_ge (i % 20) (mbL (bMB b)) with h1 | h1
    · have hsc := (sc_ok ok h1).2
      have his := (d_pack o hb).2.2.2.2.2.2.1 (i % 20) s h1 (by omega)
      by_cases h2 : sc (bMB b) (i % 20) = s
      · rw [if_pos (decide_eq_true ⟨h1, h2⟩)]
        rw [if_pos h2] at his
        rcases Nat.lt_or_ge M (V i) with h3 | h3
        · rw [Nat.min_eq_left (by omega)]
          simp (disch := omega) only [s_X12_soonest_223, b_X12_soonest_223, nS, X12_rd o, hb.i24, his, e, F_X12_lesser]
        · rw [Nat.min_eq_right (by omega)]
          simp (disch := omega) only [s_X12_soonest_223, b_X12_soonest_223, nS, X12_rd o, hb.i24, his, e, F_X12_lesser]
      · rw [if_neg (fun q => h2 (of_decide_eq_true q).2)]
        rw [if_neg h2] at his
        simp (disch := omega) only [s_X12_soonest_223, b_X12_soonest_223, nS, X12_rd o, hb.i24, his]
    · rw [if_neg (fun q => by have := (of_decide_eq_true q).1; omega)]
      simp (disch := omega) only [s_X12_soonest_223, b_X12_soonest_223, nS, X12_rd o, hb.i24]
  · simp (disch := omega) only [s_X12_soonest_223, b_X12_soonest_223, nS]
end SOD
