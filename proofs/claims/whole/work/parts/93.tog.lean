/-! ===== together ===== -/
/-- who of the two says a line: bits -/
def sb (m : MB) (p q l : Nat) : Nat := (if wh m l = p then 1 else 0) ||| (if wh m l = q then 2 else 0)
theorem or_4 : ∀ a, a < 4 → ∀ b, b < 4 → a ||| b < 4 := by decide +kernel
theorem sb_lt (m : MB) (p q l : Nat) : sb m p q l < 4 := by
  unfold sb
  refine or_4 _ ?_ _ ?_
  · split <;> omega
  · split <;> omega
def dgT (m : MB) (i : Nat) : Nat := if i < 80 then fn m (i % 20) else 0
def tgT (m : MB) (p q i f : Nat) : Option Nat := some (20 * (i / 20 ||| sb m p q (gg m (i % 20) f)) + gg m (i % 20) f)
theorem dgT_in {m : MB} {i f : Nat} (h : f < dgT m i) : i < 80 ∧ f < fn m (i % 20) := by
  unfold dgT at h
  split at h
  · next hc => exact ⟨hc, h⟩
  · omega
theorem tgT_lt {m : MB} (ok : MBok m) (fo : FO m) {p q i f j : Nat} (hf : f < dgT m i) (h : tgT m p q i f = some j) : j < 80 ∧ j % 20 = gg m (i % 20) f ∧ j / 20 = (i / 20 ||| sb m p q (gg m (i % 20) f)) ∧ gg m (i % 20) f < mbL m := by
  obtain ⟨h3, h4⟩ := dgT_in hf
  have h5 := fo_lt fo h4
  have h6 := gg_lt ok h5 h4
  have hL := L_le ok
  have h7 := or_4 (i / 20) (by omega) _ (sb_lt m p q (gg m (i % 20) f))
  unfold tgT at h
  cases h
  omega
/-- both have said one after n steps -/
def HitT (m : MB) (p q n : Nat) : Prop := ∃ l, l < 20 ∧ Wg (dgT m) (tgT m p q) (20 * sb m p q 0) n (60 + l)
theorem Wg_80 {m : MB} (ok : MBok m) (fo : FO m) {p q : Nat} (h0 : 0 < mbL m) : ∀ n j, Wg (dgT m) (tgT m p q) (20 * sb m p q 0) n j → j < 80 ∧ j % 20 < mbL m := by
  intro n
  cases n with
  | zero =>
    intro j hj
    have hj : j = 20 * sb m p q 0 := hj
    have := sb_lt m p q 0
    omega
  | succ n =>
    rintro j ⟨i, f, -, hf, ht⟩
    have := tgT_lt ok fo hf ht
    exact ⟨this.1, by rw [this.2.1]; exact this.2.2.2⟩
theorem hitT_short {m : MB} (ok : MBok m) (fo : FO m) (h0 : 0 < mbL m) {p q n : Nat} (hh : HitT m p q n) (hmin : ∀ n', n' < n → ¬ HitT m p q n') : n < 80 := by
  obtain ⟨l, hl, hw⟩ := hh
  obtain ⟨w, w0, wn, ws⟩ := Wg_fun n _ hw
  have key : ∀ i j, i < j → j ≤ n → w i ≠ w j := by
    intro i j hij hj he
    obtain ⟨d, hd⟩ : ∃ d, d = j - i := ⟨_, rfl⟩
    obtain ⟨w', hw'⟩ : ∃ w' : Nat → Nat, w' = fun x => if x ≤ i then w x else w (x + d) := ⟨_, rfl⟩
    have e1 : ∀ x, x ≤ i → w' x = w x := fun x hx => by rw [hw']; exact if_pos hx
    have e2 : ∀ x, i < x → w' x = w (x + d) := fun x hx => by rw [hw']; exact if_neg (by omega)
    have hW : Wg (dgT m) (tgT m p q) (20 * sb m p q 0) (n - d) (w' (n - d)) := by
      refine fun_Wg (by rw [e1 0 (by omega)]; exact w0) (n - d) (fun x hx => ?_)
      rcases Nat.lt_trichotomy x i with hxi | hxi | hxi
      · rw [e1 x (by omega), e1 (x + 1) (by omega)]
        exact ws x (by omega)
      · subst hxi
        rw [e1 x (Nat.le_refl _), e2 (x + 1) (by omega), show x + 1 + d = j + 1 by omega, he]
        exact ws j (by omega)
      · rw [e2 x hxi, e2 (x + 1) (by omega), show x + 1 + d = x + d + 1 by omega]
        exact ws (x + d) (by omega)
    refine hmin (n - d) (by omega) ⟨l, hl, ?_⟩
    have : w' (n - d) = 60 + l := by
      rcases Nat.lt_or_ge i (n - d) with h6 | h6
      · rw [e2 _ h6, show n - d + d = n by omega, wn]
      · rw [e1 _ h6, show n - d = i by omega, he, show j = n by omega, wn]
    rw [this] at hW
    exact hW
  have := inj_len (w := w) (n := n) (L := 80) (fun i hi => (Wg_80 ok fo h0 i (w i) (fun_Wg w0 i (fun x hx => ws x (by omega)))).1) key
  omega
section TGD
variable {h : qH} {a : Nat} {A : Nat → Nat → Int32} {B : Nat → Nat → Int64} {I : Nat → Int32} {J : Nat → Int64} {b : Nat → Int32} {k : Nat}
theorem d_said (o : OB h a 12 mdL A B I J) (hb : HB A I b k) {p q x l : Nat} (hp : p < 6) (hq : q < 6) (hx : x < 4) (hl : l < mbL (bMB b)) : F_X12_saidBy h a (nI x) (nI l) (nI p) (nI q) = some (nI (x ||| sb (bMB b) p q l)) := by
  have ok := bMB_ok hb.1
  have hw := (wh_ok ok hl).2
  unfold sb
  rw [← Nat.or_assoc]
  by_cases h1 : wh (bMB b) l = p
  · have := or_4 x hx 1 (by omega)
    by_cases h2 : wh (bMB b) l = q
    · rw [if_pos h1, if_pos h2]
      simp (disch := omega) only [F_X12_saidBy, j_X12_saidBy_15, nS, o.ob, d_pack o hb, bS]
    · rw [if_pos h1, if_neg h2]
      simp (disch := omega) only [F_X12_saidBy, j_X12_saidBy_15, nS, o.ob, d_pack o hb, bS]
  · by_cases h2 : wh (bMB b) l = q
    · rw [if_neg h1, if_pos h2]
      simp (disch := omega) only [F_X12_saidBy, j_X12_saidBy_15, nS, o.ob, d_pack o hb, bS, Nat.or_zero]
    · rw [if_neg h1, if_neg h2]
      simp (disch := omega) only [F_X12_saidBy, j_X12_saidBy_15, nS, o.ob, d_pack o hb, bS, Nat.or_zero]
theorem d_togR {h0 : qH} (o : OB h0 a 12 mdL A B I J) (hb : HB A I b k) {p q : Nat} (hp : p < 6) (hq : q < 6) (h0L : 0 < mbL (bMB b)) : ∃ h1 h2 V A2, q_lp (s_X12_together_52 a (nI p) (nI q) (nI (20 * sb (bMB b) p q 0))) q_N (nI 0, h0) = some h1 ∧ q_lp (s_X12_together_90 a (nI p) (nI q)) q_N (nI 1, h1) = some h2 ∧ RI (dgT (bMB b)) (tgT (bMB b) p q) (20 * sb (bMB b) p q 0) 80 V ∧ Ck (dgT (bMB b)) (tgT (bMB b) p q) V 80 0 ∧ OB h2 a 12 mdL A2 B I J ∧ Fr h0 h2 a (a + 27) ∧ On [30] A A2 ∧ ∀ j, j < 200 → A2 30 j = nI (V j) := by
  have ok := bMB_ok hb.1
  have hL := L_le ok
  have fo := FO_b hb.1
  have hbk : ∀ {A' : Nat → Nat → Int32}, On [30] A A' → HB A' I b k := fun n => hb.cg (n 6 (by decide)) (n 25 (by decide)) (n 26 (by decide)) rfl rfl
  have hsb := sb_lt (bMB b) p q 0
  obtain ⟨z, hz⟩ : ∃ z, z = 20 * sb (bMB b) p q 0 := ⟨_, rfl⟩
  rw [← hz]
  have hz80 : z < 80 := by omega
  obtain ⟨h1, e1, A1, o1, r1, n1, z1⟩ := q_lp1 (step := s_X12_together_52 a (nI p) (nI q) (nI z)) (fun i h' => ∃ A', OB h' a 12 mdL A' B I J ∧ Fr h0 h' a (a + 27) ∧ On [30] A A' ∧ ∀ j, j < i → A' 30 j = nI (if j = z then 1 else 1000000)) 200 0 (by omega)
    (fun i h1 hi ⟨A1, o1, r1, n1, z1⟩ => by
      obtain ⟨h2, e2, o2, r2⟩ := X12_s30 o1 (i := i) (nI (if i = z then 1 else 1000000)) hi
      refine ⟨h2, ?_, _, o2, r1.tr r2, n1.tr (On.up (by decide)), fun j hj => ?_⟩
      · by_cases hi0 : i = z
        · rw [if_pos hi0] at e2
          simp (disch := omega) only [s_X12_together_52, b_X12_together_52, nS, Nat.add_zero, X12_rd o1, e2]
        · rw [if_neg hi0] at e2
          simp (disch := omega) only [s_X12_together_52, b_X12_together_52, nS, Nat.add_zero, X12_rd o1, e2]
      · rw [upF_self]
        by_cases hji : j = i
        · subst hji; exact pk_us
        · rw [pk_un hji]; exact z1 j (by omega))
    (fun h1 _ => by simp (disch := omega) only [s_X12_together_52, b_X12_together_52, nS, Nat.add_zero])
    (h := h0) ⟨A, o, Fr.rf, On.rf, fun l hl => by omega⟩
  obtain ⟨h2, V, e2, ri, ck, A2, o2, r2, n2, z2⟩ := relax (dg := dgT (bMB b)) (tg := tgT (bMB b) p q) (z := z) (N := 80) (a := a) (A0 := A) (B := B) (I := I) (J := J) (h0 := h0) (s78 := s_X12_together_90 a (nI p) (nI q)) (s89 := s_X12_together_101 a (nI p) (nI q)) (s103 := fun i => s_X12_together_111 a (nI p) (nI q) (nI i)) (by omega)
    (fun i hi => by
      unfold dgT
      rw [if_pos hi]
      rcases Nat.lt_or_ge (i % 20) (mbL (bMB b)) with h | h
      · exact fn_le ok h
      · rw [fo _ h]; omega)
    (fun i f j hi hf hj => (tgT_lt ok fo hf hj).1)
    (fun h V i f mo hmo hV hi hf hVi ⟨A', o', r', n', row⟩ => by
      have hb' := hbk n'
      obtain ⟨-, hf2⟩ := dgT_in hf
      have hlL := fo_lt fo hf2
      have hg := gg_lt ok hlL hf2
      have hfn := fn_le ok hlL
      have eVi := row i (by omega)
      have efm := (d_pack o' hb').2.2.2.2.2.2.2.2.2.2.2 (i % 20) (by omega)
      have hbeh := (d_pack o' hb').2.2.2.1 (i % 20) f (by omega) hf2
      have hsd := d_said o' hb' hp hq (x := i / 20) (l := gg (bMB b) (i % 20) f) (by omega) hg
      have h4 := or_4 (i / 20) (by omega) _ (sb_lt (bMB b) p q (gg (bMB b) (i % 20) f))
      have hj : tgT (bMB b) p q i f = some (20 * (i / 20 ||| sb (bMB b) p q (gg (bMB b) (i % 20) f)) + gg (bMB b) (i % 20) f) := rfl
      obtain ⟨sx, hsx⟩ : ∃ sx, sx = (i / 20 ||| sb (bMB b) p q (gg (bMB b) (i % 20) f)) := ⟨_, rfl⟩
      rw [← hsx] at hj hsd h4
      obtain ⟨j, hje⟩ : ∃ j, j = 20 * sx + gg (bMB b) (i % 20) f := ⟨_, rfl⟩
      rw [← hje] at hj
      have hVj := hV j
      obtain ⟨h', e', o'', r''⟩ := d_nears o' (i := i) (j := j) (vi := V i) (vj := V j) (by omega) (by omega) hVi hVj eVi (row j (by omega))
      refine ⟨h', ?_, RW_rel hj row r' n' o'' r''⟩
      have hrx : rx (tgT (bMB b) p q) V i f = decide (V i + 1 < V j) := by unfold rx; rw [hj]
      rw [hrx]
      by_cases hlt : V i + 1 < V j
      · rw [decide_eq_true hlt, if_pos rfl]
        rw [if_pos hlt] at e'
        rcases (show mo = 0 ∨ mo = 1 by omega) with rfl | rfl
        · simp (disch := omega) only [s_X12_together_111, b_X12_together_111, nS, X12_rd o', eVi, efm, hbeh, hsd, ← hje, e']
        · simp (disch := omega) only [s_X12_together_111, b_X12_together_111, nS, X12_rd o', eVi, efm, hbeh, hsd, ← hje, e']
      · rw [decide_eq_false hlt, if_neg (by decide)]
        rw [if_neg hlt] at e'
        rcases (show mo = 0 ∨ mo = 1 by omega) with rfl | rfl
        · simp (disch := omega) only [s_X12_together_111, b_X12_together_111, nS, X12_rd o', eVi, efm, hbeh, hsd, ← hje, e']
        · simp (disch := omega) only [s_X12_together_111, b_X12_together_111, nS, X12_rd o', eVi, efm, hbeh, hsd, ← hje, e'])
    (fun h V i f mo hV hi hf hst ⟨A', o', r', n', row⟩ => by
      have hb' := hbk n'
      have eVi := row i (by omega)
      have hVi := hV i
      have efm := (d_pack o' hb').2.2.2.2.2.2.2.2.2.2.2 (i % 20) (by omega)
      have hfn : fn (bMB b) (i % 20) ≤ 20 := by
        rcases Nat.lt_or_ge (i % 20) (mbL (bMB b)) with h | h
        · exact fn_le ok h
        · rw [fo _ h]; omega
      rcases Nat.lt_or_ge (V i) 1000000 with h1 | h1
      · have hst : fn (bMB b) (i % 20) ≤ f := by
          have := hst.resolve_left (by omega)
          unfold dgT at this
          rw [if_pos hi] at this
          exact this
        simp (disch := omega) only [s_X12_together_111, b_X12_together_111, nS, X12_rd o', eVi, efm]
      · simp (disch := omega) only [s_X12_together_111, b_X12_together_111, nS, X12_rd o', eVi])
    (fun h h' i mo mo' hi e => by simp (disch := omega) only [s_X12_together_101, b_X12_together_101, nS, e])
    (fun h mo => by simp (disch := omega) only [s_X12_together_101, b_X12_together_101, nS])
    (fun h h' mo e => by simp (disch := omega) only [s_X12_together_90, b_X12_together_90, nS, e])
    (fun h => by simp (disch := omega) only [s_X12_together_90, b_X12_together_90, nS])
    (h := h1) (V := fun j => if j = z then 1 else 1000000)
    ⟨if_pos rfl, fun j => by dsimp only; split <;> omega, fun j hj => by
      dsimp only at hj
      by_cases hj0 : j = z
      · subst hj0; exact ⟨0, if_pos rfl, rfl⟩
      · rw [if_neg hj0] at hj; omega, fun j hj => by
      dsimp only at hj ⊢
      by_cases hj0 : j = z
      · have : cnp (fun _ => False) 80 < cnp (fin (fun j => if j = z then 1 else 1000000)) 80 := cnp_st _ (fun _ _ q => q.elim) ⟨z, by omega, by show (if z = z then 1 else 1000000) < 1000000; rw [if_pos rfl]; omega, fun q => q⟩
        rw [if_pos hj0]
        omega
      · rw [if_neg hj0] at hj; omega⟩
    ⟨A1, o1, r1, n1, z1⟩
  exact ⟨h1, h2, V, A2, e1, e2, ri, ck, o2, r2, n2, z2⟩
theorem d_tog (o : OB h a 12 mdL A B I J) (hb : HB A I b k) {p q : Nat} (hp : p < 6) (hq : q < 6) (h0L : 0 < mbL (bMB b)) : ∃ h1 h2 A2 x, q_lp (s_X12_together_52 a (nI p) (nI q) (nI (20 * sb (bMB b) p q 0))) q_N (nI 0, h) = some h1 ∧ q_lp (s_X12_together_90 a (nI p) (nI q)) q_N (nI 1, h1) = some h2 ∧ q_lp (s_X12_together_219 h2 a) q_N (nI 1000000, nI 0) = some (nI x) ∧ x ≤ 1000000 ∧ OB h2 a 12 mdL A2 B I J ∧ Fr h h2 a (a + 27) ∧ On [30] A A2 ∧ Ans (HitT (bMB b) p q) (if x < 1000000 then nI x else m1) := by
  obtain ⟨h1, h2, V, A2, e1, e2, ri, ck, o2, r2, n2, z2⟩ := d_togR o hb hp hq h0L
  refine ⟨h1, h2, A2, mnC (fun _ => true) (fun i => V (60 + i)) 20, e1, e2, ?_, mnC_le _ _ _, o2, r2, n2, ?_⟩
  · refine q_lp_for (fun i => (nI (mnC (fun _ => true) (fun i => V (60 + i)) i), nI i)) 20 (fun i hi => ?_) ?_ q_N (q_lt_N (by omega))
    · have e := z2 (60 + i) (by omega)
      have hv := (ri.2.1 (60 + i)).2
      have hm := mnC_le (fun _ => true) (fun i => V (60 + i)) i
      show _ = some (Sum.inl (nI (min (mnC (fun _ => true) (fun i => V (60 + i)) i) (V (60 + i))), nI (i + 1)))
      generalize mnC (fun _ => true) (fun i => V (60 + i)) i = M at hm
      rcases Nat.lt_or_ge M (V (60 + i)) with h3 | h3
      · rw [Nat.min_eq_left (by omega)]
        simp (disch := omega) only [s_X12_together_219, b_X12_together_219, nS, X12_rd o2, e, F_X12_lesser]
      · rw [Nat.min_eq_right (by omega)]
        simp (disch := omega) only [s_X12_together_219, b_X12_together_219, nS, X12_rd o2, e, F_X12_lesser]
    · simp (disch := omega) only [s_X12_together_219, b_X12_together_219, nS]
  · refine (ri.ans ck (fun i hi => by unfold dgT; rw [if_neg (by omega)]) (by omega)).cg (fun n => ?_)
    constructor
    · rintro ⟨i, q1, q2, q3⟩; exact ⟨i, q1, q3⟩
    · rintro ⟨i, q1, q3⟩; exact ⟨i, q1, rfl, q3⟩
end TGD
/-! the class -/
/-- the sets of the class after n steps -/
def Tn (m : MB) (p q n : Nat) (S : Nat → Nat) : Prop := ∀ t, t < 4 → S t < 2 ^ 20 ∧ ∀ l, l < 20 → (tb (S t) l = 1 ↔ Wg (dgT m) (tgT m p q) (20 * sb m p q 0) n (20 * t + l))
/-- what has been put down so far -/
def Tp (m : MB) (p q : Nat) (S : Nat → Nat) (t l f : Nat) (S' : Nat → Nat) : Prop := ∀ u, u < 4 → S' u < 2 ^ 20 ∧ ∀ j, j < 20 → (tb (S' u) j = 1 ↔ ∃ t' l' f', (t' < t ∨ (t' = t ∧ (l' < l ∨ (l' = l ∧ f' < f)))) ∧ t' < 4 ∧ l' < mbL m ∧ tb (S t') l' = 1 ∧ f' < fn m l' ∧ j = gg m l' f' ∧ u = (t' ||| sb m p q (gg m l' f')))
section TGC
variable {h : qH} {a b : Nat} {m : MB} {A : Nat → Nat → Int32} {B : Nat → Nat → Int64} {I : Nat → Int32} {J : Nat → Int64}
theorem c_said (c : CB h b m) {p q l : Nat} (hp : p < 6) (hq : q < 6) (hl : l < mbL m) : F_X6_saidBy h b (nI l) (nI p) (nI q) = some (nI (sb m p q l)) := by
  have hw := (wh_ok c.1 hl).2
  unfold sb
  by_cases h1 : wh m l = p
  · by_cases h2 : wh m l = q
    · rw [if_pos h1, if_pos h2]
      simp (disch := omega) only [F_X6_saidBy, j_X6_saidBy_18, nS, cS c, bS]
    · rw [if_pos h1, if_neg h2]
      simp (disch := omega) only [F_X6_saidBy, j_X6_saidBy_18, nS, cS c, bS]
  · by_cases h2 : wh m l = q
    · rw [if_neg h1, if_pos h2]
      simp (disch := omega) only [F_X6_saidBy, j_X6_saidBy_18, nS, cS c, bS]
    · rw [if_neg h1, if_neg h2]
      simp (disch := omega) only [F_X6_saidBy, j_X6_saidBy_18, nS, cS c, bS]
theorem Tp.step {p q : Nat} {S S' : Nat → Nat} {t l f : Nat} (ok : MBok m) (ht : t < 4) (hl : l < mbL m) (hs : tb (S t) l = 1) (hf : f < fn m l) (x : Tp m p q S t l f S') : Tp m p q S t l (f + 1) (fun u => if u = (t ||| sb m p q (gg m l f)) then S' u ||| 2 ^ gg m l f else S' u) := by
  have hg := gg_lt ok hl hf
  have hL := L_le ok
  intro u hu
  obtain ⟨x1, x2⟩ := x u hu
  dsimp only
  by_cases hue : u = (t ||| sb m p q (gg m l f))
  · rw [if_pos hue]
    refine ⟨orp_lt x1 (by omega), fun j hj => ?_⟩
    rw [tb_orp, x2 j hj]
    constructor
    · rintro (⟨t', l', f', q1, q2⟩ | rfl)
      · exact ⟨t', l', f', by omega, q2⟩
      · exact ⟨t, l, f, by omega, ht, hl, hs, hf, rfl, hue⟩
    · rintro ⟨t', l', f', q1, q2, q3, q4, q5, q6, q7⟩
      by_cases hh : t' = t ∧ l' = l ∧ f' = f
      · obtain ⟨rfl, rfl, rfl⟩ := hh; exact Or.inr q6
      · exact Or.inl ⟨t', l', f', by omega, q2, q3, q4, q5, q6, q7⟩
  · rw [if_neg hue]
    refine ⟨x1, fun j hj => ?_⟩
    rw [x2 j hj]
    constructor
    · rintro ⟨t', l', f', q1, q2⟩; exact ⟨t', l', f', by omega, q2⟩
    · rintro ⟨t', l', f', q1, q2, q3, q4, q5, q6, q7⟩
      by_cases hh : t' = t ∧ l' = l ∧ f' = f
      · obtain ⟨rfl, rfl, rfl⟩ := hh; exact absurd q7 hue
      · exact ⟨t', l', f', by omega, q2, q3, q4, q5, q6, q7⟩
theorem Tp.next {p q : Nat} {S S' : Nat → Nat} {t l f t2 l2 : Nat} (x : Tp m p q S t l f S') (hn : ∀ t' l' f', t' < 4 → l' < mbL m → tb (S t') l' = 1 → f' < fn m l' → ((t' < t2 ∨ (t' = t2 ∧ (l' < l2 ∨ (l' = l2 ∧ f' < 0)))) ↔ (t' < t ∨ (t' = t ∧ (l' < l ∨ (l' = l ∧ f' < f)))))) : Tp m p q S t2 l2 0 S' := by
  intro u hu
  obtain ⟨x1, x2⟩ := x u hu
  refine ⟨x1, fun j hj => ?_⟩
  rw [x2 j hj]
  constructor
  · rintro ⟨t', l', f', q1, q2, q3, q4, q5, q6⟩; exact ⟨t', l', f', (hn t' l' f' q2 q3 q4 q5).mpr q1, q2, q3, q4, q5, q6⟩
  · rintro ⟨t', l', f', q1, q2, q3, q4, q5, q6⟩; exact ⟨t', l', f', (hn t' l' f' q2 q3 q4 q5).mp q1, q2, q3, q4, q5, q6⟩
theorem Tn.step (ok : MBok m) (fo : FO m) (h0 : 0 < mbL m) {p q n : Nat} {S S' : Nat → Nat} (d : Tn m p q n S) (x : Tp m p q S 4 0 0 S') : Tn m p q (n + 1) S' := by
  have hL := L_le ok
  intro u hu
  obtain ⟨x1, x2⟩ := x u hu
  refine ⟨x1, fun j hj => ?_⟩
  rw [x2 j hj]
  constructor
  · rintro ⟨t', l', f', q1, q2, q3, q4, q5, q6, q7⟩
    refine ⟨20 * t' + l', f', ((d t' q2).2 l' (by omega)).mp q4, ?_, ?_⟩
    · unfold dgT
      rw [if_pos (by omega), show (20 * t' + l') % 20 = l' by omega]
      exact q5
    · unfold tgT
      rw [show (20 * t' + l') % 20 = l' by omega, show (20 * t' + l') / 20 = t' by omega, q7, q6]
  · rintro ⟨i, f, w1, w2, w3⟩
    have h1 := tgT_lt ok fo w2 w3
    obtain ⟨h2, h3⟩ := dgT_in w2
    have h4 := fo_lt fo h3
    have h5 := ((d (i / 20) (by omega)).2 (i % 20) (by omega)).mpr (by rw [show 20 * (i / 20) + i % 20 = i by omega]; exact w1)
    exact ⟨i / 20, i % 20, f, by omega, by omega, h4, h5, h3, by omega, by omega⟩
theorem c_stepT (o : OB h a 6 ptL A B I J) (c : CB h b m) (hd : b + 12 ≤ a ∨ a + 8 ≤ b) {p q : Nat} (hp : p < 6) (hq : q < 6) {S : Nat → Nat} (hS : ∀ t, t < 4 → S t < 2 ^ 20) (row : ∀ t, t < 4 → A 5 t = nI (S t)) : ∃ h' A' S', F_X6_stepTogether h a b (nI p) (nI q) = some h' ∧ OB h' a 6 ptL A' B I J ∧ Fr h h' a (a + 8) ∧ (∀ t, t < 4 → A' 5 t = nI (S' t)) ∧ Tp m p q S 4 0 0 S' := by
  have ok := c.1
  have hL := L_le ok
  have ck : ∀ {h'}, Fr h h' a (a + 8) → CB h' b m := fun r => c.kept (fun q q1 q2 => r q (by omega))
  obtain ⟨h1, e1, A1, o1, r1, y1, z1⟩ := q_lp1 (step := s_X6_stepTogether_3 a b (nI p) (nI q)) (fun i h' => ∃ A', OB h' a 6 ptL A' B I J ∧ Fr h h' a (a + 8) ∧ A' 5 = A 5 ∧ ∀ l, l < i → A' 6 l = nI 0) 4 0 (by omega)
    (fun i h1 hi ⟨A1, o1, r1, y1, z1⟩ => by
      obtain ⟨h2, e2, o2, r2⟩ := X6_s6 o1 (i := i) (nI 0) (by omega)
      refine ⟨h2, ?_, _, o2, r1.tr r2, by rw [upF_ne _ _ (show (5 : Nat) ≠ 6 by decide)]; exact y1, fun l hl => ?_⟩
      · simp (disch := omega) only [s_X6_stepTogether_3, b_X6_stepTogether_3, nS, Nat.add_zero, X6_rd o1, e2]
      · rw [upF_self]
        by_cases hli : l = i
        · subst hli; exact pk_us
        · rw [pk_un hli]; exact z1 l (by omega))
    (fun h1 _ => by simp (disch := omega) only [s_X6_stepTogether_3, b_X6_stepTogether_3, nS, Nat.add_zero])
    (h := h) ⟨A, o, Fr.rf, rfl, fun l hl => by omega⟩
  obtain ⟨h3, e3, A3, o3, r3, y3, S3, z3, p3⟩ := q_lp2 (stepO := s_X6_stepTogether_26 a b (nI p) (nI q)) (stepI := fun t => s_X6_stepTogether_35 a b (nI p) (nI q) (nI t)) (fun t l h' => ∃ A', OB h' a 6 ptL A' B I J ∧ Fr h h' a (a + 8) ∧ A' 5 = A 5 ∧ ∃ S', (∀ u, u < 4 → A' 6 u = nI (S' u)) ∧ Tp m p q S t l 0 S') 4 (mbL m) 0 (by omega) (by omega)
    (fun t l h1 ht hl ⟨A1, o1, r1, y1, S1, z1, p1⟩ => by
      have c1 := ck r1
      have hf := fn_le ok hl
      have hSt := hS t ht
      have rt : A1 5 t = nI (S t) := by rw [y1]; exact row t ht
      have htb := tb_le (S t) l
      by_cases hs : tb (S t) l = 1
      · obtain ⟨h2, e2, A2, o2, r2, y2, S2, z2, p2⟩ := q_lp1 (step := s_X6_stepTogether_65 a b (nI p) (nI q) (nI t) (nI l)) (fun f h' => ∃ A', OB h' a 6 ptL A' B I J ∧ Fr h h' a (a + 8) ∧ A' 5 = A 5 ∧ ∃ S', (∀ u, u < 4 → A' 6 u = nI (S' u)) ∧ Tp m p q S t l f S') (fn m l) 0 (by omega)
          (fun f h1 hf2 ⟨A1, o1, r1, y1, S1, z1, p1⟩ => by
            have c1 := ck r1
            have hg := gg_lt ok hl hf2
            have hsd := c_said c1 hp hq hg
            have hsb := sb_lt m p q (gg m l f)
            have h4 := or_4 t ht _ hsb
            have hp2 := p2_lt (k := gg m l f) (by omega)
            obtain ⟨v, hv⟩ : ∃ v, v = (t ||| sb m p q (gg m l f)) := ⟨_, rfl⟩
            rw [← hv] at h4
            have hS1 := (p1 v h4).1
            have e4 := z1 v h4
            obtain ⟨h2, e2, o2, r2⟩ := X6_s6 o1 (i := v) (nI (S1 v ||| 2 ^ gg m l f)) (by omega)
            refine ⟨h2, ?_, _, o2, r1.tr r2, by rw [upF_ne _ _ (show (5 : Nat) ≠ 6 by decide)]; exact y1, _, fun u hu => ?_, p1.step ok ht hl hs hf2⟩
            · have hor : nI t ||| nI (sb m p q (gg m l f)) = nI v := by rw [hv]; exact b_or (by omega) (by omega)
              have hor2 : nI (S1 v) ||| nI (2 ^ gg m l f) = nI (S1 v ||| 2 ^ gg m l f) := b_or (by omega) (by omega)
              simp (disch := omega) only [s_X6_stepTogether_65, b_X6_stepTogether_65, nS, Nat.add_zero, cS c1, hsd, hor, X6_rd o1, e4, b_shl (show gg m l f < 31 by omega), hor2, e2]
            · rw [upF_self, ← hv]
              by_cases hjg : u = v
              · subst hjg; rw [pk_us, if_pos rfl]
              · rw [pk_un hjg, if_neg hjg]; exact z1 u hu)
          (fun h1 ⟨A1, o1, r1, y1, D1, z1, p1⟩ => by simp (disch := omega) only [s_X6_stepTogether_65, b_X6_stepTogether_65, nS, Nat.add_zero, cS (ck r1)])
          (h := h1) ⟨A1, o1, r1, y1, S1, z1, p1⟩
        refine ⟨h2, ?_, A2, o2, r2, y2, S2, z2, p2.next (fun t' l' f' q1 q2 q3 q4 => ?_)⟩
        · simp (disch := omega) only [s_X6_stepTogether_35, b_X6_stepTogether_35, nS, cS c1, X6_rd o1, rt, bS, hs, e2]
        · by_cases hh : t' = t ∧ l' = l
          · obtain ⟨rfl, rfl⟩ := hh; omega
          · omega
      · have hs : tb (S t) l = 0 := by omega
        refine ⟨h1, ?_, A1, o1, r1, y1, S1, z1, p1.next (fun t' l' f' q1 q2 q3 q4 => ?_)⟩
        · simp (disch := omega) only [s_X6_stepTogether_35, b_X6_stepTogether_35, nS, cS c1, X6_rd o1, rt, bS, hs]
        · by_cases hh : t' = t ∧ l' = l
          · obtain ⟨rfl, rfl⟩ := hh; omega
          · omega)
    (fun t h1 ht ⟨A1, o1, r1, y1, S1, z1, p1⟩ => by simp (disch := omega) only [s_X6_stepTogether_35, b_X6_stepTogether_35, nS, cS (ck r1)])
    (fun t h1 ht ⟨A1, o1, r1, y1, S1, z1, p1⟩ => ⟨A1, o1, r1, y1, S1, z1, p1.next (fun t' l' f' q1 q2 q3 q4 => by omega)⟩)
    (fun t h1 h2 ht _ e => by simp (disch := omega) only [s_X6_stepTogether_26, b_X6_stepTogether_26, nS, Nat.add_zero, e])
    (fun h1 _ => by simp (disch := omega) only [s_X6_stepTogether_26, b_X6_stepTogether_26, nS, Nat.add_zero])
    (h := h1) ⟨A1, o1, r1, y1, fun _ => 0, fun j hj => z1 j hj, fun j hj => ⟨by dsimp only; omega, fun u hu => ⟨fun q => by rw [tb_0] at q; omega, fun ⟨t', l', f', q, _⟩ => by omega⟩⟩⟩
  obtain ⟨h4, e4, o4, r4⟩ := X6_c65 o3
  refine ⟨h4, _, S3, ?_, o4, r3.tr r4, fun t ht => ?_, p3⟩
  · simp (disch := omega) only [F_X6_stepTogether, nS, e1, e3, X6_rd o3, e4]
  · rw [upF_self, cpy_in (by omega)]
    exact z3 t ht
theorem c_togL (o : OB h a 6 ptL A B I J) (c : CB h b m) (hd : b + 12 ≤ a ∨ a + 8 ≤ b) {p q : Nat} (hp : p < 6) (hq : q < 6) {X : Nat → (Nat → Nat) → Prop} (hX : ∀ n S, X n S → ∀ t, t < 4 → S t < 2 ^ 20) (hstep : ∀ n S S', X n S → Tp m p q S 4 0 0 S' → X (n + 1) S') {S0 : Nat → Nat} (row : ∀ t, t < 4 → A 5 t = nI (S0 t)) (x0 : X 0 S0) : ∃ h' A' r, j_X6_linesUntilBoth_44 h a b (nI p) (nI q) = some (r, h') ∧ OB h' a 6 ptL A' B I J ∧ Fr h h' a (a + 8) ∧ ((∃ n S, n < 80 ∧ r = nI (n + 1) ∧ X n S ∧ S 3 ≠ 0 ∧ ∀ n', n' < n → ∃ S, X n' S ∧ S 3 = 0) ∨ (r = m1 ∧ ∀ n', n' < 80 → ∃ S, X n' S ∧ S 3 = 0)) := by
  have ck : ∀ {h'}, Fr h h' a (a + 8) → CB h' b m := fun r => c.kept (fun q q1 q2 => r q (by omega))
  have lp : ∃ r, q_lp (s_X6_linesUntilBoth_47 a b (nI p) (nI q)) q_N (nI 1, h) = some r ∧ ∃ hh A', OB hh a 6 ptL A' B I J ∧ Fr h hh a (a + 8) ∧ ((∃ n S, r = .inl (nI (n + 1), hh) ∧ n < 80 ∧ X n S ∧ S 3 ≠ 0 ∧ ∀ n', n' < n → ∃ S, X n' S ∧ S 3 = 0) ∨ (r = .inr hh ∧ ∀ n', n' < 80 → ∃ S, X n' S ∧ S 3 = 0)) := by
    refine q_lp_inv (fun st => ∃ n, n ≤ 80 ∧ st.1 = nI (n + 1) ∧ (∀ n', n' < n → ∃ S, X n' S ∧ S 3 = 0) ∧ ∃ A' S, OB st.2 a 6 ptL A' B I J ∧ Fr h st.2 a (a + 8) ∧ (∀ t, t < 4 → A' 5 t = nI (S t)) ∧ X n S) (fun st => 81 - st.1.toNatClampNeg) _ ?_ q_N (nI 1, h) ⟨0, by omega, rfl, fun n' q => by omega, A, S0, o, Fr.rf, row, x0⟩ (q_lt_N (by dsimp only; omega))
    rintro ⟨x, hh⟩ ⟨n, hn, hx, hno, A1, S, o1, r1, row, d⟩
    dsimp only at hx o1 r1
    subst hx
    have c1 := ck r1
    by_cases hn20 : n = 80
    · subst hn20
      refine Or.inr ⟨.inr hh, ?_, hh, A1, o1, r1, Or.inr ⟨rfl, hno⟩⟩
      simp (disch := omega) only [s_X6_linesUntilBoth_47, b_X6_linesUntilBoth_47, nS]
    · have e3 := row 3 (by omega)
      have h3 := hX n S d 3 (by omega)
      by_cases hs3 : S 3 = 0
      · obtain ⟨h2, A2, S2, e2, o2, r2, row2, p2⟩ := c_stepT o1 c1 hd hp hq (hX n S d) row
        rw [hs3] at e3
        refine Or.inl ⟨(nI (n + 1 + 1), h2), ?_, ⟨n + 1, by omega, rfl, fun n' q => ?_, A2, S2, o2, r1.tr r2, row2, hstep n S S2 d p2⟩, ?_⟩
        · simp (disch := omega) only [s_X6_linesUntilBoth_47, b_X6_linesUntilBoth_47, nS, X6_rd o1, e3, e2]
        · by_cases hnn : n' = n
          · subst hnn; exact ⟨S, d, hs3⟩
          · exact hno n' (by omega)
        · show 81 - (nI (n + 1 + 1)).toNatClampNeg < 81 - (nI (n + 1)).toNatClampNeg
          rw [nI_cl (by omega), nI_cl (by omega)]
          omega
      · refine Or.inr ⟨.inl (nI (n + 1), hh), ?_, hh, A1, o1, r1, Or.inl ⟨n, S, rfl, by omega, d, hs3, hno⟩⟩
        simp (disch := omega) only [s_X6_linesUntilBoth_47, b_X6_linesUntilBoth_47, nS, X6_rd o1, e3]
  obtain ⟨r, er, hh, A2, o2, r2, hr⟩ := lp
  rcases hr with ⟨n, S, rfl, hn, hq⟩ | ⟨rfl, hno⟩
  · refine ⟨hh, A2, nI (n + 1), ?_, o2, r2, Or.inl ⟨n, S, hn, rfl, hq⟩⟩
    simp (disch := omega) only [j_X6_linesUntilBoth_44, nS, er]
  · refine ⟨hh, A2, m1, ?_, o2, r2, Or.inr ⟨rfl, hno⟩⟩
    simp (disch := omega) only [j_X6_linesUntilBoth_44, nS, er]
theorem c_tog (o : OB h a 6 ptL A B I J) (c : CB h b m) (fo : FO m) (hd : b + 12 ≤ a ∨ a + 8 ≤ b) {p q : Nat} (hp : p < 6) (hq : q < 6) : ∃ h' A' r, F_X6_linesUntilBoth h a b (nI p) (nI q) = some (r, h') ∧ OB h' a 6 ptL A' B I J ∧ Fr h h' a (a + 8) ∧ (mbL m = 0 → r = m1) ∧ (0 < mbL m → Ans (HitT m p q) r) := by
  have ok := c.1
  have hL := L_le ok
  have ck : ∀ {h'}, Fr h h' a (a + 8) → CB h' b m := fun r => c.kept (fun q q1 q2 => r q (by omega))
  obtain ⟨h1, e1, A1, o1, r1, z1⟩ := q_lp1 (step := s_X6_linesUntilBoth_3 a b (nI p) (nI q)) (fun i h' => ∃ A', OB h' a 6 ptL A' B I J ∧ Fr h h' a (a + 8) ∧ ∀ l, l < i → A' 5 l = nI 0) 4 0 (by omega)
    (fun i h1 hi ⟨A1, o1, r1, z1⟩ => by
      obtain ⟨h2, e2, o2, r2⟩ := X6_s5 o1 (i := i) (nI 0) (by omega)
      refine ⟨h2, ?_, _, o2, r1.tr r2, fun l hl => ?_⟩
      · simp (disch := omega) only [s_X6_linesUntilBoth_3, b_X6_linesUntilBoth_3, nS, Nat.add_zero, X6_rd o1, e2]
      · rw [upF_self]
        by_cases hli : l = i
        · subst hli; exact pk_us
        · rw [pk_un hli]; exact z1 l (by omega))
    (fun h1 _ => by simp (disch := omega) only [s_X6_linesUntilBoth_3, b_X6_linesUntilBoth_3, nS, Nat.add_zero])
    (h := h) ⟨A, o, Fr.rf, fun l hl => by omega⟩
  have c1 := ck r1
  rcases Nat.eq_zero_or_pos (mbL m) with h0 | h0
  · obtain ⟨h', A', r, e, o', r', hr⟩ := c_togL o1 c1 hd hp hq (X := fun _ S => ∀ t, t < 4 → S t = 0) (fun n S x t ht => by rw [x t ht]; omega) (fun n S S' x p t ht => by
      obtain ⟨p1, p2⟩ := p t ht
      refine tb_ext p1 (by omega) (fun j hj => ?_)
      rw [tb_0]
      have := tb_le (S' t) j
      by_cases h1 : tb (S' t) j = 1
      · obtain ⟨t', l', f', -, -, q3, -⟩ := (p2 j hj).mp h1; omega
      · omega) (S0 := fun _ => 0) (fun t ht => z1 t ht) (fun t ht => rfl)
    refine ⟨h', A', r, ?_, o', r1.tr r', fun _ => ?_, fun q => by omega⟩
    · simp (disch := omega) only [F_X6_linesUntilBoth, nS, e1, cS c1, e]
    · rcases hr with ⟨n, S, -, -, x, hs, -⟩ | ⟨hr, -⟩
      · exact absurd (x 3 (by omega)) hs
      · exact hr
  · have hsb := sb_lt m p q 0
    obtain ⟨h2, e2, o2, r2⟩ := X6_s5 o1 (i := sb m p q 0) (nI 1) hsb
    have hitT : ∀ n S, Tn m p q n S → (S 3 ≠ 0 ↔ HitT m p q n) := by
      intro n S d
      obtain ⟨d1, d2⟩ := d 3 (by omega)
      constructor
      · intro hs
        apply Classical.byContradiction
        intro hn
        refine hs (tb_ext d1 (by omega) (fun j hj => ?_))
        rw [tb_0]
        have := tb_le (S 3) j
        by_cases h1 : tb (S 3) j = 1
        · exact absurd ⟨j, hj, (d2 j hj).mp h1⟩ hn
        · omega
      · rintro ⟨l, hl, hw⟩ hs
        have := (d2 l hl).mpr hw
        rw [hs, tb_0] at this
        omega
    obtain ⟨h', A', r, e, o', r', hr⟩ := c_togL o2 (ck (r1.tr r2)) hd hp hq (X := fun n S => Tn m p q n S) (fun n S x t ht => (x t ht).1) (fun n S S' x p => x.step ok fo h0 p) (S0 := fun t => if t = sb m p q 0 then 1 else 0) (fun t ht => by
      rw [upF_self]
      by_cases hts : t = sb m p q 0
      · subst hts; rw [pk_us, if_pos rfl]
      · rw [pk_un hts, if_neg hts]; exact z1 t ht) (fun t ht => by
      have t1 : ∀ j, tb 1 j = 1 ↔ j = 0 := fun j => by
        have := tb_pow 0 j
        rw [Nat.pow_zero] at this
        rw [this]
        by_cases h : j = 0 <;> simp [h]
      dsimp only
      refine ⟨by split <;> omega, fun l hl => ?_⟩
      show _ ↔ 20 * t + l = 20 * sb m p q 0
      by_cases hts : t = sb m p q 0
      · rw [if_pos hts, t1]
        constructor <;> intro q <;> omega
      · rw [if_neg hts, tb_0]
        constructor <;> intro q <;> omega)
    refine ⟨h', A', r, ?_, o', (r1.tr r2).tr r', fun q => by omega, fun _ => ?_⟩
    · simp (disch := omega) only [F_X6_linesUntilBoth, nS, e1, cS c1, X6_rd o1, c_said c1 hp hq h0, e2, e]
    · rcases hr with ⟨n, S, hn, rfl, x, hs, hno⟩ | ⟨rfl, hno⟩
      · refine Or.inr ⟨n, by omega, (hitT n S x).mp hs, fun n' q1 q2 => ?_, rfl⟩
        obtain ⟨S', x', hs'⟩ := hno n' q1
        exact (hitT n' S' x').mpr q2 hs'
      · refine Or.inl ⟨rfl, fun n hq => ?_⟩
        have : ∃ n', HitT m p q n' ∧ ∀ n'', n'' < n' → ¬ HitT m p q n'' := by
          induction n using Nat.strongRecOn with
          | ind n ih =>
            by_cases hx : ∃ n', n' < n ∧ HitT m p q n'
            · obtain ⟨n', q1, q2⟩ := hx
              exact ih n' q1 q2
            · exact ⟨n, hq, fun n'' q1 q2 => hx ⟨n'', q1, q2⟩⟩
        obtain ⟨n', q1, q2⟩ := this
        obtain ⟨S', x', hs'⟩ := hno n' (hitT_short ok fo h0 q1 q2)
        exact (hitT n' S' x').mpr q1 hs'
end TGC
/-- a person, or none -/
theorem prs (y : Int32) : ((∀ h, F_X11_isPerson h y = some (nI 0)) ∧ ∀ h, F_X12_isPerson h y = some (nI 0)) ∨ ∃ s, s < 6 ∧ y = nI s ∧ (∀ h, F_X11_isPerson h y = some (nI 1)) ∧ ∀ h, F_X12_isPerson h y = some (nI 1) := by
  rcases nSg y with h0 | ⟨n, hn, rfl⟩
  · exact Or.inl ⟨fun h => by simp (disch := omega) only [F_X11_isPerson, nS, gN h0], fun h => by simp (disch := omega) only [F_X12_isPerson, F_X12_in, nS, gN h0]⟩
  · rcases Nat.lt_or_ge n 6 with h1 | h1
    · exact Or.inr ⟨n, h1, rfl, fun h => by simp (disch := omega) only [F_X11_isPerson, nS], fun h => by simp (disch := omega) only [F_X12_isPerson, F_X12_in, nS]⟩
    · exact Or.inl ⟨fun h => by simp (disch := omega) only [F_X11_isPerson, nS], fun h => by simp (disch := omega) only [F_X12_isPerson, F_X12_in, nS]⟩
section CALLS
variable {h : qH} {c nx : Nat} {σ : SG} {im : Nat → Option SG}
theorem q_together (s : ST h c nx σ im) (x y z : Int32) : QW h c σ im (F_X11_together h c x y z) (fun h1 => F_X12_together h1 (c + 80) x y z) := by
  obtain ⟨ok, ⟨xc, td, sc, -⟩, rm, -⟩ := s
  have hc0 := ok.2.1 0 (by omega)
  rcases prs y with ⟨s1, s2⟩ | ⟨p, hp, rfl, s1, s2⟩
  · refine QW.bad (v := m1) rm Fr.rf sc ?_ (fun h1 e1 ob1 => ?_)
    · rcases nOut_or x (n := sC σ 0) (by omega) with hx | ⟨k, hk, rfl⟩
      · simp (disch := omega) only [F_X11_together, xS xc, tS td, nS, t_bookOut td hx]
      · simp (disch := omega) only [F_X11_together, xS xc, tS td, nS, t_bookIn td ok hk, s1]
    · simp (disch := omega) only [F_X12_together, nS, e1, s2]
  rcases prs z with ⟨u1, u2⟩ | ⟨q, hq, rfl, u1, u2⟩
  · refine QW.bad (v := m1) rm Fr.rf sc ?_ (fun h1 e1 ob1 => ?_)
    · rcases nOut_or x (n := sC σ 0) (by omega) with hx | ⟨k, hk, rfl⟩
      · simp (disch := omega) only [F_X11_together, xS xc, tS td, nS, t_bookOut td hx]
      · simp (disch := omega) only [F_X11_together, xS xc, tS td, nS, t_bookIn td ok hk, s1, u1]
    · simp (disch := omega) only [F_X12_together, nS, e1, s2, u2]
  rcases nOut_or x (n := sC σ 0) (by omega) with hx | ⟨k, hk, rfl⟩
  · refine QW.nob (v := m1) ok rm sc hx ?_ (fun h1 h2 e1 ob1 e2 => ?_)
    · simp (disch := omega) only [F_X11_together, xS xc, tS td, nS, t_bookOut td hx]
    · simp (disch := omega) only [F_X12_together, nS, e1, s2, u2, ob1, e2]
  have cb := t_CB td ok hk
  have okm := cb.1
  have hL := L_le okm
  have fo := FO_b (ok.2.2.1 k hk)
  have hsc := sc
  obtain ⟨-, -, ⟨A6, B6, I6, J6, o6⟩, -, -, -⟩ := sc
  obtain ⟨hc, A7, r, e7, o7, r7, a0, a1⟩ := c_tog o6 cb fo (by omega) hp hq
  have fr7 : Fr h hc (c + 53) (c + 80) := r7.wd (by omega) (by omega)
  have sc7 : SC hc c := hsc.u6 r7 ⟨A7, B6, I6, J6, o7⟩
  refine QW.go (v := r) [30] ok rm hk ?_ fr7 sc7 (by decide) (fun h1 h2 A B I J e1 ob1 e2 o2 hb => ?_)
  · simp (disch := omega) only [F_X11_together, xS xc, tS td, nS, t_bookIn td ok hk, s1, u1, o6.ob, e7]
  · rcases Nat.eq_zero_or_pos (mbL (bMB (sB σ k))) with h0 | h0
    · refine ⟨h2, A, B, I, J, ?_, o2, Fr.rf, On.rf⟩
      have e24 := (d_pack o2 hb).1
      rw [h0] at e24
      rw [a0 h0]
      simp (disch := omega) only [F_X12_together, nS, e1, s2, u2, ob1, e2, e24]
    · obtain ⟨h3, h4, A4, x4, e3, e4, e5, hx4, o4, r4, n4, an2⟩ := d_tog o2 hb hp hq h0
      have hsd := d_said o2 hb hp hq (x := 0) (l := 0) (by omega) h0
      have hsb := sb_lt (bMB (sB σ k)) p q 0
      rw [Nat.zero_or] at hsd
      refine ⟨h4, A4, B, I, J, ?_, o4, r4, n4⟩
      rw [(a1 h0).eq an2]
      by_cases hh : x4 < 1000000
      · rw [if_pos hh]
        simp (disch := omega) only [F_X12_together, nS, e1, s2, u2, ob1, e2, d_pack o2 hb, o2.ob, hsd, e3, e4, e5]
      · rw [if_neg hh]
        simp (disch := omega) only [F_X12_together, nS, e1, s2, u2, ob1, e2, d_pack o2 hb, o2.ob, hsd, e3, e4, e5]
end CALLS
