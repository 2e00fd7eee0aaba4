/-! ===== playing; calls: till, state, after ===== -/
def eD (e : Nat → Int32) (k : Nat) : Nat := (e (1 + 2 * k)).toNatClampNeg
def eX (e : Nat → Int32) (k : Nat) : Option Nat := if e (2 + 2 * k) = m1 then none else some (e (2 + 2 * k)).toNatClampNeg
theorem ev_at {e : Nat → Int32} (v : EV e) {k : Nat} (hk : k < eN e) : eD e k < 7 ∧ e (1 + 2 * k) = nI (eD e k) ∧ e (2 + 2 * k) = oI (eX e k) ∧ (∀ l, eX e k = some l → l < 2 ^ 31) ∧ (eD e k = 1 ∨ eD e k = 2 → ∃ p, p < 6 ∧ eX e k = some p) := by
  obtain ⟨n, hn, e0, hv⟩ := v
  have hen : eN e = n := by unfold eN; rw [e0, nI_cl (by omega)]
  obtain ⟨d, hd, ed, q0, q1, q2⟩ := hv k (by omega)
  have hD : eD e k = d := by unfold eD; rw [ed, nI_cl (by omega)]
  have hx : ∀ l, l < 20 → e (2 + 2 * k) = nI l → eX e k = some l := by
    intro l hl he
    unfold eX
    rw [he, if_neg (fun q => (nm1_eq (by omega)).mp q), nI_cl (by omega)]
  rw [hD]
  refine ⟨hd, ed, ?_⟩
  rcases (show d = 0 ∨ (d = 1 ∨ d = 2) ∨ 3 ≤ d by omega) with h | h | h
  · obtain ⟨l, hl, he⟩ := q0 h
    rw [hx l hl he]
    exact ⟨he, fun l' hl' => by cases hl'; omega, fun q => by omega⟩
  · obtain ⟨p, hp, he⟩ := q1 h
    rw [hx p (by omega) he]
    exact ⟨he, fun l' hl' => by cases hl'; omega, fun _ => ⟨p, hp, rfl⟩⟩
  · have he := q2 h
    have : eX e k = none := by unfold eX; rw [if_pos he]
    rw [this]
    exact ⟨he, fun l' hl' => (by cases hl'), fun q => by omega⟩
/-- how far it goes, the state, the longest silence, the first fine -/
abbrev AY : Type := Nat × SS × Nat × Option Nat
def ay (m : MB) (e : Nat → Int32) : Nat → AY
  | 0 => (0, sz, 0, none)
  | k + 1 => if (ay m e k).1 = k then (match pf m (eD e k) (eX e k) (ay m e k).2.1 with
    | none => ay m e k
    | some s' => (k + 1, s', max (ay m e k).2.2.1 (s'.2 3), if (ay m e k).2.2.2 = none ∧ 0 < s'.2 5 - fre m then some (k + 1) else (ay m e k).2.2.2)) else ay m e k
theorem ay_y {m : MB} {e : Nat → Int32} {k : Nat} (h : (ay m e k).1 = k) {s' : SS} (hs : pf m (eD e k) (eX e k) (ay m e k).2.1 = some s') : ay m e (k + 1) = (k + 1, s', max (ay m e k).2.2.1 (s'.2 3), if (ay m e k).2.2.2 = none ∧ 0 < s'.2 5 - fre m then some (k + 1) else (ay m e k).2.2.2) := by
  show (if (ay m e k).1 = k then _ else _) = _
  rw [if_pos h, hs]
theorem ay_n {m : MB} {e : Nat → Int32} {k : Nat} (h : (ay m e k).1 = k) (hs : pf m (eD e k) (eX e k) (ay m e k).2.1 = none) : ay m e (k + 1) = ay m e k := by
  show (if (ay m e k).1 = k then _ else _) = _
  rw [if_pos h, hs]
theorem ay_le (m : MB) (e : Nat → Int32) : ∀ k, (ay m e k).1 ≤ k := by
  intro k
  induction k with
  | zero => exact Nat.le_refl _
  | succ k ih =>
    by_cases h : (ay m e k).1 = k
    · cases hp : pf m (eD e k) (eX e k) (ay m e k).2.1 with
      | none => rw [ay_n h hp]; omega
      | some s' => rw [ay_y h hp]; exact Nat.le_refl _
    · show (if (ay m e k).1 = k then _ else ay m e k).1 ≤ k + 1
      rw [if_neg h]; omega
theorem ay_st {m : MB} {e : Nat → Int32} {k : Nat} (h : ¬ (ay m e k).1 = k) : ∀ d, ay m e (k + d) = ay m e k := by
  intro d
  induction d with
  | zero => rfl
  | succ d ih =>
    show (if (ay m e (k + d)).1 = k + d then _ else ay m e (k + d)) = _
    have := ay_le m e k
    rw [if_neg (by rw [ih]; omega)]
    exact ih
/-- it stops at k -/
theorem ay_stop {m : MB} {e : Nat → Int32} {k : Nat} (h : (ay m e k).1 = k) (hs : pf m (eD e k) (eX e k) (ay m e k).2.1 = none) {n : Nat} (hn : k < n) : ay m e n = ay m e k := by
  have h1 := ay_n h hs
  have h2 : ¬ (ay m e (k + 1)).1 = k + 1 := by rw [h1]; omega
  have := ay_st h2 (n - (k + 1))
  rw [show k + 1 + (n - (k + 1)) = n by omega] at this
  rw [this, h1]
theorem ay_ok {m : MB} (ok : MBok m) {e : Nat → Int32} (v : EV e) : ∀ k, k ≤ eN e → WS m k (ay m e k).2.1 ∧ (ay m e k).2.2.1 ≤ 100 + 10 * k ∧ ∀ x, (ay m e k).2.2.2 = some x → x ≤ k := by
  intro k
  induction k with
  | zero => intro _; exact ⟨sz_ok m, Nat.zero_le _, fun x hx => by cases hx⟩
  | succ k ih =>
    intro hk
    obtain ⟨i1, i2, i3⟩ := ih (by omega)
    have hev := ev_at v (k := k) (by omega)
    by_cases h : (ay m e k).1 = k
    · cases hp : pf m (eD e k) (eX e k) (ay m e k).2.1 with
      | none => rw [ay_n h hp]; exact ⟨i1.s1, by omega, fun x hx => by have := i3 x hx; omega⟩
      | some s' =>
        rw [ay_y h hp]
        have w' := pf_ok ok i1 hev.2.2.2.2 hp
        have k3 := w'.2.1 3
        refine ⟨w', by dsimp only; omega, fun x hx => ?_⟩
        dsimp only at hx
        split at hx
        · cases hx; omega
        · have := i3 x hx; omega
    · have : ay m e (k + 1) = ay m e k := ay_st h 1
      rw [this]
      exact ⟨i1.s1, by omega, fun x hx => by have := i3 x hx; omega⟩
section PLC
variable {h : qH} {a b ev : Nat} {m : MB} {e : Nat → Int32} {A : Nat → Nat → Int32} {B : Nat → Nat → Int64} {I : Nat → Int32} {J : Nat → Int64}
theorem CE.kept {h h' : qH} {a : Nat} {e : Nat → Int32} (c : CE h a e) (hk : ∀ q, a ≤ q → q < a + 3 → h' q = h q) : CE h' a e := ⟨c.1, c.2.kept hk⟩
/-- the class's stage holds a state -/
def CS (h0 h : qH) (a : Nat) (B : Nat → Nat → Int64) (J : Nat → Int64) (s : SS) : Prop := ∃ A I, OB h a 8 stL A B I J ∧ Fr h0 h a (a + 3) ∧ SX A I s
theorem c_do {h0 : qH} {n : Nat} {s : SS} (cs : CS h0 h a B J s) (c : CB h b m) (hd : b + 12 ≤ a ∨ a + 3 ≤ b) (w : WS m n s) (hn : n < 100) {d : Nat} (hd6 : d < 7) {x : Option Nat} (hx : ∀ l, x = some l → l < 2 ^ 31) (hx2 : d = 1 ∨ d = 2 → ∃ p, p < 6 ∧ x = some p) : (∃ s' h', pf m d x s = some s' ∧ F_X8_perform h a b (nI d) (oI x) = some (nI 1, h') ∧ CS h0 h' a B J s') ∨ (pf m d x s = none ∧ F_X8_perform h a b (nI d) (oI x) = some (nI 0, h)) := by
  obtain ⟨A, I, o, r, sx⟩ := cs
  rcases c_pf o sx c hd w hn hd6 hx hx2 with ⟨s', hs, h', A', I', e', o', r', x', -⟩ | q
  · exact Or.inl ⟨s', h', hs, e', A', I', o', r.tr r', x'⟩
  · exact Or.inr q
theorem c_play (o : OB h a 8 stL A B I J) (c : CB h b m) (hd : b + 12 ≤ a ∨ a + 3 ≤ b) (ce : CE h ev e) (hde : ev + 3 ≤ a ∨ a + 3 ≤ ev) {n : Nat} (hn : n ≤ eN e) : ∃ h', F_X8_play h a b ev (nI n) = some (nI (ay m e n).1, h') ∧ CS h h' a B J (ay m e n).2.1 := by
  have ok := c.1
  have hN := (ev_ok ce.1).2
  have ck : ∀ {h'}, Fr h h' a (a + 3) → CB h' b m := fun r => c.kept (fun q q1 q2 => r q (by omega))
  have cek : ∀ {h'}, Fr h h' a (a + 3) → CE h' ev e := fun r => ce.kept (fun q q1 q2 => r q (by omega))
  obtain ⟨h1, A1, I1, e1, o1, r1, x1, -⟩ := c_begin o
  have lp : ∃ r, q_lp (s_X8_play_7 a b ev (nI n)) q_N (nI 0, h1) = some r ∧ ∃ h', CS h h' a B J (ay m e n).2.1 ∧ ((r = .inl (nI (ay m e n).1, h')) ∨ (r = .inr h' ∧ (ay m e n).1 = n)) := by
    refine q_lp_inv (fun st => ∃ k, k ≤ n ∧ st.1 = nI k ∧ (ay m e k).1 = k ∧ CS h st.2 a B J (ay m e k).2.1) (fun st => n - st.1.toNatClampNeg) _ ?_ q_N (nI 0, h1) ⟨0, by omega, rfl, rfl, A1, I1, o1, r1, x1⟩ (q_lt_N (by dsimp only; omega))
    rintro ⟨x, hh⟩ ⟨k, hk, hx, hak, cs⟩
    dsimp only at hx cs
    subst hx
    by_cases hkn : k = n
    · subst hkn
      refine Or.inr ⟨.inr hh, ?_, hh, cs, Or.inr ⟨rfl, hak⟩⟩
      simp (disch := omega) only [s_X8_play_7, b_X8_play_7, nS]
    · have hr : Fr h hh a (a + 3) := by obtain ⟨_, _, _, r, _⟩ := cs; exact r
      have ob8 : q_ob hh a 8 = some () := by obtain ⟨_, _, o, _, _⟩ := cs; exact o.ob
      obtain ⟨v1, v2, v3, v4, v5⟩ := ev_at ce.1 (k := k) (by omega)
      have eSp := eS (cek hr)
      rcases c_do cs (ck hr) hd (ay_ok ok ce.1 k (by omega)).1 (by omega) v1 v4 v5 with ⟨s', h', hs, e', cs'⟩ | ⟨hs, e'⟩
      · refine Or.inl ⟨(nI (k + 1), h'), ?_, ⟨k + 1, by omega, rfl, by rw [ay_y hak hs], by rw [ay_y hak hs]; exact cs'⟩, ?_⟩
        · simp (disch := omega) only [s_X8_play_7, b_X8_play_7, nS, eSp, v2, v3, ob8, e']
        · show n - (nI (k + 1)).toNatClampNeg < n - (nI k).toNatClampNeg
          rw [nI_cl (by omega), nI_cl (by omega)]
          omega
      · have hst := ay_stop hak hs (n := n) (by omega)
        refine Or.inr ⟨.inl (nI k, hh), ?_, hh, by rw [hst]; exact cs, Or.inl (by rw [hst, hak])⟩
        simp (disch := omega) only [s_X8_play_7, b_X8_play_7, nS, eSp, v2, v3, ob8, e']
  obtain ⟨r, er, h', cs, hr⟩ := lp
  refine ⟨h', ?_, cs⟩
  rcases hr with rfl | ⟨rfl, hr⟩
  · simp (disch := omega) only [F_X8_play, nS, o.ob, e1, er]
  · rw [hr]
    simp (disch := omega) only [F_X8_play, nS, o.ob, e1, er]
end PLC
section PLD
variable {h : qH} {a : Nat} {e : Nat → Int32} {j : Nat} {A : Nat → Nat → Int32} {B : Nat → Nat → Int64} {I : Nat → Int32} {J : Nat → Int64} {b : Nat → Int32} {k : Nat}
/-- the reference holds a state -/
def DS (h0 h : qH) (a : Nat) (A0 : Nat → Nat → Int32) (B : Nat → Nat → Int64) (I : Nat → Int32) (J : Nat → Int64) (m : MB) (s : SS) : Prop := ∃ A, OB h a 12 mdL A B I J ∧ Fr h0 h a (a + 27) ∧ On [28] A0 A ∧ RN m (A 28) s
theorem HE.n28 {A A' : Nat → Nat → Int32} {I : Nat → Int32} {e : Nat → Int32} {j : Nat} (he : HE A I e j) (n : On [28] A A') : HE A' I e j := ⟨he.1, he.2.1, he.2.2.1, by rw [n 7 (by decide)]; exact he.2.2.2⟩
theorem d_do {h0 : qH} {A0 : Nat → Nat → Int32} {n : Nat} {s : SS} (ds : DS h0 h a A0 B I J (bMB b) s) (hb : HB A0 I b k) (w : WS (bMB b) n s) (hn : n < 100) {d : Nat} (hd6 : d < 7) {x : Option Nat} (hx : ∀ l, x = some l → l < 2 ^ 31) (hx2 : d = 1 ∨ d = 2 → ∃ p, p < 6 ∧ x = some p) : (∃ s' h', pf (bMB b) d x s = some s' ∧ F_X12_does h a (nI d) (oI x) = some (nI 1, h') ∧ DS h0 h' a A0 B I J (bMB b) s') ∨ (pf (bMB b) d x s = none ∧ ∃ h', F_X12_does h a (nI d) (oI x) = some (nI 0, h') ∧ DS h0 h' a A0 B I J (bMB b) s) := by
  obtain ⟨A, o, r, n1, rn⟩ := ds
  rcases d_pf o (hb.n28 n1) rn w hn hd6 hx hx2 with ⟨s', hs, h', A', e', o', r', n', rn'⟩ | ⟨hs, h', A', e', o', r', n', rn'⟩
  · exact Or.inl ⟨s', h', hs, e', A', o', r.tr r', n1.tr n', rn'⟩
  · exact Or.inr ⟨hs, h', e', A', o', r.tr r', n1.tr n', rn'⟩
theorem d_play (o : OB h a 12 mdL A B I J) (hb : HB A I b k) (he : HE A I e j) {n : Nat} (hn : n ≤ eN e) : ∃ h', F_X12_play h a (nI n) = some (nI (ay (bMB b) e n).1, h') ∧ DS h h' a A B I J (bMB b) (ay (bMB b) e n).2.1 := by
  have ok := bMB_ok hb.1
  have hN := (ev_ok he.1).2
  obtain ⟨h1, A1, e1, o1, r1, n1, rn1⟩ := d_begin o hb
  have lp : ∃ r, q_lp (s_X12_play_6 a (nI n)) q_N (nI 0, h1) = some r ∧ ∃ h', DS h h' a A B I J (bMB b) (ay (bMB b) e n).2.1 ∧ r = (nI (ay (bMB b) e n).1, h') := by
    refine q_lp_inv (fun st => ∃ k, k ≤ n ∧ st.1 = nI k ∧ (ay (bMB b) e k).1 = k ∧ DS h st.2 a A B I J (bMB b) (ay (bMB b) e k).2.1) (fun st => n - st.1.toNatClampNeg) _ ?_ q_N (nI 0, h1) ⟨0, by omega, rfl, rfl, A1, o1, r1, n1, rn1⟩ (q_lt_N (by dsimp only; omega))
    rintro ⟨x, hh⟩ ⟨i, hi, hx, hai, ds⟩
    dsimp only at hx ds
    subst hx
    by_cases hin : i = n
    · subst hin
      refine Or.inr ⟨(nI i, hh), ?_, hh, ds, by rw [hai]⟩
      simp (disch := omega) only [s_X12_play_6, b_X12_play_6, nS]
    · obtain ⟨v1, v2, v3, v4, v5⟩ := ev_at he.1 (k := i) (by omega)
      have ep : q_ob hh a 12 = some () ∧ F_X12_deedOf hh a (nI i) (nI 0) = some (e (1 + 2 * i)) ∧ F_X12_deedOf hh a (nI i) (nI 1) = some (e (2 + 2 * i)) := by
        obtain ⟨A', o', r', n', -⟩ := ds
        have := e_pack o' (he.n28 n')
        exact ⟨o'.ob, this.2.1 i (by omega), this.2.2 i (by omega)⟩
      rcases d_do ds hb (ay_ok ok he.1 i (by omega)).1 (by omega) v1 v4 v5 with ⟨s', h', hs, e', ds'⟩ | ⟨hs, h', e', ds'⟩
      · refine Or.inl ⟨(nI (i + 1), h'), ?_, ⟨i + 1, by omega, rfl, by rw [ay_y hai hs], by rw [ay_y hai hs]; exact ds'⟩, ?_⟩
        · simp (disch := omega) only [s_X12_play_6, b_X12_play_6, nS, ep, v2, v3, e']
        · show n - (nI (i + 1)).toNatClampNeg < n - (nI i).toNatClampNeg
          rw [nI_cl (by omega), nI_cl (by omega)]
          omega
      · have hst := ay_stop hai hs (n := n) (by omega)
        refine Or.inr ⟨(nI i, h'), ?_, h', by rw [hst]; exact ds', by rw [hst, hai]⟩
        simp (disch := omega) only [s_X12_play_6, b_X12_play_6, nS, ep, v2, v3, e']
  obtain ⟨r, er, h', ds, rfl⟩ := lp
  refine ⟨h', ?_, ds⟩
  simp (disch := omega) only [F_X12_play, nS, o.ob, e1, er]
end PLD
/-! showing a state -/
def shw (m : MB) (s : SS) (w : Nat) : Int32 := if w = 1 then oI s.1 else if w = 2 then oI (du m s.1) else if w = 6 then nI (s.2 5 - fre m) else if w < 10 ∨ (w < 30 ∧ w % 10 < 6) then nI (s.2 w) else m2
theorem c_show {h0 h : qH} {a b n : Nat} {m : MB} {B : Nat → Nat → Int64} {J : Nat → Int64} {s : SS} (cs : CS h0 h a B J s) (c : CB h b m) (w : WS m n s) (hn : n < 100) (x : Int32) : (∃ q, q < 2 ^ 31 ∧ x = nI q ∧ F_X8_show h a b x = some (shw m s q)) ∨ (x < nI 0 ∧ F_X8_show h a b x = some m2) := by
  obtain ⟨A, I, o, -, sx⟩ := cs
  have hdue := c_due o sx c w.1
  have k5 := w.2.1 5
  have hfr := (fre_ok c.1).2
  obtain ⟨s3, s2, s4, s5, s6, s7, s8, s9, sa, sb⟩ := sx
  rcases nSg x with hx | ⟨q, hq, rfl⟩
  · refine Or.inr ⟨hx, ?_⟩
    simp (disch := omega) only [F_X8_show, j_X8_show_22, j_X8_show_44, nS, gN hx]
  · refine Or.inl ⟨q, hq, rfl, ?_⟩
    have hf : F_X8_fines h a b = some (nI (s.2 5 - fre m)) := by
      rcases Nat.lt_or_ge (fre m) (s.2 5) with h5 | h5
      · simp (disch := omega) only [F_X8_fines, nS, X8_rd o, s6, cS c, F_J9_max_7cf53]
      · rcases Nat.lt_or_ge (s.2 5) (fre m) with h6 | h6
        · have hng := n_neg h6 (by omega)
          rw [show s.2 5 - fre m = 0 by omega]
          simp (disch := omega) only [F_X8_fines, nS, X8_rd o, s6, cS c, F_J9_max_7cf53, gN hng]
        · have e5 : s.2 5 = fre m := by omega
          rw [e5] at s6
          rw [e5, Nat.sub_self]
          simp (disch := omega) only [F_X8_fines, nS, X8_rd o, s6, cS c, F_J9_max_7cf53, Nat.sub_self]
    unfold shw
    rcases (show q = 0 ∨ q = 1 ∨ q = 2 ∨ q = 3 ∨ q = 4 ∨ q = 5 ∨ q = 6 ∨ q = 7 ∨ q = 8 ∨ q = 9 ∨ (10 ≤ q ∧ q < 16) ∨ (16 ≤ q ∧ q < 20) ∨ (20 ≤ q ∧ q < 26) ∨ 26 ≤ q by omega) with rfl | rfl | rfl | rfl | rfl | rfl | rfl | rfl | rfl | rfl | hh | hh | hh | hh
    · simp (disch := omega) only [F_X8_show, j_X8_show_22, j_X8_show_44, nS, X8_rd o, s2]
    · simp (disch := omega) only [F_X8_show, j_X8_show_22, j_X8_show_44, nS, X8_rd o, s3]
    · simp (disch := omega) only [F_X8_show, j_X8_show_22, j_X8_show_44, nS, o.ob, hdue]
    · simp (disch := omega) only [F_X8_show, j_X8_show_22, j_X8_show_44, nS, X8_rd o, s4]
    · simp (disch := omega) only [F_X8_show, j_X8_show_22, j_X8_show_44, nS, X8_rd o, s5]
    · simp (disch := omega) only [F_X8_show, j_X8_show_22, j_X8_show_44, nS, X8_rd o, s6]
    · simp (disch := omega) only [F_X8_show, j_X8_show_22, j_X8_show_44, nS, o.ob, hf]
    · simp (disch := omega) only [F_X8_show, j_X8_show_22, j_X8_show_44, nS, X8_rd o, s7]
    · simp (disch := omega) only [F_X8_show, j_X8_show_22, j_X8_show_44, nS, X8_rd o, s8]
    · simp (disch := omega) only [F_X8_show, j_X8_show_22, j_X8_show_44, nS, X8_rd o, s9]
    · have := sa (q - 10) (by omega)
      rw [show 10 + (q - 10) = q by omega] at this
      simp (disch := omega) only [F_X8_show, nS, X8_rd o, this]
    · simp (disch := omega) only [F_X8_show, j_X8_show_22, j_X8_show_44, nS]
    · have := sb (q - 20) (by omega)
      rw [show 20 + (q - 20) = q by omega] at this
      simp (disch := omega) only [F_X8_show, j_X8_show_22, nS, X8_rd o, this]
    · simp (disch := omega) only [F_X8_show, j_X8_show_22, j_X8_show_44, nS]
theorem d_show {h0 h : qH} {a : Nat} {A0 : Nat → Nat → Int32} {B : Nat → Nat → Int64} {I : Nat → Int32} {J : Nat → Int64} {m : MB} {s : SS} (ds : DS h0 h a A0 B I J m s) (x : Int32) : (∃ q, q < 2 ^ 31 ∧ x = nI q ∧ F_X12_ofState h a x = some (shw m s q)) ∨ (x < nI 0 ∧ F_X12_ofState h a x = some m2) := by
  obtain ⟨A, o, -, -, r1, r2, r6, rp⟩ := ds
  rcases nSg x with hx | ⟨q, hq, rfl⟩
  · refine Or.inr ⟨hx, ?_⟩
    simp (disch := omega) only [F_X12_ofState, F_X12_in, nS, gN hx]
  · refine Or.inl ⟨q, hq, rfl, ?_⟩
    unfold shw
    rcases (show q = 1 ∨ q = 2 ∨ q = 6 ∨ (q < 10 ∧ q ≠ 1 ∧ q ≠ 2 ∧ q ≠ 6) ∨ (10 ≤ q ∧ q < 30 ∧ q % 10 < 6) ∨ (10 ≤ q ∧ q < 30 ∧ 6 ≤ q % 10) ∨ 30 ≤ q by omega) with rfl | rfl | rfl | hh | hh | hh | hh
    · simp (disch := omega) only [F_X12_ofState, F_X12_in, nS, X12_rd o, r1]
    · simp (disch := omega) only [F_X12_ofState, F_X12_in, nS, X12_rd o, r2]
    · simp (disch := omega) only [F_X12_ofState, F_X12_in, nS, X12_rd o, r6]
    · have := rp q (by omega) (by omega) (by omega) (by omega)
      simp (disch := omega) only [F_X12_ofState, F_X12_in, nS, X12_rd o, this]
    · have := rp q (by omega) (by omega) (by omega) (by omega)
      simp (disch := omega) only [F_X12_ofState, F_X12_in, F_X12_isPerson, nS, X12_rd o, this]
    · simp (disch := omega) only [F_X12_ofState, F_X12_in, F_X12_isPerson, nS]
    · simp (disch := omega) only [F_X12_ofState, F_X12_in, nS]
