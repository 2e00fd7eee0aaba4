/-! ===== frames of calls; loops over a heap; avoid ===== -/
theorem q_lp1 {step : Int32 × qH → Option ((Int32 × qH) ⊕ qH)} (P : Nat → qH → Prop) (N d : Nat) (hN : N < 1000000) (go : ∀ i h, i < N → P i h → ∃ h', step (nI (i + d), h) = some (.inl (nI (i + d + 1), h')) ∧ P (i + 1) h') (en : ∀ h, P N h → step (nI (N + d), h) = some (.inr h)) {h : qH} (h0 : P 0 h) : ∃ h', q_lp step q_N (nI d, h) = some h' ∧ P N h' := by
  refine q_lp_idx (fun i s => s.1 = nI (i + d) ∧ P i s.2) N (fun r => P N r) ?_ ?_ q_N (nI d, h) ⟨by rw [Nat.zero_add], h0⟩ (q_lt_N hN)
  · rintro i ⟨x, hh⟩ hi ⟨hx, hp⟩
    dsimp only at hx hp
    subst hx
    obtain ⟨h', e, hp'⟩ := go i hh hi hp
    exact ⟨(nI (i + d + 1), h'), e, by rw [show i + 1 + d = i + d + 1 by omega], hp'⟩
  · rintro ⟨x, hh⟩ ⟨hx, hp⟩
    dsimp only at hx hp
    subst hx
    exact ⟨hh, en hh hp, hp⟩
theorem q_lp2 {stepO : Int32 × qH → Option ((Int32 × qH) ⊕ qH)} {stepI : Nat → Int32 × qH → Option ((Int32 × qH) ⊕ qH)} (P : Nat → Nat → qH → Prop) (N L d : Nat) (hN : N < 1000000) (hL : L < 1000000) (cell : ∀ t l h, t < N → l < L → P t l h → ∃ h', stepI t (nI l, h) = some (.inl (nI (l + 1), h')) ∧ P t (l + 1) h') (endI : ∀ t h, t < N → P t L h → stepI t (nI L, h) = some (.inr h)) (next : ∀ t h, t < N → P t L h → P (t + 1) 0 h) (outer : ∀ t h h', t < N → P t 0 h → q_lp (stepI t) q_N (nI 0, h) = some h' → stepO (nI (t + d), h) = some (.inl (nI (t + d + 1), h'))) (endO : ∀ h, P N 0 h → stepO (nI (N + d), h) = some (.inr h)) {h : qH} (h0 : P 0 0 h) : ∃ h', q_lp stepO q_N (nI d, h) = some h' ∧ P N 0 h' := by
  refine q_lp1 (fun t h => P t 0 h) N d hN (fun t h ht hp => ?_) endO h0
  obtain ⟨h', e, hp'⟩ := q_lp1 (step := stepI t) (fun l h => P t l h) L 0 hL (fun l h hl hp => cell t l h ht hl hp) (fun h hp => endI t h ht hp) hp
  exact ⟨h', outer t h h' ht hp e, next t h' ht hp'⟩
section FRM
variable {h : qH} {c : Nat} {σ : SG} {im : Nat → Option SG} {α : Type} {v : α} {f : Option (α × qH)} {g : qH → Option (α × qH)}
theorem QW.bad (rm : RM h (c + 80) σ im) {hc : qH} (fr : Fr h hc (c + 53) (c + 80)) (sc : SC hc c) (hf : f = some (v, hc)) (hg : ∀ h1, q_put hc (c + 80) 12 0 (.int (nI 0)) = some h1 → q_ob h1 (c + 80) 12 = some () → g hc = some (v, h1)) : QW h c σ im f g := by
  obtain ⟨h1, A, B, I, J, e1, o1, pm, ki, r1⟩ := (rm.c fr (Or.inl (Nat.le_refl _))).p0
  exact ⟨v, hc, h1, hf, hg h1 e1 o1.ob, fr, sc, r1, ⟨A, B, I, J, o1, pm, ki⟩⟩
theorem QW.nob (ok : SGok σ) (rm : RM h (c + 80) σ im) (sc : SC h c) {x : Int32} (hx : nOut x (sC σ 0)) (hf : f = some (v, h)) (hg : ∀ h1 h2, q_put h (c + 80) 12 0 (.int (nI 0)) = some h1 → q_ob h1 (c + 80) 12 = some () → F_X12_hand h1 (c + 80) x = some (nI 0, h2) → g h = some (v, h2)) : QW h c σ im f g := by
  obtain ⟨h1, A, B, I, J, e1, o1, pm, ki, r1⟩ := rm.p0
  obtain ⟨h2, e2, rm2, r2⟩ := hand_out o1 pm ki ok hx
  exact ⟨v, h, h2, hf, hg h1 h2 e1 o1.ob e2, Fr.rf, sc, r1.tr r2, rm2⟩
theorem QW.go (S : List Nat) (ok : SGok σ) (rm : RM h (c + 80) σ im) {k : Nat} (hk : k < sC σ 0) {hc : qH} (hf : f = some (v, hc)) (fr : Fr h hc (c + 53) (c + 80)) (sc : SC hc c) (hS : ∀ k, k ∈ S → 10 ≤ k ∧ k ≠ 48) (hg : ∀ h1 h2 A B I J, q_put hc (c + 80) 12 0 (.int (nI 0)) = some h1 → q_ob h1 (c + 80) 12 = some () → F_X12_hand h1 (c + 80) (nI k) = some (nI 1, h2) → OB h2 (c + 80) 12 mdL A B I J → HB A I (sB σ k) k → ∃ h' A' B' I' J', g hc = some (v, h') ∧ OB h' (c + 80) 12 mdL A' B' I' J' ∧ Fr h2 h' (c + 80) (c + 80 + 27) ∧ On S A A') : QW h c σ im f g := by
  obtain ⟨h1, A, B, I, J, e1, o1, pm, ki, r1⟩ := (rm.c fr (Or.inl (Nat.le_refl _))).p0
  obtain ⟨h2, A2, I2, e2, o2, hb, pm2, ki2, r2⟩ := hand_in o1 pm ki ok hk
  obtain ⟨h', A', B', I', J', e3, o3, r3, n3⟩ := hg h1 h2 A2 B I2 J e1 o1.ob e2 o2 hb
  exact ⟨v, hc, h', hf, e3, fr, sc, (r1.tr r2).tr r3, RM.mk pm2 ki2 o3 n3 hS⟩
end FRM
theorem XC.kept {h h' : qH} {c : Nat} (x : XC h c) (f : Fr h h' (c + 53) (c + 80)) : XC h' c := by unfold XC at *; rw [f _ (by omega)]; exact x
theorem d_sty (h : qH) {k : Nat} (hk : k < 2 ^ 31) : F_X12_strays h (nI k) = some (nI (sty k)) := by
  unfold sty
  rcases Nat.eq_zero_or_pos k with rfl | hk0
  · rfl
  · rw [if_neg (by omega)]
    simp (disch := omega) only [F_X12_strays, nS]
section AVD
variable {h : qH} {a : Nat} {A : Nat → Nat → Int32} {B : Nat → Nat → Int64} {I : Nat → Int32} {J : Nat → Int64} {b : Nat → Int32} {k : Nat}
theorem d_few (o : OB h a 12 mdL A B I J) (hb : HB A I b k) {s n : Nat} (hs : s < 10) (hn : n ≤ 20) : ∃ h' A', F_X12_findFewest h a (nI s) (nI n) = some h' ∧ OB h' a 12 mdL A' B I J ∧ Fr h h' a (a + 27) ∧ On [29] A A' ∧ GT (A' 29) (mbL (bMB b)) ixd (fw (bMB b) s) (fun t' _ => t' < n) := by
  have ok := bMB_ok hb.1
  have hL := L_le ok
  have hbk : ∀ {A' : Nat → Nat → Int32}, On [29] A A' → HB A' I b k := fun n => hb.cg (n 6 (by decide)) (n 25 (by decide)) (n 26 (by decide)) rfl rfl
  obtain ⟨h', e', A', o', r', n', g'⟩ := q_lp2 (stepO := s_X12_findFewest_2 a (nI s) (nI n)) (stepI := fun t => s_X12_findFewest_10 a (nI s) (nI n) (nI t)) (fun t l h' => ∃ A', OB h' a 12 mdL A' B I J ∧ Fr h h' a (a + 27) ∧ On [29] A A' ∧ GT (A' 29) (mbL (bMB b)) ixd (fw (bMB b) s) (fun t' l' => t' < t ∨ (t' = t ∧ l' < l))) n (mbL (bMB b)) 0 (by omega) (by omega)
    (fun t l h1 ht hl ⟨A1, o1, r1, n1, g1⟩ => by
      obtain ⟨h2, e2, o2, r2⟩ := d_fewCell o1 (hbk n1) (n := n) hs (by omega) hl (g1.mo (fun t' l' _ q => Or.inl q))
      exact ⟨h2, e2, _, o2, r1.tr r2, n1.tr (On.up (by decide)), by
        rw [upF_self]
        exact g1.up (fun t' l' hl' q => ixd_inj (by omega) (by omega) q) (fun t' l' hl' q => by omega)⟩)
    (fun t h1 ht ⟨A1, o1, r1, n1, g1⟩ => by simp (disch := omega) only [s_X12_findFewest_10, b_X12_findFewest_10, nS, d_pack o1 (hbk n1)])
    (fun t h1 ht ⟨A1, o1, r1, n1, g1⟩ => ⟨A1, o1, r1, n1, g1.mo (fun t' l' _ q => by omega)⟩)
    (fun t h1 h2 ht _ e => by simp (disch := omega) only [s_X12_findFewest_2, b_X12_findFewest_2, nS, Nat.add_zero, e])
    (fun h1 _ => by simp (disch := omega) only [s_X12_findFewest_2, b_X12_findFewest_2, nS, Nat.add_zero])
    (h := h) ⟨A, o, Fr.rf, On.rf, fun t' l' _ q => by omega⟩
  refine ⟨h', A', ?_, o', r', n', g'.mo (fun t' l' _ q => by omega)⟩
  simp (disch := omega) only [F_X12_findFewest, nS, e']
theorem d_best (o : OB h a 12 mdL A B I J) (hb : HB A I b k) {s n t l : Nat} (hn : n ≤ 20) (ht : t + 1 < n) (hl : l < mbL (bMB b)) (g : GT (A 29) (mbL (bMB b)) ixd (fw (bMB b) s) (fun t' _ => t' < n)) : F_X12_bestFollower h a (nI l) (nI (t + 1)) = some (oI (bf (bMB b) s t l)) := by
  have ok := bMB_ok hb.1
  have hL := L_le ok
  have hf := fn_le ok hl
  obtain ⟨m, hm⟩ : ∃ m, m = bMB b := ⟨_, rfl⟩
  have lp : q_lp (s_X12_bestFollower_5 h a (nI l) (nI (t + 1))) q_N (m1, nI 0) = some (oI (bf (bMB b) s t l)) := by
    refine q_lp_for (fun k => (oI (lst (fun k => decide (fw (bMB b) s t (gg (bMB b) l k) + sty k = fw (bMB b) s (t + 1) l)) (gg (bMB b) l) k), nI k)) (fn (bMB b) l) (fun k hk => ?_) ?_ q_N (q_lt_N (by omega))
    · have hg := gg_lt ok hl hk
      have e1 := g t (gg (bMB b) l k) hg (by omega)
      have e2 := g (t + 1) l hl (by omega)
      have b1 := fw_le (bMB b) s t (gg (bMB b) l k)
      have b2 := fw_le (bMB b) s (t + 1) l
      have b3 := sty_le k
      unfold ixd at e1 e2
      have hlt := lst_lt (C := fun k => decide (fw (bMB b) s t (gg (bMB b) l k) + sty k = fw (bMB b) s (t + 1) l)) (v := gg (bMB b) l) (L := mbL (bMB b)) k (fun j hj => gg_lt ok hl (by omega))
      have hlt2 : ∀ x, lst (fun k => decide (fw (bMB b) s t (gg (bMB b) l k) + sty k = fw (bMB b) s (t + 1) l)) (gg (bMB b) l) k = some x → x < 2 ^ 31 := fun x hx => by have := hlt x hx; omega
      rw [← lst_go (C := fun k => decide (fw (bMB b) s t (gg (bMB b) l k) + sty k = fw (bMB b) s (t + 1) l)) (v := gg (bMB b) l) (k := k) (p := fw (bMB b) s t (gg (bMB b) l k) + sty k = fw (bMB b) s (t + 1) l) (by simp) (by omega) hlt2 (fun y => some (Sum.inl (y, nI (k + 1))))]
      by_cases hc : sty k + fw (bMB b) s t (gg (bMB b) l k) = fw (bMB b) s (t + 1) l
      · rw [if_pos (show fw (bMB b) s t (gg (bMB b) l k) + sty k = fw (bMB b) s (t + 1) l by omega)]
        simp (disch := omega) only [s_X12_bestFollower_5, b_X12_bestFollower_5, j_X12_bestFollower_64, nS, X12_rd o, d_pack o hb, d_sty h, Nat.add_sub_cancel, e1, e2]
      · rw [if_neg (show ¬ fw (bMB b) s t (gg (bMB b) l k) + sty k = fw (bMB b) s (t + 1) l by omega)]
        simp (disch := omega) only [s_X12_bestFollower_5, b_X12_bestFollower_5, j_X12_bestFollower_64, nS, X12_rd o, d_pack o hb, d_sty h, Nat.add_sub_cancel, e1, e2]
    · simp (disch := omega) only [s_X12_bestFollower_5, b_X12_bestFollower_5, nS, X12_rd o, d_pack o hb]
      rfl
  simp (disch := omega) only [F_X12_bestFollower, nS, lp]
theorem d_path (o : OB h a 12 mdL A B I J) (hb : HB A I b k) {s n kk : Nat} (hn : n ≤ 20) (hk : kk < n) (h0 : 0 < mbL (bMB b)) (g : GT (A 29) (mbL (bMB b)) ixd (fw (bMB b) s) (fun t' _ => t' < n)) : q_lp (s_X12_avoid_105 h a (nI n) (nI kk)) q_N (nI 0, nI 1) = some (oI (pth (bMB b) s n kk)) := by
  have ok := bMB_ok hb.1
  have hL := L_le ok
  have key : ∀ d i N, kk - i = d → i ≤ kk → kk - i < N → q_lp (s_X12_avoid_105 h a (nI n) (nI kk)) N (oI (pth (bMB b) s n i), nI (i + 1)) = some (oI (pth (bMB b) s n kk)) := by
    intro d
    induction d with
    | zero =>
      intro i N hd hi hN
      obtain ⟨N', rfl⟩ : ∃ N', N = N' + 1 := ⟨N - 1, by omega⟩
      have : i = kk := by omega
      subst this
      refine q_lp_stop ?_
      simp (disch := omega) only [s_X12_avoid_105, b_X12_avoid_105, nS]
    | succ d ih =>
      intro i N hd hi hN
      obtain ⟨N', rfl⟩ : ∃ N', N = N' + 1 := ⟨N - 1, by omega⟩
      cases hp : pth (bMB b) s n i with
      | none =>
        refine q_lp_stop ?_
        rw [pth_none i kk hp hi, oI_none]
        simp (disch := omega) only [s_X12_avoid_105, b_X12_avoid_105, nS]
      | some l =>
        have hl := pth_lt ok h0 i l hp
        have hbs := d_best o hb (t := n - 2 - i) hn (by omega) hl g
        have hp2 : pth (bMB b) s n (i + 1) = bf (bMB b) s (n - 2 - i) l := by simp only [pth, hp]
        rw [← hp2, show n - 2 - i + 1 = n - (i + 1) by omega] at hbs
        rw [q_lp_go (s' := (oI (pth (bMB b) s n (i + 1)), nI (i + 1 + 1)))]
        · exact ih (i + 1) N' (by omega) (by omega) (by omega)
        · rw [oI_some]
          simp (disch := omega) only [s_X12_avoid_105, b_X12_avoid_105, nS, o.ob, hbs]
  exact key kk 0 q_N (by omega) (by omega) (q_lt_N (by omega))
end AVD
/-- a scene, or none -/
theorem scn (y : Int32) : ((∀ h, F_X11_isScene h y = some (nI 0)) ∧ ∀ h, F_X12_isScene h y = some (nI 0)) ∨ ∃ s, s < 10 ∧ y = nI s ∧ (∀ h, F_X11_isScene h y = some (nI 1)) ∧ ∀ h, F_X12_isScene h y = some (nI 1) := by
  rcases nSg y with h0 | ⟨n, hn, rfl⟩
  · exact Or.inl ⟨fun h => by simp (disch := omega) only [F_X11_isScene, nS, gN h0], fun h => by simp (disch := omega) only [F_X12_isScene, F_X12_in, nS, gN h0]⟩
  · rcases Nat.lt_or_ge n 10 with h1 | h1
    · exact Or.inr ⟨n, h1, rfl, fun h => by simp (disch := omega) only [F_X11_isScene, nS], fun h => by simp (disch := omega) only [F_X12_isScene, F_X12_in, nS]⟩
    · exact Or.inl ⟨fun h => by simp (disch := omega) only [F_X11_isScene, nS], fun h => by simp (disch := omega) only [F_X12_isScene, F_X12_in, nS]⟩
section CALLS
variable {h : qH} {c nx : Nat} {σ : SG} {im : Nat → Option SG}
theorem q_avoid (s : ST h c nx σ im) (x y z w : Int32) : QW h c σ im (F_X11_avoid h c x y z w) (fun h1 => F_X12_avoid h1 (c + 80) x y z w) := by
  obtain ⟨ok, ⟨xc, td, sc, -⟩, rm, -⟩ := s
  have hc0 := ok.2.1 0 (by omega)
  rcases nRg z 1 20 (by omega) with hz | ⟨n, rfl, hn1, hn2⟩
  · refine QW.bad (v := m1) rm Fr.rf sc ?_ (fun h1 e1 ob1 => ?_)
    · rcases nOut_or x (n := sC σ 0) (by omega) with hx | ⟨k, hk, rfl⟩
      · simp (disch := omega) only [F_X11_avoid, xS xc, tS td, nS, t_bookOut td hx]
      · rcases scn y with ⟨s1, s2⟩ | ⟨s, hs, rfl, s1, s2⟩
        · simp (disch := omega) only [F_X11_avoid, xS xc, tS td, nS, t_bookIn td ok hk, s1]
        · rcases hz with h0 | ⟨n, rfl, hn, h0⟩
          · simp (disch := omega) only [F_X11_avoid, xS xc, tS td, nS, t_bookIn td ok hk, s1, gN h0]
          · rcases Nat.lt_or_ge n 1 with h1 | h1
            · simp (disch := omega) only [F_X11_avoid, xS xc, tS td, nS, t_bookIn td ok hk, s1]
            · simp (disch := omega) only [F_X11_avoid, xS xc, tS td, nS, t_bookIn td ok hk, s1]
    · have := in_out h1 (by omega) (by omega) hz
      simp (disch := omega) only [F_X12_avoid, nS, e1, this]
  have i1 : ∀ h1, F_X12_in h1 (nI n) (nI 1) (nI 20) = some (nI 1) := fun h1 => in_in h1 (by omega) hn1 hn2
  rcases nSg3 w with hw | hw
  · refine QW.bad (v := m1) rm Fr.rf sc ?_ (fun h1 e1 ob1 => ?_)
    · rcases nOut_or x (n := sC σ 0) (by omega) with hx | ⟨k, hk, rfl⟩
      · simp (disch := omega) only [F_X11_avoid, xS xc, tS td, nS, t_bookOut td hx]
      · rcases scn y with ⟨s1, s2⟩ | ⟨s, hs, rfl, s1, s2⟩
        · simp (disch := omega) only [F_X11_avoid, xS xc, tS td, nS, t_bookIn td ok hk, s1]
        · simp (disch := omega) only [F_X11_avoid, xS xc, tS td, nS, t_bookIn td ok hk, s1, gN1 hw]
    · simp (disch := omega) only [F_X12_avoid, nS, e1, i1, F_X12_in, gN1 hw]
  have hw1 : m1 ≤ w := by
    rcases hw with rfl | ⟨j, hj, rfl⟩
    · exact Int32.le_refl _
    · exact (m1_le hj).mpr trivial
  have i2 : (∃ j, w = nI j ∧ j < 2 ^ 31 ∧ n ≤ j ∧ ∀ h1, F_X12_in h1 w m1 (nI (n - 1)) = some (nI 0)) ∨ ((w = m1 ∨ ∃ j, j < n ∧ w = nI j) ∧ ∀ h1, F_X12_in h1 w m1 (nI (n - 1)) = some (nI 1)) := by
    rcases hw with rfl | ⟨j, hj, rfl⟩
    · exact Or.inr ⟨Or.inl rfl, fun h1 => by simp (disch := omega) only [F_X12_in, nS, show (m1 < m1) ↔ False from by decide]⟩
    · rcases Nat.lt_or_ge j n with h0 | h0
      · exact Or.inr ⟨Or.inr ⟨j, h0, rfl⟩, fun h1 => by simp (disch := omega) only [F_X12_in, nS]⟩
      · exact Or.inl ⟨j, rfl, hj, h0, fun h1 => by simp (disch := omega) only [F_X12_in, nS]⟩
  have rbad : ∀ hc, F_X12_isScene hc y = some (nI 0) → True := fun _ _ => trivial
  rcases scn y with ⟨s1, s2⟩ | ⟨s, hs, rfl, s1, s2⟩
  · refine QW.bad (v := m1) rm Fr.rf sc ?_ (fun h1 e1 ob1 => ?_)
    · rcases nOut_or x (n := sC σ 0) (by omega) with hx | ⟨k, hk, rfl⟩
      · simp (disch := omega) only [F_X11_avoid, xS xc, tS td, nS, t_bookOut td hx]
      · simp (disch := omega) only [F_X11_avoid, xS xc, tS td, nS, t_bookIn td ok hk, s1]
    · rcases i2 with ⟨j, rfl, hj, h0, i2⟩ | ⟨-, i2⟩
      · simp (disch := omega) only [F_X12_avoid, nS, e1, i1, i2]
      · simp (disch := omega) only [F_X12_avoid, nS, e1, i1, i2, s2]
  rcases nOut_or x (n := sC σ 0) (by omega) with hx | ⟨k, hk, rfl⟩
  · have hcl : F_X11_avoid h c x (nI s) (nI n) w = some (m1, h) := by simp (disch := omega) only [F_X11_avoid, xS xc, tS td, nS, t_bookOut td hx]
    rcases i2 with ⟨j, rfl, hj, h0, i2⟩ | ⟨-, i2⟩
    · exact QW.bad (v := m1) rm Fr.rf sc hcl (fun h1 e1 ob1 => by simp (disch := omega) only [F_X12_avoid, nS, e1, i1, i2])
    · exact QW.nob (v := m1) ok rm sc hx hcl (fun h1 h2 e1 ob1 e2 => by simp (disch := omega) only [F_X12_avoid, nS, e1, i1, i2, s2, ob1, e2])
  have cb := t_CB td ok hk
  have okm := cb.1
  have hL := L_le okm
  have hsc := sc
  obtain ⟨-, -, ⟨A6, B6, I6, J6, o6⟩, -, -, -⟩ := sc
  have goC : F_X11_avoid h c (nI k) (nI s) (nI n) w = (F_X6_fewestWithout h (c + 60) (c + 1 + 7 + 22 * k) (nI s) (nI n)).bind fun x19 => (if w = m1 then some (x19.1, x19.2) else (if x19.1 = m1 then some (x19.1, x19.2) else (q_fR x19.2 c 11 4).bind fun x23 => (q_ob x19.2 x23 6).bind fun u25 => (F_X6_lineWithout x19.2 x23 (c + 1 + 7 + 22 * k) (nI n) w).bind fun x27 => some (x27, x19.2))) := by
    simp (disch := omega) only [F_X11_avoid, xS xc, tS td, nS, t_bookIn td ok hk, s1, if_pos hw1, o6.ob]
  rcases Nat.eq_zero_or_pos (mbL (bMB (sB σ k))) with h0 | h0
  · have hcl : F_X11_avoid h c (nI k) (nI s) (nI n) w = some (m1, h) := by
      rw [goC]
      simp (disch := omega) only [F_X6_fewestWithout, nS, cS cb]
      by_cases hw0 : w = m1
      · rw [if_pos hw0]
      · rw [if_neg hw0]
    rcases i2 with ⟨j, rfl, hj, h0, i2⟩ | ⟨-, i2⟩
    · exact QW.bad (v := m1) rm Fr.rf hsc hcl (fun h1 e1 ob1 => by simp (disch := omega) only [F_X12_avoid, nS, e1, i1, i2])
    · refine QW.go (v := m1) [] ok rm hk hcl Fr.rf hsc (by decide) (fun h1 h2 A B I J e1 ob1 e2 o2 hb => ⟨h2, A, B, I, J, ?_, o2, Fr.rf, On.rf⟩)
      have e24 := (d_pack o2 hb).1
      rw [h0] at e24
      simp (disch := omega) only [F_X12_avoid, nS, e1, i1, i2, s2, ob1, e2, e24]
  obtain ⟨hc, A7, e7, o7, r7, g7⟩ := c_fewest o6 cb (by omega) hs hn1 hn2 h0
  have fr7 : Fr h hc (c + 53) (c + 80) := r7.wd (by omega) (by omega)
  have sc7 : SC hc c := hsc.u6 r7 ⟨A7, B6, I6, J6, o7⟩
  have xc7 := xc.kept fr7
  have cb7 := cb.kept (h' := hc) (fun q q1 q2 => r7 q (by omega))
  have hv := fw_le (bMB (sB σ k)) s (n - 1) 0
  rw [e7] at goC
  rcases i2 with ⟨j, rfl, hj, hjn, i2⟩ | ⟨hw2, i2⟩
  · refine QW.bad (v := m1) rm fr7 sc7 ?_ (fun h1 e1 ob1 => by simp (disch := omega) only [F_X12_avoid, nS, e1, i1, i2])
    rw [goC]
    by_cases hh : fw (bMB (sB σ k)) s (n - 1) 0 < 1000000
    · simp (disch := omega) only [if_pos hh, nS, xS xc7, o7.ob, F_X6_lineWithout]
    · simp (disch := omega) only [if_neg hh, nS]
  · have goM : ∀ (v : Int32), (∀ h2 A B I J, OB h2 (c + 80) 12 mdL A B I J → HB A I (sB σ k) k → GT (A 29) (mbL (bMB (sB σ k))) ixd (fw (bMB (sB σ k)) s) (fun t' _ => t' < n) → (if nI 1000000 ≤ nI (fw (bMB (sB σ k)) s (n - 1) 0) then j_X12_avoid_84 h2 (nI (fw (bMB (sB σ k)) s (n - 1) 0)) else (if w = m1 then j_X12_avoid_84 h2 (nI (fw (bMB (sB σ k)) s (n - 1) 0)) else (q_lp (s_X12_avoid_105 h2 (c + 80) (nI n) w) q_N (nI 0, nI 1)).bind fun o32 => some (o32, h2))) = some (v, h2)) → F_X11_avoid h c (nI k) (nI s) (nI n) w = some (v, hc) → QW h c σ im (F_X11_avoid h c (nI k) (nI s) (nI n) w) (fun h1 => F_X12_avoid h1 (c + 80) (nI k) (nI s) (nI n) w) := by
      intro v hv2 hf
      refine QW.go [29] ok rm hk hf fr7 sc7 (by decide) (fun h1 h2 A B I J e1 ob1 e2 o2 hb => ?_)
      obtain ⟨h3, A3, e3, o3, r3, n3, g3⟩ := d_few o2 hb hs hn2
      have t0 := g3 (n - 1) 0 h0 (by omega)
      unfold ixd at t0
      rw [Nat.add_zero] at t0
      refine ⟨h3, A3, B, I, J, ?_, o3, r3, n3⟩
      rw [← hv2 h3 A3 B I J o3 (hb.cg (n3 6 (by decide)) (n3 25 (by decide)) (n3 26 (by decide)) rfl rfl) g3]
      simp (disch := omega) only [F_X12_avoid, nS, e1, i1, i2, s2, ob1, e2, d_pack o2 hb, o2.ob, e3, X12_rd o3, t0]
    by_cases hh : fw (bMB (sB σ k)) s (n - 1) 0 < 1000000
    · rcases hw2 with rfl | ⟨j, hj, rfl⟩
      · refine goM (nI (fw (bMB (sB σ k)) s (n - 1) 0)) (fun h2 A B I J o2 hb g2 => ?_) ?_
        · simp (disch := omega) only [nS, j_X12_avoid_84]
        · rw [goC]
          simp (disch := omega) only [if_pos hh, nS]
      · refine goM (oI (pth (bMB (sB σ k)) s n j)) (fun h2 A B I J o2 hb g2 => ?_) ?_
        · simp (disch := omega) only [nS, d_path o2 hb hn2 hj h0 g2]
        · rw [goC]
          simp (disch := omega) only [if_pos hh, nS, xS xc7, o7.ob, c_line o7 cb7 hn2 hj h0 g7]
    · refine goM m1 (fun h2 A B I J o2 hb g2 => ?_) ?_
      · simp (disch := omega) only [nS, j_X12_avoid_84]
      · rw [goC]
        by_cases hw0 : w = m1
        · simp (disch := omega) only [if_neg hh, nS, if_pos hw0]
        · simp (disch := omega) only [if_neg hh, nS, if_neg hw0]
end CALLS
