/-! ===== the call text: what is kept behind it ===== -/
def sgN (σ : SG) (s k : Nat) (T : Nat → Int32) (nw : Nat) : SG := (sT σ, 0, nI 0, m1, (fun i => if i = s then sC σ s + nw else sC σ i), (if s = 0 then upF (sB σ) k T else sB σ), (if s = 1 then upF (sE σ) k T else sE σ), (if s = 2 then upF (sG σ) k T else sG σ), (if s = 3 then upF (sW σ) k T else sW σ))
def sg0 (σ : SG) (f p : Int32) : SG := sgF (sgZ σ 0) f p
def KN (σ : SG) (s k nw : Nat) : Prop := k < sC σ s + nw ∧ sC σ s + nw ≤ 2 ∧ ∀ j, j ≠ k → j < sC σ s + nw → j < sC σ s
section NEW
variable {σ : SG} {s k nw : Nat} {T : Nat → Int32} {h h' : qH} {t a : Nat} {A A' : Nat → Nat → Int32} {B : Nat → Nat → Int64} {I : Nat → Int32} {J : Nat → Int64} {im : Nat → Option SG}
theorem fam_n {P : (Nat → Int32) → Prop} {F : Nat → Nat → Int32} (i : Nat) (kn : KN σ s k nw) (old : ∀ j, j < sC σ i → P (F j)) (new : s = i → P T) : ∀ j, j < (if i = s then sC σ s + nw else sC σ i) → P ((if s = i then upF F k T else F) j) := by
  intro j hj
  by_cases e : s = i
  · subst e
    rw [if_pos rfl] at hj ⊢
    by_cases ek : j = k
    · subst ek; rw [upF_self]; exact new rfl
    · rw [upF_ne _ _ ek]; exact old j (kn.2.2 j ek hj)
  · rw [if_neg (fun q => e q.symm)] at hj
    rw [if_neg e]
    exact old j hj
theorem SGok_n (ok : SGok σ) (kn : KN σ s k nw) (vB : s = 0 → BV T) (vE : s = 1 → EV T) (vG : s = 2 → LV T) (vW : s = 3 → TV T) : SGok (sgN σ s k T nw) := by
  obtain ⟨-, o2, o3, o4, o5, o6, o7⟩ := ok
  refine ⟨Nat.zero_le _, fun i hi => ?_, fam_n 0 kn o3 vB, fam_n 1 kn o4 vE, fam_n 2 kn o5 vG, fam_n 3 kn o6 vW, o7⟩
  show (if i = s then sC σ s + nw else sC σ i) ≤ 2
  split
  · exact kn.2.1
  · exact o2 i hi
theorem SGok_0 (ok : SGok σ) (f p : Int32) : SGok (sg0 σ f p) := ⟨Nat.zero_le _, ok.2⟩
def ywS (s : Nat) : Nat := [112, 81, 13, 27].getD s 0
theorem PM_n (pm : PM A 0 (sg0 σ (nI 0) m1)) (hs : s < 4) (hk : k < 2) (e1 : ∀ j, j ≠ 6 + s → j ≠ 5 → A' j = A j) (e5 : A' 5 = upd (A 5) s (nI (sC σ s + nw))) (n1 : ∀ i, i < ywS s → A' (6 + s) (ywS s * k + i) = T i) (n2 : ∀ i, i < ywS s * k ∨ ywS s * k + ywS s ≤ i → A' (6 + s) i = A (6 + s) i) : PM A' 0 (sgN σ s k T nw) := by
  obtain ⟨p1, p2, p3, p4, p5, p6, p7, p8, p9⟩ := pm
  have c5 : ∀ i, i < 4 → A' 5 (4 * 0 + i) = nI (if i = s then sC σ s + nw else sC σ i) := by
    intro i hi
    have p5 := p5 i hi
    rw [show 4 * 0 + i = i by omega] at p5 ⊢
    rw [e5]
    by_cases e : i = s
    · subst e; rw [pk_us, if_pos rfl]
    · rw [pk_un e, if_neg e]; exact p5
  have gen : ∀ (F : Nat → Nat → Int32) (W : Nat), W = ywS s → (∀ j i, j < 2 → i < W → A (6 + s) (W * j + i) = F j i) → ∀ j i, j < 2 → i < W → A' (6 + s) (W * j + i) = upF F k T j i := by
    intro F W hW old j i hj hi
    subst hW
    by_cases e : j = k
    · subst e; rw [upF_self]; exact n1 i hi
    · rw [upF_ne _ _ e, n2 _ ?_]
      · exact old j i hj hi
      · rcases (show j = 0 ∧ k = 1 ∨ j = 1 ∧ k = 0 by omega) with ⟨rfl, rfl⟩ | ⟨rfl, rfl⟩
        · left; omega
        · right; omega
  have w0 : A' 1 = A 1 := e1 1 (by omega) (by omega)
  have w2 : A' 2 = A 2 := e1 2 (by omega) (by omega)
  have w3 : A' 3 = A 3 := e1 3 (by omega) (by omega)
  have w4 : A' 4 = A 4 := e1 4 (by omega) (by omega)
  rcases (show s = 0 ∨ s = 1 ∨ s = 2 ∨ s = 3 by omega) with rfl | rfl | rfl | rfl
  · refine ⟨by rw [w0]; exact p1, by rw [w2]; exact p2, by rw [w3]; exact p3, by rw [w4]; exact p4, c5, fun j i hj hi => ?_, by rw [e1 7 (by omega) (by omega)]; exact p7, by rw [e1 8 (by omega) (by omega)]; exact p8, by rw [e1 9 (by omega) (by omega)]; exact p9⟩
    rw [show 224 * 0 + (112 * j + i) = 112 * j + i by omega]
    exact gen (sB σ) 112 rfl (fun j i hj hi => by have := p6 j i hj hi; rw [show 224 * 0 + (112 * j + i) = 112 * j + i by omega] at this; exact this) j i hj hi
  · refine ⟨by rw [w0]; exact p1, by rw [w2]; exact p2, by rw [w3]; exact p3, by rw [w4]; exact p4, c5, by rw [e1 6 (by omega) (by omega)]; exact p6, fun j i hj hi => ?_, by rw [e1 8 (by omega) (by omega)]; exact p8, by rw [e1 9 (by omega) (by omega)]; exact p9⟩
    rw [show 162 * 0 + (81 * j + i) = 81 * j + i by omega]
    exact gen (sE σ) 81 rfl (fun j i hj hi => by have := p7 j i hj hi; rw [show 162 * 0 + (81 * j + i) = 81 * j + i by omega] at this; exact this) j i hj hi
  · refine ⟨by rw [w0]; exact p1, by rw [w2]; exact p2, by rw [w3]; exact p3, by rw [w4]; exact p4, c5, by rw [e1 6 (by omega) (by omega)]; exact p6, by rw [e1 7 (by omega) (by omega)]; exact p7, fun j i hj hi => ?_, by rw [e1 9 (by omega) (by omega)]; exact p9⟩
    rw [show 26 * 0 + (13 * j + i) = 13 * j + i by omega]
    exact gen (sG σ) 13 rfl (fun j i hj hi => by have := p8 j i hj hi; rw [show 26 * 0 + (13 * j + i) = 13 * j + i by omega] at this; exact this) j i hj hi
  · refine ⟨by rw [w0]; exact p1, by rw [w2]; exact p2, by rw [w3]; exact p3, by rw [w4]; exact p4, c5, by rw [e1 6 (by omega) (by omega)]; exact p6, by rw [e1 7 (by omega) (by omega)]; exact p7, by rw [e1 8 (by omega) (by omega)]; exact p8, fun j i hj hi => ?_⟩
    rw [show 54 * 0 + (27 * j + i) = 27 * j + i by omega]
    exact gen (sW σ) 27 rfl (fun j i hj hi => by have := p9 j i hj hi; rw [show 54 * 0 + (27 * j + i) = 27 * j + i by omega] at this; exact this) j i hj hi
/-- the reference's rows with another fault and place -/
theorem PM_f {f p : Int32} (pm : PM A 0 σ) (e1 : ∀ j, j < 10 → j ≠ 3 → j ≠ 4 → A' j = A j) (e3 : A' 3 0 = f) (e4 : A' 4 0 = p) : PM A' 0 (sgF σ f p) := by
  obtain ⟨p1, p2, p3, p4, p5, p6, p7, p8, p9⟩ := pm
  unfold PM
  rw [e1 1 (by omega) (by omega) (by omega), e1 2 (by omega) (by omega) (by omega), e1 5 (by omega) (by omega) (by omega), e1 6 (by omega) (by omega) (by omega), e1 7 (by omega) (by omega) (by omega), e1 8 (by omega) (by omega) (by omega), e1 9 (by omega) (by omega) (by omega)]
  exact ⟨p1, p2, e3, e4, p5, p6, p7, p8, p9⟩
theorem d_store (o : OB h a 12 mdL A B I J) {r ar W N : Nat} (hr : r ≠ 19) (hW : W ≤ 112) (hk : k < 2) (hN : W * k + W ≤ N) (sI : ∀ {g : qH} {A1 : Nat → Nat → Int32} {i : Nat} (x : Int32), OB g a 12 mdL A1 B I J → i < N → ∃ g', q_sI g .int ar (nI i) x = some g' ∧ OB g' a 12 mdL (upF A1 r (upd (A1 r) i x)) B I J ∧ Fr g g' a (a + 27)) : ∃ h' A', F_X12_store h a ar (nI W) (nI k) = some h' ∧ OB h' a 12 mdL A' B I J ∧ (∀ j, j ≠ r → A' j = A j) ∧ (∀ i, i < W → A' r (W * k + i) = A 19 i) ∧ (∀ i, i < W * k ∨ W * k + W ≤ i → A' r i = A r i) ∧ Fr h h' a (a + 27) := by
  obtain ⟨h1, e1, A1, o1, n1, n2, n3, r1⟩ := q_lp_idx (step := s_X12_store_3 a ar (nI W) (nI k)) (fun i v => v.1 = nI i ∧ ∃ A', OB v.2 a 12 mdL A' B I J ∧ (∀ j, j ≠ r → A' j = A j) ∧ (∀ l, l < i → A' r (W * k + l) = A 19 l) ∧ (∀ l, l < W * k ∨ W * k + i ≤ l → A' r l = A r l) ∧ Fr h v.2 a (a + 27)) W (fun g => ∃ A', OB g a 12 mdL A' B I J ∧ (∀ j, j ≠ r → A' j = A j) ∧ (∀ i, i < W → A' r (W * k + i) = A 19 i) ∧ (∀ i, i < W * k ∨ W * k + W ≤ i → A' r i = A r i) ∧ Fr h g a (a + 27)) (by
    rintro i ⟨x, g⟩ hi ⟨hx, A1, o1, n1, n2, n3, r1⟩
    dsimp only at hx o1 r1
    subst hx
    have f19 : q_fR g a 12 19 = some (a + 10) := o1.fR (k := 19) rfl rfl
    have w19 : q_aI g .int (a + 10) (nI i) = some (A 19 i) := by
      rw [← n1 19 (fun q => hr q.symm)]; exact q_ixI (fun i h0 h1 => o1.aI (k := 19) rfl h0 h1) (show i < 112 by omega) (by decide)
    obtain ⟨g2, e2, o2, r2⟩ := sI (A 19 i) o1 (show W * k + i < N by omega)
    refine ⟨(nI (i + 1), g2), ?_, rfl, _, o2, fun j hj => ?_, fun l hl => ?_, fun l hl => ?_, r1.tr r2⟩
    · show b_X12_store_3 a ar (nI W) (nI k) (nI i) g = _
      unfold b_X12_store_3
      rw [if_neg (nI_ge hi (by omega)), f19, Option.bind_some, w19, Option.bind_some, pk_mul, nI_add, e2, Option.bind_some, n_lit 1, nI_add]
    · rw [upF_ne _ _ hj]; exact n1 j hj
    · rw [upF_self]
      by_cases el : l = i
      · subst el; exact pk_us
      · rw [pk_un (by omega)]; exact n2 l (by omega)
    · rw [upF_self, pk_un (by omega)]; exact n3 l (by omega)) (by
    rintro ⟨x, g⟩ ⟨hx, A1, o1, n1, n2, n3, r1⟩
    dsimp only at hx o1 r1
    subst hx
    refine ⟨g, ?_, A1, o1, n1, n2, n3, r1⟩
    show b_X12_store_3 a ar (nI W) (nI k) (nI W) g = _
    unfold b_X12_store_3
    rw [if_pos (nI_le (Nat.le_refl _) (by omega))]) q_N (nI 0, h) ⟨rfl, A, o, fun _ _ => rfl, fun l hl => by omega, fun _ _ => rfl, Fr.rf⟩ (q_lt_N (by omega))
  refine ⟨h1, A1, ?_, o1, n1, n2, n3, r1⟩
  have e1 : q_lp (s_X12_store_3 a ar (nI W) (nI k)) q_N ((0 : Int32), h) = some h1 := e1
  unfold F_X12_store
  rw [e1, Option.bind_some]
theorem d_storeAll (o : OB h a 12 mdL A B I J) (hs : s < 4) (hk : k < 2) : ∃ h' A', F_X12_storeAll h a (nI s) (nI k) = some h' ∧ OB h' a 12 mdL A' B I J ∧ (∀ j, j ≠ 6 + s → A' j = A j) ∧ (∀ i, i < ywS s → A' (6 + s) (ywS s * k + i) = A 19 i) ∧ (∀ i, i < ywS s * k ∨ ywS s * k + ywS s ≤ i → A' (6 + s) i = A (6 + s) i) ∧ Fr h h' a (a + 27) := by
  unfold F_X12_storeAll
  rcases (show s = 0 ∨ s = 1 ∨ s = 2 ∨ s = 3 by omega) with rfl | rfl | rfl | rfl
  · obtain ⟨h1, A1, e1, o1, n⟩ := d_store o (r := 6) (ar := a + 6) (W := 112) (N := 896) (k := k) (by omega) (by omega) hk (by omega) (fun x o1 hi => X12_s6 o1 x hi)
    have e1 : F_X12_store h a (a + 6) (112 : Int32) (nI k) = some h1 := e1
    refine ⟨h1, A1, ?_, o1, n⟩
    rw [if_pos (show nI 0 = (0 : Int32) from rfl), show q_fR h a 12 6 = some (a + 6) from o.fR (k := 6) rfl rfl, Option.bind_some, o.ob, Option.bind_some, e1, Option.bind_some]
  · obtain ⟨h1, A1, e1, o1, n⟩ := d_store o (r := 7) (ar := a + 7) (W := 81) (N := 648) (k := k) (by omega) (by omega) hk (by omega) (fun x o1 hi => X12_s7 o1 x hi)
    have e1 : F_X12_store h a (a + 7) (81 : Int32) (nI k) = some h1 := e1
    refine ⟨h1, A1, ?_, o1, n⟩
    rw [if_neg (show ¬ nI 1 = (0 : Int32) by decide), if_pos (show nI 1 = (1 : Int32) from rfl), show q_fR h a 12 7 = some (a + 7) from o.fR (k := 7) rfl rfl, Option.bind_some, o.ob, Option.bind_some, e1, Option.bind_some]
  · obtain ⟨h1, A1, e1, o1, n⟩ := d_store o (r := 8) (ar := a + 8) (W := 13) (N := 104) (k := k) (by omega) (by omega) hk (by omega) (fun x o1 hi => X12_s8 o1 x hi)
    have e1 : F_X12_store h a (a + 8) (13 : Int32) (nI k) = some h1 := e1
    refine ⟨h1, A1, ?_, o1, n⟩
    rw [if_neg (show ¬ nI 2 = (0 : Int32) by decide), if_neg (show ¬ nI 2 = (1 : Int32) by decide), if_pos (show nI 2 = (2 : Int32) from rfl), show q_fR h a 12 8 = some (a + 8) from o.fR (k := 8) rfl rfl, Option.bind_some, o.ob, Option.bind_some, e1, Option.bind_some]
  · obtain ⟨h1, A1, e1, o1, n⟩ := d_store o (r := 9) (ar := a + 9) (W := 27) (N := 216) (k := k) (by omega) (by omega) hk (by omega) (fun x o1 hi => X12_s9 o1 x hi)
    have e1 : F_X12_store h a (a + 9) (27 : Int32) (nI k) = some h1 := e1
    refine ⟨h1, A1, ?_, o1, n⟩
    rw [if_neg (show ¬ nI 3 = (0 : Int32) by decide), if_neg (show ¬ nI 3 = (1 : Int32) by decide), if_neg (show ¬ nI 3 = (2 : Int32) by decide), show q_fR h a 12 9 = some (a + 9) from o.fR (k := 9) rfl rfl, Option.bind_some, o.ob, Option.bind_some, e1, Option.bind_some]
end NEW
/-! ===== the reference's call ===== -/
section DTX
variable {σ : SG} {s k nw : Nat} {h : qH} {a : Nat} {im : Nat → Option SG}
/-- the call's beginning: the tape is taken -/
theorem d_take0 (rm : RM h a σ im) (x y : Int32) : ∃ h1 A B I J, F_X12_text h a x y = ((F_X12_in h1 x (0 : Int32) (3 : Int32)).bind fun x21 => (if x21 = 0 then some ((-2 : Int32), h1) else (if y = (-1 : Int32) then (q_fR h1 a 12 5).bind fun x30 => (q_aI h1 .int x30 x).bind fun x32 => (if x32 = (2 : Int32) then some ((-2 : Int32), h1) else j_X12_text_75 h1 a x y) else (q_ob h1 a 12).bind fun u25 => (F_X12_is h1 a x y).bind fun x27 => (if x27 = 0 then some ((-2 : Int32), h1) else j_X12_text_75 h1 a x y)))) ∧ OB h1 a 12 mdL A B I J ∧ PM A 0 (sg0 σ (nI 0) m1) ∧ KI A im ∧ TP A σ ∧ I 11 = nI (sZ σ) ∧ Fr h h1 a (a + 27) := by
  obtain ⟨h1, A, B, I, J, e1, o1, pm, ki, r1⟩ := rm.p0
  have e1 : q_put h a 12 0 (.int (0 : Int32)) = some h1 := e1
  have a20 : A 2 0 = nI (sZ σ) := pm.2.1
  obtain ⟨h2, e2, o2, r2⟩ := X12_p11 o1 (nI (sZ σ))
  obtain ⟨h3, e3, o3, r3⟩ := X12_s2 o2 (i := 0) (nI 0) (by omega)
  obtain ⟨h4, e4, o4, r4⟩ := X12_s3 o3 (i := 0) (nI 0) (by omega)
  obtain ⟨h5, e5, o5, r5⟩ := X12_s4 o4 (i := 0) m1 (by omega)
  have g2 : q_aI h1 .int (a + 2) (0 : Int32) = some (nI (sZ σ)) := by
    rw [← a20]; exact q_ixI (i := 0) (fun i h0 h1 => o1.aI (k := 2) rfl h0 h1) (by omega) (by decide)
  have e3 : q_sI h2 .int (a + 2) (0 : Int32) (0 : Int32) = some h3 := e3
  have e4 : q_sI h3 .int (a + 3) (0 : Int32) (0 : Int32) = some h4 := e4
  have e5 : q_sI h4 .int (a + 4) (0 : Int32) (-1 : Int32) = some h5 := e5
  have k3 : KL A (upF A 2 (upd (A 2) 0 (nI 0))) := KL.up (by omega) (by omega) (show 0 < 1 by omega) _
  refine ⟨h5, _, B, _, J, ?_, o5, ?_, ki.kl ((k3.tr (KL.up (by omega) (by omega) (show 0 < 1 by omega) _)).tr (KL.up (by omega) (by omega) (show 0 < 1 by omega) _)), ?_, by simp (disch := omega) only [uS], (((r1.tr r2).tr r3).tr r4).tr r5⟩
  · unfold F_X12_text
    rw [e1, Option.bind_some, show q_fR h1 a 12 2 = some (a + 2) from o1.fR (k := 2) rfl rfl, Option.bind_some, g2, Option.bind_some, e2, Option.bind_some, show q_fR h2 a 12 2 = some (a + 2) from o2.fR (k := 2) rfl rfl, Option.bind_some, e3, Option.bind_some, show q_fR h3 a 12 3 = some (a + 3) from o3.fR (k := 3) rfl rfl, Option.bind_some, e4, Option.bind_some, show q_fR h4 a 12 4 = some (a + 4) from o4.fR (k := 4) rfl rfl, Option.bind_some, e5, Option.bind_some]
  · refine PM_f (pm.z 0) (fun j hj j3 j4 => by rw [upF_ne _ _ j4, upF_ne _ _ j3]) ?_ ?_
    · rw [upF_ne _ _ (by decide), upF_self, pk_us]
    · rw [upF_self, pk_us]
  · intro p hp
    rw [upF_ne _ _ (by decide), upF_ne _ _ (by decide), upF_ne _ _ (by decide)]
    have := pm.1 p hp
    rw [show 600 * 0 + p = p by omega] at this
    exact this
/-- where there is none such -/
theorem d_refuse (rm : RM h a σ im) (ok : SGok σ) {x y : Int32} (hx : (x < nI 0 ∨ (∃ n, x = nI n ∧ n < 2 ^ 31 ∧ (n < 0 ∨ 3 < n))) ∨ ∃ s, s < 4 ∧ x = nI s ∧ ((y = m1 ∧ sC σ s = 2) ∨ (y ≠ m1 ∧ nOut y (sC σ s)))) : ∃ h', F_X12_text h a x y = some (m2, h') ∧ RM h' a (sg0 σ (nI 0) m1) im ∧ Fr h h' a (a + 27) := by
  obtain ⟨h1, A, B, I, J, e, o, pm, ki, -, -, r⟩ := d_take0 rm x y
  refine ⟨h1, ?_, ⟨A, B, I, J, o, pm, ki⟩, r⟩
  rw [e]
  rcases hx with hx | ⟨s, hs, rfl, hy⟩
  · have ei := in_out h1 (lo := 0) (hi := 3) (by omega) (by omega) hx
    have ei : F_X12_in h1 x (0 : Int32) (3 : Int32) = some (nI 0) := ei
    rw [ei, Option.bind_some, if_pos (show nI 0 = (0 : Int32) from rfl)]
    rfl
  · have ei := in_in h1 (n := s) (lo := 0) (hi := 3) (by omega) (by omega) (by omega)
    have ei : F_X12_in h1 (nI s) (0 : Int32) (3 : Int32) = some (nI 1) := ei
    rw [ei, Option.bind_some, if_neg (show ¬ nI 1 = (0 : Int32) by decide)]
    rcases hy with ⟨rfl, hc⟩ | ⟨hy, hout⟩
    · have a5 : A 5 s = nI 2 := by have := pm.2.2.2.2.1 s hs; rw [show 4 * 0 + s = s by omega] at this; rw [this]; exact congrArg nI hc
      have g5 : q_aI h1 .int (a + 5) (nI s) = some (nI 2) := by
        rw [← a5]; exact q_ixI (fun i h0 h1 => o.aI (k := 5) rfl h0 h1) (show s < 16 by omega) (by decide)
      rw [if_pos (show m1 = (-1 : Int32) from rfl), show q_fR h1 a 12 5 = some (a + 5) from o.fR (k := 5) rfl rfl, Option.bind_some, g5, Option.bind_some, if_pos (show nI 2 = (2 : Int32) from rfl)]
      rfl
    · have ei := d_is_out o pm (SGok_0 ok _ _) hs hout
      rw [if_neg (show ¬ y = (-1 : Int32) from hy), o.ob, Option.bind_some, ei, Option.bind_some, if_pos (show nI 0 = (0 : Int32) from rfl)]
      rfl
/-- where there is one, or may be one more -/
theorem d_accept (rm : RM h a σ im) (ok : SGok σ) (hs : s < 4) {y : Int32} (hy : (y = m1 ∧ k = sC σ s ∧ nw = 1 ∧ sC σ s < 2) ∨ (y = nI k ∧ k < sC σ s ∧ nw = 0)) {m : Nat} (hm : m ≤ 600) {out : LFt} (yo : yOut σ s m out) : (out ≠ none → ∃ h', F_X12_text h a (nI s) y = some (m1, h') ∧ RM h' a (sg0 σ (oFt out) (oPl out)) im ∧ Fr h h' a (a + 27)) ∧ (out = none → ∃ h', F_X12_text h a (nI s) y = some (nI k, h') ∧ RM h' a (sgN σ s k (yTT σ s m) nw) im ∧ Fr h h' a (a + 27)) := by
  obtain ⟨h1, A, B, I, J, e, o, pm, ki, tp, i11, r⟩ := d_take0 rm (nI s) y
  have hc2 := ok.2.1 s hs
  have hz := ok.1
  have hk2 : k < 2 := by omega
  have ei := in_in h1 (n := s) (lo := 0) (hi := 3) (by omega) (by omega) (by omega)
  have ei : F_X12_in h1 (nI s) (0 : Int32) (3 : Int32) = some (nI 1) := ei
  have a5 : A 5 s = nI (sC σ s) := by have := pm.2.2.2.2.1 s hs; rw [show 4 * 0 + s = s by omega] at this; exact this
  have g5 : q_aI h1 .int (a + 5) (nI s) = some (nI (sC σ s)) := by
    rw [← a5]; exact q_ixI (fun i h0 h1 => o.aI (k := 5) rfl h0 h1) (show s < 16 by omega) (by decide)
  have pre : F_X12_text h a (nI s) y = j_X12_text_75 h1 a (nI s) y := by
    rw [e, ei, Option.bind_some, if_neg (show ¬ nI 1 = (0 : Int32) by decide)]
    rcases hy with ⟨rfl, -, -, hc⟩ | ⟨rfl, hc, -⟩
    · rw [if_pos (show m1 = (-1 : Int32) from rfl), show q_fR h1 a 12 5 = some (a + 5) from o.fR (k := 5) rfl rfl, Option.bind_some, g5, Option.bind_some, if_neg (show ¬ nI (sC σ s) = (2 : Int32) from fun q => by have := (nI_eq (b := 2) (by omega) (by omega)).mp q; omega)]
    · have ei := d_is_in o pm (SGok_0 ok _ _) hs (j := k) hc
      rw [if_neg (show ¬ nI k = (-1 : Int32) from fun q => (nm1_eq (a := k) (by omega)).mp q), o.ob, Option.bind_some, ei, Option.bind_some, if_neg (show ¬ nI 1 = (0 : Int32) by decide)]
  obtain ⟨h2, A2, I2, J2, e2, o2, n2, a3, a4, t2, r2⟩ := d_read o tp hz i11 hs (show m ≤ 601 by omega) yo
  have pm2 : PM A2 0 (sg0 σ (oFt out) (oPl out)) := by
    have := PM_f (f := oFt out) (p := oPl out) pm (A' := A2) (fun j hj j3 j4 => n2 j (by simp; omega)) (by rw [a3, pk_us]) (by rw [a4, pk_us])
    exact this
  have kl2 : KL A A2 := ⟨fun q i q1 q2 q3 => by
    by_cases e3 : q = 3
    · subst e3; rw [a3, pk_un (show i ≠ 0 by have q3 : 1 ≤ i := q3; omega)]
    · by_cases e4 : q = 4
      · subst e4; rw [a4, pk_un (show i ≠ 0 by have q3 : 1 ≤ i := q3; omega)]
      · rw [n2 q (by simp; omega)], n2 48 (by decide)⟩
  have ki2 := ki.kl kl2
  rw [pre]
  unfold j_X12_text_75
  rw [o.ob, Option.bind_some, e2, Option.bind_some]
  constructor
  · intro ho
    refine ⟨h2, ?_, ⟨A2, B, I2, J2, o2, pm2, ki2⟩, r.tr r2⟩
    rw [if_neg ho, if_pos (show nI 0 = (0 : Int32) from rfl)]
    rfl
  · intro ho
    have t2 := t2 ho
    rw [if_pos ho, if_neg (show ¬ nI 1 = (0 : Int32) by decide)]
    rw [ho] at pm2
    have b5 : A2 5 s = nI (sC σ s) := by rw [n2 5 (by decide)]; exact a5
    have f5 : q_fR h2 a 12 5 = some (a + 5) := o2.fR (k := 5) rfl rfl
    have g5 : q_aI h2 .int (a + 5) (nI s) = some (nI (sC σ s)) := by
      rw [← b5]; exact q_ixI (fun i h0 h1 => o2.aI (k := 5) rfl h0 h1) (show s < 16 by omega) (by decide)
    obtain ⟨h3, e3, o3, r3⟩ := X12_s5 o2 (i := s) (nI (sC σ s + nw)) (by omega)
    obtain ⟨h4, A4, e4, o4, q1, q2, q3, r4⟩ := d_storeAll o3 hs hk2
    have pm4 : PM A4 0 (sgN σ s k (yTT σ s m) nw) := by
      refine PM_n pm2 hs hk2 (fun j j1 j2 => by rw [q1 j j1, upF_ne _ _ j2]) (by rw [q1 5 (by omega), upF_self]) (fun i hi => ?_) (fun i hi => by rw [q3 i hi, upF_ne _ _ (by omega)])
      rw [q2 i hi, upF_ne _ _ (by decide)]
      refine t2 i ?_
      have : ywS s ≤ 112 := by
        rcases (show s = 0 ∨ s = 1 ∨ s = 2 ∨ s = 3 by omega) with rfl | rfl | rfl | rfl <;> decide
      omega
    have kl4 : KL A2 A4 := by
      refine ⟨fun q i q4 q5 q6 => ?_, by rw [q1 48 (by omega), upF_ne _ _ (by decide)]⟩
      by_cases e6 : q = 6 + s
      · subst e6
        have hw : ywS s * k + ywS s ≤ i := by
          rcases (show s = 0 ∨ s = 1 ∨ s = 2 ∨ s = 3 by omega) with rfl | rfl | rfl | rfl
          · have q6 : 224 ≤ i := q6
            show 112 * k + 112 ≤ i
            omega
          · have q6 : 162 ≤ i := q6
            show 81 * k + 81 ≤ i
            omega
          · have q6 : 26 ≤ i := q6
            show 13 * k + 13 ≤ i
            omega
          · have q6 : 54 ≤ i := q6
            show 27 * k + 27 ≤ i
            omega
        rw [q3 i (Or.inr hw), upF_ne _ _ (by omega)]
      · rw [q1 q e6]
        by_cases e5 : q = 5
        · subst e5
          have q6 : 4 ≤ i := q6
          rw [upF_self, pk_un (by omega)]
        · rw [upF_ne _ _ e5]
    refine ⟨h4, ?_, ⟨A4, B, I2, J2, o4, pm4, ki2.kl kl4⟩, ((r.tr r2).tr r3).tr r4⟩
    dsimp only
    rcases hy with ⟨rfl, rfl, rfl, -⟩ | ⟨rfl, hkc, rfl⟩
    · have e3 : q_sI h2 .int (a + 5) (nI s) (nI (sC σ s) + (1 : Int32)) = some h3 := by rw [n_lit 1, nI_add]; exact e3
      rw [if_pos (show m1 = (-1 : Int32) from rfl), f5, Option.bind_some, g5, Option.bind_some]
      unfold j_X12_text_100_3
      rw [f5, Option.bind_some, g5, Option.bind_some, if_pos (show m1 = (-1 : Int32) from rfl)]
      unfold j_X12_text_118_4
      rw [e3, Option.bind_some, o3.ob, Option.bind_some, e4, Option.bind_some]
    · have e3 : q_sI h2 .int (a + 5) (nI s) (nI (sC σ s) + (0 : Int32)) = some h3 := by rw [n_lit 0, nI_add]; exact e3
      have nk : ¬ nI k = (-1 : Int32) := fun q => (nm1_eq (a := k) (by omega)).mp q
      rw [if_neg nk]
      unfold j_X12_text_100
      rw [f5, Option.bind_some, g5, Option.bind_some, if_neg nk]
      unfold j_X12_text_118
      rw [e3, Option.bind_some, o3.ob, Option.bind_some, e4, Option.bind_some]
end DTX
