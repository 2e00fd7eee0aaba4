/-! ===== the fewest strayings without a scene ===== -/
def mn (f : Nat → Nat) : Nat → Nat
  | 0 => 1000000
  | n + 1 => min (mn f n) (f n)
theorem mn_le (f : Nat → Nat) : ∀ n, mn f n ≤ 1000000 := by
  intro n
  induction n with
  | zero => exact Nat.le_refl _
  | succ n ih => exact Nat.le_trans (Nat.min_le_left _ _) ih
def sty (k : Nat) : Nat := if k = 0 then 0 else 1
theorem sty_le (k : Nat) : sty k ≤ 1 := by unfold sty; split <;> omega
def fw (m : MB) (s : Nat) : Nat → Nat → Nat
  | 0, l => if sc m l = s then 1000000 else 0
  | t + 1, l => if sc m l = s then 1000000 else if fn m l = 0 then 0 else mn (fun k => fw m s t (gg m l k) + sty k) (fn m l)
theorem fw_le (m : MB) (s t l : Nat) : fw m s t l ≤ 1000000 := by
  cases t with
  | zero => unfold fw; split <;> omega
  | succ t =>
    unfold fw
    split
    · omega
    · split
      · omega
      · exact mn_le _ _
/-- what a table says of the rows told -/
def GT (T : Nat → Int32) (L : Nat) (ix val : Nat → Nat → Nat) (P : Nat → Nat → Prop) : Prop := ∀ t l, l < L → P t l → T (ix t l) = nI (val t l)
theorem GT.up {T : Nat → Int32} {L : Nat} {ix val : Nat → Nat → Nat} {P P' : Nat → Nat → Prop} (g : GT T L ix val P) {t l : Nat} (hix : ∀ t' l', l' < L → ix t' l' = ix t l → t' = t ∧ l' = l) (hP : ∀ t' l', l' < L → P' t' l' → P t' l' ∨ (t' = t ∧ l' = l)) : GT (upd T (ix t l) (nI (val t l))) L ix val P' := by
  intro t' l' hl' h'
  by_cases he : ix t' l' = ix t l
  · obtain ⟨rfl, rfl⟩ := hix t' l' hl' he
    exact pk_us
  · rw [pk_un he]
    refine g t' l' hl' ((hP t' l' hl' h').resolve_right (fun e => he ?_))
    rw [e.1, e.2]
theorem GT.mo {T : Nat → Int32} {L : Nat} {ix val : Nat → Nat → Nat} {P P' : Nat → Nat → Prop} (g : GT T L ix val P) (hP : ∀ t' l', l' < L → P' t' l' → P t' l') : GT T L ix val P' := fun t' l' hl' h' => g t' l' hl' (hP t' l' hl' h')
def ixc (t l : Nat) : Nat := (t + 1) * 20 + l
def ixd (t l : Nat) : Nat := 20 * t + l
theorem ixc_inj {t l t' l' : Nat} (h1 : l < 20) (h2 : l' < 20) (h : ixc t' l' = ixc t l) : t' = t ∧ l' = l := by unfold ixc at h; omega
theorem ixd_inj {t l t' l' : Nat} (h1 : l < 20) (h2 : l' < 20) (h : ixd t' l' = ixd t l) : t' = t ∧ l' = l := by unfold ixd at h; omega
section AVC
variable {h : qH} {a b : Nat} {m : MB} {A : Nat → Nat → Int32} {B : Nat → Nat → Int64} {I : Nat → Int32} {J : Nat → Int64}
/-- the class: the fewest from a line on -/
theorem c_from (o : OB h a 6 ptL A B I J) (c : CB h b m) {s t l : Nat} (ht : t < 20) (hl : l < mbL m) (hs : ¬ sc m l = s) (g : GT (A 0) (mbL m) ixc (fw m s) (fun t' _ => t' < t)) : F_X6_fewestFrom h a b (nI (t + 1)) (nI l) = some (nI (fw m s t l)) := by
  have ok := c.1
  have hL := L_le ok
  have hf := fn_le ok hl
  cases t with
  | zero =>
    simp only [fw, if_neg hs]
    simp (disch := omega) only [F_X6_fewestFrom, nS]
  | succ t =>
    simp only [fw, if_neg hs]
    rcases Nat.eq_zero_or_pos (fn m l) with h0 | h0
    · rw [if_pos h0]
      simp (disch := omega) only [F_X6_fewestFrom, nS, cS c]
    · rw [if_neg (by omega)]
      have lp : q_lp (s_X6_fewestFrom_22 h a b (nI (t + 1 + 1)) (nI l)) q_N (nI 1000000, nI 0) = some (nI (mn (fun k => fw m s t (gg m l k) + sty k) (fn m l))) := by
        refine q_lp_for (fun k => (nI (mn (fun k => fw m s t (gg m l k) + sty k) k), nI k)) (fn m l) (fun k hk => ?_) ?_ q_N (q_lt_N (by omega))
        · have hg := gg_lt ok hl hk
          have e := g t (gg m l k) hg (by omega)
          have b1 := mn_le (fun k => fw m s t (gg m l k) + sty k) k
          have b2 := fw_le m s t (gg m l k)
          have b3 := sty_le k
          unfold ixc at e
          rw [show (nI (mn (fun k => fw m s t (gg m l k) + sty k) (k + 1))) = nI (min (mn (fun k => fw m s t (gg m l k) + sty k) k) (fw m s t (gg m l k) + sty k)) from rfl]
          rcases Nat.lt_or_ge (fw m s t (gg m l k) + sty k) (mn (fun k => fw m s t (gg m l k) + sty k) k) with h3 | h3
          · rw [Nat.min_eq_right (by omega)]
            simp (disch := omega) only [s_X6_fewestFrom_22, b_X6_fewestFrom_22, nS, cS c, o.ob, F_X6_fewestAt, Nat.add_sub_cancel, X6_rd o, e, F_J9_min_7cf53, ← show sty k = (if k = 0 then 0 else 1) from rfl]
          · rw [Nat.min_eq_left (by omega)]
            simp (disch := omega) only [s_X6_fewestFrom_22, b_X6_fewestFrom_22, nS, cS c, o.ob, F_X6_fewestAt, Nat.add_sub_cancel, X6_rd o, e, F_J9_min_7cf53, ← show sty k = (if k = 0 then 0 else 1) from rfl]
        · simp (disch := omega) only [s_X6_fewestFrom_22, b_X6_fewestFrom_22, nS, cS c]
      simp (disch := omega) only [F_X6_fewestFrom, nS, cS c, lp]
theorem c_fewest (o : OB h a 6 ptL A B I J) (c : CB h b m) (hd : b + 12 ≤ a ∨ a + 8 ≤ b) {s n : Nat} (hs : s < 10) (hn : 1 ≤ n) (hn2 : n ≤ 20) (h0 : 0 < mbL m) : ∃ h' A', F_X6_fewestWithout h a b (nI s) (nI n) = some (if fw m s (n - 1) 0 < 1000000 then nI (fw m s (n - 1) 0) else m1, h') ∧ OB h' a 6 ptL A' B I J ∧ Fr h h' a (a + 8) ∧ GT (A' 0) (mbL m) ixc (fw m s) (fun t' _ => t' < n) := by
  have ok := c.1
  have hL := L_le ok
  have lp : ∃ h', q_lp (s_X6_fewestWithout_24 a b (nI s) (nI n)) q_N (nI 1, h) = some h' ∧ ∃ A', OB h' a 6 ptL A' B I J ∧ Fr h h' a (a + 8) ∧ GT (A' 0) (mbL m) ixc (fw m s) (fun t' _ => t' < n) := by
    refine q_lp_idx (fun t x => x.1 = nI (t + 1) ∧ ∃ A', OB x.2 a 6 ptL A' B I J ∧ Fr h x.2 a (a + 8) ∧ GT (A' 0) (mbL m) ixc (fw m s) (fun t' _ => t' < t)) n _ ?_ ?_ q_N (nI 1, h) ⟨rfl, A, o, Fr.rf, fun t' l' _ q => by omega⟩ (q_lt_N (by omega))
    · rintro t ⟨x1, hh⟩ ht ⟨hx1, A1, o1, r1, g1⟩
      dsimp only at hx1 o1 r1
      subst hx1
      have inner : ∃ h', q_lp (s_X6_fewestWithout_33 a b (nI s) (nI n) (nI (t + 1))) q_N (nI 0, hh) = some h' ∧ ∃ A', OB h' a 6 ptL A' B I J ∧ Fr h h' a (a + 8) ∧ GT (A' 0) (mbL m) ixc (fw m s) (fun t' _ => t' < t + 1) := by
        refine q_lp_idx (fun l x => x.1 = nI l ∧ ∃ A', OB x.2 a 6 ptL A' B I J ∧ Fr h x.2 a (a + 8) ∧ GT (A' 0) (mbL m) ixc (fw m s) (fun t' l' => t' < t ∨ (t' = t ∧ l' < l))) (mbL m) _ ?_ ?_ q_N (nI 0, hh) ⟨rfl, A1, o1, r1, g1.mo (fun t' l' _ q => by omega)⟩ (q_lt_N (by omega))
        · rintro l ⟨x1, h2⟩ hl ⟨hx1, A2, o2, r2, g2⟩
          dsimp only at hx1 o2 r2
          subst hx1
          have c2 : CB h2 b m := c.kept (fun q q1 q2 => r2 q (by omega))
          have hsc := (sc_ok ok hl).2
          obtain ⟨h3, e3, o3, r3⟩ := X6_s0 o2 (i := (t + 1) * 20 + l) (nI (fw m s t l)) (by omega)
          refine ⟨(nI (l + 1), h3), ?_, rfl, _, o3, r2.tr r3, ?_⟩
          · by_cases hs2 : sc m l = s
            · have e : fw m s t l = 1000000 := by cases t <;> simp [fw, hs2]
              rw [e] at e3
              simp (disch := omega) only [s_X6_fewestWithout_33, b_X6_fewestWithout_33, nS, cS c2, X6_rd o2, e3]
            · have e := c_from o2 c2 (by omega) hl hs2 (g2.mo (fun t' l' _ q => Or.inl q))
              simp (disch := omega) only [s_X6_fewestWithout_33, b_X6_fewestWithout_33, nS, cS c2, X6_rd o2, e, e3]
          · rw [upF_self]
            exact g2.up (ix := ixc) (t := t) (l := l) (fun t' l' hl' q => ixc_inj (by omega) (by omega) q) (fun t' l' hl' q => by omega)
        · rintro ⟨x1, h2⟩ ⟨hx1, A2, o2, r2, g2⟩
          dsimp only at hx1 o2 r2
          subst hx1
          have c2 : CB h2 b m := c.kept (fun q q1 q2 => r2 q (by omega))
          refine ⟨h2, ?_, A2, o2, r2, g2.mo (fun t' l' hl' q => by omega)⟩
          simp (disch := omega) only [s_X6_fewestWithout_33, b_X6_fewestWithout_33, nS, cS c2]
      obtain ⟨h2, e2, A2, o2, r2, g2⟩ := inner
      refine ⟨(nI (t + 1 + 1), h2), ?_, rfl, A2, o2, r2, g2⟩
      simp (disch := omega) only [s_X6_fewestWithout_24, b_X6_fewestWithout_24, nS, e2]
    · rintro ⟨x1, hh⟩ ⟨hx1, A1, o1, r1, g1⟩
      dsimp only at hx1 o1 r1
      subst hx1
      refine ⟨hh, ?_, A1, o1, r1, g1⟩
      simp (disch := omega) only [s_X6_fewestWithout_24, b_X6_fewestWithout_24, nS]
  obtain ⟨h1, e1, A1, o1, r1, g1⟩ := lp
  have hv := fw_le m s (n - 1) 0
  have e := g1 (n - 1) 0 h0 (by omega)
  unfold ixc at e
  rw [Nat.sub_add_cancel hn, Nat.add_zero] at e
  refine ⟨h1, A1, ?_, o1, r1, g1⟩
  by_cases hh : fw m s (n - 1) 0 < 1000000
  · rw [if_pos hh]
    simp (disch := omega) only [F_X6_fewestWithout, nS, cS c, e1, X6_rd o1, e]
  · rw [if_neg hh]
    simp (disch := omega) only [F_X6_fewestWithout, nS, cS c, e1, X6_rd o1, e]
end AVC
/-- the least of the values that have a property -/
def lst (C : Nat → Bool) (v : Nat → Nat) : Nat → Option Nat
  | 0 => none
  | k + 1 => if C k then (match lst C v k with | none => some (v k) | some x => if x ≤ v k then some x else some (v k)) else lst C v k
theorem lst_lt {C : Nat → Bool} {v : Nat → Nat} {L : Nat} : ∀ n, (∀ k, k < n → v k < L) → ∀ x, lst C v n = some x → x < L := by
  intro n
  induction n with
  | zero => intro _ x hx; cases hx
  | succ n ih =>
    intro hv x hx
    have h1 := ih (fun k hk => hv k (by omega))
    have h2 := hv n (by omega)
    unfold lst at hx
    split at hx
    · split at hx
      · cases hx; exact h2
      · next y hy =>
        split at hx
        · cases hx; exact h1 _ hy
        · cases hx; exact h2
    · exact h1 x hx
theorem lst_go {C : Nat → Bool} {v : Nat → Nat} {k : Nat} {p : Prop} [Decidable p] (hp : p ↔ C k = true) (hv : v k < 2 ^ 31) (hlt : ∀ x, lst C v k = some x → x < 2 ^ 31) {α : Type} (F : Int32 → α) : (if p then (if oI (lst C v k) = m1 then F (nI (v k)) else (if oI (lst C v k) ≤ nI (v k) then F (oI (lst C v k)) else F (nI (v k)))) else F (oI (lst C v k))) = F (oI (lst C v (k + 1))) := by
  show _ = F (oI (if C k then (match lst C v k with | none => some (v k) | some x => if x ≤ v k then some x else some (v k)) else lst C v k))
  by_cases hc : p
  · rw [if_pos hc, if_pos (hp.mp hc)]
    cases hh : lst C v k with
    | none => rw [oI_none, if_pos rfl]; rfl
    | some x =>
      have := hlt x hh
      rw [oI_some, if_neg (fun e => (nm1_eq (by omega)).mp e)]
      by_cases hx : x ≤ v k
      · rw [if_pos ((nI_leI (by omega) (by omega)).mpr hx)]
        dsimp only
        rw [if_pos hx, oI_some]
      · rw [if_neg (fun e => hx ((nI_leI (by omega) (by omega)).mp e))]
        dsimp only
        rw [if_neg hx, oI_some]
  · rw [if_neg hc, if_neg (fun e => hc (hp.mpr e))]
theorem HB.i24 {A : Nat → Nat → Int32} {I : Nat → Int32} {b : Nat → Int32} {k : Nat} (hb : HB A I b k) : I 24 = nI (mbL (bMB b)) := hb.2.2.2.1
def bf (m : MB) (s t l : Nat) : Option Nat := lst (fun k => decide (fw m s t (gg m l k) + sty k = fw m s (t + 1) l)) (gg m l) (fn m l)
theorem bf_lt {m : MB} (ok : MBok m) {s t l : Nat} (hl : l < mbL m) : ∀ x, bf m s t l = some x → x < mbL m := lst_lt _ (fun k hk => gg_lt ok hl hk)
/-- the way, line by line, of n lines -/
def pth (m : MB) (s n : Nat) : Nat → Option Nat
  | 0 => some 0
  | i + 1 => match pth m s n i with
    | none => none
    | some l => bf m s (n - 2 - i) l
theorem pth_lt {m : MB} (ok : MBok m) (h0 : 0 < mbL m) {s n : Nat} : ∀ i x, pth m s n i = some x → x < mbL m := by
  intro i
  induction i with
  | zero => intro x hx; cases hx; exact h0
  | succ i ih =>
    intro x hx
    unfold pth at hx
    split at hx
    · cases hx
    · next l hl => exact bf_lt ok (ih l hl) x hx
theorem pth_none {m : MB} {s n : Nat} : ∀ i j, pth m s n i = none → i ≤ j → pth m s n j = none := by
  intro i j h1 h2
  obtain ⟨d, rfl⟩ : ∃ d, j = i + d := ⟨j - i, by omega⟩
  clear h2
  induction d with
  | zero => exact h1
  | succ d ih =>
    show (match pth m s n (i + d) with | none => none | some l => bf m s (n - 2 - (i + d)) l) = none
    rw [ih]
section AVC
variable {h : qH} {a b : Nat} {m : MB} {A : Nat → Nat → Int32} {B : Nat → Nat → Int64} {I : Nat → Int32} {J : Nat → Int64}
theorem c_best (o : OB h a 6 ptL A B I J) (c : CB h b m) {s n i l : Nat} {kk : Int32} (hn : n ≤ 20) (hi : i + 1 < n) (hl : l < mbL m) (g : GT (A 0) (mbL m) ixc (fw m s) (fun t' _ => t' < n)) : q_lp (s_X6_lineWithout_29 h a b (nI n) kk (nI l) (nI i)) q_N (m1, nI 0) = some (oI (bf m s (n - 2 - i) l)) := by
  have ok := c.1
  have hL := L_le ok
  have hf := fn_le ok hl
  refine q_lp_for (fun k => (oI (lst (fun k => decide (fw m s (n - 2 - i) (gg m l k) + sty k = fw m s (n - 2 - i + 1) l)) (gg m l) k), nI k)) (fn m l) (fun k hk => ?_) ?_ q_N (q_lt_N (by omega))
  · have hg := gg_lt ok hl hk
    have e1 := g (n - 2 - i) (gg m l k) hg (by omega)
    have e2 := g (n - 2 - i + 1) l hl (by omega)
    have b1 := fw_le m s (n - 2 - i) (gg m l k)
    have b2 := fw_le m s (n - 2 - i + 1) l
    have b3 := sty_le k
    unfold ixc at e1 e2
    rw [show n - 2 - i + 1 = n - i - 1 by omega] at e1
    rw [show n - 2 - i + 1 + 1 = n - i by omega] at e2
    have hlt := lst_lt (C := fun k => decide (fw m s (n - 2 - i) (gg m l k) + sty k = fw m s (n - 2 - i + 1) l)) (v := gg m l) (L := mbL m) k (fun j hj => gg_lt ok hl (by omega))
    have hlt2 : ∀ x, lst (fun k => decide (fw m s (n - 2 - i) (gg m l k) + sty k = fw m s (n - 2 - i + 1) l)) (gg m l) k = some x → x < 2 ^ 31 := fun x hx => by have := hlt x hx; omega
    rw [← lst_go (C := fun k => decide (fw m s (n - 2 - i) (gg m l k) + sty k = fw m s (n - 2 - i + 1) l)) (v := gg m l) (k := k) (p := fw m s (n - 2 - i) (gg m l k) + sty k = fw m s (n - 2 - i + 1) l) (by simp) (by omega) hlt2 (fun y => some (Sum.inl (y, nI (k + 1))))]
    simp (disch := omega) only [s_X6_lineWithout_29, b_X6_lineWithout_29, nS, cS c, o.ob, F_X6_fewestAt, X6_rd o, e1, e2, ← show sty k = (if k = 0 then 0 else 1) from rfl]
  · simp (disch := omega) only [s_X6_lineWithout_29, b_X6_lineWithout_29, nS, cS c]
    rfl
theorem c_line (o : OB h a 6 ptL A B I J) (c : CB h b m) {s n k : Nat} (hn : n ≤ 20) (hk : k < n) (h0 : 0 < mbL m) (g : GT (A 0) (mbL m) ixc (fw m s) (fun t' _ => t' < n)) : F_X6_lineWithout h a b (nI n) (nI k) = some (oI (pth m s n k)) := by
  have ok := c.1
  have hL := L_le ok
  have key : ∀ d i N l, k - i = d → i ≤ k → k - i < N → pth m s n i = some l → (q_lp (s_X6_lineWithout_17 h a b (nI n) (nI k)) N (nI l, nI i)).bind (Sum.elim (fun _ => some m1) (fun o7 => some o7)) = some (oI (pth m s n k)) := by
    intro d
    induction d with
    | zero =>
      intro i N l hd hi hN hp
      obtain ⟨N', rfl⟩ : ∃ N', N = N' + 1 := ⟨N - 1, by omega⟩
      have : i = k := by omega
      subst this
      rw [q_lp_stop (r := Sum.inr (nI l))]
      · rw [hp]; rfl
      · simp (disch := omega) only [s_X6_lineWithout_17, b_X6_lineWithout_17, nS]
    | succ d ih =>
      intro i N l hd hi hN hp
      obtain ⟨N', rfl⟩ : ∃ N', N = N' + 1 := ⟨N - 1, by omega⟩
      have hl := pth_lt ok h0 i l hp
      have hb := c_best o c (kk := nI k) hn (i := i) (by omega) hl g
      have hp2 : pth m s n (i + 1) = bf m s (n - 2 - i) l := by simp only [pth, hp]
      cases hh : bf m s (n - 2 - i) l with
      | none =>
        rw [hh, oI_none] at hb
        rw [q_lp_stop (r := Sum.inl ())]
        · rw [pth_none (i + 1) k (by rw [hp2, hh]) (by omega)]; rfl
        · simp (disch := omega) only [s_X6_lineWithout_17, b_X6_lineWithout_17, nS, hb]
      | some x =>
        have hx := bf_lt ok hl x hh
        rw [hh, oI_some] at hb
        rw [q_lp_go (s' := (nI x, nI (i + 1)))]
        · exact ih (i + 1) N' x (by omega) (by omega) (by omega) (by rw [hp2, hh])
        · simp (disch := omega) only [s_X6_lineWithout_17, b_X6_lineWithout_17, nS, hb]
  have := key k 0 q_N 0 (by omega) (by omega) (q_lt_N (by omega)) rfl
  simp (disch := omega) only [F_X6_lineWithout, nS, this]
end AVC
section AVD
variable {h : qH} {a : Nat} {A : Nat → Nat → Int32} {B : Nat → Nat → Int64} {I : Nat → Int32} {J : Nat → Int64} {b : Nat → Int32} {k : Nat}
theorem d_fewCell (o : OB h a 12 mdL A B I J) (hb : HB A I b k) {s t l n : Nat} (hs : s < 10) (ht : t < 20) (hl : l < mbL (bMB b)) (g : GT (A 29) (mbL (bMB b)) ixd (fw (bMB b) s) (fun t' _ => t' < t)) : ∃ h', s_X12_findFewest_10 a (nI s) (nI n) (nI t) (nI l, h) = some (.inl (nI (l + 1), h')) ∧ OB h' a 12 mdL (upF A 29 (upd (A 29) (ixd t l) (nI (fw (bMB b) s t l)))) B I J ∧ Fr h h' a (a + 27) := by
  have ok := bMB_ok hb.1
  have hL := L_le ok
  have hf := fn_le ok hl
  have hsc := (sc_ok ok hl).2
  have hv := fw_le (bMB b) s t l
  obtain ⟨h1, e1, o1, r1⟩ := X12_s29 o (i := 20 * t + l) (nI (fw (bMB b) s t l)) (by omega)
  refine ⟨h1, ?_, o1, r1⟩
  -- the end of it
  have fin : ∀ v, v ≤ 1000000 → (¬ sc (bMB b) l = s → v = fw (bMB b) s t l) → j_X12_findFewest_100 h a (nI s) (nI n) (nI t) (nI l) (nI v) = some (.inl (nI (l + 1), h1)) := by
    intro v hv2 hve
    by_cases hs2 : sc (bMB b) l = s
    · have e : fw (bMB b) s t l = 1000000 := by cases t <;> simp [fw, hs2]
      rw [e] at e1
      simp (disch := omega) only [j_X12_findFewest_100, nS, X12_rd o, d_pack o hb, e1]
    · have e := hve hs2
      subst e
      rcases Nat.lt_or_ge (fw (bMB b) s t l) 1000000 with h3 | h3
      · simp (disch := omega) only [j_X12_findFewest_100, nS, X12_rd o, d_pack o hb, e1, F_X12_lesser]
      · have e2 : fw (bMB b) s t l = 1000000 := by omega
        rw [e2] at e1 ⊢
        simp (disch := omega) only [j_X12_findFewest_100, nS, X12_rd o, d_pack o hb, e1, F_X12_lesser]
  cases t with
  | zero =>
    have lp : q_lp (s_X12_findFewest_45 h a (nI s) (nI n) (nI 0) (nI l)) q_N (nI 0, nI 0) = some (nI 0) := by
      refine q_lp_stop (n := 999999) ?_
      rcases Nat.eq_zero_or_pos (fn (bMB b) l) with h0 | h0
      · simp (disch := omega) only [s_X12_findFewest_45, b_X12_findFewest_45, nS, X12_rd o, d_pack o hb]
      · simp (disch := omega) only [s_X12_findFewest_45, b_X12_findFewest_45, nS, X12_rd o, d_pack o hb]
    have := fin 0 (by omega) (fun q => by simp [fw, q])
    simp (disch := omega) only [s_X12_findFewest_10, b_X12_findFewest_10, nS, d_pack o hb]
    simp (disch := omega) only [j_X12_findFewest_33, j_X12_findFewest_40, nS, lp, this]
  | succ t =>
    rcases Nat.eq_zero_or_pos (fn (bMB b) l) with h0 | h0
    · have lp : q_lp (s_X12_findFewest_45 h a (nI s) (nI n) (nI (t + 1)) (nI l)) q_N (nI 0, nI 0) = some (nI 0) := by
        refine q_lp_stop (n := 999999) ?_
        simp (disch := omega) only [s_X12_findFewest_45, b_X12_findFewest_45, nS, X12_rd o, d_pack o hb]
      have := fin 0 (by omega) (fun q => by simp [fw, q, h0])
      simp (disch := omega) only [s_X12_findFewest_10, b_X12_findFewest_10, nS, X12_rd o, d_pack o hb, hb.i24]
      simp (disch := omega) only [j_X12_findFewest_33, j_X12_findFewest_40, nS, lp, this]
    · have lp : q_lp (s_X12_findFewest_45 h a (nI s) (nI n) (nI (t + 1)) (nI l)) q_N (nI 1000000, nI 0) = some (nI (mn (fun k => fw (bMB b) s t (gg (bMB b) l k) + sty k) (fn (bMB b) l))) := by
        refine q_lp_for (fun k => (nI (mn (fun k => fw (bMB b) s t (gg (bMB b) l k) + sty k) k), nI k)) (fn (bMB b) l) (fun k hk => ?_) ?_ q_N (q_lt_N (by omega))
        · have hg := gg_lt ok hl hk
          have e := g t (gg (bMB b) l k) hg (by omega)
          have b1 := mn_le (fun k => fw (bMB b) s t (gg (bMB b) l k) + sty k) k
          have b2 := fw_le (bMB b) s t (gg (bMB b) l k)
          have b3 := sty_le k
          have es : F_X12_strays h (nI k) = some (nI (sty k)) := by
            unfold sty
            rcases Nat.eq_zero_or_pos k with rfl | hk0
            · rfl
            · rw [if_neg (by omega)]
              simp (disch := omega) only [F_X12_strays, nS]
          unfold ixd at e
          rw [show (nI (mn (fun k => fw (bMB b) s t (gg (bMB b) l k) + sty k) (k + 1))) = nI (min (mn (fun k => fw (bMB b) s t (gg (bMB b) l k) + sty k) k) (fw (bMB b) s t (gg (bMB b) l k) + sty k)) from rfl, Nat.add_comm (fw (bMB b) s t (gg (bMB b) l k)) (sty k)]
          rcases Nat.lt_or_ge (mn (fun k => fw (bMB b) s t (gg (bMB b) l k) + sty k) k) (sty k + fw (bMB b) s t (gg (bMB b) l k)) with h3 | h3
          · rw [Nat.min_eq_left (by omega)]
            simp (disch := omega) only [s_X12_findFewest_45, b_X12_findFewest_45, nS, X12_rd o, d_pack o hb, es, Nat.add_sub_cancel, e, F_X12_lesser]
          · rw [Nat.min_eq_right (by omega)]
            simp (disch := omega) only [s_X12_findFewest_45, b_X12_findFewest_45, nS, X12_rd o, d_pack o hb, es, Nat.add_sub_cancel, e, F_X12_lesser]
        · simp (disch := omega) only [s_X12_findFewest_45, b_X12_findFewest_45, nS, X12_rd o, d_pack o hb]
      have := fin _ (mn_le (fun k => fw (bMB b) s t (gg (bMB b) l k) + sty k) (fn (bMB b) l)) (fun q => by simp only [fw, if_neg q]; rw [if_neg (by omega)])
      simp (disch := omega) only [s_X12_findFewest_10, b_X12_findFewest_10, nS, X12_rd o, d_pack o hb, hb.i24]
      simp (disch := omega) only [j_X12_findFewest_40, nS, lp, this]
end AVD
