/-! ===== shortest ways in a graph: the reference's rounds ===== -/
def Wg (dg : Nat → Nat) (tg : Nat → Nat → Option Nat) (z : Nat) : Nat → Nat → Prop
  | 0, j => j = z
  | n + 1, j => ∃ i f, Wg dg tg z n i ∧ f < dg i ∧ tg i f = some j
def rx (tg : Nat → Nat → Option Nat) (V : Nat → Nat) (i f : Nat) : Bool := match tg i f with
  | some j => decide (V i + 1 < V j)
  | none => false
def rel (tg : Nat → Nat → Option Nat) (V : Nat → Nat) (i f : Nat) : Nat → Nat := if rx tg V i f then fun x => if tg i f = some x then V i + 1 else V x else V
def fin (V : Nat → Nat) (j : Nat) : Prop := V j < 1000000
/-- what holds all along -/
def RI (dg : Nat → Nat) (tg : Nat → Nat → Option Nat) (z N : Nat) (V : Nat → Nat) : Prop := V z = 1 ∧ (∀ j, 1 ≤ V j ∧ V j ≤ 1000000) ∧ (∀ j, V j < 1000000 → ∃ n, V j = n + 1 ∧ Wg dg tg z n j) ∧ ∀ j, V j < 1000000 → V j ≤ cnp (fin V) N
def ms (N : Nat) (V : Nat → Nat) : Nat := sm (fun j => min (V j) (N + 1)) N
theorem sm_mo {f g : Nat → Nat} : ∀ n, (∀ i, i < n → f i ≤ g i) → sm f n ≤ sm g n := by
  intro n
  induction n with
  | zero => intro _; exact Nat.le_refl _
  | succ n ih =>
    intro h
    have h1 := ih (fun i hi => h i (by omega))
    have h2 := h n (by omega)
    show sm f n + f n ≤ sm g n + g n
    omega
theorem sm_st {f g : Nat → Nat} : ∀ n, (∀ i, i < n → f i ≤ g i) → (∃ i, i < n ∧ f i < g i) → sm f n < sm g n := by
  intro n
  induction n with
  | zero => rintro _ ⟨i, hi, -⟩; omega
  | succ n ih =>
    rintro h ⟨i, hi, hlt⟩
    have h1 := sm_mo n (fun i hi => h i (by omega))
    have h2 := h n (by omega)
    show sm f n + f n < sm g n + g n
    by_cases hin : i = n
    · subst hin; omega
    · have := ih (fun i hi => h i (by omega)) ⟨i, by omega, hlt⟩
      omega
theorem ms_le (N : Nat) (V : Nat → Nat) : ms N V ≤ (N + 1) * N := sm_le N (fun i _ => Nat.min_le_right _ _)
section RLX
variable {dg : Nat → Nat} {tg : Nat → Nat → Option Nat} {z N : Nat}
theorem RI.step {V : Nat → Nat} (ri : RI dg tg z N V) {i f : Nat} (hi : i < N) (hf : f < dg i) (hfi : V i < 1000000) (htg : ∀ j, tg i f = some j → j < N) : RI dg tg z N (rel tg V i f) ∧ rel tg V i f i = V i ∧ (rx tg V i f = true → ms N (rel tg V i f) < ms N V) := by
  cases hr : rx tg V i f with
  | false =>
    have e : rel tg V i f = V := by unfold rel; rw [hr]; rfl
    rw [e]
    exact ⟨ri, rfl, fun q => by cases q⟩
  | true =>
    have e : rel tg V i f = fun x => if tg i f = some x then V i + 1 else V x := by unfold rel; rw [hr]; rfl
    obtain ⟨r1, r2, r3, r4⟩ := ri
    unfold rx at hr
    split at hr
    · next j hj =>
      have hlt : V i + 1 < V j := of_decide_eq_true hr
      have hjN := htg j hj
      have e2 : rel tg V i f = fun x => if x = j then V i + 1 else V x := by
        rw [e]
        funext x
        rw [hj]
        by_cases hx : x = j
        · subst hx; rw [if_pos rfl, if_pos rfl]
        · rw [if_neg (fun q => hx (by cases q; rfl)), if_neg hx]
      rw [e2]
      have hle : ∀ x, (if x = j then V i + 1 else V x) ≤ V x := fun x => by
        by_cases hx : x = j
        · subst hx; rw [if_pos rfl]; omega
        · rw [if_neg hx]; exact Nat.le_refl _
      have b2 := r2 j
      have c1 : cnp (fin V) N ≤ cnp (fin (fun x => if x = j then V i + 1 else V x)) N := cnp_mo N (fun l _ hl => by
        have := hle l
        unfold fin at hl ⊢
        dsimp only
        omega)
      have hnew : V i + 1 ≤ cnp (fin (fun x => if x = j then V i + 1 else V x)) N := by
        have h4 := r4 i hfi
        rcases Nat.lt_or_ge (V j) 1000000 with h5 | h5
        · have := r4 j h5
          omega
        · have : cnp (fin V) N < cnp (fin (fun y => if y = j then V i + 1 else V y)) N := by
            refine cnp_st N (fun l _ hl => ?_) ⟨j, hjN, ?_, ?_⟩
            · have := hle l
              unfold fin at hl ⊢
              dsimp only
              omega
            · unfold fin
              dsimp only
              rw [if_pos rfl]
              omega
            · unfold fin
              omega
          omega
      have hnewN := cnp_le (fin (fun x => if x = j then V i + 1 else V x)) N
      refine ⟨⟨?_, ?_, ?_, ?_⟩, ?_, fun _ => ?_⟩
      · by_cases hz : z = j
        · subst hz; omega
        · dsimp only; rw [if_neg hz]; exact r1
      · intro x
        dsimp only
        by_cases hx : x = j
        · subst hx; rw [if_pos rfl]; omega
        · rw [if_neg hx]; exact r2 x
      · intro x hx
        dsimp only at hx ⊢
        by_cases hxj : x = j
        · subst hxj
          rw [if_pos rfl]
          obtain ⟨n, hn, hw⟩ := r3 i hfi
          exact ⟨n + 1, by omega, i, f, hw, hf, hj⟩
        · rw [if_neg hxj] at hx ⊢
          exact r3 x hx
      · intro x hx
        dsimp only at hx ⊢
        by_cases hxj : x = j
        · subst hxj
          rw [if_pos rfl]
          exact hnew
        · rw [if_neg hxj] at hx ⊢
          have := r4 x hx
          omega
      · dsimp only
        rw [if_neg (fun q => by subst q; omega)]
      · refine sm_st N (fun x _ => ?_) ⟨j, hjN, ?_⟩
        · have := hle x
          dsimp only
          omega
        · dsimp only
          rw [if_pos rfl]
          omega
    · cases hr
/-- nothing is to be mended any more -/
def Ck (dg : Nat → Nat) (tg : Nat → Nat → Option Nat) (V : Nat → Nat) (i f : Nat) : Prop := ∀ i' f' j, (i' < i ∨ (i' = i ∧ f' < f)) → V i' < 1000000 → f' < dg i' → tg i' f' = some j → V j ≤ V i' + 1
/-- what holds within a round that began with V0 -/
def Pi (dg : Nat → Nat) (tg : Nat → Nat → Option Nat) (z N : Nat) (V0 : Nat → Nat) (mo : Nat) (V : Nat → Nat) (i f : Nat) : Prop := RI dg tg z N V ∧ ((mo = 0 ∧ V = V0 ∧ Ck dg tg V i f) ∨ (mo = 1 ∧ ms N V < ms N V0))
theorem Pi.step {V0 V : Nat → Nat} {mo i f : Nat} (p : Pi dg tg z N V0 mo V i f) (hi : i < N) (hf : f < dg i) (hfi : V i < 1000000) (htg : ∀ j, tg i f = some j → j < N) : Pi dg tg z N V0 (if rx tg V i f then 1 else mo) (rel tg V i f) i (f + 1) ∧ rel tg V i f i = V i := by
  obtain ⟨ri, p2⟩ := p
  obtain ⟨h1, h2, h3⟩ := ri.step hi hf hfi htg
  refine ⟨⟨h1, ?_⟩, h2⟩
  cases hr : rx tg V i f with
  | true =>
    have := h3 hr
    refine Or.inr ⟨rfl, ?_⟩
    rcases p2 with ⟨-, e, -⟩ | ⟨-, q⟩
    · rw [← e]; exact this
    · omega
  | false =>
    have e : rel tg V i f = V := by unfold rel; rw [hr]; rfl
    rw [e]
    rcases p2 with ⟨q1, q2, q3⟩ | q
    · refine Or.inl ⟨q1, q2, fun i' f' j hlt hv hd ht => ?_⟩
      by_cases hh : i' = i ∧ f' = f
      · obtain ⟨rfl, rfl⟩ := hh
        unfold rx at hr
        rw [ht] at hr
        dsimp only at hr
        have := of_decide_eq_false hr
        omega
      · exact q3 i' f' j (by omega) hv hd ht
    · exact Or.inr q
theorem Pi.next {V0 V : Nat → Nat} {mo i f : Nat} (p : Pi dg tg z N V0 mo V i f) (h : 1000000 ≤ V i ∨ dg i ≤ f) : Pi dg tg z N V0 mo V (i + 1) 0 := by
  obtain ⟨ri, p2⟩ := p
  refine ⟨ri, ?_⟩
  rcases p2 with ⟨q1, q2, q3⟩ | q
  · refine Or.inl ⟨q1, q2, fun i' f' j hlt hv hd ht => q3 i' f' j ?_ hv hd ht⟩
    by_cases hii : i' = i
    · subst hii
      refine Or.inr ⟨rfl, ?_⟩
      rcases h with h | h <;> omega
    · exact Or.inl (by omega)
  · exact Or.inr q
/-- the table at the end: each node's distance -/
theorem RI.dist {V : Nat → Nat} (ri : RI dg tg z N V) (ck : Ck dg tg V N 0) (hdg : ∀ i, N ≤ i → dg i = 0) : ∀ n j, Wg dg tg z n j → V j ≤ n + 1 := by
  intro n
  induction n with
  | zero => intro j hj; have hj : j = z := hj; rw [hj, ri.1]; omega
  | succ n ih =>
    rintro j ⟨i, f, hw, hf, ht⟩
    have h1 := ih i hw
    have h2 := (ri.2.1 j).2
    rcases Nat.lt_or_ge (V i) 1000000 with h3 | h3
    · have hiN : i < N := by
        rcases Nat.lt_or_ge i N with h | h
        · exact h
        · have := hdg i h; omega
      have := ck i f j (Or.inl hiN) h3 hf ht
      omega
    · omega
/-! the loops -/
variable {a : Nat} {B : Nat → Nat → Int64} {I : Nat → Int32} {J : Nat → Int64}
/-- the row holds V -/
def RW (a : Nat) (A0 : Nat → Nat → Int32) (B : Nat → Nat → Int64) (I : Nat → Int32) (J : Nat → Int64) (h0 h : qH) (V : Nat → Nat) : Prop := ∃ A, OB h a 12 mdL A B I J ∧ Fr h0 h a (a + 27) ∧ On [30] A0 A ∧ ∀ j, j < 200 → A 30 j = nI (V j)
theorem relax {A0 : Nat → Nat → Int32} {h0 : qH} {s78 : Int32 × qH → Option ((Int32 × qH) ⊕ qH)} {s89 : Int32 × Int32 × qH → Option ((Int32 × Int32 × qH) ⊕ (Int32 × qH))} {s103 : Nat → Int32 × Int32 × qH → Option ((Int32 × Int32 × qH) ⊕ (Int32 × qH))} (hN : N ≤ 200) (hdg : ∀ i, i < N → dg i ≤ 20)
    (htg : ∀ i f j, i < N → f < dg i → tg i f = some j → j < N)
    (edge : ∀ h V i f mo, mo < 2 → (∀ j, V j ≤ 1000000) → i < N → f < dg i → V i < 1000000 → RW a A0 B I J h0 h V → ∃ h', s103 i (nI mo, nI f, h) = some (.inl (nI (if rx tg V i f then 1 else mo), nI (f + 1), h')) ∧ RW a A0 B I J h0 h' (rel tg V i f))
    (stp : ∀ h V i f mo, (∀ j, V j ≤ 1000000) → i < N → f ≤ 20 → 1000000 ≤ V i ∨ dg i ≤ f → RW a A0 B I J h0 h V → s103 i (nI mo, nI f, h) = some (.inr (nI mo, h)))
    (e89 : ∀ h h' i mo mo', i < N → q_lp (s103 i) q_N (mo, nI 0, h) = some (mo', h') → s89 (mo, nI i, h) = some (.inl (mo', nI (i + 1), h'))) (n89 : ∀ h mo, s89 (mo, nI N, h) = some (.inr (mo, h)))
    (e78 : ∀ h h' mo, q_lp s89 q_N (nI 0, nI 0, h) = some (mo, h') → s78 (nI 1, h) = some (.inl (mo, h'))) (n78 : ∀ h, s78 (nI 0, h) = some (.inr h))
    {h : qH} {V : Nat → Nat} (ri : RI dg tg z N V) (rw0 : RW a A0 B I J h0 h V) : ∃ h' V', q_lp s78 q_N (nI 1, h) = some h' ∧ RI dg tg z N V' ∧ Ck dg tg V' N 0 ∧ RW a A0 B I J h0 h' V' := by
  -- one node
  have inner : ∀ V0 V i mo h, mo < 2 → i < N → Pi dg tg z N V0 mo V i 0 → RW a A0 B I J h0 h V → ∃ r, q_lp (s103 i) q_N (nI mo, nI 0, h) = some r ∧ ∃ mo' V', mo' < 2 ∧ r.1 = nI mo' ∧ Pi dg tg z N V0 mo' V' (i + 1) 0 ∧ RW a A0 B I J h0 r.2 V' := by
    intro V0 V i mo h hmo hi hp hr
    have hd := hdg i hi
    refine q_lp_inv (fun s => ∃ f mo V, s = (nI mo, nI f, s.2.2) ∧ mo < 2 ∧ f ≤ dg i ∧ Pi dg tg z N V0 mo V i f ∧ RW a A0 B I J h0 s.2.2 V) (fun s => 20 - s.2.1.toNatClampNeg) _ ?_ q_N (nI mo, nI 0, h) ⟨0, mo, V, rfl, hmo, Nat.zero_le _, hp, hr⟩ (q_lt_N (by dsimp only; omega))
    rintro ⟨y1, y2, hh⟩ ⟨f, mo, V, he, hmo, hf, hp, hr⟩
    cases he
    dsimp only at hr
    have hV := fun j => (hp.1.2.1 j).2
    by_cases hs : 1000000 ≤ V i ∨ dg i ≤ f
    · exact Or.inr ⟨(nI mo, hh), stp hh V i f mo hV hi (by omega) hs hr, mo, V, hmo, rfl, hp.next hs, hr⟩
    · obtain ⟨h', e', hr'⟩ := edge hh V i f mo hmo hV hi (by omega) (by omega) hr
      obtain ⟨hp', -⟩ := hp.step hi (show f < dg i by omega) (by omega) (fun j hj => htg i f j hi (by omega) hj)
      refine Or.inl ⟨_, e', ⟨f + 1, _, _, rfl, by split <;> omega, by omega, hp', hr'⟩, ?_⟩
      show 20 - (nI (f + 1)).toNatClampNeg < 20 - (nI f).toNatClampNeg
      rw [nI_cl (by omega), nI_cl (by omega)]
      omega
  -- one round
  have round : ∀ V0 h, RI dg tg z N V0 → RW a A0 B I J h0 h V0 → ∃ r, q_lp s89 q_N (nI 0, nI 0, h) = some r ∧ ∃ mo' V', mo' < 2 ∧ r.1 = nI mo' ∧ Pi dg tg z N V0 mo' V' N 0 ∧ RW a A0 B I J h0 r.2 V' := by
    intro V0 h hri hr
    refine q_lp_idx (fun i s => s.2.1 = nI i ∧ ∃ mo V, s.1 = nI mo ∧ mo < 2 ∧ Pi dg tg z N V0 mo V i 0 ∧ RW a A0 B I J h0 s.2.2 V) N _ ?_ ?_ q_N (nI 0, nI 0, h) ⟨rfl, 0, V0, rfl, by omega, ⟨hri, Or.inl ⟨rfl, rfl, fun i' f' j hlt => by omega⟩⟩, hr⟩ (q_lt_N (by omega))
    · rintro i ⟨y1, y2, hh⟩ hi ⟨hy2, mo, V, hy1, hmo, hp, hr⟩
      dsimp only at hy1 hy2 hr
      subst hy1 hy2
      obtain ⟨⟨m', h'⟩, e', mo', V', hmo', hm', hp', hr'⟩ := inner V0 V i mo hh hmo hi hp hr
      dsimp only at hm' hr'
      subst hm'
      exact ⟨(nI mo', nI (i + 1), h'), e89 hh h' i _ _ hi e', rfl, mo', V', rfl, hmo', hp', hr'⟩
    · rintro ⟨y1, y2, hh⟩ ⟨hy2, mo, V, hy1, hmo, hp, hr⟩
      dsimp only at hy1 hy2 hr
      subst hy1 hy2
      exact ⟨(nI mo, hh), n89 hh _, mo, V, hmo, rfl, hp, hr⟩
  -- all rounds
  have hms := ms_le N V
  have hNN : (N + 1) * N ≤ 201 * 200 := Nat.mul_le_mul (by omega) hN
  have all : ∀ d V h mo n, ms N V ≤ d → 2 * d + 1 < n → mo < 2 → RI dg tg z N V → (mo = 0 → Ck dg tg V N 0) → RW a A0 B I J h0 h V → ∃ h' V', q_lp s78 n (nI mo, h) = some h' ∧ RI dg tg z N V' ∧ Ck dg tg V' N 0 ∧ RW a A0 B I J h0 h' V' := by
    intro d
    induction d with
    | zero =>
      intro V h mo n hd hn hmo hri hck hr
      obtain ⟨n, rfl⟩ : ∃ n', n = n' + 1 := ⟨n - 1, by omega⟩
      rcases (show mo = 0 ∨ mo = 1 by omega) with rfl | rfl
      · exact ⟨h, V, q_lp_stop (n78 h), hri, hck rfl, hr⟩
      · obtain ⟨⟨m', h'⟩, e', mo', V', hmo', hm', hp', hr'⟩ := round V h hri hr
        dsimp only at hm' hr'
        subst hm'
        rw [q_lp_go (e78 h h' _ e')]
        rcases hp'.2 with ⟨q1, q2, q3⟩ | ⟨q1, q2⟩
        · subst q1
          obtain ⟨n, rfl⟩ : ∃ n', n = n' + 1 := ⟨n - 1, by omega⟩
          exact ⟨h', V', q_lp_stop (n78 h'), hp'.1, q3, hr'⟩
        · omega
    | succ d ih =>
      intro V h mo n hd hn hmo hri hck hr
      obtain ⟨n, rfl⟩ : ∃ n', n = n' + 1 := ⟨n - 1, by omega⟩
      rcases (show mo = 0 ∨ mo = 1 by omega) with rfl | rfl
      · exact ⟨h, V, q_lp_stop (n78 h), hri, hck rfl, hr⟩
      · obtain ⟨⟨m', h'⟩, e', mo', V', hmo', hm', hp', hr'⟩ := round V h hri hr
        dsimp only at hm' hr'
        subst hm'
        rw [q_lp_go (e78 h h' _ e')]
        rcases hp'.2 with ⟨q1, q2, q3⟩ | ⟨q1, q2⟩
        · subst q1
          obtain ⟨n, rfl⟩ : ∃ n', n = n' + 1 := ⟨n - 1, by omega⟩
          exact ⟨h', V', q_lp_stop (n78 h'), hp'.1, q3, hr'⟩
        · exact ih V' h' mo' n (by omega) (by omega) hmo' hp'.1 (fun q => by omega) hr'
  exact all (ms N V) V h 1 q_N (Nat.le_refl _) (q_lt_N (by omega)) (by omega) ri (fun q => by omega) rw0
end RLX
/-! a way as a row of nodes -/
theorem Wg_fun {dg : Nat → Nat} {tg : Nat → Nat → Option Nat} {z : Nat} : ∀ n j, Wg dg tg z n j → ∃ w : Nat → Nat, w 0 = z ∧ w n = j ∧ ∀ i, i < n → ∃ f, f < dg (w i) ∧ tg (w i) f = some (w (i + 1)) := by
  intro n
  induction n with
  | zero => intro j hj; exact ⟨fun _ => z, rfl, Eq.symm hj, fun i hi => by omega⟩
  | succ n ih =>
    rintro j ⟨i, f, hw, hf, ht⟩
    obtain ⟨w, w0, wn, ws⟩ := ih i hw
    refine ⟨fun x => if x = n + 1 then j else w x, by dsimp only; rw [if_neg (by omega)]; exact w0, if_pos rfl, fun x hx => ?_⟩
    dsimp only
    rw [if_neg (show ¬ x = n + 1 by omega)]
    by_cases hxn : x = n
    · subst hxn
      rw [if_pos rfl, wn]
      exact ⟨f, hf, ht⟩
    · rw [if_neg (by omega)]
      exact ws x (by omega)
theorem fun_Wg {dg : Nat → Nat} {tg : Nat → Nat → Option Nat} {z : Nat} {w : Nat → Nat} (w0 : w 0 = z) : ∀ n, (∀ i, i < n → ∃ f, f < dg (w i) ∧ tg (w i) f = some (w (i + 1))) → Wg dg tg z n (w n) := by
  intro n
  induction n with
  | zero => intro _; exact w0
  | succ n ih =>
    intro ws
    obtain ⟨f, hf, ht⟩ := ws n (by omega)
    exact ⟨w n, f, ih (fun i hi => ws i (by omega)), hf, ht⟩
/-- n + 1 different numbers below L -/
theorem inj_len {w : Nat → Nat} {n L : Nat} (hL : ∀ i, i ≤ n → w i < L) (hi : ∀ i j, i < j → j ≤ n → w i ≠ w j) : n + 1 ≤ L := by
  have h1 : ((List.range (n + 1)).map w).Nodup := by
    unfold List.Nodup
    rw [List.pairwise_map]
    exact (List.pairwise_lt_range).imp_of_mem (fun ha hb hlt => hi _ _ hlt (by have := List.mem_range.mp hb; omega))
  have h2 := nodup_len _ L h1 (fun x hx => by
    obtain ⟨i, hi, rfl⟩ := List.mem_map.mp hx
    exact hL i (by have := List.mem_range.mp hi; omega))
  rw [List.length_map, List.length_range] at h2
  exact h2
