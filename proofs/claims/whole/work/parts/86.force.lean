/-! ===== chains that grow come to rest ===== -/
noncomputable def cnp (p : Nat → Prop) : Nat → Nat
  | 0 => 0
  | n + 1 => cnp p n + @ite Nat (p n) (Classical.propDecidable _) 1 0
theorem cnp_s1 {p : Nat → Prop} {n : Nat} (h : p n) : cnp p (n + 1) = cnp p n + 1 := by
  show cnp p n + @ite Nat (p n) (Classical.propDecidable _) 1 0 = _
  rw [if_pos h]
theorem cnp_s0 {p : Nat → Prop} {n : Nat} (h : ¬ p n) : cnp p (n + 1) = cnp p n := by
  show cnp p n + @ite Nat (p n) (Classical.propDecidable _) 1 0 = _
  rw [if_neg h]
  exact Nat.add_zero _
theorem cnp_le (p : Nat → Prop) : ∀ n, cnp p n ≤ n := by
  intro n
  induction n with
  | zero => exact Nat.le_refl _
  | succ n ih =>
    by_cases h : p n
    · rw [cnp_s1 h]; omega
    · rw [cnp_s0 h]; omega
theorem cnp_mo {p q : Nat → Prop} : ∀ n, (∀ l, l < n → p l → q l) → cnp p n ≤ cnp q n := by
  intro n
  induction n with
  | zero => intro _; exact Nat.le_refl _
  | succ n ih =>
    intro h
    have h1 := ih (fun l hl => h l (by omega))
    by_cases hp : p n
    · rw [cnp_s1 hp, cnp_s1 (h n (by omega) hp)]; omega
    · rw [cnp_s0 hp]
      by_cases hq : q n
      · rw [cnp_s1 hq]; omega
      · rw [cnp_s0 hq]; exact h1
theorem cnp_st {p q : Nat → Prop} : ∀ n, (∀ l, l < n → p l → q l) → (∃ l, l < n ∧ q l ∧ ¬ p l) → cnp p n < cnp q n := by
  intro n
  induction n with
  | zero => rintro _ ⟨l, hl, -⟩; omega
  | succ n ih =>
    rintro h ⟨l, hl, hq, hp⟩
    have h1 := cnp_mo n (fun l hl => h l (by omega))
    by_cases hln : l = n
    · subst hln
      rw [cnp_s0 hp, cnp_s1 hq]; omega
    · have h2 := ih (fun l hl => h l (by omega)) ⟨l, by omega, hq, hp⟩
      by_cases hp2 : p n
      · rw [cnp_s1 hp2, cnp_s1 (h n (by omega) hp2)]; omega
      · rw [cnp_s0 hp2]
        by_cases hq2 : q n
        · rw [cnp_s1 hq2]; omega
        · rw [cnp_s0 hq2]; exact h2
theorem cnp_all {p : Nat → Prop} {n : Nat} (h : n ≤ cnp p n) : ∀ l, l < n → p l := by
  intro l hl
  apply Classical.byContradiction
  intro hp
  have h1 := cnp_st (p := p) (q := fun _ => True) n (fun _ _ _ => trivial) ⟨l, hl, trivial, hp⟩
  have h2 := cnp_le (fun _ => True) n
  omega
theorem chain_stab (p : Nat → Nat → Prop) (L : Nat) (mono : ∀ d l, l < L → p d l → p (d + 1) l) (stp : ∀ d, (∀ l, l < L → p (d + 1) l → p d l) → ∀ l, l < L → p (d + 2) l → p (d + 1) l) : ∀ d, L ≤ d → ∀ l, l < L → p (d + 1) l → p d l := by
  have key : ∀ d, (∀ l, l < L → p (d + 1) l → p d l) ∨ d ≤ cnp (p d) L := by
    intro d
    induction d with
    | zero => exact Or.inr (Nat.zero_le _)
    | succ d ih =>
      rcases ih with h | h
      · exact Or.inl (stp d h)
      · by_cases hs : ∀ l, l < L → p (d + 1) l → p d l
        · exact Or.inl (stp d hs)
        · refine Or.inr ?_
          have : ∃ l, l < L ∧ p (d + 1) l ∧ ¬ p d l := by
            apply Classical.byContradiction
            intro hn
            exact hs (fun l hl h1 => Classical.byContradiction (fun h2 => hn ⟨l, hl, h1, h2⟩))
          have := cnp_st (p := p d) (q := p (d + 1)) L (fun l hl => mono d l hl) this
          omega
  intro d hd
  rcases key d with h | h
  · exact h
  · intro l hl _
    exact cnp_all (by omega) l hl
/-! ===== force ===== -/
theorem sel_mo {y : Int32} {o o' : Option Nat} {v v' : Nat} (ho : (o = none ∧ o' = none) ∨ ∃ x x', o = some x ∧ o' = some x' ∧ x ≤ x') (hv : v ≤ v') : ∃ x x', sel y o v = some x ∧ sel y o' v' = some x' ∧ x ≤ x' := by
  rcases ho with ⟨rfl, rfl⟩ | ⟨x, x', rfl, rfl, hx⟩
  · exact ⟨v, v', rfl, rfl, hv⟩
  · unfold sel
    dsimp only
    by_cases hy : y = nI 0
    · rw [if_pos hy, if_pos hy]
      refine ⟨max x v, max x' v', ?_, ?_, by omega⟩
      · split
        · rw [Nat.max_eq_left (by omega)]
        · rw [Nat.max_eq_right (by omega)]
      · split
        · rw [Nat.max_eq_left (by omega)]
        · rw [Nat.max_eq_right (by omega)]
    · rw [if_neg hy, if_neg hy]
      refine ⟨min x v, min x' v', ?_, ?_, by omega⟩
      · split
        · rw [Nat.min_eq_left (by omega)]
        · rw [Nat.min_eq_right (by omega)]
      · split
        · rw [Nat.min_eq_left (by omega)]
        · rw [Nat.min_eq_right (by omega)]
/-- the best of all of a row -/
def ba (y : Int32) (v : Nat → Nat) (n : Nat) : Option Nat := bs y (fun _ => true) v n
theorem ba_s (y : Int32) (v : Nat → Nat) (n : Nat) : ba y v (n + 1) = sel y (ba y v n) (v n) := rfl
theorem ba_mo {y : Int32} {v v' : Nat → Nat} : ∀ n, (∀ k, k < n → v k ≤ v' k) → (ba y v n = none ∧ ba y v' n = none) ∨ ∃ x x', ba y v n = some x ∧ ba y v' n = some x' ∧ x ≤ x' := by
  intro n
  induction n with
  | zero => intro _; exact Or.inl ⟨rfl, rfl⟩
  | succ n ih =>
    intro h
    exact Or.inr (by rw [ba_s, ba_s]; exact sel_mo (ih (fun k hk => h k (by omega))) (h n (by omega)))
theorem ba_th {y : Int32} {v : Nat → Nat} {d : Nat} : ∀ n, (∃ x, ba y v n = some x ∧ x ≤ d) ↔ (if y = nI 0 then 0 < n ∧ ∀ k, k < n → v k ≤ d else ∃ k, k < n ∧ v k ≤ d) := by
  intro n
  induction n with
  | zero =>
    constructor
    · rintro ⟨x, hx, -⟩; cases hx
    · intro h
      split at h
      · omega
      · obtain ⟨k, hk, -⟩ := h; omega
  | succ n ih =>
    rw [ba_s]
    by_cases hy : y = nI 0
    · rw [if_pos hy] at ih ⊢
      cases hb : ba y v n with
      | none =>
        have hn : n = 0 := by
          cases n with
          | zero => rfl
          | succ n =>
            exfalso
            rw [ba_s] at hb
            unfold sel at hb
            split at hb
            · cases hb
            · split at hb <;> split at hb <;> cases hb
        subst hn
        constructor
        · rintro ⟨x, hx, hd⟩
          cases hx
          exact ⟨by omega, fun k hk => by rw [show k = 0 by omega]; exact hd⟩
        · rintro ⟨-, h⟩
          exact ⟨v 0, rfl, h 0 (by omega)⟩
      | some z =>
        rw [hb] at ih
        have ih2 : z ≤ d ↔ 0 < n ∧ ∀ k, k < n → v k ≤ d := ⟨fun q => ih.mp ⟨z, rfl, q⟩, fun q => by obtain ⟨x, hx, hd⟩ := ih.mpr q; cases hx; exact hd⟩
        have hn : 0 < n := by
          cases n with
          | zero => cases hb
          | succ n => omega
        have e : ∃ x, sel y (some z) (v n) = some x ∧ x = max z (v n) := by
          unfold sel
          dsimp only
          rw [if_pos hy]
          split
          · exact ⟨z, rfl, by omega⟩
          · exact ⟨v n, rfl, by omega⟩
        obtain ⟨x, hx, hx2⟩ := e
        rw [hx]
        constructor
        · rintro ⟨x', he, hd⟩
          cases he
          have h3 := ih2.mp (by omega)
          refine ⟨by omega, fun k hk => ?_⟩
          by_cases hkn : k = n
          · subst hkn; omega
          · exact h3.2 k (by omega)
        · rintro ⟨-, h⟩
          have h3 := ih2.mpr ⟨hn, fun k hk => h k (by omega)⟩
          have h4 := h n (by omega)
          exact ⟨x, rfl, by omega⟩
    · rw [if_neg hy] at ih ⊢
      cases hb : ba y v n with
      | none =>
        rw [hb] at ih
        constructor
        · rintro ⟨x, hx, hd⟩
          cases hx
          exact ⟨n, by omega, hd⟩
        · rintro ⟨k, hk, hd⟩
          by_cases hkn : k = n
          · subst hkn; exact ⟨v k, rfl, hd⟩
          · obtain ⟨x, hx, -⟩ := ih.mpr ⟨k, by omega, hd⟩
            cases hx
      | some z =>
        rw [hb] at ih
        have ih2 : z ≤ d ↔ ∃ k, k < n ∧ v k ≤ d := ⟨fun q => ih.mp ⟨z, rfl, q⟩, fun q => by obtain ⟨x, hx, hd⟩ := ih.mpr q; cases hx; exact hd⟩
        have e : ∃ x, sel y (some z) (v n) = some x ∧ x = min z (v n) := by
          unfold sel
          dsimp only
          rw [if_neg hy]
          split
          · exact ⟨z, rfl, by omega⟩
          · exact ⟨v n, rfl, by omega⟩
        obtain ⟨x, hx, hx2⟩ := e
        rw [hx]
        constructor
        · rintro ⟨x', he, hd⟩
          cases he
          rcases Nat.lt_or_ge d z with h3 | h3
          · exact ⟨n, by omega, by omega⟩
          · obtain ⟨k, hk, hd2⟩ := ih2.mp h3
            exact ⟨k, by omega, hd2⟩
        · rintro ⟨k, hk, hd⟩
          by_cases hkn : k = n
          · subst hkn; exact ⟨x, rfl, by omega⟩
          · have := ih2.mpr ⟨k, by omega, hd⟩
            exact ⟨x, rfl, by omega⟩
theorem ba_mem {y : Int32} {v : Nat → Nat} : ∀ n x, ba y v n = some x → ∃ k, k < n ∧ x = v k := by
  intro n
  induction n with
  | zero => intro x hx; cases hx
  | succ n ih =>
    intro x hx
    rw [ba_s] at hx
    cases hb : ba y v n with
    | none => rw [hb] at hx; cases hx; exact ⟨n, by omega, rfl⟩
    | some z =>
      obtain ⟨k, hk, e⟩ := ih z hb
      rw [hb] at hx
      unfold sel at hx
      dsimp only at hx
      split at hx <;> split at hx <;> cases hx
      · exact ⟨k, by omega, e⟩
      · exact ⟨n, by omega, rfl⟩
      · exact ⟨k, by omega, e⟩
      · exact ⟨n, by omega, rfl⟩
def yo (m : MB) (p l : Nat) : Int32 := nI (tb p (wh m l))
def f1 (o : Option Nat) : Nat := match o with
  | none => 1000000
  | some x => min 1000000 (x + 1)
theorem f1_le (o : Option Nat) : 1 ≤ f1 o ∧ f1 o ≤ 1000000 := by
  cases o with
  | none => exact ⟨by show 1 ≤ 1000000; omega, Nat.le_refl _⟩
  | some x => exact ⟨by show 1 ≤ min 1000000 (x + 1); omega, by show min 1000000 (x + 1) ≤ 1000000; omega⟩
theorem f1_th {o : Option Nat} {d : Nat} (hd : d < 999999) : f1 o ≤ d + 1 ↔ ∃ x, o = some x ∧ x ≤ d := by
  cases o with
  | none => exact ⟨fun h => by have h : 1000000 ≤ d + 1 := h; omega, fun ⟨x, hx, _⟩ => by cases hx⟩
  | some x => exact ⟨fun h => ⟨x, rfl, by have h : min 1000000 (x + 1) ≤ d + 1 := h; omega⟩, fun ⟨x', hx, hd2⟩ => by cases hx; show min 1000000 (x + 1) ≤ d + 1; omega⟩
def fG (m : MB) (s p : Nat) (V : Nat → Nat) (l : Nat) : Nat := if sc m l = s then 1 else f1 (ba (yo m p l) (fun k => V (gg m l k)) (fn m l))
def vJ (m : MB) (s p : Nat) : Nat → Nat → Nat
  | 0, _ => 1000000
  | r + 1, l => fG m s p (vJ m s p r) l
theorem fG_le (m : MB) (s p : Nat) (V : Nat → Nat) (l : Nat) : 1 ≤ fG m s p V l ∧ fG m s p V l ≤ 1000000 := by
  unfold fG
  split
  · omega
  · exact f1_le _
theorem vJ_le (m : MB) (s p r l : Nat) : 1 ≤ vJ m s p r l ∧ vJ m s p r l ≤ 1000000 := by
  cases r with
  | zero => exact ⟨by show 1 ≤ 1000000; omega, Nat.le_refl _⟩
  | succ r => exact fG_le _ _ _ _ _
theorem fG_mo {m : MB} (ok : MBok m) {s p : Nat} {V V' : Nat → Nat} {l : Nat} (hl : l < mbL m) (h : ∀ l, l < mbL m → V l ≤ V' l) : fG m s p V l ≤ fG m s p V' l := by
  unfold fG
  split
  · exact Nat.le_refl _
  · rcases ba_mo (y := yo m p l) (v := fun k => V (gg m l k)) (v' := fun k => V' (gg m l k)) (fn m l) (fun k hk => h _ (gg_lt ok hl hk)) with ⟨h1, h2⟩ | ⟨x, x', h1, h2, h3⟩
    · rw [h1, h2]; exact Nat.le_refl _
    · rw [h1, h2]; show min 1000000 (x + 1) ≤ min 1000000 (x' + 1); omega
theorem vJ_mo {m : MB} (ok : MBok m) {s p : Nat} : ∀ r l, l < mbL m → vJ m s p (r + 1) l ≤ vJ m s p r l := by
  intro r
  induction r with
  | zero => intro l _; exact (vJ_le m s p 1 l).2
  | succ r ih => intro l hl; exact fG_mo ok hl ih
/-- the lines from which it comes in d lines -/
def pA (m : MB) (s p : Nat) : Nat → Nat → Prop
  | 0, _ => False
  | d + 1, l => sc m l = s ∨ (if yo m p l = nI 0 then 0 < fn m l ∧ ∀ k, k < fn m l → pA m s p d (gg m l k) else ∃ k, k < fn m l ∧ pA m s p d (gg m l k))
theorem pA_mo {m : MB} (ok : MBok m) {s p : Nat} : ∀ d l, l < mbL m → pA m s p d l → pA m s p (d + 1) l := by
  intro d
  induction d with
  | zero => intro l _ h; exact h.elim
  | succ d ih =>
    intro l hl h
    rcases h with h | h
    · exact Or.inl h
    · refine Or.inr ?_
      by_cases hy : yo m p l = nI 0
      · rw [if_pos hy] at h ⊢
        exact ⟨h.1, fun k hk => ih _ (gg_lt ok hl hk) (h.2 k hk)⟩
      · rw [if_neg hy] at h ⊢
        obtain ⟨k, hk, hp⟩ := h
        exact ⟨k, hk, ih _ (gg_lt ok hl hk) hp⟩
theorem pA_st {m : MB} (ok : MBok m) {s p : Nat} : ∀ d, (∀ l, l < mbL m → pA m s p (d + 1) l → pA m s p d l) → ∀ l, l < mbL m → pA m s p (d + 2) l → pA m s p (d + 1) l := by
  intro d hd l hl h
  rcases h with h | h
  · exact Or.inl h
  · refine Or.inr ?_
    by_cases hy : yo m p l = nI 0
    · rw [if_pos hy] at h ⊢
      exact ⟨h.1, fun k hk => hd _ (gg_lt ok hl hk) (h.2 k hk)⟩
    · rw [if_neg hy] at h ⊢
      obtain ⟨k, hk, hp⟩ := h
      exact ⟨k, hk, hd _ (gg_lt ok hl hk) hp⟩
theorem vJ_th {m : MB} (ok : MBok m) {s p : Nat} : ∀ r, r < 100 → ∀ l, l < mbL m → (vJ m s p r l ≤ r ∨ vJ m s p r l = 1000000) ∧ ∀ d, d ≤ r → (vJ m s p r l ≤ d ↔ pA m s p d l) := by
  intro r
  induction r with
  | zero =>
    intro _ l _
    refine ⟨Or.inr rfl, fun d hd => ?_⟩
    have : d = 0 := by omega
    subst this
    exact ⟨fun h => by have : (1000000 : Nat) ≤ 0 := h; omega, fun h => h.elim⟩
  | succ r ih =>
    intro hr l hl
    have ih := ih (by omega)
    have hth := @ba_th (yo m p l) (fun k => vJ m s p r (gg m l k))
    refine ⟨?_, fun d hd => ?_⟩
    · show fG m s p (vJ m s p r) l ≤ r + 1 ∨ fG m s p (vJ m s p r) l = 1000000
      unfold fG
      split
      · exact Or.inl (by omega)
      · cases hx : ba (yo m p l) (fun k => vJ m s p r (gg m l k)) (fn m l) with
        | none => exact Or.inr rfl
        | some x =>
          obtain ⟨k, hk, e⟩ := ba_mem _ _ hx
          show min 1000000 (x + 1) ≤ r + 1 ∨ min 1000000 (x + 1) = 1000000
          have e : x = vJ m s p r (gg m l k) := e
          rcases (ih _ (gg_lt ok hl hk)).1 with h | h
          · rw [← e] at h; exact Or.inl (by omega)
          · rw [← e] at h; exact Or.inr (by omega)
    · cases d with
      | zero =>
        have := (fG_le m s p (vJ m s p r) l).1
        exact ⟨fun h => by have h : fG m s p (vJ m s p r) l ≤ 0 := h; omega, fun h => h.elim⟩
      | succ d =>
        show fG m s p (vJ m s p r) l ≤ d + 1 ↔ _
        unfold fG
        by_cases hs : sc m l = s
        · rw [if_pos hs]
          exact ⟨fun _ => Or.inl hs, fun _ => by omega⟩
        · rw [if_neg hs]
          rw [f1_th (by omega), hth]
          constructor
          · intro h
            refine Or.inr ?_
            by_cases hy : yo m p l = nI 0
            · rw [if_pos hy] at h ⊢
              exact ⟨h.1, fun k hk => ((ih _ (gg_lt ok hl hk)).2 d (by omega)).mp (h.2 k hk)⟩
            · rw [if_neg hy] at h ⊢
              obtain ⟨k, hk, h⟩ := h
              exact ⟨k, hk, ((ih _ (gg_lt ok hl hk)).2 d (by omega)).mp h⟩
          · intro h
            have h := h.resolve_left hs
            by_cases hy : yo m p l = nI 0
            · rw [if_pos hy] at h ⊢
              exact ⟨h.1, fun k hk => ((ih _ (gg_lt ok hl hk)).2 d (by omega)).mpr (h.2 k hk)⟩
            · rw [if_neg hy] at h ⊢
              obtain ⟨k, hk, h⟩ := h
              exact ⟨k, hk, ((ih _ (gg_lt ok hl hk)).2 d (by omega)).mpr h⟩
theorem vJ_fix {m : MB} (ok : MBok m) {s p l : Nat} (hl : l < mbL m) : vJ m s p 21 l = vJ m s p 20 l := by
  have hL := L_le ok
  have hst := chain_stab (pA m s p) (mbL m) (pA_mo ok) (pA_st ok) 20 hL l hl
  have h20 := vJ_th ok (s := s) (p := p) 20 (by omega) l hl
  have h21 := vJ_th ok (s := s) (p := p) 21 (by omega) l hl
  have hmo : vJ m s p 21 l ≤ vJ m s p 20 l := vJ_mo ok (s := s) (p := p) 20 l hl
  have hle := (vJ_le m s p 21 l)
  rcases h21.1 with h | h
  · have hp : pA m s p 20 l := hst ((h21.2 21 (by omega)).mp h)
    have h1 := (h20.2 20 (by omega)).mpr hp
    have h2 := (h21.2 20 (by omega)).mpr hp
    have h3 := (h20.2 _ h2).mpr ((h21.2 _ (by omega)).mp (Nat.le_refl _))
    omega
  · have := (vJ_le m s p 20 l).2
    omega
