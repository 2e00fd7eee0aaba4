/-! ===== the call text: statements, as numbers ===== -/
theorem pkN_rev (l : List Nat) : pkN 0 l = l.reverse.foldr (fun c y => y * 256 + c) 0 := by
  unfold pkN
  rw [List.foldl_eq_foldr_reverse]
theorem rN_inj : ∀ (l k : List Nat), (∀ c, c ∈ l → 0 < c ∧ c < 256) → (∀ c, c ∈ k → 0 < c ∧ c < 256) → l.foldr (fun c y => y * 256 + c) 0 = k.foldr (fun c y => y * 256 + c) 0 → l = k := by
  intro l
  induction l with
  | nil =>
    intro k _ hk he
    cases k with
    | nil => rfl
    | cons c k =>
      have := hk c List.mem_cons_self
      simp only [List.foldr_nil, List.foldr_cons] at he
      omega
  | cons d l ih =>
    intro k hl hk he
    have h1 := hl d List.mem_cons_self
    cases k with
    | nil =>
      simp only [List.foldr_nil, List.foldr_cons] at he
      omega
    | cons c k =>
      have h2 := hk c List.mem_cons_self
      simp only [List.foldr_cons] at he
      have h3 : d = c := by omega
      subst h3
      rw [ih k (fun x hx => hl x (List.mem_cons_of_mem _ hx)) (fun x hx => hk x (List.mem_cons_of_mem _ hx)) (by omega)]
theorem pkN_inj {l k : List Nat} (hl : ∀ c, c ∈ l → 0 < c ∧ c < 256) (hk : ∀ c, c ∈ k → 0 < c ∧ c < 256) (he : pkN 0 l = pkN 0 k) : l = k := by
  rw [pkN_rev, pkN_rev] at he
  have := rN_inj l.reverse k.reverse (fun c hc => hl c (List.mem_reverse.mp hc)) (fun c hc => hk c (List.mem_reverse.mp hc)) he
  have := congrArg List.reverse this
  rw [List.reverse_reverse, List.reverse_reverse] at this
  exact this
theorem lN_inj {a b : Nat} (ha : a < 2 ^ 64) (hb : b < 2 ^ 64) (h : lN a = lN b) : a = b := by
  have h1 : (lN a).toBitVec.toNat = (lN b).toBitVec.toNat := by rw [h]
  have h2 : (BitVec.ofNat 64 a).toNat = (BitVec.ofNat 64 b).toNat := h1
  rw [BitVec.toNat_ofNat, BitVec.toNat_ofNat, Nat.mod_eq_of_lt ha, Nat.mod_eq_of_lt hb] at h2
  exact h2
/-- the words as the reference has them -/
def cW (w : Nat) : Int64 := [1818848869, 6582905, 1650549611, 426953501796, 1718773093, 6518132, 7561593, 7304564, 26990, 6582905, 123636798025844, 2002872692, 26479, 448377483876, 6775152, 114827921155443, 2002873452, 1651470187, 1819243876].getD w 0
theorem cW_pk : ∀ w, w < 19 → cW w = pkW (nm w) ∧ cW w ≠ lN 0 ∧ (nm w).length ≤ 8 := by decide +kernel
theorem nm_let : ∀ w, w < 19 → ∀ c, c ∈ nm w → 0 < c ∧ c < 256 := by decide +kernel
section YST
variable {σ : SG} {s : Nat}
theorem lt_let {p : Nat} (hp : p < sZ σ) (hL : isL (sn σ p) = true) : ∀ c, c ∈ lt σ p (eR σ p) → 0 < c ∧ c < 256 := by
  intro c hc
  unfold lt at hc
  obtain ⟨i, hi, rfl⟩ := List.mem_map.mp hc
  have hi := List.mem_range.mp hi
  have hE : eR σ p = ru (fun q => isL (sn σ q)) (sZ σ) (p + 1) := by unfold eR; rw [if_pos hL]
  obtain ⟨g1, g2, g3, g4⟩ := ru_ok (fun q => isL (sn σ q)) (show p + 1 ≤ sZ σ by omega)
  rw [← hE] at g1 g2 g3 g4
  have h1 : isL (sn σ (p + i)) = true := by
    by_cases e : i = 0
    · subst e; exact hL
    · exact g3 (p + i) (by omega) (by omega)
  have := isL_t.mp h1
  omega
theorem wcd_eq {p w : Nat} (hw : w < 19) (hp : p < sZ σ) (hL : isL (sn σ p) = true) : wcd σ p = cW w ↔ lt σ p (eR σ p) = nm w := by
  obtain ⟨c1, c2, c3⟩ := cW_pk w hw
  have hl := lt_len σ p (eR σ p)
  constructor
  · intro h
    unfold wcd at h
    by_cases h8 : eR σ p - p ≤ 8
    · rw [if_pos h8, c1] at h
      have a1 := pkW_N (lt σ p (eR σ p)) 0 0 (by omega) (by decide) (fun c hc => (lt_let hp hL c hc).2)
      have a2 := pkW_N (nm w) 0 0 (by omega) (by decide) (fun c hc => (nm_let w hw c hc).2)
      have e1 : pkW (lt σ p (eR σ p)) = lN (pkN 0 (lt σ p (eR σ p))) := a1.1
      have e2 : pkW (nm w) = lN (pkN 0 (nm w)) := a2.1
      rw [e1, e2] at h
      have b : ∀ n, n ≤ 8 → (256 : Nat) ^ (0 + n) ≤ 2 ^ 64 := fun n hn => by
        have := Nat.pow_le_pow_right (show 0 < 256 by omega) (show 0 + n ≤ 8 by omega)
        have e : (256 : Nat) ^ 8 = 2 ^ 64 := by decide
        omega
      exact pkN_inj (lt_let hp hL) (nm_let w hw) (lN_inj (Nat.lt_of_lt_of_le a1.2 (b _ (by omega))) (Nat.lt_of_lt_of_le a2.2 (b _ c3)) h)
    · rw [if_neg h8] at h
      exact absurd h.symm c2
  · intro h
    unfold wcd
    rw [h] at hl
    rw [if_pos (by omega), h, c1]
/-- tokens: their kind, their value as a number -/
noncomputable def yK (σ : SG) (s i : Nat) : Nat := kd σ s (bg σ i)
noncomputable def yV (σ : SG) (s i : Nat) : Nat := (vl σ s (bg σ i)).toNatClampNeg
theorem yK_cases (p : Nat) : (kd σ s p = 4 ∧ rs σ p = 0) ∨ (kd σ s p = 0 ∧ rs σ p = 2 ∧ p < sZ σ ∧ isL (sn σ p) = true ∧ ∃ w, fwd s (lt σ p (eR σ p)) = some w ∧ vl σ s p = nI w) ∨ (kd σ s p = 3 ∧ rs σ p = 2 ∧ p < sZ σ ∧ isL (sn σ p) = true ∧ fwd s (lt σ p (eR σ p)) = none) ∨ (kd σ s p = 1 ∧ rs σ p = 3 ∧ p < sZ σ ∧ isD (sn σ p) = true ∧ eR σ p - p ≤ 2 ∧ vl σ s p = nI (num σ p)) ∨ (kd σ s p = 2 ∧ rs σ p = 4 ∧ vl σ s p = nI 0) ∨ (kd σ s p = 3 ∧ rs σ p = 1) := by
  unfold kd rs vl
  by_cases hz : sZ σ ≤ p
  · rw [if_pos hz, if_pos hz]; exact Or.inl ⟨rfl, rfl⟩
  rw [if_neg hz, if_neg hz, if_neg hz]
  refine Or.inr ?_
  by_cases hL : isL (sn σ p) = true
  · rw [if_pos hL, if_pos hL, if_pos hL]
    cases hf : fwd s (lt σ p (eR σ p)) with
    | some w => exact Or.inl ⟨rfl, rfl, by omega, hL, w, rfl, rfl⟩
    | none => exact Or.inr (Or.inl ⟨rfl, rfl, by omega, hL, rfl⟩)
  rw [if_neg hL, if_neg hL, if_neg hL]
  refine Or.inr (Or.inr ?_)
  by_cases hD : isD (sn σ p) = true
  · by_cases h2 : eR σ p - p ≤ 2
    · simp only [if_pos (And.intro hD h2), if_pos hD, if_pos h2]
      exact Or.inl ⟨trivial, trivial, by omega, hD, h2, trivial⟩
    · have h59 : ¬ sn σ p = 59 := by have := isD_t.mp hD; omega
      have h2' : ¬ (isD (sn σ p) = true ∧ eR σ p - p ≤ 2) := fun q => h2 q.2
      simp only [if_neg h2', if_pos hD, if_neg h2, if_neg h59]
      exact Or.inr (Or.inr ⟨trivial, trivial⟩)
  · have h2' : ¬ (isD (sn σ p) = true ∧ eR σ p - p ≤ 2) := fun q => hD q.1
    simp only [if_neg h2', if_neg hD]
    by_cases h59 : sn σ p = 59
    · simp only [if_pos h59]; exact Or.inr (Or.inl ⟨trivial, trivial, trivial⟩)
    · simp only [if_neg h59]; exact Or.inr (Or.inr ⟨trivial, trivial⟩)
theorem yK_rs (i : Nat) : (yK σ s i = 1 ↔ rs σ (bg σ i) = 3) ∧ (yK σ s i = 2 ↔ rs σ (bg σ i) = 4) ∧ (yK σ s i = 4 ↔ rs σ (bg σ i) = 0) := by
  unfold yK
  rcases yK_cases (σ := σ) (s := s) (bg σ i) with ⟨h1, h2⟩ | ⟨h1, h2, -⟩ | ⟨h1, h2, -⟩ | ⟨h1, h2, -⟩ | ⟨h1, h2, -⟩ | ⟨h1, h2⟩ <;> rw [h1, h2] <;> omega
theorem yK_le (i : Nat) : yK σ s i ≤ 4 := kd_le σ s _
theorem yK_word (hs : s < 4) {i : Nat} (h : yK σ s i = 0) : rs σ (bg σ i) = 2 ∧ wcd σ (bg σ i) = cW (yV σ s i) ∧ wf s ≤ yV σ s i ∧ yV σ s i < wf (s + 1) ∧ vl σ s (bg σ i) = nI (yV σ s i) ∧ bg σ i < sZ σ := by
  unfold yK at h
  unfold yV
  rcases yK_cases (σ := σ) (s := s) (bg σ i) with ⟨h1, h2⟩ | ⟨h1, h2, h3, h4, w, h5, h6⟩ | ⟨h1, h2, -⟩ | ⟨h1, h2, -⟩ | ⟨h1, h2, -⟩ | ⟨h1, h2⟩
  · omega
  · have hw := fwd_lt h5
    have hl := wf_le s hs
    rw [h6, nI_cl (by omega)]
    exact ⟨h2, (wcd_eq (by omega) h3 h4).mpr hw.2.2, hw.1, hw.2.1, rfl, h3⟩
  all_goals omega
theorem yK_num {i : Nat} (h : yK σ s i = 1) : num σ (bg σ i) = yV σ s i ∧ yV σ s i < 100 ∧ vl σ s (bg σ i) = nI (yV σ s i) ∧ bg σ i < sZ σ := by
  unfold yK at h
  unfold yV
  rcases yK_cases (σ := σ) (s := s) (bg σ i) with ⟨h1, h2⟩ | ⟨h1, h2, -⟩ | ⟨h1, h2, -⟩ | ⟨h1, h2, h3, h4, h5, h6⟩ | ⟨h1, h2, -⟩ | ⟨h1, h2⟩
  · omega
  · omega
  · omega
  · have := (num_lt σ h3 h4 h5).1
    rw [h6, nI_cl (by omega)]
    exact ⟨rfl, this, rfl, h3⟩
  all_goals omega
theorem yK_semi {i : Nat} (h : yK σ s i = 2) : vl σ s (bg σ i) = nI (yV σ s i) ∧ yV σ s i = 0 ∧ bg σ i < sZ σ := by
  unfold yK at h
  unfold yV
  have hz : bg σ i < sZ σ := Classical.byContradiction (fun q => by have := (kd_end (σ := σ) (s := s) (p := bg σ i)).mpr (by omega); omega)
  rcases yK_cases (σ := σ) (s := s) (bg σ i) with ⟨h1, h2⟩ | ⟨h1, h2, -⟩ | ⟨h1, h2, -⟩ | ⟨h1, h2, -⟩ | ⟨h1, h2, h3⟩ | ⟨h1, h2⟩
  · omega
  · omega
  · omega
  · omega
  · rw [h3, nI_cl (by omega)]; exact ⟨rfl, rfl, hz⟩
  · omega
/-- no word of the sort: none of its longs -/
theorem yK_noword (hs : s < 4) {i : Nat} (h0 : yK σ s i ≠ 0) (h2 : rs σ (bg σ i) = 2) : ∀ w, wf s ≤ w → w < wf (s + 1) → wcd σ (bg σ i) ≠ cW w := by
  intro w hw1 hw2 he
  have hl := wf_le s hs
  unfold yK at h0
  rcases yK_cases (σ := σ) (s := s) (bg σ i) with ⟨h1, h3⟩ | ⟨h1, -⟩ | ⟨h1, h2, h3, h4, h5⟩ | ⟨h1, h3, -⟩ | ⟨h1, h3, -⟩ | ⟨h1, h3⟩
  · omega
  · omega
  · have := fwd_is hs hw1 hw2 ((wcd_eq (by omega) h3 h4).mp he)
    rw [h5] at this
    cases this
  all_goals omega
theorem bg_lt {i : Nat} (h : bg σ i < sZ σ) : bg σ i < bg σ (i + 1) := by
  have h1 : pos σ (i + 1) = eR σ (bg σ i) := by
    show nxp σ (pos σ i) = _
    unfold nxp
    rw [show sta σ (pos σ i) = bg σ i from rfl, if_pos h]
  have h2 := eR_ok σ h
  have h3 := (sta_ok σ (pos_le σ (i + 1))).1
  show bg σ i < sta σ (pos σ (i + 1))
  omega
end YST
/-! numbers of a word, their bounds -/
def nnW (w : Nat) : Nat := [4, 2, 2, 1, 1, 1, 1, 1, 1, 0, 0, 0, 0, 1, 0, 1, 2, 2, 2].getD w 0
def loB (j : Nat) : Nat := [0, 0, 0, 0, 0, 0, 0, 0, 0, 0, 0, 0, 0, 0, 0, 0, 0, 0, 0, 0, 1, 0, 0, 0, 0, 0, 0, 0, 0, 0, 0, 0, 0, 0, 0, 0, 0, 0, 0, 0, 0, 0, 0, 0, 0, 0, 0, 0, 0, 0, 0, 0, 0, 0, 0, 0, 0, 0, 0, 0, 2, 0, 0, 0, 0, 1, 0, 0, 0, 0, 0, 0, 0, 0, 0, 0].getD j 0
def hiB (j : Nat) : Nat := [19, 5, 9, 9, 5, 10, 0, 0, 19, 19, 0, 0, 5, 0, 0, 0, 9, 0, 0, 0, 9, 0, 0, 0, 19, 0, 0, 0, 5, 0, 0, 0, 5, 0, 0, 0, 0, 0, 0, 0, 0, 0, 0, 0, 0, 0, 0, 0, 0, 0, 0, 0, 5, 0, 0, 0, 0, 0, 0, 0, 9, 0, 0, 0, 7, 9, 0, 0, 8, 1, 0, 0, 8, 9, 0, 0].getD j 0
theorem nn_st : ∀ w, w < 19 → q_st 1 (nI w) = some (nI (nnW w)) ∧ nnW w ≤ 4 := by decide +kernel
theorem lo_st : ∀ j, j < 76 → q_st 2 (nI j) = some (nI (loB j)) ∧ q_st 3 (nI j) = some (nI (hiB j)) ∧ loB j < 100 ∧ hiB j < 100 := by decide +kernel
def inB (w i x : Nat) : Bool := decide (loB (4 * w + i) ≤ x ∧ x ≤ hiB (4 * w + i))
theorem inB_t {w i x : Nat} : inB w i x = true ↔ loB (4 * w + i) ≤ x ∧ x ≤ hiB (4 * w + i) := decide_eq_true_iff
abbrev LFt : Type := Option (Nat × Nat)
def ltr (lf : LFt) (q : Nat × Nat) : LFt := match lf with
  | none => some q
  | some r => some r
def cn (T : Nat → Int32) (i : Nat) : Nat := (T i).toNatClampNeg
/-- one too many -/
def fuB (w : Nat) (T : Nat → Int32) : Bool := decide ((w = 0 ∧ cn T 0 = 20) ∨ (w = 2 ∧ cn T 1 = 8) ∨ (6 ≤ w ∧ w < 13 ∧ cn T 0 = 40) ∨ (13 ≤ w ∧ w < 15 ∧ cn T 0 = 12))
theorem fuB_t {w : Nat} {T : Nat → Int32} : fuB w T = true ↔ ((w = 0 ∧ cn T 0 = 20) ∨ (w = 2 ∧ cn T 1 = 8) ∨ (6 ≤ w ∧ w < 13 ∧ cn T 0 = 40) ∨ (13 ≤ w ∧ w < 15 ∧ cn T 0 = 12)) := decide_eq_true_iff
/-- the first fault behind the first numbers of a statement -/
def nlF (w : Nat) (x p : Nat → Nat) (lf : LFt) : Nat → LFt
  | 0 => lf
  | i + 1 => if inB w i (x i) = true then nlF w x p lf i else ltr (nlF w x p lf i) (2, p i)
def gdF (w : Nat) (x : Nat → Nat) : Nat → Bool
  | 0 => true
  | i + 1 => gdF w x i && inB w i (x i)
def fuL (w pt : Nat) (T : Nat → Int32) (lf : LFt) : LFt := if fuB w T = true then ltr lf (3, pt) else lf
def lfS (w pt : Nat) (x p : Nat → Nat) (T : Nat → Int32) (lf : LFt) : LFt := nlF w x p (fuL w pt T lf) (nnW w)
def ltr_none {lf : LFt} {q : Nat × Nat} : ltr lf q ≠ none := by cases lf <;> simp [ltr]
theorem nlF_some {w : Nat} {x p : Nat → Nat} {q : Nat × Nat} : ∀ i, nlF w x p (some q) i = some q := by
  intro i
  induction i with
  | zero => rfl
  | succ i ih =>
    show (if inB w i (x i) = true then nlF w x p (some q) i else ltr (nlF w x p (some q) i) (2, p i)) = _
    rw [ih]
    split <;> rfl
theorem nlF_keep {w : Nat} {x p : Nat → Nat} {lf : LFt} {q : Nat × Nat} {i : Nat} (h : nlF w x p lf i = some q) : ∀ j, i ≤ j → nlF w x p lf j = some q := by
  intro j hj
  induction j with
  | zero => rw [show i = 0 by omega] at h; exact h
  | succ j ih =>
    by_cases e : i = j + 1
    · subst e; exact h
    · show (if inB w j (x j) = true then nlF w x p lf j else ltr (nlF w x p lf j) (2, p j)) = _
      rw [ih (by omega)]
      split <;> rfl
theorem nlF_none {w : Nat} {x p : Nat → Nat} {lf : LFt} : ∀ i, nlF w x p lf i = none ↔ lf = none ∧ ∀ j, j < i → inB w j (x j) = true := by
  intro i
  induction i with
  | zero => exact ⟨fun h => ⟨h, fun j hj => by omega⟩, fun h => h.1⟩
  | succ i ih =>
    show (if inB w i (x i) = true then nlF w x p lf i else ltr (nlF w x p lf i) (2, p i)) = none ↔ _
    by_cases hb : inB w i (x i) = true
    · rw [if_pos hb, ih]
      refine ⟨fun h => ⟨h.1, fun j hj => ?_⟩, fun h => ⟨h.1, fun j hj => h.2 j (by omega)⟩⟩
      by_cases e : j = i
      · subst e; exact hb
      · exact h.2 j (by omega)
    · rw [if_neg hb]
      exact ⟨fun h => absurd h ltr_none, fun h => absurd (h.2 i (by omega)) hb⟩
theorem gdF_t {w : Nat} {x : Nat → Nat} : ∀ i, gdF w x i = true ↔ ∀ j, j < i → inB w j (x j) = true := by
  intro i
  induction i with
  | zero => exact ⟨fun _ j hj => by omega, fun _ => rfl⟩
  | succ i ih =>
    show (gdF w x i && inB w i (x i)) = true ↔ _
    rw [Bool.and_eq_true, ih]
    refine ⟨fun h j hj => ?_, fun h => ⟨fun j hj => h j (by omega), h i (by omega)⟩⟩
    by_cases e : j = i
    · subst e; exact h.2
    · exact h.1 j (by omega)
theorem lfS_none {w pt : Nat} {x p : Nat → Nat} {T : Nat → Int32} {lf : LFt} : lfS w pt x p T lf = none ↔ lf = none ∧ fuB w T = false ∧ ∀ j, j < nnW w → inB w j (x j) = true := by
  unfold lfS fuL
  rw [nlF_none]
  by_cases hf : fuB w T = true
  · rw [if_pos hf, hf]
    exact ⟨fun h => absurd h.1 ltr_none, fun h => by cases h.2.1⟩
  · rw [if_neg hf]
    exact ⟨fun h => ⟨h.1, Bool.eq_false_iff.mpr hf, h.2⟩, fun h => ⟨h.1, h.2.2⟩⟩
theorem lfS_some {w pt : Nat} {x p : Nat → Nat} {T : Nat → Int32} {q : Nat × Nat} : lfS w pt x p T (some q) = some q := by
  unfold lfS fuL
  have : (if fuB w T = true then ltr (some q) (3, pt) else some q) = some q := by split <;> rfl
  rw [this, nlF_some]
/-- the row that is told, behind a statement -/
def tlS (w : Nat) (x : Nat → Nat) (T : Nat → Int32) : Nat → Int32 :=
  if w = 0 then (if cn T 0 < 20 then upd (upd (upd (upd (upd T (4 + cn T 0) (nI (x 0))) (24 + cn T 0) (nI (x 1))) (44 + cn T 0) (nI (x 2))) (64 + cn T 0) (nI (x 3))) 0 (nI (cn T 0 + 1)) else T)
  else if w = 1 then (if gdF 1 x 2 = true then upd T (100 + x 0) (nI (x 1)) else T)
  else if w = 2 then (if cn T 1 < 8 then upd (upd (upd T (84 + cn T 1) (nI (x 0))) (92 + cn T 1) (nI (x 1))) 1 (nI (cn T 1 + 1)) else T)
  else if w = 3 then (if gdF 3 x 1 = true then upd T (106 + x 0) (nI 1) else T)
  else if w = 4 then upd T 2 (nI (x 0))
  else if w = 5 then upd T 3 (nI (x 0))
  else if w < 13 then (if cn T 0 = 40 then T else upd (upd (upd T (1 + 2 * cn T 0) (nI (w - 6))) (2 + 2 * cn T 0) (if w < 9 then nI (x 0) else m1)) 0 (nI (cn T 0 + 1)))
  else if w < 15 then (if cn T 0 = 12 then T else upd (upd T (1 + cn T 0) (if w = 13 then nI (x 0) else nI 6)) 0 (nI (cn T 0 + 1)))
  else if w = 15 then upd T 0 (nI (x 0))
  else if w = 16 then (if gdF 16 x 2 = true then upd T (1 + x 0) (nI (x 1)) else T)
  else if w = 17 then (if gdF 17 x 2 = true then upd T (9 + x 0) (nI (x 1)) else T)
  else (if gdF 18 x 2 = true then upd T (18 + x 0) (nI (x 1)) else T)
/-- how far it tells (one more; 0: nowhere) -/
def frS (w : Nat) (x : Nat → Nat) (f : Nat) : Nat := if w = 0 then max f (x 0 + 1) else if w = 2 then max (max f (x 0 + 1)) (x 1 + 1) else if w = 16 then max f (x 0 + 1 + 1) else if w = 17 then max f (x 0 + 1) else if w = 18 then max f (x 0 + 1) else f
def blk (s i : Nat) : Int32 := nI (if s = 0 then (if i = 2 ∨ i = 3 then 3 else if 100 ≤ i ∧ i ≤ 105 then 2 else 0) else if s = 3 then (if i = 0 then 4 else if 1 ≤ i ∧ i ≤ 8 then 2 else if 18 ≤ i ∧ i ≤ 26 then 3 else 0) else 0)
/-! the statements of a tape -/
noncomputable def yst (σ : SG) (s : Nat) : Nat → Nat
  | 0 => 0
  | m + 1 => yst σ s m + 1 + nnW (yV σ s (yst σ s m)) + 1
noncomputable def yX (σ : SG) (s t i : Nat) : Nat := yV σ s (t + 1 + i)
def yP (σ : SG) (t i : Nat) : Nat := bg σ (t + 1 + i)
noncomputable def yTT (σ : SG) (s : Nat) : Nat → Nat → Int32
  | 0 => blk s
  | m + 1 => tlS (yV σ s (yst σ s m)) (yX σ s (yst σ s m)) (yTT σ s m)
noncomputable def yLL (σ : SG) (s : Nat) : Nat → LFt
  | 0 => none
  | m + 1 => lfS (yV σ s (yst σ s m)) (bg σ (yst σ s m)) (yX σ s (yst σ s m)) (yP σ (yst σ s m)) (yTT σ s m) (yLL σ s m)
noncomputable def yFF (σ : SG) (s : Nat) : Nat → Nat
  | 0 => 0
  | m + 1 => frS (yV σ s (yst σ s m)) (yX σ s (yst σ s m)) (yFF σ s m)
def yGd (σ : SG) (s t : Nat) : Prop := yK σ s t = 0 ∧ (∀ i, i < nnW (yV σ s t) → yK σ s (t + 1 + i) = 1) ∧ yK σ s (t + 1 + nnW (yV σ s t)) = 2
def yBad (σ : SG) (s t u : Nat) : Prop := (yK σ s t ≠ 0 ∧ yK σ s t ≠ 4 ∧ u = t) ∨ (yK σ s t = 0 ∧ ∃ i, i ≤ nnW (yV σ s t) ∧ u = t + 1 + i ∧ (∀ j, j < i → yK σ s (t + 1 + j) = 1) ∧ (i < nnW (yV σ s t) → yK σ s u ≠ 1) ∧ (i = nnW (yV σ s t) → yK σ s u ≠ 2))
theorem yGd_or (σ : SG) (s t : Nat) : yK σ s t = 4 ∨ yGd σ s t ∨ ∃ u, yBad σ s t u := by
  by_cases h4 : yK σ s t = 4
  · exact Or.inl h4
  refine Or.inr ?_
  by_cases h0 : yK σ s t = 0
  · have key : ∀ n, n ≤ nnW (yV σ s t) → (∀ j, j < n → yK σ s (t + 1 + j) = 1) ∨ ∃ u, yBad σ s t u := by
      intro n
      induction n with
      | zero => intro _; exact Or.inl (fun j hj => by omega)
      | succ n ih =>
        intro hn
        rcases ih (by omega) with h | h
        · by_cases h1 : yK σ s (t + 1 + n) = 1
          · refine Or.inl (fun j hj => ?_)
            by_cases e : j = n
            · subst e; exact h1
            · exact h j (by omega)
          · exact Or.inr ⟨t + 1 + n, Or.inr ⟨h0, n, by omega, rfl, h, fun _ => h1, fun q => by omega⟩⟩
        · exact Or.inr h
    rcases key _ (Nat.le_refl _) with h | h
    · by_cases h2 : yK σ s (t + 1 + nnW (yV σ s t)) = 2
      · exact Or.inl ⟨h0, h, h2⟩
      · exact Or.inr ⟨_, Or.inr ⟨h0, _, Nat.le_refl _, rfl, h, fun q => by omega, fun _ => h2⟩⟩
    · exact Or.inr h
  · exact Or.inr ⟨t, Or.inl ⟨h0, h4, rfl⟩⟩
theorem yGd_le {σ : SG} {s t n : Nat} (g : yGd σ s t) (hn : 3 ≤ yK σ s n) (ht : t ≤ n) : t + 1 + nnW (yV σ s t) + 1 ≤ n := by
  obtain ⟨g1, g2, g3⟩ := g
  apply Classical.byContradiction
  intro hc
  by_cases e : n = t
  · subst e; omega
  · by_cases e2 : n = t + 1 + nnW (yV σ s t)
    · rw [← e2] at g3; omega
    · have := g2 (n - t - 1) (by omega)
      rw [show t + 1 + (n - t - 1) = n by omega] at this
      omega
theorem yBad_le {σ : SG} {s t u n : Nat} (g : yBad σ s t u) (hn : 3 ≤ yK σ s n) (ht : t ≤ n) : u ≤ n := by
  rcases g with ⟨g1, g2, g3⟩ | ⟨g1, i, g2, g3, g4, -⟩
  · omega
  · apply Classical.byContradiction
    intro hc
    by_cases e : n = t
    · subst e; omega
    · have := g4 (n - t - 1) (by omega)
      rw [show t + 1 + (n - t - 1) = n by omega] at this
      omega
theorem yst_ge (σ : SG) (s : Nat) : ∀ m, m ≤ yst σ s m := by
  intro m
  induction m with
  | zero => exact Nat.le_refl _
  | succ m ih => show m + 1 ≤ yst σ s m + 1 + nnW (yV σ s (yst σ s m)) + 1; omega
/-- a tape is a row of statements, or it goes wrong behind some -/
theorem yAll {σ : SG} {s n : Nat} (hn : 3 ≤ yK σ s n) : ∃ m, (∀ j, j < m → yGd σ s (yst σ s j)) ∧ yst σ s m ≤ n ∧ (yK σ s (yst σ s m) = 4 ∨ ∃ u, yBad σ s (yst σ s m) u) := by
  have key : ∀ d m, n + 1 - m ≤ d → (∀ j, j < m → yGd σ s (yst σ s j)) → yst σ s m ≤ n → ∃ m, (∀ j, j < m → yGd σ s (yst σ s j)) ∧ yst σ s m ≤ n ∧ (yK σ s (yst σ s m) = 4 ∨ ∃ u, yBad σ s (yst σ s m) u) := by
    intro d
    induction d with
    | zero =>
      intro m hd _ hm
      have := yst_ge σ s m
      omega
    | succ d ih =>
      intro m hd hg hm
      rcases yGd_or σ s (yst σ s m) with h | h | h
      · exact ⟨m, hg, hm, Or.inl h⟩
      · have hle := yGd_le h hn hm
        refine ih (m + 1) (by omega) (fun j hj => ?_) hle
        by_cases e : j = m
        · subst e; exact h
        · exact hg j (by omega)
      · exact ⟨m, hg, hm, Or.inr h⟩
  exact key (n + 1) 0 (by omega) (fun j hj => by omega) (Nat.zero_le _)
theorem yst_mono {σ : SG} {s m j : Nat} (h : j < m) : yst σ s j + 1 + nnW (yV σ s (yst σ s j)) + 1 ≤ yst σ s m := by
  induction m with
  | zero => omega
  | succ m ih =>
    by_cases e : j = m
    · subst e; exact Nat.le_refl _
    · have := ih (by omega)
      show _ ≤ yst σ s m + 1 + nnW (yV σ s (yst σ s m)) + 1
      omega
