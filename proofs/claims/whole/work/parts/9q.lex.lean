/-! ===== the call text: signs, rows of signs, names ===== -/
def sg (x : Int32) : Nat := x.toBitVec.toNat &&& 255
theorem sg_lt (x : Int32) : sg x < 256 := Nat.lt_of_le_of_lt Nat.and_le_right (by omega)
theorem sg_eq (x : Int32) : x &&& nI 255 = nI (sg x) := by
  have h := sg_lt x
  apply Int32.toBitVec_inj.mp
  apply BitVec.eq_of_toNat_eq
  rw [Int32.toBitVec_and, BitVec.toNat_and, nI_bv, nI_bv, BitVec.toNat_ofNat, BitVec.toNat_ofNat, Nat.mod_eq_of_lt (show 255 < 2 ^ 32 by omega), Nat.mod_eq_of_lt (show sg x < 2 ^ 32 by omega)]
  rfl
def isL (s : Nat) : Bool := decide (97 ≤ s ∧ s ≤ 122)
def isD (s : Nat) : Bool := decide (48 ≤ s ∧ s ≤ 57)
def isW (s : Nat) : Bool := decide (s = 10 ∨ s = 32)
theorem isL_t {s : Nat} : isL s = true ↔ 97 ≤ s ∧ s ≤ 122 := decide_eq_true_iff
theorem isD_t {s : Nat} : isD s = true ↔ 48 ≤ s ∧ s ≤ 57 := decide_eq_true_iff
theorem isW_t {s : Nat} : isW s = true ↔ s = 10 ∨ s = 32 := decide_eq_true_iff
theorem isL_f {s : Nat} : isL s = false ↔ ¬ (97 ≤ s ∧ s ≤ 122) := decide_eq_false_iff_not
theorem isD_f {s : Nat} : isD s = false ↔ ¬ (48 ≤ s ∧ s ≤ 57) := decide_eq_false_iff_not
theorem isW_f {s : Nat} : isW s = false ↔ ¬ (s = 10 ∨ s = 32) := decide_eq_false_iff_not
/-- where a row of signs ends -/
def rn (f : Nat → Bool) : Nat → Nat → Nat
  | 0, p => p
  | n + 1, p => if f p then rn f n (p + 1) else p
theorem rn_ok (f : Nat → Bool) : ∀ n p, p ≤ rn f n p ∧ rn f n p ≤ p + n ∧ (∀ q, p ≤ q → q < rn f n p → f q = true) ∧ (rn f n p = p + n ∨ f (rn f n p) = false) := by
  intro n
  induction n with
  | zero => intro p; exact ⟨Nat.le_refl _, Nat.le_refl _, fun q h1 h2 => absurd h2 (by show ¬ q < p; omega), Or.inl rfl⟩
  | succ n ih =>
    intro p
    have e : rn f (n + 1) p = if f p then rn f n (p + 1) else p := rfl
    rw [e]
    cases hf : f p with
    | false => exact ⟨Nat.le_refl _, by show p ≤ _; omega, fun q h1 h2 => absurd h2 (by show ¬ q < p; omega), Or.inr hf⟩
    | true =>
      rw [if_pos rfl]
      obtain ⟨h1, h2, h3, h4⟩ := ih (p + 1)
      refine ⟨by omega, by omega, fun q q1 q2 => ?_, ?_⟩
      · by_cases e : q = p
        · subst e; exact hf
        · exact h3 q (by omega) q2
      · rcases h4 with h4 | h4
        · exact Or.inl (by omega)
        · exact Or.inr h4
def ru (f : Nat → Bool) (Z p : Nat) : Nat := rn f (Z - p) p
theorem ru_ok (f : Nat → Bool) {Z p : Nat} (hp : p ≤ Z) : p ≤ ru f Z p ∧ ru f Z p ≤ Z ∧ (∀ q, p ≤ q → q < ru f Z p → f q = true) ∧ (ru f Z p = Z ∨ f (ru f Z p) = false) := by
  obtain ⟨h1, h2, h3, h4⟩ := rn_ok f (Z - p) p
  rw [show p + (Z - p) = Z by omega] at h2 h4
  exact ⟨h1, h2, h3, h4⟩
theorem ru_un (f : Nat → Bool) {Z p e : Nat} (h1 : p ≤ e) (h2 : e ≤ Z) (h3 : ∀ q, p ≤ q → q < e → f q = true) (h4 : e = Z ∨ f e = false) : ru f Z p = e := by
  obtain ⟨g1, g2, g3, g4⟩ := ru_ok f (show p ≤ Z by omega)
  rcases Nat.lt_trichotomy (ru f Z p) e with h | h | h
  · rcases g4 with g4 | g4
    · omega
    · rw [h3 _ g1 h] at g4; cases g4
  · exact h
  · rcases h4 with h4 | h4
    · omega
    · rw [g3 _ h1 h] at h4; cases h4
/-- the names of the words -/
def nmT (i : Nat) : List Nat := [[108, 105, 110, 101], [100, 114, 121], [98, 97, 99, 107], [99, 104, 105, 108, 100], [102, 114, 101, 101], [99, 117, 116], [115, 97, 121], [111, 117, 116], [105, 110], [112, 114, 111, 109, 112, 116], [119, 97, 105, 116], [103, 111], [104, 101, 97, 114, 100], [103, 97, 112], [104, 111, 117, 115, 101, 115], [119, 97, 108, 108], [98, 111, 111, 107], [108, 111, 117, 100]].getD i []
def tiW (w : Nat) : Nat := [0, 1, 2, 3, 4, 5, 6, 7, 8, 1, 9, 10, 11, 12, 13, 14, 15, 16, 17].getD w 0
def nm (w : Nat) : List Nat := nmT (tiW w)
def Tx (h : qH) (z : Nat → Nat) : Prop := ∀ i, i < 18 → F_J0_length_8abf5 h (z (4 + i)) = some (nI (nmT i).length) ∧ ∀ j, j < (nmT i).length → F_J0_charAt_5068e h (z (4 + i)) (nI j) = some (nI ((nmT i).getD j 0))
theorem nm_len : ∀ i, i < 18 → (qBy.getD i []).length = (nmT i).length ∧ (nmT i).length < 7 := by decide +kernel
theorem nm_chr : ∀ i, i < 18 → ∀ j, j < (nmT i).length → (nI j < Int32.ofNat (qBy.getD i []).length ∧ q_i2c ((qBy.getD i []).getD j 0 &&& 255) = nI ((nmT i).getD j 0) ∧ (nmT i).getD j 0 < 128) := by decide +kernel
theorem nar_chr : ∀ c, c < 128 → narrow .char (.int (nI c)) = .int (nI c) := fun c hc => (pk_charN (show c < 65536 by omega)).1
theorem tx_of {b L c : Nat} {xs : Nat → Int32} {z adV : Nat → Nat} (hz : ∀ i, i < 18 → z (4 + i) < c ∧ z (4 + i) ≠ b) (hi : ∀ i j, i < 18 → j < 18 → z (4 + i) = z (4 + j) → i = j) {h : qH} (hl : ∀ q, q < c → h q = st_h b L xs z adV q) : Tx h z := by
  intro i h18
  have hc : h (z (4 + i)) = some (.inr (.inr (.inr (adV i, (qBy.getD i []).length, fun j => (qBy.getD i []).getD j 0)))) := by
    rw [hl _ (hz i h18).1]
    unfold st_h
    rw [if_neg (hz i h18).2]
    cases hf : (List.range 18).find? (fun k => z (4 + i) == z (4 + k)) with
    | none =>
      have := List.find?_eq_none.mp hf i (List.mem_range.mpr h18)
      simp at this
    | some k =>
      have hk : k < 18 := List.mem_range.mp (List.mem_of_find?_eq_some hf)
      have he := List.find?_some hf
      have he : z (4 + i) = z (4 + k) := eq_of_beq he
      rw [hi i k h18 hk he]
  obtain ⟨l1, l2⟩ := nm_len i h18
  refine ⟨?_, fun j hj => ?_⟩
  · unfold F_J0_length_8abf5 q_sl_
    rw [hc]
    dsimp only
    rw [l1]
    rfl
  · obtain ⟨c1, c2, c3⟩ := nm_chr i h18 j hj
    unfold F_J0_charAt_5068e q_sc_
    rw [hc]
    dsimp only
    rw [nI_cl (show j < 2 ^ 31 by omega), c2, if_pos ⟨nI_nn (by omega), c1, by omega, nar_chr _ c3⟩]
section LXC
variable {h : qH} {t : Nat} {σ : SG} {z : Nat → Nat}
/-- the sign at a place of the tape -/
def sn (σ : SG) (p : Nat) : Nat := sg (sT σ p)
theorem c_byte (d : TD h t σ) (hz : sZ σ ≤ 600) {p : Nat} (hp : p < sZ σ) : F_X9_byteAt h t (nI p) = some (nI (sn σ p)) := by
  have := sg_eq (sT σ p)
  simp (disch := omega) only [F_X9_byteAt, nS, tS d, this]
  rfl
theorem c_isL (h : qH) {s : Nat} (hs : s < 256) : F_X7_isLetter h (nI s) = some (nI (if isL s then 1 else 0)) := by
  cases e : isL s with
  | true =>
    have := isL_t.mp e
    rw [if_pos rfl]
    simp (disch := omega) only [F_X7_isLetter, nS]
  | false =>
    have := isL_f.mp e
    rw [if_neg (by decide)]
    rcases Nat.lt_or_ge s 97 with h1 | h1
    · simp (disch := omega) only [F_X7_isLetter, nS]
    · simp (disch := omega) only [F_X7_isLetter, nS]
theorem c_isD (h : qH) {s : Nat} (hs : s < 256) : F_X7_isDigit h (nI s) = some (nI (if isD s then 1 else 0)) := by
  cases e : isD s with
  | true =>
    have := isD_t.mp e
    rw [if_pos rfl]
    simp (disch := omega) only [F_X7_isDigit, nS]
  | false =>
    have := isD_f.mp e
    rw [if_neg (by decide)]
    rcases Nat.lt_or_ge s 48 with h1 | h1
    · simp (disch := omega) only [F_X7_isDigit, nS]
    · simp (disch := omega) only [F_X7_isDigit, nS]
/-- a loop from a place of the tape up to where a row of signs ends -/
theorem lp_run {step : Int32 → Option (Int32 ⊕ Int32)} {f : Nat → Bool} {Z p : Nat} (hp : p ≤ Z) (hZ : Z ≤ 600) (go : ∀ q, q < Z → f q = true → step (nI q) = some (.inl (nI (q + 1)))) (st : ∀ q, q < Z → f q = false → step (nI q) = some (.inr (nI q))) (en : step (nI Z) = some (.inr (nI Z))) : q_lp step q_N (nI p) = some (nI (ru f Z p)) := by
  obtain ⟨h1, h2, h3, h4⟩ := ru_ok f hp
  have := q_lp_for (step := step) (fun i => nI (p + i)) (ru f Z p - p) (r := nI (ru f Z p)) (fun i hi => go (p + i) (by omega) (h3 _ (by omega) (by omega))) (by
    show step (nI (p + (ru f Z p - p))) = _
    rw [show p + (ru f Z p - p) = ru f Z p by omega]
    rcases Nat.lt_or_ge (ru f Z p) Z with h5 | h5
    · exact st _ h5 (h4.resolve_left (by omega))
    · rw [show ru f Z p = Z by omega]; exact en) q_N (q_lt_N (by omega))
  exact this
/-- where the token that begins at a place ends -/
def eR (σ : SG) (p : Nat) : Nat := if isL (sn σ p) then ru (fun q => isL (sn σ q)) (sZ σ) (p + 1) else if isD (sn σ p) then ru (fun q => isD (sn σ q)) (sZ σ) (p + 1) else p + 1
theorem eR_ok (σ : SG) {p : Nat} (hp : p < sZ σ) : p < eR σ p ∧ eR σ p ≤ sZ σ := by
  unfold eR
  split
  · have := ru_ok (fun q => isL (sn σ q)) (show p + 1 ≤ sZ σ by omega); omega
  · split
    · have := ru_ok (fun q => isD (sn σ q)) (show p + 1 ≤ sZ σ by omega); omega
    · omega
theorem c_endOfRow (d : TD h t σ) (hz : sZ σ ≤ 600) {p : Nat} (hp : p < sZ σ) : F_X7_endOfRow h t (nI p) = some (nI (eR σ p)) := by
  have e0 := c_byte d hz hp
  have l0 := c_isL h (sg_lt (sT σ p))
  have d0 := c_isD h (sg_lt (sT σ p))
  have l1 : F_X7_isLetter h (nI (sn σ p)) = some (nI (if isL (sn σ p) then 1 else 0)) := l0
  have d1 : F_X7_isDigit h (nI (sn σ p)) = some (nI (if isD (sn σ p) then 1 else 0)) := d0
  unfold eR
  cases eL : isL (sn σ p) with
  | true =>
    rw [if_pos rfl]
    rw [eL] at l1
    have l1 : F_X7_isLetter h (nI (sn σ p)) = some (nI 1) := l1
    have lp : q_lp (s_X7_endOfRow_15 h t) q_N (nI (p + 1)) = some (nI (ru (fun q => isL (sn σ q)) (sZ σ) (p + 1))) := lp_run (by omega) hz (fun q hq hf => by
      have e := c_byte d hz hq
      have l := c_isL h (sg_lt (sT σ q))
      have l : F_X7_isLetter h (nI (sn σ q)) = some (nI (if isL (sn σ q) then 1 else 0)) := l
      rw [show isL (sn σ q) = true from hf, if_pos rfl] at l
      simp (disch := omega) only [s_X7_endOfRow_15, b_X7_endOfRow_15, nS, tS d, e, l]) (fun q hq hf => by
      have e := c_byte d hz hq
      have l := c_isL h (sg_lt (sT σ q))
      have l : F_X7_isLetter h (nI (sn σ q)) = some (nI (if isL (sn σ q) then 1 else 0)) := l
      rw [show isL (sn σ q) = false from hf, if_neg (by decide)] at l
      simp (disch := omega) only [s_X7_endOfRow_15, b_X7_endOfRow_15, nS, tS d, e, l]) (by simp (disch := omega) only [s_X7_endOfRow_15, b_X7_endOfRow_15, nS, tS d])
    simp (disch := omega) only [F_X7_endOfRow, nS, tS d, e0, l1, lp]
  | false =>
    rw [if_neg (by decide)]
    rw [eL] at l1
    have l1 : F_X7_isLetter h (nI (sn σ p)) = some (nI 0) := l1
    cases eD : isD (sn σ p) with
    | true =>
      rw [if_pos rfl]
      rw [eD] at d1
      have d1 : F_X7_isDigit h (nI (sn σ p)) = some (nI 1) := d1
      have lp : q_lp (s_X7_endOfRow_51 h t) q_N (nI (p + 1)) = some (nI (ru (fun q => isD (sn σ q)) (sZ σ) (p + 1))) := lp_run (by omega) hz (fun q hq hf => by
        have e := c_byte d hz hq
        have l := c_isD h (sg_lt (sT σ q))
        have l : F_X7_isDigit h (nI (sn σ q)) = some (nI (if isD (sn σ q) then 1 else 0)) := l
        rw [show isD (sn σ q) = true from hf, if_pos rfl] at l
        simp (disch := omega) only [s_X7_endOfRow_51, b_X7_endOfRow_51, nS, tS d, e, l]) (fun q hq hf => by
        have e := c_byte d hz hq
        have l := c_isD h (sg_lt (sT σ q))
        have l : F_X7_isDigit h (nI (sn σ q)) = some (nI (if isD (sn σ q) then 1 else 0)) := l
        rw [show isD (sn σ q) = false from hf, if_neg (by decide)] at l
        simp (disch := omega) only [s_X7_endOfRow_51, b_X7_endOfRow_51, nS, tS d, e, l]) (by simp (disch := omega) only [s_X7_endOfRow_51, b_X7_endOfRow_51, nS, tS d])
      simp (disch := omega) only [F_X7_endOfRow, nS, tS d, e0, l1, d1, lp]
    | false =>
      rw [if_neg (by decide)]
      rw [eD] at d1
      have d1 : F_X7_isDigit h (nI (sn σ p)) = some (nI 0) := d1
      simp (disch := omega) only [F_X7_endOfRow, nS, tS d, e0, l1, d1]
/-- the signs from a place up to another -/
def lt (σ : SG) (p e : Nat) : List Nat := (List.range (e - p)).map (fun i => sn σ (p + i))
theorem lt_len (σ : SG) (p e : Nat) : (lt σ p e).length = e - p := by simp [lt]
theorem lt_at (σ : SG) {p e i : Nat} (hi : i < e - p) : (lt σ p e).getD i 0 = sn σ (p + i) := by simp [lt, hi]
theorem ext_getD {l k : List Nat} (hl : l.length = k.length) (h : ∀ i, i < l.length → l.getD i 0 = k.getD i 0) : l = k := by
  apply List.ext_getElem hl
  intro i h1 h2
  have := h i h1
  rw [List.getD_eq_getElem?_getD, List.getD_eq_getElem?_getD, List.getElem?_eq_getElem h1, List.getElem?_eq_getElem h2] at this
  exact this
theorem c_isName (tx : Tx h z) (d : TD h t σ) (hz : sZ σ ≤ 600) {p e i : Nat} (h18 : i < 18) (hp : p < e) (he : e ≤ sZ σ) : F_X7_isName h t (nI p) (nI e) (z (4 + i)) = some (nI (if lt σ p e = nmT i then 1 else 0)) := by
  obtain ⟨t1, t2⟩ := tx i h18
  have t3 := (nm_len i h18).2
  by_cases hl : (nmT i).length = e - p
  · have st : ∀ j, j < (nmT i).length → s_X7_isName_15 h t (nI p) (z (4 + i)) (nI j) = if ¬ sn σ (p + j) = (nmT i).getD j 0 then some (.inr (.inl ())) else some (.inl (nI (j + 1))) := by
      intro j hj
      have e1 := c_byte d hz (p := p + j) (by omega)
      have e2 := t2 j hj
      have b1 : sn σ (p + j) < 256 := sg_lt _
      have b2 := (nm_chr i h18 j hj).2.2
      by_cases hc : sn σ (p + j) = (nmT i).getD j 0
      · rw [if_neg (fun q => q hc)]
        rw [← hc] at e2
        simp (disch := omega) only [s_X7_isName_15, b_X7_isName_15, nS, t1, tS d, e1, e2]
      · rw [if_pos hc]
        simp (disch := omega) only [s_X7_isName_15, b_X7_isName_15, nS, t1, tS d, e1, e2]
    have hstop : s_X7_isName_15 h t (nI p) (z (4 + i)) (nI (nmT i).length) = some (.inr (.inr ())) := by
      simp (disch := omega) only [s_X7_isName_15, b_X7_isName_15, nS, t1]
    rcases q_lp_find (ρ := Unit ⊕ Unit) (step := s_X7_isName_15 h t (nI p) (z (4 + i))) (nmT i).length (by omega) (fun j => ¬ sn σ (p + j) = (nmT i).getD j 0) (yes := fun _ => .inl ()) (no := .inr ()) (fun j hj hp => by rw [st j hj, if_pos hp]) (fun j hj hp => by rw [st j hj, if_neg hp]) hstop (N := q_N) (q_lt_N (by omega)) with ⟨j, hj, hno, -, hl2⟩ | ⟨hall, hl2⟩
    · rw [if_neg (fun q => hno (by rw [← q, lt_at σ (by omega)]))]
      simp (disch := omega) only [F_X7_isName, nS, t1, hl2]
    · have : lt σ p e = nmT i := ext_getD (by rw [lt_len]; exact hl.symm) (fun j hj => by
        rw [lt_len] at hj
        rw [lt_at σ hj]
        exact Classical.byContradiction (hall j (by omega)))
      rw [if_pos this]
      simp (disch := omega) only [F_X7_isName, nS, t1, hl2]
  · rw [if_neg (fun q => hl (by rw [← q, lt_len]))]
    simp (disch := omega) only [F_X7_isName, nS, t1]
end LXC
