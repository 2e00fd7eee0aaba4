/-! ===== the reference: its object, a book out of its row of 112 numbers ===== -/
def mdL : List (Nat × Nat) := [(0, 0), (4, 2400), (1, 4), (1, 4), (1, 4), (1, 16), (1, 896), (1, 648), (1, 104), (1, 216), (0, 0), (0, 0), (0, 0), (0, 0), (0, 0), (2, 0), (0, 0), (0, 0), (0, 0), (1, 112), (1, 4), (0, 0), (0, 0), (0, 0), (0, 0), (1, 400), (1, 20), (0, 0), (1, 30), (1, 420), (1, 200), (3, 20), (3, 20), (0, 0), (1, 20), (1, 20), (0, 0), (0, 0), (1, 169), (0, 0), (3, 240), (3, 240), (1, 240), (2, 0), (0, 0), (0, 0), (0, 0), (1, 4000), (5, 3)]
def bL (b : Nat → Int32) : Nat := (b 0).toNatClampNeg
def bN (b : Nat → Int32) : Nat := (b 1).toNatClampNeg
/-- the pairs line, follower in the order in which they come -/
def bCand (b : Nat → Int32) : List (Nat × Nat) := (List.range (bL b - 1)).map (fun i => ((b (4 + (i + 1))).toNatClampNeg, i + 1)) ++ (List.range (bN b)).map (fun i => ((b (84 + i)).toNatClampNeg, (b (92 + i)).toNatClampNeg))
def bFol (b : Nat → Int32) : Nat → List Nat := (bCand b).foldl addF (fun _ => [])
/-- what holds of every book that was told -/
def BV (b : Nat → Int32) : Prop := bL b ≤ 20 ∧ b 0 = nI (bL b) ∧ bN b ≤ 8 ∧ b 1 = nI (bN b) ∧ (∀ l, l < bL b → (∃ c, c < bL b ∧ b (4 + l) = nI c) ∧ (∃ p, p < 6 ∧ b (24 + l) = nI p) ∧ (∃ q, q < 10 ∧ b (44 + l) = nI q) ∧ ∃ q, q < 10 ∧ b (64 + l) = nI q) ∧ (∀ i, i < bN b → (∃ f, f < bL b ∧ b (84 + i) = nI f) ∧ ∃ t, t < bL b ∧ b (92 + i) = nI t) ∧ (∀ p, p < 6 → (∃ d, d ≤ 10 ∧ b (100 + p) = nI d) ∧ (b (106 + p) = 0 ∨ b (106 + p) = 1)) ∧ (∃ f, f < 10 ∧ b 2 = nI f) ∧ ∃ c, 0 < c ∧ c < 10 ∧ b 3 = nI c
/-- the book as numbers -/
def bMB (b : Nat → Int32) : MB := (bL b, fun k l => match k with
  | 0 => b (4 + l)
  | 1 => b (24 + l)
  | 2 => b (44 + l)
  | 3 => b (64 + l)
  | 4 => if b (106 + (b (24 + l)).toNatClampNeg) = 1 then 0 else b (64 + l)
  | 5 => b (84 + l)
  | 6 => b (92 + l)
  | 7 => b (100 + l)
  | _ => b (106 + l), bFol b, fun k => match k with
  | 0 => b 1
  | 1 => b 2
  | _ => b 3)
theorem bCand_ok {b : Nat → Int32} (hb : BV b) : ∀ q ∈ bCand b, q.1 < bL b ∧ q.2 < bL b := by
  obtain ⟨h0, h1, h2, h3, h4, h5, h6⟩ := hb
  intro q hq
  rcases List.mem_append.mp hq with hq | hq
  · obtain ⟨i, hi, rfl⟩ := List.mem_map.mp hq
    have hi := List.mem_range.mp hi
    obtain ⟨⟨c, hc, he⟩, -⟩ := h4 (i + 1) (by omega)
    refine ⟨?_, by dsimp only; omega⟩
    dsimp only
    rw [he, nI_clamp (by omega)]
    exact hc
  · obtain ⟨i, hi, rfl⟩ := List.mem_map.mp hq
    have hi := List.mem_range.mp hi
    obtain ⟨⟨f, hf, he⟩, ⟨t, ht, he2⟩⟩ := h5 i hi
    dsimp only
    rw [he, he2, nI_clamp (by omega), nI_clamp (by omega)]
    exact ⟨hf, ht⟩
theorem folOk_nil (L N : Nat) : FolOk L N (fun _ => []) := fun l _ => ⟨List.nodup_nil, fun x hx => by cases hx⟩
theorem bFol_ok {b : Nat → Int32} (hb : BV b) : FolOk (bL b) 20 (bFol b) := FolOk.fold _ (folOk_nil _ _) (fun q hq => (bCand_ok hb q hq).2)
theorem bMB_ok {b : Nat → Int32} (hb : BV b) : MBok (bMB b) := by
  have h0 := hb.1
  have hf := bFol_ok hb
  obtain ⟨-, -, -, -, h4, -, h6, h7, h8⟩ := hb
  refine ⟨h0, fun l hl => ?_, fun l hl => ?_, fun l hl => ?_, fun l hl => ?_, fun p hp => ?_, h7, h8⟩
  · have hl : l < bL b := hl
    exact ⟨Nat.le_trans (hf.len (l := l) (by omega)) h0, (hf l (by omega)).2⟩
  · obtain ⟨-, ⟨p, hp, he⟩, -⟩ := h4 l hl
    exact ⟨p, hp, he⟩
  · have hl : l < bL b := hl
    exact (hf l (by omega)).1
  · obtain ⟨⟨c, hc, e0⟩, -, h2, h3⟩ := h4 l hl
    have hl : l < bL b := hl
    refine ⟨⟨c, by omega, e0⟩, h2, h3, ?_⟩
    show ∃ q, q < 10 ∧ (if b (106 + (b (24 + l)).toNatClampNeg) = 1 then 0 else b (64 + l)) = nI q
    split
    · exact ⟨0, by omega, rfl⟩
    · exact h3
  · exact h6 p hp
