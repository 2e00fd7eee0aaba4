/-! ===== what is kept, what changes ===== -/
def On {α : Type} (S : List Nat) (A A' : Nat → α) : Prop := ∀ j, j ∉ S → A' j = A j
theorem On.rf {α : Type} {S : List Nat} {A : Nat → α} : On S A A := fun _ _ => rfl
theorem On.tr {α : Type} {S : List Nat} {A A1 A2 : Nat → α} (h1 : On S A A1) (h2 : On S A1 A2) : On S A A2 := fun j hj => (h2 j hj).trans (h1 j hj)
theorem On.mo {α : Type} {S T : List Nat} {A A1 : Nat → α} (h1 : On S A A1) (hs : ∀ j, j ∈ S → j ∈ T) : On T A A1 := fun j hj => h1 j (fun q => hj (hs j q))
theorem On.up {α : Type} {S : List Nat} {A : Nat → Nat → α} {k : Nat} {f : Nat → α} (hk : k ∈ S) : On S A (upF A k f) := fun j hj => upF_ne _ _ (fun e => hj (e ▸ hk))
theorem On.ud {S : List Nat} {I : Nat → Int32} {k : Nat} {x : Int32} (hk : k ∈ S) : On S I (upd I k x) := fun j hj => pk_un (fun e => hj (e ▸ hk))
theorem On.uL {S : List Nat} {I : Nat → Int64} {k : Nat} {x : Int64} (hk : k ∈ S) : On S I (vp_updL I k x) := fun j hj => pk_uLn (fun e => hj (e ▸ hk))
/-! ===== the persistent state: tape, size, fault, place, counts; books, evenings, logs, towns ===== -/
abbrev SG : Type := (Nat → Int32) × Nat × Int32 × Int32 × (Nat → Nat) × (Nat → Nat → Int32) × (Nat → Nat → Int32) × (Nat → Nat → Int32) × (Nat → Nat → Int32)
def sT (σ : SG) := σ.1
def sZ (σ : SG) := σ.2.1
def sF (σ : SG) := σ.2.2.1
def sP (σ : SG) := σ.2.2.2.1
def sC (σ : SG) := σ.2.2.2.2.1
def sB (σ : SG) := σ.2.2.2.2.2.1
def sE (σ : SG) := σ.2.2.2.2.2.2.1
def sG (σ : SG) := σ.2.2.2.2.2.2.2.1
def sW (σ : SG) := σ.2.2.2.2.2.2.2.2
/-- an evening: how many deeds; each its kind and its number -/
def EV (e : Nat → Int32) : Prop := ∃ n, n ≤ 40 ∧ e 0 = nI n ∧ ∀ k, k < n → (∃ d, d < 7 ∧ e (1 + 2 * k) = nI d ∧ ((d = 0 → ∃ l, l < 20 ∧ e (2 + 2 * k) = nI l) ∧ (d = 1 ∨ d = 2 → ∃ p, p < 6 ∧ e (2 + 2 * k) = nI p) ∧ (3 ≤ d → e (2 + 2 * k) = m1)))
/-- a log: how many voices; each who -/
def LV (g : Nat → Int32) : Prop := ∃ n, n ≤ 12 ∧ g 0 = nI n ∧ ∀ k, k < n → ∃ p, p < 7 ∧ g (1 + k) = nI p
/-- a town: how many houses; walls, books, louds -/
def TV (t : Nat → Int32) : Prop := ∃ n, 2 ≤ n ∧ n ≤ 9 ∧ t 0 = nI n ∧ (∀ k, k < 8 → ∃ w, 0 < w ∧ w < 10 ∧ t (1 + k) = nI w) ∧ ∀ k, k < 9 → (∃ b, b < 2 ∧ t (9 + k) = nI b) ∧ ∃ l, l < 10 ∧ t (18 + k) = nI l
def SGok (σ : SG) : Prop := sZ σ ≤ 600 ∧ (∀ s, s < 4 → sC σ s ≤ 2) ∧ (∀ k, k < sC σ 0 → BV (sB σ k)) ∧ (∀ k, k < sC σ 1 → EV (sE σ k)) ∧ (∀ k, k < sC σ 2 → LV (sG σ k)) ∧ (∀ k, k < sC σ 3 → TV (sW σ k)) ∧ ∀ i, fits .byte (.int (sT σ i)) = true
/-- the reference's rows, slot j -/
def PM (A : Nat → Nat → Int32) (j : Nat) (σ : SG) : Prop := (∀ i, i < 600 → A 1 (600 * j + i) = sT σ i) ∧ A 2 j = nI (sZ σ) ∧ A 3 j = sF σ ∧ A 4 j = sP σ ∧ (∀ s, s < 4 → A 5 (4 * j + s) = nI (sC σ s)) ∧ (∀ k i, k < 2 → i < 112 → A 6 (224 * j + (112 * k + i)) = sB σ k i) ∧ (∀ k i, k < 2 → i < 81 → A 7 (162 * j + (81 * k + i)) = sE σ k i) ∧ (∀ k i, k < 2 → i < 13 → A 8 (26 * j + (13 * k + i)) = sG σ k i) ∧ ∀ k i, k < 2 → i < 27 → A 9 (54 * j + (27 * k + i)) = sW σ k i
theorem PM.cg {A A' : Nat → Nat → Int32} {j : Nat} {σ : SG} {S : List Nat} (h : PM A j σ) (hA : On S A A') (hS : ∀ k, k ∈ S → 10 ≤ k) : PM A' j σ := by
  have e : ∀ k, k < 10 → A' k = A k := fun k hk => hA k (fun q => by have := hS k q; omega)
  unfold PM
  rw [e 1 (by omega), e 2 (by omega), e 3 (by omega), e 4 (by omega), e 5 (by omega), e 6 (by omega), e 7 (by omega), e 8 (by omega), e 9 (by omega)]
  exact h
section HD
variable {h : qH} {a : Nat} {A : Nat → Nat → Int32} {B : Nat → Nat → Int64} {I : Nat → Int32} {J : Nat → Int64} {σ : SG}
theorem d_in_in (h : qH) {j n : Nat} (hj : j < n) (hn : n < 2 ^ 31) : F_X12_in h (nI j) (nI 0) (nI n - nI 1) = some (nI 1) := by
  simp (disch := omega) only [F_X12_in, nS, if_pos, if_neg]
theorem d_in_out (h : qH) {x : Int32} {n : Nat} (hx : nOut x n) (hn : n < 2 ^ 31) : F_X12_in h x (nI 0) (nI n - nI 1) = some (nI 0) := by
  unfold F_X12_in
  rcases hx with hx | hx
  · rw [if_pos (show x < nI 0 from hx)]; rfl
  · by_cases h0 : x < nI 0
    · rw [if_pos h0]; rfl
    · rw [if_neg h0, if_pos]
      · rfl
      · obtain ⟨j, hj, rfl⟩ := nI_of h0
        have := (nI_leI hn hj).mp hx
        cases n with
        | zero => simp (disch := omega) only [nS]
        | succ n => simp (disch := omega) only [nS]; omega
theorem q_z0 : q_z (nI 0) = some (nI 0) := rfl
theorem q_z1 : q_z (nI 1) = some (nI 1) := rfl
theorem d_is_in (o : OB h a 12 mdL A B I J) (pm : PM A 0 σ) (ok : SGok σ) {s j : Nat} (hs : s < 4) (hj : j < sC σ s) : F_X12_is h a (nI s) (nI j) = some (nI 1) := by
  have := ok.2.1 s hs
  have e := pm.2.2.2.2.1 s hs
  simp only [Nat.mul_zero, Nat.zero_add] at e
  simp (disch := omega) only [F_X12_is, X12_rd o, Option.bind_some, e]
  rw [n_lit, n_lit, d_in_in h hj (by omega)]
  rfl
theorem d_is_out (o : OB h a 12 mdL A B I J) (pm : PM A 0 σ) (ok : SGok σ) {s : Nat} {x : Int32} (hs : s < 4) (hx : nOut x (sC σ s)) : F_X12_is h a (nI s) x = some (nI 0) := by
  have := ok.2.1 s hs
  have e := pm.2.2.2.2.1 s hs
  simp only [Nat.mul_zero, Nat.zero_add] at e
  simp (disch := omega) only [F_X12_is, X12_rd o, Option.bind_some, e]
  rw [n_lit, n_lit, d_in_out h hx (by omega)]
  rfl
/-- a follower is laid -/
theorem d_add (o : OB h a 12 mdL A B I J) {fl : Nat → List Nat} {L : Nat} (hL : L ≤ 20) (fr : FolR (A 26) (A 25) 20 fl) (fo : FolOk L 20 fl) {l k : Nat} (hl : l < L) (hk : k < L) : ∃ h' A', F_X12_addFollower h a (nI l) (nI k) = some h' ∧ OB h' a 12 mdL A' B I J ∧ Fr h h' a (a + 27) ∧ On [25, 26] A A' ∧ FolR (A' 26) (A' 25) 20 (addF fl (l, k)) := by
  have hlen := fo.len (l := l) (by omega)
  have f1 := (fr l (by omega)).1
  have f2 := (fr l (by omega)).2
  have hx : ∀ i, i < (fl l).length → (fl l).getD i 0 < L := fun i hi => (fo l (by omega)).2 _ (mem_find.mpr ⟨i, hi, rfl⟩)
  have st : ∀ i, i < (fl l).length → s_X12_addFollower_2 h a (nI l) (nI k) (nI i) = if (fl l).getD i 0 = k then some (.inr (.inl ())) else some (.inl (nI (i + 1))) := by
    intro i hi
    have := hx i hi
    unfold s_X12_addFollower_2
    simp (disch := omega) only [b_X12_addFollower_2, X12_rd o, nS, Option.bind_some, f1, f2 i hi, if_neg]
  have hstop : s_X12_addFollower_2 h a (nI l) (nI k) (nI (fl l).length) = some (.inr (.inr ())) := by
    unfold s_X12_addFollower_2
    simp (disch := omega) only [b_X12_addFollower_2, X12_rd o, nS, Option.bind_some, f1, if_pos]
  unfold F_X12_addFollower
  rw [n_lit]
  rcases q_lp_find (ρ := Unit ⊕ Unit) (step := s_X12_addFollower_2 h a (nI l) (nI k)) (fl l).length (by omega) (fun i => (fl l).getD i 0 = k) (yes := fun _ => .inl ()) (no := .inr ()) (fun i hi hp => by rw [st i hi, if_pos hp]) (fun i hi hp => by rw [st i hi, if_neg hp]) hstop (N := q_N) (q_lt_N (by omega)) with ⟨i, hi, hp, -, he⟩ | ⟨hp, he⟩
  · refine ⟨h, A, by rw [he]; rfl, o, Fr.rf, On.rf, ?_⟩
    have : addF fl (l, k) = fl := by unfold addF; rw [if_pos (mem_find.mpr ⟨i, hi, hp⟩)]
    rw [this]
    exact fr
  · have hn : k ∉ fl l := fun q => by obtain ⟨i, hi, hp2⟩ := mem_find.mp q; exact hp i hi hp2
    have hr := fo.room (l := l) (by omega) hk hn
    obtain ⟨h1, e1, o1, r1⟩ := X12_s25 o (i := 20 * l + (fl l).length) (nI k) (by omega)
    obtain ⟨h2, e2, o2, r2⟩ := X12_s26 o1 (i := l) (nI ((fl l).length + 1)) (by omega)
    refine ⟨h2, _, ?_, o2, r1.tr r2, (On.up (by decide)).tr (On.up (by decide)), ?_⟩
    · rw [he]
      show ((q_fR h a 12 25).bind _) = _
      simp (disch := omega) only [X12_rd o, nS, Option.bind_some, f1, e1, X12_rd o1, upF_ne _ _ (show (26 : Nat) ≠ 25 by decide), e2]
    · exact fr.add (fun j hj => Nat.le_trans (fo.len hj) hL) (by omega) hn (by omega)
theorem fold_snoc {α β : Type} (f : β → α → β) (xs : List α) (b : β) {i : Nat} {x : α} (hx : xs[i]? = some x) : (xs.take (i + 1)).foldl f b = f ((xs.take i).foldl f b) x := by
  have hi : i < xs.length := (List.getElem?_eq_some_iff.mp hx).1
  have he : xs[i] = x := (List.getElem?_eq_some_iff.mp hx).2
  rw [List.take_succ_eq_append_getElem hi, List.foldl_append, he]
  rfl
theorem d_hand_out (o : OB h a 12 mdL A B I J) (pm : PM A 0 σ) (ok : SGok σ) {x : Int32} (hx : nOut x (sC σ 0)) : ∃ h' I', F_X12_hand h a x = some (nI 0, h') ∧ OB h' a 12 mdL A B I' J ∧ Fr h h' a (a + 27) ∧ On [23, 24] I I' := by
  obtain ⟨h1, e1, o1, r1⟩ := X12_p23 o x
  refine ⟨h1, _, ?_, o1, r1, On.ud (by decide)⟩
  unfold F_X12_hand
  rw [e1, Option.bind_some, o1.ob, Option.bind_some, n_lit 0, d_is_out o1 pm ok (by omega) hx, Option.bind_some, if_pos rfl]
theorem d_hand_in (o : OB h a 12 mdL A B I J) (pm : PM A 0 σ) (ok : SGok σ) {k : Nat} (hk : k < sC σ 0) : ∃ h' A' I', F_X12_hand h a (nI k) = some (nI 1, h') ∧ OB h' a 12 mdL A' B I' J ∧ Fr h h' a (a + 27) ∧ On [25, 26] A A' ∧ On [23, 24] I I' ∧ HB A' I' (sB σ k) k := by
  have hc := ok.2.1 0 (by omega)
  have hv := ok.2.2.1 k hk
  obtain ⟨b, hb⟩ : ∃ b, b = sB σ k := ⟨_, rfl⟩
  rw [← hb] at hv ⊢
  have hrow : ∀ i, i < 112 → A 6 (112 * k + i) = b i := fun i hi => by
    have := pm.2.2.2.2.2.1 k i (by omega) hi
    rw [show 224 * 0 + (112 * k + i) = 112 * k + i by omega] at this
    rw [this, hb]
  have hbL : bL b ≤ 20 := hv.1
  have hbN : bN b ≤ 8 := hv.2.2.1
  obtain ⟨h1, e1, o1, r1⟩ := X12_p23 o (nI k)
  obtain ⟨h2, e2, o2, r2⟩ := X12_p24 o1 (nI (bL b))
  obtain ⟨I2, hI2⟩ : ∃ I2, I2 = upd (upd I 23 (nI k)) 24 (nI (bL b)) := ⟨_, rfl⟩
  rw [← hI2] at o2
  have i23 : I2 23 = nI k := by rw [hI2]; rfl
  have i24 : I2 24 = nI (bL b) := by rw [hI2]; rfl
  have onI : On [23, 24] I I2 := by rw [hI2]; exact (On.ud (by decide)).tr (On.ud (by decide))
  have hof : ∀ {h' : qH} {A' : Nat → Nat → Int32}, OB h' a 12 mdL A' B I2 J → On [25, 26] A A' → ∀ i, i < 112 → F_X12_of h' a (nI i) = some (b i) := by
    intro h' A' o' hA i hi
    have h6 : A' 6 = A 6 := hA 6 (by decide)
    simp (disch := omega) only [F_X12_of, X12_rd o', nS, i23, Option.bind_some, h6, hrow]
  have hof0 : F_X12_of h1 a (nI 0) = some (nI (bL b)) := by
    rw [← hv.2.1]
    simp (disch := omega) only [F_X12_of, X12_rd o1, nS, show upd I 23 (nI k) 23 = nI k from rfl, Option.bind_some, hrow]
  -- the three loops
  have l1 : ∃ h3, q_lp (s_X12_hand_27 a) q_N (nI 0, h2) = some h3 ∧ ∃ A3, OB h3 a 12 mdL A3 B I2 J ∧ Fr h h3 a (a + 27) ∧ On [25, 26] A A3 ∧ ∀ l, l < 20 → A3 26 l = nI 0 := by
    refine q_lp_idx (fun i s => s.1 = nI i ∧ ∃ A3, OB s.2 a 12 mdL A3 B I2 J ∧ Fr h s.2 a (a + 27) ∧ On [25, 26] A A3 ∧ ∀ l, l < i → A3 26 l = nI 0) 20 _ ?_ ?_ q_N (nI 0, h2) ⟨rfl, A, o2, r1.tr r2, On.rf, fun l hl => by omega⟩ (by decide)
    · rintro i ⟨x, hh⟩ hi ⟨hx, A3, o3, r3, n3, z3⟩
      dsimp only at hx o3 r3
      subst hx
      obtain ⟨h4, e4, o4, r4⟩ := X12_s26 o3 (i := i) (nI 0) (by omega)
      refine ⟨(nI (i + 1), h4), ?_, rfl, _, o4, r3.tr r4, n3.tr (On.up (by decide)), fun l hl => ?_⟩
      · simp (disch := omega) only [s_X12_hand_27, b_X12_hand_27, X12_rd o3, nS, Option.bind_some, if_neg, e4]
      · rw [upF_self]
        by_cases hli : l = i
        · subst hli; exact pk_us
        · rw [pk_un hli]; exact z3 l (by omega)
    · rintro ⟨x, hh⟩ ⟨hx, A3, o3, r3, n3, z3⟩
      dsimp only at hx o3 r3
      subst hx
      exact ⟨hh, by simp (disch := omega) only [s_X12_hand_27, b_X12_hand_27, nS, if_pos], A3, o3, r3, n3, z3⟩
  obtain ⟨h3, e3, A3, o3, r3, n3, z3⟩ := l1
  have fo : ∀ i, FolOk (bL b) 20 (((bCand b).take i).foldl addF (fun _ => [])) := fun i => FolOk.fold _ (folOk_nil _ _) (fun q hq => (bCand_ok hv q (List.mem_of_mem_take hq)).2)
  have c1 : ∀ i, i < bL b - 1 → (bCand b)[i]? = some ((b (4 + (i + 1))).toNatClampNeg, i + 1) := fun i hi => by
    unfold bCand
    rw [List.getElem?_append_left (by simp; omega)]
    simp [hi]
  have c2 : ∀ i, i < bN b → (bCand b)[bL b - 1 + i]? = some ((b (84 + i)).toNatClampNeg, (b (92 + i)).toNatClampNeg) := fun i hi => by
    unfold bCand
    rw [List.getElem?_append_right (by simp)]
    simp [hi]
  have l2 : ∃ h4, q_lp (s_X12_hand_48 a) q_N (nI 1, h3) = some h4 ∧ ∃ A4, OB h4 a 12 mdL A4 B I2 J ∧ Fr h h4 a (a + 27) ∧ On [25, 26] A A4 ∧ FolR (A4 26) (A4 25) 20 (((bCand b).take (bL b - 1)).foldl addF (fun _ => [])) := by
    refine q_lp_idx (fun i s => s.1 = nI (i + 1) ∧ ∃ A4, OB s.2 a 12 mdL A4 B I2 J ∧ Fr h s.2 a (a + 27) ∧ On [25, 26] A A4 ∧ FolR (A4 26) (A4 25) 20 (((bCand b).take i).foldl addF (fun _ => []))) (bL b - 1) _ ?_ ?_ q_N (nI 1, h3) ⟨rfl, A3, o3, r3, n3, fun l hl => ⟨by rw [z3 l hl]; rfl, fun j hj => by simp at hj⟩⟩ (q_lt_N (by omega))
    · rintro i ⟨x, hh⟩ hi ⟨hx, A4, o4, r4, n4, z4⟩
      dsimp only at hx o4 r4
      subst hx
      obtain ⟨⟨cu, hcu, ecu⟩, -⟩ := hv.2.2.2.2.1 (i + 1) (by omega)
      obtain ⟨h5, A5, e5, o5, r5, n5, z5⟩ := d_add o4 hbL z4 (fo i) (l := cu) (k := i + 1) hcu (by omega)
      refine ⟨(nI (i + 1 + 1), h5), ?_, rfl, A5, o5, r4.tr r5, n4.tr n5, ?_⟩
      · simp (disch := omega) only [s_X12_hand_48, b_X12_hand_48, X12_rd o4, nS, i24, Option.bind_some, if_neg, hof o4 n4, ecu, e5]
      · rw [fold_snoc _ _ _ (c1 i hi), ecu, nI_cl (by omega)]
        exact z5
    · rintro ⟨x, hh⟩ ⟨hx, A4, o4, r4, n4, z4⟩
      dsimp only at hx o4 r4
      subst hx
      exact ⟨hh, by simp (disch := omega) only [s_X12_hand_48, b_X12_hand_48, X12_rd o4, i24, Option.bind_some, nS, if_pos], A4, o4, r4, n4, z4⟩
  obtain ⟨h4, e4, A4, o4, r4, n4, z4⟩ := l2
  have l3 : ∃ h5, q_lp (s_X12_hand_76 a) q_N (nI 0, h4) = some h5 ∧ ∃ A5, OB h5 a 12 mdL A5 B I2 J ∧ Fr h h5 a (a + 27) ∧ On [25, 26] A A5 ∧ FolR (A5 26) (A5 25) 20 (((bCand b).take (bL b - 1 + bN b)).foldl addF (fun _ => [])) := by
    refine q_lp_idx (fun i s => s.1 = nI i ∧ ∃ A4, OB s.2 a 12 mdL A4 B I2 J ∧ Fr h s.2 a (a + 27) ∧ On [25, 26] A A4 ∧ FolR (A4 26) (A4 25) 20 (((bCand b).take (bL b - 1 + i)).foldl addF (fun _ => []))) (bN b) _ ?_ ?_ q_N (nI 0, h4) ⟨rfl, A4, o4, r4, n4, z4⟩ (q_lt_N (by omega))
    · rintro i ⟨x, hh⟩ hi ⟨hx, A4, o4, r4, n4, z4⟩
      dsimp only at hx o4 r4
      subst hx
      obtain ⟨⟨cf, hcf, ecf⟩, ⟨ct, hct, ect⟩⟩ := hv.2.2.2.2.2.1 i hi
      obtain ⟨h5, A5, e5, o5, r5, n5, z5⟩ := d_add o4 hbL z4 (fo _) (l := cf) (k := ct) hcf hct
      refine ⟨(nI (i + 1), h5), ?_, rfl, A5, o5, r4.tr r5, n4.tr n5, ?_⟩
      · simp (disch := omega) only [s_X12_hand_76, b_X12_hand_76, X12_rd o4, nS, Option.bind_some, if_neg, hof o4 n4, hv.2.2.2.1, ecf, ect, e5]
      · rw [← Nat.add_assoc, fold_snoc _ _ _ (c2 i hi), ecf, ect, nI_cl (by omega), nI_cl (by omega)]
        exact z5
    · rintro ⟨x, hh⟩ ⟨hx, A4, o4, r4, n4, z4⟩
      dsimp only at hx o4 r4
      subst hx
      exact ⟨hh, by simp (disch := omega) only [s_X12_hand_76, b_X12_hand_76, X12_rd o4, hof o4 n4, hv.2.2.2.1, Option.bind_some, nS, if_pos], A4, o4, r4, n4, z4⟩
  obtain ⟨h5, e5, A5, o5, r5, n5, z5⟩ := l3
  have hlen : (bCand b).length = bL b - 1 + bN b := by simp [bCand]
  refine ⟨h5, A5, I2, ?_, o5, r5, n5, onI, hv, by omega, i23, i24, ?_, ?_⟩
  · have hi := d_is_in o1 pm ok (s := 0) (by omega) hk
    simp (disch := omega) only [F_X12_hand, e1, o1.ob, Option.bind_some, nS, hi, if_neg, hof0, e2, e3, e4, e5]
  · rw [n5 6 (by decide)]
    exact hrow
  · rw [← hlen, List.take_length] at z5
    exact z5
end HD
