/-! ===== the call text: the reference's token ===== -/
def pkW (l : List Nat) : Int64 := l.foldl (fun x c => q_lshl x (nI 8) ||| (nI c).toInt64) (lN 0)
theorem pkW_snoc (l : List Nat) (c : Nat) : pkW (l ++ [c]) = q_lshl (pkW l) (nI 8) ||| (nI c).toInt64 := by
  unfold pkW
  rw [List.foldl_append]
  rfl
theorem lt_snoc (σ : SG) (p i : Nat) : lt σ p (p + (i + 1)) = lt σ p (p + i) ++ [sn σ (p + i)] := by
  unfold lt
  rw [show p + (i + 1) - p = i + 1 by omega, show p + i - p = i by omega, List.range_succ, List.map_append]
  rfl
/-- what the reference calls the token at a place: 0 the end, 1 bad, 2 a word, 3 a number, 4 the sign -/
def rs (σ : SG) (p : Nat) : Nat := if sZ σ ≤ p then 0 else if isL (sn σ p) then 2 else if isD (sn σ p) then (if eR σ p - p ≤ 2 then 3 else 1) else if sn σ p = 59 then 4 else 1
def wcd (σ : SG) (p : Nat) : Int64 := if eR σ p - p ≤ 8 then pkW (lt σ p (eR σ p)) else lN 0
def LA (σ : SG) (i : Nat) (I : Nat → Int32) (J : Nat → Int64) : Prop := I 10 = nI (pos σ (i + 1)) ∧ I 11 = nI (sZ σ) ∧ I 12 = nI (bg σ i) ∧ I 13 = nI (rs σ (bg σ i)) ∧ (rs σ (bg σ i) = 3 → I 14 = nI (num σ (bg σ i))) ∧ (rs σ (bg σ i) = 2 → J 15 = wcd σ (bg σ i))
section TKD
variable {h : qH} {a : Nat} {σ : SG} {A : Nat → Nat → Int32} {B : Nat → Nat → Int64} {I : Nat → Int32} {J : Nat → Int64}
def TP (A : Nat → Nat → Int32) (σ : SG) : Prop := ∀ p, p < 600 → A 1 p = sT σ p
theorem d_see (o : OB h a 12 mdL A B I J) (tp : TP A σ) (hz : sZ σ ≤ 600) (i11 : I 11 = nI (sZ σ)) {p : Nat} (hp : p < sZ σ) (i10 : I 10 = nI p) : F_X12_see h a = some (nI (sn σ p)) := by
  have e1 := tp p (by omega)
  have e2 := sg_eq (sT σ p)
  simp (disch := omega) only [F_X12_see, nS, X12_rd o, i10, i11, e1, e2]
  rfl
theorem d_seeE (o : OB h a 12 mdL A B I J) (hz : sZ σ ≤ 600) (i11 : I 11 = nI (sZ σ)) (i10 : I 10 = nI (sZ σ)) : F_X12_see h a = some m1 := by
  simp (disch := omega) only [F_X12_see, nS, X12_rd o, i10, i11]
theorem d_ws (o : OB h a 12 mdL A B I J) (tp : TP A σ) (hz : sZ σ ≤ 600) (i11 : I 11 = nI (sZ σ)) {p : Nat} (hp : p ≤ sZ σ) (i10 : I 10 = nI p) : ∃ h' I', q_lp (s_X12_token_0 a) q_N h = some h' ∧ OB h' a 12 mdL A B I' J ∧ I' 10 = nI (sta σ p) ∧ On [10] I I' ∧ Fr h h' a (a + 27) := by
  obtain ⟨g1, g2, g3, g4⟩ := ru_ok (ws σ) hp
  obtain ⟨h', e', I', k1, k2, k3, k4⟩ := q_lp_idx (step := s_X12_token_0 a) (fun i g => ∃ I', OB g a 12 mdL A B I' J ∧ I' 10 = nI (p + i) ∧ On [10] I I' ∧ Fr h g a (a + 27)) (sta σ p - p) (fun g => ∃ I', OB g a 12 mdL A B I' J ∧ I' 10 = nI (sta σ p) ∧ On [10] I I' ∧ Fr h g a (a + 27)) (by
    rintro i g hi ⟨I1, o1, j10, n1, r1⟩
    have hi : i < ru (ws σ) (sZ σ) p - p := hi
    have j11 : I1 11 = nI (sZ σ) := (n1 11 (by decide)).trans i11
    have es := d_see o1 tp hz j11 (p := p + i) (by omega) j10
    have hw := g3 (p + i) (by omega) (by omega)
    obtain ⟨g2', e2, o2, r2⟩ := X12_p10 o1 (nI (p + i + 1))
    refine ⟨g2', ?_, _, o2, by simp (disch := omega) only [uS]; rfl, n1.tr (On.ud (by decide)), r1.tr r2⟩
    rcases isW_t.mp hw with h10 | h32
    · simp (disch := omega) only [s_X12_token_0, b_X12_token_0, j_X12_token_18, nS, o1.ob, es, h10, X12_rd o1, j10, e2]
    · simp (disch := omega) only [s_X12_token_0, b_X12_token_0, j_X12_token_18, nS, o1.ob, es, h32, X12_rd o1, j10, e2]) (by
    rintro g ⟨I1, o1, j10, n1, r1⟩
    have hq : p + (sta σ p - p) = sta σ p := by have := sta_ok σ hp; omega
    rw [hq] at j10
    refine ⟨g, ?_, I1, o1, j10, n1, r1⟩
    have j11 : I1 11 = nI (sZ σ) := (n1 11 (by decide)).trans i11
    have hle := (sta_ok σ hp).2
    rcases Nat.lt_or_ge (sta σ p) (sZ σ) with hlt | hge
    · have es := d_see o1 tp hz j11 hlt j10
      have hw := isW_f.mp (show ws σ (sta σ p) = false from g4.resolve_left (by show ¬ sta σ p = sZ σ; omega))
      have b0 : sn σ (sta σ p) < 256 := sg_lt _
      simp (disch := omega) only [s_X12_token_0, b_X12_token_0, nS, o1.ob, es]
    · rw [show sta σ p = sZ σ by omega] at j10
      have es := d_seeE o1 hz j11 j10
      simp (disch := omega) only [s_X12_token_0, b_X12_token_0, nS, o1.ob, es]) q_N h ⟨I, o, by rw [Nat.add_zero]; exact i10, On.rf, Fr.rf⟩ (q_lt_N (by have := sta_ok σ hp; omega))
  exact ⟨h', I', e', k1, k2, k3, k4⟩
/-- the letters of a word -/
theorem d_letters (o : OB h a 12 mdL A B I J) (tp : TP A σ) (hz : sZ σ ≤ 600) (i11 : I 11 = nI (sZ σ)) {p : Nat} (hp : p < sZ σ) (hL : isL (sn σ p) = true) (i10 : I 10 = nI p) (j15 : J 15 = lN 0) : ∃ h' I' J', q_lp (s_X12_token_74 a) q_N (nI 0, h) = some (nI (eR σ p - p), h') ∧ OB h' a 12 mdL A B I' J' ∧ I' 10 = nI (eR σ p) ∧ J' 15 = pkW (lt σ p (eR σ p)) ∧ On [10] I I' ∧ On [15] J J' ∧ Fr h h' a (a + 27) := by
  have hE : eR σ p = ru (fun q => isL (sn σ q)) (sZ σ) (p + 1) := by unfold eR; rw [if_pos hL]
  obtain ⟨g1, g2, g3, g4⟩ := ru_ok (fun q => isL (sn σ q)) (show p + 1 ≤ sZ σ by omega)
  rw [← hE] at g1 g2 g3 g4
  have all : ∀ q, p ≤ q → q < eR σ p → isL (sn σ q) = true := fun q q1 q2 => by
    by_cases e : q = p
    · subst e; exact hL
    · exact g3 q (by omega) q2
  obtain ⟨⟨x, h'⟩, e', hx, I', J', k1, k2, k3, k4, k5, k6⟩ := q_lp_idx (step := s_X12_token_74 a) (fun i s => s.1 = nI i ∧ ∃ I' J', OB s.2 a 12 mdL A B I' J' ∧ I' 10 = nI (p + i) ∧ J' 15 = pkW (lt σ p (p + i)) ∧ On [10] I I' ∧ On [15] J J' ∧ Fr h s.2 a (a + 27)) (eR σ p - p) (fun s => s.1 = nI (eR σ p - p) ∧ ∃ I' J', OB s.2 a 12 mdL A B I' J' ∧ I' 10 = nI (eR σ p) ∧ J' 15 = pkW (lt σ p (eR σ p)) ∧ On [10] I I' ∧ On [15] J J' ∧ Fr h s.2 a (a + 27)) (by
    rintro i ⟨x, g⟩ hi ⟨hx, I1, J1, o1, j10, l15, n1, m1', r1⟩
    dsimp only at hx o1 r1
    subst hx
    have j11 : I1 11 = nI (sZ σ) := (n1 11 (by decide)).trans i11
    have es := d_see o1 tp hz j11 (p := p + i) (by omega) j10
    have hl := isL_t.mp (all (p + i) (by omega) (by omega))
    have hin := in_in g (n := sn σ (p + i)) (lo := 97) (hi := 122) (by omega) hl.1 hl.2
    obtain ⟨g2', e2, o2, r2⟩ := X12_p15 o1 (q_lshl (pkW (lt σ p (p + i))) (nI 8) ||| (nI (sn σ (p + i))).toInt64)
    obtain ⟨g3', e3, o3, r3⟩ := X12_p10 o2 (nI (p + i + 1))
    refine ⟨(nI (i + 1), g3'), ?_, rfl, _, _, o3, by simp (disch := omega) only [uS]; rfl, ?_, n1.tr (On.ud (by decide)), m1'.tr (On.uL (by decide)), (r1.tr r2).tr r3⟩
    · have e15 : q_fL g a 12 15 = some (pkW (lt σ p (p + i))) := by rw [← l15]; exact o1.fL (k := 15) rfl
      have e10 : q_fI g2' a 12 10 = some (nI (p + i)) := by rw [← j10]; exact o2.fI (k := 10) rfl
      show b_X12_token_74 a (nI i) g = _
      unfold b_X12_token_74
      rw [o1.ob, Option.bind_some, es, Option.bind_some, n_lit 97, n_lit 122, hin, Option.bind_some, if_neg (by decide), e15, Option.bind_some, Option.bind_some, Option.bind_some, n_lit 8, e2, Option.bind_some, e10, Option.bind_some, n_lit 1, nI_add, e3, Option.bind_some, nI_add]
    · rw [lt_snoc, pkW_snoc]
      exact pk_uLs) (by
    rintro ⟨x, g⟩ ⟨hx, I1, J1, o1, j10, l15, n1, m1', r1⟩
    dsimp only at hx o1 r1
    subst hx
    rw [show p + (eR σ p - p) = eR σ p by omega] at j10 l15
    refine ⟨(nI (eR σ p - p), g), ?_, rfl, I1, J1, o1, j10, l15, n1, m1', r1⟩
    have j11 : I1 11 = nI (sZ σ) := (n1 11 (by decide)).trans i11
    have hz0 : ∃ y, F_X12_see g a = some y ∧ F_X12_in g y (nI 97) (nI 122) = some (nI 0) := by
      rcases Nat.lt_or_ge (eR σ p) (sZ σ) with hlt | hge
      · have hf := isL_f.mp (g4.resolve_left (by omega))
        have b0 : sn σ (eR σ p) < 256 := sg_lt _
        exact ⟨_, d_see o1 tp hz j11 hlt j10, in_out g (by omega) (by omega) (Or.inr ⟨_, rfl, by omega, by omega⟩)⟩
      · rw [show eR σ p = sZ σ by omega] at j10
        exact ⟨_, d_seeE o1 hz j11 j10, in_out g (by omega) (by omega) (Or.inl (by decide))⟩
    obtain ⟨y, y1, y2⟩ := hz0
    show b_X12_token_74 a (nI (eR σ p - p)) g = _
    unfold b_X12_token_74
    rw [o1.ob, Option.bind_some, y1, Option.bind_some, n_lit 97, n_lit 122, y2, Option.bind_some, if_pos (by decide)]) q_N (nI 0, h) ⟨rfl, I, J, o, by rw [Nat.add_zero]; exact i10, by rw [Nat.add_zero, j15]; unfold lt; rw [Nat.sub_self]; rfl, On.rf, On.rf, Fr.rf⟩ (q_lt_N (by omega))
  dsimp only at hx k1 k6
  subst hx
  exact ⟨h', I', J', e', k1, k2, k3, k4, k5, k6⟩
/-- the first digits of a number -/
def dg (σ : SG) (p i : Nat) : Nat := if i = 0 then 0 else if i = 1 then sn σ p - 48 else (sn σ p - 48) * 10 + (sn σ (p + 1) - 48)
theorem d_digits (o : OB h a 12 mdL A B I J) (tp : TP A σ) (hz : sZ σ ≤ 600) (i11 : I 11 = nI (sZ σ)) {p : Nat} (hp : p < sZ σ) (hL : isL (sn σ p) = false) (hD : isD (sn σ p) = true) (i10 : I 10 = nI p) (i14 : I 14 = nI 0) : ∃ h' I', q_lp (s_X12_token_163 a) q_N (nI 0, h) = some (nI (eR σ p - p), h') ∧ OB h' a 12 mdL A B I' J ∧ I' 10 = nI (eR σ p) ∧ I' 14 = nI (dg σ p (eR σ p - p)) ∧ On [10, 14] I I' ∧ Fr h h' a (a + 27) := by
  have hE : eR σ p = ru (fun q => isD (sn σ q)) (sZ σ) (p + 1) := by unfold eR; rw [hL, if_neg (by decide), if_pos hD]
  obtain ⟨g1, g2, g3, g4⟩ := ru_ok (fun q => isD (sn σ q)) (show p + 1 ≤ sZ σ by omega)
  rw [← hE] at g1 g2 g3 g4
  have all : ∀ q, p ≤ q → q < eR σ p → isD (sn σ q) = true := fun q q1 q2 => by
    by_cases e : q = p
    · subst e; exact hD
    · exact g3 q (by omega) q2
  obtain ⟨⟨x, h'⟩, e', hx, I', k1, k2, k3, k4, k6⟩ := q_lp_idx (step := s_X12_token_163 a) (fun i s => s.1 = nI i ∧ ∃ I', OB s.2 a 12 mdL A B I' J ∧ I' 10 = nI (p + i) ∧ I' 14 = nI (dg σ p i) ∧ On [10, 14] I I' ∧ Fr h s.2 a (a + 27)) (eR σ p - p) (fun s => s.1 = nI (eR σ p - p) ∧ ∃ I', OB s.2 a 12 mdL A B I' J ∧ I' 10 = nI (eR σ p) ∧ I' 14 = nI (dg σ p (eR σ p - p)) ∧ On [10, 14] I I' ∧ Fr h s.2 a (a + 27)) (by
    rintro i ⟨x, g⟩ hi ⟨hx, I1, o1, j10, j14, n1, r1⟩
    dsimp only at hx o1 r1
    subst hx
    have j11 : I1 11 = nI (sZ σ) := (n1 11 (by decide)).trans i11
    have es := d_see o1 tp hz j11 (p := p + i) (by omega) j10
    have hl := isD_t.mp (all (p + i) (by omega) (by omega))
    have hin := in_in g (n := sn σ (p + i)) (lo := 48) (hi := 57) (by omega) hl.1 hl.2
    obtain ⟨g2', e2, o2, r2⟩ := X12_p14 o1 (nI (dg σ p (i + 1)))
    obtain ⟨g3', e3, o3, r3⟩ := X12_p10 o2 (nI (p + i + 1))
    have j10' : upd I1 14 (nI (dg σ p (i + 1))) 10 = nI (p + i) := by simp (disch := omega) only [uS]; exact j10
    refine ⟨(nI (i + 1), g3'), ?_, rfl, _, o3, by simp (disch := omega) only [uS]; rfl, by simp (disch := omega) only [uS], (n1.tr (On.ud (by decide))).tr (On.ud (by decide)), (r1.tr r2).tr r3⟩
    rcases (show i = 0 ∨ i = 1 ∨ 2 ≤ i by omega) with rfl | rfl | h2
    · have hd : dg σ p (0 + 1) = 10 * dg σ p 0 + sn σ (p + 0) - 48 := by simp [dg]
      rw [hd] at e2 j10' o2 o3
      have hb : dg σ p 0 = 0 := rfl
      simp (disch := omega) only [s_X12_token_163, b_X12_token_163, j_X12_token_205, j_X12_token_205_2, nS, o1.ob, es, hin, X12_rd o1, j14, e2, X12_rd o2, j10', e3]
    · have h0 := isD_t.mp hD
      have hb : dg σ p 1 = sn σ p - 48 := rfl
      have hd : dg σ p (1 + 1) = 10 * dg σ p 1 + sn σ (p + 1) - 48 := by
        rw [hb]
        show (sn σ p - 48) * 10 + (sn σ (p + 1) - 48) = _
        omega
      rw [hd] at e2 j10' o2 o3
      simp (disch := omega) only [s_X12_token_163, b_X12_token_163, j_X12_token_205, j_X12_token_205_2, nS, o1.ob, es, hin, X12_rd o1, j14, e2, X12_rd o2, j10', e3]
    · have hd : dg σ p (i + 1) = dg σ p i := by
        unfold dg
        rw [if_neg (by omega), if_neg (by omega), if_neg (by omega), if_neg (by omega)]
      rw [hd] at e2 j10' o2 o3
      simp (disch := omega) only [s_X12_token_163, b_X12_token_163, j_X12_token_205, j_X12_token_205_2, nS, o1.ob, es, hin, X12_rd o1, j14, e2, X12_rd o2, j10', e3]) (by
    rintro ⟨x, g⟩ ⟨hx, I1, o1, j10, j14, n1, r1⟩
    dsimp only at hx o1 r1
    subst hx
    rw [show p + (eR σ p - p) = eR σ p by omega] at j10
    refine ⟨(nI (eR σ p - p), g), ?_, rfl, I1, o1, j10, j14, n1, r1⟩
    have j11 : I1 11 = nI (sZ σ) := (n1 11 (by decide)).trans i11
    have hz0 : ∃ y, F_X12_see g a = some y ∧ F_X12_in g y (nI 48) (nI 57) = some (nI 0) := by
      rcases Nat.lt_or_ge (eR σ p) (sZ σ) with hlt | hge
      · have hf := isD_f.mp (g4.resolve_left (by omega))
        have b0 : sn σ (eR σ p) < 256 := sg_lt _
        exact ⟨_, d_see o1 tp hz j11 hlt j10, in_out g (by omega) (by omega) (Or.inr ⟨_, rfl, by omega, by omega⟩)⟩
      · rw [show eR σ p = sZ σ by omega] at j10
        exact ⟨_, d_seeE o1 hz j11 j10, in_out g (by omega) (by omega) (Or.inl (by decide))⟩
    obtain ⟨y, y1, y2⟩ := hz0
    show b_X12_token_163 a (nI (eR σ p - p)) g = _
    unfold b_X12_token_163
    rw [o1.ob, Option.bind_some, y1, Option.bind_some, n_lit 48, n_lit 57, y2, Option.bind_some, if_pos (by decide)]) q_N (nI 0, h) ⟨rfl, I, o, by rw [Nat.add_zero]; exact i10, i14, On.rf, Fr.rf⟩ (q_lt_N (by omega))
  dsimp only at hx k1 k6
  subst hx
  exact ⟨h', I', e', k1, k2, k3, k4, k6⟩
end TKD
