/-! ===== the call text: a book is settled ===== -/
section SET
variable {h : qH} {a e : Nat} {σ : SG} {n m : Nat} {z : Nat → Nat} {u v : Int32} {A : Nat → Nat → Int32} {B : Nat → Nat → Int64} {I : Nat → Int32} {J : Nat → Int64} {b : Nat → Int32}
/-- a book with followers of its own -/
def bMBf (b : Nat → Int32) (fl : Nat → List Nat) : MB := ((bMB b).1, (bMB b).2.1, fl, (bMB b).2.2.2)
theorem bMBf_ok (hb : BV b) {fl : Nat → List Nat} (fo : FolOk (bL b) 20 fl) : MBok (bMBf b fl) := by
  obtain ⟨h1, -, h3, -, h5, h6, h7, h8⟩ := bMB_ok hb
  have hL : bL b ≤ 20 := hb.1
  refine ⟨h1, fun l hl => ?_, h3, fun l hl => ?_, h5, h6, h7, h8⟩
  · have hl : l < bL b := hl
    exact ⟨Nat.le_trans (fo.len (l := l) (by omega)) hL, (fo l (by omega)).2⟩
  · have hl : l < bL b := hl
    exact (fo l (by omega)).1
theorem c_addF (hb : BV b) {fl : Nat → List Nat} (fo : FolOk (bL b) 20 fl) (o : OB h a 0 bkL A B I J) (cc : CBc (bMBf b fl) A I) {l k : Nat} (hl : l < bL b) (hk : k < bL b) : ∃ h' A', F_X0_addFollower h a (nI l) (nI k) = some h' ∧ OB h' a 0 bkL A' B I J ∧ CBc (bMBf b (addF fl (l, k))) A' I ∧ On [9, 10] A A' ∧ Fr h h' a (a + 12) := by
  have cb : CB h a (bMBf b fl) := ⟨bMBf_ok hb fo, A, B, I, J, o, cc⟩
  have hL : bL b ≤ 20 := hb.1
  have hl' : l < mbL (bMBf b fl) := hl
  have hk' : k < mbL (bMBf b fl) := hk
  have e1 := c_has_in cb hl'
  have e2 := c_has_in cb hk'
  have e3 := c_follows cb hl' (show k < 2 ^ 31 by omega)
  have e3 : F_X0_follows h a (nI l) (nI k) = some (if k ∈ fl l then 1 else 0) := e3
  by_cases hm : k ∈ fl l
  · rw [if_pos hm] at e3
    have ea : addF fl (l, k) = fl := by unfold addF; rw [if_pos hm]
    refine ⟨h, A, ?_, o, by rw [ea]; exact cc, On.rf, Fr.rf⟩
    unfold F_X0_addFollower
    rw [o.ob, Option.bind_some, e1, Option.bind_some, if_neg (by decide), Option.bind_some, e2, Option.bind_some, if_neg (by decide), Option.bind_some, e3, Option.bind_some, if_neg (by decide)]
  · rw [if_neg hm] at e3
    have hr := fo.room (l := l) (by omega) hk hm
    obtain ⟨c1, c2, c3, c4⟩ := cc
    have c4 : FolR (A 10) (A 9) (bL b) fl := c4
    have f1 : A 10 l = nI (fl l).length := (c4 l hl).1
    obtain ⟨h1, q1, o1, r1⟩ := X0_s9 o (i := 20 * l + (fl l).length) (nI k) (by omega)
    obtain ⟨h2, q2, o2, r2⟩ := X0_s10 o1 (i := l) (nI ((fl l).length + 1)) (by omega)
    have g10 : q_fR h a 0 10 = some (a + 11) := o.fR (k := 10) rfl rfl
    have g9 : q_fR h a 0 9 = some (a + 10) := o.fR (k := 9) rfl rfl
    have g10' : q_fR h1 a 0 10 = some (a + 11) := o1.fR (k := 10) rfl rfl
    have ga : q_aI h .int (a + 11) (nI l) = some (nI (fl l).length) := by
      rw [← f1]; exact q_ixI (fun i h0 h1 => o.aI (k := 10) rfl h0 h1) (show l < 20 by omega) (by decide)
    have ei : nI l * (20 : Int32) + nI (fl l).length = nI (20 * l + (fl l).length) := by rw [n_lit 20, pk_mul, nI_add, Nat.mul_comm]
    refine ⟨h2, _, ?_, o2, ⟨c1, fun k' l' q1 q2 => ?_, fun p hp => ?_, ?_⟩, (On.up (by decide)).tr (On.up (by decide)), r1.tr r2⟩
    · unfold F_X0_addFollower
      rw [o.ob, Option.bind_some, e1, Option.bind_some, if_neg (by decide), Option.bind_some, e2, Option.bind_some, if_neg (by decide), Option.bind_some, e3, Option.bind_some, if_pos rfl, g10, Option.bind_some, ga, Option.bind_some, if_neg (show ¬ nI (fl l).length < (0 : Int32) from nI_pos (by omega)), if_neg (show ¬ (20 : Int32) ≤ nI (fl l).length from nI_ge (b := 20) (by omega) (by omega)), g9, Option.bind_some, ei, q1, Option.bind_some, g10', Option.bind_some, n_lit 1, nI_add, q2, Option.bind_some]
    · rw [upF_ne _ _ (by omega), upF_ne _ _ (by omega)]
      exact c2 k' l' q1 q2
    · rw [upF_ne _ _ (by omega), upF_ne _ _ (by omega), upF_ne _ _ (by omega), upF_ne _ _ (by omega)]
      exact c3 p hp
    · have := c4.add (fun j hj => Nat.le_trans (fo.len (l := j) (by omega)) hL) hl hm (by omega)
      rw [upF_self, upF_ne _ _ (show (10 : Nat) ≠ 9 by decide), upF_ne _ _ (show (9 : Nat) ≠ 10 by decide), upF_self]
      exact this
theorem c_settle (hb : BV b) (o : OB h a 0 bkL A B I J) (ck : CBk b A I) : ∃ h' A', F_X0_settle h a = some h' ∧ OB h' a 0 bkL A' B I J ∧ CBc (bMB b) A' I ∧ Fr h h' a (a + 12) := by
  obtain ⟨⟨c12, c11, c13, c14⟩, k2, k3, k4⟩ := ck
  have hL : bL b ≤ 20 := hb.1
  have hN : bN b ≤ 8 := hb.2.2.1
  have v0 := hb.2.1
  have v1 := hb.2.2.2.1
  have i12 : I 12 = nI (bL b) := by rw [c12]; exact v0
  have i11 : I 11 = nI (bN b) := by rw [c11]; exact v1
  have k2 : ∀ l, l < bL b → A 0 l = b (4 + l) ∧ A 1 l = b (24 + l) ∧ A 2 l = b (44 + l) ∧ A 3 l = b (64 + l) := k2
  have k3 : ∀ i, i < bN b → A 5 i = b (84 + i) ∧ A 6 i = b (92 + i) := k3
  have l1 : ∃ h3, q_lp (s_X0_settle_2 a) q_N ((0 : Int32), h) = some h3 ∧ ∃ A3, OB h3 a 0 bkL A3 B I J ∧ On [4, 10] A A3 ∧ (∀ l, l < bL b → A3 10 l = nI 0 ∧ A3 4 l = mbR (bMB b) 4 l) ∧ Fr h h3 a (a + 12) := by
    refine q_lp_idx (step := s_X0_settle_2 a) (fun i v => v.1 = nI i ∧ ∃ A3, OB v.2 a 0 bkL A3 B I J ∧ On [4, 10] A A3 ∧ (∀ l, l < i → A3 10 l = nI 0 ∧ A3 4 l = mbR (bMB b) 4 l) ∧ Fr h v.2 a (a + 12)) (bL b) _ ?_ ?_ q_N ((0 : Int32), h) ⟨rfl, A, o, On.rf, fun l hl => by omega, Fr.rf⟩ (q_lt_N (by omega))
    · rintro i ⟨x, g⟩ hi ⟨hx, A3, o3, n3, z3, r3⟩
      dsimp only at hx o3 r3
      subst hx
      obtain ⟨-, ⟨p, hp, ep⟩, -, -⟩ := hb.2.2.2.2.1 i hi
      have hch := (hb.2.2.2.2.2.2.1 p hp).2
      obtain ⟨g4, q4, o4, r4⟩ := X0_s10 o3 (i := i) (nI 0) (by omega)
      have f12 : q_fI g a 0 12 = some (nI (bL b)) := by rw [← i12]; exact o3.fI (k := 12) rfl
      have f10 : q_fR g a 0 10 = some (a + 11) := o3.fR (k := 10) rfl rfl
      have f4 : q_fR g4 a 0 4 = some (a + 5) := o4.fR (k := 4) rfl rfl
      have f1 : q_fR g4 a 0 1 = some (a + 2) := o4.fR (k := 1) rfl rfl
      have f3 : q_fR g4 a 0 3 = some (a + 4) := o4.fR (k := 3) rfl rfl
      have f8 : q_fR g4 a 0 8 = some (a + 9) := o4.fR (k := 8) rfl rfl
      have w1 : q_aI g4 .int (a + 2) (nI i) = some (nI p) := by
        have : upF A3 10 (upd (A3 10) i (nI 0)) 1 i = nI p := by rw [upF_ne _ _ (by decide), n3 1 (by decide), (k2 i hi).2.1, ep]
        rw [← this]; exact q_ixI (fun i h0 h1 => o4.aI (k := 1) rfl h0 h1) (show i < 20 by omega) (by decide)
      have w3 : q_aI g4 .int (a + 4) (nI i) = some (b (64 + i)) := by
        have : upF A3 10 (upd (A3 10) i (nI 0)) 3 i = b (64 + i) := by rw [upF_ne _ _ (by decide), n3 3 (by decide), (k2 i hi).2.2.2]
        rw [← this]; exact q_ixI (fun i h0 h1 => o4.aI (k := 3) rfl h0 h1) (show i < 20 by omega) (by decide)
      have w8 : q_aI g4 .int (a + 9) (nI p) = some (b (106 + p)) := by
        have : upF A3 10 (upd (A3 10) i (nI 0)) 8 p = b (106 + p) := by rw [upF_ne _ _ (by decide), n3 8 (by decide), (k4 p hp).2]
        rw [← this]; exact q_ixI (fun i h0 h1 => o4.aI (k := 8) rfl h0 h1) hp (by decide)
      have isC : F_X0_isChild g4 a (nI p) = some (if b (106 + p) = 1 then 1 else 0) := by
        unfold F_X0_isChild
        rw [if_neg (show ¬ nI p < (0 : Int32) from nI_pos (by omega)), if_neg (show ¬ (6 : Int32) ≤ nI p from nI_ge (b := 6) hp (by omega)), f8, Option.bind_some, w8, Option.bind_some]
        split <;> rfl
      have mr : mbR (bMB b) 4 i = if b (106 + p) = 1 then 0 else b (64 + i) := by
        show (if b (106 + (b (24 + i)).toNatClampNeg) = 1 then 0 else b (64 + i)) = _
        rw [ep, nI_cl (by omega)]
      obtain ⟨g5, q5, o5, r5⟩ := X0_s4 o4 (i := i) (mbR (bMB b) 4 i) (by omega)
      refine ⟨(nI (i + 1), g5), ?_, rfl, _, o5, (n3.tr (On.up (by decide))).tr (On.up (by decide)), fun l hl => ?_, (r3.tr r4).tr r5⟩
      · show b_X0_settle_2 a (nI i) g = _
        have q4 : q_sI g .int (a + 11) (nI i) (0 : Int32) = some g4 := q4
        unfold b_X0_settle_2
        rw [f12, Option.bind_some, if_neg (nI_ge hi (by omega)), if_neg (show ¬ (20 : Int32) ≤ nI i from nI_ge (b := 20) (by omega) (by omega)), f10, Option.bind_some, q4, Option.bind_some, f4, Option.bind_some, f1, Option.bind_some, w1, Option.bind_some, o4.ob, Option.bind_some, isC, Option.bind_some]
        rw [mr] at q5
        by_cases hc : b (106 + p) = 1
        · rw [if_pos hc] at q5 ⊢
          rw [if_neg (by decide), q5, Option.bind_some, n_lit 1, nI_add]
        · rw [if_neg hc] at q5 ⊢
          rw [if_pos rfl, f3, Option.bind_some, w3, Option.bind_some, q5, Option.bind_some, n_lit 1, nI_add]
      · rw [upF_ne _ _ (show (10 : Nat) ≠ 4 by decide), upF_self, upF_self, upF_ne _ _ (show (4 : Nat) ≠ 10 by decide)]
        by_cases el : l = i
        · subst el; exact ⟨pk_us, pk_us⟩
        · rw [pk_un el, pk_un el]; exact z3 l (by omega)
    · rintro ⟨x, g⟩ ⟨hx, A3, o3, n3, z3, r3⟩
      dsimp only at hx o3 r3
      subst hx
      refine ⟨g, ?_, A3, o3, n3, z3, r3⟩
      have f12 : q_fI g a 0 12 = some (nI (bL b)) := by rw [← i12]; exact o3.fI (k := 12) rfl
      show b_X0_settle_2 a (nI (bL b)) g = _
      unfold b_X0_settle_2
      rw [f12, Option.bind_some, if_pos (nI_le (Nat.le_refl _) (by omega))]
  obtain ⟨h3, e3, A3, o3, n3, z3, r3⟩ := l1
  have cc3 : CBc (bMBf b (fun _ => [])) A3 I := by
    refine ⟨⟨i12, c13, c14⟩, fun k l hk hl => ?_, fun p hp => ?_, fun l hl => ⟨(z3 l hl).1, fun k hk => absurd hk (Nat.not_lt_zero _)⟩⟩
    · have hl : l < bL b := hl
      rcases (show k = 0 ∨ k = 1 ∨ k = 2 ∨ k = 3 ∨ k = 4 by omega) with rfl | rfl | rfl | rfl | rfl
      · rw [n3 0 (by decide)]; exact (k2 l hl).1
      · rw [n3 1 (by decide)]; exact (k2 l hl).2.1
      · rw [n3 2 (by decide)]; exact (k2 l hl).2.2.1
      · rw [n3 3 (by decide)]; exact (k2 l hl).2.2.2
      · exact (z3 l hl).2
    · rw [n3 7 (by decide), n3 8 (by decide)]; exact k4 p hp
  have fo : ∀ i, FolOk (bL b) 20 (((bCand b).take i).foldl addF (fun _ => [])) := fun i => FolOk.fold _ (folOk_nil _ _) (fun q hq => (bCand_ok hb q (List.mem_of_mem_take hq)).2)
  have d1 : ∀ i, i < bL b - 1 → (bCand b)[i]? = some ((b (4 + (i + 1))).toNatClampNeg, i + 1) := fun i hi => by
    unfold bCand
    rw [List.getElem?_append_left (by simp; omega)]
    simp [hi]
  have d2 : ∀ i, i < bN b → (bCand b)[bL b - 1 + i]? = some ((b (84 + i)).toNatClampNeg, (b (92 + i)).toNatClampNeg) := fun i hi => by
    unfold bCand
    rw [List.getElem?_append_right (by simp)]
    simp [hi]
  have l2 : ∃ h4, q_lp (s_X0_settle_60 a) q_N ((1 : Int32), h3) = some h4 ∧ ∃ A4, OB h4 a 0 bkL A4 B I J ∧ On [9, 10] A3 A4 ∧ CBc (bMBf b (((bCand b).take (bL b - 1)).foldl addF (fun _ => []))) A4 I ∧ Fr h h4 a (a + 12) := by
    refine q_lp_idx (step := s_X0_settle_60 a) (fun i v => v.1 = nI (i + 1) ∧ ∃ A4, OB v.2 a 0 bkL A4 B I J ∧ On [9, 10] A3 A4 ∧ CBc (bMBf b (((bCand b).take i).foldl addF (fun _ => []))) A4 I ∧ Fr h v.2 a (a + 12)) (bL b - 1) _ ?_ ?_ q_N ((1 : Int32), h3) ⟨rfl, A3, o3, On.rf, cc3, r3⟩ (q_lt_N (by omega))
    · rintro i ⟨x, g⟩ hi ⟨hx, A4, o4, n4, c4, r4⟩
      dsimp only at hx o4 r4
      subst hx
      obtain ⟨⟨cu, hcu, ecu⟩, -⟩ := hb.2.2.2.2.1 (i + 1) (by omega)
      obtain ⟨g5, A5, e5, o5, c5, n5, r5⟩ := c_addF hb (fo i) o4 c4 (l := cu) (k := i + 1) hcu (by omega)
      have f12 : q_fI g a 0 12 = some (nI (bL b)) := by rw [← i12]; exact o4.fI (k := 12) rfl
      have f0 : q_fR g a 0 0 = some (a + 1) := o4.fR (k := 0) rfl rfl
      have w0 : q_aI g .int (a + 1) (nI (i + 1)) = some (nI cu) := by
        have : A4 0 (i + 1) = nI cu := by rw [n4 0 (by decide), n3 0 (by decide), (k2 (i + 1) (by omega)).1, ecu]
        rw [← this]; exact q_ixI (fun i h0 h1 => o4.aI (k := 0) rfl h0 h1) (show i + 1 < 20 by omega) (by decide)
      refine ⟨(nI (i + 1 + 1), g5), ?_, rfl, A5, o5, n4.tr n5, ?_, r4.tr r5⟩
      · show b_X0_settle_60 a (nI (i + 1)) g = _
        unfold b_X0_settle_60
        rw [f12, Option.bind_some, if_neg (nI_ge (by omega) (by omega)), if_neg (show ¬ (20 : Int32) ≤ nI (i + 1) from nI_ge (b := 20) (by omega) (by omega)), f0, Option.bind_some, w0, Option.bind_some, o4.ob, Option.bind_some, e5, Option.bind_some, n_lit 1, nI_add]
      · rw [fold_snoc _ _ _ (d1 i hi), ecu, nI_cl (by omega)]
        exact c5
    · rintro ⟨x, g⟩ ⟨hx, A4, o4, n4, c4, r4⟩
      dsimp only at hx o4 r4
      subst hx
      refine ⟨g, ?_, A4, o4, n4, c4, r4⟩
      have f12 : q_fI g a 0 12 = some (nI (bL b)) := by rw [← i12]; exact o4.fI (k := 12) rfl
      show b_X0_settle_60 a (nI (bL b - 1 + 1)) g = _
      unfold b_X0_settle_60
      rw [f12, Option.bind_some, if_pos (nI_le (by omega) (by omega))]
  obtain ⟨h4, e4, A4, o4, n4, c4, r4⟩ := l2
  have l3 : ∃ h5, q_lp (s_X0_settle_93 a) q_N ((0 : Int32), h4) = some h5 ∧ ∃ A5, OB h5 a 0 bkL A5 B I J ∧ CBc (bMBf b (((bCand b).take (bL b - 1 + bN b)).foldl addF (fun _ => []))) A5 I ∧ Fr h h5 a (a + 12) := by
    refine q_lp_idx (step := s_X0_settle_93 a) (fun i v => v.1 = nI i ∧ ∃ A5, OB v.2 a 0 bkL A5 B I J ∧ On [9, 10] A3 A5 ∧ CBc (bMBf b (((bCand b).take (bL b - 1 + i)).foldl addF (fun _ => []))) A5 I ∧ Fr h v.2 a (a + 12)) (bN b) _ ?_ ?_ q_N ((0 : Int32), h4) ⟨rfl, A4, o4, n4, c4, r4⟩ (q_lt_N (by omega))
    · rintro i ⟨x, g⟩ hi ⟨hx, A5, o5, n5, c5, r5⟩
      dsimp only at hx o5 r5
      subst hx
      obtain ⟨⟨cf, hcf, ecf⟩, ⟨ct, hct, ect⟩⟩ := hb.2.2.2.2.2.1 i hi
      obtain ⟨g6, A6, e6, o6, c6, n6, r6⟩ := c_addF hb (fo _) o5 c5 (l := cf) (k := ct) hcf hct
      have f11 : q_fI g a 0 11 = some (nI (bN b)) := by rw [← i11]; exact o5.fI (k := 11) rfl
      have f5 : q_fR g a 0 5 = some (a + 6) := o5.fR (k := 5) rfl rfl
      have f6 : q_fR g a 0 6 = some (a + 7) := o5.fR (k := 6) rfl rfl
      have w5 : q_aI g .int (a + 6) (nI i) = some (nI cf) := by
        have : A5 5 i = nI cf := by rw [n5 5 (by decide), n3 5 (by decide), (k3 i hi).1, ecf]
        rw [← this]; exact q_ixI (fun i h0 h1 => o5.aI (k := 5) rfl h0 h1) (show i < 8 by omega) (by decide)
      have w6 : q_aI g .int (a + 7) (nI i) = some (nI ct) := by
        have : A5 6 i = nI ct := by rw [n5 6 (by decide), n3 6 (by decide), (k3 i hi).2, ect]
        rw [← this]; exact q_ixI (fun i h0 h1 => o5.aI (k := 6) rfl h0 h1) (show i < 8 by omega) (by decide)
      refine ⟨(nI (i + 1), g6), ?_, rfl, A6, o6, n5.tr n6, ?_, r5.tr r6⟩
      · show b_X0_settle_93 a (nI i) g = _
        unfold b_X0_settle_93
        rw [f11, Option.bind_some, if_neg (nI_ge hi (by omega)), if_neg (show ¬ (8 : Int32) ≤ nI i from nI_ge (b := 8) (by omega) (by omega)), f5, Option.bind_some, w5, Option.bind_some, f6, Option.bind_some, w6, Option.bind_some, o5.ob, Option.bind_some, e6, Option.bind_some, n_lit 1, nI_add]
      · rw [← Nat.add_assoc, fold_snoc _ _ _ (d2 i hi), ecf, ect, nI_cl (by omega), nI_cl (by omega)]
        exact c6
    · rintro ⟨x, g⟩ ⟨hx, A5, o5, n5, c5, r5⟩
      dsimp only at hx o5 r5
      subst hx
      refine ⟨g, ?_, A5, o5, c5, r5⟩
      have f11 : q_fI g a 0 11 = some (nI (bN b)) := by rw [← i11]; exact o5.fI (k := 11) rfl
      show b_X0_settle_93 a (nI (bN b)) g = _
      unfold b_X0_settle_93
      rw [f11, Option.bind_some, if_pos (nI_le (Nat.le_refl _) (by omega))]
  obtain ⟨h5, e5, A5, o5, c5, r5⟩ := l3
  have hlen : (bCand b).length = bL b - 1 + bN b := by simp [bCand]
  rw [← hlen, List.take_length] at c5
  refine ⟨h5, A5, ?_, o5, c5, r5⟩
  unfold F_X0_settle j_X0_settle_58 j_X0_settle_91
  rw [e3, Option.bind_some, e4, Option.bind_some, e5, Option.bind_some]
/-! what is told in a book -/
def BVk (f : Nat) (T : Nat → Int32) : Prop := (∀ l, l < cn T 0 → (∃ c, c < f ∧ T (4 + l) = nI c) ∧ (∃ p, p < 6 ∧ T (24 + l) = nI p) ∧ (∃ q, q < 10 ∧ T (44 + l) = nI q) ∧ ∃ q, q < 10 ∧ T (64 + l) = nI q) ∧ (∀ i, i < cn T 1 → (∃ c, c < f ∧ T (84 + i) = nI c) ∧ ∃ c, c < f ∧ T (92 + i) = nI c) ∧ (∀ p, p < 6 → (∃ d, d ≤ 10 ∧ T (100 + p) = nI d) ∧ (T (106 + p) = 0 ∨ T (106 + p) = 1)) ∧ (∃ f, f < 10 ∧ T 2 = nI f) ∧ ∃ c, 0 < c ∧ c < 10 ∧ T 3 = nI c
theorem BVk.mo {f f' : Nat} {T : Nat → Int32} (k : BVk f T) (h : f ≤ f') : BVk f' T := by
  obtain ⟨k1, k2, k3⟩ := k
  refine ⟨fun l hl => ?_, fun i hi => ?_, k3⟩
  · obtain ⟨⟨c, c1, c2⟩, r⟩ := k1 l hl
    exact ⟨⟨c, by omega, c2⟩, r⟩
  · obtain ⟨⟨c, c1, c2⟩, ⟨d, d1, d2⟩⟩ := k2 i hi
    exact ⟨⟨c, by omega, c2⟩, ⟨d, by omega, d2⟩⟩
theorem BVk_step {w f : Nat} {x : Nat → Nat} {T : Nat → Int32} (h2 : w < 6) (hf : fuB w T = false) (tb : TB 0 T) (hin : ∀ i, i < nnW w → inB w i (x i) = true) (k : BVk f T) : BVk (frS w x f) (tlS w x T) := by
  obtain ⟨eT, l20, l8⟩ := tlB_ok h2 hf tb hin
  obtain ⟨i0, i1, i2, i3, i4, i5⟩ := inK hin
  obtain ⟨⟨-, t20⟩, -, t8⟩ := tb.1 rfl
  rw [eT]
  rcases (show w = 0 ∨ w = 1 ∨ w = 2 ∨ w = 3 ∨ w = 4 ∨ w = 5 by omega) with rfl | rfl | rfl | rfl | rfl | rfl
  · have hc := l20 rfl
    obtain ⟨q0, q1, q2, q3⟩ := i0 rfl
    have k := k.mo (show f ≤ max f (x 0 + 1) by omega)
    obtain ⟨k1, k2, k3, k4, k5⟩ := k
    have eB : tlB 0 x T = upd (upd (upd (upd (upd T (4 + cn T 0) (nI (x 0))) (24 + cn T 0) (nI (x 1))) (44 + cn T 0) (nI (x 2))) (64 + cn T 0) (nI (x 3))) 0 (nI (cn T 0 + 1)) := rfl
    rw [eB]
    show BVk (max f (x 0 + 1)) _
    refine ⟨fun l hl => ?_, fun i hi => ?_, fun p hp => ?_, ?_, ?_⟩
    · rw [(cn_us (by omega)).1] at hl
      by_cases el : l = cn T 0
      · subst el
        simp (disch := omega) only [uS]
        exact ⟨⟨_, by omega, rfl⟩, ⟨_, by omega, rfl⟩, ⟨_, by omega, rfl⟩, ⟨_, by omega, rfl⟩⟩
      · simp (disch := omega) only [uS]
        exact k1 l (by omega)
    · rw [(cn_un (by omega)).1, (cn_un (by omega)).1, (cn_un (by omega)).1, (cn_un (by omega)).1, (cn_un (by omega)).1] at hi
      simp (disch := omega) only [uS]
      exact k2 i hi
    · simp (disch := omega) only [uS]
      exact k3 p hp
    · simp (disch := omega) only [uS]; exact k4
    · simp (disch := omega) only [uS]; exact k5
  · obtain ⟨q0, q1⟩ := i1 rfl
    obtain ⟨k1, k2, k3, k4, k5⟩ := k
    have eB : tlB 1 x T = upd T (100 + x 0) (nI (x 1)) := rfl
    rw [eB]
    show BVk f _
    refine ⟨fun l hl => ?_, fun i hi => ?_, fun p hp => ?_, ?_, ?_⟩
    · rw [(cn_un (by omega)).1] at hl
      simp (disch := omega) only [uS]
      exact k1 l hl
    · rw [(cn_un (by omega)).1] at hi
      simp (disch := omega) only [uS]
      exact k2 i hi
    · by_cases ep : p = x 0
      · subst ep
        simp (disch := omega) only [uS]
        exact ⟨⟨_, q1, rfl⟩, (k3 _ hp).2⟩
      · simp (disch := omega) only [uS]
        exact k3 p hp
    · simp (disch := omega) only [uS]; exact k4
    · simp (disch := omega) only [uS]; exact k5
  · have hc := l8 rfl
    obtain ⟨q0, q1⟩ := i2 rfl
    have k := k.mo (show f ≤ max (max f (x 0 + 1)) (x 1 + 1) by omega)
    obtain ⟨k1, k2, k3, k4, k5⟩ := k
    have eB : tlB 2 x T = upd (upd (upd T (84 + cn T 1) (nI (x 0))) (92 + cn T 1) (nI (x 1))) 1 (nI (cn T 1 + 1)) := rfl
    rw [eB]
    show BVk (max (max f (x 0 + 1)) (x 1 + 1)) _
    refine ⟨fun l hl => ?_, fun i hi => ?_, fun p hp => ?_, ?_, ?_⟩
    · rw [(cn_un (by omega)).1, (cn_un (by omega)).1, (cn_un (by omega)).1] at hl
      simp (disch := omega) only [uS]
      exact k1 l hl
    · rw [(cn_us (by omega)).1] at hi
      by_cases el : i = cn T 1
      · subst el
        simp (disch := omega) only [uS]
        exact ⟨⟨_, by omega, rfl⟩, ⟨_, by omega, rfl⟩⟩
      · simp (disch := omega) only [uS]
        exact k2 i (by omega)
    · simp (disch := omega) only [uS]
      exact k3 p hp
    · simp (disch := omega) only [uS]; exact k4
    · simp (disch := omega) only [uS]; exact k5
  · have q0 := i3 rfl
    obtain ⟨k1, k2, k3, k4, k5⟩ := k
    have eB : tlB 3 x T = upd T (106 + x 0) (nI 1) := rfl
    rw [eB]
    show BVk f _
    refine ⟨fun l hl => ?_, fun i hi => ?_, fun p hp => ?_, ?_, ?_⟩
    · rw [(cn_un (by omega)).1] at hl
      simp (disch := omega) only [uS]
      exact k1 l hl
    · rw [(cn_un (by omega)).1] at hi
      simp (disch := omega) only [uS]
      exact k2 i hi
    · by_cases ep : p = x 0
      · subst ep
        simp (disch := omega) only [uS]
        exact ⟨(k3 _ hp).1, Or.inr rfl⟩
      · simp (disch := omega) only [uS]
        exact k3 p hp
    · simp (disch := omega) only [uS]; exact k4
    · simp (disch := omega) only [uS]; exact k5
  · have q0 := i4 rfl
    obtain ⟨k1, k2, k3, k4, k5⟩ := k
    have eB : tlB 4 x T = upd T 2 (nI (x 0)) := rfl
    rw [eB]
    show BVk f _
    refine ⟨fun l hl => ?_, fun i hi => ?_, fun p hp => ?_, ⟨_, by omega, pk_us⟩, ?_⟩
    · rw [(cn_un (by omega)).1] at hl
      simp (disch := omega) only [uS]
      exact k1 l hl
    · rw [(cn_un (by omega)).1] at hi
      simp (disch := omega) only [uS]
      exact k2 i hi
    · simp (disch := omega) only [uS]
      exact k3 p hp
    · simp (disch := omega) only [uS]; exact k5
  · obtain ⟨q0, q1⟩ := i5 rfl
    obtain ⟨k1, k2, k3, k4, k5⟩ := k
    have eB : tlB 5 x T = upd T 3 (nI (x 0)) := rfl
    rw [eB]
    show BVk f _
    refine ⟨fun l hl => ?_, fun i hi => ?_, fun p hp => ?_, ?_, ⟨_, by omega, by omega, pk_us⟩⟩
    · rw [(cn_un (by omega)).1] at hl
      simp (disch := omega) only [uS]
      exact k1 l hl
    · rw [(cn_un (by omega)).1] at hi
      simp (disch := omega) only [uS]
      exact k2 i hi
    · simp (disch := omega) only [uS]
      exact k3 p hp
    · simp (disch := omega) only [uS]; exact k4
theorem BV_ok (hg : ∀ j, j < m → yGd σ 0 (yst σ 0 j)) (hL : yLL σ 0 m = none) (hF : yFF σ 0 m ≤ cn (yTT σ 0 m) 0) : BV (yTT σ 0 m) := by
  have key : ∀ j, j ≤ m → BVk (yFF σ 0 j) (yTT σ 0 j) := by
    intro j
    induction j with
    | zero =>
      intro _
      have b1 : ∀ k, k < 6 → blk 0 (100 + k) = nI 2 ∧ blk 0 (106 + k) = nI 0 := by decide +kernel
      exact ⟨fun l hl => absurd hl (Nat.not_lt_zero _), fun i hi => absurd hi (Nat.not_lt_zero _), fun p hp => ⟨⟨2, by omega, (b1 p hp).1⟩, Or.inl (b1 p hp).2⟩, ⟨3, by omega, rfl⟩, ⟨3, by omega, by omega, rfl⟩⟩
    | succ j ih =>
      intro hj
      have gd := hg j (by omega)
      obtain ⟨tb, -⟩ := yTB (by omega) hg j (by omega)
      obtain ⟨-, -, w1, w2, -, -⟩ := yK_word (by omega) gd.1
      obtain ⟨hf, hin⟩ := yLL_st hL (j := j) (by omega)
      exact BVk_step w2 hf tb hin (ih (by omega))
  obtain ⟨k1, k2, k3, k4, k5⟩ := (key m (Nat.le_refl _)).mo hF
  obtain ⟨tb, -⟩ := yTB (by omega) hg m (Nat.le_refl _)
  obtain ⟨⟨a1, a2⟩, a3, a4⟩ := tb.1 rfl
  exact ⟨a2, a1, a4, a3, k1, k2, k3, k4, k5⟩
theorem c_fillB (hn : n ≤ 600) (hg : ∀ j, j < m → yGd σ 0 (yst σ 0 j)) (hst : yst σ 0 m = n) (hL : yLL σ 0 m = none) (hF : yFF σ 0 m ≤ cn (yTT σ 0 m) 0) (r : RK h a (n + 1) (tok σ 0) u v) (o : OB h e 0 bkL A B I J) (hd : e + 12 ≤ a ∨ a + 4 ≤ e) : ∃ h' A' I', F_X7_fillBook z h a e = some h' ∧ OB h' e 0 bkL A' B I' J ∧ CBc (bMB (yTT σ 0 m)) A' I' ∧ Fr h h' e (e + 12) := by
  have le : ∀ j, j < m → yst σ 0 j + 1 + nnW (yV σ 0 (yst σ 0 j)) + 1 ≤ n := fun j hj => by rw [← hst]; exact yst_mono hj
  obtain ⟨h1, A1, I1, e1, o1, c1, r1⟩ := c_clearB o
  have kp : ∀ {g}, Fr h g e (e + 12) → RK g a (n + 1) (tok σ 0) u v := fun f => r.kp (fun q q1 q2 => f q (by omega))
  obtain ⟨h2, e2, A2, I2, o2, c2, f2⟩ := q_lp_idx (step := s_X7_fillBook_11 z a e) (fun j v => v.1 = nI (yst σ 0 j) ∧ ∃ A' I', OB v.2 e 0 bkL A' B I' J ∧ CBk (yTT σ 0 j) A' I' ∧ Fr h v.2 e (e + 12)) m (fun g => ∃ A' I', OB g e 0 bkL A' B I' J ∧ CBk (yTT σ 0 m) A' I' ∧ Fr h g e (e + 12)) (by
    rintro j ⟨x, g⟩ hj ⟨hx, A', I', o', c', f'⟩
    dsimp only at hx o' f'
    subst hx
    have hle := le j hj
    have gd := hg j hj
    have rk := kp f'
    have el := k_last rk
    obtain ⟨tb, -⟩ := yTB (by omega) hg j (by omega)
    obtain ⟨hf, hin⟩ := yLL_st hL hj
    obtain ⟨g2, A2, I2, e2, o2, c2, f2⟩ := c_tellB hn gd hle hf tb hin rk o' c'
    have eb := k_behind (z := z) (kp (f'.tr f2)) hn (by omega) (t := yst σ 0 j) (by omega) gd.1
    refine ⟨(nI (yst σ 0 (j + 1)), g2), ?_, rfl, A2, I2, o2, c2, f'.tr f2⟩
    show b_X7_fillBook_11 z a e (nI (yst σ 0 j)) g = _
    unfold b_X7_fillBook_11
    rw [rk.ob, Option.bind_some, el, Option.bind_some, if_neg (show ¬ nI n ≤ nI (yst σ 0 j) from nI_ge (by omega) (by omega)), Option.bind_some, e2, Option.bind_some, (kp (f'.tr f2)).ob, Option.bind_some, eb, Option.bind_some]
    rfl) (by
    rintro ⟨x, g⟩ ⟨hx, A', I', o', c', f'⟩
    dsimp only at hx o' f'
    subst hx
    have rk := kp f'
    have el := k_last rk
    refine ⟨g, ?_, A', I', o', c', f'⟩
    show b_X7_fillBook_11 z a e (nI (yst σ 0 m)) g = _
    unfold b_X7_fillBook_11
    rw [rk.ob, Option.bind_some, el, Option.bind_some, if_pos (show nI n ≤ nI (yst σ 0 m) by rw [hst]; exact nI_le (Nat.le_refl _) (by omega))]) q_N (nI 0, h1) ⟨rfl, A1, I1, o1, c1, r1⟩ (q_lt_N (by have := yst_ge σ 0 m; omega))
  obtain ⟨h3, A3, e3, o3, c3, r3⟩ := c_settle (BV_ok hg hL hF) o2 c2
  refine ⟨h3, A3, I2, ?_, o3, c3, f2.tr r3⟩
  have e2 : q_lp (s_X7_fillBook_11 z a e) q_N ((0 : Int32), h1) = some h2 := e2
  unfold F_X7_fillBook
  rw [o.ob, Option.bind_some, e1, Option.bind_some, e2, Option.bind_some, o2.ob, Option.bind_some, e3, Option.bind_some]
end SET
