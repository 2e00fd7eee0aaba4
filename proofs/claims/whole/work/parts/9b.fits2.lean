/-! ===== fits: the class, on ===== -/
def UT (m : MB) (g : Nat → Int32) (T : Nat → Int64) (v l k : Nat) : Prop := (∀ v' j, v' ≤ v → v' < eN g → j < mbL m → T (v' * 20 + j) = lN (uu m g v' j)) ∧ (v + 1 < eN g → ∀ j, j < mbL m → T ((v + 1) * 20 + j) = lN (if hd m g (v + 1) j then sd m (ac m (uu m g v) l) (uu m g v l) l k j else 0)) ∧ ∀ v' j, v + 1 < v' → v' < eN g → j < mbL m → T (v' * 20 + j) = lN 0
section FTC
variable {h : qH} {a b ga : Nat} {m : MB} {g : Nat → Int32} {A : Nat → Nat → Int32} {B : Nat → Nat → Int64} {I : Nat → Int32} {J : Nat → Int64}
/-- the class knows how many fit from each on -/
def FF (m : MB) (g : Nat → Int32) (B0 : Nat → Int64) : Prop := ∀ v l, v < eN g → l < mbL m → B0 (v * 20 + l) = lN (fr m g (eN g - 1 - v) l)
theorem FT.ff {B0 : Nat → Int64} {A2 : Nat → Int32} (ft : FT m g B0 A2 (eN g) 0) : FF m g B0 := fun v l hv hl => by
  have := ((ft (eN g - 1 - v) l (by omega) hl).1 (Or.inl (by omega))).1
  rw [show eN g - 1 - (eN g - 1 - v) = v by omega] at this
  exact this
theorem hd_00 {n : Nat} (hn : 0 < eN g) (h0 : fr m g (eN g - 1) 0 ≠ 0) : hd m g 0 0 = true := by
  cases hh : hd m g 0 0 with
  | true => rfl
  | false =>
    exfalso
    apply h0
    cases ht : eN g - 1 with
    | zero => unfold fr; rw [ht, hh]; rfl
    | succ t => unfold fr; rw [show eN g - 1 - (t + 1) = 0 by omega, hh]; rfl
theorem c_upTo (o : OB h a 2 fiL A B I J) (c : CB h b m) (hdd : b + 12 ≤ a ∨ a + 4 ≤ b) (cg : CG h ga g) (hg : ga + 2 ≤ a ∨ a + 4 ≤ ga) (ff : FF m g (B 0)) (hn : 0 < eN g) (h0 : 0 < mbL m) (hne : fr m g (eN g - 1) 0 ≠ 0) : ∃ h' B', F_X2_countUpTo h a b ga = some h' ∧ OB h' a 2 fiL A B' I J ∧ Fr h h' a (a + 4) ∧ B' 0 = B 0 ∧ ∀ v j, v < eN g → j < mbL m → B' 1 (v * 20 + j) = lN (uu m g v j) := by
  have ok := c.1
  have hL := L_le ok
  have hN := (lv_ok cg.1).2
  have ck : ∀ {h'}, Fr h h' a (a + 4) → CB h' b m := fun r => c.kept (fun q q1 q2 => r q (by omega))
  have cgk : ∀ {h'}, Fr h h' a (a + 4) → CG h' ga g := fun r => cg.kept (fun q q1 q2 => r q (by omega))
  obtain ⟨h1, e1, B1, o1, r1, y1, z1⟩ := q_lp1 (step := s_X2_countUpTo_2 a b ga) (fun i h' => ∃ B', OB h' a 2 fiL A B' I J ∧ Fr h h' a (a + 4) ∧ B' 0 = B 0 ∧ ∀ j, j < i → B' 1 j = lN 0) 240 0 (by omega)
    (fun i h1 hi ⟨B1, o1, r1, y1, z1⟩ => by
      obtain ⟨h2, e2, o2, r2⟩ := X2_s1 o1 (i := i) (lN 0) hi
      refine ⟨h2, ?_, _, o2, r1.tr r2, by rw [upF_ne _ _ (show (0 : Nat) ≠ 1 by decide)]; exact y1, fun j hj => ?_⟩
      · simp (disch := omega) only [s_X2_countUpTo_2, b_X2_countUpTo_2, nS, lS, Nat.add_zero, X2_rd o1, e2]
      · rw [upF_self]
        by_cases hji : j = i
        · subst hji; exact pk_uLs
        · rw [pk_uLn hji]; exact z1 j (by omega))
    (fun h1 _ => by simp (disch := omega) only [s_X2_countUpTo_2, b_X2_countUpTo_2, nS, Nat.add_zero])
    (h := h) ⟨B, o, Fr.rf, rfl, fun l hl => by omega⟩
  obtain ⟨h2, e2, o2, r2⟩ := X2_s1 o1 (i := 0) (lN 1) (by omega)
  have h00 := hd_00 (n := 0) hn hne
  have e63 := fr_63 ok (g := g) h0 (show eN g - 1 < 12 by omega)
  have at0 : F_X2_at h1 (a + 1) (nI 0) (nI 0) = some (lN (fr m g (eN g - 1) 0)) := by
    rw [c_at0 o1 (by omega) (by omega), y1, ff 0 0 hn h0, Nat.sub_zero]
  have ut2 : UT m g (upF B1 1 (vp_updL (B1 1) 0 (lN 1)) 1) 0 0 0 := by
    rw [upF_self]
    refine ⟨fun v' j q1 q2 q3 => ?_, fun q1 j q2 => ?_, fun v' j q1 q2 q3 => ?_⟩
    · have : v' = 0 := by omega
      subst this
      show _ = lN (if j = 0 ∧ hd m g 0 0 = true then 1 else 0)
      by_cases hj : j = 0
      · subst hj; rw [if_pos ⟨rfl, h00⟩]; exact pk_uLs
      · rw [if_neg (fun q => hj q.1), pk_uLn (by omega)]; exact z1 _ (by omega)
    · rw [pk_uLn (by omega), z1 _ (by omega)]
      split <;> rfl
    · rw [pk_uLn (by omega)]; exact z1 _ (by omega)
  obtain ⟨h3, e3, B3, o3, r3, y3, ut3⟩ := q_lp1 (step := s_X2_countUpTo_49 a b ga) (fun v h' => ∃ B', OB h' a 2 fiL A B' I J ∧ Fr h h' a (a + 4) ∧ B' 0 = B 0 ∧ UT m g (B' 1) v 0 0) (eN g - 1) 0 (by omega)
    (fun v hh hv ⟨B1, o1, r1, y1, ut1⟩ => by
      obtain ⟨h2, e2, B2, o2, r2, y2, ut2⟩ := q_lp1 (step := s_X2_countUpTo_70 a b ga (nI v)) (fun l h' => ∃ B', OB h' a 2 fiL A B' I J ∧ Fr h h' a (a + 4) ∧ B' 0 = B 0 ∧ UT m g (B' 1) v l 0) (mbL m) 0 (by omega)
        (fun l hh hl ⟨B1, o1, r1, y1, ut1⟩ => by
          have hf := fn_le ok hl
          obtain ⟨h2, e2, B2, o2, r2, y2, ut2⟩ := q_lp1 (step := s_X2_countUpTo_89 a b ga (nI v) (nI l)) (fun k h' => ∃ B', OB h' a 2 fiL A B' I J ∧ Fr h h' a (a + 4) ∧ B' 0 = B 0 ∧ UT m g (B' 1) v l k) (fn m l) 0 (by omega)
            (fun k hh hk ⟨B1, o1, r1, y1, u1, u2, u3⟩ => by
              have c1 := ck r1
              have hgl := gg_lt ok hl hk
              have hw := (wh_ok ok hgl).2
              have hmb := c_mayBe (cgk r1) (v := v + 1) (p := wh m (gg m l k)) (by omega) hw
              rw [hd_if] at hmb
              cases hq : hd m g (v + 1) (gg m l k) with
              | false =>
                rw [hq] at hmb
                have hmb : F_X3_mayBe hh ga (nI (v + 1)) (nI (wh m (gg m l k))) = some (nI 0) := hmb
                refine ⟨hh, ?_, B1, o1, r1, y1, u1, fun q1 j q2 => ?_, u3⟩
                · simp (disch := omega) only [s_X2_countUpTo_89, b_X2_countUpTo_89, nS, Nat.add_zero, cS c1, gS (cgk r1), hmb]
                · rw [u2 q1 j q2]
                  by_cases hj : j = gg m l k
                  · rw [hj, hq]; rfl
                  · show lN (if hd m g (v + 1) j = true then _ else 0) = lN (if hd m g (v + 1) j = true then (if j = gg m l k then _ else _) else 0)
                    rw [if_neg hj]
              | true =>
                rw [hq] at hmb
                have hmb : F_X3_mayBe hh ga (nI (v + 1)) (nI (wh m (gg m l k))) = some (nI 1) := hmb
                have v1 := u2 (by omega) (gg m l k) hgl
                rw [hq, if_pos rfl] at v1
                have v2 := u1 v l (Nat.le_refl _) (by omega) hl
                obtain ⟨h2, e2, o2, r2⟩ := X2_s1 o1 (i := (v + 1) * 20 + gg m l k) (lN (sd m (ac m (uu m g v) l) (uu m g v l) l k (gg m l k) + uu m g v l)) (by omega)
                refine ⟨h2, ?_, _, o2, r1.tr r2, by rw [upF_ne _ _ (show (0 : Nat) ≠ 1 by decide)]; exact y1, ?_⟩
                · simp (disch := omega) only [s_X2_countUpTo_89, b_X2_countUpTo_89, nS, lS, Nat.add_zero, cS c1, gS (cgk r1), hmb, X2_rd o1, v1, v2, e2]
                · rw [upF_self]
                  refine ⟨fun v' j q1 q2 q3 => by rw [pk_uLn (by omega)]; exact u1 v' j q1 q2 q3, fun q1 j q2 => ?_, fun v' j q1 q2 q3 => by rw [pk_uLn (by omega)]; exact u3 v' j q1 q2 q3⟩
                  show _ = lN (if hd m g (v + 1) j = true then (if j = gg m l k then sd m (ac m (uu m g v) l) (uu m g v l) l k j + uu m g v l else sd m (ac m (uu m g v) l) (uu m g v l) l k j) else 0)
                  by_cases hj : j = gg m l k
                  · subst hj; rw [pk_uLs, hq, if_pos rfl, if_pos rfl]
                  · rw [pk_uLn (by omega), if_neg hj]; exact u2 q1 j q2)
            (fun hh ⟨B1, o1, r1, _⟩ => by simp (disch := omega) only [s_X2_countUpTo_89, b_X2_countUpTo_89, nS, Nat.add_zero, cS (ck r1)])
            (h := hh) ⟨B1, o1, r1, y1, ut1⟩
          refine ⟨h2, ?_, B2, o2, r2, y2, ut2⟩
          simp (disch := omega) only [s_X2_countUpTo_70, b_X2_countUpTo_70, nS, Nat.add_zero, cS (ck r1), e2])
        (fun hh ⟨B1, o1, r1, _⟩ => by simp (disch := omega) only [s_X2_countUpTo_70, b_X2_countUpTo_70, nS, Nat.add_zero, cS (ck r1)])
        (h := hh) ⟨B1, o1, r1, y1, ut1⟩
      refine ⟨h2, ?_, B2, o2, r2, y2, ?_⟩
      · simp (disch := omega) only [s_X2_countUpTo_49, b_X2_countUpTo_49, nS, Nat.add_zero, gS (cgk r1), e2]
      · obtain ⟨u1, u2, u3⟩ := ut2
        refine ⟨fun v' j q1 q2 q3 => ?_, fun q1 j q2 => ?_, fun v' j q1 q2 q3 => u3 v' j (by omega) q2 q3⟩
        · by_cases hv' : v' = v + 1
          · subst hv'; exact u2 q2 j q3
          · exact u1 v' j (by omega) q2 q3
        · rw [u3 (v + 1 + 1) j (by omega) q1 q2]
          split <;> rfl)
    (fun hh ⟨B1, o1, r1, _⟩ => by simp (disch := omega) only [s_X2_countUpTo_49, b_X2_countUpTo_49, nS, Nat.add_zero, gS (cgk r1)])
    (h := h2) ⟨_, o2, r1.tr r2, by rw [upF_ne _ _ (show (0 : Nat) ≠ 1 by decide)]; exact y1, ut2⟩
  refine ⟨h3, B3, ?_, o3, r3, y3, fun v j hv hj => ut3.1 v j (by omega) hv hj⟩
  have hz : (fr m g (eN g - 1) 0 = 0) ↔ False := iff_of_false hne id
  simp (disch := omega) only [F_X2_countUpTo, nS, lS, e1, X2_rd o1, at0, hz]
  simp (disch := omega) only [j_X2_countUpTo_46, nS, e2, e3]
/-- the class's rows of the ways -/
def CW (m : MB) (g : Nat → Int32) (B0 B1 : Nat → Int64) : Prop := FF m g B0 ∧ ∀ v j, v < eN g → j < mbL m → B1 (v * 20 + j) = lN (uu m g v j)
theorem c_thr (o : OB h a 2 fiL A B I J) (hN : eN g ≤ 12) (hL : mbL m ≤ 20) (w : CW m g (B 0) (B 1)) {v l : Nat} (hv : v < eN g) (hl : l < mbL m) : F_X2_through h a (nI v) (nI l) = some (thr m g v l) := by
  have e0 := c_at0 o (v := v) (l := l) (by omega) (by omega)
  have e1 := c_at1 o (v := v) (l := l) (by omega) (by omega)
  rw [w.1 v l hv hl] at e0
  rw [w.2 v l hv hl] at e1
  unfold thr
  simp (disch := omega) only [F_X2_through, nS, lS, X2_rd o, e0, e1]
theorem c_most (o : OB h a 2 fiL A B I J) (c : CB h b m) (hN : eN g ≤ 12) (w : CW m g (B 0) (B 1)) {v : Nat} (hv : v < eN g) : F_X2_mostOfOnePerson h a b (nI v) = some (mo1 m g v 6) := by
  have ok := c.1
  have hL := L_le ok
  have lp : q_lp (s_X2_mostOfOnePerson_5 h a b (nI v)) q_N (lN 0, nI 0) = some (mo1 m g v 6) := by
    refine q_lp_for (fun p => (mo1 m g v p, nI p)) 6 (fun p hp => ?_) ?_ q_N (q_lt_N (by omega))
    · have lp2 : q_lp (s_X2_mostOfOnePerson_18 h a b (nI v) (mo1 m g v p) (nI p)) q_N (lN 0, nI 0) = some (su1 m g v p (mbL m)) := by
        refine q_lp_for (fun l => (su1 m g v p l, nI l)) (mbL m) (fun l hl => ?_) ?_ q_N (q_lt_N (by omega))
        · have hw := (wh_ok ok hl).2
          show _ = some (Sum.inl (su1 m g v p l + (if wh m l = p then thr m g v l else lN 0), nI (l + 1)))
          by_cases hwp : wh m l = p
          · rw [if_pos hwp]
            simp (disch := omega) only [s_X2_mostOfOnePerson_18, b_X2_mostOfOnePerson_18, nS, cS c, o.ob, c_thr o hN hL w hv hl]
          · rw [if_neg hwp]
            simp (disch := omega) only [s_X2_mostOfOnePerson_18, b_X2_mostOfOnePerson_18, nS, lS, cS c]
        · simp (disch := omega) only [s_X2_mostOfOnePerson_18, b_X2_mostOfOnePerson_18, nS, cS c]
      show _ = some (Sum.inl ((if mo1 m g v p < su1 m g v p (mbL m) then su1 m g v p (mbL m) else mo1 m g v p), nI (p + 1)))
      generalize su1 m g v p (mbL m) = S at lp2
      generalize mo1 m g v p = M at lp2
      by_cases hc : M < S
      · rw [if_pos hc]
        simp (disch := omega) only [s_X2_mostOfOnePerson_5, b_X2_mostOfOnePerson_5, nS, lS, lp2, F_J9_max_f86c9, if_pos hc]
      · rw [if_neg hc]
        simp (disch := omega) only [s_X2_mostOfOnePerson_5, b_X2_mostOfOnePerson_5, nS, lS, lp2, F_J9_max_f86c9, if_neg hc]
    · simp (disch := omega) only [s_X2_mostOfOnePerson_5, b_X2_mostOfOnePerson_5, nS]
  simp (disch := omega) only [F_X2_mostOfOnePerson, nS, lS, lp]
end FTC
