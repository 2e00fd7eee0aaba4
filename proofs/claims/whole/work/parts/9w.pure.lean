/-! ===== the law out of the calls (laid by wip/whole/law.py) ===== -/
section LAW2
variable {h : qH} {c nx a0 : Nat} {σ : SG} {im : Nat → Option SG} {z : Nat → Nat} {a3 y1 y2 y3 y4 y5 : Int32}
theorem lw_any (tx : ∀ x y, QT h c nx (F_X11_text z h c x y) (fun h1 => F_X12_text h1 (c + 80) x y)) (s : ST h c nx σ im) (r : Rd h a0 a3 y1 y2 y3 y4 y5) (ha : a0 < c) (x4 : Int32) : LwOk h c a3 (if (x4 &&& (31 : Int32)) = 0 then lw_0 z a0 c (c + 80) a3 h nx else if (x4 &&& (31 : Int32)) = 1 then lw_1 z a0 c (c + 80) a3 h nx else if (x4 &&& (31 : Int32)) = 2 then lw_2 z a0 c (c + 80) a3 h nx else if (x4 &&& (31 : Int32)) = 3 then lw_3 z a0 c (c + 80) a3 h nx else if (x4 &&& (31 : Int32)) = 4 then lw_4 z a0 c (c + 80) a3 h nx else if (x4 &&& (31 : Int32)) = 5 then lw_5 z a0 c (c + 80) a3 h nx else if (x4 &&& (31 : Int32)) = 6 then lw_6 z a0 c (c + 80) a3 h nx else if (x4 &&& (31 : Int32)) = 7 then lw_7 z a0 c (c + 80) a3 h nx else if (x4 &&& (31 : Int32)) = 8 then lw_8 z a0 c (c + 80) a3 h nx else if (x4 &&& (31 : Int32)) = 9 then lw_9 z a0 c (c + 80) a3 h nx else if (x4 &&& (31 : Int32)) = 10 then lw_10 z a0 c (c + 80) a3 h nx else if (x4 &&& (31 : Int32)) = 11 then lw_11 z a0 c (c + 80) a3 h nx else if (x4 &&& (31 : Int32)) = 12 then lw_12 z a0 c (c + 80) a3 h nx else if (x4 &&& (31 : Int32)) = 13 then lw_13 z a0 c (c + 80) a3 h nx else if (x4 &&& (31 : Int32)) = 14 then lw_14 z a0 c (c + 80) a3 h nx else if (x4 &&& (31 : Int32)) = 15 then lw_15 z a0 c (c + 80) a3 h nx else if (x4 &&& (31 : Int32)) = 16 then lw_16 z a0 c (c + 80) a3 h nx else if (x4 &&& (31 : Int32)) = 17 then lw_17 z a0 c (c + 80) a3 h nx else if (x4 &&& (31 : Int32)) = 18 then lw_18 z a0 c (c + 80) a3 h nx else if (x4 &&& (31 : Int32)) = 19 then lw_19 z a0 c (c + 80) a3 h nx else if (x4 &&& (31 : Int32)) = 20 then lw_20 z a0 c (c + 80) a3 h nx else if (x4 &&& (31 : Int32)) = 21 then lw_21 z a0 c (c + 80) a3 h nx else if (x4 &&& (31 : Int32)) = 22 then lw_22 z a0 c (c + 80) a3 h nx else if (x4 &&& (31 : Int32)) = 23 then lw_23 z a0 c (c + 80) a3 h nx else if (x4 &&& (31 : Int32)) = 24 then lw_24 z a0 c (c + 80) a3 h nx else if (x4 &&& (31 : Int32)) = 25 then lw_25 z a0 c (c + 80) a3 h nx else if (x4 &&& (31 : Int32)) = 26 then lw_26 z a0 c (c + 80) a3 h nx else if (x4 &&& (31 : Int32)) = 27 then lw_27 z a0 c (c + 80) a3 h nx else if (x4 &&& (31 : Int32)) = 28 then lw_28 z a0 c (c + 80) a3 h nx else if (x4 &&& (31 : Int32)) = 29 then lw_29 z a0 c (c + 80) a3 h nx else if (x4 &&& (31 : Int32)) = 30 then lw_30 z a0 c (c + 80) a3 h nx else if (x4 &&& (31 : Int32)) = 31 then lw_31 z a0 c (c + 80) a3 h nx else some (.inl ((a3 + 6), h, nx))) := by
  by_cases d0 : (x4 &&& (31 : Int32)) = 0
  · rw [if_pos d0]; exact lw_ok0 s r ha
  rw [if_neg d0]
  by_cases d1 : (x4 &&& (31 : Int32)) = 1
  · rw [if_pos d1]; exact lw_ok1 s r ha
  rw [if_neg d1]
  by_cases d2 : (x4 &&& (31 : Int32)) = 2
  · rw [if_pos d2]; exact lw_ok2 tx s r ha
  rw [if_neg d2]
  by_cases d3 : (x4 &&& (31 : Int32)) = 3
  · rw [if_pos d3]; exact lw_ok3 s r ha
  rw [if_neg d3]
  by_cases d4 : (x4 &&& (31 : Int32)) = 4
  · rw [if_pos d4]; exact lw_ok4 s r ha
  rw [if_neg d4]
  by_cases d5 : (x4 &&& (31 : Int32)) = 5
  · rw [if_pos d5]; exact lw_ok5 s r ha
  rw [if_neg d5]
  by_cases d6 : (x4 &&& (31 : Int32)) = 6
  · rw [if_pos d6]; exact lw_ok6 s r ha
  rw [if_neg d6]
  by_cases d7 : (x4 &&& (31 : Int32)) = 7
  · rw [if_pos d7]; exact lw_ok7 s r ha
  rw [if_neg d7]
  by_cases d8 : (x4 &&& (31 : Int32)) = 8
  · rw [if_pos d8]; exact lw_ok8 s r ha
  rw [if_neg d8]
  by_cases d9 : (x4 &&& (31 : Int32)) = 9
  · rw [if_pos d9]; exact lw_ok9 s r ha
  rw [if_neg d9]
  by_cases d10 : (x4 &&& (31 : Int32)) = 10
  · rw [if_pos d10]; exact lw_ok10 s r ha
  rw [if_neg d10]
  by_cases d11 : (x4 &&& (31 : Int32)) = 11
  · rw [if_pos d11]; exact lw_ok11 s r ha
  rw [if_neg d11]
  by_cases d12 : (x4 &&& (31 : Int32)) = 12
  · rw [if_pos d12]; exact lw_ok12 s r ha
  rw [if_neg d12]
  by_cases d13 : (x4 &&& (31 : Int32)) = 13
  · rw [if_pos d13]; exact lw_ok13 s r ha
  rw [if_neg d13]
  by_cases d14 : (x4 &&& (31 : Int32)) = 14
  · rw [if_pos d14]; exact lw_ok14 s r ha
  rw [if_neg d14]
  by_cases d15 : (x4 &&& (31 : Int32)) = 15
  · rw [if_pos d15]; exact lw_ok15 s r ha
  rw [if_neg d15]
  by_cases d16 : (x4 &&& (31 : Int32)) = 16
  · rw [if_pos d16]; exact lw_ok16 s r ha
  rw [if_neg d16]
  by_cases d17 : (x4 &&& (31 : Int32)) = 17
  · rw [if_pos d17]; exact lw_ok17 s r ha
  rw [if_neg d17]
  by_cases d18 : (x4 &&& (31 : Int32)) = 18
  · rw [if_pos d18]; exact lw_ok18 s r ha
  rw [if_neg d18]
  by_cases d19 : (x4 &&& (31 : Int32)) = 19
  · rw [if_pos d19]; exact lw_ok19 s r ha
  rw [if_neg d19]
  by_cases d20 : (x4 &&& (31 : Int32)) = 20
  · rw [if_pos d20]; exact lw_ok20 s r ha
  rw [if_neg d20]
  by_cases d21 : (x4 &&& (31 : Int32)) = 21
  · rw [if_pos d21]; exact lw_ok21 s r ha
  rw [if_neg d21]
  by_cases d22 : (x4 &&& (31 : Int32)) = 22
  · rw [if_pos d22]; exact lw_ok22 s r ha
  rw [if_neg d22]
  by_cases d23 : (x4 &&& (31 : Int32)) = 23
  · rw [if_pos d23]; exact lw_ok23 s r ha
  rw [if_neg d23]
  by_cases d24 : (x4 &&& (31 : Int32)) = 24
  · rw [if_pos d24]; exact lw_ok24 s r ha
  rw [if_neg d24]
  by_cases d25 : (x4 &&& (31 : Int32)) = 25
  · rw [if_pos d25]; exact lw_ok25 s r ha
  rw [if_neg d25]
  by_cases d26 : (x4 &&& (31 : Int32)) = 26
  · rw [if_pos d26]; exact lw_ok26 s r ha
  rw [if_neg d26]
  by_cases d27 : (x4 &&& (31 : Int32)) = 27
  · rw [if_pos d27]; exact lw_ok27 s r ha
  rw [if_neg d27]
  by_cases d28 : (x4 &&& (31 : Int32)) = 28
  · rw [if_pos d28]; exact lw_ok28 s r ha
  rw [if_neg d28]
  by_cases d29 : (x4 &&& (31 : Int32)) = 29
  · rw [if_pos d29]; exact lw_ok29 s r ha
  rw [if_neg d29]
  by_cases d30 : (x4 &&& (31 : Int32)) = 30
  · rw [if_pos d30]; exact lw_ok30 s r ha
  rw [if_neg d30]
  by_cases d31 : (x4 &&& (31 : Int32)) = 31
  · rw [if_pos d31]; exact lw_ok31 s r ha
  rw [if_neg d31]
  exact ⟨h, nx, σ, im, rfl, s, fun _ _ => rfl⟩
end LAW2
/-- what is asked of the call 'text' -/
def TextOk : Prop := ∀ (b L c : Nat) (xs : Nat → Int32) (z adV : Nat → Nat), (∀ i, i < 18 → z (4 + i) < c ∧ z (4 + i) ≠ b) → (∀ i j, i < 18 → j < 18 → z (4 + i) = z (4 + j) → i = j) → ∀ h nx σ im x y, (∀ q, q < c → h q = st_h b L xs z adV q) → ST h c nx σ im → QT h c nx (F_X11_text z h c x y) (fun h1 => F_X12_text h1 (c + 80) x y)
theorem q_pure_of (tx : TextOk) : q_Pure := by
  intro b L c xs z adV hL hb hz hzi
  obtain ⟨h1, h2, e1, e2, st, low⟩ := q_begin (st_h b L xs z adV) c
  have sb : st_h b L xs z adV b = some (.inr (.inr (.inl (.int, L, xs)))) := by unfold st_h; rw [if_pos rfl]
  have rd : ∀ {g : qH}, (∀ q, q < c → g q = st_h b L xs z adV q) → q_len g b = some (nI L) ∧ ∀ i, i < L → q_aI g .int b (nI i) = some (xs i) := by
    intro g hg
    have e : g b = some (.inr (.inr (.inl (.int, L, xs)))) := (hg b hb).trans sb
    refine ⟨by unfold q_len; rw [e]; rfl, fun i hi => ?_⟩
    unfold q_aI
    rw [e]
    dsimp only
    rw [if_pos ⟨rfl, nI_nn (by omega), by rw [nI_cl (by omega)]; exact hi⟩, nI_cl (by omega)]
  obtain ⟨rr, er, g, n, hr⟩ := q_lp_idx (step := s_L_law_18 z b c (c + 80)) (fun j s => s.1 = nI (6 * j) ∧ (∃ σ im, ST s.2.1 c s.2.2 σ im) ∧ ∀ q, q < c → s.2.1 q = st_h b L xs z adV q) (L / 6) (fun r => ∃ g n, r = (.inr (.inr (.inr (.inr (.inr (.inr (.inr (.inr (.inr (.inr (.inr (.inr (.inr (.inr (.inr (.inr (.inr (.inr (.inr (.inr (.inr (.inr (.inr (.inr (.inr (.inr (.inr (.inr (.inr (.inr (.inr (.inr (g, n)))))))))))))))))))))))))))))))))) (by
    rintro j ⟨x, g, n⟩ hj ⟨hx, ⟨σ, im, s⟩, hg⟩
    dsimp only at hx s hg
    subst hx
    have hj6 : 6 * j + 6 ≤ L := by omega
    obtain ⟨el, ea⟩ := rd hg
    have r : Rd g b (nI (6 * j)) (xs (6 * j + 1)) (xs (6 * j + 2)) (xs (6 * j + 3)) (xs (6 * j + 4)) (xs (6 * j + 5)) := by
      refine ⟨?_, ?_, ?_, ?_, ?_⟩
      · rw [n_lit 1, nI_add]; exact ea _ (by omega)
      · rw [n_lit 2, nI_add]; exact ea _ (by omega)
      · rw [n_lit 3, nI_add]; exact ea _ (by omega)
      · rw [n_lit 4, nI_add]; exact ea _ (by omega)
      · rw [n_lit 5, nI_add]; exact ea _ (by omega)
    obtain ⟨h', nx', σ', im', e', s', l'⟩ := lw_any (z := z) (a0 := b) (fun x y => tx b L c xs z adV hz hzi g n σ im x y hg s) s r hb (xs (6 * j))
    refine ⟨(nI (6 * j) + 6, h', nx'), ?_, ?_, ⟨σ', im', s'⟩, fun q hq => (l' q hq).trans (hg q hq)⟩
    · show b_L_law_18 z b c (c + 80) (nI (6 * j)) g n = _
      rw [lw_eq, el, Option.bind_some, if_neg (show ¬ nI L - (6 : Int32) < nI (6 * j) from fun q => by
        rw [n_lit 6, pk_sub (by omega)] at q
        have := (nI_ltI (by omega) (by omega)).mp q
        omega), ea _ (by omega), Option.bind_some]
      exact e'
    · show nI (6 * j) + 6 = nI (6 * (j + 1))
      rw [n_lit 6, nI_add, Nat.mul_add]) (by
    rintro ⟨x, g, n⟩ ⟨hx, ⟨σ, im, s⟩, hg⟩
    dsimp only at hx s hg
    subst hx
    obtain ⟨el, ea⟩ := rd hg
    refine ⟨_, ?_, g, n, rfl⟩
    show b_L_law_18 z b c (c + 80) (nI (6 * (L / 6))) g n = _
    rw [lw_eq, el, Option.bind_some, if_pos (show nI L - (6 : Int32) < nI (6 * (L / 6)) from ?_)]
    rw [n_lit 6]
    rcases Nat.lt_or_ge L 6 with h6 | h6
    · exact ((gN (n_neg h6 (by omega))).1 _ (by omega)).mpr trivial
    · rw [pk_sub h6]
      exact (nI_ltI (by omega) (by omega)).mpr (by omega)) 600 (nI 0, h2, c + 107) ⟨rfl, ⟨_, _, st⟩, low⟩ (by omega)
  subst hr
  refine ⟨g, n, ?_⟩
  unfold F_L_law
  have er : q_lp (s_L_law_18 z b c (c + 80)) 600 ((0 : Int32), h2, c + 107) = some _ := er
  rw [e1, Option.bind_some]
  dsimp only
  rw [e2, Option.bind_some]
  dsimp only
  rw [er, Option.bind_some]
  rfl
