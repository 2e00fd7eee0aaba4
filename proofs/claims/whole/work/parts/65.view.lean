/-! ===== a book in plain numbers, and how both programs read it ===== -/
def wh (m : MB) (l : Nat) : Nat := (mbR m 1 l).toNatClampNeg
def sc (m : MB) (l : Nat) : Nat := (mbR m 2 l).toNatClampNeg
def hm (m : MB) (l : Nat) : Nat := (mbR m 4 l).toNatClampNeg
def dr (m : MB) (p : Nat) : Nat := (mbR m 7 p).toNatClampNeg
def fre (m : MB) : Nat := (mbP m 1).toNatClampNeg
def ctt (m : MB) : Nat := (mbP m 2).toNatClampNeg
def gg (m : MB) (l k : Nat) : Nat := (mbF m l).getD k 0
def fn (m : MB) (l : Nat) : Nat := (mbF m l).length
theorem nI_back {x : Int32} {N : Nat} (hN : N ≤ 2 ^ 31) (h : ∃ q, q < N ∧ x = nI q) : x = nI x.toNatClampNeg ∧ x.toNatClampNeg < N := by
  obtain ⟨q, hq, rfl⟩ := h
  rw [nI_cl (by omega)]
  exact ⟨rfl, hq⟩
theorem L_le {m : MB} (ok : MBok m) : mbL m ≤ 20 := ok.1
theorem wh_ok {m : MB} (ok : MBok m) {l : Nat} (hl : l < mbL m) : mbR m 1 l = nI (wh m l) ∧ wh m l < 6 := nI_back (by omega) (ok.2.2.1 l hl)
theorem sc_ok {m : MB} (ok : MBok m) {l : Nat} (hl : l < mbL m) : mbR m 2 l = nI (sc m l) ∧ sc m l < 10 := nI_back (by omega) (ok.2.2.2.2.1 l hl).2.1
theorem hm_ok {m : MB} (ok : MBok m) {l : Nat} (hl : l < mbL m) : mbR m 4 l = nI (hm m l) ∧ hm m l < 10 := nI_back (by omega) (ok.2.2.2.2.1 l hl).2.2.2
theorem dr_ok {m : MB} (ok : MBok m) {p : Nat} (hp : p < 6) : mbR m 7 p = nI (dr m p) ∧ dr m p < 11 := nI_back (by omega) (by obtain ⟨d, hd, e⟩ := (ok.2.2.2.2.2.1 p hp).1; exact ⟨d, by omega, e⟩)
theorem fre_ok {m : MB} (ok : MBok m) : mbP m 1 = nI (fre m) ∧ fre m < 10 := nI_back (by omega) ok.2.2.2.2.2.2.1
theorem ctt_ok {m : MB} (ok : MBok m) : mbP m 2 = nI (ctt m) ∧ ctt m < 10 := nI_back (by omega) (by obtain ⟨d, -, hd, e⟩ := ok.2.2.2.2.2.2.2; exact ⟨d, hd, e⟩)
theorem fn_le {m : MB} (ok : MBok m) {l : Nat} (hl : l < mbL m) : fn m l ≤ 20 := (ok.2.1 l hl).1
theorem gg_mem {m : MB} (ok : MBok m) {l k : Nat} (hk : k < fn m l) : gg m l k ∈ mbF m l := by
  unfold gg
  rw [List.getD_eq_getElem?_getD, List.getElem?_eq_getElem hk]
  exact List.getElem_mem hk
theorem gg_lt {m : MB} (ok : MBok m) {l k : Nat} (hl : l < mbL m) (hk : k < fn m l) : gg m l k < mbL m := (ok.2.1 l hl).2 _ (gg_mem ok hk)
theorem gg_inj {m : MB} (ok : MBok m) {l j k : Nat} (hl : l < mbL m) (hj : j < fn m l) (hk : k < fn m l) (he : gg m l j = gg m l k) : j = k := by
  unfold gg at he
  rw [List.getD_eq_getElem?_getD, List.getElem?_eq_getElem hj, List.getD_eq_getElem?_getD, List.getElem?_eq_getElem hk] at he
  exact (List.getElem_inj (ok.2.2.2.1 l hl)).mp he
theorem gg_some {m : MB} {l k : Nat} (hk : k < fn m l) : (mbF m l)[k]? = some (gg m l k) := by
  unfold gg
  rw [List.getD_eq_getElem?_getD, List.getElem?_eq_getElem hk]
  rfl
theorem gg_none {m : MB} {l k : Nat} (hk : fn m l ≤ k) : (mbF m l)[k]? = none := List.getElem?_eq_none hk
theorem nx_some {m : MB} {l : Nat} (hk : 0 < fn m l) : nxt m (some l) = some (gg m l 0) := gg_some hk
theorem nx_none {m : MB} {l : Nat} (hk : fn m l = 0) : nxt m (some l) = none := gg_none (Nat.le_of_eq hk)
/-! the class's book -/
theorem c_straysN {h : qH} {a : Nat} {m : MB} (c : CB h a m) {j k : Nat} (hj : j < mbL m) (hk : k < fn m j) : F_X0_strayingOf h a (nI j) (nI (gg m j k)) = some (nI (if k = 0 then 0 else 1)) := by
  rw [show gg m j k = (mbF m j).getD k 0 from rfl, c_stray c hj hk]
  by_cases h0 : k = 0
  · subst h0
    simp only [if_true]
    rfl
  · rw [if_neg (fun e : (mbF m j).getD k 0 = (mbF m j).getD 0 0 => h0 (gg_inj c.1 hj hk (by omega) e)), if_neg h0]
    rfl
/-- the pack of the class's book -/
theorem cS {h : qH} {a : Nat} {m : MB} (c : CB h a m) : q_ob h a 0 = some () ∧ q_fI h a 0 12 = some (nI (mbL m)) ∧ q_fI h a 0 13 = some (nI (fre m)) ∧ q_fI h a 0 14 = some (nI (ctt m))
  ∧ (∀ j, j < mbL m → F_X0_has h a (nI j) = some (nI 1)) ∧ (∀ j, mbL m ≤ j → j < 2 ^ 31 → F_X0_has h a (nI j) = some (nI 0)) ∧ F_X0_has h a m1 = some (nI 0)
  ∧ (∀ j, j < mbL m → F_X0_howManyFollow h a (nI j) = some (nI (fn m j))) ∧ F_X0_howManyFollow h a m1 = some (nI 0)
  ∧ (∀ j k, j < mbL m → k < fn m j → F_X0_following h a (nI j) (nI k) = some (nI (gg m j k))) ∧ (∀ j k, j < mbL m → fn m j ≤ k → k < 2 ^ 31 → F_X0_following h a (nI j) (nI k) = some m1) ∧ (∀ y, F_X0_following h a m1 y = some m1)
  ∧ (∀ j, j < mbL m → 0 < fn m j → F_X0_nextOf h a (nI j) = some (nI (gg m j 0))) ∧ (∀ j, j < mbL m → fn m j = 0 → F_X0_nextOf h a (nI j) = some m1) ∧ F_X0_nextOf h a m1 = some m1
  ∧ (∀ j k, j < mbL m → k < fn m j → F_X0_strayingOf h a (nI j) (nI (gg m j k)) = some (nI (if k = 0 then 0 else 1)))
  ∧ (∀ j, j < mbL m → F_X0_whoSays h a (nI j) = some (nI (wh m j))) ∧ F_X0_whoSays h a m1 = some m1
  ∧ (∀ j, j < mbL m → F_X0_sceneOf h a (nI j) = some (nI (sc m j))) ∧ (∀ j, j < mbL m → F_X0_harmDone h a (nI j) = some (nI (hm m j))) ∧ (∀ j, mbL m ≤ j → j < 2 ^ 31 → F_X0_harmDone h a (nI j) = some (nI 0)) := by
  have ok := c.1
  have hL := L_le ok
  have hI : q_fI h a 0 13 = some (mbP m 1) ∧ q_fI h a 0 14 = some (mbP m 2) := by
    obtain ⟨h0, A, B, I, J, o, hI, h1⟩ := c
    rw [o.fI (k := 13) rfl, o.fI (k := 14) rfl, hI.2.1, hI.2.2]
    exact ⟨rfl, rfl⟩
  refine ⟨c.ob, c_lines c, by rw [hI.1, (fre_ok ok).1], by rw [hI.2, (ctt_ok ok).1], fun j hj => c_has_in c hj, fun j h1 h2 => c_has_out c (Or.inr (nI_le h1 h2)), c_has_out c (nOut_m1 _), fun j hj => c_cnt_in c hj, c_cnt_out c (nOut_m1 _), fun j k hj hk => c_fol_in c hj hk, fun j k hj h1 h2 => c_fol_outk c hj (Or.inr (nI_le h1 h2)), fun y => c_fol_out c (nOut_m1 _), fun j hj hk => ?_, fun j hj hk => ?_, c_next c (o := none) (okL_none m), fun j k hj hk => c_straysN c hj hk, fun j hj => by rw [c_who_in c hj, (wh_ok ok hj).1], c_who_out c (nOut_m1 _), fun j hj => by rw [c_scene_in c hj, (sc_ok ok hj).1], fun j hj => by rw [c_harm_in c hj, (hm_ok ok hj).1], fun j h1 h2 => c_harm_out c (Or.inr (nI_le h1 h2))⟩
  · rw [show nI j = oI (some j) from rfl, c_next c (o := some j) (fun x hx => by cases hx; exact hj), nx_some hk]
    rfl
  · rw [show nI j = oI (some j) from rfl, c_next c (o := some j) (fun x hx => by cases hx; exact hj), nx_none hk]
    rfl
/-! the reference with a book in its hand -/
def HB (A : Nat → Nat → Int32) (I : Nat → Int32) (b : Nat → Int32) (k : Nat) : Prop := BV b ∧ k < 2 ∧ I 23 = nI k ∧ I 24 = nI (bL b) ∧ (∀ i, i < 112 → A 6 (112 * k + i) = b i) ∧ FolR (A 26) (A 25) 20 (bFol b)
theorem HB.cg {A A' : Nat → Nat → Int32} {I I' : Nat → Int32} {b : Nat → Int32} {k : Nat} (hb : HB A I b k) (h6 : A' 6 = A 6) (h25 : A' 25 = A 25) (h26 : A' 26 = A 26) (i23 : I' 23 = I 23) (i24 : I' 24 = I 24) : HB A' I' b k := by
  obtain ⟨h1, h2, h3, h4, h5, h7⟩ := hb
  exact ⟨h1, h2, by rw [i23, h3], by rw [i24, h4], by rw [h6]; exact h5, by rw [h25, h26]; exact h7⟩
theorem foldl_keep : ∀ (cs : List (Nat × Nat)) (fl : Nat → List Nat) (l : Nat), (∀ q ∈ cs, q.1 ≠ l) → cs.foldl addF fl l = fl l := by
  intro cs
  induction cs with
  | nil => intro fl l _; rfl
  | cons q cs ih =>
    intro fl l hq
    rw [List.foldl_cons, ih _ _ (fun x hx => hq x (List.mem_cons_of_mem _ hx))]
    have := hq q List.mem_cons_self
    unfold addF
    split
    · rfl
    · simp [Ne.symm this]
/-- a line that isn't there has no followers -/
theorem bFol_out {b : Nat → Int32} (hb : BV b) {l : Nat} (hl : bL b ≤ l) : bFol b l = [] := foldl_keep _ _ _ (fun q hq e => by
  have := (bCand_ok hb q hq).1
  omega)
theorem fn_out {b : Nat → Int32} (hb : BV b) {l : Nat} (hl : bL b ≤ l) : fn (bMB b) l = 0 := by
  show (bFol b l).length = 0
  rw [bFol_out hb hl]
  rfl
section HD
variable {h : qH} {a : Nat} {A : Nat → Nat → Int32} {B : Nat → Nat → Int64} {I : Nat → Int32} {J : Nat → Int64} {b : Nat → Int32} {k : Nat}
theorem d_of (o : OB h a 12 mdL A B I J) (hb : HB A I b k) {i : Nat} (hi : i < 112) : F_X12_of h a (nI i) = some (b i) := by
  obtain ⟨h1, h2, h3, h4, h5, h7⟩ := hb
  simp (disch := omega) only [F_X12_of, X12_rd o, nS, h3, Option.bind_some, h5]
theorem d_pack (o : OB h a 12 mdL A B I J) (hb : HB A I b k) : q_fI h a 12 24 = some (nI (mbL (bMB b)))
  ∧ (∀ i, i < 112 → F_X12_of h a (nI i) = some (b i))
  ∧ (∀ l, l < 20 → q_aI h .int (a + 13) (nI l) = some (nI (fn (bMB b) l)))
  ∧ (∀ l j, l < 20 → j < fn (bMB b) l → F_X12_behind h a (nI l) (nI j) = some (nI (gg (bMB b) l j)))
  ∧ (∀ l j, l < 20 → fn (bMB b) l ≤ j → j < 2 ^ 31 → F_X12_behind h a (nI l) (nI j) = some m1)
  ∧ (∀ l, l < mbL (bMB b) → F_X12_who h a (nI l) = some (nI (wh (bMB b) l)))
  ∧ (∀ l s, l < mbL (bMB b) → s < 2 ^ 31 → F_X12_isOf h a (nI l) (nI s) = some (nI (if sc (bMB b) l = s then 1 else 0)))
  ∧ (∀ l, l < mbL (bMB b) → F_X12_harmOf h a (nI l) = some (nI (hm (bMB b) l)))
  ∧ (∀ p, p < 6 → F_X12_of h a (nI (100 + p)) = some (nI (dr (bMB b) p)))
  ∧ F_X12_of h a (nI 2) = some (nI (fre (bMB b))) ∧ F_X12_of h a (nI 3) = some (nI (ctt (bMB b))) ∧ ∀ l, l < 20 → A 26 l = nI (fn (bMB b) l) := by
  have ok := bMB_ok hb.1
  have hL := L_le ok
  have hof := fun i (hi : i < 112) => d_of o hb hi
  obtain ⟨h1, h2, h3, h4, h5, h7⟩ := hb
  have w1 : ∀ l, l < mbL (bMB b) → b (24 + l) = nI (wh (bMB b) l) := fun l hl => (wh_ok ok hl).1
  have w2 : ∀ l, l < mbL (bMB b) → b (44 + l) = nI (sc (bMB b) l) := fun l hl => (sc_ok ok hl).1
  have w3 : ∀ l, l < mbL (bMB b) → (if b (106 + wh (bMB b) l) = 1 then 0 else b (64 + l)) = nI (hm (bMB b) l) := fun l hl => (hm_ok ok hl).1
  have w4 : ∀ p, p < 6 → b (100 + p) = nI (dr (bMB b) p) := fun p hp => (dr_ok ok hp).1
  have f1 : ∀ l, l < 20 → A 26 l = nI (fn (bMB b) l) := fun l hl => (h7 l hl).1
  have f2 : ∀ l j, l < 20 → j < fn (bMB b) l → A 25 (20 * l + j) = nI (gg (bMB b) l j) := fun l j hl hj => (h7 l hl).2 j hj
  have f3 : ∀ l, l < 20 → fn (bMB b) l ≤ 20 := fun l hl => by
    rcases Nat.lt_or_ge l (bL b) with h | h
    · exact fn_le ok h
    · rw [fn_out h1 h]; omega
  have whN : ∀ l, l < mbL (bMB b) → F_X12_who h a (nI l) = some (nI (wh (bMB b) l)) := fun l hl => by
    simp (disch := omega) only [F_X12_who, X12_rd o, nS, Option.bind_some, hof, w1 l hl]
  refine ⟨by rw [(o.fI (k := 24) rfl), h4]; rfl, hof, fun l hl => ?_, fun l j hl hj => ?_, fun l j hl hj hj2 => ?_, whN, fun l s hl hs => ?_, fun l hl => ?_, fun p hp => ?_, ?_, ?_, f1⟩
  · rw [← f1 l hl]
    exact q_ixI (fun i h0 h1 => o.aI (k := 26) rfl h0 h1) hl (by decide)
  · have := f3 l hl
    simp (disch := omega) only [F_X12_behind, X12_rd o, nS, Option.bind_some, f1 l hl, f2 l j hl hj, if_pos, if_neg]
  · have := f3 l hl
    simp (disch := omega) only [F_X12_behind, X12_rd o, nS, Option.bind_some, f1 l hl, if_pos, if_neg]
  · have := (sc_ok ok hl).2
    simp (disch := omega) only [F_X12_isOf, X12_rd o, nS, Option.bind_some, hof, w2 l hl]
    split <;> rfl
  · have := (wh_ok ok hl).2
    simp (disch := omega) only [F_X12_harmOf, X12_rd o, Option.bind_some, whN l hl, nS, hof]
    rw [← w3 l hl, n_lit]
    split
    · rfl
    · rfl
  · rw [hof _ (by omega), w4 p hp]
  · rw [hof _ (by omega)]; exact congrArg some (fre_ok ok).1
  · rw [hof _ (by omega)]; exact congrArg some (ctt_ok ok).1
end HD
