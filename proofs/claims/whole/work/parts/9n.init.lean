/-! ===== what the constructors make (laid by wip/whole/init.py) ===== -/
def PO (h0 h : qH) (a ci : Nat) (fs : List Value) (cs : List qC) : Prop := h a = some (.inr (.inl (ci, fs))) ∧ (∀ i c, cs[i]? = some c → h (a + 1 + i) = some c) ∧ ∀ q, (q < a ∨ a + 1 + cs.length ≤ q) → h q = h0 q
section POS
variable {h0 h : qH} {a ci : Nat} {fs : List Value} {cs : List qC}
theorem PO.new : PO h0 (q_new h0 a ci fs) a ci fs [] := ⟨va_up_self _ _ _, fun i c hc => by simp at hc, fun q hq => va_up_ne _ _ (by simp only [List.length_nil] at hq; omega)⟩
theorem PO.add (p : PO h0 h a ci fs cs) {nx k : Nat} (c : qC) (hn : nx = a + 1 + cs.length) (hk : k < fs.length) : ∃ h', q_put (va_up h nx (some c)) a ci k (.ref nx) = some h' ∧ PO h0 h' a ci (fs.set k (.ref nx)) (cs ++ [c]) := by
  obtain ⟨p1, p2, p3⟩ := p
  have e : va_up h nx (some c) a = some (.inr (.inl (ci, fs))) := by rw [va_up_ne _ _ (by omega)]; exact p1
  refine ⟨va_up (va_up h nx (some c)) a (some (.inr (.inl (ci, fs.set k (.ref nx))))), ?_, va_up_self _ _ _, fun i d hd => ?_, fun q hq => ?_⟩
  · unfold q_put
    rw [e]
    dsimp only
    rw [if_pos ⟨rfl, hk⟩]
  · rw [va_up_ne _ _ (by omega)]
    rcases Nat.lt_trichotomy i cs.length with hi | hi | hi
    · rw [List.getElem?_append_left hi] at hd
      rw [va_up_ne _ _ (by omega)]
      exact p2 i d hd
    · subst hi
      rw [List.getElem?_append_right (Nat.le_refl _), Nat.sub_self] at hd
      cases hd
      rw [← hn]
      exact va_up_self _ _ _
    · rw [List.getElem?_eq_none (by simp; omega)] at hd
      cases hd
  · rw [List.length_append, List.length_singleton] at hq
    rw [va_up_ne _ _ (by omega), va_up_ne _ _ (by omega)]
    exact p3 q (by omega)
theorem PO.put (p : PO h0 h a ci fs cs) {k : Nat} (v : Value) (hk : k < fs.length) : ∃ h', q_put h a ci k v = some h' ∧ PO h0 h' a ci (fs.set k v) cs := by
  obtain ⟨p1, p2, p3⟩ := p
  refine ⟨va_up h a (some (.inr (.inl (ci, fs.set k v)))), ?_, va_up_self _ _ _, fun i d hd => ?_, fun q hq => ?_⟩
  · unfold q_put
    rw [p1]
    dsimp only
    rw [if_pos ⟨rfl, hk⟩]
  · rw [va_up_ne _ _ (by omega)]; exact p2 i d hd
  · rw [va_up_ne _ _ (by omega)]; exact p3 q hq
theorem PO.ob {lay : List (Nat × Nat)} {A : Nat → Nat → Int32} {B : Nat → Nat → Int64} {I : Nat → Int32} {J : Nat → Int64} (p : PO h0 h a ci fs cs) (hf : fs = (List.range lay.length).map (obF lay a I J)) (hc : ∀ k kd n, lay[k]? = some (kd, n) → isRow kd = true → cs[rk lay k]? = some (.inl (obC A B kd n k))) : OB h a ci lay A B I J := ⟨by rw [p.1, hf], fun k kd n hk hr => p.2.1 _ _ (hc k kd n hk hr)⟩
end POS
abbrev zA : Nat → Nat → Int32 := fun _ _ => 0
abbrev zB : Nat → Nat → Int64 := fun _ _ => 0
abbrev zI : Nat → Int32 := fun _ => 0
abbrev zJ : Nat → Int64 := fun _ => 0
theorem n_X0 (h : qH) (a : Nat) : ∃ h', F_X0_init (q_new h a 0 df_X0) (a + 1) a = some (h', a + 12) ∧ OB h' a 0 bkL zA zB zI zJ ∧ Fr h h' a (a + 12) := by
  have p0 : PO h (q_new h a 0 df_X0) a 0 df_X0 [] := PO.new
  obtain ⟨h1, e1, p1⟩ := p0.add (nx := a + 1) (k := 0) (.inl (.int, 20, .inl (fun _ => 0))) rfl (Nat.le_of_ble_eq_true rfl)
  obtain ⟨h2, e2, p2⟩ := p1.add (nx := a + 2) (k := 1) (.inl (.int, 20, .inl (fun _ => 0))) rfl (Nat.le_of_ble_eq_true rfl)
  obtain ⟨h3, e3, p3⟩ := p2.add (nx := a + 3) (k := 2) (.inl (.int, 20, .inl (fun _ => 0))) rfl (Nat.le_of_ble_eq_true rfl)
  obtain ⟨h4, e4, p4⟩ := p3.add (nx := a + 4) (k := 3) (.inl (.int, 20, .inl (fun _ => 0))) rfl (Nat.le_of_ble_eq_true rfl)
  obtain ⟨h5, e5, p5⟩ := p4.add (nx := a + 5) (k := 4) (.inl (.int, 20, .inl (fun _ => 0))) rfl (Nat.le_of_ble_eq_true rfl)
  obtain ⟨h6, e6, p6⟩ := p5.add (nx := a + 6) (k := 5) (.inl (.int, 8, .inl (fun _ => 0))) rfl (Nat.le_of_ble_eq_true rfl)
  obtain ⟨h7, e7, p7⟩ := p6.add (nx := a + 7) (k := 6) (.inl (.int, 8, .inl (fun _ => 0))) rfl (Nat.le_of_ble_eq_true rfl)
  obtain ⟨h8, e8, p8⟩ := p7.add (nx := a + 8) (k := 7) (.inl (.int, 6, .inl (fun _ => 0))) rfl (Nat.le_of_ble_eq_true rfl)
  obtain ⟨h9, e9, p9⟩ := p8.add (nx := a + 9) (k := 8) (.inl (.int, 6, .inl (fun _ => 0))) rfl (Nat.le_of_ble_eq_true rfl)
  obtain ⟨h10, e10, p10⟩ := p9.add (nx := a + 10) (k := 9) (.inl (.int, 400, .inl (fun _ => 0))) rfl (Nat.le_of_ble_eq_true rfl)
  obtain ⟨h11, e11, p11⟩ := p10.add (nx := a + 11) (k := 10) (.inl (.int, 20, .inl (fun _ => 0))) rfl (Nat.le_of_ble_eq_true rfl)
  refine ⟨h11, ?_, p11.ob rfl (fun k kd n hk hr => ?_), fun q hq => p11.2.2 q hq⟩
  · unfold F_X0_init
    have e1 : q_put (q_nwI (q_new h a 0 df_X0) (a + 1) .int 20) a 0 0 (.ref (a + 1)) = some h1 := e1
    rw [e1, Option.bind_some]
    have e2 : q_put (q_nwI h1 (a + 1 + 1) .int 20) a 0 1 (.ref (a + 1 + 1)) = some h2 := e2
    rw [e2, Option.bind_some]
    have e3 : q_put (q_nwI h2 (a + 1 + 1 + 1) .int 20) a 0 2 (.ref (a + 1 + 1 + 1)) = some h3 := e3
    rw [e3, Option.bind_some]
    have e4 : q_put (q_nwI h3 (a + 1 + 1 + 1 + 1) .int 20) a 0 3 (.ref (a + 1 + 1 + 1 + 1)) = some h4 := e4
    rw [e4, Option.bind_some]
    have e5 : q_put (q_nwI h4 (a + 1 + 1 + 1 + 1 + 1) .int 20) a 0 4 (.ref (a + 1 + 1 + 1 + 1 + 1)) = some h5 := e5
    rw [e5, Option.bind_some]
    have e6 : q_put (q_nwI h5 (a + 1 + 1 + 1 + 1 + 1 + 1) .int 8) a 0 5 (.ref (a + 1 + 1 + 1 + 1 + 1 + 1)) = some h6 := e6
    rw [e6, Option.bind_some]
    have e7 : q_put (q_nwI h6 (a + 1 + 1 + 1 + 1 + 1 + 1 + 1) .int 8) a 0 6 (.ref (a + 1 + 1 + 1 + 1 + 1 + 1 + 1)) = some h7 := e7
    rw [e7, Option.bind_some]
    have e8 : q_put (q_nwI h7 (a + 1 + 1 + 1 + 1 + 1 + 1 + 1 + 1) .int 6) a 0 7 (.ref (a + 1 + 1 + 1 + 1 + 1 + 1 + 1 + 1)) = some h8 := e8
    rw [e8, Option.bind_some]
    have e9 : q_put (q_nwI h8 (a + 1 + 1 + 1 + 1 + 1 + 1 + 1 + 1 + 1) .int 6) a 0 8 (.ref (a + 1 + 1 + 1 + 1 + 1 + 1 + 1 + 1 + 1)) = some h9 := e9
    rw [e9, Option.bind_some]
    have e10 : q_put (q_nwI h9 (a + 1 + 1 + 1 + 1 + 1 + 1 + 1 + 1 + 1 + 1) .int 400) a 0 9 (.ref (a + 1 + 1 + 1 + 1 + 1 + 1 + 1 + 1 + 1 + 1)) = some h10 := e10
    rw [e10, Option.bind_some]
    have e11 : q_put (q_nwI h10 (a + 1 + 1 + 1 + 1 + 1 + 1 + 1 + 1 + 1 + 1 + 1) .int 20) a 0 10 (.ref (a + 1 + 1 + 1 + 1 + 1 + 1 + 1 + 1 + 1 + 1 + 1)) = some h11 := e11
    rw [e11, Option.bind_some]
  · have hl : k < 15 := (List.getElem?_eq_some_iff.mp hk).1
    rcases (show k = 0 ∨ k = 1 ∨ k = 2 ∨ k = 3 ∨ k = 4 ∨ k = 5 ∨ k = 6 ∨ k = 7 ∨ k = 8 ∨ k = 9 ∨ k = 10 ∨ k = 11 ∨ k = 12 ∨ k = 13 ∨ k = 14 by omega) with rfl | rfl | rfl | rfl | rfl | rfl | rfl | rfl | rfl | rfl | rfl | rfl | rfl | rfl | rfl
    · cases (show some (1, 20) = some (kd, n) from hk); rfl
    · cases (show some (1, 20) = some (kd, n) from hk); rfl
    · cases (show some (1, 20) = some (kd, n) from hk); rfl
    · cases (show some (1, 20) = some (kd, n) from hk); rfl
    · cases (show some (1, 20) = some (kd, n) from hk); rfl
    · cases (show some (1, 8) = some (kd, n) from hk); rfl
    · cases (show some (1, 8) = some (kd, n) from hk); rfl
    · cases (show some (1, 6) = some (kd, n) from hk); rfl
    · cases (show some (1, 6) = some (kd, n) from hk); rfl
    · cases (show some (1, 400) = some (kd, n) from hk); rfl
    · cases (show some (1, 20) = some (kd, n) from hk); rfl
    · cases (show some (0, 0) = some (kd, n) from hk); cases hr
    · cases (show some (0, 0) = some (kd, n) from hk); cases hr
    · cases (show some (0, 0) = some (kd, n) from hk); cases hr
    · cases (show some (0, 0) = some (kd, n) from hk); cases hr
theorem n_X1 (h : qH) (a : Nat) : ∃ h', F_X1_init (q_new h a 1 df_X1) (a + 1) a = some (h', a + 3) ∧ OB h' a 1 evL zA zB zI zJ ∧ Fr h h' a (a + 3) := by
  have p0 : PO h (q_new h a 1 df_X1) a 1 df_X1 [] := PO.new
  obtain ⟨h1, e1, p1⟩ := p0.add (nx := a + 1) (k := 0) (.inl (.int, 40, .inl (fun _ => 0))) rfl (Nat.le_of_ble_eq_true rfl)
  obtain ⟨h2, e2, p2⟩ := p1.add (nx := a + 2) (k := 1) (.inl (.int, 40, .inl (fun _ => 0))) rfl (Nat.le_of_ble_eq_true rfl)
  refine ⟨h2, ?_, p2.ob rfl (fun k kd n hk hr => ?_), fun q hq => p2.2.2 q hq⟩
  · unfold F_X1_init
    have e1 : q_put (q_nwI (q_new h a 1 df_X1) (a + 1) .int 40) a 1 0 (.ref (a + 1)) = some h1 := e1
    rw [e1, Option.bind_some]
    have e2 : q_put (q_nwI h1 (a + 1 + 1) .int 40) a 1 1 (.ref (a + 1 + 1)) = some h2 := e2
    rw [e2, Option.bind_some]
  · have hl : k < 3 := (List.getElem?_eq_some_iff.mp hk).1
    rcases (show k = 0 ∨ k = 1 ∨ k = 2 by omega) with rfl | rfl | rfl
    · cases (show some (1, 40) = some (kd, n) from hk); rfl
    · cases (show some (1, 40) = some (kd, n) from hk); rfl
    · cases (show some (0, 0) = some (kd, n) from hk); cases hr
theorem n_X3 (h : qH) (a : Nat) : ∃ h', F_X3_init (q_new h a 3 df_X3) (a + 1) a = some (h', a + 2) ∧ OB h' a 3 lgL zA zB zI zJ ∧ Fr h h' a (a + 2) := by
  have p0 : PO h (q_new h a 3 df_X3) a 3 df_X3 [] := PO.new
  obtain ⟨h1, e1, p1⟩ := p0.add (nx := a + 1) (k := 0) (.inl (.int, 12, .inl (fun _ => 0))) rfl (Nat.le_of_ble_eq_true rfl)
  refine ⟨h1, ?_, p1.ob rfl (fun k kd n hk hr => ?_), fun q hq => p1.2.2 q hq⟩
  · unfold F_X3_init
    have e1 : q_put (q_nwI (q_new h a 3 df_X3) (a + 1) .int 12) a 3 0 (.ref (a + 1)) = some h1 := e1
    rw [e1, Option.bind_some]
  · have hl : k < 2 := (List.getElem?_eq_some_iff.mp hk).1
    rcases (show k = 0 ∨ k = 1 by omega) with rfl | rfl
    · cases (show some (1, 12) = some (kd, n) from hk); rfl
    · cases (show some (0, 0) = some (kd, n) from hk); cases hr
theorem n_X10 (h : qH) (a : Nat) : ∃ h', F_X10_init (q_new h a 10 df_X10) (a + 1) a = some (h', a + 5) ∧ OB h' a 10 twL zA zB zI zJ ∧ Fr h h' a (a + 5) := by
  have p0 : PO h (q_new h a 10 df_X10) a 10 df_X10 [] := PO.new
  obtain ⟨h1, e1, p1⟩ := p0.add (nx := a + 1) (k := 0) (.inl (.int, 9, .inl (fun _ => 0))) rfl (Nat.le_of_ble_eq_true rfl)
  obtain ⟨h2, e2, p2⟩ := p1.add (nx := a + 2) (k := 1) (.inl (.int, 9, .inl (fun _ => 0))) rfl (Nat.le_of_ble_eq_true rfl)
  obtain ⟨h3, e3, p3⟩ := p2.add (nx := a + 3) (k := 2) (.inl (.int, 9, .inl (fun _ => 0))) rfl (Nat.le_of_ble_eq_true rfl)
  obtain ⟨h4, e4, p4⟩ := p3.add (nx := a + 4) (k := 3) (.inl (.int, 9, .inl (fun _ => 0))) rfl (Nat.le_of_ble_eq_true rfl)
  refine ⟨h4, ?_, p4.ob rfl (fun k kd n hk hr => ?_), fun q hq => p4.2.2 q hq⟩
  · unfold F_X10_init
    have e1 : q_put (q_nwI (q_new h a 10 df_X10) (a + 1) .int 9) a 10 0 (.ref (a + 1)) = some h1 := e1
    rw [e1, Option.bind_some]
    have e2 : q_put (q_nwI h1 (a + 1 + 1) .int 9) a 10 1 (.ref (a + 1 + 1)) = some h2 := e2
    rw [e2, Option.bind_some]
    have e3 : q_put (q_nwI h2 (a + 1 + 1 + 1) .int 9) a 10 2 (.ref (a + 1 + 1 + 1)) = some h3 := e3
    rw [e3, Option.bind_some]
    have e4 : q_put (q_nwI h3 (a + 1 + 1 + 1 + 1) .int 9) a 10 3 (.ref (a + 1 + 1 + 1 + 1)) = some h4 := e4
    rw [e4, Option.bind_some]
  · have hl : k < 5 := (List.getElem?_eq_some_iff.mp hk).1
    rcases (show k = 0 ∨ k = 1 ∨ k = 2 ∨ k = 3 ∨ k = 4 by omega) with rfl | rfl | rfl | rfl | rfl
    · cases (show some (1, 9) = some (kd, n) from hk); rfl
    · cases (show some (1, 9) = some (kd, n) from hk); rfl
    · cases (show some (1, 9) = some (kd, n) from hk); rfl
    · cases (show some (1, 9) = some (kd, n) from hk); rfl
    · cases (show some (0, 0) = some (kd, n) from hk); cases hr
theorem n_X7 (h : qH) (a : Nat) : ∃ h', F_X7_init (q_new h a 7 df_X7) (a + 1) a = some (h', a + 4) ∧ OB h' a 7 rdL zA zB zI zJ ∧ Fr h h' a (a + 4) := by
  have p0 : PO h (q_new h a 7 df_X7) a 7 df_X7 [] := PO.new
  obtain ⟨h1, e1, p1⟩ := p0.add (nx := a + 1) (k := 0) (.inl (.int, 601, .inl (fun _ => 0))) rfl (Nat.le_of_ble_eq_true rfl)
  obtain ⟨h2, e2, p2⟩ := p1.add (nx := a + 2) (k := 1) (.inl (.int, 601, .inl (fun _ => 0))) rfl (Nat.le_of_ble_eq_true rfl)
  obtain ⟨h3, e3, p3⟩ := p2.add (nx := a + 3) (k := 2) (.inl (.int, 601, .inl (fun _ => 0))) rfl (Nat.le_of_ble_eq_true rfl)
  refine ⟨h3, ?_, p3.ob rfl (fun k kd n hk hr => ?_), fun q hq => p3.2.2 q hq⟩
  · unfold F_X7_init
    have e1 : q_put (q_nwI (q_new h a 7 df_X7) (a + 1) .int 601) a 7 0 (.ref (a + 1)) = some h1 := e1
    rw [e1, Option.bind_some]
    have e2 : q_put (q_nwI h1 (a + 1 + 1) .int 601) a 7 1 (.ref (a + 1 + 1)) = some h2 := e2
    rw [e2, Option.bind_some]
    have e3 : q_put (q_nwI h2 (a + 1 + 1 + 1) .int 601) a 7 2 (.ref (a + 1 + 1 + 1)) = some h3 := e3
    rw [e3, Option.bind_some]
  · have hl : k < 6 := (List.getElem?_eq_some_iff.mp hk).1
    rcases (show k = 0 ∨ k = 1 ∨ k = 2 ∨ k = 3 ∨ k = 4 ∨ k = 5 by omega) with rfl | rfl | rfl | rfl | rfl | rfl
    · cases (show some (1, 601) = some (kd, n) from hk); rfl
    · cases (show some (1, 601) = some (kd, n) from hk); rfl
    · cases (show some (1, 601) = some (kd, n) from hk); rfl
    · cases (show some (0, 0) = some (kd, n) from hk); cases hr
    · cases (show some (0, 0) = some (kd, n) from hk); cases hr
    · cases (show some (0, 0) = some (kd, n) from hk); cases hr
theorem n_X8 (h : qH) (a : Nat) : ∃ h', F_X8_init (q_new h a 8 df_X8) (a + 1) a = some (h', a + 3) ∧ OB h' a 8 stL zA zB zI zJ ∧ Fr h h' a (a + 3) := by
  have p0 : PO h (q_new h a 8 df_X8) a 8 df_X8 [] := PO.new
  obtain ⟨h1, e1, p1⟩ := p0.add (nx := a + 1) (k := 0) (.inl (.int, 6, .inl (fun _ => 0))) rfl (Nat.le_of_ble_eq_true rfl)
  obtain ⟨h2, e2, p2⟩ := p1.add (nx := a + 2) (k := 1) (.inl (.int, 6, .inl (fun _ => 0))) rfl (Nat.le_of_ble_eq_true rfl)
  refine ⟨h2, ?_, p2.ob rfl (fun k kd n hk hr => ?_), fun q hq => p2.2.2 q hq⟩
  · unfold F_X8_init
    have e1 : q_put (q_nwI (q_new h a 8 df_X8) (a + 1) .int 6) a 8 0 (.ref (a + 1)) = some h1 := e1
    rw [e1, Option.bind_some]
    have e2 : q_put (q_nwI h1 (a + 1 + 1) .int 6) a 8 1 (.ref (a + 1 + 1)) = some h2 := e2
    rw [e2, Option.bind_some]
  · have hl : k < 11 := (List.getElem?_eq_some_iff.mp hk).1
    rcases (show k = 0 ∨ k = 1 ∨ k = 2 ∨ k = 3 ∨ k = 4 ∨ k = 5 ∨ k = 6 ∨ k = 7 ∨ k = 8 ∨ k = 9 ∨ k = 10 by omega) with rfl | rfl | rfl | rfl | rfl | rfl | rfl | rfl | rfl | rfl | rfl
    · cases (show some (1, 6) = some (kd, n) from hk); rfl
    · cases (show some (1, 6) = some (kd, n) from hk); rfl
    · cases (show some (0, 0) = some (kd, n) from hk); cases hr
    · cases (show some (0, 0) = some (kd, n) from hk); cases hr
    · cases (show some (0, 0) = some (kd, n) from hk); cases hr
    · cases (show some (0, 0) = some (kd, n) from hk); cases hr
    · cases (show some (0, 0) = some (kd, n) from hk); cases hr
    · cases (show some (0, 0) = some (kd, n) from hk); cases hr
    · cases (show some (0, 0) = some (kd, n) from hk); cases hr
    · cases (show some (0, 0) = some (kd, n) from hk); cases hr
    · cases (show some (0, 0) = some (kd, n) from hk); cases hr
theorem n_X6 (h : qH) (a : Nat) : ∃ h', F_X6_init (q_new h a 6 df_X6) (a + 1) a = some (h', a + 8) ∧ OB h' a 6 ptL zA zB zI zJ ∧ Fr h h' a (a + 8) := by
  have p0 : PO h (q_new h a 6 df_X6) a 6 df_X6 [] := PO.new
  obtain ⟨h1, e1, p1⟩ := p0.add (nx := a + 1) (k := 0) (.inl (.int, 420, .inl (fun _ => 0))) rfl (Nat.le_of_ble_eq_true rfl)
  obtain ⟨h2, e2, p2⟩ := p1.add (nx := a + 2) (k := 1) (.inl (.int, 200, .inl (fun _ => 0))) rfl (Nat.le_of_ble_eq_true rfl)
  obtain ⟨h3, e3, p3⟩ := p2.add (nx := a + 3) (k := 2) (.inl (.int, 200, .inl (fun _ => 0))) rfl (Nat.le_of_ble_eq_true rfl)
  obtain ⟨h4, e4, p4⟩ := p3.add (nx := a + 4) (k := 3) (.inl (.long, 20, .inr (.inl (fun _ => 0)))) rfl (Nat.le_of_ble_eq_true rfl)
  obtain ⟨h5, e5, p5⟩ := p4.add (nx := a + 5) (k := 4) (.inl (.long, 20, .inr (.inl (fun _ => 0)))) rfl (Nat.le_of_ble_eq_true rfl)
  obtain ⟨h6, e6, p6⟩ := p5.add (nx := a + 6) (k := 5) (.inl (.int, 4, .inl (fun _ => 0))) rfl (Nat.le_of_ble_eq_true rfl)
  obtain ⟨h7, e7, p7⟩ := p6.add (nx := a + 7) (k := 6) (.inl (.int, 4, .inl (fun _ => 0))) rfl (Nat.le_of_ble_eq_true rfl)
  refine ⟨h7, ?_, p7.ob rfl (fun k kd n hk hr => ?_), fun q hq => p7.2.2 q hq⟩
  · unfold F_X6_init
    have e1 : q_put (q_nwI (q_new h a 6 df_X6) (a + 1) .int 420) a 6 0 (.ref (a + 1)) = some h1 := e1
    rw [e1, Option.bind_some]
    have e2 : q_put (q_nwI h1 (a + 1 + 1) .int 200) a 6 1 (.ref (a + 1 + 1)) = some h2 := e2
    rw [e2, Option.bind_some]
    have e3 : q_put (q_nwI h2 (a + 1 + 1 + 1) .int 200) a 6 2 (.ref (a + 1 + 1 + 1)) = some h3 := e3
    rw [e3, Option.bind_some]
    have e4 : q_put (q_nwL h3 (a + 1 + 1 + 1 + 1) 20) a 6 3 (.ref (a + 1 + 1 + 1 + 1)) = some h4 := e4
    rw [e4, Option.bind_some]
    have e5 : q_put (q_nwL h4 (a + 1 + 1 + 1 + 1 + 1) 20) a 6 4 (.ref (a + 1 + 1 + 1 + 1 + 1)) = some h5 := e5
    rw [e5, Option.bind_some]
    have e6 : q_put (q_nwI h5 (a + 1 + 1 + 1 + 1 + 1 + 1) .int 4) a 6 5 (.ref (a + 1 + 1 + 1 + 1 + 1 + 1)) = some h6 := e6
    rw [e6, Option.bind_some]
    have e7 : q_put (q_nwI h6 (a + 1 + 1 + 1 + 1 + 1 + 1 + 1) .int 4) a 6 6 (.ref (a + 1 + 1 + 1 + 1 + 1 + 1 + 1)) = some h7 := e7
    rw [e7, Option.bind_some]
  · have hl : k < 7 := (List.getElem?_eq_some_iff.mp hk).1
    rcases (show k = 0 ∨ k = 1 ∨ k = 2 ∨ k = 3 ∨ k = 4 ∨ k = 5 ∨ k = 6 by omega) with rfl | rfl | rfl | rfl | rfl | rfl | rfl
    · cases (show some (1, 420) = some (kd, n) from hk); rfl
    · cases (show some (1, 200) = some (kd, n) from hk); rfl
    · cases (show some (1, 200) = some (kd, n) from hk); rfl
    · cases (show some (3, 20) = some (kd, n) from hk); rfl
    · cases (show some (3, 20) = some (kd, n) from hk); rfl
    · cases (show some (1, 4) = some (kd, n) from hk); rfl
    · cases (show some (1, 4) = some (kd, n) from hk); rfl
theorem n_X5 (h : qH) (a : Nat) : ∃ h', F_X5_init (q_new h a 5 df_X5) (a + 1) a = some (h', a + 3) ∧ OB h' a 5 odL zA zB zI (vp_updL zJ 3 1) ∧ Fr h h' a (a + 3) := by
  have p0 : PO h (q_new h a 5 df_X5) a 5 df_X5 [] := PO.new
  obtain ⟨h1, e1, p1⟩ := p0.add (nx := a + 1) (k := 0) (.inl (.long, 20, .inr (.inl (fun _ => 0)))) rfl (Nat.le_of_ble_eq_true rfl)
  obtain ⟨h2, e2, p2⟩ := p1.add (nx := a + 2) (k := 1) (.inl (.long, 20, .inr (.inl (fun _ => 0)))) rfl (Nat.le_of_ble_eq_true rfl)
  obtain ⟨h3, e3, p3⟩ := p2.put (k := 3) (.long 1) (Nat.le_of_ble_eq_true rfl)
  refine ⟨h3, ?_, p3.ob rfl (fun k kd n hk hr => ?_), fun q hq => p3.2.2 q hq⟩
  · unfold F_X5_init
    have e1 : q_put (q_nwL (q_new h a 5 df_X5) (a + 1) 20) a 5 0 (.ref (a + 1)) = some h1 := e1
    rw [e1, Option.bind_some]
    have e2 : q_put (q_nwL h1 (a + 1 + 1) 20) a 5 1 (.ref (a + 1 + 1)) = some h2 := e2
    rw [e2, Option.bind_some]
    have e3 : q_put h2 a 5 3 (.long (1 : Int64)) = some h3 := e3
    rw [e3, Option.bind_some]
  · have hl : k < 4 := (List.getElem?_eq_some_iff.mp hk).1
    rcases (show k = 0 ∨ k = 1 ∨ k = 2 ∨ k = 3 by omega) with rfl | rfl | rfl | rfl
    · cases (show some (3, 20) = some (kd, n) from hk); rfl
    · cases (show some (3, 20) = some (kd, n) from hk); rfl
    · cases (show some (2, 0) = some (kd, n) from hk); cases hr
    · cases (show some (2, 0) = some (kd, n) from hk); cases hr
theorem n_X4 (h : qH) (a : Nat) : ∃ h', F_X4_init (q_new h a 4 df_X4) (a + 1) a = some (h', a + 5) ∧ OB h' a 4 mgL zA zB zI zJ ∧ Fr h h' a (a + 5) := by
  have p0 : PO h (q_new h a 4 df_X4) a 4 df_X4 [] := PO.new
  obtain ⟨h1, e1, p1⟩ := p0.add (nx := a + 1) (k := 0) (.inl (.int, 12, .inl (fun _ => 0))) rfl (Nat.le_of_ble_eq_true rfl)
  obtain ⟨h2, e2, p2⟩ := p1.add (nx := a + 2) (k := 1) (.inl (.int, 12, .inl (fun _ => 0))) rfl (Nat.le_of_ble_eq_true rfl)
  obtain ⟨h3, e3, p3⟩ := p2.add (nx := a + 3) (k := 2) (.inl (.int, 169, .inl (fun _ => 0))) rfl (Nat.le_of_ble_eq_true rfl)
  obtain ⟨h4, e4, p4⟩ := p3.add (nx := a + 4) (k := 3) (.inl (.int, 24, .inl (fun _ => 0))) rfl (Nat.le_of_ble_eq_true rfl)
  refine ⟨h4, ?_, p4.ob rfl (fun k kd n hk hr => ?_), fun q hq => p4.2.2 q hq⟩
  · unfold F_X4_init
    have e1 : q_put (q_nwI (q_new h a 4 df_X4) (a + 1) .int 12) a 4 0 (.ref (a + 1)) = some h1 := e1
    rw [e1, Option.bind_some]
    have e2 : q_put (q_nwI h1 (a + 1 + 1) .int 12) a 4 1 (.ref (a + 1 + 1)) = some h2 := e2
    rw [e2, Option.bind_some]
    have e3 : q_put (q_nwI h2 (a + 1 + 1 + 1) .int 169) a 4 2 (.ref (a + 1 + 1 + 1)) = some h3 := e3
    rw [e3, Option.bind_some]
    have e4 : q_put (q_nwI h3 (a + 1 + 1 + 1 + 1) .int 24) a 4 3 (.ref (a + 1 + 1 + 1 + 1)) = some h4 := e4
    rw [e4, Option.bind_some]
  · have hl : k < 7 := (List.getElem?_eq_some_iff.mp hk).1
    rcases (show k = 0 ∨ k = 1 ∨ k = 2 ∨ k = 3 ∨ k = 4 ∨ k = 5 ∨ k = 6 by omega) with rfl | rfl | rfl | rfl | rfl | rfl | rfl
    · cases (show some (1, 12) = some (kd, n) from hk); rfl
    · cases (show some (1, 12) = some (kd, n) from hk); rfl
    · cases (show some (1, 169) = some (kd, n) from hk); rfl
    · cases (show some (1, 24) = some (kd, n) from hk); rfl
    · cases (show some (0, 0) = some (kd, n) from hk); cases hr
    · cases (show some (0, 0) = some (kd, n) from hk); cases hr
    · cases (show some (0, 0) = some (kd, n) from hk); cases hr
theorem n_X2 (h : qH) (a : Nat) : ∃ h', F_X2_init (q_new h a 2 df_X2) (a + 1) a = some (h', a + 4) ∧ OB h' a 2 fiL zA zB zI zJ ∧ Fr h h' a (a + 4) := by
  have p0 : PO h (q_new h a 2 df_X2) a 2 df_X2 [] := PO.new
  obtain ⟨h1, e1, p1⟩ := p0.add (nx := a + 1) (k := 0) (.inl (.long, 240, .inr (.inl (fun _ => 0)))) rfl (Nat.le_of_ble_eq_true rfl)
  obtain ⟨h2, e2, p2⟩ := p1.add (nx := a + 2) (k := 1) (.inl (.long, 240, .inr (.inl (fun _ => 0)))) rfl (Nat.le_of_ble_eq_true rfl)
  obtain ⟨h3, e3, p3⟩ := p2.add (nx := a + 3) (k := 2) (.inl (.int, 240, .inl (fun _ => 0))) rfl (Nat.le_of_ble_eq_true rfl)
  refine ⟨h3, ?_, p3.ob rfl (fun k kd n hk hr => ?_), fun q hq => p3.2.2 q hq⟩
  · unfold F_X2_init
    have e1 : q_put (q_nwL (q_new h a 2 df_X2) (a + 1) 240) a 2 0 (.ref (a + 1)) = some h1 := e1
    rw [e1, Option.bind_some]
    have e2 : q_put (q_nwL h1 (a + 1 + 1) 240) a 2 1 (.ref (a + 1 + 1)) = some h2 := e2
    rw [e2, Option.bind_some]
    have e3 : q_put (q_nwI h2 (a + 1 + 1 + 1) .int 240) a 2 2 (.ref (a + 1 + 1 + 1)) = some h3 := e3
    rw [e3, Option.bind_some]
  · have hl : k < 3 := (List.getElem?_eq_some_iff.mp hk).1
    rcases (show k = 0 ∨ k = 1 ∨ k = 2 by omega) with rfl | rfl | rfl
    · cases (show some (3, 240) = some (kd, n) from hk); rfl
    · cases (show some (3, 240) = some (kd, n) from hk); rfl
    · cases (show some (1, 240) = some (kd, n) from hk); rfl
