/-! ===== the beginning: both objects are made ===== -/
def FX (h : qH) (c : Nat) (fs : List Value) : Prop := h c = some (.inr (.inl (11, fs)))
theorem FX.kept {h h' : qH} {c : Nat} {fs : List Value} (f : FX h c fs) (hk : h' c = h c) : FX h' c fs := by unfold FX at *; rw [hk]; exact f
theorem FX.put {h : qH} {c k : Nat} {fs : List Value} (f : FX h c fs) (v : Value) (hk : k < fs.length) : ∃ h', q_put h c 11 k v = some h' ∧ FX h' c (fs.set k v) ∧ Fr h h' c (c + 1) := by
  refine ⟨va_up h c (some (.inr (.inl (11, fs.set k v)))), ?_, va_up_self _ _ _, va_fr⟩
  unfold q_put
  unfold FX at f
  rw [f]
  dsimp only
  rw [if_pos ⟨rfl, hk⟩]
theorem n_X11 (h : qH) (c : Nat) : ∃ h', F_X11_init (q_new h c 11 df_X11) (c + 1) c = some (h', c + 80) ∧ RC h' c (c + 107) s0 (fun _ => none) ∧ Fr h h' c (c + 80) := by
  have f0 : FX (q_new h c 11 df_X11) c df_X11 := va_up_self _ _ _
  have w0 : Fr h (q_new h c 11 df_X11) c (c + 80) := (va_fr (h := h) (t := c)).wd (by omega) (by omega)
  obtain ⟨g1, e1, td1, r1⟩ := n_X9 (q_new h c 11 df_X11) (c + 1)
  have w1 : Fr h g1 c (c + 80) := w0.tr (r1.wd (by omega) (by omega))
  obtain ⟨g2, e2, f2, r2⟩ := (f0.kept (h' := g1) (r1 _ (by omega))).put (k := 0) (.ref (c + 1)) (Nat.le_of_ble_eq_true rfl)
  have w2 : Fr h g2 c (c + 80) := w1.tr (r2.wd (by omega) (by omega))
  have rw3 : Fr g2 (q_nwR g2 (c + 52) RX9 3) (c + 52) (c + 53) := va_fr
  obtain ⟨g3, e3, f3, r3⟩ := (f2.kept (h' := q_nwR g2 (c + 52) RX9 3) (rw3 _ (by omega))).put (k := 1) (.ref (c + 52)) (Nat.le_of_ble_eq_true rfl)
  have w3 : Fr h g3 c (c + 80) := (w2.tr (rw3.wd (by omega) (by omega))).tr (r3.wd (by omega) (by omega))
  have i3 : g3 (c + 52) = some (refs RX9 3 (fun _ => none)) := (r3 _ (by omega)).trans (va_up_self _ _ _)
  obtain ⟨g4, e4, n4, r4⟩ := n_X7 g3 (c + 53)
  obtain ⟨g5, e5, f5, r5⟩ := (f3.kept (h' := g4) (r4 _ (by omega))).put (k := 2) (.ref (c + 53)) (Nat.le_of_ble_eq_true rfl)
  obtain ⟨g6, e6, n6, r6⟩ := n_X8 g5 (c + 57)
  obtain ⟨g7, e7, f7, r7⟩ := (f5.kept (h' := g6) (r6 _ (by omega))).put (k := 3) (.ref (c + 57)) (Nat.le_of_ble_eq_true rfl)
  obtain ⟨g8, e8, n8, r8⟩ := n_X6 g7 (c + 60)
  obtain ⟨g9, e9, f9, r9⟩ := (f7.kept (h' := g8) (r8 _ (by omega))).put (k := 4) (.ref (c + 60)) (Nat.le_of_ble_eq_true rfl)
  obtain ⟨g10, e10, n10, r10⟩ := n_X5 g9 (c + 68)
  obtain ⟨g11, e11, f11, r11⟩ := (f9.kept (h' := g10) (r10 _ (by omega))).put (k := 5) (.ref (c + 68)) (Nat.le_of_ble_eq_true rfl)
  obtain ⟨g12, e12, n12, r12⟩ := n_X4 g11 (c + 71)
  obtain ⟨g13, e13, f13, r13⟩ := (f11.kept (h' := g12) (r12 _ (by omega))).put (k := 6) (.ref (c + 71)) (Nat.le_of_ble_eq_true rfl)
  obtain ⟨g14, e14, n14, r14⟩ := n_X2 g13 (c + 76)
  obtain ⟨g15, e15, f15, r15⟩ := (f13.kept (h' := g14) (r14 _ (by omega))).put (k := 7) (.ref (c + 76)) (Nat.le_of_ble_eq_true rfl)
  have k14 : ∀ q, q ≠ c → g15 q = g14 q := fun q hq => r15 q (by omega)
  have k12 : ∀ q, q ≠ c → q < c + 76 → g15 q = g12 q := fun q hq h2 => (k14 q hq).trans ((r14 q (by omega)).trans (r13 q (by omega)))
  have k10 : ∀ q, q ≠ c → q < c + 71 → g15 q = g10 q := fun q hq h2 => (k12 q hq (by omega)).trans ((r12 q (by omega)).trans (r11 q (by omega)))
  have k8 : ∀ q, q ≠ c → q < c + 68 → g15 q = g8 q := fun q hq h2 => (k10 q hq (by omega)).trans ((r10 q (by omega)).trans (r9 q (by omega)))
  have k6 : ∀ q, q ≠ c → q < c + 60 → g15 q = g6 q := fun q hq h2 => (k8 q hq (by omega)).trans ((r8 q (by omega)).trans (r7 q (by omega)))
  have k4 : ∀ q, q ≠ c → q < c + 57 → g15 q = g4 q := fun q hq h2 => (k6 q hq (by omega)).trans ((r6 q (by omega)).trans (r5 q (by omega)))
  have k3 : ∀ q, q ≠ c → q < c + 53 → g15 q = g3 q := fun q hq h2 => (k4 q hq (by omega)).trans (r4 q (by omega))
  have k1 : ∀ q, q ≠ c → q < c + 52 → g15 q = g1 q := fun q hq h2 => (k3 q hq (by omega)).trans ((r3 q (by omega)).trans ((rw3 q (by omega)).trans (r2 q (by omega))))
  have w15 : Fr h g15 c (c + 80) := fun q hq => by
    rw [r15 q (by omega), r14 q (by omega), r13 q (by omega), r12 q (by omega), r11 q (by omega), r10 q (by omega), r9 q (by omega), r8 q (by omega), r7 q (by omega), r6 q (by omega), r5 q (by omega), r4 q (by omega)]
    exact w3 q hq
  refine ⟨g15, ?_, ⟨f15, td1.kept (fun q q1 q2 => k1 q (by omega) (by omega)), ⟨?_, ?_, ?_, ?_, ?_, ?_⟩, ⟨fun _ => none, (k3 _ (by omega) (by omega)).trans i3, fun k _ => Or.inl ⟨rfl, rfl⟩, fun k j t u _ _ _ ht => by cases ht⟩⟩, w15⟩
  · unfold F_X11_init
    rw [e1, Option.bind_some]
    dsimp only
    have e3 : q_put (q_nwR g2 (c + 1 + 51) RX9 3) c 11 1 (.ref (c + 1 + 51)) = some g3 := e3
    have e4 : F_X7_init (q_new g3 (c + 1 + 51 + 1) 7 df_X7) (c + 1 + 51 + 1 + 1) (c + 1 + 51 + 1) = some (g4, c + 57) := e4
    have e5 : q_put g4 c 11 2 (.ref (c + 1 + 51 + 1)) = some g5 := e5
    rw [e2, Option.bind_some, e3, Option.bind_some, e4, Option.bind_some]
    dsimp only
    rw [e5, Option.bind_some, e6, Option.bind_some]
    dsimp only
    rw [e7, Option.bind_some, e8, Option.bind_some]
    dsimp only
    rw [e9, Option.bind_some, e10, Option.bind_some]
    dsimp only
    rw [e11, Option.bind_some, e12, Option.bind_some]
    dsimp only
    rw [e13, Option.bind_some, e14, Option.bind_some]
    dsimp only
    rw [e15, Option.bind_some]
  · exact OBx.kept ⟨_, _, _, _, n4⟩ (fun q q1 q2 => by rw [X7_Z] at q2; exact k4 q (by omega) (by omega))
  · exact OBx.kept ⟨_, _, _, _, n6⟩ (fun q q1 q2 => by rw [X8_Z] at q2; exact k6 q (by omega) (by omega))
  · exact OBx.kept ⟨_, _, _, _, n8⟩ (fun q q1 q2 => by rw [X6_Z] at q2; exact k8 q (by omega) (by omega))
  · exact OBx.kept ⟨_, _, _, _, n10⟩ (fun q q1 q2 => by rw [X5_Z] at q2; exact k10 q (by omega) (by omega))
  · exact OBx.kept ⟨_, _, _, _, n12⟩ (fun q q1 q2 => by rw [X4_Z] at q2; exact k12 q (by omega) (by omega))
  · exact OBx.kept ⟨_, _, _, _, n14⟩ (fun q q1 q2 => k14 q (by omega))
/-- the state at the beginning -/
theorem q_begin (h : qH) (c : Nat) : ∃ h1 h2, F_X11_init (q_new h c 11 df_X11) (c + 1) c = some (h1, c + 80) ∧ F_X12_init (q_new h1 (c + 80) 12 df_X12) (c + 80 + 1) (c + 80) = some (h2, c + 107) ∧ ST h2 c (c + 107) s0 (fun _ => none) ∧ ∀ q, q < c → h2 q = h q := by
  obtain ⟨h1, e1, rc, r1⟩ := n_X11 h c
  obtain ⟨h2, e2, o2, r2⟩ := n_X12 h1 (c + 80)
  refine ⟨h1, h2, e1, e2, ⟨s0_ok, rc.m r2, ⟨_, _, _, _, o2, ?_, fun k hk => Or.inl ⟨rfl, rfl⟩⟩, Nat.le_refl _⟩, fun q hq => (r2 q (by omega)).trans (r1 q (by omega))⟩
  exact ⟨fun _ _ => rfl, rfl, rfl, rfl, fun _ _ => rfl, fun _ _ _ _ => rfl, fun _ _ _ _ => rfl, fun _ _ _ _ => rfl, fun _ _ _ _ => rfl⟩
