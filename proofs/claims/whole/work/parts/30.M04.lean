def rm_X6_canBeSaid : Room := { frames := 2, cells := 0, slots := 0, locals := 44 }
set_option maxRecDepth 100000 in
set_option maxHeartbeats 4000000 in
theorem B_X6_canBeSaid_67 (l : Launch) (b : Nat) (D : va_G) (z : Nat → Nat) {Φ : Option Value → qH → Nat → Prop} {nx : Nat} {h : qH} {a1 : Nat} {a2 : Int32} {a3 : Int32} {a5 : Int32} {a6 : Int32} {a7 : Int32} {a8 : Int32} {a4 : Int32} {a9 : Int32} {o : (Int32 × Int32) ⊕ Int32} (hF : b_X6_canBeSaid_67 h a1 a2 a3 a5 a6 a7 a8 a4 a9 = some o) (hback : ∀ (b4 : Int32) (b9 : Int32), o = .inl (b4, b9) → Go l b D z yX6_canBeSaid cX6_canBeSaid 11 (some .int) rm_X6_canBeSaid Φ 67 [(1, .ref a1), (2, .int a2), (3, .int a3), (4, .int b4), (5, .int a5), (6, .int a6), (7, .int a7), (8, .int a8), (9, .int b9)] [] h nx 0 0) (hx0 : ∀ (b4 : Int32), o = .inr b4 → Go l b D z yX6_canBeSaid cX6_canBeSaid 11 (some .int) rm_X6_canBeSaid Φ 129 [(1, .ref a1), (2, .int a2), (3, .int a3), (4, .int b4), (5, .int a5), (6, .int a6), (7, .int a7), (8, .int a8)] [] h nx 0 0) : Go l b D z yX6_canBeSaid cX6_canBeSaid 11 (some .int) rm_X6_canBeSaid Φ 67 [(1, .ref a1), (2, .int a2), (3, .int a3), (4, .int a4), (5, .int a5), (6, .int a6), (7, .int a7), (8, .int a8), (9, .int a9)] [] h nx 0 0 := by
  unfold b_X6_canBeSaid_67 at hF
  refine g_iload 6 dX6_canBeSaid_67 rfl ?_
  refine g_iload 7 dX6_canBeSaid_69 rfl ?_
  refine g_ishr dX6_canBeSaid_71 ?_
  refine g_iconst dX6_canBeSaid_72 lt_iconst_1 ?_
  refine g_iand dX6_canBeSaid_73 ?_
  refine g_iconst dX6_canBeSaid_74 lt_iconst_1 ?_
  refine g_icmp_ne 129 dX6_canBeSaid_75 (by decide) (fun c1 => ?_) (fun c1 => ?_)
  · replace hF := q_f c1 hF
    cases hF
    refine g_sub [0, 1, 2, 3, 4, 5, 6, 7] rfl ?_
    exact hx0 _ rfl
  · replace hF := q_t c1 hF
    refine g_iload 8 dX6_canBeSaid_78 rfl ?_
    refine g_aload_n 0 dX6_canBeSaid_80 rfl ?_
    refine g_iload 7 dX6_canBeSaid_81 rfl ?_
    obtain ⟨u2, e3, hF⟩ := q_bind hF
    obtain ⟨x4, e5, hF⟩ := q_bind hF
    refine g_callVr0 (ci := 0) (q := (RX0, TX0, 15)) qm_X0_howManyFollow wd_997 wd_791 wd_792 rfl e3 (M_X0_howManyFollow l b D z nx e5) (As := [.int a8]) rfl rfl (Nat.le_of_ble_eq_true rfl) ⟨(Nat.le_of_ble_eq_true rfl), (Nat.le_of_ble_eq_true rfl)⟩ ⟨rfl, rfl⟩ ⟨(Nat.le_of_ble_eq_true rfl), (Nat.le_of_ble_eq_true rfl)⟩ dX6_canBeSaid_83 ?_
    refine g_icmp_ge 129 dX6_canBeSaid_86 (by decide) (fun c6 => ?_) (fun c6 => ?_)
    · replace hF := q_t c6 hF
      cases hF
      refine g_sub [0, 1, 2, 3, 4, 5, 6, 7] rfl ?_
      exact hx0 _ rfl
    · replace hF := q_f c6 hF
      refine g_aload_n 0 dX6_canBeSaid_89 rfl ?_
      refine g_iload 7 dX6_canBeSaid_90 rfl ?_
      refine g_iload 8 dX6_canBeSaid_92 rfl ?_
      obtain ⟨u7, e8, hF⟩ := q_bind hF
      obtain ⟨x9, e10, hF⟩ := q_bind hF
      refine g_callVr0 (ci := 0) (q := (RX0, TX0, 15)) qm_X0_following wd_998 wd_795 wd_796 rfl e8 (M_X0_following l b D z nx e10) (As := [.int a8, .int a9]) rfl rfl (Nat.le_of_ble_eq_true rfl) ⟨(Nat.le_of_ble_eq_true rfl), (Nat.le_of_ble_eq_true rfl)⟩ ⟨rfl, rfl⟩ ⟨(Nat.le_of_ble_eq_true rfl), (Nat.le_of_ble_eq_true rfl)⟩ dX6_canBeSaid_94 ?_
      refine g_istore [(10, .int x9), (1, .ref a1), (2, .int a2), (3, .int a3), (4, .int a4), (5, .int a5), (6, .int a6), (7, .int a7), (8, .int a8), (9, .int a9)] dX6_canBeSaid_97 (Nat.le_of_ble_eq_true rfl) rfl ?_
      refine g_iload 4 dX6_canBeSaid_99 rfl ?_
      refine g_aload_n 1 dX6_canBeSaid_101 rfl ?_
      refine g_iload 0 dX6_canBeSaid_102 rfl ?_
      refine g_iload_n 2 dX6_canBeSaid_104 rfl ?_
      refine g_iload_n 3 dX6_canBeSaid_105 rfl ?_
      obtain ⟨x11, e12, hF⟩ := q_bind hF
      refine g_callSr0 qm_X6_mayBeSaid wd_1328 wd_1329 (M_X6_mayBeSaid l b D z nx e12) (As := [.ref a1, .int x9, .int a2, .int a3]) rfl rfl (Nat.le_of_ble_eq_true rfl) ⟨(Nat.le_of_ble_eq_true rfl), (Nat.le_of_ble_eq_true rfl)⟩ ⟨rfl, rfl⟩ ⟨(Nat.le_of_ble_eq_true rfl), (Nat.le_of_ble_eq_true rfl)⟩ dX6_canBeSaid_106 ?_
      refine g_if_eq 119 dX6_canBeSaid_109 (by decide) (fun c13 => ?_) (fun c13 => ?_)
      · replace hF := q_t c13 hF
        refine g_iconst dX6_canBeSaid_119 lt_iconst_0 ?_
        refine g_ior dX6_canBeSaid_120 ?_
        refine g_istore [(4, .int (a4 ||| (0 : Int32))), (10, .int x9), (1, .ref a1), (2, .int a2), (3, .int a3), (5, .int a5), (6, .int a6), (7, .int a7), (8, .int a8), (9, .int a9)] dX6_canBeSaid_121 (Nat.le_of_ble_eq_true rfl) rfl ?_
        refine g_iinc [(9, .int (a9 + 1)), (4, .int (a4 ||| (0 : Int32))), (10, .int x9), (1, .ref a1), (2, .int a2), (3, .int a3), (5, .int a5), (6, .int a6), (7, .int a7), (8, .int a8)] 9 dX6_canBeSaid_123 rfl (congrArg (a9 + ·) lt_iconst_1) (Nat.le_of_ble_eq_true rfl) rfl ?_
        refine g_goto 67 dX6_canBeSaid_126 (by decide) ?_
        cases hF
        refine g_sub [3, 4, 5, 1, 6, 7, 8, 9, 0] rfl ?_
        exact hback _ _ rfl
      · replace hF := q_f c13 hF
        refine g_iconst dX6_canBeSaid_112 lt_iconst_1 ?_
        refine g_iload 0 dX6_canBeSaid_113 rfl ?_
        refine g_ishl dX6_canBeSaid_115 ?_
        refine g_goto 120 dX6_canBeSaid_116 (by decide) ?_
        refine g_ior dX6_canBeSaid_120 ?_
        refine g_istore [(4, .int (a4 ||| (q_shl (1 : Int32) x9))), (10, .int x9), (1, .ref a1), (2, .int a2), (3, .int a3), (5, .int a5), (6, .int a6), (7, .int a7), (8, .int a8), (9, .int a9)] dX6_canBeSaid_121 (Nat.le_of_ble_eq_true rfl) rfl ?_
        refine g_iinc [(9, .int (a9 + 1)), (4, .int (a4 ||| (q_shl (1 : Int32) x9))), (10, .int x9), (1, .ref a1), (2, .int a2), (3, .int a3), (5, .int a5), (6, .int a6), (7, .int a7), (8, .int a8)] 9 dX6_canBeSaid_123 rfl (congrArg (a9 + ·) lt_iconst_1) (Nat.le_of_ble_eq_true rfl) rfl ?_
        refine g_goto 67 dX6_canBeSaid_126 (by decide) ?_
        cases hF
        refine g_sub [3, 4, 5, 1, 6, 7, 8, 9, 0] rfl ?_
        exact hback _ _ rfl
set_option maxRecDepth 100000 in
set_option maxHeartbeats 4000000 in
theorem L_X6_canBeSaid_67 (l : Launch) (b : Nat) (D : va_G) (z : Nat → Nat) {Φ : Option Value → qH → Nat → Prop} {nx : Nat} {h : qH} {a1 : Nat} {a2 : Int32} {a3 : Int32} {a5 : Int32} {a6 : Int32} {a7 : Int32} {a8 : Int32} : ∀ (n : Nat) (a4 : Int32) (a9 : Int32) (e : Int32), q_lp (s_X6_canBeSaid_67 h a1 a2 a3 a5 a6 a7 a8) n (a4, a9) = some e → (∀ (b4 : Int32), e = b4 → Go l b D z yX6_canBeSaid cX6_canBeSaid 11 (some .int) rm_X6_canBeSaid Φ 129 [(1, .ref a1), (2, .int a2), (3, .int a3), (4, .int b4), (5, .int a5), (6, .int a6), (7, .int a7), (8, .int a8)] [] h nx 0 0) → Go l b D z yX6_canBeSaid cX6_canBeSaid 11 (some .int) rm_X6_canBeSaid Φ 67 [(1, .ref a1), (2, .int a2), (3, .int a3), (4, .int a4), (5, .int a5), (6, .int a6), (7, .int a7), (8, .int a8), (9, .int a9)] [] h nx 0 0 := by
  intro n
  induction n with
  | zero => intro a4 a9 e he; cases (show none = some e from he)
  | succ n ih =>
    intro a4 a9 e he hx0
    obtain ⟨o, ho, h1, h2⟩ := q_lp_succ he
    exact B_X6_canBeSaid_67 l b D z (show b_X6_canBeSaid_67 h a1 a2 a3 a5 a6 a7 a8 a4 a9 = some o from ho) (fun b4 b9 hb => ih _ _ e (h1 _ hb) hx0) (fun p0 hr => hx0 p0 (h2 _ hr).symm)
set_option maxRecDepth 100000 in
set_option maxHeartbeats 4000000 in
theorem B_X6_canBeSaid_55 (l : Launch) (b : Nat) (D : va_G) (z : Nat → Nat) {Φ : Option Value → qH → Nat → Prop} {nx : Nat} {h : qH} {a1 : Nat} {a2 : Int32} {a3 : Int32} {a5 : Int32} {a6 : Int32} {a7 : Int32} {a4 : Int32} {a8 : Int32} {o : (Int32 × Int32) ⊕ Int32} (hF : b_X6_canBeSaid_55 h a1 a2 a3 a5 a6 a7 a4 a8 = some o) (hback : ∀ (b4 : Int32) (b8 : Int32), o = .inl (b4, b8) → Go l b D z yX6_canBeSaid cX6_canBeSaid 11 (some .int) rm_X6_canBeSaid Φ 55 [(1, .ref a1), (2, .int a2), (3, .int a3), (4, .int b4), (5, .int a5), (6, .int a6), (7, .int a7), (8, .int b8)] [] h nx 0 0) (hx0 : ∀ (b4 : Int32), o = .inr b4 → Go l b D z yX6_canBeSaid cX6_canBeSaid 11 (some .int) rm_X6_canBeSaid Φ 135 [(1, .ref a1), (2, .int a2), (3, .int a3), (4, .int b4), (5, .int a5), (6, .int a6)] [] h nx 0 0) : Go l b D z yX6_canBeSaid cX6_canBeSaid 11 (some .int) rm_X6_canBeSaid Φ 55 [(1, .ref a1), (2, .int a2), (3, .int a3), (4, .int a4), (5, .int a5), (6, .int a6), (7, .int a7), (8, .int a8)] [] h nx 0 0 := by
  unfold b_X6_canBeSaid_55 at hF
  refine g_iload 7 dX6_canBeSaid_55 rfl ?_
  refine g_aload_n 0 dX6_canBeSaid_57 rfl ?_
  obtain ⟨x1, e2, hF⟩ := q_bind hF
  refine g_getfI fl_X6_40 e2 dX6_canBeSaid_58 ?_
  refine g_icmp_ge 135 dX6_canBeSaid_61 (by decide) (fun c3 => ?_) (fun c3 => ?_)
  · replace hF := q_t c3 hF
    cases hF
    refine g_sub [0, 1, 2, 3, 4, 5] rfl ?_
    exact hx0 _ rfl
  · replace hF := q_f c3 hF
    refine g_iconst dX6_canBeSaid_64 lt_iconst_0 ?_
    refine g_istore [(9, .int (0 : Int32)), (1, .ref a1), (2, .int a2), (3, .int a3), (4, .int a4), (5, .int a5), (6, .int a6), (7, .int a7), (8, .int a8)] dX6_canBeSaid_65 (Nat.le_of_ble_eq_true rfl) rfl ?_
    obtain ⟨e4, w5, hF⟩ := q_bind hF
    refine g_sub [1, 2, 3, 4, 5, 6, 7, 8, 0] rfl ?_
    refine L_X6_canBeSaid_67 l b D z q_N a4 (0 : Int32) e4 w5 ?_
    · intro o6 w7
      replace w7 := w7.symm
      subst w7
      refine g_iinc [(8, .int (a8 + 1)), (1, .ref a1), (2, .int a2), (3, .int a3), (4, .int o6), (5, .int a5), (6, .int a6), (7, .int a7)] 7 dX6_canBeSaid_129 rfl (congrArg (a8 + ·) lt_iconst_1) (Nat.le_of_ble_eq_true rfl) rfl ?_
      refine g_goto 55 dX6_canBeSaid_132 (by decide) ?_
      cases hF
      refine g_sub [1, 2, 3, 4, 5, 6, 7, 0] rfl ?_
      exact hback _ _ rfl
set_option maxRecDepth 100000 in
set_option maxHeartbeats 4000000 in
theorem L_X6_canBeSaid_55 (l : Launch) (b : Nat) (D : va_G) (z : Nat → Nat) {Φ : Option Value → qH → Nat → Prop} {nx : Nat} {h : qH} {a1 : Nat} {a2 : Int32} {a3 : Int32} {a5 : Int32} {a6 : Int32} {a7 : Int32} : ∀ (n : Nat) (a4 : Int32) (a8 : Int32) (e : Int32), q_lp (s_X6_canBeSaid_55 h a1 a2 a3 a5 a6 a7) n (a4, a8) = some e → (∀ (b4 : Int32), e = b4 → Go l b D z yX6_canBeSaid cX6_canBeSaid 11 (some .int) rm_X6_canBeSaid Φ 135 [(1, .ref a1), (2, .int a2), (3, .int a3), (4, .int b4), (5, .int a5), (6, .int a6)] [] h nx 0 0) → Go l b D z yX6_canBeSaid cX6_canBeSaid 11 (some .int) rm_X6_canBeSaid Φ 55 [(1, .ref a1), (2, .int a2), (3, .int a3), (4, .int a4), (5, .int a5), (6, .int a6), (7, .int a7), (8, .int a8)] [] h nx 0 0 := by
  intro n
  induction n with
  | zero => intro a4 a8 e he; cases (show none = some e from he)
  | succ n ih =>
    intro a4 a8 e he hx0
    obtain ⟨o, ho, h1, h2⟩ := q_lp_succ he
    exact B_X6_canBeSaid_55 l b D z (show b_X6_canBeSaid_55 h a1 a2 a3 a5 a6 a7 a4 a8 = some o from ho) (fun b4 b8 hb => ih _ _ e (h1 _ hb) hx0) (fun p0 hr => hx0 p0 (h2 _ hr).symm)
set_option maxRecDepth 100000 in
set_option maxHeartbeats 4000000 in
theorem B_X6_canBeSaid_23 (l : Launch) (b : Nat) (D : va_G) (z : Nat → Nat) {Φ : Option Value → qH → Nat → Prop} {nx : Nat} {h : qH} {a1 : Nat} {a2 : Int32} {a3 : Int32} {a4 : Int32} {a5 : Int32} {a6 : Int32} {o : (Int32 × Int32 × Int32) ⊕ Int32} (hF : b_X6_canBeSaid_23 h a1 a2 a3 a4 a5 a6 = some o) (hback : ∀ (b4 : Int32) (b5 : Int32) (b6 : Int32), o = .inl (b4, b5, b6) → Go l b D z yX6_canBeSaid cX6_canBeSaid 11 (some .int) rm_X6_canBeSaid Φ 23 [(1, .ref a1), (2, .int a2), (3, .int a3), (4, .int b4), (5, .int b5), (6, .int b6)] [] h nx 0 0) (hx0 : ∀ (b4 : Int32), o = .inr b4 → Go l b D z yX6_canBeSaid cX6_canBeSaid 11 (some .int) rm_X6_canBeSaid Φ 141 [(4, .int b4)] [] h nx 0 0) : Go l b D z yX6_canBeSaid cX6_canBeSaid 11 (some .int) rm_X6_canBeSaid Φ 23 [(1, .ref a1), (2, .int a2), (3, .int a3), (4, .int a4), (5, .int a5), (6, .int a6)] [] h nx 0 0 := by
  unfold b_X6_canBeSaid_23 at hF
  refine g_iload 5 dX6_canBeSaid_23 rfl ?_
  refine g_aload_n 0 dX6_canBeSaid_25 rfl ?_
  obtain ⟨x1, e2, hF⟩ := q_bind hF
  refine g_getfI fl_X6_40 e2 dX6_canBeSaid_26 ?_
  refine g_icmp_ge 141 dX6_canBeSaid_29 (by decide) (fun c3 => ?_) (fun c3 => ?_)
  · replace hF := q_t c3 hF
    cases hF
    refine g_sub [3] rfl ?_
    exact hx0 _ rfl
  · replace hF := q_f c3 hF
    refine g_iload 4 dX6_canBeSaid_32 rfl ?_
    refine g_iload 3 dX6_canBeSaid_34 rfl ?_
    refine g_icmp_eq 141 dX6_canBeSaid_36 (by decide) (fun c4 => ?_) (fun c4 => ?_)
    · replace hF := q_t c4 hF
      cases hF
      refine g_sub [3] rfl ?_
      exact hx0 _ rfl
    · replace hF := q_f c4 hF
      refine g_iload 3 dX6_canBeSaid_39 rfl ?_
      refine g_iload 4 dX6_canBeSaid_41 rfl ?_
      refine g_iconst dX6_canBeSaid_43 lt_iconst_m1 ?_
      refine g_ixor dX6_canBeSaid_44 ?_
      refine g_iand dX6_canBeSaid_45 ?_
      refine g_istore [(7, .int (a4 &&& (a5 ^^^ (-1 : Int32)))), (1, .ref a1), (2, .int a2), (3, .int a3), (4, .int a4), (5, .int a5), (6, .int a6)] dX6_canBeSaid_46 (Nat.le_of_ble_eq_true rfl) rfl ?_
      refine g_iload 4 dX6_canBeSaid_48 rfl ?_
      refine g_istore [(5, .int a4), (7, .int (a4 &&& (a5 ^^^ (-1 : Int32)))), (1, .ref a1), (2, .int a2), (3, .int a3), (4, .int a4), (6, .int a6)] dX6_canBeSaid_50 (Nat.le_of_ble_eq_true rfl) rfl ?_
      refine g_iconst dX6_canBeSaid_52 lt_iconst_0 ?_
      refine g_istore [(8, .int (0 : Int32)), (5, .int a4), (7, .int (a4 &&& (a5 ^^^ (-1 : Int32)))), (1, .ref a1), (2, .int a2), (3, .int a3), (4, .int a4), (6, .int a6)] dX6_canBeSaid_53 (Nat.le_of_ble_eq_true rfl) rfl ?_
      obtain ⟨e5, w6, hF⟩ := q_bind hF
      refine g_sub [3, 4, 5, 6, 1, 7, 2, 0] rfl ?_
      refine L_X6_canBeSaid_55 l b D z q_N a4 (0 : Int32) e5 w6 ?_
      · intro o7 w8
        replace w8 := w8.symm
        subst w8
        refine g_iinc [(6, .int (a6 + 1)), (1, .ref a1), (2, .int a2), (3, .int a3), (4, .int o7), (5, .int a4)] 5 dX6_canBeSaid_135 rfl (congrArg (a6 + ·) lt_iconst_1) (Nat.le_of_ble_eq_true rfl) rfl ?_
        refine g_goto 23 dX6_canBeSaid_138 (by decide) ?_
        cases hF
        refine g_sub [1, 2, 3, 4, 5, 0] rfl ?_
        exact hback _ _ _ rfl
set_option maxRecDepth 100000 in
set_option maxHeartbeats 4000000 in
theorem L_X6_canBeSaid_23 (l : Launch) (b : Nat) (D : va_G) (z : Nat → Nat) {Φ : Option Value → qH → Nat → Prop} {nx : Nat} {h : qH} {a1 : Nat} {a2 : Int32} {a3 : Int32} : ∀ (n : Nat) (a4 : Int32) (a5 : Int32) (a6 : Int32) (e : Int32), q_lp (s_X6_canBeSaid_23 h a1 a2 a3) n (a4, a5, a6) = some e → (∀ (b4 : Int32), e = b4 → Go l b D z yX6_canBeSaid cX6_canBeSaid 11 (some .int) rm_X6_canBeSaid Φ 141 [(4, .int b4)] [] h nx 0 0) → Go l b D z yX6_canBeSaid cX6_canBeSaid 11 (some .int) rm_X6_canBeSaid Φ 23 [(1, .ref a1), (2, .int a2), (3, .int a3), (4, .int a4), (5, .int a5), (6, .int a6)] [] h nx 0 0 := by
  intro n
  induction n with
  | zero => intro a4 a5 a6 e he; cases (show none = some e from he)
  | succ n ih =>
    intro a4 a5 a6 e he hx0
    obtain ⟨o, ho, h1, h2⟩ := q_lp_succ he
    exact B_X6_canBeSaid_23 l b D z (show b_X6_canBeSaid_23 h a1 a2 a3 a4 a5 a6 = some o from ho) (fun b4 b5 b6 hb => ih _ _ _ e (h1 _ hb) hx0) (fun p0 hr => hx0 p0 (h2 _ hr).symm)
set_option maxRecDepth 100000 in
set_option maxHeartbeats 4000000 in
theorem J_X6_canBeSaid_15 (l : Launch) (b : Nat) (D : va_G) (z : Nat → Nat) {nx : Nat} {h : qH} {a1 : Nat} {a2 : Int32} {a3 : Int32} {t0 : Int32} {r : Int32} (hF : j_X6_canBeSaid_15 h a1 a2 a3 t0 = some r) : Go l b D z yX6_canBeSaid cX6_canBeSaid 11 (some .int) rm_X6_canBeSaid (qE (some (.int r)) h nx) 15 [(1, .ref a1), (2, .int a2), (3, .int a3)] [.int t0] h nx 0 0 := by
  unfold j_X6_canBeSaid_15 at hF
  refine g_istore [(4, .int t0), (1, .ref a1), (2, .int a2), (3, .int a3)] dX6_canBeSaid_15 (Nat.le_of_ble_eq_true rfl) rfl ?_
  refine g_iconst dX6_canBeSaid_17 lt_iconst_0 ?_
  refine g_istore [(5, .int (0 : Int32)), (4, .int t0), (1, .ref a1), (2, .int a2), (3, .int a3)] dX6_canBeSaid_18 (Nat.le_of_ble_eq_true rfl) rfl ?_
  refine g_iconst dX6_canBeSaid_20 lt_iconst_0 ?_
  refine g_istore [(6, .int (0 : Int32)), (5, .int (0 : Int32)), (4, .int t0), (1, .ref a1), (2, .int a2), (3, .int a3)] dX6_canBeSaid_21 (Nat.le_of_ble_eq_true rfl) rfl ?_
  obtain ⟨e1, w2, hF⟩ := q_bind hF
  refine g_sub [3, 4, 5, 2, 1, 0] rfl ?_
  refine L_X6_canBeSaid_23 l b D z q_N t0 (0 : Int32) (0 : Int32) e1 w2 ?_
  · intro o3 w4
    replace w4 := w4.symm
    subst w4
    refine g_iload 0 dX6_canBeSaid_141 rfl ?_
    cases hF
    exact g_iret dX6_canBeSaid_143 rfl ⟨rfl, rfl, rfl⟩ (Nat.le_of_ble_eq_true rfl) (Nat.le_of_ble_eq_true rfl)
set_option maxRecDepth 100000 in
set_option maxHeartbeats 4000000 in
theorem M_X6_canBeSaid (l : Launch) (b : Nat) (D : va_G) (z : Nat → Nat) (nx : Nat) {h : qH} {a0 : Nat} {a1 : Nat} {a2 : Int32} {a3 : Int32} {r : Int32} (hF : F_X6_canBeSaid h a0 a1 a2 a3 = some r) : Me l b D z yX6_canBeSaid cX6_canBeSaid 11 (some .int) rm_X6_canBeSaid [.ref a0, .ref a1, .int a2, .int a3] h nx (qE (some (.int r)) h nx) := by
  refine Me.of (by decide +kernel) (Nat.le_of_ble_eq_true rfl) ?_
  show Go l b D z yX6_canBeSaid cX6_canBeSaid 11 (some .int) rm_X6_canBeSaid (qE (some (.int r)) h nx) 0 [(0, .ref a0), (1, .ref a1), (2, .int a2), (3, .int a3)] [] h nx 0 0
  unfold F_X6_canBeSaid at hF
  refine g_aload_n 1 dX6_canBeSaid_0 rfl ?_
  refine g_iconst dX6_canBeSaid_1 lt_iconst_0 ?_
  refine g_iload_n 2 dX6_canBeSaid_2 rfl ?_
  refine g_iload_n 3 dX6_canBeSaid_3 rfl ?_
  obtain ⟨x1, e2, hF⟩ := q_bind hF
  refine g_callSr0 qm_X6_mayBeSaid wd_1328 wd_1329 (M_X6_mayBeSaid l b D z nx e2) (As := [.ref a1, .int (0 : Int32), .int a2, .int a3]) rfl rfl (Nat.le_of_ble_eq_true rfl) ⟨(Nat.le_of_ble_eq_true rfl), (Nat.le_of_ble_eq_true rfl)⟩ ⟨rfl, rfl⟩ ⟨(Nat.le_of_ble_eq_true rfl), (Nat.le_of_ble_eq_true rfl)⟩ dX6_canBeSaid_4 ?_
  refine g_if_eq 14 dX6_canBeSaid_7 (by decide) (fun c3 => ?_) (fun c3 => ?_)
  · replace hF := q_t c3 hF
    refine g_iconst dX6_canBeSaid_14 lt_iconst_0 ?_
    refine g_sub [1, 2, 3] rfl ?_
    exact J_X6_canBeSaid_15 l b D z hF
  · replace hF := q_f c3 hF
    refine g_iconst dX6_canBeSaid_10 lt_iconst_1 ?_
    refine g_goto 15 dX6_canBeSaid_11 (by decide) ?_
    refine g_sub [1, 2, 3] rfl ?_
    exact J_X6_canBeSaid_15 l b D z hF
def rm_X6_linesOf : Room := { frames := 2, cells := 0, slots := 0, locals := 42 }
set_option maxRecDepth 100000 in
set_option maxHeartbeats 4000000 in
theorem B_X6_linesOf_4 (l : Launch) (b : Nat) (D : va_G) (z : Nat → Nat) {Φ : Option Value → qH → Nat → Prop} {nx : Nat} {h : qH} {a0 : Nat} {a1 : Int32} {a2 : Int32} {a3 : Int32} {o : (Int32 × Int32) ⊕ Int32} (hF : b_X6_linesOf_4 h a0 a1 a2 a3 = some o) (hback : ∀ (b2 : Int32) (b3 : Int32), o = .inl (b2, b3) → Go l b D z yX6_linesOf cX6_linesOf 4 (some .int) rm_X6_linesOf Φ 4 [(0, .ref a0), (1, .int a1), (2, .int b2), (3, .int b3)] [] h nx 0 0) (hx0 : ∀ (b2 : Int32), o = .inr b2 → Go l b D z yX6_linesOf cX6_linesOf 4 (some .int) rm_X6_linesOf Φ 37 [(2, .int b2)] [] h nx 0 0) : Go l b D z yX6_linesOf cX6_linesOf 4 (some .int) rm_X6_linesOf Φ 4 [(0, .ref a0), (1, .int a1), (2, .int a2), (3, .int a3)] [] h nx 0 0 := by
  unfold b_X6_linesOf_4 at hF
  refine g_iload_n 3 dX6_linesOf_4 rfl ?_
  refine g_aload_n 0 dX6_linesOf_5 rfl ?_
  obtain ⟨x1, e2, hF⟩ := q_bind hF
  refine g_getfI fl_X6_40 e2 dX6_linesOf_6 ?_
  refine g_icmp_ge 37 dX6_linesOf_9 (by decide) (fun c3 => ?_) (fun c3 => ?_)
  · replace hF := q_t c3 hF
    cases hF
    refine g_sub [2] rfl ?_
    exact hx0 _ rfl
  · replace hF := q_f c3 hF
    refine g_iload_n 2 dX6_linesOf_12 rfl ?_
    refine g_aload_n 0 dX6_linesOf_13 rfl ?_
    refine g_iload_n 3 dX6_linesOf_14 rfl ?_
    obtain ⟨u4, e5, hF⟩ := q_bind hF
    obtain ⟨x6, e7, hF⟩ := q_bind hF
    refine g_callVr0 (ci := 0) (q := (RX0, TX0, 15)) qm_X0_sceneOf wd_988 wd_989 wd_990 rfl e5 (M_X0_sceneOf l b D z nx e7) (As := [.int a3]) rfl rfl (Nat.le_of_ble_eq_true rfl) ⟨(Nat.le_of_ble_eq_true rfl), (Nat.le_of_ble_eq_true rfl)⟩ ⟨rfl, rfl⟩ ⟨(Nat.le_of_ble_eq_true rfl), (Nat.le_of_ble_eq_true rfl)⟩ dX6_linesOf_15 ?_
    refine g_iload_n 1 dX6_linesOf_18 rfl ?_
    refine g_icmp_ne 28 dX6_linesOf_19 (by decide) (fun c8 => ?_) (fun c8 => ?_)
    · replace hF := q_f c8 hF
      refine g_iconst dX6_linesOf_28 lt_iconst_0 ?_
      refine g_ior dX6_linesOf_29 ?_
      refine g_istore_n [(2, .int (a2 ||| (0 : Int32))), (0, .ref a0), (1, .int a1), (3, .int a3)] dX6_linesOf_30 (Nat.le_of_ble_eq_true rfl) rfl ?_
      refine g_iinc [(3, .int (a3 + 1)), (2, .int (a2 ||| (0 : Int32))), (0, .ref a0), (1, .int a1)] 3 dX6_linesOf_31 rfl (congrArg (a3 + ·) lt_iconst_1) (Nat.le_of_ble_eq_true rfl) rfl ?_
      refine g_goto 4 dX6_linesOf_34 (by decide) ?_
      cases hF
      refine g_sub [2, 3, 1, 0] rfl ?_
      exact hback _ _ rfl
    · replace hF := q_t c8 hF
      refine g_iconst dX6_linesOf_22 lt_iconst_1 ?_
      refine g_iload_n 3 dX6_linesOf_23 rfl ?_
      refine g_ishl dX6_linesOf_24 ?_
      refine g_goto 29 dX6_linesOf_25 (by decide) ?_
      refine g_ior dX6_linesOf_29 ?_
      refine g_istore_n [(2, .int (a2 ||| (q_shl (1 : Int32) a3))), (0, .ref a0), (1, .int a1), (3, .int a3)] dX6_linesOf_30 (Nat.le_of_ble_eq_true rfl) rfl ?_
      refine g_iinc [(3, .int (a3 + 1)), (2, .int (a2 ||| (q_shl (1 : Int32) a3))), (0, .ref a0), (1, .int a1)] 3 dX6_linesOf_31 rfl (congrArg (a3 + ·) lt_iconst_1) (Nat.le_of_ble_eq_true rfl) rfl ?_
      refine g_goto 4 dX6_linesOf_34 (by decide) ?_
      cases hF
      refine g_sub [2, 3, 1, 0] rfl ?_
      exact hback _ _ rfl
set_option maxRecDepth 100000 in
set_option maxHeartbeats 4000000 in
theorem L_X6_linesOf_4 (l : Launch) (b : Nat) (D : va_G) (z : Nat → Nat) {Φ : Option Value → qH → Nat → Prop} {nx : Nat} {h : qH} {a0 : Nat} {a1 : Int32} : ∀ (n : Nat) (a2 : Int32) (a3 : Int32) (e : Int32), q_lp (s_X6_linesOf_4 h a0 a1) n (a2, a3) = some e → (∀ (b2 : Int32), e = b2 → Go l b D z yX6_linesOf cX6_linesOf 4 (some .int) rm_X6_linesOf Φ 37 [(2, .int b2)] [] h nx 0 0) → Go l b D z yX6_linesOf cX6_linesOf 4 (some .int) rm_X6_linesOf Φ 4 [(0, .ref a0), (1, .int a1), (2, .int a2), (3, .int a3)] [] h nx 0 0 := by
  intro n
  induction n with
  | zero => intro a2 a3 e he; cases (show none = some e from he)
  | succ n ih =>
    intro a2 a3 e he hx0
    obtain ⟨o, ho, h1, h2⟩ := q_lp_succ he
    exact B_X6_linesOf_4 l b D z (show b_X6_linesOf_4 h a0 a1 a2 a3 = some o from ho) (fun b2 b3 hb => ih _ _ e (h1 _ hb) hx0) (fun p0 hr => hx0 p0 (h2 _ hr).symm)
set_option maxRecDepth 100000 in
set_option maxHeartbeats 4000000 in
theorem M_X6_linesOf (l : Launch) (b : Nat) (D : va_G) (z : Nat → Nat) (nx : Nat) {h : qH} {a0 : Nat} {a1 : Int32} {r : Int32} (hF : F_X6_linesOf h a0 a1 = some r) : Me l b D z yX6_linesOf cX6_linesOf 4 (some .int) rm_X6_linesOf [.ref a0, .int a1] h nx (qE (some (.int r)) h nx) := by
  refine Me.of (by decide +kernel) (Nat.le_of_ble_eq_true rfl) ?_
  show Go l b D z yX6_linesOf cX6_linesOf 4 (some .int) rm_X6_linesOf (qE (some (.int r)) h nx) 0 [(0, .ref a0), (1, .int a1)] [] h nx 0 0
  unfold F_X6_linesOf at hF
  refine g_iconst dX6_linesOf_0 lt_iconst_0 ?_
  refine g_istore_n [(2, .int (0 : Int32)), (0, .ref a0), (1, .int a1)] dX6_linesOf_1 (Nat.le_of_ble_eq_true rfl) rfl ?_
  refine g_iconst dX6_linesOf_2 lt_iconst_0 ?_
  refine g_istore_n [(3, .int (0 : Int32)), (2, .int (0 : Int32)), (0, .ref a0), (1, .int a1)] dX6_linesOf_3 (Nat.le_of_ble_eq_true rfl) rfl ?_
  obtain ⟨e1, w2, hF⟩ := q_bind hF
  refine g_sub [2, 3, 1, 0] rfl ?_
  refine L_X6_linesOf_4 l b D z q_N (0 : Int32) (0 : Int32) e1 w2 ?_
  · intro o3 w4
    replace w4 := w4.symm
    subst w4
    refine g_iload_n 0 dX6_linesOf_37 rfl ?_
    cases hF
    exact g_iret dX6_linesOf_38 rfl ⟨rfl, rfl, rfl⟩ (Nat.le_of_ble_eq_true rfl) (Nat.le_of_ble_eq_true rfl)
def rm_J6_bitCount_0f7a4 : Room := { frames := 0, cells := 0, slots := 0, locals := 0 }
set_option maxRecDepth 100000 in
set_option maxHeartbeats 4000000 in
theorem M_J6_bitCount_0f7a4 (l : Launch) (b : Nat) (D : va_G) (z : Nat → Nat) (nx : Nat) {h : qH} {a0 : Int32} {r : Int32} (hF : F_J6_bitCount_0f7a4 h a0 = some r) : Me l b D z yJ6_bitCount_0f7a4 cJ6_bitCount_0f7a4 1 (some .int) rm_J6_bitCount_0f7a4 [.int a0] h nx (qE (some (.int r)) h nx) := by
  refine Me.ofF (by decide +kernel) (Nat.le_of_ble_eq_true rfl) ?_
  show Go l b D z yJ6_bitCount_0f7a4 cJ6_bitCount_0f7a4 1 (some .int) rm_J6_bitCount_0f7a4 (qE (some (.int r)) h nx) 0 [(0, .int a0)] [] h nx 0 0
  unfold F_J6_bitCount_0f7a4 at hF
  refine g_iload_n 0 dJ6_bitCount_0f7a4_0 rfl ?_
  refine g_iload_n 0 dJ6_bitCount_0f7a4_1 rfl ?_
  refine g_iconst dJ6_bitCount_0f7a4_2 lt_iconst_1 ?_
  refine g_iushr dJ6_bitCount_0f7a4_3 ?_
  refine g_ldcw dJ6_bitCount_0f7a4_4 wd_1271 ?_
  refine g_iand dJ6_bitCount_0f7a4_7 ?_
  refine g_isub dJ6_bitCount_0f7a4_8 ?_
  refine g_istore_n [(0, .int (a0 - ((q_ushr a0 (1 : Int32)) &&& (1431655765 : Int32))))] dJ6_bitCount_0f7a4_9 (Nat.le_of_ble_eq_true rfl) rfl ?_
  refine g_iload_n 0 dJ6_bitCount_0f7a4_10 rfl ?_
  refine g_ldcw dJ6_bitCount_0f7a4_11 wd_1272 ?_
  refine g_iand dJ6_bitCount_0f7a4_14 ?_
  refine g_iload_n 0 dJ6_bitCount_0f7a4_15 rfl ?_
  refine g_iconst dJ6_bitCount_0f7a4_16 lt_iconst_2 ?_
  refine g_iushr dJ6_bitCount_0f7a4_17 ?_
  refine g_ldcw dJ6_bitCount_0f7a4_18 wd_1272 ?_
  refine g_iand dJ6_bitCount_0f7a4_21 ?_
  refine g_iadd dJ6_bitCount_0f7a4_22 ?_
  refine g_istore_n [(0, .int (((a0 - ((q_ushr a0 (1 : Int32)) &&& (1431655765 : Int32))) &&& (858993459 : Int32)) + ((q_ushr (a0 - ((q_ushr a0 (1 : Int32)) &&& (1431655765 : Int32))) (2 : Int32)) &&& (858993459 : Int32))))] dJ6_bitCount_0f7a4_23 (Nat.le_of_ble_eq_true rfl) rfl ?_
  refine g_iload_n 0 dJ6_bitCount_0f7a4_24 rfl ?_
  refine g_iload_n 0 dJ6_bitCount_0f7a4_25 rfl ?_
  refine g_iconst dJ6_bitCount_0f7a4_26 lt_iconst_4 ?_
  refine g_iushr dJ6_bitCount_0f7a4_27 ?_
  refine g_iadd dJ6_bitCount_0f7a4_28 ?_
  refine g_ldcw dJ6_bitCount_0f7a4_29 wd_1273 ?_
  refine g_iand dJ6_bitCount_0f7a4_32 ?_
  refine g_istore_n [(0, .int (((((a0 - ((q_ushr a0 (1 : Int32)) &&& (1431655765 : Int32))) &&& (858993459 : Int32)) + ((q_ushr (a0 - ((q_ushr a0 (1 : Int32)) &&& (1431655765 : Int32))) (2 : Int32)) &&& (858993459 : Int32))) + (q_ushr (((a0 - ((q_ushr a0 (1 : Int32)) &&& (1431655765 : Int32))) &&& (858993459 : Int32)) + ((q_ushr (a0 - ((q_ushr a0 (1 : Int32)) &&& (1431655765 : Int32))) (2 : Int32)) &&& (858993459 : Int32))) (4 : Int32))) &&& (252645135 : Int32)))] dJ6_bitCount_0f7a4_33 (Nat.le_of_ble_eq_true rfl) rfl ?_
  refine g_iload_n 0 dJ6_bitCount_0f7a4_34 rfl ?_
  refine g_iload_n 0 dJ6_bitCount_0f7a4_35 rfl ?_
  refine g_bipush dJ6_bitCount_0f7a4_36 lt_bipush_8 ?_
  refine g_iushr dJ6_bitCount_0f7a4_38 ?_
  refine g_iadd dJ6_bitCount_0f7a4_39 ?_
  refine g_istore_n [(0, .int ((((((a0 - ((q_ushr a0 (1 : Int32)) &&& (1431655765 : Int32))) &&& (858993459 : Int32)) + ((q_ushr (a0 - ((q_ushr a0 (1 : Int32)) &&& (1431655765 : Int32))) (2 : Int32)) &&& (858993459 : Int32))) + (q_ushr (((a0 - ((q_ushr a0 (1 : Int32)) &&& (1431655765 : Int32))) &&& (858993459 : Int32)) + ((q_ushr (a0 - ((q_ushr a0 (1 : Int32)) &&& (1431655765 : Int32))) (2 : Int32)) &&& (858993459 : Int32))) (4 : Int32))) &&& (252645135 : Int32)) + (q_ushr (((((a0 - ((q_ushr a0 (1 : Int32)) &&& (1431655765 : Int32))) &&& (858993459 : Int32)) + ((q_ushr (a0 - ((q_ushr a0 (1 : Int32)) &&& (1431655765 : Int32))) (2 : Int32)) &&& (858993459 : Int32))) + (q_ushr (((a0 - ((q_ushr a0 (1 : Int32)) &&& (1431655765 : Int32))) &&& (858993459 : Int32)) + ((q_ushr (a0 - ((q_ushr a0 (1 : Int32)) &&& (1431655765 : Int32))) (2 : Int32)) &&& (858993459 : Int32))) (4 : Int32))) &&& (252645135 : Int32)) (8 : Int32))))] dJ6_bitCount_0f7a4_40 (Nat.le_of_ble_eq_true rfl) rfl ?_
  refine g_iload_n 0 dJ6_bitCount_0f7a4_41 rfl ?_
  refine g_iload_n 0 dJ6_bitCount_0f7a4_42 rfl ?_
  refine g_bipush dJ6_bitCount_0f7a4_43 lt_bipush_16 ?_
  refine g_iushr dJ6_bitCount_0f7a4_45 ?_
  refine g_iadd dJ6_bitCount_0f7a4_46 ?_
  refine g_istore_n [(0, .int (((((((a0 - ((q_ushr a0 (1 : Int32)) &&& (1431655765 : Int32))) &&& (858993459 : Int32)) + ((q_ushr (a0 - ((q_ushr a0 (1 : Int32)) &&& (1431655765 : Int32))) (2 : Int32)) &&& (858993459 : Int32))) + (q_ushr (((a0 - ((q_ushr a0 (1 : Int32)) &&& (1431655765 : Int32))) &&& (858993459 : Int32)) + ((q_ushr (a0 - ((q_ushr a0 (1 : Int32)) &&& (1431655765 : Int32))) (2 : Int32)) &&& (858993459 : Int32))) (4 : Int32))) &&& (252645135 : Int32)) + (q_ushr (((((a0 - ((q_ushr a0 (1 : Int32)) &&& (1431655765 : Int32))) &&& (858993459 : Int32)) + ((q_ushr (a0 - ((q_ushr a0 (1 : Int32)) &&& (1431655765 : Int32))) (2 : Int32)) &&& (858993459 : Int32))) + (q_ushr (((a0 - ((q_ushr a0 (1 : Int32)) &&& (1431655765 : Int32))) &&& (858993459 : Int32)) + ((q_ushr (a0 - ((q_ushr a0 (1 : Int32)) &&& (1431655765 : Int32))) (2 : Int32)) &&& (858993459 : Int32))) (4 : Int32))) &&& (252645135 : Int32)) (8 : Int32))) + (q_ushr ((((((a0 - ((q_ushr a0 (1 : Int32)) &&& (1431655765 : Int32))) &&& (858993459 : Int32)) + ((q_ushr (a0 - ((q_ushr a0 (1 : Int32)) &&& (1431655765 : Int32))) (2 : Int32)) &&& (858993459 : Int32))) + (q_ushr (((a0 - ((q_ushr a0 (1 : Int32)) &&& (1431655765 : Int32))) &&& (858993459 : Int32)) + ((q_ushr (a0 - ((q_ushr a0 (1 : Int32)) &&& (1431655765 : Int32))) (2 : Int32)) &&& (858993459 : Int32))) (4 : Int32))) &&& (252645135 : Int32)) + (q_ushr (((((a0 - ((q_ushr a0 (1 : Int32)) &&& (1431655765 : Int32))) &&& (858993459 : Int32)) + ((q_ushr (a0 - ((q_ushr a0 (1 : Int32)) &&& (1431655765 : Int32))) (2 : Int32)) &&& (858993459 : Int32))) + (q_ushr (((a0 - ((q_ushr a0 (1 : Int32)) &&& (1431655765 : Int32))) &&& (858993459 : Int32)) + ((q_ushr (a0 - ((q_ushr a0 (1 : Int32)) &&& (1431655765 : Int32))) (2 : Int32)) &&& (858993459 : Int32))) (4 : Int32))) &&& (252645135 : Int32)) (8 : Int32))) (16 : Int32))))] dJ6_bitCount_0f7a4_47 (Nat.le_of_ble_eq_true rfl) rfl ?_
  refine g_iload_n 0 dJ6_bitCount_0f7a4_48 rfl ?_
  refine g_bipush dJ6_bitCount_0f7a4_49 lt_bipush_63 ?_
  refine g_iand dJ6_bitCount_0f7a4_51 ?_
  cases hF
  exact g_iret dJ6_bitCount_0f7a4_52 rfl ⟨rfl, rfl, rfl⟩ (Nat.le_of_ble_eq_true rfl) (Nat.le_of_ble_eq_true rfl)
def rm_X6_fewestOut : Room := { frames := 3, cells := 0, slots := 0, locals := 74 }
set_option maxRecDepth 100000 in
set_option maxHeartbeats 4000000 in
theorem B_X6_fewestOut_13 (l : Launch) (b : Nat) (D : va_G) (z : Nat → Nat) {Φ : Option Value → qH → Nat → Prop} {nx : Nat} {h : qH} {a0 : Nat} {a1 : Nat} {a3 : Int32} {a4 : Int32} {a5 : Int32} {o : (Int32 × Int32) ⊕ Int32} (hF : b_X6_fewestOut_13 h a0 a1 a3 a4 a5 = some o) (hback : ∀ (b4 : Int32) (b5 : Int32), o = .inl (b4, b5) → Go l b D z yX6_fewestOut cX6_fewestOut 6 (some .int) rm_X6_fewestOut Φ 13 [(0, .ref a0), (1, .ref a1), (3, .int a3), (4, .int b4), (5, .int b5)] [] h nx 0 0) (hx0 : ∀ (b4 : Int32), o = .inr b4 → Go l b D z yX6_fewestOut cX6_fewestOut 6 (some .int) rm_X6_fewestOut Φ 56 [(4, .int b4)] [] h nx 0 0) : Go l b D z yX6_fewestOut cX6_fewestOut 6 (some .int) rm_X6_fewestOut Φ 13 [(0, .ref a0), (1, .ref a1), (3, .int a3), (4, .int a4), (5, .int a5)] [] h nx 0 0 := by
  unfold b_X6_fewestOut_13 at hF
  refine g_iload 4 dX6_fewestOut_13 rfl ?_
  refine g_bipush dX6_fewestOut_15 lt_bipush_64 ?_
  refine g_icmp_ge 56 dX6_fewestOut_17 (by decide) (fun c1 => ?_) (fun c1 => ?_)
  · replace hF := q_t c1 hF
    cases hF
    refine g_sub [3] rfl ?_
    exact hx0 _ rfl
  · replace hF := q_f c1 hF
    refine g_iload 4 dX6_fewestOut_20 rfl ?_
    obtain ⟨x2, e3, hF⟩ := q_bind hF
    refine g_callSr0 qm_J6_bitCount_0f7a4 wd_1323 wd_1269 (M_J6_bitCount_0f7a4 l b D z nx e3) (As := [.int a5]) rfl rfl (Nat.le_of_ble_eq_true rfl) ⟨(Nat.le_of_ble_eq_true rfl), (Nat.le_of_ble_eq_true rfl)⟩ ⟨rfl, rfl⟩ ⟨(Nat.le_of_ble_eq_true rfl), (Nat.le_of_ble_eq_true rfl)⟩ dX6_fewestOut_22 ?_
    refine g_iload 3 dX6_fewestOut_25 rfl ?_
    obtain ⟨x4, e5, hF⟩ := q_bind hF
    refine g_callSr0 qm_J6_bitCount_0f7a4 wd_1323 wd_1269 (M_J6_bitCount_0f7a4 l b D z nx e5) (As := [.int a4]) rfl rfl (Nat.le_of_ble_eq_true rfl) ⟨(Nat.le_of_ble_eq_true rfl), (Nat.le_of_ble_eq_true rfl)⟩ ⟨rfl, rfl⟩ ⟨(Nat.le_of_ble_eq_true rfl), (Nat.le_of_ble_eq_true rfl)⟩ dX6_fewestOut_27 ?_
    refine g_icmp_ge 50 dX6_fewestOut_30 (by decide) (fun c6 => ?_) (fun c6 => ?_)
    · replace hF := q_t c6 hF
      refine g_iinc [(5, .int (a5 + 1)), (0, .ref a0), (1, .ref a1), (3, .int a3), (4, .int a4)] 4 dX6_fewestOut_50 rfl (congrArg (a5 + ·) lt_iconst_1) (Nat.le_of_ble_eq_true rfl) rfl ?_
      refine g_goto 13 dX6_fewestOut_53 (by decide) ?_
      cases hF
      refine g_sub [1, 2, 3, 4, 0] rfl ?_
      exact hback _ _ rfl
    · replace hF := q_f c6 hF
      refine g_aload_n 0 dX6_fewestOut_33 rfl ?_
      refine g_aload_n 1 dX6_fewestOut_34 rfl ?_
      refine g_iload 4 dX6_fewestOut_35 rfl ?_
      refine g_iconst dX6_fewestOut_37 lt_iconst_m1 ?_
      obtain ⟨u7, e8, hF⟩ := q_bind hF
      obtain ⟨x9, e10, hF⟩ := q_bind hF
      refine g_callVr0 (ci := 6) (q := (RX6, TX6, 7)) qm_X6_canBeSaid wd_1324 wd_1326 wd_72 rfl e8 (M_X6_canBeSaid l b D z nx e10) (As := [.ref a1, .int a5, .int (-1 : Int32)]) rfl rfl (Nat.le_of_ble_eq_true rfl) ⟨(Nat.le_of_ble_eq_true rfl), (Nat.le_of_ble_eq_true rfl)⟩ ⟨rfl, rfl⟩ ⟨(Nat.le_of_ble_eq_true rfl), (Nat.le_of_ble_eq_true rfl)⟩ dX6_fewestOut_38 ?_
      refine g_iload_n 2 dX6_fewestOut_41 rfl ?_
      refine g_iand dX6_fewestOut_42 ?_
      refine g_if_ne 50 dX6_fewestOut_43 (by decide) (fun c11 => ?_) (fun c11 => ?_)
      · replace hF := q_f c11 hF
        refine g_iinc [(5, .int (a5 + 1)), (0, .ref a0), (1, .ref a1), (3, .int a3), (4, .int a4)] 4 dX6_fewestOut_50 rfl (congrArg (a5 + ·) lt_iconst_1) (Nat.le_of_ble_eq_true rfl) rfl ?_
        refine g_goto 13 dX6_fewestOut_53 (by decide) ?_
        cases hF
        refine g_sub [1, 2, 3, 4, 0] rfl ?_
        exact hback _ _ rfl
      · replace hF := q_t c11 hF
        refine g_iload 4 dX6_fewestOut_46 rfl ?_
        refine g_istore [(4, .int a5), (0, .ref a0), (1, .ref a1), (3, .int a3), (5, .int a5)] dX6_fewestOut_48 (Nat.le_of_ble_eq_true rfl) rfl ?_
        refine g_iinc [(5, .int (a5 + 1)), (4, .int a5), (0, .ref a0), (1, .ref a1), (3, .int a3)] 4 dX6_fewestOut_50 rfl (congrArg (a5 + ·) lt_iconst_1) (Nat.le_of_ble_eq_true rfl) rfl ?_
        refine g_goto 13 dX6_fewestOut_53 (by decide) ?_
        cases hF
        refine g_sub [2, 3, 4, 1, 0] rfl ?_
        exact hback _ _ rfl
set_option maxRecDepth 100000 in
set_option maxHeartbeats 4000000 in
theorem L_X6_fewestOut_13 (l : Launch) (b : Nat) (D : va_G) (z : Nat → Nat) {Φ : Option Value → qH → Nat → Prop} {nx : Nat} {h : qH} {a0 : Nat} {a1 : Nat} {a3 : Int32} : ∀ (n : Nat) (a4 : Int32) (a5 : Int32) (e : Int32), q_lp (s_X6_fewestOut_13 h a0 a1 a3) n (a4, a5) = some e → (∀ (b4 : Int32), e = b4 → Go l b D z yX6_fewestOut cX6_fewestOut 6 (some .int) rm_X6_fewestOut Φ 56 [(4, .int b4)] [] h nx 0 0) → Go l b D z yX6_fewestOut cX6_fewestOut 6 (some .int) rm_X6_fewestOut Φ 13 [(0, .ref a0), (1, .ref a1), (3, .int a3), (4, .int a4), (5, .int a5)] [] h nx 0 0 := by
  intro n
  induction n with
  | zero => intro a4 a5 e he; cases (show none = some e from he)
  | succ n ih =>
    intro a4 a5 e he hx0
    obtain ⟨o, ho, h1, h2⟩ := q_lp_succ he
    exact B_X6_fewestOut_13 l b D z (show b_X6_fewestOut_13 h a0 a1 a3 a4 a5 = some o from ho) (fun b4 b5 hb => ih _ _ e (h1 _ hb) hx0) (fun p0 hr => hx0 p0 (h2 _ hr).symm)
set_option maxRecDepth 100000 in
set_option maxHeartbeats 4000000 in
theorem M_X6_fewestOut (l : Launch) (b : Nat) (D : va_G) (z : Nat → Nat) (nx : Nat) {h : qH} {a0 : Nat} {a1 : Nat} {a2 : Int32} {r : Int32} (hF : F_X6_fewestOut h a0 a1 a2 = some r) : Me l b D z yX6_fewestOut cX6_fewestOut 6 (some .int) rm_X6_fewestOut [.ref a0, .ref a1, .int a2] h nx (qE (some (.int r)) h nx) := by
  refine Me.of (by decide +kernel) (Nat.le_of_ble_eq_true rfl) ?_
  show Go l b D z yX6_fewestOut cX6_fewestOut 6 (some .int) rm_X6_fewestOut (qE (some (.int r)) h nx) 0 [(0, .ref a0), (1, .ref a1), (2, .int a2)] [] h nx 0 0
  unfold F_X6_fewestOut at hF
  refine g_aload_n 1 dX6_fewestOut_0 rfl ?_
  refine g_iload_n 2 dX6_fewestOut_1 rfl ?_
  obtain ⟨x1, e2, hF⟩ := q_bind hF
  refine g_callSr0 qm_X6_linesOf wd_1320 wd_1321 (M_X6_linesOf l b D z nx e2) (As := [.ref a1, .int a2]) rfl rfl (Nat.le_of_ble_eq_true rfl) ⟨(Nat.le_of_ble_eq_true rfl), (Nat.le_of_ble_eq_true rfl)⟩ ⟨rfl, rfl⟩ ⟨(Nat.le_of_ble_eq_true rfl), (Nat.le_of_ble_eq_true rfl)⟩ dX6_fewestOut_2 ?_
  refine g_istore_n [(3, .int x1), (0, .ref a0), (1, .ref a1), (2, .int a2)] dX6_fewestOut_5 (Nat.le_of_ble_eq_true rfl) rfl ?_
  refine g_bipush dX6_fewestOut_6 lt_bipush_63 ?_
  refine g_istore [(4, .int (63 : Int32)), (3, .int x1), (0, .ref a0), (1, .ref a1), (2, .int a2)] dX6_fewestOut_8 (Nat.le_of_ble_eq_true rfl) rfl ?_
  refine g_iconst dX6_fewestOut_10 lt_iconst_0 ?_
  refine g_istore [(5, .int (0 : Int32)), (4, .int (63 : Int32)), (3, .int x1), (0, .ref a0), (1, .ref a1), (2, .int a2)] dX6_fewestOut_11 (Nat.le_of_ble_eq_true rfl) rfl ?_
  obtain ⟨e3, w4, hF⟩ := q_bind hF
  refine g_sub [3, 4, 2, 1, 0] rfl ?_
  refine L_X6_fewestOut_13 l b D z q_N (63 : Int32) (0 : Int32) e3 w4 ?_
  · intro o5 w6
    replace w6 := w6.symm
    subst w6
    refine g_iload 0 dX6_fewestOut_56 rfl ?_
    cases hF
    exact g_iret dX6_fewestOut_58 rfl ⟨rfl, rfl, rfl⟩ (Nat.le_of_ble_eq_true rfl) (Nat.le_of_ble_eq_true rfl)
def rm_X6_neededFor : Room := { frames := 3, cells := 0, slots := 0, locals := 74 }
set_option maxRecDepth 100000 in
set_option maxHeartbeats 4000000 in
theorem B_X6_neededFor_26 (l : Launch) (b : Nat) (D : va_G) (z : Nat → Nat) {Φ : Option Value → qH → Nat → Prop} {nx : Nat} {h : qH} {a0 : Nat} {a1 : Nat} {a2 : Int32} {a3 : Int32} {a4 : Int32} {a5 : Int32} {o : (Int32 × Int32) ⊕ Int32} (hF : b_X6_neededFor_26 h a0 a1 a2 a3 a4 a5 = some o) (hback : ∀ (b4 : Int32) (b5 : Int32), o = .inl (b4, b5) → Go l b D z yX6_neededFor cX6_neededFor 6 (some .int) rm_X6_neededFor Φ 26 [(0, .ref a0), (1, .ref a1), (2, .int a2), (3, .int a3), (4, .int b4), (5, .int b5)] [] h nx 0 0) (hx0 : ∀ (b4 : Int32), o = .inr b4 → Go l b D z yX6_neededFor cX6_neededFor 6 (some .int) rm_X6_neededFor Φ 73 [(4, .int b4)] [] h nx 0 0) : Go l b D z yX6_neededFor cX6_neededFor 6 (some .int) rm_X6_neededFor Φ 26 [(0, .ref a0), (1, .ref a1), (2, .int a2), (3, .int a3), (4, .int a4), (5, .int a5)] [] h nx 0 0 := by
  unfold b_X6_neededFor_26 at hF
  refine g_iload 5 dX6_neededFor_26 rfl ?_
  refine g_aload_n 1 dX6_neededFor_28 rfl ?_
  obtain ⟨x1, e2, hF⟩ := q_bind hF
  refine g_getfI fl_X6_40 e2 dX6_neededFor_29 ?_
  refine g_icmp_ge 73 dX6_neededFor_32 (by decide) (fun c3 => ?_) (fun c3 => ?_)
  · replace hF := q_t c3 hF
    cases hF
    refine g_sub [4] rfl ?_
    exact hx0 _ rfl
  · replace hF := q_f c3 hF
    refine g_aload_n 1 dX6_neededFor_35 rfl ?_
    refine g_iload 5 dX6_neededFor_36 rfl ?_
    obtain ⟨u4, e5, hF⟩ := q_bind hF
    obtain ⟨x6, e7, hF⟩ := q_bind hF
    refine g_callVr0 (ci := 0) (q := (RX0, TX0, 15)) qm_X0_sceneOf wd_988 wd_989 wd_990 rfl e5 (M_X0_sceneOf l b D z nx e7) (As := [.int a5]) rfl rfl (Nat.le_of_ble_eq_true rfl) ⟨(Nat.le_of_ble_eq_true rfl), (Nat.le_of_ble_eq_true rfl)⟩ ⟨rfl, rfl⟩ ⟨(Nat.le_of_ble_eq_true rfl), (Nat.le_of_ble_eq_true rfl)⟩ dX6_neededFor_38 ?_
    refine g_iload_n 2 dX6_neededFor_41 rfl ?_
    refine g_icmp_eq 67 dX6_neededFor_42 (by decide) (fun c8 => ?_) (fun c8 => ?_)
    · replace hF := q_t c8 hF
      refine g_iinc [(5, .int (a5 + 1)), (0, .ref a0), (1, .ref a1), (2, .int a2), (3, .int a3), (4, .int a4)] 5 dX6_neededFor_67 rfl (congrArg (a5 + ·) lt_iconst_1) (Nat.le_of_ble_eq_true rfl) rfl ?_
      refine g_goto 26 dX6_neededFor_70 (by decide) ?_
      cases hF
      refine g_sub [1, 2, 3, 4, 5, 0] rfl ?_
      exact hback _ _ rfl
    · replace hF := q_f c8 hF
      refine g_aload_n 0 dX6_neededFor_45 rfl ?_
      refine g_aload_n 1 dX6_neededFor_46 rfl ?_
      refine g_iconst dX6_neededFor_47 lt_iconst_0 ?_
      refine g_iload 5 dX6_neededFor_48 rfl ?_
      obtain ⟨u9, e10, hF⟩ := q_bind hF
      obtain ⟨x11, e12, hF⟩ := q_bind hF
      refine g_callVr0 (ci := 6) (q := (RX6, TX6, 7)) qm_X6_canBeSaid wd_1324 wd_1326 wd_72 rfl e10 (M_X6_canBeSaid l b D z nx e12) (As := [.ref a1, .int (0 : Int32), .int a5]) rfl rfl (Nat.le_of_ble_eq_true rfl) ⟨(Nat.le_of_ble_eq_true rfl), (Nat.le_of_ble_eq_true rfl)⟩ ⟨rfl, rfl⟩ ⟨(Nat.le_of_ble_eq_true rfl), (Nat.le_of_ble_eq_true rfl)⟩ dX6_neededFor_50 ?_
      refine g_iload_n 3 dX6_neededFor_53 rfl ?_
      refine g_iand dX6_neededFor_54 ?_
      refine g_if_ne 67 dX6_neededFor_55 (by decide) (fun c13 => ?_) (fun c13 => ?_)
      · replace hF := q_f c13 hF
        refine g_iinc [(5, .int (a5 + 1)), (0, .ref a0), (1, .ref a1), (2, .int a2), (3, .int a3), (4, .int a4)] 5 dX6_neededFor_67 rfl (congrArg (a5 + ·) lt_iconst_1) (Nat.le_of_ble_eq_true rfl) rfl ?_
        refine g_goto 26 dX6_neededFor_70 (by decide) ?_
        cases hF
        refine g_sub [1, 2, 3, 4, 5, 0] rfl ?_
        exact hback _ _ rfl
      · replace hF := q_t c13 hF
        refine g_iload 4 dX6_neededFor_58 rfl ?_
        refine g_iconst dX6_neededFor_60 lt_iconst_1 ?_
        refine g_iload 5 dX6_neededFor_61 rfl ?_
        refine g_ishl dX6_neededFor_63 ?_
        refine g_ior dX6_neededFor_64 ?_
        refine g_istore [(4, .int (a4 ||| (q_shl (1 : Int32) a5))), (0, .ref a0), (1, .ref a1), (2, .int a2), (3, .int a3), (5, .int a5)] dX6_neededFor_65 (Nat.le_of_ble_eq_true rfl) rfl ?_
        refine g_iinc [(5, .int (a5 + 1)), (4, .int (a4 ||| (q_shl (1 : Int32) a5))), (0, .ref a0), (1, .ref a1), (2, .int a2), (3, .int a3)] 5 dX6_neededFor_67 rfl (congrArg (a5 + ·) lt_iconst_1) (Nat.le_of_ble_eq_true rfl) rfl ?_
        refine g_goto 26 dX6_neededFor_70 (by decide) ?_
        cases hF
        refine g_sub [2, 3, 4, 5, 1, 0] rfl ?_
        exact hback _ _ rfl
set_option maxRecDepth 100000 in
set_option maxHeartbeats 4000000 in
theorem L_X6_neededFor_26 (l : Launch) (b : Nat) (D : va_G) (z : Nat → Nat) {Φ : Option Value → qH → Nat → Prop} {nx : Nat} {h : qH} {a0 : Nat} {a1 : Nat} {a2 : Int32} {a3 : Int32} : ∀ (n : Nat) (a4 : Int32) (a5 : Int32) (e : Int32), q_lp (s_X6_neededFor_26 h a0 a1 a2 a3) n (a4, a5) = some e → (∀ (b4 : Int32), e = b4 → Go l b D z yX6_neededFor cX6_neededFor 6 (some .int) rm_X6_neededFor Φ 73 [(4, .int b4)] [] h nx 0 0) → Go l b D z yX6_neededFor cX6_neededFor 6 (some .int) rm_X6_neededFor Φ 26 [(0, .ref a0), (1, .ref a1), (2, .int a2), (3, .int a3), (4, .int a4), (5, .int a5)] [] h nx 0 0 := by
  intro n
  induction n with
  | zero => intro a4 a5 e he; cases (show none = some e from he)
  | succ n ih =>
    intro a4 a5 e he hx0
    obtain ⟨o, ho, h1, h2⟩ := q_lp_succ he
    exact B_X6_neededFor_26 l b D z (show b_X6_neededFor_26 h a0 a1 a2 a3 a4 a5 = some o from ho) (fun b4 b5 hb => ih _ _ e (h1 _ hb) hx0) (fun p0 hr => hx0 p0 (h2 _ hr).symm)
set_option maxRecDepth 100000 in
set_option maxHeartbeats 4000000 in
theorem M_X6_neededFor (l : Launch) (b : Nat) (D : va_G) (z : Nat → Nat) (nx : Nat) {h : qH} {a0 : Nat} {a1 : Nat} {a2 : Int32} {r : Int32} (hF : F_X6_neededFor h a0 a1 a2 = some r) : Me l b D z yX6_neededFor cX6_neededFor 6 (some .int) rm_X6_neededFor [.ref a0, .ref a1, .int a2] h nx (qE (some (.int r)) h nx) := by
  refine Me.of (by decide +kernel) (Nat.le_of_ble_eq_true rfl) ?_
  show Go l b D z yX6_neededFor cX6_neededFor 6 (some .int) rm_X6_neededFor (qE (some (.int r)) h nx) 0 [(0, .ref a0), (1, .ref a1), (2, .int a2)] [] h nx 0 0
  unfold F_X6_neededFor at hF
  refine g_aload_n 1 dX6_neededFor_0 rfl ?_
  refine g_iload_n 2 dX6_neededFor_1 rfl ?_
  obtain ⟨x1, e2, hF⟩ := q_bind hF
  refine g_callSr0 qm_X6_linesOf wd_1320 wd_1321 (M_X6_linesOf l b D z nx e2) (As := [.ref a1, .int a2]) rfl rfl (Nat.le_of_ble_eq_true rfl) ⟨(Nat.le_of_ble_eq_true rfl), (Nat.le_of_ble_eq_true rfl)⟩ ⟨rfl, rfl⟩ ⟨(Nat.le_of_ble_eq_true rfl), (Nat.le_of_ble_eq_true rfl)⟩ dX6_neededFor_2 ?_
  refine g_istore_n [(3, .int x1), (0, .ref a0), (1, .ref a1), (2, .int a2)] dX6_neededFor_5 (Nat.le_of_ble_eq_true rfl) rfl ?_
  refine g_aload_n 1 dX6_neededFor_6 rfl ?_
  refine g_aload_n 2 dX6_neededFor_7 rfl ?_
  refine g_iconst dX6_neededFor_8 lt_iconst_0 ?_
  refine g_iconst dX6_neededFor_9 lt_iconst_m1 ?_
  obtain ⟨u3, e4, hF⟩ := q_bind hF
  obtain ⟨x5, e6, hF⟩ := q_bind hF
  refine g_callVr0 (ci := 6) (q := (RX6, TX6, 7)) qm_X6_canBeSaid wd_1324 wd_1326 wd_72 rfl e4 (M_X6_canBeSaid l b D z nx e6) (As := [.ref a1, .int (0 : Int32), .int (-1 : Int32)]) rfl rfl (Nat.le_of_ble_eq_true rfl) ⟨(Nat.le_of_ble_eq_true rfl), (Nat.le_of_ble_eq_true rfl)⟩ ⟨rfl, rfl⟩ ⟨(Nat.le_of_ble_eq_true rfl), (Nat.le_of_ble_eq_true rfl)⟩ dX6_neededFor_10 ?_
  refine g_iload_n 0 dX6_neededFor_13 rfl ?_
  refine g_iand dX6_neededFor_14 ?_
  refine g_if_ne 20 dX6_neededFor_15 (by decide) (fun c7 => ?_) (fun c7 => ?_)
  · replace hF := q_f c7 hF
    refine g_iconst dX6_neededFor_20 lt_iconst_0 ?_
    refine g_istore [(4, .int (0 : Int32)), (3, .int x1), (0, .ref a0), (1, .ref a1), (2, .int a2)] dX6_neededFor_21 (Nat.le_of_ble_eq_true rfl) rfl ?_
    refine g_iconst dX6_neededFor_23 lt_iconst_0 ?_
    refine g_istore [(5, .int (0 : Int32)), (4, .int (0 : Int32)), (3, .int x1), (0, .ref a0), (1, .ref a1), (2, .int a2)] dX6_neededFor_24 (Nat.le_of_ble_eq_true rfl) rfl ?_
    obtain ⟨e8, w9, hF⟩ := q_bind hF
    refine g_sub [3, 4, 5, 2, 1, 0] rfl ?_
    refine L_X6_neededFor_26 l b D z q_N (0 : Int32) (0 : Int32) e8 w9 ?_
    · intro o10 w11
      replace w11 := w11.symm
      subst w11
      refine g_iload 0 dX6_neededFor_73 rfl ?_
      cases hF
      exact g_iret dX6_neededFor_75 rfl ⟨rfl, rfl, rfl⟩ (Nat.le_of_ble_eq_true rfl) (Nat.le_of_ble_eq_true rfl)
  · replace hF := q_t c7 hF
    refine g_iconst dX6_neededFor_18 lt_iconst_m1 ?_
    cases hF
    exact g_iret dX6_neededFor_19 rfl ⟨rfl, rfl, rfl⟩ (Nat.le_of_ble_eq_true rfl) (Nat.le_of_ble_eq_true rfl)
def rm_X6_sureBehind : Room := { frames := 1, cells := 0, slots := 0, locals := 22 }
set_option maxRecDepth 100000 in
set_option maxHeartbeats 4000000 in
theorem J_X6_sureBehind_66 (l : Launch) (b : Nat) (D : va_G) (z : Nat → Nat) {Φ : Option Value → qH → Nat → Prop} {nx : Nat} {h : qH} {a0 : Nat} {a1 : Nat} {a2 : Int32} {a4 : Int32} {a5 : Int32} {a6 : Int32} {t0 : Int32} {o : (Int32 × Int32) ⊕ Int32} (hF : j_X6_sureBehind_66 h a0 a1 a2 a4 a5 a6 t0 = some o) (hback : ∀ (b5 : Int32) (b6 : Int32), o = .inl (b5, b6) → Go l b D z yX6_sureBehind cX6_sureBehind 9 (some .int) rm_X6_sureBehind Φ 26 [(0, .ref a0), (1, .ref a1), (2, .int a2), (4, .int a4), (5, .int b5), (6, .int b6)] [] h nx 0 0) (hx0 : ∀ (b5 : Int32), o = .inr b5 → Go l b D z yX6_sureBehind cX6_sureBehind 9 (some .int) rm_X6_sureBehind Φ 106 [(5, .int b5)] [] h nx 0 0) : Go l b D z yX6_sureBehind cX6_sureBehind 9 (some .int) rm_X6_sureBehind Φ 66 [(0, .ref a0), (1, .ref a1), (2, .int a2), (4, .int a4), (5, .int a5), (6, .int a6)] [.int t0] h nx 0 0 := by
  unfold j_X6_sureBehind_66 at hF
  refine g_istore [(8, .int t0), (0, .ref a0), (1, .ref a1), (2, .int a2), (4, .int a4), (5, .int a5), (6, .int a6)] dX6_sureBehind_66 (Nat.le_of_ble_eq_true rfl) rfl ?_
  refine g_iload 5 dX6_sureBehind_68 rfl ?_
  refine g_iconst dX6_sureBehind_70 lt_iconst_m1 ?_
  refine g_icmp_eq 96 dX6_sureBehind_71 (by decide) (fun c1 => ?_) (fun c1 => ?_)
  · replace hF := q_t c1 hF
    refine g_iload 0 dX6_sureBehind_96 rfl ?_
    refine g_istore [(5, .int t0), (8, .int t0), (0, .ref a0), (1, .ref a1), (2, .int a2), (4, .int a4), (6, .int a6)] dX6_sureBehind_98 (Nat.le_of_ble_eq_true rfl) rfl ?_
    refine g_iinc [(6, .int (a6 + 1)), (5, .int t0), (8, .int t0), (0, .ref a0), (1, .ref a1), (2, .int a2), (4, .int a4)] 6 dX6_sureBehind_100 rfl (congrArg (a6 + ·) lt_iconst_1) (Nat.le_of_ble_eq_true rfl) rfl ?_
    refine g_goto 26 dX6_sureBehind_103 (by decide) ?_
    cases hF
    refine g_sub [3, 4, 5, 6, 1, 0] rfl ?_
    exact hback _ _ rfl
  · replace hF := q_f c1 hF
    refine g_iload 4 dX6_sureBehind_74 rfl ?_
    refine g_if_eq 89 dX6_sureBehind_76 (by decide) (fun c2 => ?_) (fun c2 => ?_)
    · replace hF := q_t c2 hF
      refine g_iload 0 dX6_sureBehind_89 rfl ?_
      refine g_iload 5 dX6_sureBehind_91 rfl ?_
      refine g_icmp_le 100 dX6_sureBehind_93 (by decide) (fun c3 => ?_) (fun c3 => ?_)
      · replace hF := q_t c3 hF
        refine g_iinc [(6, .int (a6 + 1)), (8, .int t0), (0, .ref a0), (1, .ref a1), (2, .int a2), (4, .int a4), (5, .int a5)] 6 dX6_sureBehind_100 rfl (congrArg (a6 + ·) lt_iconst_1) (Nat.le_of_ble_eq_true rfl) rfl ?_
        refine g_goto 26 dX6_sureBehind_103 (by decide) ?_
        cases hF
        refine g_sub [2, 3, 4, 5, 6, 0] rfl ?_
        exact hback _ _ rfl
      · replace hF := q_f c3 hF
        refine g_iload 0 dX6_sureBehind_96 rfl ?_
        refine g_istore [(5, .int t0), (8, .int t0), (0, .ref a0), (1, .ref a1), (2, .int a2), (4, .int a4), (6, .int a6)] dX6_sureBehind_98 (Nat.le_of_ble_eq_true rfl) rfl ?_
        refine g_iinc [(6, .int (a6 + 1)), (5, .int t0), (8, .int t0), (0, .ref a0), (1, .ref a1), (2, .int a2), (4, .int a4)] 6 dX6_sureBehind_100 rfl (congrArg (a6 + ·) lt_iconst_1) (Nat.le_of_ble_eq_true rfl) rfl ?_
        refine g_goto 26 dX6_sureBehind_103 (by decide) ?_
        cases hF
        refine g_sub [3, 4, 5, 6, 1, 0] rfl ?_
        exact hback _ _ rfl
    · replace hF := q_f c2 hF
      refine g_iload 0 dX6_sureBehind_79 rfl ?_
      refine g_iload 5 dX6_sureBehind_81 rfl ?_
      refine g_icmp_ge 100 dX6_sureBehind_83 (by decide) (fun c4 => ?_) (fun c4 => ?_)
      · replace hF := q_t c4 hF
        refine g_iinc [(6, .int (a6 + 1)), (8, .int t0), (0, .ref a0), (1, .ref a1), (2, .int a2), (4, .int a4), (5, .int a5)] 6 dX6_sureBehind_100 rfl (congrArg (a6 + ·) lt_iconst_1) (Nat.le_of_ble_eq_true rfl) rfl ?_
        refine g_goto 26 dX6_sureBehind_103 (by decide) ?_
        cases hF
        refine g_sub [2, 3, 4, 5, 6, 0] rfl ?_
        exact hback _ _ rfl
      · replace hF := q_f c4 hF
        refine g_goto 96 dX6_sureBehind_86 (by decide) ?_
        refine g_iload 0 dX6_sureBehind_96 rfl ?_
        refine g_istore [(5, .int t0), (8, .int t0), (0, .ref a0), (1, .ref a1), (2, .int a2), (4, .int a4), (6, .int a6)] dX6_sureBehind_98 (Nat.le_of_ble_eq_true rfl) rfl ?_
        refine g_iinc [(6, .int (a6 + 1)), (5, .int t0), (8, .int t0), (0, .ref a0), (1, .ref a1), (2, .int a2), (4, .int a4)] 6 dX6_sureBehind_100 rfl (congrArg (a6 + ·) lt_iconst_1) (Nat.le_of_ble_eq_true rfl) rfl ?_
        refine g_goto 26 dX6_sureBehind_103 (by decide) ?_
        cases hF
        refine g_sub [3, 4, 5, 6, 1, 0] rfl ?_
        exact hback _ _ rfl
set_option maxRecDepth 100000 in
set_option maxHeartbeats 4000000 in
theorem B_X6_sureBehind_26 (l : Launch) (b : Nat) (D : va_G) (z : Nat → Nat) {Φ : Option Value → qH → Nat → Prop} {nx : Nat} {h : qH} {a0 : Nat} {a1 : Nat} {a2 : Int32} {a4 : Int32} {a5 : Int32} {a6 : Int32} {o : (Int32 × Int32) ⊕ Int32} (hF : b_X6_sureBehind_26 h a0 a1 a2 a4 a5 a6 = some o) (hback : ∀ (b5 : Int32) (b6 : Int32), o = .inl (b5, b6) → Go l b D z yX6_sureBehind cX6_sureBehind 9 (some .int) rm_X6_sureBehind Φ 26 [(0, .ref a0), (1, .ref a1), (2, .int a2), (4, .int a4), (5, .int b5), (6, .int b6)] [] h nx 0 0) (hx0 : ∀ (b5 : Int32), o = .inr b5 → Go l b D z yX6_sureBehind cX6_sureBehind 9 (some .int) rm_X6_sureBehind Φ 106 [(5, .int b5)] [] h nx 0 0) : Go l b D z yX6_sureBehind cX6_sureBehind 9 (some .int) rm_X6_sureBehind Φ 26 [(0, .ref a0), (1, .ref a1), (2, .int a2), (4, .int a4), (5, .int a5), (6, .int a6)] [] h nx 0 0 := by
  unfold b_X6_sureBehind_26 at hF
  refine g_iload 5 dX6_sureBehind_26 rfl ?_
  refine g_aload_n 1 dX6_sureBehind_28 rfl ?_
  refine g_iload_n 2 dX6_sureBehind_29 rfl ?_
  obtain ⟨u1, e2, hF⟩ := q_bind hF
  obtain ⟨x3, e4, hF⟩ := q_bind hF
  refine g_callVr0 (ci := 0) (q := (RX0, TX0, 15)) qm_X0_howManyFollow wd_997 wd_791 wd_792 rfl e2 (M_X0_howManyFollow l b D z nx e4) (As := [.int a2]) rfl rfl (Nat.le_of_ble_eq_true rfl) ⟨(Nat.le_of_ble_eq_true rfl), (Nat.le_of_ble_eq_true rfl)⟩ ⟨rfl, rfl⟩ ⟨(Nat.le_of_ble_eq_true rfl), (Nat.le_of_ble_eq_true rfl)⟩ dX6_sureBehind_30 ?_
  refine g_icmp_ge 106 dX6_sureBehind_33 (by decide) (fun c5 => ?_) (fun c5 => ?_)
  · replace hF := q_t c5 hF
    cases hF
    refine g_sub [4] rfl ?_
    exact hx0 _ rfl
  · replace hF := q_f c5 hF
    refine g_aload_n 1 dX6_sureBehind_36 rfl ?_
    refine g_iload_n 2 dX6_sureBehind_37 rfl ?_
    refine g_iload 5 dX6_sureBehind_38 rfl ?_
    obtain ⟨u6, e7, hF⟩ := q_bind hF
    obtain ⟨x8, e9, hF⟩ := q_bind hF
    refine g_callVr0 (ci := 0) (q := (RX0, TX0, 15)) qm_X0_following wd_998 wd_795 wd_796 rfl e7 (M_X0_following l b D z nx e9) (As := [.int a2, .int a6]) rfl rfl (Nat.le_of_ble_eq_true rfl) ⟨(Nat.le_of_ble_eq_true rfl), (Nat.le_of_ble_eq_true rfl)⟩ ⟨rfl, rfl⟩ ⟨(Nat.le_of_ble_eq_true rfl), (Nat.le_of_ble_eq_true rfl)⟩ dX6_sureBehind_40 ?_
    refine g_istore [(7, .int x8), (0, .ref a0), (1, .ref a1), (2, .int a2), (4, .int a4), (5, .int a5), (6, .int a6)] dX6_sureBehind_43 (Nat.le_of_ble_eq_true rfl) rfl ?_
    refine g_aload_n 2 dX6_sureBehind_45 rfl ?_
    refine g_iload 0 dX6_sureBehind_46 rfl ?_
    obtain ⟨u10, e11, hF⟩ := q_bind hF
    obtain ⟨x12, e13, hF⟩ := q_bind hF
    refine g_callVr0 (ci := 0) (q := (RX0, TX0, 15)) qm_X0_has wd_987 wd_783 wd_784 rfl e11 (M_X0_has l b D z nx e13) (As := [.int x8]) rfl rfl (Nat.le_of_ble_eq_true rfl) ⟨(Nat.le_of_ble_eq_true rfl), (Nat.le_of_ble_eq_true rfl)⟩ ⟨rfl, rfl⟩ ⟨(Nat.le_of_ble_eq_true rfl), (Nat.le_of_ble_eq_true rfl)⟩ dX6_sureBehind_48 ?_
    refine g_if_eq 64 dX6_sureBehind_51 (by decide) (fun c14 => ?_) (fun c14 => ?_)
    · replace hF := q_t c14 hF
      refine g_ldc dX6_sureBehind_64 wd_992 ?_
      refine g_sub [1, 2, 3, 4, 5, 6] rfl ?_
      exact J_X6_sureBehind_66 l b D z hF hback hx0
    · replace hF := q_f c14 hF
      refine g_aload_n 1 dX6_sureBehind_54 rfl ?_
      obtain ⟨x15, e16, hF⟩ := q_bind hF
      refine g_getfR fl_X6_17 e16 dX6_sureBehind_55 ?_
      refine g_iload 0 dX6_sureBehind_58 rfl ?_
      obtain ⟨x17, e18, hF⟩ := q_bind hF
      refine g_iald e18 dX6_sureBehind_60 ?_
      refine g_goto 66 dX6_sureBehind_61 (by decide) ?_
      refine g_sub [1, 2, 3, 4, 5, 6] rfl ?_
      exact J_X6_sureBehind_66 l b D z hF hback hx0
set_option maxRecDepth 100000 in
set_option maxHeartbeats 4000000 in
theorem L_X6_sureBehind_26 (l : Launch) (b : Nat) (D : va_G) (z : Nat → Nat) {Φ : Option Value → qH → Nat → Prop} {nx : Nat} {h : qH} {a0 : Nat} {a1 : Nat} {a2 : Int32} {a4 : Int32} : ∀ (n : Nat) (a5 : Int32) (a6 : Int32) (e : Int32), q_lp (s_X6_sureBehind_26 h a0 a1 a2 a4) n (a5, a6) = some e → (∀ (b5 : Int32), e = b5 → Go l b D z yX6_sureBehind cX6_sureBehind 9 (some .int) rm_X6_sureBehind Φ 106 [(5, .int b5)] [] h nx 0 0) → Go l b D z yX6_sureBehind cX6_sureBehind 9 (some .int) rm_X6_sureBehind Φ 26 [(0, .ref a0), (1, .ref a1), (2, .int a2), (4, .int a4), (5, .int a5), (6, .int a6)] [] h nx 0 0 := by
  intro n
  induction n with
  | zero => intro a5 a6 e he; cases (show none = some e from he)
  | succ n ih =>
    intro a5 a6 e he hx0
    obtain ⟨o, ho, h1, h2⟩ := q_lp_succ he
    exact B_X6_sureBehind_26 l b D z (show b_X6_sureBehind_26 h a0 a1 a2 a4 a5 a6 = some o from ho) (fun b5 b6 hb => ih _ _ e (h1 _ hb) hx0) (fun p0 hr => hx0 p0 (h2 _ hr).symm)
set_option maxRecDepth 100000 in
set_option maxHeartbeats 4000000 in
theorem J_X6_sureBehind_18 (l : Launch) (b : Nat) (D : va_G) (z : Nat → Nat) {nx : Nat} {h : qH} {a0 : Nat} {a1 : Nat} {a2 : Int32} {t0 : Int32} {r : Int32} (hF : j_X6_sureBehind_18 h a0 a1 a2 t0 = some r) : Go l b D z yX6_sureBehind cX6_sureBehind 9 (some .int) rm_X6_sureBehind (qE (some (.int r)) h nx) 18 [(0, .ref a0), (1, .ref a1), (2, .int a2)] [.int t0] h nx 0 0 := by
  unfold j_X6_sureBehind_18 at hF
  refine g_istore [(4, .int t0), (0, .ref a0), (1, .ref a1), (2, .int a2)] dX6_sureBehind_18 (Nat.le_of_ble_eq_true rfl) rfl ?_
  refine g_iconst dX6_sureBehind_20 lt_iconst_m1 ?_
  refine g_istore [(5, .int (-1 : Int32)), (4, .int t0), (0, .ref a0), (1, .ref a1), (2, .int a2)] dX6_sureBehind_21 (Nat.le_of_ble_eq_true rfl) rfl ?_
  refine g_iconst dX6_sureBehind_23 lt_iconst_0 ?_
  refine g_istore [(6, .int (0 : Int32)), (5, .int (-1 : Int32)), (4, .int t0), (0, .ref a0), (1, .ref a1), (2, .int a2)] dX6_sureBehind_24 (Nat.le_of_ble_eq_true rfl) rfl ?_
  obtain ⟨e1, w2, hF⟩ := q_bind hF
  refine g_sub [3, 4, 5, 2, 1, 0] rfl ?_
  refine L_X6_sureBehind_26 l b D z q_N (-1 : Int32) (0 : Int32) e1 w2 ?_
  · intro o3 w4
    replace w4 := w4.symm
    subst w4
    refine g_iload 0 dX6_sureBehind_106 rfl ?_
    refine g_iconst dX6_sureBehind_108 lt_iconst_m1 ?_
    refine g_icmp_ne 117 dX6_sureBehind_109 (by decide) (fun c5 => ?_) (fun c5 => ?_)
    · replace hF := q_f c5 hF
      refine g_iload 0 dX6_sureBehind_117 rfl ?_
      cases hF
      exact g_iret dX6_sureBehind_119 rfl ⟨rfl, rfl, rfl⟩ (Nat.le_of_ble_eq_true rfl) (Nat.le_of_ble_eq_true rfl)
    · replace hF := q_t c5 hF
      refine g_ldc dX6_sureBehind_112 wd_992 ?_
      refine g_goto 119 dX6_sureBehind_114 (by decide) ?_
      cases hF
      exact g_iret dX6_sureBehind_119 rfl ⟨rfl, rfl, rfl⟩ (Nat.le_of_ble_eq_true rfl) (Nat.le_of_ble_eq_true rfl)
set_option maxRecDepth 100000 in
set_option maxHeartbeats 4000000 in
theorem M_X6_sureBehind (l : Launch) (b : Nat) (D : va_G) (z : Nat → Nat) (nx : Nat) {h : qH} {a0 : Nat} {a1 : Nat} {a2 : Int32} {a3 : Int32} {r : Int32} (hF : F_X6_sureBehind h a0 a1 a2 a3 = some r) : Me l b D z yX6_sureBehind cX6_sureBehind 9 (some .int) rm_X6_sureBehind [.ref a0, .ref a1, .int a2, .int a3] h nx (qE (some (.int r)) h nx) := by
  refine Me.of (by decide +kernel) (Nat.le_of_ble_eq_true rfl) ?_
  show Go l b D z yX6_sureBehind cX6_sureBehind 9 (some .int) rm_X6_sureBehind (qE (some (.int r)) h nx) 0 [(0, .ref a0), (1, .ref a1), (2, .int a2), (3, .int a3)] [] h nx 0 0
  unfold F_X6_sureBehind at hF
  refine g_iload_n 3 dX6_sureBehind_0 rfl ?_
  refine g_aload_n 1 dX6_sureBehind_1 rfl ?_
  refine g_iload_n 2 dX6_sureBehind_2 rfl ?_
  obtain ⟨u1, e2, hF⟩ := q_bind hF
  obtain ⟨x3, e4, hF⟩ := q_bind hF
  refine g_callVr0 (ci := 0) (q := (RX0, TX0, 15)) qm_X0_whoSays wd_1041 wd_931 wd_932 rfl e2 (M_X0_whoSays l b D z nx e4) (As := [.int a2]) rfl rfl (Nat.le_of_ble_eq_true rfl) ⟨(Nat.le_of_ble_eq_true rfl), (Nat.le_of_ble_eq_true rfl)⟩ ⟨rfl, rfl⟩ ⟨(Nat.le_of_ble_eq_true rfl), (Nat.le_of_ble_eq_true rfl)⟩ dX6_sureBehind_3 ?_
  refine g_ishr dX6_sureBehind_6 ?_
  refine g_iconst dX6_sureBehind_7 lt_iconst_1 ?_
  refine g_iand dX6_sureBehind_8 ?_
  refine g_iconst dX6_sureBehind_9 lt_iconst_1 ?_
  refine g_icmp_ne 17 dX6_sureBehind_10 (by decide) (fun c5 => ?_) (fun c5 => ?_)
  · replace hF := q_f c5 hF
    refine g_iconst dX6_sureBehind_17 lt_iconst_0 ?_
    refine g_sub [0, 1, 2] rfl ?_
    exact J_X6_sureBehind_18 l b D z hF
  · replace hF := q_t c5 hF
    refine g_iconst dX6_sureBehind_13 lt_iconst_1 ?_
    refine g_goto 18 dX6_sureBehind_14 (by decide) ?_
    refine g_sub [0, 1, 2] rfl ?_
    exact J_X6_sureBehind_18 l b D z hF
def rm_X6_linesForSure : Room := { frames := 2, cells := 0, slots := 0, locals := 50 }
set_option maxRecDepth 100000 in
set_option maxHeartbeats 4000000 in
theorem B_X6_linesForSure_13 (l : Launch) (b : Nat) (D : va_G) (z : Nat → Nat) {Φ : Option Value → qH → Nat → Prop} {nx : Nat} {a0 : Nat} {a1 : Nat} {a2 : Int32} {a3 : Int32} {a4 : Int32} {h : qH} {o : (Int32 × qH) ⊕ qH} (hF : b_X6_linesForSure_13 a0 a1 a2 a3 a4 h = some o) (hback : ∀ (b4 : Int32) (bh : qH), o = .inl (b4, bh) → Go l b D z yX6_linesForSure cX6_linesForSure 6 (some .int) rm_X6_linesForSure Φ 13 [(0, .ref a0), (1, .ref a1), (2, .int a2), (3, .int a3), (4, .int b4)] [] bh nx 0 0) (hx0 : ∀  (bh : qH), o = .inr bh → Go l b D z yX6_linesForSure cX6_linesForSure 6 (some .int) rm_X6_linesForSure Φ 35 [(0, .ref a0), (1, .ref a1), (2, .int a2), (3, .int a3)] [] bh nx 0 0) : Go l b D z yX6_linesForSure cX6_linesForSure 6 (some .int) rm_X6_linesForSure Φ 13 [(0, .ref a0), (1, .ref a1), (2, .int a2), (3, .int a3), (4, .int a4)] [] h nx 0 0 := by
  unfold b_X6_linesForSure_13 at hF
  refine g_iload 4 dX6_linesForSure_13 rfl ?_
  refine g_bipush dX6_linesForSure_15 lt_bipush_20 ?_
  refine g_icmp_ge 35 dX6_linesForSure_17 (by decide) (fun c1 => ?_) (fun c1 => ?_)
  · replace hF := q_t c1 hF
    cases hF
    refine g_sub [0, 1, 2, 3] rfl ?_
    exact hx0 _ rfl
  · replace hF := q_f c1 hF
    refine g_aload_n 0 dX6_linesForSure_20 rfl ?_
    obtain ⟨x2, e3, hF⟩ := q_bind hF
    refine g_getfR fl_X6_17 e3 dX6_linesForSure_21 ?_
    refine g_iload 4 dX6_linesForSure_24 rfl ?_
    refine g_ldc dX6_linesForSure_26 wd_992 ?_
    obtain ⟨h4, e5, hF⟩ := q_bind hF
    refine g_iast e5 dX6_linesForSure_28 ?_
    refine g_iinc [(4, .int (a4 + 1)), (0, .ref a0), (1, .ref a1), (2, .int a2), (3, .int a3)] 4 dX6_linesForSure_29 rfl (congrArg (a4 + ·) lt_iconst_1) (Nat.le_of_ble_eq_true rfl) rfl ?_
    refine g_goto 13 dX6_linesForSure_32 (by decide) ?_
    cases hF
    refine g_sub [1, 2, 3, 4, 0] rfl ?_
    exact hback _ _ rfl
set_option maxRecDepth 100000 in
set_option maxHeartbeats 4000000 in
theorem L_X6_linesForSure_13 (l : Launch) (b : Nat) (D : va_G) (z : Nat → Nat) {Φ : Option Value → qH → Nat → Prop} {nx : Nat} {a0 : Nat} {a1 : Nat} {a2 : Int32} {a3 : Int32} : ∀ (n : Nat) (a4 : Int32) (h : qH) (e : qH), q_lp (s_X6_linesForSure_13 a0 a1 a2 a3) n (a4, h) = some e → (∀  (bh : qH), e = bh → Go l b D z yX6_linesForSure cX6_linesForSure 6 (some .int) rm_X6_linesForSure Φ 35 [(0, .ref a0), (1, .ref a1), (2, .int a2), (3, .int a3)] [] bh nx 0 0) → Go l b D z yX6_linesForSure cX6_linesForSure 6 (some .int) rm_X6_linesForSure Φ 13 [(0, .ref a0), (1, .ref a1), (2, .int a2), (3, .int a3), (4, .int a4)] [] h nx 0 0 := by
  intro n
  induction n with
  | zero => intro a4 h e he; cases (show none = some e from he)
  | succ n ih =>
    intro a4 h e he hx0
    obtain ⟨o, ho, h1, h2⟩ := q_lp_succ he
    exact B_X6_linesForSure_13 l b D z (show b_X6_linesForSure_13 a0 a1 a2 a3 a4 h = some o from ho) (fun b4 bh hb => ih _ _ e (h1 _ hb) hx0) (fun p0 hr => hx0 p0 (h2 _ hr).symm)
set_option maxRecDepth 100000 in
set_option maxHeartbeats 4000000 in
theorem B_X6_linesForSure_48 (l : Launch) (b : Nat) (D : va_G) (z : Nat → Nat) {Φ : Option Value → qH → Nat → Prop} {nx : Nat} {a0 : Nat} {a1 : Nat} {a2 : Int32} {a3 : Int32} {a4 : Int32} {a5 : Int32} {h : qH} {o : (Int32 × qH) ⊕ qH} (hF : b_X6_linesForSure_48 a0 a1 a2 a3 a4 a5 h = some o) (hback : ∀ (b5 : Int32) (bh : qH), o = .inl (b5, bh) → Go l b D z yX6_linesForSure cX6_linesForSure 6 (some .int) rm_X6_linesForSure Φ 48 [(0, .ref a0), (1, .ref a1), (2, .int a2), (3, .int a3), (4, .int a4), (5, .int b5)] [] bh nx 0 0) (hx0 : ∀  (bh : qH), o = .inr bh → Go l b D z yX6_linesForSure cX6_linesForSure 6 (some .int) rm_X6_linesForSure Φ 106 [(0, .ref a0), (1, .ref a1), (2, .int a2), (3, .int a3), (4, .int a4)] [] bh nx 0 0) : Go l b D z yX6_linesForSure cX6_linesForSure 6 (some .int) rm_X6_linesForSure Φ 48 [(0, .ref a0), (1, .ref a1), (2, .int a2), (3, .int a3), (4, .int a4), (5, .int a5)] [] h nx 0 0 := by
  unfold b_X6_linesForSure_48 at hF
  refine g_iload 5 dX6_linesForSure_48 rfl ?_
  refine g_aload_n 1 dX6_linesForSure_50 rfl ?_
  obtain ⟨x1, e2, hF⟩ := q_bind hF
  refine g_getfI fl_X6_40 e2 dX6_linesForSure_51 ?_
  refine g_icmp_ge 106 dX6_linesForSure_54 (by decide) (fun c3 => ?_) (fun c3 => ?_)
  · replace hF := q_t c3 hF
    cases hF
    refine g_sub [0, 1, 2, 3, 4] rfl ?_
    exact hx0 _ rfl
  · replace hF := q_f c3 hF
    refine g_iload 5 dX6_linesForSure_57 rfl ?_
    refine g_bipush dX6_linesForSure_59 lt_bipush_20 ?_
    refine g_icmp_ge 106 dX6_linesForSure_61 (by decide) (fun c4 => ?_) (fun c4 => ?_)
    · replace hF := q_t c4 hF
      cases hF
      refine g_sub [0, 1, 2, 3, 4] rfl ?_
      exact hx0 _ rfl
    · replace hF := q_f c4 hF
      refine g_aload_n 0 dX6_linesForSure_64 rfl ?_
      obtain ⟨x5, e6, hF⟩ := q_bind hF
      refine g_getfR fl_X6_20 e6 dX6_linesForSure_65 ?_
      refine g_iload 5 dX6_linesForSure_68 rfl ?_
      refine g_aload_n 1 dX6_linesForSure_70 rfl ?_
      refine g_iload 5 dX6_linesForSure_71 rfl ?_
      obtain ⟨u7, e8, hF⟩ := q_bind hF
      obtain ⟨x9, e10, hF⟩ := q_bind hF
      refine g_callVr0 (ci := 0) (q := (RX0, TX0, 15)) qm_X0_sceneOf wd_988 wd_989 wd_990 rfl e8 (M_X0_sceneOf l b D z nx e10) (As := [.int a5]) rfl rfl (Nat.le_of_ble_eq_true rfl) ⟨(Nat.le_of_ble_eq_true rfl), (Nat.le_of_ble_eq_true rfl)⟩ ⟨rfl, rfl⟩ ⟨(Nat.le_of_ble_eq_true rfl), (Nat.le_of_ble_eq_true rfl)⟩ dX6_linesForSure_73 ?_
      refine g_iload_n 2 dX6_linesForSure_76 rfl ?_
      refine g_icmp_ne 84 dX6_linesForSure_77 (by decide) (fun c11 => ?_) (fun c11 => ?_)
      · replace hF := q_f c11 hF
        refine g_ldc dX6_linesForSure_84 wd_992 ?_
        refine g_iconst dX6_linesForSure_86 lt_iconst_1 ?_
        refine g_aload_n 0 dX6_linesForSure_87 rfl ?_
        refine g_aload_n 1 dX6_linesForSure_88 rfl ?_
        refine g_iload 5 dX6_linesForSure_89 rfl ?_
        refine g_iload_n 3 dX6_linesForSure_91 rfl ?_
        obtain ⟨u12, e13, hF⟩ := q_bind hF
        obtain ⟨x14, e15, hF⟩ := q_bind hF
        refine g_callVr0 (ci := 6) (q := (RX6, TX6, 7)) qm_X6_sureBehind wd_1382 wd_1384 wd_75 rfl e13 (M_X6_sureBehind l b D z nx e15) (As := [.ref a1, .int a5, .int a3]) rfl rfl (Nat.le_of_ble_eq_true rfl) ⟨(Nat.le_of_ble_eq_true rfl), (Nat.le_of_ble_eq_true rfl)⟩ ⟨rfl, rfl⟩ ⟨(Nat.le_of_ble_eq_true rfl), (Nat.le_of_ble_eq_true rfl)⟩ dX6_linesForSure_92 ?_
        refine g_iadd dX6_linesForSure_95 ?_
        obtain ⟨x16, e17, hF⟩ := q_bind hF
        refine g_callSr0 qm_J9_min_7cf53 wd_1007 wd_1008 (M_J9_min_7cf53 l b D z nx e17) (As := [.int (1000000 : Int32), .int ((1 : Int32) + x14)]) rfl rfl (Nat.le_of_ble_eq_true rfl) ⟨(Nat.le_of_ble_eq_true rfl), (Nat.le_of_ble_eq_true rfl)⟩ ⟨rfl, rfl⟩ ⟨(Nat.le_of_ble_eq_true rfl), (Nat.le_of_ble_eq_true rfl)⟩ dX6_linesForSure_96 ?_
        obtain ⟨h18, e19, hF⟩ := q_bind hF
        refine g_iast e19 dX6_linesForSure_99 ?_
        refine g_iinc [(5, .int (a5 + 1)), (0, .ref a0), (1, .ref a1), (2, .int a2), (3, .int a3), (4, .int a4)] 5 dX6_linesForSure_100 rfl (congrArg (a5 + ·) lt_iconst_1) (Nat.le_of_ble_eq_true rfl) rfl ?_
        refine g_goto 48 dX6_linesForSure_103 (by decide) ?_
        cases hF
        refine g_sub [1, 2, 3, 4, 5, 0] rfl ?_
        exact hback _ _ rfl
      · replace hF := q_t c11 hF
        refine g_iconst dX6_linesForSure_80 lt_iconst_1 ?_
        refine g_goto 99 dX6_linesForSure_81 (by decide) ?_
        obtain ⟨h20, e21, hF⟩ := q_bind hF
        refine g_iast e21 dX6_linesForSure_99 ?_
        refine g_iinc [(5, .int (a5 + 1)), (0, .ref a0), (1, .ref a1), (2, .int a2), (3, .int a3), (4, .int a4)] 5 dX6_linesForSure_100 rfl (congrArg (a5 + ·) lt_iconst_1) (Nat.le_of_ble_eq_true rfl) rfl ?_
        refine g_goto 48 dX6_linesForSure_103 (by decide) ?_
        cases hF
        refine g_sub [1, 2, 3, 4, 5, 0] rfl ?_
        exact hback _ _ rfl
set_option maxRecDepth 100000 in
set_option maxHeartbeats 4000000 in
theorem L_X6_linesForSure_48 (l : Launch) (b : Nat) (D : va_G) (z : Nat → Nat) {Φ : Option Value → qH → Nat → Prop} {nx : Nat} {a0 : Nat} {a1 : Nat} {a2 : Int32} {a3 : Int32} {a4 : Int32} : ∀ (n : Nat) (a5 : Int32) (h : qH) (e : qH), q_lp (s_X6_linesForSure_48 a0 a1 a2 a3 a4) n (a5, h) = some e → (∀  (bh : qH), e = bh → Go l b D z yX6_linesForSure cX6_linesForSure 6 (some .int) rm_X6_linesForSure Φ 106 [(0, .ref a0), (1, .ref a1), (2, .int a2), (3, .int a3), (4, .int a4)] [] bh nx 0 0) → Go l b D z yX6_linesForSure cX6_linesForSure 6 (some .int) rm_X6_linesForSure Φ 48 [(0, .ref a0), (1, .ref a1), (2, .int a2), (3, .int a3), (4, .int a4), (5, .int a5)] [] h nx 0 0 := by
  intro n
  induction n with
  | zero => intro a5 h e he; cases (show none = some e from he)
  | succ n ih =>
    intro a5 h e he hx0
    obtain ⟨o, ho, h1, h2⟩ := q_lp_succ he
    exact B_X6_linesForSure_48 l b D z (show b_X6_linesForSure_48 a0 a1 a2 a3 a4 a5 h = some o from ho) (fun b5 bh hb => ih _ _ e (h1 _ hb) hx0) (fun p0 hr => hx0 p0 (h2 _ hr).symm)
set_option maxRecDepth 100000 in
set_option maxHeartbeats 4000000 in
theorem J_X6_linesForSure_106 (l : Launch) (b : Nat) (D : va_G) (z : Nat → Nat) {Φ : Option Value → qH → Nat → Prop} {nx : Nat} {h : qH} {a0 : Nat} {a1 : Nat} {a2 : Int32} {a3 : Int32} {a4 : Int32} {o : (Int32 × qH) ⊕ qH} (hF : j_X6_linesForSure_106 h a0 a1 a2 a3 a4  = some o) (hback : ∀ (b4 : Int32) (bh : qH), o = .inl (b4, bh) → Go l b D z yX6_linesForSure cX6_linesForSure 6 (some .int) rm_X6_linesForSure Φ 38 [(0, .ref a0), (1, .ref a1), (2, .int a2), (3, .int a3), (4, .int b4)] [] bh nx 0 0) (hx0 : ∀  (bh : qH), o = .inr bh → Go l b D z yX6_linesForSure cX6_linesForSure 6 (some .int) rm_X6_linesForSure Φ 127 [(0, .ref a0)] [] bh nx 0 0) : Go l b D z yX6_linesForSure cX6_linesForSure 6 (some .int) rm_X6_linesForSure Φ 106 [(0, .ref a0), (1, .ref a1), (2, .int a2), (3, .int a3), (4, .int a4)] [] h nx 0 0 := by
  unfold j_X6_linesForSure_106 at hF
  refine g_aload_n 0 dX6_linesForSure_106 rfl ?_
  obtain ⟨x1, e2, hF⟩ := q_bind hF
  refine g_getfR fl_X6_20 e2 dX6_linesForSure_107 ?_
  refine g_iconst dX6_linesForSure_110 lt_iconst_0 ?_
  refine g_aload_n 0 dX6_linesForSure_111 rfl ?_
  obtain ⟨x3, e4, hF⟩ := q_bind hF
  refine g_getfR fl_X6_17 e4 dX6_linesForSure_112 ?_
  refine g_iconst dX6_linesForSure_115 lt_iconst_0 ?_
  refine g_bipush dX6_linesForSure_116 lt_bipush_20 ?_
  obtain ⟨h5, e6, hF⟩ := q_bind hF
  refine g_copyI rfl e6 wd_1026 wd_1028 wd_1027 wd_182 (Nat.le_of_ble_eq_true rfl) (Nat.le_of_ble_eq_true rfl) dX6_linesForSure_118 ?_
  refine g_iinc [(4, .int (a4 + 1)), (0, .ref a0), (1, .ref a1), (2, .int a2), (3, .int a3)] 4 dX6_linesForSure_121 rfl (congrArg (a4 + ·) lt_iconst_1) (Nat.le_of_ble_eq_true rfl) rfl ?_
  refine g_goto 38 dX6_linesForSure_124 (by decide) ?_
  cases hF
  refine g_sub [1, 2, 3, 4, 0] rfl ?_
  exact hback _ _ rfl
set_option maxRecDepth 100000 in
set_option maxHeartbeats 4000000 in
theorem B_X6_linesForSure_38 (l : Launch) (b : Nat) (D : va_G) (z : Nat → Nat) {Φ : Option Value → qH → Nat → Prop} {nx : Nat} {a0 : Nat} {a1 : Nat} {a2 : Int32} {a3 : Int32} {a4 : Int32} {h : qH} {o : (Int32 × qH) ⊕ qH} (hF : b_X6_linesForSure_38 a0 a1 a2 a3 a4 h = some o) (hback : ∀ (b4 : Int32) (bh : qH), o = .inl (b4, bh) → Go l b D z yX6_linesForSure cX6_linesForSure 6 (some .int) rm_X6_linesForSure Φ 38 [(0, .ref a0), (1, .ref a1), (2, .int a2), (3, .int a3), (4, .int b4)] [] bh nx 0 0) (hx0 : ∀  (bh : qH), o = .inr bh → Go l b D z yX6_linesForSure cX6_linesForSure 6 (some .int) rm_X6_linesForSure Φ 127 [(0, .ref a0)] [] bh nx 0 0) : Go l b D z yX6_linesForSure cX6_linesForSure 6 (some .int) rm_X6_linesForSure Φ 38 [(0, .ref a0), (1, .ref a1), (2, .int a2), (3, .int a3), (4, .int a4)] [] h nx 0 0 := by
  unfold b_X6_linesForSure_38 at hF
  refine g_iload 4 dX6_linesForSure_38 rfl ?_
  refine g_bipush dX6_linesForSure_40 lt_bipush_20 ?_
  refine g_icmp_ge 127 dX6_linesForSure_42 (by decide) (fun c1 => ?_) (fun c1 => ?_)
  · replace hF := q_t c1 hF
    cases hF
    refine g_sub [0] rfl ?_
    exact hx0 _ rfl
  · replace hF := q_f c1 hF
    refine g_iconst dX6_linesForSure_45 lt_iconst_0 ?_
    refine g_istore [(5, .int (0 : Int32)), (0, .ref a0), (1, .ref a1), (2, .int a2), (3, .int a3), (4, .int a4)] dX6_linesForSure_46 (Nat.le_of_ble_eq_true rfl) rfl ?_
    obtain ⟨e2, w3, hF⟩ := q_bind hF
    refine g_sub [1, 2, 3, 4, 5, 0] rfl ?_
    refine L_X6_linesForSure_48 l b D z q_N (0 : Int32) h e2 w3 ?_
    · intro h4 w5
      replace w5 := w5.symm
      subst w5
      exact J_X6_linesForSure_106 l b D z hF hback hx0
set_option maxRecDepth 100000 in
set_option maxHeartbeats 4000000 in
theorem L_X6_linesForSure_38 (l : Launch) (b : Nat) (D : va_G) (z : Nat → Nat) {Φ : Option Value → qH → Nat → Prop} {nx : Nat} {a0 : Nat} {a1 : Nat} {a2 : Int32} {a3 : Int32} : ∀ (n : Nat) (a4 : Int32) (h : qH) (e : qH), q_lp (s_X6_linesForSure_38 a0 a1 a2 a3) n (a4, h) = some e → (∀  (bh : qH), e = bh → Go l b D z yX6_linesForSure cX6_linesForSure 6 (some .int) rm_X6_linesForSure Φ 127 [(0, .ref a0)] [] bh nx 0 0) → Go l b D z yX6_linesForSure cX6_linesForSure 6 (some .int) rm_X6_linesForSure Φ 38 [(0, .ref a0), (1, .ref a1), (2, .int a2), (3, .int a3), (4, .int a4)] [] h nx 0 0 := by
  intro n
  induction n with
  | zero => intro a4 h e he; cases (show none = some e from he)
  | succ n ih =>
    intro a4 h e he hx0
    obtain ⟨o, ho, h1, h2⟩ := q_lp_succ he
    exact B_X6_linesForSure_38 l b D z (show b_X6_linesForSure_38 a0 a1 a2 a3 a4 h = some o from ho) (fun b4 bh hb => ih _ _ e (h1 _ hb) hx0) (fun p0 hr => hx0 p0 (h2 _ hr).symm)
set_option maxRecDepth 100000 in
set_option maxHeartbeats 4000000 in
theorem M_X6_linesForSure (l : Launch) (b : Nat) (D : va_G) (z : Nat → Nat) (nx : Nat) {h : qH} {a0 : Nat} {a1 : Nat} {a2 : Int32} {a3 : Int32} {r : Int32 × qH} (hF : F_X6_linesForSure h a0 a1 a2 a3 = some r) : Me l b D z yX6_linesForSure cX6_linesForSure 6 (some .int) rm_X6_linesForSure [.ref a0, .ref a1, .int a2, .int a3] h nx (qE (some (.int r.1)) r.2 nx) := by
  refine Me.of (by decide +kernel) (Nat.le_of_ble_eq_true rfl) ?_
  show Go l b D z yX6_linesForSure cX6_linesForSure 6 (some .int) rm_X6_linesForSure (qE (some (.int r.1)) r.2 nx) 0 [(0, .ref a0), (1, .ref a1), (2, .int a2), (3, .int a3)] [] h nx 0 0
  unfold F_X6_linesForSure at hF
  refine g_aload_n 1 dX6_linesForSure_0 rfl ?_
  refine g_iconst dX6_linesForSure_1 lt_iconst_0 ?_
  obtain ⟨u1, e2, hF⟩ := q_bind hF
  obtain ⟨x3, e4, hF⟩ := q_bind hF
  refine g_callVr0 (ci := 0) (q := (RX0, TX0, 15)) qm_X0_has wd_987 wd_783 wd_784 rfl e2 (M_X0_has l b D z nx e4) (As := [.int (0 : Int32)]) rfl rfl (Nat.le_of_ble_eq_true rfl) ⟨(Nat.le_of_ble_eq_true rfl), (Nat.le_of_ble_eq_true rfl)⟩ ⟨rfl, rfl⟩ ⟨(Nat.le_of_ble_eq_true rfl), (Nat.le_of_ble_eq_true rfl)⟩ dX6_linesForSure_2 ?_
  refine g_if_ne 10 dX6_linesForSure_5 (by decide) (fun c5 => ?_) (fun c5 => ?_)
  · replace hF := q_f c5 hF
    refine g_iconst dX6_linesForSure_10 lt_iconst_0 ?_
    refine g_istore [(4, .int (0 : Int32)), (0, .ref a0), (1, .ref a1), (2, .int a2), (3, .int a3)] dX6_linesForSure_11 (Nat.le_of_ble_eq_true rfl) rfl ?_
    obtain ⟨e6, w7, hF⟩ := q_bind hF
    refine g_sub [1, 2, 3, 4, 0] rfl ?_
    refine L_X6_linesForSure_13 l b D z q_N (0 : Int32) h e6 w7 ?_
    · intro h8 w9
      replace w9 := w9.symm
      subst w9
      refine g_iconst dX6_linesForSure_35 lt_iconst_0 ?_
      refine g_istore [(4, .int (0 : Int32)), (0, .ref a0), (1, .ref a1), (2, .int a2), (3, .int a3)] dX6_linesForSure_36 (Nat.le_of_ble_eq_true rfl) rfl ?_
      obtain ⟨e10, w11, hF⟩ := q_bind hF
      refine g_sub [1, 2, 3, 4, 0] rfl ?_
      refine L_X6_linesForSure_38 l b D z q_N (0 : Int32) h8 e10 w11 ?_
      · intro h12 w13
        replace w13 := w13.symm
        subst w13
        refine g_aload_n 0 dX6_linesForSure_127 rfl ?_
        obtain ⟨x14, e15, hF⟩ := q_bind hF
        refine g_getfR fl_X6_17 e15 dX6_linesForSure_128 ?_
        refine g_iconst dX6_linesForSure_131 lt_iconst_0 ?_
        obtain ⟨x16, e17, hF⟩ := q_bind hF
        refine g_iald e17 dX6_linesForSure_132 ?_
        refine g_ldc dX6_linesForSure_133 wd_992 ?_
        refine g_icmp_lt 142 dX6_linesForSure_135 (by decide) (fun c18 => ?_) (fun c18 => ?_)
        · replace hF := q_t c18 hF
          refine g_aload_n 0 dX6_linesForSure_142 rfl ?_
          obtain ⟨x19, e20, hF⟩ := q_bind hF
          refine g_getfR fl_X6_17 e20 dX6_linesForSure_143 ?_
          refine g_iconst dX6_linesForSure_146 lt_iconst_0 ?_
          obtain ⟨x21, e22, hF⟩ := q_bind hF
          refine g_iald e22 dX6_linesForSure_147 ?_
          cases hF
          exact g_iret dX6_linesForSure_148 rfl ⟨rfl, rfl, rfl⟩ (Nat.le_of_ble_eq_true rfl) (Nat.le_of_ble_eq_true rfl)
        · replace hF := q_f c18 hF
          refine g_iconst dX6_linesForSure_138 lt_iconst_m1 ?_
          refine g_goto 148 dX6_linesForSure_139 (by decide) ?_
          cases hF
          exact g_iret dX6_linesForSure_148 rfl ⟨rfl, rfl, rfl⟩ (Nat.le_of_ble_eq_true rfl) (Nat.le_of_ble_eq_true rfl)
  · replace hF := q_t c5 hF
    refine g_iconst dX6_linesForSure_8 lt_iconst_m1 ?_
    cases hF
    exact g_iret dX6_linesForSure_9 rfl ⟨rfl, rfl, rfl⟩ (Nat.le_of_ble_eq_true rfl) (Nat.le_of_ble_eq_true rfl)
def rm_X7_init : Room := { frames := 1, cells := 3, slots := 1803, locals := 20 }
theorem rmc_X7_init : rm_X7_init.cells = 3 := rfl
theorem rms_X7_init : rm_X7_init.slots = 1803 := rfl
set_option maxRecDepth 100000 in
set_option maxHeartbeats 4000000 in
theorem M_X7_init (l : Launch) (b : Nat) (D : va_G) (z : Nat → Nat) (nx : Nat) {h : qH} {a0 : Nat} {r : qH × Nat} (hF : F_X7_init h nx a0 = some r) : Me l b D z yX7_init cX7_init 1 none rm_X7_init [.ref a0] h nx (qE none r.1 r.2) := by
  refine Me.of (by decide +kernel) (Nat.le_of_ble_eq_true rfl) ?_
  show Go l b D z yX7_init cX7_init 1 none rm_X7_init (qE none r.1 r.2) 0 [(0, .ref a0)] [] h nx 0 0
  unfold F_X7_init at hF
  refine g_aload_n 0 dX7_init_0 rfl ?_
  refine g_obj wd_359 wd_190 wd_191 (Nat.le_of_ble_eq_true rfl) (Nat.le_of_ble_eq_true rfl) dX7_init_1 ?_
  refine g_aload_n 0 dX7_init_4 rfl ?_
  refine g_sipush dX7_init_5 lt_sipush_601 ?_
  refine g_newi (N := 601) wd_266 (by decide) (by decide) (Nat.le_of_ble_eq_true rfl) (Nat.le_of_ble_eq_true rfl) (Nat.le_of_ble_eq_true rfl) dX7_init_8 ?_
  obtain ⟨h1, e2, hF⟩ := q_bind hF
  refine g_putF fl_X7_11 e2 rfl rfl rfl (fun q hq => by cases hq; rfl) dX7_init_10 ?_
  refine g_aload_n 0 dX7_init_13 rfl ?_
  refine g_sipush dX7_init_14 lt_sipush_601 ?_
  refine g_newi (N := 601) wd_266 (by decide) (by decide) (Nat.le_of_ble_eq_true rfl) (Nat.le_of_ble_eq_true rfl) (Nat.le_of_ble_eq_true rfl) dX7_init_17 ?_
  obtain ⟨h3, e4, hF⟩ := q_bind hF
  refine g_putF fl_X7_17 e4 rfl rfl rfl (fun q hq => by cases hq; rfl) dX7_init_19 ?_
  refine g_aload_n 0 dX7_init_22 rfl ?_
  refine g_sipush dX7_init_23 lt_sipush_601 ?_
  refine g_newi (N := 601) wd_266 (by decide) (by decide) (Nat.le_of_ble_eq_true rfl) (Nat.le_of_ble_eq_true rfl) (Nat.le_of_ble_eq_true rfl) dX7_init_26 ?_
  obtain ⟨h5, e6, hF⟩ := q_bind hF
  refine g_putF fl_X7_20 e6 rfl rfl rfl (fun q hq => by cases hq; rfl) dX7_init_28 ?_
  cases hF
  exact g_vret dX7_init_31 rfl ⟨rfl, rfl, rfl⟩ (Nat.le_of_ble_eq_true rfl) (Nat.le_of_ble_eq_true rfl)
def rm_X9_byteAt : Room := { frames := 0, cells := 0, slots := 0, locals := 0 }
set_option maxRecDepth 100000 in
set_option maxHeartbeats 4000000 in
theorem M_X9_byteAt (l : Launch) (b : Nat) (D : va_G) (z : Nat → Nat) (nx : Nat) {h : qH} {a0 : Nat} {a1 : Int32} {r : Int32} (hF : F_X9_byteAt h a0 a1 = some r) : Me l b D z yX9_byteAt cX9_byteAt 2 (some .int) rm_X9_byteAt [.ref a0, .int a1] h nx (qE (some (.int r)) h nx) := by
  refine Me.of (by decide +kernel) (Nat.le_of_ble_eq_true rfl) ?_
  show Go l b D z yX9_byteAt cX9_byteAt 2 (some .int) rm_X9_byteAt (qE (some (.int r)) h nx) 0 [(0, .ref a0), (1, .int a1)] [] h nx 0 0
  unfold F_X9_byteAt at hF
  refine g_iload_n 1 dX9_byteAt_0 rfl ?_
  refine g_if_lt 32 dX9_byteAt_1 (by decide) (fun c1 => ?_) (fun c1 => ?_)
  · replace hF := q_t c1 hF
    refine g_iconst dX9_byteAt_32 lt_iconst_m1 ?_
    cases hF
    exact g_iret dX9_byteAt_33 rfl ⟨rfl, rfl, rfl⟩ (Nat.le_of_ble_eq_true rfl) (Nat.le_of_ble_eq_true rfl)
  · replace hF := q_f c1 hF
    refine g_iload_n 1 dX9_byteAt_4 rfl ?_
    refine g_aload_n 0 dX9_byteAt_5 rfl ?_
    obtain ⟨x2, e3, hF⟩ := q_bind hF
    refine g_getfI fl_X9_51 e3 dX9_byteAt_6 ?_
    refine g_icmp_ge 32 dX9_byteAt_9 (by decide) (fun c4 => ?_) (fun c4 => ?_)
    · replace hF := q_t c4 hF
      refine g_iconst dX9_byteAt_32 lt_iconst_m1 ?_
      cases hF
      exact g_iret dX9_byteAt_33 rfl ⟨rfl, rfl, rfl⟩ (Nat.le_of_ble_eq_true rfl) (Nat.le_of_ble_eq_true rfl)
    · replace hF := q_f c4 hF
      refine g_iload_n 1 dX9_byteAt_12 rfl ?_
      refine g_sipush dX9_byteAt_13 lt_sipush_600 ?_
      refine g_icmp_ge 32 dX9_byteAt_16 (by decide) (fun c5 => ?_) (fun c5 => ?_)
      · replace hF := q_t c5 hF
        refine g_iconst dX9_byteAt_32 lt_iconst_m1 ?_
        cases hF
        exact g_iret dX9_byteAt_33 rfl ⟨rfl, rfl, rfl⟩ (Nat.le_of_ble_eq_true rfl) (Nat.le_of_ble_eq_true rfl)
      · replace hF := q_f c5 hF
        refine g_aload_n 0 dX9_byteAt_19 rfl ?_
        obtain ⟨x6, e7, hF⟩ := q_bind hF
        refine g_getfR fl_X9_11 e7 dX9_byteAt_20 ?_
        refine g_iload_n 1 dX9_byteAt_23 rfl ?_
        obtain ⟨x8, e9, hF⟩ := q_bind hF
        refine g_bald e9 dX9_byteAt_24 ?_
        refine g_sipush dX9_byteAt_25 lt_sipush_255 ?_
        refine g_iand dX9_byteAt_28 ?_
        refine g_goto 33 dX9_byteAt_29 (by decide) ?_
        cases hF
        exact g_iret dX9_byteAt_33 rfl ⟨rfl, rfl, rfl⟩ (Nat.le_of_ble_eq_true rfl) (Nat.le_of_ble_eq_true rfl)
def rm_X7_isLetter : Room := { frames := 0, cells := 0, slots := 0, locals := 0 }
set_option maxRecDepth 100000 in
set_option maxHeartbeats 4000000 in
theorem M_X7_isLetter (l : Launch) (b : Nat) (D : va_G) (z : Nat → Nat) (nx : Nat) {h : qH} {a0 : Int32} {r : Int32} (hF : F_X7_isLetter h a0 = some r) : Me l b D z yX7_isLetter cX7_isLetter 1 (some .boolean) rm_X7_isLetter [.int a0] h nx (qE (some (.int r)) h nx) := by
  refine Me.of (by decide +kernel) (Nat.le_of_ble_eq_true rfl) ?_
  show Go l b D z yX7_isLetter cX7_isLetter 1 (some .boolean) rm_X7_isLetter (qE (some (.int r)) h nx) 0 [(0, .int a0)] [] h nx 0 0
  unfold F_X7_isLetter at hF
  refine g_iload_n 0 dX7_isLetter_0 rfl ?_
  refine g_bipush dX7_isLetter_1 lt_bipush_97 ?_
  refine g_icmp_lt 16 dX7_isLetter_3 (by decide) (fun c1 => ?_) (fun c1 => ?_)
  · replace hF := q_t c1 hF
    refine g_iconst dX7_isLetter_16 lt_iconst_0 ?_
    cases hF
    exact g_zret dX7_isLetter_17 rfl zn_0 ⟨rfl, rfl, rfl⟩ (Nat.le_of_ble_eq_true rfl) (Nat.le_of_ble_eq_true rfl)
  · replace hF := q_f c1 hF
    refine g_iload_n 0 dX7_isLetter_6 rfl ?_
    refine g_bipush dX7_isLetter_7 lt_bipush_122 ?_
    refine g_icmp_gt 16 dX7_isLetter_9 (by decide) (fun c2 => ?_) (fun c2 => ?_)
    · replace hF := q_t c2 hF
      refine g_iconst dX7_isLetter_16 lt_iconst_0 ?_
      cases hF
      exact g_zret dX7_isLetter_17 rfl zn_0 ⟨rfl, rfl, rfl⟩ (Nat.le_of_ble_eq_true rfl) (Nat.le_of_ble_eq_true rfl)
    · replace hF := q_f c2 hF
      refine g_iconst dX7_isLetter_12 lt_iconst_1 ?_
      refine g_goto 17 dX7_isLetter_13 (by decide) ?_
      cases hF
      exact g_zret dX7_isLetter_17 rfl zn_1 ⟨rfl, rfl, rfl⟩ (Nat.le_of_ble_eq_true rfl) (Nat.le_of_ble_eq_true rfl)
def rm_X7_isDigit : Room := { frames := 0, cells := 0, slots := 0, locals := 0 }
set_option maxRecDepth 100000 in
set_option maxHeartbeats 4000000 in
theorem M_X7_isDigit (l : Launch) (b : Nat) (D : va_G) (z : Nat → Nat) (nx : Nat) {h : qH} {a0 : Int32} {r : Int32} (hF : F_X7_isDigit h a0 = some r) : Me l b D z yX7_isDigit cX7_isDigit 1 (some .boolean) rm_X7_isDigit [.int a0] h nx (qE (some (.int r)) h nx) := by
  refine Me.of (by decide +kernel) (Nat.le_of_ble_eq_true rfl) ?_
  show Go l b D z yX7_isDigit cX7_isDigit 1 (some .boolean) rm_X7_isDigit (qE (some (.int r)) h nx) 0 [(0, .int a0)] [] h nx 0 0
  unfold F_X7_isDigit at hF
  refine g_iload_n 0 dX7_isDigit_0 rfl ?_
  refine g_bipush dX7_isDigit_1 lt_bipush_48 ?_
  refine g_icmp_lt 16 dX7_isDigit_3 (by decide) (fun c1 => ?_) (fun c1 => ?_)
  · replace hF := q_t c1 hF
    refine g_iconst dX7_isDigit_16 lt_iconst_0 ?_
    cases hF
    exact g_zret dX7_isDigit_17 rfl zn_0 ⟨rfl, rfl, rfl⟩ (Nat.le_of_ble_eq_true rfl) (Nat.le_of_ble_eq_true rfl)
  · replace hF := q_f c1 hF
    refine g_iload_n 0 dX7_isDigit_6 rfl ?_
    refine g_bipush dX7_isDigit_7 lt_bipush_57 ?_
    refine g_icmp_gt 16 dX7_isDigit_9 (by decide) (fun c2 => ?_) (fun c2 => ?_)
    · replace hF := q_t c2 hF
      refine g_iconst dX7_isDigit_16 lt_iconst_0 ?_
      cases hF
      exact g_zret dX7_isDigit_17 rfl zn_0 ⟨rfl, rfl, rfl⟩ (Nat.le_of_ble_eq_true rfl) (Nat.le_of_ble_eq_true rfl)
    · replace hF := q_f c2 hF
      refine g_iconst dX7_isDigit_12 lt_iconst_1 ?_
      refine g_goto 17 dX7_isDigit_13 (by decide) ?_
      cases hF
      exact g_zret dX7_isDigit_17 rfl zn_1 ⟨rfl, rfl, rfl⟩ (Nat.le_of_ble_eq_true rfl) (Nat.le_of_ble_eq_true rfl)
def rm_X7_endOfRow : Room := { frames := 1, cells := 0, slots := 0, locals := 21 }
set_option maxRecDepth 100000 in
set_option maxHeartbeats 4000000 in
theorem B_X7_endOfRow_51 (l : Launch) (b : Nat) (D : va_G) (z : Nat → Nat) {Φ : Option Value → qH → Nat → Prop} {nx : Nat} {h : qH} {a0 : Nat} {a2 : Int32} {o : Int32 ⊕ Int32} (hF : b_X7_endOfRow_51 h a0 a2 = some o) (hback : ∀ (b2 : Int32), o = .inl b2 → Go l b D z yX7_endOfRow cX7_endOfRow 3 (some .int) rm_X7_endOfRow Φ 51 [(0, .ref a0), (2, .int b2)] [] h nx 0 0) (hx0 : ∀ (b2 : Int32), o = .inr b2 → Go l b D z yX7_endOfRow cX7_endOfRow 3 (some .int) rm_X7_endOfRow Φ 76 [(2, .int b2)] [] h nx 0 0) : Go l b D z yX7_endOfRow cX7_endOfRow 3 (some .int) rm_X7_endOfRow Φ 51 [(0, .ref a0), (2, .int a2)] [] h nx 0 0 := by
  unfold b_X7_endOfRow_51 at hF
  refine g_iload_n 1 dX7_endOfRow_51 rfl ?_
  refine g_aload_n 0 dX7_endOfRow_52 rfl ?_
  obtain ⟨x1, e2, hF⟩ := q_bind hF
  refine g_getfI fl_X7_53 e2 dX7_endOfRow_53 ?_
  refine g_icmp_ge 76 dX7_endOfRow_56 (by decide) (fun c3 => ?_) (fun c3 => ?_)
  · replace hF := q_t c3 hF
    cases hF
    refine g_sub [1] rfl ?_
    exact hx0 _ rfl
  · replace hF := q_f c3 hF
    refine g_aload_n 0 dX7_endOfRow_59 rfl ?_
    refine g_iload_n 1 dX7_endOfRow_60 rfl ?_
    obtain ⟨u4, e5, hF⟩ := q_bind hF
    obtain ⟨x6, e7, hF⟩ := q_bind hF
    refine g_callVr0 (ci := 9) (q := (RX9, TX9, 9)) qm_X9_byteAt wd_569 wd_570 wd_571 rfl e5 (M_X9_byteAt l b D z nx e7) (As := [.int a2]) rfl rfl (Nat.le_of_ble_eq_true rfl) ⟨(Nat.le_of_ble_eq_true rfl), (Nat.le_of_ble_eq_true rfl)⟩ ⟨rfl, rfl⟩ ⟨(Nat.le_of_ble_eq_true rfl), (Nat.le_of_ble_eq_true rfl)⟩ dX7_endOfRow_61 ?_
    obtain ⟨x8, e9, hF⟩ := q_bind hF
    refine g_callSr0 qm_X7_isDigit wd_579 wd_580 (M_X7_isDigit l b D z nx e9) (As := [.int x6]) rfl rfl (Nat.le_of_ble_eq_true rfl) ⟨(Nat.le_of_ble_eq_true rfl), (Nat.le_of_ble_eq_true rfl)⟩ ⟨rfl, rfl⟩ ⟨(Nat.le_of_ble_eq_true rfl), (Nat.le_of_ble_eq_true rfl)⟩ dX7_endOfRow_64 ?_
    refine g_if_eq 76 dX7_endOfRow_67 (by decide) (fun c10 => ?_) (fun c10 => ?_)
    · replace hF := q_t c10 hF
      cases hF
      refine g_sub [1] rfl ?_
      exact hx0 _ rfl
    · replace hF := q_f c10 hF
      refine g_iinc [(2, .int (a2 + 1)), (0, .ref a0)] 1 dX7_endOfRow_70 rfl (congrArg (a2 + ·) lt_iconst_1) (Nat.le_of_ble_eq_true rfl) rfl ?_
      refine g_goto 51 dX7_endOfRow_73 (by decide) ?_
      cases hF
      refine g_sub [1, 0] rfl ?_
      exact hback _ rfl
set_option maxRecDepth 100000 in
set_option maxHeartbeats 4000000 in
theorem L_X7_endOfRow_51 (l : Launch) (b : Nat) (D : va_G) (z : Nat → Nat) {Φ : Option Value → qH → Nat → Prop} {nx : Nat} {h : qH} {a0 : Nat} : ∀ (n : Nat) (a2 : Int32) (e : Int32), q_lp (s_X7_endOfRow_51 h a0) n a2 = some e → (∀ (b2 : Int32), e = b2 → Go l b D z yX7_endOfRow cX7_endOfRow 3 (some .int) rm_X7_endOfRow Φ 76 [(2, .int b2)] [] h nx 0 0) → Go l b D z yX7_endOfRow cX7_endOfRow 3 (some .int) rm_X7_endOfRow Φ 51 [(0, .ref a0), (2, .int a2)] [] h nx 0 0 := by
  intro n
  induction n with
  | zero => intro a2 e he; cases (show none = some e from he)
  | succ n ih =>
    intro a2 e he hx0
    obtain ⟨o, ho, h1, h2⟩ := q_lp_succ he
    exact B_X7_endOfRow_51 l b D z (show b_X7_endOfRow_51 h a0 a2 = some o from ho) (fun b2 hb => ih _ e (h1 _ hb) hx0) (fun p0 hr => hx0 p0 (h2 _ hr).symm)
set_option maxRecDepth 100000 in
set_option maxHeartbeats 4000000 in
theorem B_X7_endOfRow_15 (l : Launch) (b : Nat) (D : va_G) (z : Nat → Nat) {Φ : Option Value → qH → Nat → Prop} {nx : Nat} {h : qH} {a0 : Nat} {a2 : Int32} {o : Int32 ⊕ Int32} (hF : b_X7_endOfRow_15 h a0 a2 = some o) (hback : ∀ (b2 : Int32), o = .inl b2 → Go l b D z yX7_endOfRow cX7_endOfRow 3 (some .int) rm_X7_endOfRow Φ 15 [(0, .ref a0), (2, .int b2)] [] h nx 0 0) (hx0 : ∀ (b2 : Int32), o = .inr b2 → Go l b D z yX7_endOfRow cX7_endOfRow 3 (some .int) rm_X7_endOfRow Φ 76 [(2, .int b2)] [] h nx 0 0) : Go l b D z yX7_endOfRow cX7_endOfRow 3 (some .int) rm_X7_endOfRow Φ 15 [(0, .ref a0), (2, .int a2)] [] h nx 0 0 := by
  unfold b_X7_endOfRow_15 at hF
  refine g_iload_n 1 dX7_endOfRow_15 rfl ?_
  refine g_aload_n 0 dX7_endOfRow_16 rfl ?_
  obtain ⟨x1, e2, hF⟩ := q_bind hF
  refine g_getfI fl_X7_53 e2 dX7_endOfRow_17 ?_
  refine g_icmp_ge 76 dX7_endOfRow_20 (by decide) (fun c3 => ?_) (fun c3 => ?_)
  · replace hF := q_t c3 hF
    cases hF
    refine g_sub [1] rfl ?_
    exact hx0 _ rfl
  · replace hF := q_f c3 hF
    refine g_aload_n 0 dX7_endOfRow_23 rfl ?_
    refine g_iload_n 1 dX7_endOfRow_24 rfl ?_
    obtain ⟨u4, e5, hF⟩ := q_bind hF
    obtain ⟨x6, e7, hF⟩ := q_bind hF
    refine g_callVr0 (ci := 9) (q := (RX9, TX9, 9)) qm_X9_byteAt wd_569 wd_570 wd_571 rfl e5 (M_X9_byteAt l b D z nx e7) (As := [.int a2]) rfl rfl (Nat.le_of_ble_eq_true rfl) ⟨(Nat.le_of_ble_eq_true rfl), (Nat.le_of_ble_eq_true rfl)⟩ ⟨rfl, rfl⟩ ⟨(Nat.le_of_ble_eq_true rfl), (Nat.le_of_ble_eq_true rfl)⟩ dX7_endOfRow_25 ?_
    obtain ⟨x8, e9, hF⟩ := q_bind hF
    refine g_callSr0 qm_X7_isLetter wd_576 wd_577 (M_X7_isLetter l b D z nx e9) (As := [.int x6]) rfl rfl (Nat.le_of_ble_eq_true rfl) ⟨(Nat.le_of_ble_eq_true rfl), (Nat.le_of_ble_eq_true rfl)⟩ ⟨rfl, rfl⟩ ⟨(Nat.le_of_ble_eq_true rfl), (Nat.le_of_ble_eq_true rfl)⟩ dX7_endOfRow_28 ?_
    refine g_if_eq 76 dX7_endOfRow_31 (by decide) (fun c10 => ?_) (fun c10 => ?_)
    · replace hF := q_t c10 hF
      cases hF
      refine g_sub [1] rfl ?_
      exact hx0 _ rfl
    · replace hF := q_f c10 hF
      refine g_iinc [(2, .int (a2 + 1)), (0, .ref a0)] 1 dX7_endOfRow_34 rfl (congrArg (a2 + ·) lt_iconst_1) (Nat.le_of_ble_eq_true rfl) rfl ?_
      refine g_goto 15 dX7_endOfRow_37 (by decide) ?_
      cases hF
      refine g_sub [1, 0] rfl ?_
      exact hback _ rfl
set_option maxRecDepth 100000 in
set_option maxHeartbeats 4000000 in
theorem L_X7_endOfRow_15 (l : Launch) (b : Nat) (D : va_G) (z : Nat → Nat) {Φ : Option Value → qH → Nat → Prop} {nx : Nat} {h : qH} {a0 : Nat} : ∀ (n : Nat) (a2 : Int32) (e : Int32), q_lp (s_X7_endOfRow_15 h a0) n a2 = some e → (∀ (b2 : Int32), e = b2 → Go l b D z yX7_endOfRow cX7_endOfRow 3 (some .int) rm_X7_endOfRow Φ 76 [(2, .int b2)] [] h nx 0 0) → Go l b D z yX7_endOfRow cX7_endOfRow 3 (some .int) rm_X7_endOfRow Φ 15 [(0, .ref a0), (2, .int a2)] [] h nx 0 0 := by
  intro n
  induction n with
  | zero => intro a2 e he; cases (show none = some e from he)
  | succ n ih =>
    intro a2 e he hx0
    obtain ⟨o, ho, h1, h2⟩ := q_lp_succ he
    exact B_X7_endOfRow_15 l b D z (show b_X7_endOfRow_15 h a0 a2 = some o from ho) (fun b2 hb => ih _ e (h1 _ hb) hx0) (fun p0 hr => hx0 p0 (h2 _ hr).symm)
set_option maxRecDepth 100000 in
set_option maxHeartbeats 4000000 in
theorem M_X7_endOfRow (l : Launch) (b : Nat) (D : va_G) (z : Nat → Nat) (nx : Nat) {h : qH} {a0 : Nat} {a1 : Int32} {r : Int32} (hF : F_X7_endOfRow h a0 a1 = some r) : Me l b D z yX7_endOfRow cX7_endOfRow 3 (some .int) rm_X7_endOfRow [.ref a0, .int a1] h nx (qE (some (.int r)) h nx) := by
  refine Me.of (by decide +kernel) (Nat.le_of_ble_eq_true rfl) ?_
  show Go l b D z yX7_endOfRow cX7_endOfRow 3 (some .int) rm_X7_endOfRow (qE (some (.int r)) h nx) 0 [(0, .ref a0), (1, .int a1)] [] h nx 0 0
  unfold F_X7_endOfRow at hF
  refine g_iload_n 1 dX7_endOfRow_0 rfl ?_
  refine g_iconst dX7_endOfRow_1 lt_iconst_1 ?_
  refine g_iadd dX7_endOfRow_2 ?_
  refine g_istore_n [(2, .int (a1 + (1 : Int32))), (0, .ref a0), (1, .int a1)] dX7_endOfRow_3 (Nat.le_of_ble_eq_true rfl) rfl ?_
  refine g_aload_n 1 dX7_endOfRow_4 rfl ?_
  refine g_iload_n 2 dX7_endOfRow_5 rfl ?_
  obtain ⟨u1, e2, hF⟩ := q_bind hF
  obtain ⟨x3, e4, hF⟩ := q_bind hF
  refine g_callVr0 (ci := 9) (q := (RX9, TX9, 9)) qm_X9_byteAt wd_569 wd_570 wd_571 rfl e2 (M_X9_byteAt l b D z nx e4) (As := [.int a1]) rfl rfl (Nat.le_of_ble_eq_true rfl) ⟨(Nat.le_of_ble_eq_true rfl), (Nat.le_of_ble_eq_true rfl)⟩ ⟨rfl, rfl⟩ ⟨(Nat.le_of_ble_eq_true rfl), (Nat.le_of_ble_eq_true rfl)⟩ dX7_endOfRow_6 ?_
  obtain ⟨x5, e6, hF⟩ := q_bind hF
  refine g_callSr0 qm_X7_isLetter wd_576 wd_577 (M_X7_isLetter l b D z nx e6) (As := [.int x3]) rfl rfl (Nat.le_of_ble_eq_true rfl) ⟨(Nat.le_of_ble_eq_true rfl), (Nat.le_of_ble_eq_true rfl)⟩ ⟨rfl, rfl⟩ ⟨(Nat.le_of_ble_eq_true rfl), (Nat.le_of_ble_eq_true rfl)⟩ dX7_endOfRow_9 ?_
  refine g_if_eq 40 dX7_endOfRow_12 (by decide) (fun c7 => ?_) (fun c7 => ?_)
  · replace hF := q_t c7 hF
    refine g_aload_n 1 dX7_endOfRow_40 rfl ?_
    refine g_iload_n 2 dX7_endOfRow_41 rfl ?_
    obtain ⟨u8, e9, hF⟩ := q_bind hF
    obtain ⟨x10, e11, hF⟩ := q_bind hF
    refine g_callVr0 (ci := 9) (q := (RX9, TX9, 9)) qm_X9_byteAt wd_569 wd_570 wd_571 rfl e9 (M_X9_byteAt l b D z nx e11) (As := [.int a1]) rfl rfl (Nat.le_of_ble_eq_true rfl) ⟨(Nat.le_of_ble_eq_true rfl), (Nat.le_of_ble_eq_true rfl)⟩ ⟨rfl, rfl⟩ ⟨(Nat.le_of_ble_eq_true rfl), (Nat.le_of_ble_eq_true rfl)⟩ dX7_endOfRow_42 ?_
    obtain ⟨x12, e13, hF⟩ := q_bind hF
    refine g_callSr0 qm_X7_isDigit wd_579 wd_580 (M_X7_isDigit l b D z nx e13) (As := [.int x10]) rfl rfl (Nat.le_of_ble_eq_true rfl) ⟨(Nat.le_of_ble_eq_true rfl), (Nat.le_of_ble_eq_true rfl)⟩ ⟨rfl, rfl⟩ ⟨(Nat.le_of_ble_eq_true rfl), (Nat.le_of_ble_eq_true rfl)⟩ dX7_endOfRow_45 ?_
    refine g_if_eq 76 dX7_endOfRow_48 (by decide) (fun c14 => ?_) (fun c14 => ?_)
    · replace hF := q_t c14 hF
      refine g_iload_n 0 dX7_endOfRow_76 rfl ?_
      cases hF
      exact g_iret dX7_endOfRow_77 rfl ⟨rfl, rfl, rfl⟩ (Nat.le_of_ble_eq_true rfl) (Nat.le_of_ble_eq_true rfl)
    · replace hF := q_f c14 hF
      obtain ⟨e15, w16, hF⟩ := q_bind hF
      refine g_sub [1, 0] rfl ?_
      refine L_X7_endOfRow_51 l b D z q_N (a1 + (1 : Int32)) e15 w16 ?_
      · intro o17 w18
        replace w18 := w18.symm
        subst w18
        refine g_iload_n 0 dX7_endOfRow_76 rfl ?_
        cases hF
        exact g_iret dX7_endOfRow_77 rfl ⟨rfl, rfl, rfl⟩ (Nat.le_of_ble_eq_true rfl) (Nat.le_of_ble_eq_true rfl)
  · replace hF := q_f c7 hF
    obtain ⟨e20, w21, hF⟩ := q_bind hF
    refine g_sub [1, 0] rfl ?_
    refine L_X7_endOfRow_15 l b D z q_N (a1 + (1 : Int32)) e20 w21 ?_
    · intro o22 w23
      replace w23 := w23.symm
      subst w23
      refine g_iload_n 0 dX7_endOfRow_76 rfl ?_
      cases hF
      exact g_iret dX7_endOfRow_77 rfl ⟨rfl, rfl, rfl⟩ (Nat.le_of_ble_eq_true rfl) (Nat.le_of_ble_eq_true rfl)
def rm_X7_nameOf : Room := { frames := 0, cells := 0, slots := 0, locals := 0 }
set_option maxRecDepth 100000 in
set_option maxHeartbeats 4000000 in
theorem M_X7_nameOf (l : Launch) (b : Nat) (D : va_G) (z : Nat → Nat) (nx : Nat) {h : qH} {a0 : Int32} {r : Option Nat} (hF : F_X7_nameOf z h a0 = some r) : Me l b D z yX7_nameOf cX7_nameOf 1 (some (.object "java/lang/String")) rm_X7_nameOf [.int a0] h nx (qE (some (va_rf r)) h nx) := by
  refine Me.of (by decide +kernel) (Nat.le_of_ble_eq_true rfl) ?_
  show Go l b D z yX7_nameOf cX7_nameOf 1 (some (.object "java/lang/String")) rm_X7_nameOf (qE (some (va_rf r)) h nx) 0 [(0, .int a0)] [] h nx 0 0
  unfold F_X7_nameOf at hF
  refine g_iload_n 0 dX7_nameOf_0 rfl ?_
  by_cases c1 : a0 = 0
  · replace hF := q_t c1 hF
    refine g_tabIn (off := 87) 88 dX7_nameOf_1 (by rw [c1]; decide) (by rw [c1]; decide) (by rw [c1]; decide) (by decide) ?_
    refine g_ldcS (i := 0) rfl rfl dX7_nameOf_88 ?_
    cases hF
    exact g_aret dX7_nameOf_90 rfl (Or.inl ⟨_, rfl⟩) (Or.inr ⟨_, rfl⟩) ⟨rfl, rfl, rfl⟩ (Nat.le_of_ble_eq_true rfl) (Nat.le_of_ble_eq_true rfl)
  replace hF := q_f c1 hF
  by_cases c2 : a0 = 1
  · replace hF := q_t c2 hF
    refine g_tabIn (off := 90) 91 dX7_nameOf_1 (by rw [c2]; decide) (by rw [c2]; decide) (by rw [c2]; decide) (by decide) ?_
    refine g_ldcS (i := 1) rfl rfl dX7_nameOf_91 ?_
    cases hF
    exact g_aret dX7_nameOf_93 rfl (Or.inl ⟨_, rfl⟩) (Or.inr ⟨_, rfl⟩) ⟨rfl, rfl, rfl⟩ (Nat.le_of_ble_eq_true rfl) (Nat.le_of_ble_eq_true rfl)
  replace hF := q_f c2 hF
  by_cases c3 : a0 = 2
  · replace hF := q_t c3 hF
    refine g_tabIn (off := 93) 94 dX7_nameOf_1 (by rw [c3]; decide) (by rw [c3]; decide) (by rw [c3]; decide) (by decide) ?_
    refine g_ldcS (i := 2) rfl rfl dX7_nameOf_94 ?_
    cases hF
    exact g_aret dX7_nameOf_96 rfl (Or.inl ⟨_, rfl⟩) (Or.inr ⟨_, rfl⟩) ⟨rfl, rfl, rfl⟩ (Nat.le_of_ble_eq_true rfl) (Nat.le_of_ble_eq_true rfl)
  replace hF := q_f c3 hF
  by_cases c4 : a0 = 3
  · replace hF := q_t c4 hF
    refine g_tabIn (off := 96) 97 dX7_nameOf_1 (by rw [c4]; decide) (by rw [c4]; decide) (by rw [c4]; decide) (by decide) ?_
    refine g_ldcS (i := 3) rfl rfl dX7_nameOf_97 ?_
    cases hF
    exact g_aret dX7_nameOf_99 rfl (Or.inl ⟨_, rfl⟩) (Or.inr ⟨_, rfl⟩) ⟨rfl, rfl, rfl⟩ (Nat.le_of_ble_eq_true rfl) (Nat.le_of_ble_eq_true rfl)
  replace hF := q_f c4 hF
  by_cases c5 : a0 = 4
  · replace hF := q_t c5 hF
    refine g_tabIn (off := 99) 100 dX7_nameOf_1 (by rw [c5]; decide) (by rw [c5]; decide) (by rw [c5]; decide) (by decide) ?_
    refine g_ldcS (i := 4) rfl rfl dX7_nameOf_100 ?_
    cases hF
    exact g_aret dX7_nameOf_102 rfl (Or.inl ⟨_, rfl⟩) (Or.inr ⟨_, rfl⟩) ⟨rfl, rfl, rfl⟩ (Nat.le_of_ble_eq_true rfl) (Nat.le_of_ble_eq_true rfl)
  replace hF := q_f c5 hF
  by_cases c6 : a0 = 5
  · replace hF := q_t c6 hF
    refine g_tabIn (off := 102) 103 dX7_nameOf_1 (by rw [c6]; decide) (by rw [c6]; decide) (by rw [c6]; decide) (by decide) ?_
    refine g_ldcS (i := 5) rfl rfl dX7_nameOf_103 ?_
    cases hF
    exact g_aret dX7_nameOf_105 rfl (Or.inl ⟨_, rfl⟩) (Or.inr ⟨_, rfl⟩) ⟨rfl, rfl, rfl⟩ (Nat.le_of_ble_eq_true rfl) (Nat.le_of_ble_eq_true rfl)
  replace hF := q_f c6 hF
  by_cases c7 : a0 = 6
  · replace hF := q_t c7 hF
    refine g_tabIn (off := 105) 106 dX7_nameOf_1 (by rw [c7]; decide) (by rw [c7]; decide) (by rw [c7]; decide) (by decide) ?_
    refine g_ldcS (i := 6) rfl rfl dX7_nameOf_106 ?_
    cases hF
    exact g_aret dX7_nameOf_108 rfl (Or.inl ⟨_, rfl⟩) (Or.inr ⟨_, rfl⟩) ⟨rfl, rfl, rfl⟩ (Nat.le_of_ble_eq_true rfl) (Nat.le_of_ble_eq_true rfl)
  replace hF := q_f c7 hF
  by_cases c8 : a0 = 7
  · replace hF := q_t c8 hF
    refine g_tabIn (off := 108) 109 dX7_nameOf_1 (by rw [c8]; decide) (by rw [c8]; decide) (by rw [c8]; decide) (by decide) ?_
    refine g_ldcS (i := 7) rfl rfl dX7_nameOf_109 ?_
    cases hF
    exact g_aret dX7_nameOf_111 rfl (Or.inl ⟨_, rfl⟩) (Or.inr ⟨_, rfl⟩) ⟨rfl, rfl, rfl⟩ (Nat.le_of_ble_eq_true rfl) (Nat.le_of_ble_eq_true rfl)
  replace hF := q_f c8 hF
  by_cases c9 : a0 = 8
  · replace hF := q_t c9 hF
    refine g_tabIn (off := 111) 112 dX7_nameOf_1 (by rw [c9]; decide) (by rw [c9]; decide) (by rw [c9]; decide) (by decide) ?_
    refine g_ldcS (i := 8) rfl rfl dX7_nameOf_112 ?_
    cases hF
    exact g_aret dX7_nameOf_114 rfl (Or.inl ⟨_, rfl⟩) (Or.inr ⟨_, rfl⟩) ⟨rfl, rfl, rfl⟩ (Nat.le_of_ble_eq_true rfl) (Nat.le_of_ble_eq_true rfl)
  replace hF := q_f c9 hF
  by_cases c10 : a0 = 9
  · replace hF := q_t c10 hF
    refine g_tabIn (off := 114) 115 dX7_nameOf_1 (by rw [c10]; decide) (by rw [c10]; decide) (by rw [c10]; decide) (by decide) ?_
    refine g_ldcS (i := 1) rfl rfl dX7_nameOf_115 ?_
    cases hF
    exact g_aret dX7_nameOf_117 rfl (Or.inl ⟨_, rfl⟩) (Or.inr ⟨_, rfl⟩) ⟨rfl, rfl, rfl⟩ (Nat.le_of_ble_eq_true rfl) (Nat.le_of_ble_eq_true rfl)
  replace hF := q_f c10 hF
  by_cases c11 : a0 = 10
  · replace hF := q_t c11 hF
    refine g_tabIn (off := 117) 118 dX7_nameOf_1 (by rw [c11]; decide) (by rw [c11]; decide) (by rw [c11]; decide) (by decide) ?_
    refine g_ldcS (i := 9) rfl rfl dX7_nameOf_118 ?_
    cases hF
    exact g_aret dX7_nameOf_120 rfl (Or.inl ⟨_, rfl⟩) (Or.inr ⟨_, rfl⟩) ⟨rfl, rfl, rfl⟩ (Nat.le_of_ble_eq_true rfl) (Nat.le_of_ble_eq_true rfl)
  replace hF := q_f c11 hF
  by_cases c12 : a0 = 11
  · replace hF := q_t c12 hF
    refine g_tabIn (off := 120) 121 dX7_nameOf_1 (by rw [c12]; decide) (by rw [c12]; decide) (by rw [c12]; decide) (by decide) ?_
    refine g_ldcS (i := 10) rfl rfl dX7_nameOf_121 ?_
    cases hF
    exact g_aret dX7_nameOf_123 rfl (Or.inl ⟨_, rfl⟩) (Or.inr ⟨_, rfl⟩) ⟨rfl, rfl, rfl⟩ (Nat.le_of_ble_eq_true rfl) (Nat.le_of_ble_eq_true rfl)
  replace hF := q_f c12 hF
  by_cases c13 : a0 = 12
  · replace hF := q_t c13 hF
    refine g_tabIn (off := 123) 124 dX7_nameOf_1 (by rw [c13]; decide) (by rw [c13]; decide) (by rw [c13]; decide) (by decide) ?_
    refine g_ldcS (i := 11) rfl rfl dX7_nameOf_124 ?_
    cases hF
    exact g_aret dX7_nameOf_126 rfl (Or.inl ⟨_, rfl⟩) (Or.inr ⟨_, rfl⟩) ⟨rfl, rfl, rfl⟩ (Nat.le_of_ble_eq_true rfl) (Nat.le_of_ble_eq_true rfl)
  replace hF := q_f c13 hF
  by_cases c14 : a0 = 13
  · replace hF := q_t c14 hF
    refine g_tabIn (off := 126) 127 dX7_nameOf_1 (by rw [c14]; decide) (by rw [c14]; decide) (by rw [c14]; decide) (by decide) ?_
    refine g_ldcS (i := 12) rfl rfl dX7_nameOf_127 ?_
    cases hF
    exact g_aret dX7_nameOf_129 rfl (Or.inl ⟨_, rfl⟩) (Or.inr ⟨_, rfl⟩) ⟨rfl, rfl, rfl⟩ (Nat.le_of_ble_eq_true rfl) (Nat.le_of_ble_eq_true rfl)
  replace hF := q_f c14 hF
  by_cases c15 : a0 = 14
  · replace hF := q_t c15 hF
    refine g_tabIn (off := 129) 130 dX7_nameOf_1 (by rw [c15]; decide) (by rw [c15]; decide) (by rw [c15]; decide) (by decide) ?_
    refine g_ldcS (i := 13) rfl rfl dX7_nameOf_130 ?_
    cases hF
    exact g_aret dX7_nameOf_132 rfl (Or.inl ⟨_, rfl⟩) (Or.inr ⟨_, rfl⟩) ⟨rfl, rfl, rfl⟩ (Nat.le_of_ble_eq_true rfl) (Nat.le_of_ble_eq_true rfl)
  replace hF := q_f c15 hF
  by_cases c16 : a0 = 15
  · replace hF := q_t c16 hF
    refine g_tabIn (off := 132) 133 dX7_nameOf_1 (by rw [c16]; decide) (by rw [c16]; decide) (by rw [c16]; decide) (by decide) ?_
    refine g_ldcS (i := 14) rfl rfl dX7_nameOf_133 ?_
    cases hF
    exact g_aret dX7_nameOf_135 rfl (Or.inl ⟨_, rfl⟩) (Or.inr ⟨_, rfl⟩) ⟨rfl, rfl, rfl⟩ (Nat.le_of_ble_eq_true rfl) (Nat.le_of_ble_eq_true rfl)
  replace hF := q_f c16 hF
  by_cases c17 : a0 = 16
  · replace hF := q_t c17 hF
    refine g_tabIn (off := 135) 136 dX7_nameOf_1 (by rw [c17]; decide) (by rw [c17]; decide) (by rw [c17]; decide) (by decide) ?_
    refine g_ldcS (i := 15) rfl rfl dX7_nameOf_136 ?_
    cases hF
    exact g_aret dX7_nameOf_138 rfl (Or.inl ⟨_, rfl⟩) (Or.inr ⟨_, rfl⟩) ⟨rfl, rfl, rfl⟩ (Nat.le_of_ble_eq_true rfl) (Nat.le_of_ble_eq_true rfl)
  replace hF := q_f c17 hF
  by_cases c18 : a0 = 17
  · replace hF := q_t c18 hF
    refine g_tabIn (off := 138) 139 dX7_nameOf_1 (by rw [c18]; decide) (by rw [c18]; decide) (by rw [c18]; decide) (by decide) ?_
    refine g_ldcS (i := 16) rfl rfl dX7_nameOf_139 ?_
    cases hF
    exact g_aret dX7_nameOf_141 rfl (Or.inl ⟨_, rfl⟩) (Or.inr ⟨_, rfl⟩) ⟨rfl, rfl, rfl⟩ (Nat.le_of_ble_eq_true rfl) (Nat.le_of_ble_eq_true rfl)
  replace hF := q_f c18 hF
  refine g_tabOut 142 dX7_nameOf_1 ?_ (by decide) ?_
  · have t0 := lv_neT (a := 0) c1 (by decide); have t1 := lv_neT (a := 1) c2 (by decide); have t2 := lv_neT (a := 2) c3 (by decide); have t3 := lv_neT (a := 3) c4 (by decide); have t4 := lv_neT (a := 4) c5 (by decide); have t5 := lv_neT (a := 5) c6 (by decide); have t6 := lv_neT (a := 6) c7 (by decide); have t7 := lv_neT (a := 7) c8 (by decide); have t8 := lv_neT (a := 8) c9 (by decide); have t9 := lv_neT (a := 9) c10 (by decide); have t10 := lv_neT (a := 10) c11 (by decide); have t11 := lv_neT (a := 11) c12 (by decide); have t12 := lv_neT (a := 12) c13 (by decide); have t13 := lv_neT (a := 13) c14 (by decide); have t14 := lv_neT (a := 14) c15 (by decide); have t15 := lv_neT (a := 15) c16 (by decide); have t16 := lv_neT (a := 16) c17 (by decide); have t17 := lv_neT (a := 17) c18 (by decide); omega
  refine g_ldcS (i := 17) rfl rfl dX7_nameOf_142 ?_
  cases hF
  exact g_aret dX7_nameOf_144 rfl (Or.inl ⟨_, rfl⟩) (Or.inr ⟨_, rfl⟩) ⟨rfl, rfl, rfl⟩ (Nat.le_of_ble_eq_true rfl) (Nat.le_of_ble_eq_true rfl)
def rm_X7_isName : Room := { frames := 4, cells := 0, slots := 0, locals := 111 }
set_option maxRecDepth 100000 in
set_option maxHeartbeats 4000000 in
theorem B_X7_isName_15 (l : Launch) (b : Nat) (D : va_G) (z : Nat → Nat) {Φ : Option Value → qH → Nat → Prop} {nx : Nat} {h : qH} {a0 : Nat} {a1 : Int32} {a3 : Nat} {a4 : Int32} {o : Int32 ⊕ (Unit ⊕ Unit)} (hF : b_X7_isName_15 h a0 a1 a3 a4 = some o) (hback : ∀ (b4 : Int32), o = .inl b4 → Go l b D z yX7_isName cX7_isName 5 (some .boolean) rm_X7_isName Φ 15 [(0, .ref a0), (1, .int a1), (3, .ref a3), (4, .int b4)] [] h nx 0 0) (hx0 : o = .inr (.inl ()) → Go l b D z yX7_isName cX7_isName 5 (some .boolean) rm_X7_isName Φ 41 [] [] h nx 0 0) (hx1 : o = .inr (.inr ()) → Go l b D z yX7_isName cX7_isName 5 (some .boolean) rm_X7_isName Φ 49 [] [] h nx 0 0) : Go l b D z yX7_isName cX7_isName 5 (some .boolean) rm_X7_isName Φ 15 [(0, .ref a0), (1, .int a1), (3, .ref a3), (4, .int a4)] [] h nx 0 0 := by
  unfold b_X7_isName_15 at hF
  refine g_iload 3 dX7_isName_15 rfl ?_
  refine g_aload_n 2 dX7_isName_17 rfl ?_
  obtain ⟨x1, e2, hF⟩ := q_bind hF
  obtain ⟨q3, e4, -⟩ := q_sl_spec e2
  refine g_callT qm_J0_length_8abf5 wd_615 wd_616 wd_617 e4 (M_J0_length_8abf5 l b D z nx e2) (As := []) rfl rfl (Nat.le_of_ble_eq_true rfl) ⟨(Nat.le_of_ble_eq_true rfl), (Nat.le_of_ble_eq_true rfl)⟩ ⟨rfl, rfl⟩ ⟨(Nat.le_of_ble_eq_true rfl), (Nat.le_of_ble_eq_true rfl)⟩ dX7_isName_18 ?_
  refine g_icmp_ge 49 dX7_isName_21 (by decide) (fun c5 => ?_) (fun c5 => ?_)
  · replace hF := q_t c5 hF
    cases hF
    refine g_sub [] rfl ?_
    exact hx1  rfl
  · replace hF := q_f c5 hF
    refine g_aload_n 0 dX7_isName_24 rfl ?_
    refine g_iload_n 1 dX7_isName_25 rfl ?_
    refine g_iload 3 dX7_isName_26 rfl ?_
    refine g_iadd dX7_isName_28 ?_
    obtain ⟨u6, e7, hF⟩ := q_bind hF
    obtain ⟨x8, e9, hF⟩ := q_bind hF
    refine g_callVr0 (ci := 9) (q := (RX9, TX9, 9)) qm_X9_byteAt wd_569 wd_570 wd_571 rfl e7 (M_X9_byteAt l b D z nx e9) (As := [.int (a1 + a4)]) rfl rfl (Nat.le_of_ble_eq_true rfl) ⟨(Nat.le_of_ble_eq_true rfl), (Nat.le_of_ble_eq_true rfl)⟩ ⟨rfl, rfl⟩ ⟨(Nat.le_of_ble_eq_true rfl), (Nat.le_of_ble_eq_true rfl)⟩ dX7_isName_29 ?_
    refine g_aload_n 2 dX7_isName_32 rfl ?_
    refine g_iload 3 dX7_isName_33 rfl ?_
    obtain ⟨x10, e11, hF⟩ := q_bind hF
    obtain ⟨q12, e13, -⟩ := q_sc_spec e11
    refine g_callT qm_J0_charAt_5068e wd_625 wd_626 wd_627 e13 (M_J0_charAt_5068e l b D z nx e11) (As := [.int a4]) rfl rfl (Nat.le_of_ble_eq_true rfl) ⟨(Nat.le_of_ble_eq_true rfl), (Nat.le_of_ble_eq_true rfl)⟩ ⟨rfl, rfl⟩ ⟨(Nat.le_of_ble_eq_true rfl), (Nat.le_of_ble_eq_true rfl)⟩ dX7_isName_35 ?_
    refine g_icmp_eq 43 dX7_isName_38 (by decide) (fun c14 => ?_) (fun c14 => ?_)
    · replace hF := q_t c14 hF
      refine g_iinc [(4, .int (a4 + 1)), (0, .ref a0), (1, .int a1), (3, .ref a3)] 3 dX7_isName_43 rfl (congrArg (a4 + ·) lt_iconst_1) (Nat.le_of_ble_eq_true rfl) rfl ?_
      refine g_goto 15 dX7_isName_46 (by decide) ?_
      cases hF
      refine g_sub [1, 2, 3, 0] rfl ?_
      exact hback _ rfl
    · replace hF := q_f c14 hF
      cases hF
      refine g_sub [] rfl ?_
      exact hx0  rfl
set_option maxRecDepth 100000 in
set_option maxHeartbeats 4000000 in
theorem L_X7_isName_15 (l : Launch) (b : Nat) (D : va_G) (z : Nat → Nat) {Φ : Option Value → qH → Nat → Prop} {nx : Nat} {h : qH} {a0 : Nat} {a1 : Int32} {a3 : Nat} : ∀ (n : Nat) (a4 : Int32) (e : Unit ⊕ Unit), q_lp (s_X7_isName_15 h a0 a1 a3) n a4 = some e → (e = (.inl ()) → Go l b D z yX7_isName cX7_isName 5 (some .boolean) rm_X7_isName Φ 41 [] [] h nx 0 0) → (e = (.inr ()) → Go l b D z yX7_isName cX7_isName 5 (some .boolean) rm_X7_isName Φ 49 [] [] h nx 0 0) → Go l b D z yX7_isName cX7_isName 5 (some .boolean) rm_X7_isName Φ 15 [(0, .ref a0), (1, .int a1), (3, .ref a3), (4, .int a4)] [] h nx 0 0 := by
  intro n
  induction n with
  | zero => intro a4 e he; cases (show none = some e from he)
  | succ n ih =>
    intro a4 e he hx0 hx1
    obtain ⟨o, ho, h1, h2⟩ := q_lp_succ he
    exact B_X7_isName_15 l b D z (show b_X7_isName_15 h a0 a1 a3 a4 = some o from ho) (fun b4 hb => ih _ e (h1 _ hb) hx0 hx1) (fun  hr => hx0  (h2 _ hr).symm) (fun  hr => hx1  (h2 _ hr).symm)
set_option maxRecDepth 100000 in
set_option maxHeartbeats 4000000 in
theorem M_X7_isName (l : Launch) (b : Nat) (D : va_G) (z : Nat → Nat) (nx : Nat) {h : qH} {a0 : Nat} {a1 : Int32} {a2 : Int32} {a3 : Nat} {r : Int32} (hF : F_X7_isName h a0 a1 a2 a3 = some r) : Me l b D z yX7_isName cX7_isName 5 (some .boolean) rm_X7_isName [.ref a0, .int a1, .int a2, .ref a3] h nx (qE (some (.int r)) h nx) := by
  refine Me.of (by decide +kernel) (Nat.le_of_ble_eq_true rfl) ?_
  show Go l b D z yX7_isName cX7_isName 5 (some .boolean) rm_X7_isName (qE (some (.int r)) h nx) 0 [(0, .ref a0), (1, .int a1), (2, .int a2), (3, .ref a3)] [] h nx 0 0
  unfold F_X7_isName at hF
  refine g_aload_n 3 dX7_isName_0 rfl ?_
  obtain ⟨x1, e2, hF⟩ := q_bind hF
  obtain ⟨q3, e4, -⟩ := q_sl_spec e2
  refine g_callT qm_J0_length_8abf5 wd_615 wd_616 wd_617 e4 (M_J0_length_8abf5 l b D z nx e2) (As := []) rfl rfl (Nat.le_of_ble_eq_true rfl) ⟨(Nat.le_of_ble_eq_true rfl), (Nat.le_of_ble_eq_true rfl)⟩ ⟨rfl, rfl⟩ ⟨(Nat.le_of_ble_eq_true rfl), (Nat.le_of_ble_eq_true rfl)⟩ dX7_isName_1 ?_
  refine g_iload_n 2 dX7_isName_4 rfl ?_
  refine g_iload_n 1 dX7_isName_5 rfl ?_
  refine g_isub dX7_isName_6 ?_
  refine g_icmp_eq 12 dX7_isName_7 (by decide) (fun c5 => ?_) (fun c5 => ?_)
  · replace hF := q_t c5 hF
    refine g_iconst dX7_isName_12 lt_iconst_0 ?_
    refine g_istore [(4, .int (0 : Int32)), (0, .ref a0), (1, .int a1), (2, .int a2), (3, .ref a3)] dX7_isName_13 (Nat.le_of_ble_eq_true rfl) rfl ?_
    obtain ⟨e6, w7, hF⟩ := q_bind hF
    refine g_sub [1, 2, 4, 0] rfl ?_
    refine L_X7_isName_15 l b D z q_N (0 : Int32) e6 w7 ?_ ?_
    · intro  w8
      replace w8 := w8.symm
      subst w8
      replace hF := q_sl hF
      refine g_iconst dX7_isName_41 lt_iconst_0 ?_
      cases hF
      exact g_zret dX7_isName_42 rfl zn_0 ⟨rfl, rfl, rfl⟩ (Nat.le_of_ble_eq_true rfl) (Nat.le_of_ble_eq_true rfl)
    · intro  w10
      replace w10 := w10.symm
      subst w10
      replace hF := q_sr hF
      refine g_iconst dX7_isName_49 lt_iconst_1 ?_
      cases hF
      exact g_zret dX7_isName_50 rfl zn_1 ⟨rfl, rfl, rfl⟩ (Nat.le_of_ble_eq_true rfl) (Nat.le_of_ble_eq_true rfl)
  · replace hF := q_f c5 hF
    refine g_iconst dX7_isName_10 lt_iconst_0 ?_
    cases hF
    exact g_zret dX7_isName_11 rfl zn_0 ⟨rfl, rfl, rfl⟩ (Nat.le_of_ble_eq_true rfl) (Nat.le_of_ble_eq_true rfl)
def rm_X7_wordOf : Room := { frames := 5, cells := 0, slots := 0, locals := 135 }
set_option maxRecDepth 100000 in
set_option maxHeartbeats 4000000 in
theorem B_X7_wordOf_18 (l : Launch) (b : Nat) (D : va_G) (z : Nat → Nat) {Φ : Option Value → qH → Nat → Prop} {nx : Nat} {h : qH} {a0 : Nat} {a1 : Int32} {a2 : Int32} {a3 : Int32} {a4 : Int32} {o : Int32 ⊕ (Int32 ⊕ Unit)} (hF : b_X7_wordOf_18 z h a0 a1 a2 a3 a4 = some o) (hback : ∀ (b4 : Int32), o = .inl b4 → Go l b D z yX7_wordOf cX7_wordOf 5 (some .int) rm_X7_wordOf Φ 18 [(0, .ref a0), (1, .int a1), (2, .int a2), (3, .int a3), (4, .int b4)] [] h nx 0 0) (hx0 : ∀ (b4 : Int32), o = .inr (.inl b4) → Go l b D z yX7_wordOf cX7_wordOf 5 (some .int) rm_X7_wordOf Φ 44 [(4, .int b4)] [] h nx 0 0) (hx1 : o = .inr (.inr ()) → Go l b D z yX7_wordOf cX7_wordOf 5 (some .int) rm_X7_wordOf Φ 53 [] [] h nx 0 0) : Go l b D z yX7_wordOf cX7_wordOf 5 (some .int) rm_X7_wordOf Φ 18 [(0, .ref a0), (1, .int a1), (2, .int a2), (3, .int a3), (4, .int a4)] [] h nx 0 0 := by
  unfold b_X7_wordOf_18 at hF
  refine g_iload 4 dX7_wordOf_18 rfl ?_
  refine g_gets (i := 0) rfl wd_589 dX7_wordOf_20 ?_
  refine g_iload_n 1 dX7_wordOf_23 rfl ?_
  refine g_iconst dX7_wordOf_24 lt_iconst_1 ?_
  refine g_iadd dX7_wordOf_25 ?_
  obtain ⟨x1, e2, hF⟩ := q_bind hF
  refine g_ist (i := 0) rfl e2 dX7_wordOf_26 ?_
  refine g_icmp_ge 53 dX7_wordOf_27 (by decide) (fun c3 => ?_) (fun c3 => ?_)
  · replace hF := q_t c3 hF
    cases hF
    refine g_sub [] rfl ?_
    exact hx1  rfl
  · replace hF := q_f c3 hF
    refine g_aload_n 0 dX7_wordOf_30 rfl ?_
    refine g_iload_n 2 dX7_wordOf_31 rfl ?_
    refine g_iload_n 3 dX7_wordOf_32 rfl ?_
    refine g_iload 4 dX7_wordOf_33 rfl ?_
    obtain ⟨x4, e5, hF⟩ := q_bind hF
    refine g_callSr0 qm_X7_nameOf wd_591 wd_592 (M_X7_nameOf l b D z nx e5) (As := [.int a4]) rfl rfl (Nat.le_of_ble_eq_true rfl) ⟨(Nat.le_of_ble_eq_true rfl), (Nat.le_of_ble_eq_true rfl)⟩ ⟨rfl, rfl⟩ ⟨(Nat.le_of_ble_eq_true rfl), (Nat.le_of_ble_eq_true rfl)⟩ dX7_wordOf_35 ?_
    rcases x4 with _ | x7
    · replace hF := q_en hF
      cases hF
    · replace hF := q_es hF
      obtain ⟨x8, e9, hF⟩ := q_bind hF
      refine g_callSr0 qm_X7_isName wd_612 wd_613 (M_X7_isName l b D z nx e9) (As := [.ref a0, .int a2, .int a3, .ref x7]) rfl rfl (Nat.le_of_ble_eq_true rfl) ⟨(Nat.le_of_ble_eq_true rfl), (Nat.le_of_ble_eq_true rfl)⟩ ⟨rfl, rfl⟩ ⟨(Nat.le_of_ble_eq_true rfl), (Nat.le_of_ble_eq_true rfl)⟩ dX7_wordOf_38 ?_
      refine g_if_eq 47 dX7_wordOf_41 (by decide) (fun c10 => ?_) (fun c10 => ?_)
      · replace hF := q_t c10 hF
        refine g_iinc [(4, .int (a4 + 1)), (0, .ref a0), (1, .int a1), (2, .int a2), (3, .int a3)] 4 dX7_wordOf_47 rfl (congrArg (a4 + ·) lt_iconst_1) (Nat.le_of_ble_eq_true rfl) rfl ?_
        refine g_goto 18 dX7_wordOf_50 (by decide) ?_
        cases hF
        refine g_sub [1, 2, 3, 4, 0] rfl ?_
        exact hback _ rfl
      · replace hF := q_f c10 hF
        cases hF
        refine g_sub [4] rfl ?_
        exact hx0 _ rfl
set_option maxRecDepth 100000 in
set_option maxHeartbeats 4000000 in
theorem L_X7_wordOf_18 (l : Launch) (b : Nat) (D : va_G) (z : Nat → Nat) {Φ : Option Value → qH → Nat → Prop} {nx : Nat} {h : qH} {a0 : Nat} {a1 : Int32} {a2 : Int32} {a3 : Int32} : ∀ (n : Nat) (a4 : Int32) (e : Int32 ⊕ Unit), q_lp (s_X7_wordOf_18 z h a0 a1 a2 a3) n a4 = some e → (∀ (b4 : Int32), e = (.inl b4) → Go l b D z yX7_wordOf cX7_wordOf 5 (some .int) rm_X7_wordOf Φ 44 [(4, .int b4)] [] h nx 0 0) → (e = (.inr ()) → Go l b D z yX7_wordOf cX7_wordOf 5 (some .int) rm_X7_wordOf Φ 53 [] [] h nx 0 0) → Go l b D z yX7_wordOf cX7_wordOf 5 (some .int) rm_X7_wordOf Φ 18 [(0, .ref a0), (1, .int a1), (2, .int a2), (3, .int a3), (4, .int a4)] [] h nx 0 0 := by
  intro n
  induction n with
  | zero => intro a4 e he; cases (show none = some e from he)
  | succ n ih =>
    intro a4 e he hx0 hx1
    obtain ⟨o, ho, h1, h2⟩ := q_lp_succ he
    exact B_X7_wordOf_18 l b D z (show b_X7_wordOf_18 z h a0 a1 a2 a3 a4 = some o from ho) (fun b4 hb => ih _ e (h1 _ hb) hx0 hx1) (fun p0 hr => hx0 p0 (h2 _ hr).symm) (fun  hr => hx1  (h2 _ hr).symm)
set_option maxRecDepth 100000 in
set_option maxHeartbeats 4000000 in
theorem M_X7_wordOf (l : Launch) (b : Nat) (D : va_G) (z : Nat → Nat) (nx : Nat) {h : qH} {a0 : Nat} {a1 : Int32} {a2 : Int32} {a3 : Int32} {r : Int32} (hF : F_X7_wordOf z h a0 a1 a2 a3 = some r) : Me l b D z yX7_wordOf cX7_wordOf 5 (some .int) rm_X7_wordOf [.ref a0, .int a1, .int a2, .int a3] h nx (qE (some (.int r)) h nx) := by
  refine Me.of (by decide +kernel) (Nat.le_of_ble_eq_true rfl) ?_
  show Go l b D z yX7_wordOf cX7_wordOf 5 (some .int) rm_X7_wordOf (qE (some (.int r)) h nx) 0 [(0, .ref a0), (1, .int a1), (2, .int a2), (3, .int a3)] [] h nx 0 0
  unfold F_X7_wordOf at hF
  refine g_iload_n 1 dX7_wordOf_0 rfl ?_
  refine g_if_lt 9 dX7_wordOf_1 (by decide) (fun c1 => ?_) (fun c1 => ?_)
  · replace hF := q_t c1 hF
    refine g_iconst dX7_wordOf_9 lt_iconst_m1 ?_
    cases hF
    exact g_iret dX7_wordOf_10 rfl ⟨rfl, rfl, rfl⟩ (Nat.le_of_ble_eq_true rfl) (Nat.le_of_ble_eq_true rfl)
  · replace hF := q_f c1 hF
    refine g_iload_n 1 dX7_wordOf_4 rfl ?_
    refine g_iconst dX7_wordOf_5 lt_iconst_4 ?_
    refine g_icmp_lt 11 dX7_wordOf_6 (by decide) (fun c2 => ?_) (fun c2 => ?_)
    · replace hF := q_t c2 hF
      refine g_gets (i := 0) rfl wd_589 dX7_wordOf_11 ?_
      refine g_iload_n 1 dX7_wordOf_14 rfl ?_
      obtain ⟨x3, e4, hF⟩ := q_bind hF
      refine g_ist (i := 0) rfl e4 dX7_wordOf_15 ?_
      refine g_istore [(4, .int x3), (0, .ref a0), (1, .int a1), (2, .int a2), (3, .int a3)] dX7_wordOf_16 (Nat.le_of_ble_eq_true rfl) rfl ?_
      obtain ⟨e5, w6, hF⟩ := q_bind hF
      refine g_sub [1, 2, 3, 4, 0] rfl ?_
      refine L_X7_wordOf_18 l b D z q_N x3 e5 w6 ?_ ?_
      · intro o7 w8
        replace w8 := w8.symm
        subst w8
        replace hF := q_sl hF
        refine g_iload 0 dX7_wordOf_44 rfl ?_
        cases hF
        exact g_iret dX7_wordOf_46 rfl ⟨rfl, rfl, rfl⟩ (Nat.le_of_ble_eq_true rfl) (Nat.le_of_ble_eq_true rfl)
      · intro  w10
        replace w10 := w10.symm
        subst w10
        replace hF := q_sr hF
        refine g_iconst dX7_wordOf_53 lt_iconst_m1 ?_
        cases hF
        exact g_iret dX7_wordOf_54 rfl ⟨rfl, rfl, rfl⟩ (Nat.le_of_ble_eq_true rfl) (Nat.le_of_ble_eq_true rfl)
    · replace hF := q_f c2 hF
      refine g_iconst dX7_wordOf_9 lt_iconst_m1 ?_
      cases hF
      exact g_iret dX7_wordOf_10 rfl ⟨rfl, rfl, rfl⟩ (Nat.le_of_ble_eq_true rfl) (Nat.le_of_ble_eq_true rfl)
def rm_X7_put : Room := { frames := 0, cells := 0, slots := 0, locals := 0 }
set_option maxRecDepth 100000 in
set_option maxHeartbeats 4000000 in
theorem M_X7_put (l : Launch) (b : Nat) (D : va_G) (z : Nat → Nat) (nx : Nat) {h : qH} {a0 : Nat} {a1 : Int32} {a2 : Int32} {a3 : Int32} {r : qH} (hF : F_X7_put h a0 a1 a2 a3 = some r) : Me l b D z yX7_put cX7_put 4 none rm_X7_put [.ref a0, .int a1, .int a2, .int a3] h nx (qE none r nx) := by
  refine Me.of (by decide +kernel) (Nat.le_of_ble_eq_true rfl) ?_
  show Go l b D z yX7_put cX7_put 4 none rm_X7_put (qE none r nx) 0 [(0, .ref a0), (1, .int a1), (2, .int a2), (3, .int a3)] [] h nx 0 0
  unfold F_X7_put at hF
  refine g_aload_n 0 dX7_put_0 rfl ?_
  obtain ⟨x1, e2, hF⟩ := q_bind hF
  refine g_getfI fl_X7_124 e2 dX7_put_1 ?_
  refine g_aload_n 0 dX7_put_4 rfl ?_
  obtain ⟨x3, e4, hF⟩ := q_bind hF
  refine g_getfR fl_X7_11 e4 dX7_put_5 ?_
  obtain ⟨x5, e6, hF⟩ := q_bind hF
  refine g_alen e6 dX7_put_8 ?_
  refine g_icmp_ge 52 dX7_put_9 (by decide) (fun c7 => ?_) (fun c7 => ?_)
  · replace hF := q_t c7 hF
    cases hF
    exact g_vret dX7_put_52 rfl ⟨rfl, rfl, rfl⟩ (Nat.le_of_ble_eq_true rfl) (Nat.le_of_ble_eq_true rfl)
  · replace hF := q_f c7 hF
    refine g_aload_n 0 dX7_put_12 rfl ?_
    obtain ⟨x8, e9, hF⟩ := q_bind hF
    refine g_getfR fl_X7_11 e9 dX7_put_13 ?_
    refine g_aload_n 0 dX7_put_16 rfl ?_
    obtain ⟨x10, e11, hF⟩ := q_bind hF
    refine g_getfI fl_X7_124 e11 dX7_put_17 ?_
    refine g_iload_n 1 dX7_put_20 rfl ?_
    obtain ⟨h12, e13, hF⟩ := q_bind hF
    refine g_iast e13 dX7_put_21 ?_
    refine g_aload_n 0 dX7_put_22 rfl ?_
    obtain ⟨x14, e15, hF⟩ := q_bind hF
    refine g_getfR fl_X7_17 e15 dX7_put_23 ?_
    refine g_aload_n 0 dX7_put_26 rfl ?_
    obtain ⟨x16, e17, hF⟩ := q_bind hF
    refine g_getfI fl_X7_124 e17 dX7_put_27 ?_
    refine g_iload_n 2 dX7_put_30 rfl ?_
    obtain ⟨h18, e19, hF⟩ := q_bind hF
    refine g_iast e19 dX7_put_31 ?_
    refine g_aload_n 0 dX7_put_32 rfl ?_
    obtain ⟨x20, e21, hF⟩ := q_bind hF
    refine g_getfR fl_X7_20 e21 dX7_put_33 ?_
    refine g_aload_n 0 dX7_put_36 rfl ?_
    obtain ⟨x22, e23, hF⟩ := q_bind hF
    refine g_getfI fl_X7_124 e23 dX7_put_37 ?_
    refine g_iload_n 3 dX7_put_40 rfl ?_
    obtain ⟨h24, e25, hF⟩ := q_bind hF
    refine g_iast e25 dX7_put_41 ?_
    refine g_aload_n 0 dX7_put_42 rfl ?_
    refine g_dup dX7_put_43 rfl ?_
    obtain ⟨x26, e27, hF⟩ := q_bind hF
    refine g_getfI fl_X7_124 e27 dX7_put_44 ?_
    refine g_iconst dX7_put_47 lt_iconst_1 ?_
    refine g_iadd dX7_put_48 ?_
    obtain ⟨h28, e29, hF⟩ := q_bind hF
    refine g_putf fl_X7_124 e29 rfl rfl dX7_put_49 ?_
    cases hF
    exact g_vret dX7_put_52 rfl ⟨rfl, rfl, rfl⟩ (Nat.le_of_ble_eq_true rfl) (Nat.le_of_ble_eq_true rfl)
def rm_X7_addToken : Room := { frames := 6, cells := 0, slots := 0, locals := 159 }
set_option maxRecDepth 100000 in
set_option maxHeartbeats 4000000 in
theorem J_X7_addToken_106 (l : Launch) (b : Nat) (D : va_G) (z : Nat → Nat) {nx : Nat} {h : qH} {a0 : Nat} {a3 : Int32} {a5 : Int32} {r : qH} (hF : j_X7_addToken_106 z h a0 a3 a5  = some r) : Go l b D z yX7_addToken cX7_addToken 7 none rm_X7_addToken (qE none r nx) 106 [(0, .ref a0), (3, .int a3), (5, .int a5)] [] h nx 0 0 := by
  unfold j_X7_addToken_106 at hF
  refine g_iload 2 dX7_addToken_106 rfl ?_
  refine g_bipush dX7_addToken_108 lt_bipush_59 ?_
  refine g_icmp_ne 123 dX7_addToken_110 (by decide) (fun c1 => ?_) (fun c1 => ?_)
  · replace hF := q_f c1 hF
    refine g_aload_n 0 dX7_addToken_123 rfl ?_
    refine g_iconst dX7_addToken_124 lt_iconst_3 ?_
    refine g_iconst dX7_addToken_125 lt_iconst_0 ?_
    refine g_iload_n 1 dX7_addToken_126 rfl ?_
    obtain ⟨u2, e3, hF⟩ := q_bind hF
    obtain ⟨x4, e5, hF⟩ := q_bind hF
    refine g_callVv0 (ci := 7) (q := (RX7, TX7, 6)) qm_X7_put wd_663 wd_665 wd_2 rfl e3 (M_X7_put l b D z nx e5) (As := [.int (3 : Int32), .int (0 : Int32), .int a3]) rfl rfl (Nat.le_of_ble_eq_true rfl) ⟨(Nat.le_of_ble_eq_true rfl), (Nat.le_of_ble_eq_true rfl)⟩ ⟨rfl, rfl⟩ ⟨(Nat.le_of_ble_eq_true rfl), (Nat.le_of_ble_eq_true rfl)⟩ dX7_addToken_127 ?_
    cases hF
    exact g_vret dX7_addToken_130 rfl ⟨rfl, rfl, rfl⟩ (Nat.le_of_ble_eq_true rfl) (Nat.le_of_ble_eq_true rfl)
  · replace hF := q_t c1 hF
    refine g_aload_n 0 dX7_addToken_113 rfl ?_
    refine g_iconst dX7_addToken_114 lt_iconst_2 ?_
    refine g_iconst dX7_addToken_115 lt_iconst_0 ?_
    refine g_iload_n 1 dX7_addToken_116 rfl ?_
    obtain ⟨u6, e7, hF⟩ := q_bind hF
    obtain ⟨x8, e9, hF⟩ := q_bind hF
    refine g_callVv0 (ci := 7) (q := (RX7, TX7, 6)) qm_X7_put wd_663 wd_665 wd_2 rfl e7 (M_X7_put l b D z nx e9) (As := [.int (2 : Int32), .int (0 : Int32), .int a3]) rfl rfl (Nat.le_of_ble_eq_true rfl) ⟨(Nat.le_of_ble_eq_true rfl), (Nat.le_of_ble_eq_true rfl)⟩ ⟨rfl, rfl⟩ ⟨(Nat.le_of_ble_eq_true rfl), (Nat.le_of_ble_eq_true rfl)⟩ dX7_addToken_117 ?_
    refine g_goto 130 dX7_addToken_120 (by decide) ?_
    cases hF
    exact g_vret dX7_addToken_130 rfl ⟨rfl, rfl, rfl⟩ (Nat.le_of_ble_eq_true rfl) (Nat.le_of_ble_eq_true rfl)
set_option maxRecDepth 100000 in
set_option maxHeartbeats 4000000 in
theorem M_X7_addToken (l : Launch) (b : Nat) (D : va_G) (z : Nat → Nat) (nx : Nat) {h : qH} {a0 : Nat} {a1 : Nat} {a2 : Int32} {a3 : Int32} {a4 : Int32} {r : qH} (hF : F_X7_addToken z h a0 a1 a2 a3 a4 = some r) : Me l b D z yX7_addToken cX7_addToken 7 none rm_X7_addToken [.ref a0, .ref a1, .int a2, .int a3, .int a4] h nx (qE none r nx) := by
  refine Me.of (by decide +kernel) (Nat.le_of_ble_eq_true rfl) ?_
  show Go l b D z yX7_addToken cX7_addToken 7 none rm_X7_addToken (qE none r nx) 0 [(0, .ref a0), (1, .ref a1), (2, .int a2), (3, .int a3), (4, .int a4)] [] h nx 0 0
  unfold F_X7_addToken at hF
  refine g_aload_n 1 dX7_addToken_0 rfl ?_
  refine g_iload_n 3 dX7_addToken_1 rfl ?_
  obtain ⟨u1, e2, hF⟩ := q_bind hF
  obtain ⟨x3, e4, hF⟩ := q_bind hF
  refine g_callVr0 (ci := 9) (q := (RX9, TX9, 9)) qm_X9_byteAt wd_569 wd_570 wd_571 rfl e2 (M_X9_byteAt l b D z nx e4) (As := [.int a3]) rfl rfl (Nat.le_of_ble_eq_true rfl) ⟨(Nat.le_of_ble_eq_true rfl), (Nat.le_of_ble_eq_true rfl)⟩ ⟨rfl, rfl⟩ ⟨(Nat.le_of_ble_eq_true rfl), (Nat.le_of_ble_eq_true rfl)⟩ dX7_addToken_2 ?_
  refine g_istore [(5, .int x3), (0, .ref a0), (1, .ref a1), (2, .int a2), (3, .int a3), (4, .int a4)] dX7_addToken_5 (Nat.le_of_ble_eq_true rfl) rfl ?_
  refine g_iload 0 dX7_addToken_7 rfl ?_
  obtain ⟨x5, e6, hF⟩ := q_bind hF
  refine g_callSr0 qm_X7_isLetter wd_576 wd_577 (M_X7_isLetter l b D z nx e6) (As := [.int x3]) rfl rfl (Nat.le_of_ble_eq_true rfl) ⟨(Nat.le_of_ble_eq_true rfl), (Nat.le_of_ble_eq_true rfl)⟩ ⟨rfl, rfl⟩ ⟨(Nat.le_of_ble_eq_true rfl), (Nat.le_of_ble_eq_true rfl)⟩ dX7_addToken_9 ?_
  refine g_if_eq 46 dX7_addToken_12 (by decide) (fun c7 => ?_) (fun c7 => ?_)
  · replace hF := q_t c7 hF
    refine g_iload 0 dX7_addToken_46 rfl ?_
    obtain ⟨x8, e9, hF⟩ := q_bind hF
    refine g_callSr0 qm_X7_isDigit wd_579 wd_580 (M_X7_isDigit l b D z nx e9) (As := [.int x3]) rfl rfl (Nat.le_of_ble_eq_true rfl) ⟨(Nat.le_of_ble_eq_true rfl), (Nat.le_of_ble_eq_true rfl)⟩ ⟨rfl, rfl⟩ ⟨(Nat.le_of_ble_eq_true rfl), (Nat.le_of_ble_eq_true rfl)⟩ dX7_addToken_48 ?_
    refine g_if_eq 106 dX7_addToken_51 (by decide) (fun c10 => ?_) (fun c10 => ?_)
    · replace hF := q_t c10 hF
      refine g_sub [1, 4, 0] rfl ?_
      exact J_X7_addToken_106 l b D z hF
    · replace hF := q_f c10 hF
      refine g_iload 5 dX7_addToken_54 rfl ?_
      refine g_iload_n 4 dX7_addToken_56 rfl ?_
      refine g_isub dX7_addToken_57 ?_
      refine g_iconst dX7_addToken_58 lt_iconst_2 ?_
      refine g_icmp_gt 106 dX7_addToken_59 (by decide) (fun c11 => ?_) (fun c11 => ?_)
      · replace hF := q_t c11 hF
        refine g_sub [1, 4, 0] rfl ?_
        exact J_X7_addToken_106 l b D z hF
      · replace hF := q_f c11 hF
        refine g_iload 0 dX7_addToken_62 rfl ?_
        refine g_bipush dX7_addToken_64 lt_bipush_48 ?_
        refine g_isub dX7_addToken_66 ?_
        refine g_istore [(6, .int (x3 - (48 : Int32))), (5, .int x3), (0, .ref a0), (1, .ref a1), (2, .int a2), (3, .int a3), (4, .int a4)] dX7_addToken_67 (Nat.le_of_ble_eq_true rfl) rfl ?_
        refine g_iload 6 dX7_addToken_69 rfl ?_
        refine g_iload_n 5 dX7_addToken_71 rfl ?_
        refine g_isub dX7_addToken_72 ?_
        refine g_iconst dX7_addToken_73 lt_iconst_2 ?_
        refine g_icmp_ne 95 dX7_addToken_74 (by decide) (fun c12 => ?_) (fun c12 => ?_)
        · replace hF := q_f c12 hF
          refine g_aload_n 2 dX7_addToken_95 rfl ?_
          refine g_iconst dX7_addToken_96 lt_iconst_1 ?_
          refine g_iload 0 dX7_addToken_97 rfl ?_
          refine g_iload_n 5 dX7_addToken_99 rfl ?_
          obtain ⟨u13, e14, hF⟩ := q_bind hF
          obtain ⟨x15, e16, hF⟩ := q_bind hF
          refine g_callVv0 (ci := 7) (q := (RX7, TX7, 6)) qm_X7_put wd_663 wd_665 wd_2 rfl e14 (M_X7_put l b D z nx e16) (As := [.int (1 : Int32), .int (x3 - (48 : Int32)), .int a3]) rfl rfl (Nat.le_of_ble_eq_true rfl) ⟨(Nat.le_of_ble_eq_true rfl), (Nat.le_of_ble_eq_true rfl)⟩ ⟨rfl, rfl⟩ ⟨(Nat.le_of_ble_eq_true rfl), (Nat.le_of_ble_eq_true rfl)⟩ dX7_addToken_100 ?_
          refine g_goto 130 dX7_addToken_103 (by decide) ?_
          cases hF
          exact g_vret dX7_addToken_130 rfl ⟨rfl, rfl, rfl⟩ (Nat.le_of_ble_eq_true rfl) (Nat.le_of_ble_eq_true rfl)
        · replace hF := q_t c12 hF
          refine g_iload 0 dX7_addToken_77 rfl ?_
          refine g_bipush dX7_addToken_79 lt_bipush_10 ?_
          refine g_imul dX7_addToken_81 ?_
          refine g_aload_n 3 dX7_addToken_82 rfl ?_
          refine g_iload_n 5 dX7_addToken_83 rfl ?_
          refine g_iconst dX7_addToken_84 lt_iconst_1 ?_
          refine g_iadd dX7_addToken_85 ?_
          obtain ⟨u17, e18, hF⟩ := q_bind hF
          obtain ⟨x19, e20, hF⟩ := q_bind hF
          refine g_callVr0 (ci := 9) (q := (RX9, TX9, 9)) qm_X9_byteAt wd_569 wd_570 wd_571 rfl e18 (M_X9_byteAt l b D z nx e20) (As := [.int (a3 + (1 : Int32))]) rfl rfl (Nat.le_of_ble_eq_true rfl) ⟨(Nat.le_of_ble_eq_true rfl), (Nat.le_of_ble_eq_true rfl)⟩ ⟨rfl, rfl⟩ ⟨(Nat.le_of_ble_eq_true rfl), (Nat.le_of_ble_eq_true rfl)⟩ dX7_addToken_86 ?_
          refine g_iadd dX7_addToken_89 ?_
          refine g_bipush dX7_addToken_90 lt_bipush_48 ?_
          refine g_isub dX7_addToken_92 ?_
          refine g_istore [(6, .int ((((x3 - (48 : Int32)) * (10 : Int32)) + x19) - (48 : Int32))), (5, .int x3), (0, .ref a0), (1, .ref a1), (2, .int a2), (3, .int a3), (4, .int a4)] dX7_addToken_93 (Nat.le_of_ble_eq_true rfl) rfl ?_
          refine g_aload_n 2 dX7_addToken_95 rfl ?_
          refine g_iconst dX7_addToken_96 lt_iconst_1 ?_
          refine g_iload 0 dX7_addToken_97 rfl ?_
          refine g_iload_n 5 dX7_addToken_99 rfl ?_
          obtain ⟨u21, e22, hF⟩ := q_bind hF
          obtain ⟨x23, e24, hF⟩ := q_bind hF
          refine g_callVv0 (ci := 7) (q := (RX7, TX7, 6)) qm_X7_put wd_663 wd_665 wd_2 rfl e22 (M_X7_put l b D z nx e24) (As := [.int (1 : Int32), .int ((((x3 - (48 : Int32)) * (10 : Int32)) + x19) - (48 : Int32)), .int a3]) rfl rfl (Nat.le_of_ble_eq_true rfl) ⟨(Nat.le_of_ble_eq_true rfl), (Nat.le_of_ble_eq_true rfl)⟩ ⟨rfl, rfl⟩ ⟨(Nat.le_of_ble_eq_true rfl), (Nat.le_of_ble_eq_true rfl)⟩ dX7_addToken_100 ?_
          refine g_goto 130 dX7_addToken_103 (by decide) ?_
          cases hF
          exact g_vret dX7_addToken_130 rfl ⟨rfl, rfl, rfl⟩ (Nat.le_of_ble_eq_true rfl) (Nat.le_of_ble_eq_true rfl)
  · replace hF := q_f c7 hF
    refine g_aload_n 2 dX7_addToken_15 rfl ?_
    refine g_iload_n 3 dX7_addToken_16 rfl ?_
    refine g_iload_n 4 dX7_addToken_17 rfl ?_
    refine g_iload 5 dX7_addToken_18 rfl ?_
    obtain ⟨x25, e26, hF⟩ := q_bind hF
    refine g_callSr0 qm_X7_wordOf wd_586 wd_587 (M_X7_wordOf l b D z nx e26) (As := [.ref a1, .int a2, .int a3, .int a4]) rfl rfl (Nat.le_of_ble_eq_true rfl) ⟨(Nat.le_of_ble_eq_true rfl), (Nat.le_of_ble_eq_true rfl)⟩ ⟨rfl, rfl⟩ ⟨(Nat.le_of_ble_eq_true rfl), (Nat.le_of_ble_eq_true rfl)⟩ dX7_addToken_20 ?_
    refine g_istore [(6, .int x25), (5, .int x3), (0, .ref a0), (1, .ref a1), (2, .int a2), (3, .int a3), (4, .int a4)] dX7_addToken_23 (Nat.le_of_ble_eq_true rfl) rfl ?_
    refine g_aload_n 2 dX7_addToken_25 rfl ?_
    refine g_iload 0 dX7_addToken_26 rfl ?_
    refine g_iconst dX7_addToken_28 lt_iconst_m1 ?_
    refine g_icmp_ne 36 dX7_addToken_29 (by decide) (fun c27 => ?_) (fun c27 => ?_)
    · replace hF := q_f c27 hF
      refine g_iconst dX7_addToken_36 lt_iconst_0 ?_
      refine g_iload 0 dX7_addToken_37 rfl ?_
      refine g_iload_n 5 dX7_addToken_39 rfl ?_
      obtain ⟨u28, e29, hF⟩ := q_bind hF
      obtain ⟨x30, e31, hF⟩ := q_bind hF
      refine g_callVv0 (ci := 7) (q := (RX7, TX7, 6)) qm_X7_put wd_663 wd_665 wd_2 rfl e29 (M_X7_put l b D z nx e31) (As := [.int (0 : Int32), .int x25, .int a3]) rfl rfl (Nat.le_of_ble_eq_true rfl) ⟨(Nat.le_of_ble_eq_true rfl), (Nat.le_of_ble_eq_true rfl)⟩ ⟨rfl, rfl⟩ ⟨(Nat.le_of_ble_eq_true rfl), (Nat.le_of_ble_eq_true rfl)⟩ dX7_addToken_40 ?_
      refine g_goto 130 dX7_addToken_43 (by decide) ?_
      cases hF
      exact g_vret dX7_addToken_130 rfl ⟨rfl, rfl, rfl⟩ (Nat.le_of_ble_eq_true rfl) (Nat.le_of_ble_eq_true rfl)
    · replace hF := q_t c27 hF
      refine g_iconst dX7_addToken_32 lt_iconst_3 ?_
      refine g_goto 37 dX7_addToken_33 (by decide) ?_
      refine g_iload 0 dX7_addToken_37 rfl ?_
      refine g_iload_n 5 dX7_addToken_39 rfl ?_
      obtain ⟨u32, e33, hF⟩ := q_bind hF
      obtain ⟨x34, e35, hF⟩ := q_bind hF
      refine g_callVv0 (ci := 7) (q := (RX7, TX7, 6)) qm_X7_put wd_663 wd_665 wd_2 rfl e33 (M_X7_put l b D z nx e35) (As := [.int (3 : Int32), .int x25, .int a3]) rfl rfl (Nat.le_of_ble_eq_true rfl) ⟨(Nat.le_of_ble_eq_true rfl), (Nat.le_of_ble_eq_true rfl)⟩ ⟨rfl, rfl⟩ ⟨(Nat.le_of_ble_eq_true rfl), (Nat.le_of_ble_eq_true rfl)⟩ dX7_addToken_40 ?_
      refine g_goto 130 dX7_addToken_43 (by decide) ?_
      cases hF
      exact g_vret dX7_addToken_130 rfl ⟨rfl, rfl, rfl⟩ (Nat.le_of_ble_eq_true rfl) (Nat.le_of_ble_eq_true rfl)
def rm_X7_kindAt : Room := { frames := 0, cells := 0, slots := 0, locals := 0 }
set_option maxRecDepth 100000 in
set_option maxHeartbeats 4000000 in
theorem M_X7_kindAt (l : Launch) (b : Nat) (D : va_G) (z : Nat → Nat) (nx : Nat) {h : qH} {a0 : Nat} {a1 : Int32} {r : Int32} (hF : F_X7_kindAt h a0 a1 = some r) : Me l b D z yX7_kindAt cX7_kindAt 2 (some .int) rm_X7_kindAt [.ref a0, .int a1] h nx (qE (some (.int r)) h nx) := by
  refine Me.of (by decide +kernel) (Nat.le_of_ble_eq_true rfl) ?_
  show Go l b D z yX7_kindAt cX7_kindAt 2 (some .int) rm_X7_kindAt (qE (some (.int r)) h nx) 0 [(0, .ref a0), (1, .int a1)] [] h nx 0 0
  unfold F_X7_kindAt at hF
  refine g_iload_n 1 dX7_kindAt_0 rfl ?_
  refine g_if_lt 21 dX7_kindAt_1 (by decide) (fun c1 => ?_) (fun c1 => ?_)
  · replace hF := q_t c1 hF
    refine g_iconst dX7_kindAt_21 lt_iconst_4 ?_
    cases hF
    exact g_iret dX7_kindAt_22 rfl ⟨rfl, rfl, rfl⟩ (Nat.le_of_ble_eq_true rfl) (Nat.le_of_ble_eq_true rfl)
  · replace hF := q_f c1 hF
    refine g_iload_n 1 dX7_kindAt_4 rfl ?_
    refine g_aload_n 0 dX7_kindAt_5 rfl ?_
    obtain ⟨x2, e3, hF⟩ := q_bind hF
    refine g_getfI fl_X7_124 e3 dX7_kindAt_6 ?_
    refine g_icmp_ge 21 dX7_kindAt_9 (by decide) (fun c4 => ?_) (fun c4 => ?_)
    · replace hF := q_t c4 hF
      refine g_iconst dX7_kindAt_21 lt_iconst_4 ?_
      cases hF
      exact g_iret dX7_kindAt_22 rfl ⟨rfl, rfl, rfl⟩ (Nat.le_of_ble_eq_true rfl) (Nat.le_of_ble_eq_true rfl)
    · replace hF := q_f c4 hF
      refine g_aload_n 0 dX7_kindAt_12 rfl ?_
      obtain ⟨x5, e6, hF⟩ := q_bind hF
      refine g_getfR fl_X7_11 e6 dX7_kindAt_13 ?_
      refine g_iload_n 1 dX7_kindAt_16 rfl ?_
      obtain ⟨x7, e8, hF⟩ := q_bind hF
      refine g_iald e8 dX7_kindAt_17 ?_
      refine g_goto 22 dX7_kindAt_18 (by decide) ?_
      cases hF
      exact g_iret dX7_kindAt_22 rfl ⟨rfl, rfl, rfl⟩ (Nat.le_of_ble_eq_true rfl) (Nat.le_of_ble_eq_true rfl)
