def rm_X6_lineWithout : Room := { frames := 3, cells := 0, slots := 0, locals := 65 }
set_option maxRecDepth 100000 in
set_option maxHeartbeats 4000000 in
theorem B_X6_lineWithout_29 (l : Launch) (b : Nat) (D : va_G) (z : Nat → Nat) {Φ : Option Value → qH → Nat → Prop} {nx : Nat} {h : qH} {a0 : Nat} {a1 : Nat} {a2 : Int32} {a3 : Int32} {a4 : Int32} {a5 : Int32} {a6 : Int32} {a7 : Int32} {o : (Int32 × Int32) ⊕ Int32} (hF : b_X6_lineWithout_29 h a0 a1 a2 a3 a4 a5 a6 a7 = some o) (hback : ∀ (b6 : Int32) (b7 : Int32), o = .inl (b6, b7) → Go l b D z yX6_lineWithout cX6_lineWithout 10 (some .int) rm_X6_lineWithout Φ 29 [(0, .ref a0), (1, .ref a1), (2, .int a2), (3, .int a3), (4, .int a4), (5, .int a5), (6, .int b6), (7, .int b7)] [] h nx 0 0) (hx0 : ∀ (b6 : Int32), o = .inr b6 → Go l b D z yX6_lineWithout cX6_lineWithout 10 (some .int) rm_X6_lineWithout Φ 111 [(0, .ref a0), (1, .ref a1), (2, .int a2), (3, .int a3), (5, .int a5), (6, .int b6)] [] h nx 0 0) : Go l b D z yX6_lineWithout cX6_lineWithout 10 (some .int) rm_X6_lineWithout Φ 29 [(0, .ref a0), (1, .ref a1), (2, .int a2), (3, .int a3), (4, .int a4), (5, .int a5), (6, .int a6), (7, .int a7)] [] h nx 0 0 := by
  unfold b_X6_lineWithout_29 at hF
  refine g_iload 7 dX6_lineWithout_29 rfl ?_
  refine g_aload_n 1 dX6_lineWithout_31 rfl ?_
  refine g_iload 4 dX6_lineWithout_32 rfl ?_
  obtain ⟨u1, e2, hF⟩ := q_bind hF
  obtain ⟨x3, e4, hF⟩ := q_bind hF
  refine g_callVr0 (ci := 0) (q := (RX0, TX0, 15)) qm_X0_howManyFollow wd_997 wd_791 wd_792 rfl e2 (M_X0_howManyFollow l b D z nx e4) (As := [.int a4]) rfl rfl (Nat.le_of_ble_eq_true rfl) ⟨(Nat.le_of_ble_eq_true rfl), (Nat.le_of_ble_eq_true rfl)⟩ ⟨rfl, rfl⟩ ⟨(Nat.le_of_ble_eq_true rfl), (Nat.le_of_ble_eq_true rfl)⟩ dX6_lineWithout_34 ?_
  refine g_icmp_ge 111 dX6_lineWithout_37 (by decide) (fun c5 => ?_) (fun c5 => ?_)
  · replace hF := q_t c5 hF
    cases hF
    refine g_sub [0, 1, 2, 3, 5, 6] rfl ?_
    exact hx0 _ rfl
  · replace hF := q_f c5 hF
    refine g_aload_n 1 dX6_lineWithout_40 rfl ?_
    refine g_iload 4 dX6_lineWithout_41 rfl ?_
    refine g_iload 7 dX6_lineWithout_43 rfl ?_
    obtain ⟨u6, e7, hF⟩ := q_bind hF
    obtain ⟨x8, e9, hF⟩ := q_bind hF
    refine g_callVr0 (ci := 0) (q := (RX0, TX0, 15)) qm_X0_following wd_998 wd_795 wd_796 rfl e7 (M_X0_following l b D z nx e9) (As := [.int a4, .int a7]) rfl rfl (Nat.le_of_ble_eq_true rfl) ⟨(Nat.le_of_ble_eq_true rfl), (Nat.le_of_ble_eq_true rfl)⟩ ⟨rfl, rfl⟩ ⟨(Nat.le_of_ble_eq_true rfl), (Nat.le_of_ble_eq_true rfl)⟩ dX6_lineWithout_45 ?_
    refine g_istore [(8, .int x8), (0, .ref a0), (1, .ref a1), (2, .int a2), (3, .int a3), (4, .int a4), (5, .int a5), (6, .int a6), (7, .int a7)] dX6_lineWithout_48 (Nat.le_of_ble_eq_true rfl) rfl ?_
    refine g_aload_n 1 dX6_lineWithout_50 rfl ?_
    refine g_iload_n 3 dX6_lineWithout_51 rfl ?_
    refine g_iload 6 dX6_lineWithout_52 rfl ?_
    refine g_isub dX6_lineWithout_54 ?_
    refine g_iconst dX6_lineWithout_55 lt_iconst_1 ?_
    refine g_isub dX6_lineWithout_56 ?_
    refine g_iload 0 dX6_lineWithout_57 rfl ?_
    obtain ⟨u10, e11, hF⟩ := q_bind hF
    obtain ⟨x12, e13, hF⟩ := q_bind hF
    refine g_callVr0 (ci := 6) (q := (RX6, TX6, 7)) qm_X6_fewestAt wd_999 wd_1001 wd_36 rfl e11 (M_X6_fewestAt l b D z nx e13) (As := [.int ((a2 - a5) - (1 : Int32)), .int x8]) rfl rfl (Nat.le_of_ble_eq_true rfl) ⟨(Nat.le_of_ble_eq_true rfl), (Nat.le_of_ble_eq_true rfl)⟩ ⟨rfl, rfl⟩ ⟨(Nat.le_of_ble_eq_true rfl), (Nat.le_of_ble_eq_true rfl)⟩ dX6_lineWithout_59 ?_
    refine g_aload_n 2 dX6_lineWithout_62 rfl ?_
    refine g_iload 5 dX6_lineWithout_63 rfl ?_
    refine g_iload 0 dX6_lineWithout_65 rfl ?_
    obtain ⟨u14, e15, hF⟩ := q_bind hF
    obtain ⟨x16, e17, hF⟩ := q_bind hF
    refine g_callVr0 (ci := 0) (q := (RX0, TX0, 15)) qm_X0_strayingOf wd_1003 wd_1004 wd_1005 rfl e15 (M_X0_strayingOf l b D z nx e17) (As := [.int a4, .int x8]) rfl rfl (Nat.le_of_ble_eq_true rfl) ⟨(Nat.le_of_ble_eq_true rfl), (Nat.le_of_ble_eq_true rfl)⟩ ⟨rfl, rfl⟩ ⟨(Nat.le_of_ble_eq_true rfl), (Nat.le_of_ble_eq_true rfl)⟩ dX6_lineWithout_67 ?_
    refine g_iadd dX6_lineWithout_70 ?_
    refine g_istore [(9, .int (x12 + x16)), (8, .int x8), (0, .ref a0), (1, .ref a1), (2, .int a2), (3, .int a3), (4, .int a4), (5, .int a5), (6, .int a6), (7, .int a7)] dX6_lineWithout_71 (Nat.le_of_ble_eq_true rfl) rfl ?_
    refine g_iload 0 dX6_lineWithout_73 rfl ?_
    refine g_aload_n 2 dX6_lineWithout_75 rfl ?_
    refine g_iload_n 4 dX6_lineWithout_76 rfl ?_
    refine g_iload 7 dX6_lineWithout_77 rfl ?_
    refine g_isub dX6_lineWithout_79 ?_
    refine g_iload 6 dX6_lineWithout_80 rfl ?_
    obtain ⟨u18, e19, hF⟩ := q_bind hF
    obtain ⟨x20, e21, hF⟩ := q_bind hF
    refine g_callVr0 (ci := 6) (q := (RX6, TX6, 7)) qm_X6_fewestAt wd_999 wd_1001 wd_36 rfl e19 (M_X6_fewestAt l b D z nx e21) (As := [.int (a2 - a5), .int a4]) rfl rfl (Nat.le_of_ble_eq_true rfl) ⟨(Nat.le_of_ble_eq_true rfl), (Nat.le_of_ble_eq_true rfl)⟩ ⟨rfl, rfl⟩ ⟨(Nat.le_of_ble_eq_true rfl), (Nat.le_of_ble_eq_true rfl)⟩ dX6_lineWithout_82 ?_
    refine g_icmp_ne 105 dX6_lineWithout_85 (by decide) (fun c22 => ?_) (fun c22 => ?_)
    · replace hF := q_f c22 hF
      refine g_iinc [(7, .int (a7 + 1)), (9, .int (x12 + x16)), (8, .int x8), (0, .ref a0), (1, .ref a1), (2, .int a2), (3, .int a3), (4, .int a4), (5, .int a5), (6, .int a6)] 9 dX6_lineWithout_105 rfl (congrArg (a7 + ·) lt_iconst_1) (Nat.le_of_ble_eq_true rfl) rfl ?_
      refine g_goto 29 dX6_lineWithout_108 (by decide) ?_
      cases hF
      refine g_sub [3, 4, 5, 6, 7, 8, 9, 0] rfl ?_
      exact hback _ _ rfl
    · replace hF := q_t c22 hF
      refine g_iload 8 dX6_lineWithout_88 rfl ?_
      refine g_iconst dX6_lineWithout_90 lt_iconst_m1 ?_
      refine g_icmp_eq 101 dX6_lineWithout_91 (by decide) (fun c23 => ?_) (fun c23 => ?_)
      · replace hF := q_t c23 hF
        refine g_iload 1 dX6_lineWithout_101 rfl ?_
        refine g_istore [(6, .int x8), (9, .int (x12 + x16)), (8, .int x8), (0, .ref a0), (1, .ref a1), (2, .int a2), (3, .int a3), (4, .int a4), (5, .int a5), (7, .int a7)] dX6_lineWithout_103 (Nat.le_of_ble_eq_true rfl) rfl ?_
        refine g_iinc [(7, .int (a7 + 1)), (6, .int x8), (9, .int (x12 + x16)), (8, .int x8), (0, .ref a0), (1, .ref a1), (2, .int a2), (3, .int a3), (4, .int a4), (5, .int a5)] 9 dX6_lineWithout_105 rfl (congrArg (a7 + ·) lt_iconst_1) (Nat.le_of_ble_eq_true rfl) rfl ?_
        refine g_goto 29 dX6_lineWithout_108 (by decide) ?_
        cases hF
        refine g_sub [4, 5, 6, 7, 8, 9, 1, 0] rfl ?_
        exact hback _ _ rfl
      · replace hF := q_f c23 hF
        refine g_iload 1 dX6_lineWithout_94 rfl ?_
        refine g_iload 8 dX6_lineWithout_96 rfl ?_
        refine g_icmp_ge 105 dX6_lineWithout_98 (by decide) (fun c24 => ?_) (fun c24 => ?_)
        · replace hF := q_t c24 hF
          refine g_iinc [(7, .int (a7 + 1)), (9, .int (x12 + x16)), (8, .int x8), (0, .ref a0), (1, .ref a1), (2, .int a2), (3, .int a3), (4, .int a4), (5, .int a5), (6, .int a6)] 9 dX6_lineWithout_105 rfl (congrArg (a7 + ·) lt_iconst_1) (Nat.le_of_ble_eq_true rfl) rfl ?_
          refine g_goto 29 dX6_lineWithout_108 (by decide) ?_
          cases hF
          refine g_sub [3, 4, 5, 6, 7, 8, 9, 0] rfl ?_
          exact hback _ _ rfl
        · replace hF := q_f c24 hF
          refine g_iload 1 dX6_lineWithout_101 rfl ?_
          refine g_istore [(6, .int x8), (9, .int (x12 + x16)), (8, .int x8), (0, .ref a0), (1, .ref a1), (2, .int a2), (3, .int a3), (4, .int a4), (5, .int a5), (7, .int a7)] dX6_lineWithout_103 (Nat.le_of_ble_eq_true rfl) rfl ?_
          refine g_iinc [(7, .int (a7 + 1)), (6, .int x8), (9, .int (x12 + x16)), (8, .int x8), (0, .ref a0), (1, .ref a1), (2, .int a2), (3, .int a3), (4, .int a4), (5, .int a5)] 9 dX6_lineWithout_105 rfl (congrArg (a7 + ·) lt_iconst_1) (Nat.le_of_ble_eq_true rfl) rfl ?_
          refine g_goto 29 dX6_lineWithout_108 (by decide) ?_
          cases hF
          refine g_sub [4, 5, 6, 7, 8, 9, 1, 0] rfl ?_
          exact hback _ _ rfl
set_option maxRecDepth 100000 in
set_option maxHeartbeats 4000000 in
theorem L_X6_lineWithout_29 (l : Launch) (b : Nat) (D : va_G) (z : Nat → Nat) {Φ : Option Value → qH → Nat → Prop} {nx : Nat} {h : qH} {a0 : Nat} {a1 : Nat} {a2 : Int32} {a3 : Int32} {a4 : Int32} {a5 : Int32} : ∀ (n : Nat) (a6 : Int32) (a7 : Int32) (e : Int32), q_lp (s_X6_lineWithout_29 h a0 a1 a2 a3 a4 a5) n (a6, a7) = some e → (∀ (b6 : Int32), e = b6 → Go l b D z yX6_lineWithout cX6_lineWithout 10 (some .int) rm_X6_lineWithout Φ 111 [(0, .ref a0), (1, .ref a1), (2, .int a2), (3, .int a3), (5, .int a5), (6, .int b6)] [] h nx 0 0) → Go l b D z yX6_lineWithout cX6_lineWithout 10 (some .int) rm_X6_lineWithout Φ 29 [(0, .ref a0), (1, .ref a1), (2, .int a2), (3, .int a3), (4, .int a4), (5, .int a5), (6, .int a6), (7, .int a7)] [] h nx 0 0 := by
  intro n
  induction n with
  | zero => intro a6 a7 e he; cases (show none = some e from he)
  | succ n ih =>
    intro a6 a7 e he hx0
    obtain ⟨o, ho, h1, h2⟩ := q_lp_succ he
    exact B_X6_lineWithout_29 l b D z (show b_X6_lineWithout_29 h a0 a1 a2 a3 a4 a5 a6 a7 = some o from ho) (fun b6 b7 hb => ih _ _ e (h1 _ hb) hx0) (fun p0 hr => hx0 p0 (h2 _ hr).symm)
set_option maxRecDepth 100000 in
set_option maxHeartbeats 4000000 in
theorem B_X6_lineWithout_17 (l : Launch) (b : Nat) (D : va_G) (z : Nat → Nat) {Φ : Option Value → qH → Nat → Prop} {nx : Nat} {h : qH} {a0 : Nat} {a1 : Nat} {a2 : Int32} {a3 : Int32} {a4 : Int32} {a5 : Int32} {o : (Int32 × Int32) ⊕ (Unit ⊕ Int32)} (hF : b_X6_lineWithout_17 h a0 a1 a2 a3 a4 a5 = some o) (hback : ∀ (b4 : Int32) (b5 : Int32), o = .inl (b4, b5) → Go l b D z yX6_lineWithout cX6_lineWithout 10 (some .int) rm_X6_lineWithout Φ 17 [(0, .ref a0), (1, .ref a1), (2, .int a2), (3, .int a3), (4, .int b4), (5, .int b5)] [] h nx 0 0) (hx0 : o = .inr (.inl ()) → Go l b D z yX6_lineWithout cX6_lineWithout 10 (some .int) rm_X6_lineWithout Φ 117 [] [] h nx 0 0) (hx1 : ∀ (b4 : Int32), o = .inr (.inr b4) → Go l b D z yX6_lineWithout cX6_lineWithout 10 (some .int) rm_X6_lineWithout Φ 129 [(4, .int b4)] [] h nx 0 0) : Go l b D z yX6_lineWithout cX6_lineWithout 10 (some .int) rm_X6_lineWithout Φ 17 [(0, .ref a0), (1, .ref a1), (2, .int a2), (3, .int a3), (4, .int a4), (5, .int a5)] [] h nx 0 0 := by
  unfold b_X6_lineWithout_17 at hF
  refine g_iload 5 dX6_lineWithout_17 rfl ?_
  refine g_iload_n 3 dX6_lineWithout_19 rfl ?_
  refine g_icmp_ge 129 dX6_lineWithout_20 (by decide) (fun c1 => ?_) (fun c1 => ?_)
  · replace hF := q_t c1 hF
    cases hF
    refine g_sub [4] rfl ?_
    exact hx1 _ rfl
  · replace hF := q_f c1 hF
    refine g_iconst dX6_lineWithout_23 lt_iconst_m1 ?_
    refine g_istore [(6, .int (-1 : Int32)), (0, .ref a0), (1, .ref a1), (2, .int a2), (3, .int a3), (4, .int a4), (5, .int a5)] dX6_lineWithout_24 (Nat.le_of_ble_eq_true rfl) rfl ?_
    refine g_iconst dX6_lineWithout_26 lt_iconst_0 ?_
    refine g_istore [(7, .int (0 : Int32)), (6, .int (-1 : Int32)), (0, .ref a0), (1, .ref a1), (2, .int a2), (3, .int a3), (4, .int a4), (5, .int a5)] dX6_lineWithout_27 (Nat.le_of_ble_eq_true rfl) rfl ?_
    obtain ⟨e2, w3, hF⟩ := q_bind hF
    refine g_sub [2, 3, 4, 5, 6, 7, 1, 0] rfl ?_
    refine L_X6_lineWithout_29 l b D z q_N (-1 : Int32) (0 : Int32) e2 w3 ?_
    · intro o4 w5
      replace w5 := w5.symm
      subst w5
      refine g_iload 5 dX6_lineWithout_111 rfl ?_
      refine g_iconst dX6_lineWithout_113 lt_iconst_m1 ?_
      refine g_icmp_ne 119 dX6_lineWithout_114 (by decide) (fun c6 => ?_) (fun c6 => ?_)
      · replace hF := q_f c6 hF
        refine g_iload 5 dX6_lineWithout_119 rfl ?_
        refine g_istore [(4, .int o4), (0, .ref a0), (1, .ref a1), (2, .int a2), (3, .int a3), (5, .int a5), (6, .int o4)] dX6_lineWithout_121 (Nat.le_of_ble_eq_true rfl) rfl ?_
        refine g_iinc [(5, .int (a5 + 1)), (4, .int o4), (0, .ref a0), (1, .ref a1), (2, .int a2), (3, .int a3), (6, .int o4)] 5 dX6_lineWithout_123 rfl (congrArg (a5 + ·) lt_iconst_1) (Nat.le_of_ble_eq_true rfl) rfl ?_
        refine g_goto 17 dX6_lineWithout_126 (by decide) ?_
        cases hF
        refine g_sub [2, 3, 4, 5, 1, 0] rfl ?_
        exact hback _ _ rfl
      · replace hF := q_t c6 hF
        cases hF
        refine g_sub [] rfl ?_
        exact hx0  rfl
set_option maxRecDepth 100000 in
set_option maxHeartbeats 4000000 in
theorem L_X6_lineWithout_17 (l : Launch) (b : Nat) (D : va_G) (z : Nat → Nat) {Φ : Option Value → qH → Nat → Prop} {nx : Nat} {h : qH} {a0 : Nat} {a1 : Nat} {a2 : Int32} {a3 : Int32} : ∀ (n : Nat) (a4 : Int32) (a5 : Int32) (e : Unit ⊕ Int32), q_lp (s_X6_lineWithout_17 h a0 a1 a2 a3) n (a4, a5) = some e → (e = (.inl ()) → Go l b D z yX6_lineWithout cX6_lineWithout 10 (some .int) rm_X6_lineWithout Φ 117 [] [] h nx 0 0) → (∀ (b4 : Int32), e = (.inr b4) → Go l b D z yX6_lineWithout cX6_lineWithout 10 (some .int) rm_X6_lineWithout Φ 129 [(4, .int b4)] [] h nx 0 0) → Go l b D z yX6_lineWithout cX6_lineWithout 10 (some .int) rm_X6_lineWithout Φ 17 [(0, .ref a0), (1, .ref a1), (2, .int a2), (3, .int a3), (4, .int a4), (5, .int a5)] [] h nx 0 0 := by
  intro n
  induction n with
  | zero => intro a4 a5 e he; cases (show none = some e from he)
  | succ n ih =>
    intro a4 a5 e he hx0 hx1
    obtain ⟨o, ho, h1, h2⟩ := q_lp_succ he
    exact B_X6_lineWithout_17 l b D z (show b_X6_lineWithout_17 h a0 a1 a2 a3 a4 a5 = some o from ho) (fun b4 b5 hb => ih _ _ e (h1 _ hb) hx0 hx1) (fun  hr => hx0  (h2 _ hr).symm) (fun p0 hr => hx1 p0 (h2 _ hr).symm)
set_option maxRecDepth 100000 in
set_option maxHeartbeats 4000000 in
theorem M_X6_lineWithout (l : Launch) (b : Nat) (D : va_G) (z : Nat → Nat) (nx : Nat) {h : qH} {a0 : Nat} {a1 : Nat} {a2 : Int32} {a3 : Int32} {r : Int32} (hF : F_X6_lineWithout h a0 a1 a2 a3 = some r) : Me l b D z yX6_lineWithout cX6_lineWithout 10 (some .int) rm_X6_lineWithout [.ref a0, .ref a1, .int a2, .int a3] h nx (qE (some (.int r)) h nx) := by
  refine Me.of (by decide +kernel) (Nat.le_of_ble_eq_true rfl) ?_
  show Go l b D z yX6_lineWithout cX6_lineWithout 10 (some .int) rm_X6_lineWithout (qE (some (.int r)) h nx) 0 [(0, .ref a0), (1, .ref a1), (2, .int a2), (3, .int a3)] [] h nx 0 0
  unfold F_X6_lineWithout at hF
  refine g_iload_n 3 dX6_lineWithout_0 rfl ?_
  refine g_if_lt 9 dX6_lineWithout_1 (by decide) (fun c1 => ?_) (fun c1 => ?_)
  · replace hF := q_t c1 hF
    refine g_iconst dX6_lineWithout_9 lt_iconst_m1 ?_
    cases hF
    exact g_iret dX6_lineWithout_10 rfl ⟨rfl, rfl, rfl⟩ (Nat.le_of_ble_eq_true rfl) (Nat.le_of_ble_eq_true rfl)
  · replace hF := q_f c1 hF
    refine g_iload_n 3 dX6_lineWithout_4 rfl ?_
    refine g_iload_n 2 dX6_lineWithout_5 rfl ?_
    refine g_icmp_lt 11 dX6_lineWithout_6 (by decide) (fun c2 => ?_) (fun c2 => ?_)
    · replace hF := q_t c2 hF
      refine g_iconst dX6_lineWithout_11 lt_iconst_0 ?_
      refine g_istore [(4, .int (0 : Int32)), (0, .ref a0), (1, .ref a1), (2, .int a2), (3, .int a3)] dX6_lineWithout_12 (Nat.le_of_ble_eq_true rfl) rfl ?_
      refine g_iconst dX6_lineWithout_14 lt_iconst_0 ?_
      refine g_istore [(5, .int (0 : Int32)), (4, .int (0 : Int32)), (0, .ref a0), (1, .ref a1), (2, .int a2), (3, .int a3)] dX6_lineWithout_15 (Nat.le_of_ble_eq_true rfl) rfl ?_
      obtain ⟨e3, w4, hF⟩ := q_bind hF
      refine g_sub [2, 3, 4, 5, 1, 0] rfl ?_
      refine L_X6_lineWithout_17 l b D z q_N (0 : Int32) (0 : Int32) e3 w4 ?_ ?_
      · intro  w5
        replace w5 := w5.symm
        subst w5
        replace hF := q_sl hF
        refine g_iconst dX6_lineWithout_117 lt_iconst_m1 ?_
        cases hF
        exact g_iret dX6_lineWithout_118 rfl ⟨rfl, rfl, rfl⟩ (Nat.le_of_ble_eq_true rfl) (Nat.le_of_ble_eq_true rfl)
      · intro o7 w8
        replace w8 := w8.symm
        subst w8
        replace hF := q_sr hF
        refine g_iload 0 dX6_lineWithout_129 rfl ?_
        cases hF
        exact g_iret dX6_lineWithout_131 rfl ⟨rfl, rfl, rfl⟩ (Nat.le_of_ble_eq_true rfl) (Nat.le_of_ble_eq_true rfl)
    · replace hF := q_f c2 hF
      refine g_iconst dX6_lineWithout_9 lt_iconst_m1 ?_
      cases hF
      exact g_iret dX6_lineWithout_10 rfl ⟨rfl, rfl, rfl⟩ (Nat.le_of_ble_eq_true rfl) (Nat.le_of_ble_eq_true rfl)
def rm_X6_stepStrayings : Room := { frames := 3, cells := 0, slots := 0, locals := 65 }
set_option maxRecDepth 100000 in
set_option maxHeartbeats 4000000 in
theorem B_X6_stepStrayings_2 (l : Launch) (b : Nat) (D : va_G) (z : Nat → Nat) {Φ : Option Value → qH → Nat → Prop} {nx : Nat} {a0 : Nat} {a1 : Nat} {a2 : Int32} {h : qH} {o : (Int32 × qH) ⊕ qH} (hF : b_X6_stepStrayings_2 a0 a1 a2 h = some o) (hback : ∀ (b2 : Int32) (bh : qH), o = .inl (b2, bh) → Go l b D z yX6_stepStrayings cX6_stepStrayings 5 none rm_X6_stepStrayings Φ 2 [(0, .ref a0), (1, .ref a1), (2, .int b2)] [] bh nx 0 0) (hx0 : ∀  (bh : qH), o = .inr bh → Go l b D z yX6_stepStrayings cX6_stepStrayings 5 none rm_X6_stepStrayings Φ 22 [(0, .ref a0), (1, .ref a1)] [] bh nx 0 0) : Go l b D z yX6_stepStrayings cX6_stepStrayings 5 none rm_X6_stepStrayings Φ 2 [(0, .ref a0), (1, .ref a1), (2, .int a2)] [] h nx 0 0 := by
  unfold b_X6_stepStrayings_2 at hF
  refine g_iload_n 2 dX6_stepStrayings_2 rfl ?_
  refine g_bipush dX6_stepStrayings_3 lt_bipush_20 ?_
  refine g_icmp_ge 22 dX6_stepStrayings_5 (by decide) (fun c1 => ?_) (fun c1 => ?_)
  · replace hF := q_t c1 hF
    cases hF
    refine g_sub [0, 1] rfl ?_
    exact hx0 _ rfl
  · replace hF := q_f c1 hF
    refine g_aload_n 0 dX6_stepStrayings_8 rfl ?_
    obtain ⟨x2, e3, hF⟩ := q_bind hF
    refine g_getfR fl_X6_20 e3 dX6_stepStrayings_9 ?_
    refine g_iload_n 2 dX6_stepStrayings_12 rfl ?_
    refine g_ldc dX6_stepStrayings_13 wd_992 ?_
    obtain ⟨h4, e5, hF⟩ := q_bind hF
    refine g_iast e5 dX6_stepStrayings_15 ?_
    refine g_iinc [(2, .int (a2 + 1)), (0, .ref a0), (1, .ref a1)] 2 dX6_stepStrayings_16 rfl (congrArg (a2 + ·) lt_iconst_1) (Nat.le_of_ble_eq_true rfl) rfl ?_
    refine g_goto 2 dX6_stepStrayings_19 (by decide) ?_
    cases hF
    refine g_sub [1, 2, 0] rfl ?_
    exact hback _ _ rfl
set_option maxRecDepth 100000 in
set_option maxHeartbeats 4000000 in
theorem L_X6_stepStrayings_2 (l : Launch) (b : Nat) (D : va_G) (z : Nat → Nat) {Φ : Option Value → qH → Nat → Prop} {nx : Nat} {a0 : Nat} {a1 : Nat} : ∀ (n : Nat) (a2 : Int32) (h : qH) (e : qH), q_lp (s_X6_stepStrayings_2 a0 a1) n (a2, h) = some e → (∀  (bh : qH), e = bh → Go l b D z yX6_stepStrayings cX6_stepStrayings 5 none rm_X6_stepStrayings Φ 22 [(0, .ref a0), (1, .ref a1)] [] bh nx 0 0) → Go l b D z yX6_stepStrayings cX6_stepStrayings 5 none rm_X6_stepStrayings Φ 2 [(0, .ref a0), (1, .ref a1), (2, .int a2)] [] h nx 0 0 := by
  intro n
  induction n with
  | zero => intro a2 h e he; cases (show none = some e from he)
  | succ n ih =>
    intro a2 h e he hx0
    obtain ⟨o, ho, h1, h2⟩ := q_lp_succ he
    exact B_X6_stepStrayings_2 l b D z (show b_X6_stepStrayings_2 a0 a1 a2 h = some o from ho) (fun b2 bh hb => ih _ _ e (h1 _ hb) hx0) (fun p0 hr => hx0 p0 (h2 _ hr).symm)
set_option maxRecDepth 100000 in
set_option maxHeartbeats 4000000 in
theorem B_X6_stepStrayings_40 (l : Launch) (b : Nat) (D : va_G) (z : Nat → Nat) {Φ : Option Value → qH → Nat → Prop} {nx : Nat} {a0 : Nat} {a1 : Nat} {a2 : Int32} {a3 : Int32} {h : qH} {o : (Int32 × qH) ⊕ qH} (hF : b_X6_stepStrayings_40 a0 a1 a2 a3 h = some o) (hback : ∀ (b3 : Int32) (bh : qH), o = .inl (b3, bh) → Go l b D z yX6_stepStrayings cX6_stepStrayings 5 none rm_X6_stepStrayings Φ 40 [(0, .ref a0), (1, .ref a1), (2, .int a2), (3, .int b3)] [] bh nx 0 0) (hx0 : ∀  (bh : qH), o = .inr bh → Go l b D z yX6_stepStrayings cX6_stepStrayings 5 none rm_X6_stepStrayings Φ 103 [(0, .ref a0), (1, .ref a1), (2, .int a2)] [] bh nx 0 0) : Go l b D z yX6_stepStrayings cX6_stepStrayings 5 none rm_X6_stepStrayings Φ 40 [(0, .ref a0), (1, .ref a1), (2, .int a2), (3, .int a3)] [] h nx 0 0 := by
  unfold b_X6_stepStrayings_40 at hF
  refine g_iload_n 3 dX6_stepStrayings_40 rfl ?_
  refine g_aload_n 1 dX6_stepStrayings_41 rfl ?_
  refine g_iload_n 2 dX6_stepStrayings_42 rfl ?_
  obtain ⟨u1, e2, hF⟩ := q_bind hF
  obtain ⟨x3, e4, hF⟩ := q_bind hF
  refine g_callVr0 (ci := 0) (q := (RX0, TX0, 15)) qm_X0_howManyFollow wd_997 wd_791 wd_792 rfl e2 (M_X0_howManyFollow l b D z nx e4) (As := [.int a2]) rfl rfl (Nat.le_of_ble_eq_true rfl) ⟨(Nat.le_of_ble_eq_true rfl), (Nat.le_of_ble_eq_true rfl)⟩ ⟨rfl, rfl⟩ ⟨(Nat.le_of_ble_eq_true rfl), (Nat.le_of_ble_eq_true rfl)⟩ dX6_stepStrayings_43 ?_
  refine g_icmp_ge 103 dX6_stepStrayings_46 (by decide) (fun c5 => ?_) (fun c5 => ?_)
  · replace hF := q_t c5 hF
    cases hF
    refine g_sub [0, 1, 2] rfl ?_
    exact hx0 _ rfl
  · replace hF := q_f c5 hF
    refine g_aload_n 1 dX6_stepStrayings_49 rfl ?_
    refine g_iload_n 2 dX6_stepStrayings_50 rfl ?_
    refine g_iload_n 3 dX6_stepStrayings_51 rfl ?_
    obtain ⟨u6, e7, hF⟩ := q_bind hF
    obtain ⟨x8, e9, hF⟩ := q_bind hF
    refine g_callVr0 (ci := 0) (q := (RX0, TX0, 15)) qm_X0_following wd_998 wd_795 wd_796 rfl e7 (M_X0_following l b D z nx e9) (As := [.int a2, .int a3]) rfl rfl (Nat.le_of_ble_eq_true rfl) ⟨(Nat.le_of_ble_eq_true rfl), (Nat.le_of_ble_eq_true rfl)⟩ ⟨rfl, rfl⟩ ⟨(Nat.le_of_ble_eq_true rfl), (Nat.le_of_ble_eq_true rfl)⟩ dX6_stepStrayings_52 ?_
    refine g_istore [(4, .int x8), (0, .ref a0), (1, .ref a1), (2, .int a2), (3, .int a3)] dX6_stepStrayings_55 (Nat.le_of_ble_eq_true rfl) rfl ?_
    refine g_aload_n 2 dX6_stepStrayings_57 rfl ?_
    refine g_iload 0 dX6_stepStrayings_58 rfl ?_
    obtain ⟨u10, e11, hF⟩ := q_bind hF
    obtain ⟨x12, e13, hF⟩ := q_bind hF
    refine g_callVr0 (ci := 0) (q := (RX0, TX0, 15)) qm_X0_has wd_987 wd_783 wd_784 rfl e11 (M_X0_has l b D z nx e13) (As := [.int x8]) rfl rfl (Nat.le_of_ble_eq_true rfl) ⟨(Nat.le_of_ble_eq_true rfl), (Nat.le_of_ble_eq_true rfl)⟩ ⟨rfl, rfl⟩ ⟨(Nat.le_of_ble_eq_true rfl), (Nat.le_of_ble_eq_true rfl)⟩ dX6_stepStrayings_60 ?_
    refine g_if_eq 97 dX6_stepStrayings_63 (by decide) (fun c14 => ?_) (fun c14 => ?_)
    · replace hF := q_t c14 hF
      refine g_iinc [(3, .int (a3 + 1)), (4, .int x8), (0, .ref a0), (1, .ref a1), (2, .int a2)] 4 dX6_stepStrayings_97 rfl (congrArg (a3 + ·) lt_iconst_1) (Nat.le_of_ble_eq_true rfl) rfl ?_
      refine g_goto 40 dX6_stepStrayings_100 (by decide) ?_
      cases hF
      refine g_sub [2, 3, 4, 0] rfl ?_
      exact hback _ _ rfl
    · replace hF := q_f c14 hF
      refine g_aload_n 1 dX6_stepStrayings_66 rfl ?_
      obtain ⟨x15, e16, hF⟩ := q_bind hF
      refine g_getfR fl_X6_20 e16 dX6_stepStrayings_67 ?_
      refine g_iload 0 dX6_stepStrayings_70 rfl ?_
      refine g_aload_n 1 dX6_stepStrayings_72 rfl ?_
      obtain ⟨x17, e18, hF⟩ := q_bind hF
      refine g_getfR fl_X6_20 e18 dX6_stepStrayings_73 ?_
      refine g_iload 0 dX6_stepStrayings_76 rfl ?_
      obtain ⟨x19, e20, hF⟩ := q_bind hF
      refine g_iald e20 dX6_stepStrayings_78 ?_
      refine g_aload_n 1 dX6_stepStrayings_79 rfl ?_
      obtain ⟨x21, e22, hF⟩ := q_bind hF
      refine g_getfR fl_X6_17 e22 dX6_stepStrayings_80 ?_
      refine g_iload_n 3 dX6_stepStrayings_83 rfl ?_
      obtain ⟨x23, e24, hF⟩ := q_bind hF
      refine g_iald e24 dX6_stepStrayings_84 ?_
      refine g_aload_n 2 dX6_stepStrayings_85 rfl ?_
      refine g_iload_n 3 dX6_stepStrayings_86 rfl ?_
      refine g_iload 0 dX6_stepStrayings_87 rfl ?_
      obtain ⟨u25, e26, hF⟩ := q_bind hF
      obtain ⟨x27, e28, hF⟩ := q_bind hF
      refine g_callVr0 (ci := 0) (q := (RX0, TX0, 15)) qm_X0_strayingOf wd_1003 wd_1004 wd_1005 rfl e26 (M_X0_strayingOf l b D z nx e28) (As := [.int a2, .int x8]) rfl rfl (Nat.le_of_ble_eq_true rfl) ⟨(Nat.le_of_ble_eq_true rfl), (Nat.le_of_ble_eq_true rfl)⟩ ⟨rfl, rfl⟩ ⟨(Nat.le_of_ble_eq_true rfl), (Nat.le_of_ble_eq_true rfl)⟩ dX6_stepStrayings_89 ?_
      refine g_iadd dX6_stepStrayings_92 ?_
      obtain ⟨x29, e30, hF⟩ := q_bind hF
      refine g_callSr0 qm_J9_min_7cf53 wd_1007 wd_1008 (M_J9_min_7cf53 l b D z nx e30) (As := [.int x19, .int (x23 + x27)]) rfl rfl (Nat.le_of_ble_eq_true rfl) ⟨(Nat.le_of_ble_eq_true rfl), (Nat.le_of_ble_eq_true rfl)⟩ ⟨rfl, rfl⟩ ⟨(Nat.le_of_ble_eq_true rfl), (Nat.le_of_ble_eq_true rfl)⟩ dX6_stepStrayings_93 ?_
      obtain ⟨h31, e32, hF⟩ := q_bind hF
      refine g_iast e32 dX6_stepStrayings_96 ?_
      refine g_iinc [(3, .int (a3 + 1)), (4, .int x8), (0, .ref a0), (1, .ref a1), (2, .int a2)] 4 dX6_stepStrayings_97 rfl (congrArg (a3 + ·) lt_iconst_1) (Nat.le_of_ble_eq_true rfl) rfl ?_
      refine g_goto 40 dX6_stepStrayings_100 (by decide) ?_
      cases hF
      refine g_sub [2, 3, 4, 0] rfl ?_
      exact hback _ _ rfl
set_option maxRecDepth 100000 in
set_option maxHeartbeats 4000000 in
theorem L_X6_stepStrayings_40 (l : Launch) (b : Nat) (D : va_G) (z : Nat → Nat) {Φ : Option Value → qH → Nat → Prop} {nx : Nat} {a0 : Nat} {a1 : Nat} {a2 : Int32} : ∀ (n : Nat) (a3 : Int32) (h : qH) (e : qH), q_lp (s_X6_stepStrayings_40 a0 a1 a2) n (a3, h) = some e → (∀  (bh : qH), e = bh → Go l b D z yX6_stepStrayings cX6_stepStrayings 5 none rm_X6_stepStrayings Φ 103 [(0, .ref a0), (1, .ref a1), (2, .int a2)] [] bh nx 0 0) → Go l b D z yX6_stepStrayings cX6_stepStrayings 5 none rm_X6_stepStrayings Φ 40 [(0, .ref a0), (1, .ref a1), (2, .int a2), (3, .int a3)] [] h nx 0 0 := by
  intro n
  induction n with
  | zero => intro a3 h e he; cases (show none = some e from he)
  | succ n ih =>
    intro a3 h e he hx0
    obtain ⟨o, ho, h1, h2⟩ := q_lp_succ he
    exact B_X6_stepStrayings_40 l b D z (show b_X6_stepStrayings_40 a0 a1 a2 a3 h = some o from ho) (fun b3 bh hb => ih _ _ e (h1 _ hb) hx0) (fun p0 hr => hx0 p0 (h2 _ hr).symm)
set_option maxRecDepth 100000 in
set_option maxHeartbeats 4000000 in
theorem B_X6_stepStrayings_24 (l : Launch) (b : Nat) (D : va_G) (z : Nat → Nat) {Φ : Option Value → qH → Nat → Prop} {nx : Nat} {a0 : Nat} {a1 : Nat} {a2 : Int32} {h : qH} {o : (Int32 × qH) ⊕ qH} (hF : b_X6_stepStrayings_24 a0 a1 a2 h = some o) (hback : ∀ (b2 : Int32) (bh : qH), o = .inl (b2, bh) → Go l b D z yX6_stepStrayings cX6_stepStrayings 5 none rm_X6_stepStrayings Φ 24 [(0, .ref a0), (1, .ref a1), (2, .int b2)] [] bh nx 0 0) (hx0 : ∀  (bh : qH), o = .inr bh → Go l b D z yX6_stepStrayings cX6_stepStrayings 5 none rm_X6_stepStrayings Φ 109 [(0, .ref a0)] [] bh nx 0 0) : Go l b D z yX6_stepStrayings cX6_stepStrayings 5 none rm_X6_stepStrayings Φ 24 [(0, .ref a0), (1, .ref a1), (2, .int a2)] [] h nx 0 0 := by
  unfold b_X6_stepStrayings_24 at hF
  refine g_iload_n 2 dX6_stepStrayings_24 rfl ?_
  refine g_aload_n 1 dX6_stepStrayings_25 rfl ?_
  obtain ⟨x1, e2, hF⟩ := q_bind hF
  refine g_getfI fl_X6_40 e2 dX6_stepStrayings_26 ?_
  refine g_icmp_ge 109 dX6_stepStrayings_29 (by decide) (fun c3 => ?_) (fun c3 => ?_)
  · replace hF := q_t c3 hF
    cases hF
    refine g_sub [0] rfl ?_
    exact hx0 _ rfl
  · replace hF := q_f c3 hF
    refine g_iload_n 2 dX6_stepStrayings_32 rfl ?_
    refine g_bipush dX6_stepStrayings_33 lt_bipush_20 ?_
    refine g_icmp_ge 109 dX6_stepStrayings_35 (by decide) (fun c4 => ?_) (fun c4 => ?_)
    · replace hF := q_t c4 hF
      cases hF
      refine g_sub [0] rfl ?_
      exact hx0 _ rfl
    · replace hF := q_f c4 hF
      refine g_iconst dX6_stepStrayings_38 lt_iconst_0 ?_
      refine g_istore_n [(3, .int (0 : Int32)), (0, .ref a0), (1, .ref a1), (2, .int a2)] dX6_stepStrayings_39 (Nat.le_of_ble_eq_true rfl) rfl ?_
      obtain ⟨e5, w6, hF⟩ := q_bind hF
      refine g_sub [1, 2, 3, 0] rfl ?_
      refine L_X6_stepStrayings_40 l b D z q_N (0 : Int32) h e5 w6 ?_
      · intro h7 w8
        replace w8 := w8.symm
        subst w8
        refine g_iinc [(2, .int (a2 + 1)), (0, .ref a0), (1, .ref a1)] 2 dX6_stepStrayings_103 rfl (congrArg (a2 + ·) lt_iconst_1) (Nat.le_of_ble_eq_true rfl) rfl ?_
        refine g_goto 24 dX6_stepStrayings_106 (by decide) ?_
        cases hF
        refine g_sub [1, 2, 0] rfl ?_
        exact hback _ _ rfl
set_option maxRecDepth 100000 in
set_option maxHeartbeats 4000000 in
theorem L_X6_stepStrayings_24 (l : Launch) (b : Nat) (D : va_G) (z : Nat → Nat) {Φ : Option Value → qH → Nat → Prop} {nx : Nat} {a0 : Nat} {a1 : Nat} : ∀ (n : Nat) (a2 : Int32) (h : qH) (e : qH), q_lp (s_X6_stepStrayings_24 a0 a1) n (a2, h) = some e → (∀  (bh : qH), e = bh → Go l b D z yX6_stepStrayings cX6_stepStrayings 5 none rm_X6_stepStrayings Φ 109 [(0, .ref a0)] [] bh nx 0 0) → Go l b D z yX6_stepStrayings cX6_stepStrayings 5 none rm_X6_stepStrayings Φ 24 [(0, .ref a0), (1, .ref a1), (2, .int a2)] [] h nx 0 0 := by
  intro n
  induction n with
  | zero => intro a2 h e he; cases (show none = some e from he)
  | succ n ih =>
    intro a2 h e he hx0
    obtain ⟨o, ho, h1, h2⟩ := q_lp_succ he
    exact B_X6_stepStrayings_24 l b D z (show b_X6_stepStrayings_24 a0 a1 a2 h = some o from ho) (fun b2 bh hb => ih _ _ e (h1 _ hb) hx0) (fun p0 hr => hx0 p0 (h2 _ hr).symm)
set_option maxRecDepth 100000 in
set_option maxHeartbeats 4000000 in
theorem J_X6_stepStrayings_109 (l : Launch) (b : Nat) (D : va_G) (z : Nat → Nat) {nx : Nat} {h : qH} {a0 : Nat} {r : qH} (hF : j_X6_stepStrayings_109 h a0  = some r) : Go l b D z yX6_stepStrayings cX6_stepStrayings 5 none rm_X6_stepStrayings (qE none r nx) 109 [(0, .ref a0)] [] h nx 0 0 := by
  unfold j_X6_stepStrayings_109 at hF
  refine g_aload_n 0 dX6_stepStrayings_109 rfl ?_
  obtain ⟨x1, e2, hF⟩ := q_bind hF
  refine g_getfR fl_X6_20 e2 dX6_stepStrayings_110 ?_
  refine g_iconst dX6_stepStrayings_113 lt_iconst_0 ?_
  refine g_aload_n 0 dX6_stepStrayings_114 rfl ?_
  obtain ⟨x3, e4, hF⟩ := q_bind hF
  refine g_getfR fl_X6_17 e4 dX6_stepStrayings_115 ?_
  refine g_iconst dX6_stepStrayings_118 lt_iconst_0 ?_
  refine g_bipush dX6_stepStrayings_119 lt_bipush_20 ?_
  obtain ⟨h5, e6, hF⟩ := q_bind hF
  refine g_copyI rfl e6 wd_1026 wd_1028 wd_1027 wd_182 (Nat.le_of_ble_eq_true rfl) (Nat.le_of_ble_eq_true rfl) dX6_stepStrayings_121 ?_
  cases hF
  exact g_vret dX6_stepStrayings_124 rfl ⟨rfl, rfl, rfl⟩ (Nat.le_of_ble_eq_true rfl) (Nat.le_of_ble_eq_true rfl)
set_option maxRecDepth 100000 in
set_option maxHeartbeats 4000000 in
theorem M_X6_stepStrayings (l : Launch) (b : Nat) (D : va_G) (z : Nat → Nat) (nx : Nat) {h : qH} {a0 : Nat} {a1 : Nat} {r : qH} (hF : F_X6_stepStrayings h a0 a1 = some r) : Me l b D z yX6_stepStrayings cX6_stepStrayings 5 none rm_X6_stepStrayings [.ref a0, .ref a1] h nx (qE none r nx) := by
  refine Me.of (by decide +kernel) (Nat.le_of_ble_eq_true rfl) ?_
  show Go l b D z yX6_stepStrayings cX6_stepStrayings 5 none rm_X6_stepStrayings (qE none r nx) 0 [(0, .ref a0), (1, .ref a1)] [] h nx 0 0
  unfold F_X6_stepStrayings at hF
  refine g_iconst dX6_stepStrayings_0 lt_iconst_0 ?_
  refine g_istore_n [(2, .int (0 : Int32)), (0, .ref a0), (1, .ref a1)] dX6_stepStrayings_1 (Nat.le_of_ble_eq_true rfl) rfl ?_
  obtain ⟨e1, w2, hF⟩ := q_bind hF
  refine g_sub [1, 2, 0] rfl ?_
  refine L_X6_stepStrayings_2 l b D z q_N (0 : Int32) h e1 w2 ?_
  · intro h3 w4
    replace w4 := w4.symm
    subst w4
    refine g_iconst dX6_stepStrayings_22 lt_iconst_0 ?_
    refine g_istore_n [(2, .int (0 : Int32)), (0, .ref a0), (1, .ref a1)] dX6_stepStrayings_23 (Nat.le_of_ble_eq_true rfl) rfl ?_
    obtain ⟨e5, w6, hF⟩ := q_bind hF
    refine g_sub [1, 2, 0] rfl ?_
    refine L_X6_stepStrayings_24 l b D z q_N (0 : Int32) h3 e5 w6 ?_
    · intro h7 w8
      replace w8 := w8.symm
      subst w8
      exact J_X6_stepStrayings_109 l b D z hF
def rm_X6_linesUpTo : Room := { frames := 4, cells := 0, slots := 0, locals := 89 }
set_option maxRecDepth 100000 in
set_option maxHeartbeats 4000000 in
theorem B_X6_linesUpTo_3 (l : Launch) (b : Nat) (D : va_G) (z : Nat → Nat) {Φ : Option Value → qH → Nat → Prop} {nx : Nat} {a0 : Nat} {a1 : Nat} {a2 : Int32} {a3 : Int32} {a4 : Int32} {h : qH} {o : (Int32 × qH) ⊕ qH} (hF : b_X6_linesUpTo_3 a0 a1 a2 a3 a4 h = some o) (hback : ∀ (b4 : Int32) (bh : qH), o = .inl (b4, bh) → Go l b D z yX6_linesUpTo cX6_linesUpTo 6 (some .int) rm_X6_linesUpTo Φ 3 [(0, .ref a0), (1, .ref a1), (2, .int a2), (3, .int a3), (4, .int b4)] [] bh nx 0 0) (hx0 : ∀  (bh : qH), o = .inr bh → Go l b D z yX6_linesUpTo cX6_linesUpTo 6 (some .int) rm_X6_linesUpTo Φ 42 [(0, .ref a0), (1, .ref a1), (2, .int a2), (3, .int a3)] [] bh nx 0 0) : Go l b D z yX6_linesUpTo cX6_linesUpTo 6 (some .int) rm_X6_linesUpTo Φ 3 [(0, .ref a0), (1, .ref a1), (2, .int a2), (3, .int a3), (4, .int a4)] [] h nx 0 0 := by
  unfold b_X6_linesUpTo_3 at hF
  refine g_iload 4 dX6_linesUpTo_3 rfl ?_
  refine g_bipush dX6_linesUpTo_5 lt_bipush_20 ?_
  refine g_icmp_ge 42 dX6_linesUpTo_7 (by decide) (fun c1 => ?_) (fun c1 => ?_)
  · replace hF := q_t c1 hF
    cases hF
    refine g_sub [0, 1, 2, 3] rfl ?_
    exact hx0 _ rfl
  · replace hF := q_f c1 hF
    refine g_aload_n 0 dX6_linesUpTo_10 rfl ?_
    obtain ⟨x2, e3, hF⟩ := q_bind hF
    refine g_getfR fl_X6_17 e3 dX6_linesUpTo_11 ?_
    refine g_iload 4 dX6_linesUpTo_14 rfl ?_
    refine g_iload 4 dX6_linesUpTo_16 rfl ?_
    refine g_if_ne 33 dX6_linesUpTo_18 (by decide) (fun c4 => ?_) (fun c4 => ?_)
    · replace hF := q_f c4 hF
      refine g_ldc dX6_linesUpTo_33 wd_992 ?_
      obtain ⟨h5, e6, hF⟩ := q_bind hF
      refine g_iast e6 dX6_linesUpTo_35 ?_
      refine g_iinc [(4, .int (a4 + 1)), (0, .ref a0), (1, .ref a1), (2, .int a2), (3, .int a3)] 4 dX6_linesUpTo_36 rfl (congrArg (a4 + ·) lt_iconst_1) (Nat.le_of_ble_eq_true rfl) rfl ?_
      refine g_goto 3 dX6_linesUpTo_39 (by decide) ?_
      cases hF
      refine g_sub [1, 2, 3, 4, 0] rfl ?_
      exact hback _ _ rfl
    · replace hF := q_t c4 hF
      refine g_aload_n 1 dX6_linesUpTo_21 rfl ?_
      refine g_iconst dX6_linesUpTo_22 lt_iconst_0 ?_
      obtain ⟨u7, e8, hF⟩ := q_bind hF
      obtain ⟨x9, e10, hF⟩ := q_bind hF
      refine g_callVr0 (ci := 0) (q := (RX0, TX0, 15)) qm_X0_has wd_987 wd_783 wd_784 rfl e8 (M_X0_has l b D z nx e10) (As := [.int (0 : Int32)]) rfl rfl (Nat.le_of_ble_eq_true rfl) ⟨(Nat.le_of_ble_eq_true rfl), (Nat.le_of_ble_eq_true rfl)⟩ ⟨rfl, rfl⟩ ⟨(Nat.le_of_ble_eq_true rfl), (Nat.le_of_ble_eq_true rfl)⟩ dX6_linesUpTo_23 ?_
      refine g_if_eq 33 dX6_linesUpTo_26 (by decide) (fun c11 => ?_) (fun c11 => ?_)
      · replace hF := q_t c11 hF
        refine g_ldc dX6_linesUpTo_33 wd_992 ?_
        obtain ⟨h12, e13, hF⟩ := q_bind hF
        refine g_iast e13 dX6_linesUpTo_35 ?_
        refine g_iinc [(4, .int (a4 + 1)), (0, .ref a0), (1, .ref a1), (2, .int a2), (3, .int a3)] 4 dX6_linesUpTo_36 rfl (congrArg (a4 + ·) lt_iconst_1) (Nat.le_of_ble_eq_true rfl) rfl ?_
        refine g_goto 3 dX6_linesUpTo_39 (by decide) ?_
        cases hF
        refine g_sub [1, 2, 3, 4, 0] rfl ?_
        exact hback _ _ rfl
      · replace hF := q_f c11 hF
        refine g_iconst dX6_linesUpTo_29 lt_iconst_0 ?_
        refine g_goto 35 dX6_linesUpTo_30 (by decide) ?_
        obtain ⟨h14, e15, hF⟩ := q_bind hF
        refine g_iast e15 dX6_linesUpTo_35 ?_
        refine g_iinc [(4, .int (a4 + 1)), (0, .ref a0), (1, .ref a1), (2, .int a2), (3, .int a3)] 4 dX6_linesUpTo_36 rfl (congrArg (a4 + ·) lt_iconst_1) (Nat.le_of_ble_eq_true rfl) rfl ?_
        refine g_goto 3 dX6_linesUpTo_39 (by decide) ?_
        cases hF
        refine g_sub [1, 2, 3, 4, 0] rfl ?_
        exact hback _ _ rfl
set_option maxRecDepth 100000 in
set_option maxHeartbeats 4000000 in
theorem L_X6_linesUpTo_3 (l : Launch) (b : Nat) (D : va_G) (z : Nat → Nat) {Φ : Option Value → qH → Nat → Prop} {nx : Nat} {a0 : Nat} {a1 : Nat} {a2 : Int32} {a3 : Int32} : ∀ (n : Nat) (a4 : Int32) (h : qH) (e : qH), q_lp (s_X6_linesUpTo_3 a0 a1 a2 a3) n (a4, h) = some e → (∀  (bh : qH), e = bh → Go l b D z yX6_linesUpTo cX6_linesUpTo 6 (some .int) rm_X6_linesUpTo Φ 42 [(0, .ref a0), (1, .ref a1), (2, .int a2), (3, .int a3)] [] bh nx 0 0) → Go l b D z yX6_linesUpTo cX6_linesUpTo 6 (some .int) rm_X6_linesUpTo Φ 3 [(0, .ref a0), (1, .ref a1), (2, .int a2), (3, .int a3), (4, .int a4)] [] h nx 0 0 := by
  intro n
  induction n with
  | zero => intro a4 h e he; cases (show none = some e from he)
  | succ n ih =>
    intro a4 h e he hx0
    obtain ⟨o, ho, h1, h2⟩ := q_lp_succ he
    exact B_X6_linesUpTo_3 l b D z (show b_X6_linesUpTo_3 a0 a1 a2 a3 a4 h = some o from ho) (fun b4 bh hb => ih _ _ e (h1 _ hb) hx0) (fun p0 hr => hx0 p0 (h2 _ hr).symm)
set_option maxRecDepth 100000 in
set_option maxHeartbeats 4000000 in
theorem B_X6_linesUpTo_55 (l : Launch) (b : Nat) (D : va_G) (z : Nat → Nat) {Φ : Option Value → qH → Nat → Prop} {nx : Nat} {h : qH} {a0 : Nat} {a1 : Nat} {a2 : Int32} {a3 : Int32} {a4 : Int32} {a5 : Int32} {o : Int32 ⊕ (Unit ⊕ Unit)} (hF : b_X6_linesUpTo_55 h a0 a1 a2 a3 a4 a5 = some o) (hback : ∀ (b5 : Int32), o = .inl b5 → Go l b D z yX6_linesUpTo cX6_linesUpTo 6 (some .int) rm_X6_linesUpTo Φ 55 [(0, .ref a0), (1, .ref a1), (2, .int a2), (3, .int a3), (4, .int a4), (5, .int b5)] [] h nx 0 0) (hx0 : o = .inr (.inl ()) → Go l b D z yX6_linesUpTo cX6_linesUpTo 6 (some .int) rm_X6_linesUpTo Φ 92 [(4, .int a4)] [] h nx 0 0) (hx1 : o = .inr (.inr ()) → Go l b D z yX6_linesUpTo cX6_linesUpTo 6 (some .int) rm_X6_linesUpTo Φ 101 [(0, .ref a0), (1, .ref a1), (2, .int a2), (3, .int a3), (4, .int a4)] [] h nx 0 0) : Go l b D z yX6_linesUpTo cX6_linesUpTo 6 (some .int) rm_X6_linesUpTo Φ 55 [(0, .ref a0), (1, .ref a1), (2, .int a2), (3, .int a3), (4, .int a4), (5, .int a5)] [] h nx 0 0 := by
  unfold b_X6_linesUpTo_55 at hF
  refine g_iload 5 dX6_linesUpTo_55 rfl ?_
  refine g_aload_n 1 dX6_linesUpTo_57 rfl ?_
  obtain ⟨x1, e2, hF⟩ := q_bind hF
  refine g_getfI fl_X6_40 e2 dX6_linesUpTo_58 ?_
  refine g_icmp_ge 101 dX6_linesUpTo_61 (by decide) (fun c3 => ?_) (fun c3 => ?_)
  · replace hF := q_t c3 hF
    cases hF
    refine g_sub [0, 1, 2, 3, 4] rfl ?_
    exact hx1  rfl
  · replace hF := q_f c3 hF
    refine g_iload 5 dX6_linesUpTo_64 rfl ?_
    refine g_bipush dX6_linesUpTo_66 lt_bipush_20 ?_
    refine g_icmp_ge 101 dX6_linesUpTo_68 (by decide) (fun c4 => ?_) (fun c4 => ?_)
    · replace hF := q_t c4 hF
      cases hF
      refine g_sub [0, 1, 2, 3, 4] rfl ?_
      exact hx1  rfl
    · replace hF := q_f c4 hF
      refine g_aload_n 0 dX6_linesUpTo_71 rfl ?_
      obtain ⟨x5, e6, hF⟩ := q_bind hF
      refine g_getfR fl_X6_17 e6 dX6_linesUpTo_72 ?_
      refine g_iload 5 dX6_linesUpTo_75 rfl ?_
      obtain ⟨x7, e8, hF⟩ := q_bind hF
      refine g_iald e8 dX6_linesUpTo_77 ?_
      refine g_iload_n 3 dX6_linesUpTo_78 rfl ?_
      refine g_icmp_gt 95 dX6_linesUpTo_79 (by decide) (fun c9 => ?_) (fun c9 => ?_)
      · replace hF := q_t c9 hF
        refine g_iinc [(5, .int (a5 + 1)), (0, .ref a0), (1, .ref a1), (2, .int a2), (3, .int a3), (4, .int a4)] 5 dX6_linesUpTo_95 rfl (congrArg (a5 + ·) lt_iconst_1) (Nat.le_of_ble_eq_true rfl) rfl ?_
        refine g_goto 55 dX6_linesUpTo_98 (by decide) ?_
        cases hF
        refine g_sub [1, 2, 3, 4, 5, 0] rfl ?_
        exact hback _ rfl
      · replace hF := q_f c9 hF
        refine g_aload_n 1 dX6_linesUpTo_82 rfl ?_
        refine g_iload 5 dX6_linesUpTo_83 rfl ?_
        obtain ⟨u10, e11, hF⟩ := q_bind hF
        obtain ⟨x12, e13, hF⟩ := q_bind hF
        refine g_callVr0 (ci := 0) (q := (RX0, TX0, 15)) qm_X0_sceneOf wd_988 wd_989 wd_990 rfl e11 (M_X0_sceneOf l b D z nx e13) (As := [.int a5]) rfl rfl (Nat.le_of_ble_eq_true rfl) ⟨(Nat.le_of_ble_eq_true rfl), (Nat.le_of_ble_eq_true rfl)⟩ ⟨rfl, rfl⟩ ⟨(Nat.le_of_ble_eq_true rfl), (Nat.le_of_ble_eq_true rfl)⟩ dX6_linesUpTo_85 ?_
        refine g_iload_n 2 dX6_linesUpTo_88 rfl ?_
        refine g_icmp_ne 95 dX6_linesUpTo_89 (by decide) (fun c14 => ?_) (fun c14 => ?_)
        · replace hF := q_f c14 hF
          refine g_iinc [(5, .int (a5 + 1)), (0, .ref a0), (1, .ref a1), (2, .int a2), (3, .int a3), (4, .int a4)] 5 dX6_linesUpTo_95 rfl (congrArg (a5 + ·) lt_iconst_1) (Nat.le_of_ble_eq_true rfl) rfl ?_
          refine g_goto 55 dX6_linesUpTo_98 (by decide) ?_
          cases hF
          refine g_sub [1, 2, 3, 4, 5, 0] rfl ?_
          exact hback _ rfl
        · replace hF := q_t c14 hF
          cases hF
          refine g_sub [4] rfl ?_
          exact hx0  rfl
set_option maxRecDepth 100000 in
set_option maxHeartbeats 4000000 in
theorem L_X6_linesUpTo_55 (l : Launch) (b : Nat) (D : va_G) (z : Nat → Nat) {Φ : Option Value → qH → Nat → Prop} {nx : Nat} {h : qH} {a0 : Nat} {a1 : Nat} {a2 : Int32} {a3 : Int32} {a4 : Int32} : ∀ (n : Nat) (a5 : Int32) (e : Unit ⊕ Unit), q_lp (s_X6_linesUpTo_55 h a0 a1 a2 a3 a4) n a5 = some e → (e = (.inl ()) → Go l b D z yX6_linesUpTo cX6_linesUpTo 6 (some .int) rm_X6_linesUpTo Φ 92 [(4, .int a4)] [] h nx 0 0) → (e = (.inr ()) → Go l b D z yX6_linesUpTo cX6_linesUpTo 6 (some .int) rm_X6_linesUpTo Φ 101 [(0, .ref a0), (1, .ref a1), (2, .int a2), (3, .int a3), (4, .int a4)] [] h nx 0 0) → Go l b D z yX6_linesUpTo cX6_linesUpTo 6 (some .int) rm_X6_linesUpTo Φ 55 [(0, .ref a0), (1, .ref a1), (2, .int a2), (3, .int a3), (4, .int a4), (5, .int a5)] [] h nx 0 0 := by
  intro n
  induction n with
  | zero => intro a5 e he; cases (show none = some e from he)
  | succ n ih =>
    intro a5 e he hx0 hx1
    obtain ⟨o, ho, h1, h2⟩ := q_lp_succ he
    exact B_X6_linesUpTo_55 l b D z (show b_X6_linesUpTo_55 h a0 a1 a2 a3 a4 a5 = some o from ho) (fun b5 hb => ih _ e (h1 _ hb) hx0 hx1) (fun  hr => hx0  (h2 _ hr).symm) (fun  hr => hx1  (h2 _ hr).symm)
set_option maxRecDepth 100000 in
set_option maxHeartbeats 4000000 in
theorem B_X6_linesUpTo_45 (l : Launch) (b : Nat) (D : va_G) (z : Nat → Nat) {Φ : Option Value → qH → Nat → Prop} {nx : Nat} {a0 : Nat} {a1 : Nat} {a2 : Int32} {a3 : Int32} {a4 : Int32} {h : qH} {o : (Int32 × qH) ⊕ ((Int32 × qH) ⊕ qH)} (hF : b_X6_linesUpTo_45 a0 a1 a2 a3 a4 h = some o) (hback : ∀ (b4 : Int32) (bh : qH), o = .inl (b4, bh) → Go l b D z yX6_linesUpTo cX6_linesUpTo 6 (some .int) rm_X6_linesUpTo Φ 45 [(0, .ref a0), (1, .ref a1), (2, .int a2), (3, .int a3), (4, .int b4)] [] bh nx 0 0) (hx0 : ∀ (b4 : Int32) (bh : qH), o = .inr (.inl (b4, bh)) → Go l b D z yX6_linesUpTo cX6_linesUpTo 6 (some .int) rm_X6_linesUpTo Φ 92 [(4, .int b4)] [] bh nx 0 0) (hx1 : ∀  (bh : qH), o = .inr (.inr bh) → Go l b D z yX6_linesUpTo cX6_linesUpTo 6 (some .int) rm_X6_linesUpTo Φ 112 [] [] bh nx 0 0) : Go l b D z yX6_linesUpTo cX6_linesUpTo 6 (some .int) rm_X6_linesUpTo Φ 45 [(0, .ref a0), (1, .ref a1), (2, .int a2), (3, .int a3), (4, .int a4)] [] h nx 0 0 := by
  unfold b_X6_linesUpTo_45 at hF
  refine g_iload 4 dX6_linesUpTo_45 rfl ?_
  refine g_bipush dX6_linesUpTo_47 lt_bipush_20 ?_
  refine g_icmp_gt 112 dX6_linesUpTo_49 (by decide) (fun c1 => ?_) (fun c1 => ?_)
  · replace hF := q_t c1 hF
    cases hF
    refine g_sub [] rfl ?_
    exact hx1 _ rfl
  · replace hF := q_f c1 hF
    refine g_iconst dX6_linesUpTo_52 lt_iconst_0 ?_
    refine g_istore [(5, .int (0 : Int32)), (0, .ref a0), (1, .ref a1), (2, .int a2), (3, .int a3), (4, .int a4)] dX6_linesUpTo_53 (Nat.le_of_ble_eq_true rfl) rfl ?_
    obtain ⟨e2, w3, hF⟩ := q_bind hF
    refine g_sub [1, 2, 3, 4, 5, 0] rfl ?_
    refine L_X6_linesUpTo_55 l b D z q_N (0 : Int32) e2 w3 ?_ ?_
    · intro  w4
      replace w4 := w4.symm
      subst w4
      replace hF := q_sl hF
      cases hF
      exact hx0 _ _ rfl
    · intro  w6
      replace w6 := w6.symm
      subst w6
      replace hF := q_sr hF
      refine g_aload_n 0 dX6_linesUpTo_101 rfl ?_
      refine g_aload_n 1 dX6_linesUpTo_102 rfl ?_
      obtain ⟨u7, e8, hF⟩ := q_bind hF
      obtain ⟨x9, e10, hF⟩ := q_bind hF
      refine g_callVv0 (ci := 6) (q := (RX6, TX6, 7)) qm_X6_stepStrayings wd_1022 wd_1024 wd_37 rfl e8 (M_X6_stepStrayings l b D z nx e10) (As := [.ref a1]) rfl rfl (Nat.le_of_ble_eq_true rfl) ⟨(Nat.le_of_ble_eq_true rfl), (Nat.le_of_ble_eq_true rfl)⟩ ⟨rfl, rfl⟩ ⟨(Nat.le_of_ble_eq_true rfl), (Nat.le_of_ble_eq_true rfl)⟩ dX6_linesUpTo_103 ?_
      refine g_iinc [(4, .int (a4 + 1)), (0, .ref a0), (1, .ref a1), (2, .int a2), (3, .int a3)] 4 dX6_linesUpTo_106 rfl (congrArg (a4 + ·) lt_iconst_1) (Nat.le_of_ble_eq_true rfl) rfl ?_
      refine g_goto 45 dX6_linesUpTo_109 (by decide) ?_
      cases hF
      refine g_sub [1, 2, 3, 4, 0] rfl ?_
      exact hback _ _ rfl
set_option maxRecDepth 100000 in
set_option maxHeartbeats 4000000 in
theorem L_X6_linesUpTo_45 (l : Launch) (b : Nat) (D : va_G) (z : Nat → Nat) {Φ : Option Value → qH → Nat → Prop} {nx : Nat} {a0 : Nat} {a1 : Nat} {a2 : Int32} {a3 : Int32} : ∀ (n : Nat) (a4 : Int32) (h : qH) (e : (Int32 × qH) ⊕ qH), q_lp (s_X6_linesUpTo_45 a0 a1 a2 a3) n (a4, h) = some e → (∀ (b4 : Int32) (bh : qH), e = (.inl (b4, bh)) → Go l b D z yX6_linesUpTo cX6_linesUpTo 6 (some .int) rm_X6_linesUpTo Φ 92 [(4, .int b4)] [] bh nx 0 0) → (∀  (bh : qH), e = (.inr bh) → Go l b D z yX6_linesUpTo cX6_linesUpTo 6 (some .int) rm_X6_linesUpTo Φ 112 [] [] bh nx 0 0) → Go l b D z yX6_linesUpTo cX6_linesUpTo 6 (some .int) rm_X6_linesUpTo Φ 45 [(0, .ref a0), (1, .ref a1), (2, .int a2), (3, .int a3), (4, .int a4)] [] h nx 0 0 := by
  intro n
  induction n with
  | zero => intro a4 h e he; cases (show none = some e from he)
  | succ n ih =>
    intro a4 h e he hx0 hx1
    obtain ⟨o, ho, h1, h2⟩ := q_lp_succ he
    exact B_X6_linesUpTo_45 l b D z (show b_X6_linesUpTo_45 a0 a1 a2 a3 a4 h = some o from ho) (fun b4 bh hb => ih _ _ e (h1 _ hb) hx0 hx1) (fun p0 p1 hr => hx0 p0 p1 (h2 _ hr).symm) (fun p0 hr => hx1 p0 (h2 _ hr).symm)
set_option maxRecDepth 100000 in
set_option maxHeartbeats 4000000 in
theorem M_X6_linesUpTo (l : Launch) (b : Nat) (D : va_G) (z : Nat → Nat) (nx : Nat) {h : qH} {a0 : Nat} {a1 : Nat} {a2 : Int32} {a3 : Int32} {r : Int32 × qH} (hF : F_X6_linesUpTo h a0 a1 a2 a3 = some r) : Me l b D z yX6_linesUpTo cX6_linesUpTo 6 (some .int) rm_X6_linesUpTo [.ref a0, .ref a1, .int a2, .int a3] h nx (qE (some (.int r.1)) r.2 nx) := by
  refine Me.of (by decide +kernel) (Nat.le_of_ble_eq_true rfl) ?_
  show Go l b D z yX6_linesUpTo cX6_linesUpTo 6 (some .int) rm_X6_linesUpTo (qE (some (.int r.1)) r.2 nx) 0 [(0, .ref a0), (1, .ref a1), (2, .int a2), (3, .int a3)] [] h nx 0 0
  unfold F_X6_linesUpTo at hF
  refine g_iconst dX6_linesUpTo_0 lt_iconst_0 ?_
  refine g_istore [(4, .int (0 : Int32)), (0, .ref a0), (1, .ref a1), (2, .int a2), (3, .int a3)] dX6_linesUpTo_1 (Nat.le_of_ble_eq_true rfl) rfl ?_
  obtain ⟨e1, w2, hF⟩ := q_bind hF
  refine g_sub [1, 2, 3, 4, 0] rfl ?_
  refine L_X6_linesUpTo_3 l b D z q_N (0 : Int32) h e1 w2 ?_
  · intro h3 w4
    replace w4 := w4.symm
    subst w4
    refine g_iconst dX6_linesUpTo_42 lt_iconst_1 ?_
    refine g_istore [(4, .int (1 : Int32)), (0, .ref a0), (1, .ref a1), (2, .int a2), (3, .int a3)] dX6_linesUpTo_43 (Nat.le_of_ble_eq_true rfl) rfl ?_
    obtain ⟨e5, w6, hF⟩ := q_bind hF
    refine g_sub [1, 2, 3, 4, 0] rfl ?_
    refine L_X6_linesUpTo_45 l b D z q_N (1 : Int32) h3 e5 w6 ?_ ?_
    · intro o7 h8 w9
      replace w9 := w9.symm
      subst w9
      replace hF := q_sl hF
      dsimp only at hF
      refine g_iload 0 dX6_linesUpTo_92 rfl ?_
      cases hF
      exact g_iret dX6_linesUpTo_94 rfl ⟨rfl, rfl, rfl⟩ (Nat.le_of_ble_eq_true rfl) (Nat.le_of_ble_eq_true rfl)
    · intro h11 w12
      replace w12 := w12.symm
      subst w12
      replace hF := q_sr hF
      refine g_iconst dX6_linesUpTo_112 lt_iconst_m1 ?_
      cases hF
      exact g_iret dX6_linesUpTo_113 rfl ⟨rfl, rfl, rfl⟩ (Nat.le_of_ble_eq_true rfl) (Nat.le_of_ble_eq_true rfl)
def rm_X6_saidBy : Room := { frames := 1, cells := 0, slots := 0, locals := 21 }
set_option maxRecDepth 100000 in
set_option maxHeartbeats 4000000 in
theorem J_X6_saidBy_18 (l : Launch) (b : Nat) (D : va_G) (z : Nat → Nat) {nx : Nat} {h : qH} {a3 : Int32} {a4 : Int32} {t0 : Int32} {r : Int32} (hF : j_X6_saidBy_18 h a3 a4 t0 = some r) : Go l b D z yX6_saidBy cX6_saidBy 5 (some .int) rm_X6_saidBy (qE (some (.int r)) h nx) 18 [(3, .int a3), (4, .int a4)] [.int t0] h nx 0 0 := by
  unfold j_X6_saidBy_18 at hF
  refine g_iload 1 dX6_saidBy_18 rfl ?_
  refine g_iload_n 0 dX6_saidBy_20 rfl ?_
  refine g_icmp_ne 28 dX6_saidBy_21 (by decide) (fun c1 => ?_) (fun c1 => ?_)
  · replace hF := q_f c1 hF
    refine g_iconst dX6_saidBy_28 lt_iconst_0 ?_
    refine g_ior dX6_saidBy_29 ?_
    cases hF
    exact g_iret dX6_saidBy_30 rfl ⟨rfl, rfl, rfl⟩ (Nat.le_of_ble_eq_true rfl) (Nat.le_of_ble_eq_true rfl)
  · replace hF := q_t c1 hF
    refine g_iconst dX6_saidBy_24 lt_iconst_2 ?_
    refine g_goto 29 dX6_saidBy_25 (by decide) ?_
    refine g_ior dX6_saidBy_29 ?_
    cases hF
    exact g_iret dX6_saidBy_30 rfl ⟨rfl, rfl, rfl⟩ (Nat.le_of_ble_eq_true rfl) (Nat.le_of_ble_eq_true rfl)
set_option maxRecDepth 100000 in
set_option maxHeartbeats 4000000 in
theorem M_X6_saidBy (l : Launch) (b : Nat) (D : va_G) (z : Nat → Nat) (nx : Nat) {h : qH} {a0 : Nat} {a1 : Int32} {a2 : Int32} {a3 : Int32} {r : Int32} (hF : F_X6_saidBy h a0 a1 a2 a3 = some r) : Me l b D z yX6_saidBy cX6_saidBy 5 (some .int) rm_X6_saidBy [.ref a0, .int a1, .int a2, .int a3] h nx (qE (some (.int r)) h nx) := by
  refine Me.of (by decide +kernel) (Nat.le_of_ble_eq_true rfl) ?_
  show Go l b D z yX6_saidBy cX6_saidBy 5 (some .int) rm_X6_saidBy (qE (some (.int r)) h nx) 0 [(0, .ref a0), (1, .int a1), (2, .int a2), (3, .int a3)] [] h nx 0 0
  unfold F_X6_saidBy at hF
  refine g_aload_n 0 dX6_saidBy_0 rfl ?_
  refine g_iload_n 1 dX6_saidBy_1 rfl ?_
  obtain ⟨u1, e2, hF⟩ := q_bind hF
  obtain ⟨x3, e4, hF⟩ := q_bind hF
  refine g_callVr0 (ci := 0) (q := (RX0, TX0, 15)) qm_X0_whoSays wd_1041 wd_931 wd_932 rfl e2 (M_X0_whoSays l b D z nx e4) (As := [.int a1]) rfl rfl (Nat.le_of_ble_eq_true rfl) ⟨(Nat.le_of_ble_eq_true rfl), (Nat.le_of_ble_eq_true rfl)⟩ ⟨rfl, rfl⟩ ⟨(Nat.le_of_ble_eq_true rfl), (Nat.le_of_ble_eq_true rfl)⟩ dX6_saidBy_2 ?_
  refine g_istore [(4, .int x3), (0, .ref a0), (1, .int a1), (2, .int a2), (3, .int a3)] dX6_saidBy_5 (Nat.le_of_ble_eq_true rfl) rfl ?_
  refine g_iload 0 dX6_saidBy_7 rfl ?_
  refine g_iload_n 3 dX6_saidBy_9 rfl ?_
  refine g_icmp_ne 17 dX6_saidBy_10 (by decide) (fun c5 => ?_) (fun c5 => ?_)
  · replace hF := q_f c5 hF
    refine g_iconst dX6_saidBy_17 lt_iconst_0 ?_
    refine g_sub [4, 0] rfl ?_
    exact J_X6_saidBy_18 l b D z hF
  · replace hF := q_t c5 hF
    refine g_iconst dX6_saidBy_13 lt_iconst_1 ?_
    refine g_goto 18 dX6_saidBy_14 (by decide) ?_
    refine g_sub [4, 0] rfl ?_
    exact J_X6_saidBy_18 l b D z hF
def rm_X6_stepTogether : Room := { frames := 2, cells := 0, slots := 0, locals := 45 }
set_option maxRecDepth 100000 in
set_option maxHeartbeats 4000000 in
theorem B_X6_stepTogether_3 (l : Launch) (b : Nat) (D : va_G) (z : Nat → Nat) {Φ : Option Value → qH → Nat → Prop} {nx : Nat} {a0 : Nat} {a1 : Nat} {a2 : Int32} {a3 : Int32} {a4 : Int32} {h : qH} {o : (Int32 × qH) ⊕ qH} (hF : b_X6_stepTogether_3 a0 a1 a2 a3 a4 h = some o) (hback : ∀ (b4 : Int32) (bh : qH), o = .inl (b4, bh) → Go l b D z yX6_stepTogether cX6_stepTogether 8 none rm_X6_stepTogether Φ 3 [(0, .ref a0), (1, .ref a1), (2, .int a2), (3, .int a3), (4, .int b4)] [] bh nx 0 0) (hx0 : ∀  (bh : qH), o = .inr bh → Go l b D z yX6_stepTogether cX6_stepTogether 8 none rm_X6_stepTogether Φ 23 [(0, .ref a0), (1, .ref a1), (2, .int a2), (3, .int a3)] [] bh nx 0 0) : Go l b D z yX6_stepTogether cX6_stepTogether 8 none rm_X6_stepTogether Φ 3 [(0, .ref a0), (1, .ref a1), (2, .int a2), (3, .int a3), (4, .int a4)] [] h nx 0 0 := by
  unfold b_X6_stepTogether_3 at hF
  refine g_iload 4 dX6_stepTogether_3 rfl ?_
  refine g_iconst dX6_stepTogether_5 lt_iconst_4 ?_
  refine g_icmp_ge 23 dX6_stepTogether_6 (by decide) (fun c1 => ?_) (fun c1 => ?_)
  · replace hF := q_t c1 hF
    cases hF
    refine g_sub [0, 1, 2, 3] rfl ?_
    exact hx0 _ rfl
  · replace hF := q_f c1 hF
    refine g_aload_n 0 dX6_stepTogether_9 rfl ?_
    obtain ⟨x2, e3, hF⟩ := q_bind hF
    refine g_getfR fl_X6_33 e3 dX6_stepTogether_10 ?_
    refine g_iload 4 dX6_stepTogether_13 rfl ?_
    refine g_iconst dX6_stepTogether_15 lt_iconst_0 ?_
    obtain ⟨h4, e5, hF⟩ := q_bind hF
    refine g_iast e5 dX6_stepTogether_16 ?_
    refine g_iinc [(4, .int (a4 + 1)), (0, .ref a0), (1, .ref a1), (2, .int a2), (3, .int a3)] 4 dX6_stepTogether_17 rfl (congrArg (a4 + ·) lt_iconst_1) (Nat.le_of_ble_eq_true rfl) rfl ?_
    refine g_goto 3 dX6_stepTogether_20 (by decide) ?_
    cases hF
    refine g_sub [1, 2, 3, 4, 0] rfl ?_
    exact hback _ _ rfl
set_option maxRecDepth 100000 in
set_option maxHeartbeats 4000000 in
theorem L_X6_stepTogether_3 (l : Launch) (b : Nat) (D : va_G) (z : Nat → Nat) {Φ : Option Value → qH → Nat → Prop} {nx : Nat} {a0 : Nat} {a1 : Nat} {a2 : Int32} {a3 : Int32} : ∀ (n : Nat) (a4 : Int32) (h : qH) (e : qH), q_lp (s_X6_stepTogether_3 a0 a1 a2 a3) n (a4, h) = some e → (∀  (bh : qH), e = bh → Go l b D z yX6_stepTogether cX6_stepTogether 8 none rm_X6_stepTogether Φ 23 [(0, .ref a0), (1, .ref a1), (2, .int a2), (3, .int a3)] [] bh nx 0 0) → Go l b D z yX6_stepTogether cX6_stepTogether 8 none rm_X6_stepTogether Φ 3 [(0, .ref a0), (1, .ref a1), (2, .int a2), (3, .int a3), (4, .int a4)] [] h nx 0 0 := by
  intro n
  induction n with
  | zero => intro a4 h e he; cases (show none = some e from he)
  | succ n ih =>
    intro a4 h e he hx0
    obtain ⟨o, ho, h1, h2⟩ := q_lp_succ he
    exact B_X6_stepTogether_3 l b D z (show b_X6_stepTogether_3 a0 a1 a2 a3 a4 h = some o from ho) (fun b4 bh hb => ih _ _ e (h1 _ hb) hx0) (fun p0 hr => hx0 p0 (h2 _ hr).symm)
set_option maxRecDepth 100000 in
set_option maxHeartbeats 4000000 in
theorem B_X6_stepTogether_65 (l : Launch) (b : Nat) (D : va_G) (z : Nat → Nat) {Φ : Option Value → qH → Nat → Prop} {nx : Nat} {a0 : Nat} {a1 : Nat} {a2 : Int32} {a3 : Int32} {a4 : Int32} {a5 : Int32} {a6 : Int32} {h : qH} {o : (Int32 × qH) ⊕ qH} (hF : b_X6_stepTogether_65 a0 a1 a2 a3 a4 a5 a6 h = some o) (hback : ∀ (b6 : Int32) (bh : qH), o = .inl (b6, bh) → Go l b D z yX6_stepTogether cX6_stepTogether 8 none rm_X6_stepTogether Φ 65 [(0, .ref a0), (1, .ref a1), (2, .int a2), (3, .int a3), (4, .int a4), (5, .int a5), (6, .int b6)] [] bh nx 0 0) (hx0 : ∀  (bh : qH), o = .inr bh → Go l b D z yX6_stepTogether cX6_stepTogether 8 none rm_X6_stepTogether Φ 124 [(0, .ref a0), (1, .ref a1), (2, .int a2), (3, .int a3), (4, .int a4), (5, .int a5)] [] bh nx 0 0) : Go l b D z yX6_stepTogether cX6_stepTogether 8 none rm_X6_stepTogether Φ 65 [(0, .ref a0), (1, .ref a1), (2, .int a2), (3, .int a3), (4, .int a4), (5, .int a5), (6, .int a6)] [] h nx 0 0 := by
  unfold b_X6_stepTogether_65 at hF
  refine g_iload 6 dX6_stepTogether_65 rfl ?_
  refine g_aload_n 1 dX6_stepTogether_67 rfl ?_
  refine g_iload 5 dX6_stepTogether_68 rfl ?_
  obtain ⟨u1, e2, hF⟩ := q_bind hF
  obtain ⟨x3, e4, hF⟩ := q_bind hF
  refine g_callVr0 (ci := 0) (q := (RX0, TX0, 15)) qm_X0_howManyFollow wd_997 wd_791 wd_792 rfl e2 (M_X0_howManyFollow l b D z nx e4) (As := [.int a5]) rfl rfl (Nat.le_of_ble_eq_true rfl) ⟨(Nat.le_of_ble_eq_true rfl), (Nat.le_of_ble_eq_true rfl)⟩ ⟨rfl, rfl⟩ ⟨(Nat.le_of_ble_eq_true rfl), (Nat.le_of_ble_eq_true rfl)⟩ dX6_stepTogether_70 ?_
  refine g_icmp_ge 124 dX6_stepTogether_73 (by decide) (fun c5 => ?_) (fun c5 => ?_)
  · replace hF := q_t c5 hF
    cases hF
    refine g_sub [0, 1, 2, 3, 4, 5] rfl ?_
    exact hx0 _ rfl
  · replace hF := q_f c5 hF
    refine g_aload_n 1 dX6_stepTogether_76 rfl ?_
    refine g_iload 5 dX6_stepTogether_77 rfl ?_
    refine g_iload 6 dX6_stepTogether_79 rfl ?_
    obtain ⟨u6, e7, hF⟩ := q_bind hF
    obtain ⟨x8, e9, hF⟩ := q_bind hF
    refine g_callVr0 (ci := 0) (q := (RX0, TX0, 15)) qm_X0_following wd_998 wd_795 wd_796 rfl e7 (M_X0_following l b D z nx e9) (As := [.int a5, .int a6]) rfl rfl (Nat.le_of_ble_eq_true rfl) ⟨(Nat.le_of_ble_eq_true rfl), (Nat.le_of_ble_eq_true rfl)⟩ ⟨rfl, rfl⟩ ⟨(Nat.le_of_ble_eq_true rfl), (Nat.le_of_ble_eq_true rfl)⟩ dX6_stepTogether_81 ?_
    refine g_istore [(7, .int x8), (0, .ref a0), (1, .ref a1), (2, .int a2), (3, .int a3), (4, .int a4), (5, .int a5), (6, .int a6)] dX6_stepTogether_84 (Nat.le_of_ble_eq_true rfl) rfl ?_
    refine g_aload_n 2 dX6_stepTogether_86 rfl ?_
    refine g_iload 0 dX6_stepTogether_87 rfl ?_
    obtain ⟨u10, e11, hF⟩ := q_bind hF
    obtain ⟨x12, e13, hF⟩ := q_bind hF
    refine g_callVr0 (ci := 0) (q := (RX0, TX0, 15)) qm_X0_has wd_987 wd_783 wd_784 rfl e11 (M_X0_has l b D z nx e13) (As := [.int x8]) rfl rfl (Nat.le_of_ble_eq_true rfl) ⟨(Nat.le_of_ble_eq_true rfl), (Nat.le_of_ble_eq_true rfl)⟩ ⟨rfl, rfl⟩ ⟨(Nat.le_of_ble_eq_true rfl), (Nat.le_of_ble_eq_true rfl)⟩ dX6_stepTogether_89 ?_
    refine g_if_eq 118 dX6_stepTogether_92 (by decide) (fun c14 => ?_) (fun c14 => ?_)
    · replace hF := q_t c14 hF
      refine g_iinc [(6, .int (a6 + 1)), (7, .int x8), (0, .ref a0), (1, .ref a1), (2, .int a2), (3, .int a3), (4, .int a4), (5, .int a5)] 7 dX6_stepTogether_118 rfl (congrArg (a6 + ·) lt_iconst_1) (Nat.le_of_ble_eq_true rfl) rfl ?_
      refine g_goto 65 dX6_stepTogether_121 (by decide) ?_
      cases hF
      refine g_sub [2, 3, 4, 5, 6, 7, 0] rfl ?_
      exact hback _ _ rfl
    · replace hF := q_f c14 hF
      refine g_aload_n 1 dX6_stepTogether_95 rfl ?_
      obtain ⟨x15, e16, hF⟩ := q_bind hF
      refine g_getfR fl_X6_33 e16 dX6_stepTogether_96 ?_
      refine g_iload 5 dX6_stepTogether_99 rfl ?_
      refine g_aload_n 2 dX6_stepTogether_101 rfl ?_
      refine g_iload 0 dX6_stepTogether_102 rfl ?_
      refine g_iload_n 3 dX6_stepTogether_104 rfl ?_
      refine g_iload_n 4 dX6_stepTogether_105 rfl ?_
      obtain ⟨x17, e18, hF⟩ := q_bind hF
      refine g_callSr0 qm_X6_saidBy wd_1038 wd_1039 (M_X6_saidBy l b D z nx e18) (As := [.ref a1, .int x8, .int a2, .int a3]) rfl rfl (Nat.le_of_ble_eq_true rfl) ⟨(Nat.le_of_ble_eq_true rfl), (Nat.le_of_ble_eq_true rfl)⟩ ⟨rfl, rfl⟩ ⟨(Nat.le_of_ble_eq_true rfl), (Nat.le_of_ble_eq_true rfl)⟩ dX6_stepTogether_106 ?_
      refine g_ior dX6_stepTogether_109 ?_
      refine g_dup2 dX6_stepTogether_110 rfl rfl ?_
      obtain ⟨x19, e20, hF⟩ := q_bind hF
      refine g_iald e20 dX6_stepTogether_111 ?_
      refine g_iconst dX6_stepTogether_112 lt_iconst_1 ?_
      refine g_iload 0 dX6_stepTogether_113 rfl ?_
      refine g_ishl dX6_stepTogether_115 ?_
      refine g_ior dX6_stepTogether_116 ?_
      obtain ⟨h21, e22, hF⟩ := q_bind hF
      refine g_iast e22 dX6_stepTogether_117 ?_
      refine g_iinc [(6, .int (a6 + 1)), (7, .int x8), (0, .ref a0), (1, .ref a1), (2, .int a2), (3, .int a3), (4, .int a4), (5, .int a5)] 7 dX6_stepTogether_118 rfl (congrArg (a6 + ·) lt_iconst_1) (Nat.le_of_ble_eq_true rfl) rfl ?_
      refine g_goto 65 dX6_stepTogether_121 (by decide) ?_
      cases hF
      refine g_sub [2, 3, 4, 5, 6, 7, 0] rfl ?_
      exact hback _ _ rfl
set_option maxRecDepth 100000 in
set_option maxHeartbeats 4000000 in
theorem L_X6_stepTogether_65 (l : Launch) (b : Nat) (D : va_G) (z : Nat → Nat) {Φ : Option Value → qH → Nat → Prop} {nx : Nat} {a0 : Nat} {a1 : Nat} {a2 : Int32} {a3 : Int32} {a4 : Int32} {a5 : Int32} : ∀ (n : Nat) (a6 : Int32) (h : qH) (e : qH), q_lp (s_X6_stepTogether_65 a0 a1 a2 a3 a4 a5) n (a6, h) = some e → (∀  (bh : qH), e = bh → Go l b D z yX6_stepTogether cX6_stepTogether 8 none rm_X6_stepTogether Φ 124 [(0, .ref a0), (1, .ref a1), (2, .int a2), (3, .int a3), (4, .int a4), (5, .int a5)] [] bh nx 0 0) → Go l b D z yX6_stepTogether cX6_stepTogether 8 none rm_X6_stepTogether Φ 65 [(0, .ref a0), (1, .ref a1), (2, .int a2), (3, .int a3), (4, .int a4), (5, .int a5), (6, .int a6)] [] h nx 0 0 := by
  intro n
  induction n with
  | zero => intro a6 h e he; cases (show none = some e from he)
  | succ n ih =>
    intro a6 h e he hx0
    obtain ⟨o, ho, h1, h2⟩ := q_lp_succ he
    exact B_X6_stepTogether_65 l b D z (show b_X6_stepTogether_65 a0 a1 a2 a3 a4 a5 a6 h = some o from ho) (fun b6 bh hb => ih _ _ e (h1 _ hb) hx0) (fun p0 hr => hx0 p0 (h2 _ hr).symm)
set_option maxRecDepth 100000 in
set_option maxHeartbeats 4000000 in
theorem B_X6_stepTogether_35 (l : Launch) (b : Nat) (D : va_G) (z : Nat → Nat) {Φ : Option Value → qH → Nat → Prop} {nx : Nat} {a0 : Nat} {a1 : Nat} {a2 : Int32} {a3 : Int32} {a4 : Int32} {a5 : Int32} {h : qH} {o : (Int32 × qH) ⊕ qH} (hF : b_X6_stepTogether_35 a0 a1 a2 a3 a4 a5 h = some o) (hback : ∀ (b5 : Int32) (bh : qH), o = .inl (b5, bh) → Go l b D z yX6_stepTogether cX6_stepTogether 8 none rm_X6_stepTogether Φ 35 [(0, .ref a0), (1, .ref a1), (2, .int a2), (3, .int a3), (4, .int a4), (5, .int b5)] [] bh nx 0 0) (hx0 : ∀  (bh : qH), o = .inr bh → Go l b D z yX6_stepTogether cX6_stepTogether 8 none rm_X6_stepTogether Φ 130 [(0, .ref a0), (1, .ref a1), (2, .int a2), (3, .int a3), (4, .int a4)] [] bh nx 0 0) : Go l b D z yX6_stepTogether cX6_stepTogether 8 none rm_X6_stepTogether Φ 35 [(0, .ref a0), (1, .ref a1), (2, .int a2), (3, .int a3), (4, .int a4), (5, .int a5)] [] h nx 0 0 := by
  unfold b_X6_stepTogether_35 at hF
  refine g_iload 5 dX6_stepTogether_35 rfl ?_
  refine g_aload_n 1 dX6_stepTogether_37 rfl ?_
  obtain ⟨x1, e2, hF⟩ := q_bind hF
  refine g_getfI fl_X6_40 e2 dX6_stepTogether_38 ?_
  refine g_icmp_ge 130 dX6_stepTogether_41 (by decide) (fun c3 => ?_) (fun c3 => ?_)
  · replace hF := q_t c3 hF
    cases hF
    refine g_sub [0, 1, 2, 3, 4] rfl ?_
    exact hx0 _ rfl
  · replace hF := q_f c3 hF
    refine g_aload_n 0 dX6_stepTogether_44 rfl ?_
    obtain ⟨x4, e5, hF⟩ := q_bind hF
    refine g_getfR fl_X6_30 e5 dX6_stepTogether_45 ?_
    refine g_iload 4 dX6_stepTogether_48 rfl ?_
    obtain ⟨x6, e7, hF⟩ := q_bind hF
    refine g_iald e7 dX6_stepTogether_50 ?_
    refine g_iload 5 dX6_stepTogether_51 rfl ?_
    refine g_ishr dX6_stepTogether_53 ?_
    refine g_iconst dX6_stepTogether_54 lt_iconst_1 ?_
    refine g_iand dX6_stepTogether_55 ?_
    refine g_if_ne 62 dX6_stepTogether_56 (by decide) (fun c8 => ?_) (fun c8 => ?_)
    · replace hF := q_f c8 hF
      refine g_iconst dX6_stepTogether_62 lt_iconst_0 ?_
      refine g_istore [(6, .int (0 : Int32)), (0, .ref a0), (1, .ref a1), (2, .int a2), (3, .int a3), (4, .int a4), (5, .int a5)] dX6_stepTogether_63 (Nat.le_of_ble_eq_true rfl) rfl ?_
      obtain ⟨e9, w10, hF⟩ := q_bind hF
      refine g_sub [1, 2, 3, 4, 5, 6, 0] rfl ?_
      refine L_X6_stepTogether_65 l b D z q_N (0 : Int32) h e9 w10 ?_
      · intro h11 w12
        replace w12 := w12.symm
        subst w12
        refine g_iinc [(5, .int (a5 + 1)), (0, .ref a0), (1, .ref a1), (2, .int a2), (3, .int a3), (4, .int a4)] 5 dX6_stepTogether_124 rfl (congrArg (a5 + ·) lt_iconst_1) (Nat.le_of_ble_eq_true rfl) rfl ?_
        refine g_goto 35 dX6_stepTogether_127 (by decide) ?_
        cases hF
        refine g_sub [1, 2, 3, 4, 5, 0] rfl ?_
        exact hback _ _ rfl
    · replace hF := q_t c8 hF
      refine g_goto 124 dX6_stepTogether_59 (by decide) ?_
      refine g_iinc [(5, .int (a5 + 1)), (0, .ref a0), (1, .ref a1), (2, .int a2), (3, .int a3), (4, .int a4)] 5 dX6_stepTogether_124 rfl (congrArg (a5 + ·) lt_iconst_1) (Nat.le_of_ble_eq_true rfl) rfl ?_
      refine g_goto 35 dX6_stepTogether_127 (by decide) ?_
      cases hF
      refine g_sub [1, 2, 3, 4, 5, 0] rfl ?_
      exact hback _ _ rfl
set_option maxRecDepth 100000 in
set_option maxHeartbeats 4000000 in
theorem L_X6_stepTogether_35 (l : Launch) (b : Nat) (D : va_G) (z : Nat → Nat) {Φ : Option Value → qH → Nat → Prop} {nx : Nat} {a0 : Nat} {a1 : Nat} {a2 : Int32} {a3 : Int32} {a4 : Int32} : ∀ (n : Nat) (a5 : Int32) (h : qH) (e : qH), q_lp (s_X6_stepTogether_35 a0 a1 a2 a3 a4) n (a5, h) = some e → (∀  (bh : qH), e = bh → Go l b D z yX6_stepTogether cX6_stepTogether 8 none rm_X6_stepTogether Φ 130 [(0, .ref a0), (1, .ref a1), (2, .int a2), (3, .int a3), (4, .int a4)] [] bh nx 0 0) → Go l b D z yX6_stepTogether cX6_stepTogether 8 none rm_X6_stepTogether Φ 35 [(0, .ref a0), (1, .ref a1), (2, .int a2), (3, .int a3), (4, .int a4), (5, .int a5)] [] h nx 0 0 := by
  intro n
  induction n with
  | zero => intro a5 h e he; cases (show none = some e from he)
  | succ n ih =>
    intro a5 h e he hx0
    obtain ⟨o, ho, h1, h2⟩ := q_lp_succ he
    exact B_X6_stepTogether_35 l b D z (show b_X6_stepTogether_35 a0 a1 a2 a3 a4 a5 h = some o from ho) (fun b5 bh hb => ih _ _ e (h1 _ hb) hx0) (fun p0 hr => hx0 p0 (h2 _ hr).symm)
set_option maxRecDepth 100000 in
set_option maxHeartbeats 4000000 in
theorem B_X6_stepTogether_26 (l : Launch) (b : Nat) (D : va_G) (z : Nat → Nat) {Φ : Option Value → qH → Nat → Prop} {nx : Nat} {a0 : Nat} {a1 : Nat} {a2 : Int32} {a3 : Int32} {a4 : Int32} {h : qH} {o : (Int32 × qH) ⊕ qH} (hF : b_X6_stepTogether_26 a0 a1 a2 a3 a4 h = some o) (hback : ∀ (b4 : Int32) (bh : qH), o = .inl (b4, bh) → Go l b D z yX6_stepTogether cX6_stepTogether 8 none rm_X6_stepTogether Φ 26 [(0, .ref a0), (1, .ref a1), (2, .int a2), (3, .int a3), (4, .int b4)] [] bh nx 0 0) (hx0 : ∀  (bh : qH), o = .inr bh → Go l b D z yX6_stepTogether cX6_stepTogether 8 none rm_X6_stepTogether Φ 136 [(0, .ref a0)] [] bh nx 0 0) : Go l b D z yX6_stepTogether cX6_stepTogether 8 none rm_X6_stepTogether Φ 26 [(0, .ref a0), (1, .ref a1), (2, .int a2), (3, .int a3), (4, .int a4)] [] h nx 0 0 := by
  unfold b_X6_stepTogether_26 at hF
  refine g_iload 4 dX6_stepTogether_26 rfl ?_
  refine g_iconst dX6_stepTogether_28 lt_iconst_4 ?_
  refine g_icmp_ge 136 dX6_stepTogether_29 (by decide) (fun c1 => ?_) (fun c1 => ?_)
  · replace hF := q_t c1 hF
    cases hF
    refine g_sub [0] rfl ?_
    exact hx0 _ rfl
  · replace hF := q_f c1 hF
    refine g_iconst dX6_stepTogether_32 lt_iconst_0 ?_
    refine g_istore [(5, .int (0 : Int32)), (0, .ref a0), (1, .ref a1), (2, .int a2), (3, .int a3), (4, .int a4)] dX6_stepTogether_33 (Nat.le_of_ble_eq_true rfl) rfl ?_
    obtain ⟨e2, w3, hF⟩ := q_bind hF
    refine g_sub [1, 2, 3, 4, 5, 0] rfl ?_
    refine L_X6_stepTogether_35 l b D z q_N (0 : Int32) h e2 w3 ?_
    · intro h4 w5
      replace w5 := w5.symm
      subst w5
      refine g_iinc [(4, .int (a4 + 1)), (0, .ref a0), (1, .ref a1), (2, .int a2), (3, .int a3)] 4 dX6_stepTogether_130 rfl (congrArg (a4 + ·) lt_iconst_1) (Nat.le_of_ble_eq_true rfl) rfl ?_
      refine g_goto 26 dX6_stepTogether_133 (by decide) ?_
      cases hF
      refine g_sub [1, 2, 3, 4, 0] rfl ?_
      exact hback _ _ rfl
set_option maxRecDepth 100000 in
set_option maxHeartbeats 4000000 in
theorem L_X6_stepTogether_26 (l : Launch) (b : Nat) (D : va_G) (z : Nat → Nat) {Φ : Option Value → qH → Nat → Prop} {nx : Nat} {a0 : Nat} {a1 : Nat} {a2 : Int32} {a3 : Int32} : ∀ (n : Nat) (a4 : Int32) (h : qH) (e : qH), q_lp (s_X6_stepTogether_26 a0 a1 a2 a3) n (a4, h) = some e → (∀  (bh : qH), e = bh → Go l b D z yX6_stepTogether cX6_stepTogether 8 none rm_X6_stepTogether Φ 136 [(0, .ref a0)] [] bh nx 0 0) → Go l b D z yX6_stepTogether cX6_stepTogether 8 none rm_X6_stepTogether Φ 26 [(0, .ref a0), (1, .ref a1), (2, .int a2), (3, .int a3), (4, .int a4)] [] h nx 0 0 := by
  intro n
  induction n with
  | zero => intro a4 h e he; cases (show none = some e from he)
  | succ n ih =>
    intro a4 h e he hx0
    obtain ⟨o, ho, h1, h2⟩ := q_lp_succ he
    exact B_X6_stepTogether_26 l b D z (show b_X6_stepTogether_26 a0 a1 a2 a3 a4 h = some o from ho) (fun b4 bh hb => ih _ _ e (h1 _ hb) hx0) (fun p0 hr => hx0 p0 (h2 _ hr).symm)
set_option maxRecDepth 100000 in
set_option maxHeartbeats 4000000 in
theorem M_X6_stepTogether (l : Launch) (b : Nat) (D : va_G) (z : Nat → Nat) (nx : Nat) {h : qH} {a0 : Nat} {a1 : Nat} {a2 : Int32} {a3 : Int32} {r : qH} (hF : F_X6_stepTogether h a0 a1 a2 a3 = some r) : Me l b D z yX6_stepTogether cX6_stepTogether 8 none rm_X6_stepTogether [.ref a0, .ref a1, .int a2, .int a3] h nx (qE none r nx) := by
  refine Me.of (by decide +kernel) (Nat.le_of_ble_eq_true rfl) ?_
  show Go l b D z yX6_stepTogether cX6_stepTogether 8 none rm_X6_stepTogether (qE none r nx) 0 [(0, .ref a0), (1, .ref a1), (2, .int a2), (3, .int a3)] [] h nx 0 0
  unfold F_X6_stepTogether at hF
  refine g_iconst dX6_stepTogether_0 lt_iconst_0 ?_
  refine g_istore [(4, .int (0 : Int32)), (0, .ref a0), (1, .ref a1), (2, .int a2), (3, .int a3)] dX6_stepTogether_1 (Nat.le_of_ble_eq_true rfl) rfl ?_
  obtain ⟨e1, w2, hF⟩ := q_bind hF
  refine g_sub [1, 2, 3, 4, 0] rfl ?_
  refine L_X6_stepTogether_3 l b D z q_N (0 : Int32) h e1 w2 ?_
  · intro h3 w4
    replace w4 := w4.symm
    subst w4
    refine g_iconst dX6_stepTogether_23 lt_iconst_0 ?_
    refine g_istore [(4, .int (0 : Int32)), (0, .ref a0), (1, .ref a1), (2, .int a2), (3, .int a3)] dX6_stepTogether_24 (Nat.le_of_ble_eq_true rfl) rfl ?_
    obtain ⟨e5, w6, hF⟩ := q_bind hF
    refine g_sub [1, 2, 3, 4, 0] rfl ?_
    refine L_X6_stepTogether_26 l b D z q_N (0 : Int32) h3 e5 w6 ?_
    · intro h7 w8
      replace w8 := w8.symm
      subst w8
      refine g_aload_n 0 dX6_stepTogether_136 rfl ?_
      obtain ⟨x9, e10, hF⟩ := q_bind hF
      refine g_getfR fl_X6_33 e10 dX6_stepTogether_137 ?_
      refine g_iconst dX6_stepTogether_140 lt_iconst_0 ?_
      refine g_aload_n 0 dX6_stepTogether_141 rfl ?_
      obtain ⟨x11, e12, hF⟩ := q_bind hF
      refine g_getfR fl_X6_30 e12 dX6_stepTogether_142 ?_
      refine g_iconst dX6_stepTogether_145 lt_iconst_0 ?_
      refine g_iconst dX6_stepTogether_146 lt_iconst_4 ?_
      obtain ⟨h13, e14, hF⟩ := q_bind hF
      refine g_copyI rfl e14 wd_1026 wd_1028 wd_1027 wd_182 (Nat.le_of_ble_eq_true rfl) (Nat.le_of_ble_eq_true rfl) dX6_stepTogether_147 ?_
      cases hF
      exact g_vret dX6_stepTogether_150 rfl ⟨rfl, rfl, rfl⟩ (Nat.le_of_ble_eq_true rfl) (Nat.le_of_ble_eq_true rfl)
def rm_X6_linesUntilBoth : Room := { frames := 3, cells := 0, slots := 0, locals := 72 }
set_option maxRecDepth 100000 in
set_option maxHeartbeats 4000000 in
theorem B_X6_linesUntilBoth_3 (l : Launch) (b : Nat) (D : va_G) (z : Nat → Nat) {Φ : Option Value → qH → Nat → Prop} {nx : Nat} {a0 : Nat} {a1 : Nat} {a2 : Int32} {a3 : Int32} {a4 : Int32} {h : qH} {o : (Int32 × qH) ⊕ qH} (hF : b_X6_linesUntilBoth_3 a0 a1 a2 a3 a4 h = some o) (hback : ∀ (b4 : Int32) (bh : qH), o = .inl (b4, bh) → Go l b D z yX6_linesUntilBoth cX6_linesUntilBoth 5 (some .int) rm_X6_linesUntilBoth Φ 3 [(0, .ref a0), (1, .ref a1), (2, .int a2), (3, .int a3), (4, .int b4)] [] bh nx 0 0) (hx0 : ∀  (bh : qH), o = .inr bh → Go l b D z yX6_linesUntilBoth cX6_linesUntilBoth 5 (some .int) rm_X6_linesUntilBoth Φ 23 [(0, .ref a0), (1, .ref a1), (2, .int a2), (3, .int a3)] [] bh nx 0 0) : Go l b D z yX6_linesUntilBoth cX6_linesUntilBoth 5 (some .int) rm_X6_linesUntilBoth Φ 3 [(0, .ref a0), (1, .ref a1), (2, .int a2), (3, .int a3), (4, .int a4)] [] h nx 0 0 := by
  unfold b_X6_linesUntilBoth_3 at hF
  refine g_iload 4 dX6_linesUntilBoth_3 rfl ?_
  refine g_iconst dX6_linesUntilBoth_5 lt_iconst_4 ?_
  refine g_icmp_ge 23 dX6_linesUntilBoth_6 (by decide) (fun c1 => ?_) (fun c1 => ?_)
  · replace hF := q_t c1 hF
    cases hF
    refine g_sub [0, 1, 2, 3] rfl ?_
    exact hx0 _ rfl
  · replace hF := q_f c1 hF
    refine g_aload_n 0 dX6_linesUntilBoth_9 rfl ?_
    obtain ⟨x2, e3, hF⟩ := q_bind hF
    refine g_getfR fl_X6_30 e3 dX6_linesUntilBoth_10 ?_
    refine g_iload 4 dX6_linesUntilBoth_13 rfl ?_
    refine g_iconst dX6_linesUntilBoth_15 lt_iconst_0 ?_
    obtain ⟨h4, e5, hF⟩ := q_bind hF
    refine g_iast e5 dX6_linesUntilBoth_16 ?_
    refine g_iinc [(4, .int (a4 + 1)), (0, .ref a0), (1, .ref a1), (2, .int a2), (3, .int a3)] 4 dX6_linesUntilBoth_17 rfl (congrArg (a4 + ·) lt_iconst_1) (Nat.le_of_ble_eq_true rfl) rfl ?_
    refine g_goto 3 dX6_linesUntilBoth_20 (by decide) ?_
    cases hF
    refine g_sub [1, 2, 3, 4, 0] rfl ?_
    exact hback _ _ rfl
set_option maxRecDepth 100000 in
set_option maxHeartbeats 4000000 in
theorem L_X6_linesUntilBoth_3 (l : Launch) (b : Nat) (D : va_G) (z : Nat → Nat) {Φ : Option Value → qH → Nat → Prop} {nx : Nat} {a0 : Nat} {a1 : Nat} {a2 : Int32} {a3 : Int32} : ∀ (n : Nat) (a4 : Int32) (h : qH) (e : qH), q_lp (s_X6_linesUntilBoth_3 a0 a1 a2 a3) n (a4, h) = some e → (∀  (bh : qH), e = bh → Go l b D z yX6_linesUntilBoth cX6_linesUntilBoth 5 (some .int) rm_X6_linesUntilBoth Φ 23 [(0, .ref a0), (1, .ref a1), (2, .int a2), (3, .int a3)] [] bh nx 0 0) → Go l b D z yX6_linesUntilBoth cX6_linesUntilBoth 5 (some .int) rm_X6_linesUntilBoth Φ 3 [(0, .ref a0), (1, .ref a1), (2, .int a2), (3, .int a3), (4, .int a4)] [] h nx 0 0 := by
  intro n
  induction n with
  | zero => intro a4 h e he; cases (show none = some e from he)
  | succ n ih =>
    intro a4 h e he hx0
    obtain ⟨o, ho, h1, h2⟩ := q_lp_succ he
    exact B_X6_linesUntilBoth_3 l b D z (show b_X6_linesUntilBoth_3 a0 a1 a2 a3 a4 h = some o from ho) (fun b4 bh hb => ih _ _ e (h1 _ hb) hx0) (fun p0 hr => hx0 p0 (h2 _ hr).symm)
set_option maxRecDepth 100000 in
set_option maxHeartbeats 4000000 in
theorem B_X6_linesUntilBoth_47 (l : Launch) (b : Nat) (D : va_G) (z : Nat → Nat) {Φ : Option Value → qH → Nat → Prop} {nx : Nat} {a0 : Nat} {a1 : Nat} {a2 : Int32} {a3 : Int32} {a4 : Int32} {h : qH} {o : (Int32 × qH) ⊕ ((Int32 × qH) ⊕ qH)} (hF : b_X6_linesUntilBoth_47 a0 a1 a2 a3 a4 h = some o) (hback : ∀ (b4 : Int32) (bh : qH), o = .inl (b4, bh) → Go l b D z yX6_linesUntilBoth cX6_linesUntilBoth 5 (some .int) rm_X6_linesUntilBoth Φ 47 [(0, .ref a0), (1, .ref a1), (2, .int a2), (3, .int a3), (4, .int b4)] [] bh nx 0 0) (hx0 : ∀ (b4 : Int32) (bh : qH), o = .inr (.inl (b4, bh)) → Go l b D z yX6_linesUntilBoth cX6_linesUntilBoth 5 (some .int) rm_X6_linesUntilBoth Φ 63 [(4, .int b4)] [] bh nx 0 0) (hx1 : ∀  (bh : qH), o = .inr (.inr bh) → Go l b D z yX6_linesUntilBoth cX6_linesUntilBoth 5 (some .int) rm_X6_linesUntilBoth Φ 79 [] [] bh nx 0 0) : Go l b D z yX6_linesUntilBoth cX6_linesUntilBoth 5 (some .int) rm_X6_linesUntilBoth Φ 47 [(0, .ref a0), (1, .ref a1), (2, .int a2), (3, .int a3), (4, .int a4)] [] h nx 0 0 := by
  unfold b_X6_linesUntilBoth_47 at hF
  refine g_iload 4 dX6_linesUntilBoth_47 rfl ?_
  refine g_bipush dX6_linesUntilBoth_49 lt_bipush_80 ?_
  refine g_icmp_gt 79 dX6_linesUntilBoth_51 (by decide) (fun c1 => ?_) (fun c1 => ?_)
  · replace hF := q_t c1 hF
    cases hF
    refine g_sub [] rfl ?_
    exact hx1 _ rfl
  · replace hF := q_f c1 hF
    refine g_aload_n 0 dX6_linesUntilBoth_54 rfl ?_
    obtain ⟨x2, e3, hF⟩ := q_bind hF
    refine g_getfR fl_X6_30 e3 dX6_linesUntilBoth_55 ?_
    refine g_iconst dX6_linesUntilBoth_58 lt_iconst_3 ?_
    obtain ⟨x4, e5, hF⟩ := q_bind hF
    refine g_iald e5 dX6_linesUntilBoth_59 ?_
    refine g_if_eq 66 dX6_linesUntilBoth_60 (by decide) (fun c6 => ?_) (fun c6 => ?_)
    · replace hF := q_t c6 hF
      refine g_aload_n 0 dX6_linesUntilBoth_66 rfl ?_
      refine g_aload_n 1 dX6_linesUntilBoth_67 rfl ?_
      refine g_iload_n 2 dX6_linesUntilBoth_68 rfl ?_
      refine g_iload_n 3 dX6_linesUntilBoth_69 rfl ?_
      obtain ⟨u7, e8, hF⟩ := q_bind hF
      obtain ⟨x9, e10, hF⟩ := q_bind hF
      refine g_callVv0 (ci := 6) (q := (RX6, TX6, 7)) qm_X6_stepTogether wd_1042 wd_1044 wd_38 rfl e8 (M_X6_stepTogether l b D z nx e10) (As := [.ref a1, .int a2, .int a3]) rfl rfl (Nat.le_of_ble_eq_true rfl) ⟨(Nat.le_of_ble_eq_true rfl), (Nat.le_of_ble_eq_true rfl)⟩ ⟨rfl, rfl⟩ ⟨(Nat.le_of_ble_eq_true rfl), (Nat.le_of_ble_eq_true rfl)⟩ dX6_linesUntilBoth_70 ?_
      refine g_iinc [(4, .int (a4 + 1)), (0, .ref a0), (1, .ref a1), (2, .int a2), (3, .int a3)] 4 dX6_linesUntilBoth_73 rfl (congrArg (a4 + ·) lt_iconst_1) (Nat.le_of_ble_eq_true rfl) rfl ?_
      refine g_goto 47 dX6_linesUntilBoth_76 (by decide) ?_
      cases hF
      refine g_sub [1, 2, 3, 4, 0] rfl ?_
      exact hback _ _ rfl
    · replace hF := q_f c6 hF
      cases hF
      refine g_sub [4] rfl ?_
      exact hx0 _ _ rfl
set_option maxRecDepth 100000 in
set_option maxHeartbeats 4000000 in
theorem L_X6_linesUntilBoth_47 (l : Launch) (b : Nat) (D : va_G) (z : Nat → Nat) {Φ : Option Value → qH → Nat → Prop} {nx : Nat} {a0 : Nat} {a1 : Nat} {a2 : Int32} {a3 : Int32} : ∀ (n : Nat) (a4 : Int32) (h : qH) (e : (Int32 × qH) ⊕ qH), q_lp (s_X6_linesUntilBoth_47 a0 a1 a2 a3) n (a4, h) = some e → (∀ (b4 : Int32) (bh : qH), e = (.inl (b4, bh)) → Go l b D z yX6_linesUntilBoth cX6_linesUntilBoth 5 (some .int) rm_X6_linesUntilBoth Φ 63 [(4, .int b4)] [] bh nx 0 0) → (∀  (bh : qH), e = (.inr bh) → Go l b D z yX6_linesUntilBoth cX6_linesUntilBoth 5 (some .int) rm_X6_linesUntilBoth Φ 79 [] [] bh nx 0 0) → Go l b D z yX6_linesUntilBoth cX6_linesUntilBoth 5 (some .int) rm_X6_linesUntilBoth Φ 47 [(0, .ref a0), (1, .ref a1), (2, .int a2), (3, .int a3), (4, .int a4)] [] h nx 0 0 := by
  intro n
  induction n with
  | zero => intro a4 h e he; cases (show none = some e from he)
  | succ n ih =>
    intro a4 h e he hx0 hx1
    obtain ⟨o, ho, h1, h2⟩ := q_lp_succ he
    exact B_X6_linesUntilBoth_47 l b D z (show b_X6_linesUntilBoth_47 a0 a1 a2 a3 a4 h = some o from ho) (fun b4 bh hb => ih _ _ e (h1 _ hb) hx0 hx1) (fun p0 p1 hr => hx0 p0 p1 (h2 _ hr).symm) (fun p0 hr => hx1 p0 (h2 _ hr).symm)
set_option maxRecDepth 100000 in
set_option maxHeartbeats 4000000 in
theorem J_X6_linesUntilBoth_44 (l : Launch) (b : Nat) (D : va_G) (z : Nat → Nat) {nx : Nat} {h : qH} {a0 : Nat} {a1 : Nat} {a2 : Int32} {a3 : Int32} {r : Int32 × qH} (hF : j_X6_linesUntilBoth_44 h a0 a1 a2 a3  = some r) : Go l b D z yX6_linesUntilBoth cX6_linesUntilBoth 5 (some .int) rm_X6_linesUntilBoth (qE (some (.int r.1)) r.2 nx) 44 [(0, .ref a0), (1, .ref a1), (2, .int a2), (3, .int a3)] [] h nx 0 0 := by
  unfold j_X6_linesUntilBoth_44 at hF
  refine g_iconst dX6_linesUntilBoth_44 lt_iconst_1 ?_
  refine g_istore [(4, .int (1 : Int32)), (0, .ref a0), (1, .ref a1), (2, .int a2), (3, .int a3)] dX6_linesUntilBoth_45 (Nat.le_of_ble_eq_true rfl) rfl ?_
  obtain ⟨e1, w2, hF⟩ := q_bind hF
  refine g_sub [1, 2, 3, 4, 0] rfl ?_
  refine L_X6_linesUntilBoth_47 l b D z q_N (1 : Int32) h e1 w2 ?_ ?_
  · intro o3 h4 w5
    replace w5 := w5.symm
    subst w5
    replace hF := q_sl hF
    dsimp only at hF
    refine g_iload 0 dX6_linesUntilBoth_63 rfl ?_
    cases hF
    exact g_iret dX6_linesUntilBoth_65 rfl ⟨rfl, rfl, rfl⟩ (Nat.le_of_ble_eq_true rfl) (Nat.le_of_ble_eq_true rfl)
  · intro h7 w8
    replace w8 := w8.symm
    subst w8
    replace hF := q_sr hF
    refine g_iconst dX6_linesUntilBoth_79 lt_iconst_m1 ?_
    cases hF
    exact g_iret dX6_linesUntilBoth_80 rfl ⟨rfl, rfl, rfl⟩ (Nat.le_of_ble_eq_true rfl) (Nat.le_of_ble_eq_true rfl)
set_option maxRecDepth 100000 in
set_option maxHeartbeats 4000000 in
theorem M_X6_linesUntilBoth (l : Launch) (b : Nat) (D : va_G) (z : Nat → Nat) (nx : Nat) {h : qH} {a0 : Nat} {a1 : Nat} {a2 : Int32} {a3 : Int32} {r : Int32 × qH} (hF : F_X6_linesUntilBoth h a0 a1 a2 a3 = some r) : Me l b D z yX6_linesUntilBoth cX6_linesUntilBoth 5 (some .int) rm_X6_linesUntilBoth [.ref a0, .ref a1, .int a2, .int a3] h nx (qE (some (.int r.1)) r.2 nx) := by
  refine Me.of (by decide +kernel) (Nat.le_of_ble_eq_true rfl) ?_
  show Go l b D z yX6_linesUntilBoth cX6_linesUntilBoth 5 (some .int) rm_X6_linesUntilBoth (qE (some (.int r.1)) r.2 nx) 0 [(0, .ref a0), (1, .ref a1), (2, .int a2), (3, .int a3)] [] h nx 0 0
  unfold F_X6_linesUntilBoth at hF
  refine g_iconst dX6_linesUntilBoth_0 lt_iconst_0 ?_
  refine g_istore [(4, .int (0 : Int32)), (0, .ref a0), (1, .ref a1), (2, .int a2), (3, .int a3)] dX6_linesUntilBoth_1 (Nat.le_of_ble_eq_true rfl) rfl ?_
  obtain ⟨e1, w2, hF⟩ := q_bind hF
  refine g_sub [1, 2, 3, 4, 0] rfl ?_
  refine L_X6_linesUntilBoth_3 l b D z q_N (0 : Int32) h e1 w2 ?_
  · intro h3 w4
    replace w4 := w4.symm
    subst w4
    refine g_aload_n 1 dX6_linesUntilBoth_23 rfl ?_
    refine g_iconst dX6_linesUntilBoth_24 lt_iconst_0 ?_
    obtain ⟨u5, e6, hF⟩ := q_bind hF
    obtain ⟨x7, e8, hF⟩ := q_bind hF
    refine g_callVr0 (ci := 0) (q := (RX0, TX0, 15)) qm_X0_has wd_987 wd_783 wd_784 rfl e6 (M_X0_has l b D z nx e8) (As := [.int (0 : Int32)]) rfl rfl (Nat.le_of_ble_eq_true rfl) ⟨(Nat.le_of_ble_eq_true rfl), (Nat.le_of_ble_eq_true rfl)⟩ ⟨rfl, rfl⟩ ⟨(Nat.le_of_ble_eq_true rfl), (Nat.le_of_ble_eq_true rfl)⟩ dX6_linesUntilBoth_25 ?_
    refine g_if_eq 44 dX6_linesUntilBoth_28 (by decide) (fun c9 => ?_) (fun c9 => ?_)
    · replace hF := q_t c9 hF
      exact J_X6_linesUntilBoth_44 l b D z hF
    · replace hF := q_f c9 hF
      refine g_aload_n 0 dX6_linesUntilBoth_31 rfl ?_
      obtain ⟨x10, e11, hF⟩ := q_bind hF
      refine g_getfR fl_X6_30 e11 dX6_linesUntilBoth_32 ?_
      refine g_aload_n 1 dX6_linesUntilBoth_35 rfl ?_
      refine g_iconst dX6_linesUntilBoth_36 lt_iconst_0 ?_
      refine g_iload_n 2 dX6_linesUntilBoth_37 rfl ?_
      refine g_iload_n 3 dX6_linesUntilBoth_38 rfl ?_
      obtain ⟨x12, e13, hF⟩ := q_bind hF
      refine g_callSr0 qm_X6_saidBy wd_1038 wd_1039 (M_X6_saidBy l b D z nx e13) (As := [.ref a1, .int (0 : Int32), .int a2, .int a3]) rfl rfl (Nat.le_of_ble_eq_true rfl) ⟨(Nat.le_of_ble_eq_true rfl), (Nat.le_of_ble_eq_true rfl)⟩ ⟨rfl, rfl⟩ ⟨(Nat.le_of_ble_eq_true rfl), (Nat.le_of_ble_eq_true rfl)⟩ dX6_linesUntilBoth_39 ?_
      refine g_iconst dX6_linesUntilBoth_42 lt_iconst_1 ?_
      obtain ⟨h14, e15, hF⟩ := q_bind hF
      refine g_iast e15 dX6_linesUntilBoth_43 ?_
      exact J_X6_linesUntilBoth_44 l b D z hF
def rm_X6_sumOfFollowers : Room := { frames := 1, cells := 0, slots := 0, locals := 22 }
set_option maxRecDepth 100000 in
set_option maxHeartbeats 4000000 in
theorem B_X6_sumOfFollowers_5 (l : Launch) (b : Nat) (D : va_G) (z : Nat → Nat) {Φ : Option Value → qH → Nat → Prop} {nx : Nat} {h : qH} {a0 : Nat} {a1 : Nat} {a2 : Int32} {a3 : Int64} {a5 : Int32} {o : (Int64 × Int32) ⊕ Int64} (hF : b_X6_sumOfFollowers_5 h a0 a1 a2 a3 a5 = some o) (hback : ∀ (b3 : Int64) (b5 : Int32), o = .inl (b3, b5) → Go l b D z yX6_sumOfFollowers cX6_sumOfFollowers 7 (some .long) rm_X6_sumOfFollowers Φ 5 [(0, .ref a0), (1, .ref a1), (2, .int a2), (3, .long b3), (5, .int b5)] [] h nx 0 0) (hx0 : ∀ (b3 : Int64), o = .inr b3 → Go l b D z yX6_sumOfFollowers cX6_sumOfFollowers 7 (some .long) rm_X6_sumOfFollowers Φ 53 [(3, .long b3)] [] h nx 0 0) : Go l b D z yX6_sumOfFollowers cX6_sumOfFollowers 7 (some .long) rm_X6_sumOfFollowers Φ 5 [(0, .ref a0), (1, .ref a1), (2, .int a2), (3, .long a3), (5, .int a5)] [] h nx 0 0 := by
  unfold b_X6_sumOfFollowers_5 at hF
  refine g_iload 4 dX6_sumOfFollowers_5 rfl ?_
  refine g_aload_n 1 dX6_sumOfFollowers_7 rfl ?_
  refine g_iload_n 2 dX6_sumOfFollowers_8 rfl ?_
  obtain ⟨u1, e2, hF⟩ := q_bind hF
  obtain ⟨x3, e4, hF⟩ := q_bind hF
  refine g_callVr0 (ci := 0) (q := (RX0, TX0, 15)) qm_X0_howManyFollow wd_997 wd_791 wd_792 rfl e2 (M_X0_howManyFollow l b D z nx e4) (As := [.int a2]) rfl rfl (Nat.le_of_ble_eq_true rfl) ⟨(Nat.le_of_ble_eq_true rfl), (Nat.le_of_ble_eq_true rfl)⟩ ⟨rfl, rfl⟩ ⟨(Nat.le_of_ble_eq_true rfl), (Nat.le_of_ble_eq_true rfl)⟩ dX6_sumOfFollowers_9 ?_
  refine g_icmp_ge 53 dX6_sumOfFollowers_12 (by decide) (fun c5 => ?_) (fun c5 => ?_)
  · replace hF := q_t c5 hF
    cases hF
    refine g_sub [3] rfl ?_
    exact hx0 _ rfl
  · replace hF := q_f c5 hF
    refine g_aload_n 1 dX6_sumOfFollowers_15 rfl ?_
    refine g_iload_n 2 dX6_sumOfFollowers_16 rfl ?_
    refine g_iload 4 dX6_sumOfFollowers_17 rfl ?_
    obtain ⟨u6, e7, hF⟩ := q_bind hF
    obtain ⟨x8, e9, hF⟩ := q_bind hF
    refine g_callVr0 (ci := 0) (q := (RX0, TX0, 15)) qm_X0_following wd_998 wd_795 wd_796 rfl e7 (M_X0_following l b D z nx e9) (As := [.int a2, .int a5]) rfl rfl (Nat.le_of_ble_eq_true rfl) ⟨(Nat.le_of_ble_eq_true rfl), (Nat.le_of_ble_eq_true rfl)⟩ ⟨rfl, rfl⟩ ⟨(Nat.le_of_ble_eq_true rfl), (Nat.le_of_ble_eq_true rfl)⟩ dX6_sumOfFollowers_19 ?_
    refine g_istore [(6, .int x8), (0, .ref a0), (1, .ref a1), (2, .int a2), (3, .long a3), (5, .int a5)] dX6_sumOfFollowers_22 (Nat.le_of_ble_eq_true rfl) rfl ?_
    refine g_lload_n 4 dX6_sumOfFollowers_24 rfl ?_
    refine g_aload_n 2 dX6_sumOfFollowers_25 rfl ?_
    refine g_iload 0 dX6_sumOfFollowers_26 rfl ?_
    obtain ⟨u10, e11, hF⟩ := q_bind hF
    obtain ⟨x12, e13, hF⟩ := q_bind hF
    refine g_callVr0 (ci := 0) (q := (RX0, TX0, 15)) qm_X0_has wd_987 wd_783 wd_784 rfl e11 (M_X0_has l b D z nx e13) (As := [.int x8]) rfl rfl (Nat.le_of_ble_eq_true rfl) ⟨(Nat.le_of_ble_eq_true rfl), (Nat.le_of_ble_eq_true rfl)⟩ ⟨rfl, rfl⟩ ⟨(Nat.le_of_ble_eq_true rfl), (Nat.le_of_ble_eq_true rfl)⟩ dX6_sumOfFollowers_28 ?_
    refine g_if_eq 44 dX6_sumOfFollowers_31 (by decide) (fun c14 => ?_) (fun c14 => ?_)
    · replace hF := q_t c14 hF
      refine g_lconst (v := 0) dX6_sumOfFollowers_44 (by decide +kernel) ?_
      refine g_ladd dX6_sumOfFollowers_45 ?_
      refine g_lstore_n [(3, .long (a3 + (0 : Int64))), (6, .int x8), (0, .ref a0), (1, .ref a1), (2, .int a2), (5, .int a5)] dX6_sumOfFollowers_46 (Nat.le_of_ble_eq_true rfl) rfl ?_
      refine g_iinc [(5, .int (a5 + 1)), (3, .long (a3 + (0 : Int64))), (6, .int x8), (0, .ref a0), (1, .ref a1), (2, .int a2)] 5 dX6_sumOfFollowers_47 rfl (congrArg (a5 + ·) lt_iconst_1) (Nat.le_of_ble_eq_true rfl) rfl ?_
      refine g_goto 5 dX6_sumOfFollowers_50 (by decide) ?_
      cases hF
      refine g_sub [3, 4, 5, 1, 0] rfl ?_
      exact hback _ _ rfl
    · replace hF := q_f c14 hF
      refine g_aload_n 1 dX6_sumOfFollowers_34 rfl ?_
      obtain ⟨x15, e16, hF⟩ := q_bind hF
      refine g_getfR fl_X6_23 e16 dX6_sumOfFollowers_35 ?_
      refine g_iload 0 dX6_sumOfFollowers_38 rfl ?_
      obtain ⟨x17, e18, hF⟩ := q_bind hF
      refine g_lald e18 dX6_sumOfFollowers_40 ?_
      refine g_goto 45 dX6_sumOfFollowers_41 (by decide) ?_
      refine g_ladd dX6_sumOfFollowers_45 ?_
      refine g_lstore_n [(3, .long (a3 + x17)), (6, .int x8), (0, .ref a0), (1, .ref a1), (2, .int a2), (5, .int a5)] dX6_sumOfFollowers_46 (Nat.le_of_ble_eq_true rfl) rfl ?_
      refine g_iinc [(5, .int (a5 + 1)), (3, .long (a3 + x17)), (6, .int x8), (0, .ref a0), (1, .ref a1), (2, .int a2)] 5 dX6_sumOfFollowers_47 rfl (congrArg (a5 + ·) lt_iconst_1) (Nat.le_of_ble_eq_true rfl) rfl ?_
      refine g_goto 5 dX6_sumOfFollowers_50 (by decide) ?_
      cases hF
      refine g_sub [3, 4, 5, 1, 0] rfl ?_
      exact hback _ _ rfl
set_option maxRecDepth 100000 in
set_option maxHeartbeats 4000000 in
theorem L_X6_sumOfFollowers_5 (l : Launch) (b : Nat) (D : va_G) (z : Nat → Nat) {Φ : Option Value → qH → Nat → Prop} {nx : Nat} {h : qH} {a0 : Nat} {a1 : Nat} {a2 : Int32} : ∀ (n : Nat) (a3 : Int64) (a5 : Int32) (e : Int64), q_lp (s_X6_sumOfFollowers_5 h a0 a1 a2) n (a3, a5) = some e → (∀ (b3 : Int64), e = b3 → Go l b D z yX6_sumOfFollowers cX6_sumOfFollowers 7 (some .long) rm_X6_sumOfFollowers Φ 53 [(3, .long b3)] [] h nx 0 0) → Go l b D z yX6_sumOfFollowers cX6_sumOfFollowers 7 (some .long) rm_X6_sumOfFollowers Φ 5 [(0, .ref a0), (1, .ref a1), (2, .int a2), (3, .long a3), (5, .int a5)] [] h nx 0 0 := by
  intro n
  induction n with
  | zero => intro a3 a5 e he; cases (show none = some e from he)
  | succ n ih =>
    intro a3 a5 e he hx0
    obtain ⟨o, ho, h1, h2⟩ := q_lp_succ he
    exact B_X6_sumOfFollowers_5 l b D z (show b_X6_sumOfFollowers_5 h a0 a1 a2 a3 a5 = some o from ho) (fun b3 b5 hb => ih _ _ e (h1 _ hb) hx0) (fun p0 hr => hx0 p0 (h2 _ hr).symm)
set_option maxRecDepth 100000 in
set_option maxHeartbeats 4000000 in
theorem M_X6_sumOfFollowers (l : Launch) (b : Nat) (D : va_G) (z : Nat → Nat) (nx : Nat) {h : qH} {a0 : Nat} {a1 : Nat} {a2 : Int32} {r : Int64} (hF : F_X6_sumOfFollowers h a0 a1 a2 = some r) : Me l b D z yX6_sumOfFollowers cX6_sumOfFollowers 7 (some .long) rm_X6_sumOfFollowers [.ref a0, .ref a1, .int a2] h nx (qE (some (.long r)) h nx) := by
  refine Me.of (by decide +kernel) (Nat.le_of_ble_eq_true rfl) ?_
  show Go l b D z yX6_sumOfFollowers cX6_sumOfFollowers 7 (some .long) rm_X6_sumOfFollowers (qE (some (.long r)) h nx) 0 [(0, .ref a0), (1, .ref a1), (2, .int a2)] [] h nx 0 0
  unfold F_X6_sumOfFollowers at hF
  refine g_lconst (v := 0) dX6_sumOfFollowers_0 (by decide +kernel) ?_
  refine g_lstore_n [(3, .long (0 : Int64)), (0, .ref a0), (1, .ref a1), (2, .int a2)] dX6_sumOfFollowers_1 (Nat.le_of_ble_eq_true rfl) rfl ?_
  refine g_iconst dX6_sumOfFollowers_2 lt_iconst_0 ?_
  refine g_istore [(5, .int (0 : Int32)), (3, .long (0 : Int64)), (0, .ref a0), (1, .ref a1), (2, .int a2)] dX6_sumOfFollowers_3 (Nat.le_of_ble_eq_true rfl) rfl ?_
  obtain ⟨e1, w2, hF⟩ := q_bind hF
  refine g_sub [2, 3, 4, 1, 0] rfl ?_
  refine L_X6_sumOfFollowers_5 l b D z q_N (0 : Int64) (0 : Int32) e1 w2 ?_
  · intro o3 w4
    replace w4 := w4.symm
    subst w4
    refine g_lload_n 0 dX6_sumOfFollowers_53 rfl ?_
    cases hF
    exact g_lret dX6_sumOfFollowers_54 rfl ⟨rfl, rfl, rfl⟩ (Nat.le_of_ble_eq_true rfl) (Nat.le_of_ble_eq_true rfl)
def rm_X6_howManyWays : Room := { frames := 2, cells := 0, slots := 0, locals := 48 }
set_option maxRecDepth 100000 in
set_option maxHeartbeats 4000000 in
theorem B_X6_howManyWays_12 (l : Launch) (b : Nat) (D : va_G) (z : Nat → Nat) {Φ : Option Value → qH → Nat → Prop} {nx : Nat} {a0 : Nat} {a1 : Nat} {a2 : Int32} {a3 : Int32} {h : qH} {o : (Int32 × qH) ⊕ qH} (hF : b_X6_howManyWays_12 a0 a1 a2 a3 h = some o) (hback : ∀ (b3 : Int32) (bh : qH), o = .inl (b3, bh) → Go l b D z yX6_howManyWays cX6_howManyWays 5 (some .long) rm_X6_howManyWays Φ 12 [(0, .ref a0), (1, .ref a1), (2, .int a2), (3, .int b3)] [] bh nx 0 0) (hx0 : ∀  (bh : qH), o = .inr bh → Go l b D z yX6_howManyWays cX6_howManyWays 5 (some .long) rm_X6_howManyWays Φ 31 [(0, .ref a0), (1, .ref a1), (2, .int a2)] [] bh nx 0 0) : Go l b D z yX6_howManyWays cX6_howManyWays 5 (some .long) rm_X6_howManyWays Φ 12 [(0, .ref a0), (1, .ref a1), (2, .int a2), (3, .int a3)] [] h nx 0 0 := by
  unfold b_X6_howManyWays_12 at hF
  refine g_iload_n 3 dX6_howManyWays_12 rfl ?_
  refine g_bipush dX6_howManyWays_13 lt_bipush_20 ?_
  refine g_icmp_ge 31 dX6_howManyWays_15 (by decide) (fun c1 => ?_) (fun c1 => ?_)
  · replace hF := q_t c1 hF
    cases hF
    refine g_sub [0, 1, 2] rfl ?_
    exact hx0 _ rfl
  · replace hF := q_f c1 hF
    refine g_aload_n 0 dX6_howManyWays_18 rfl ?_
    obtain ⟨x2, e3, hF⟩ := q_bind hF
    refine g_getfR fl_X6_23 e3 dX6_howManyWays_19 ?_
    refine g_iload_n 3 dX6_howManyWays_22 rfl ?_
    refine g_lconst (v := 1) dX6_howManyWays_23 (by decide +kernel) ?_
    obtain ⟨h4, e5, hF⟩ := q_bind hF
    refine g_last e5 dX6_howManyWays_24 ?_
    refine g_iinc [(3, .int (a3 + 1)), (0, .ref a0), (1, .ref a1), (2, .int a2)] 3 dX6_howManyWays_25 rfl (congrArg (a3 + ·) lt_iconst_1) (Nat.le_of_ble_eq_true rfl) rfl ?_
    refine g_goto 12 dX6_howManyWays_28 (by decide) ?_
    cases hF
    refine g_sub [1, 2, 3, 0] rfl ?_
    exact hback _ _ rfl
set_option maxRecDepth 100000 in
set_option maxHeartbeats 4000000 in
theorem L_X6_howManyWays_12 (l : Launch) (b : Nat) (D : va_G) (z : Nat → Nat) {Φ : Option Value → qH → Nat → Prop} {nx : Nat} {a0 : Nat} {a1 : Nat} {a2 : Int32} : ∀ (n : Nat) (a3 : Int32) (h : qH) (e : qH), q_lp (s_X6_howManyWays_12 a0 a1 a2) n (a3, h) = some e → (∀  (bh : qH), e = bh → Go l b D z yX6_howManyWays cX6_howManyWays 5 (some .long) rm_X6_howManyWays Φ 31 [(0, .ref a0), (1, .ref a1), (2, .int a2)] [] bh nx 0 0) → Go l b D z yX6_howManyWays cX6_howManyWays 5 (some .long) rm_X6_howManyWays Φ 12 [(0, .ref a0), (1, .ref a1), (2, .int a2), (3, .int a3)] [] h nx 0 0 := by
  intro n
  induction n with
  | zero => intro a3 h e he; cases (show none = some e from he)
  | succ n ih =>
    intro a3 h e he hx0
    obtain ⟨o, ho, h1, h2⟩ := q_lp_succ he
    exact B_X6_howManyWays_12 l b D z (show b_X6_howManyWays_12 a0 a1 a2 a3 h = some o from ho) (fun b3 bh hb => ih _ _ e (h1 _ hb) hx0) (fun p0 hr => hx0 p0 (h2 _ hr).symm)
set_option maxRecDepth 100000 in
set_option maxHeartbeats 4000000 in
theorem B_X6_howManyWays_41 (l : Launch) (b : Nat) (D : va_G) (z : Nat → Nat) {Φ : Option Value → qH → Nat → Prop} {nx : Nat} {a0 : Nat} {a1 : Nat} {a2 : Int32} {a3 : Int32} {a4 : Int32} {h : qH} {o : (Int32 × qH) ⊕ qH} (hF : b_X6_howManyWays_41 a0 a1 a2 a3 a4 h = some o) (hback : ∀ (b4 : Int32) (bh : qH), o = .inl (b4, bh) → Go l b D z yX6_howManyWays cX6_howManyWays 5 (some .long) rm_X6_howManyWays Φ 41 [(0, .ref a0), (1, .ref a1), (2, .int a2), (3, .int a3), (4, .int b4)] [] bh nx 0 0) (hx0 : ∀  (bh : qH), o = .inr bh → Go l b D z yX6_howManyWays cX6_howManyWays 5 (some .long) rm_X6_howManyWays Φ 90 [(0, .ref a0), (1, .ref a1), (2, .int a2), (3, .int a3)] [] bh nx 0 0) : Go l b D z yX6_howManyWays cX6_howManyWays 5 (some .long) rm_X6_howManyWays Φ 41 [(0, .ref a0), (1, .ref a1), (2, .int a2), (3, .int a3), (4, .int a4)] [] h nx 0 0 := by
  unfold b_X6_howManyWays_41 at hF
  refine g_iload 4 dX6_howManyWays_41 rfl ?_
  refine g_aload_n 1 dX6_howManyWays_43 rfl ?_
  obtain ⟨x1, e2, hF⟩ := q_bind hF
  refine g_getfI fl_X6_40 e2 dX6_howManyWays_44 ?_
  refine g_icmp_ge 90 dX6_howManyWays_47 (by decide) (fun c3 => ?_) (fun c3 => ?_)
  · replace hF := q_t c3 hF
    cases hF
    refine g_sub [0, 1, 2, 3] rfl ?_
    exact hx0 _ rfl
  · replace hF := q_f c3 hF
    refine g_iload 4 dX6_howManyWays_50 rfl ?_
    refine g_bipush dX6_howManyWays_52 lt_bipush_20 ?_
    refine g_icmp_ge 90 dX6_howManyWays_54 (by decide) (fun c4 => ?_) (fun c4 => ?_)
    · replace hF := q_t c4 hF
      cases hF
      refine g_sub [0, 1, 2, 3] rfl ?_
      exact hx0 _ rfl
    · replace hF := q_f c4 hF
      refine g_aload_n 0 dX6_howManyWays_57 rfl ?_
      obtain ⟨x5, e6, hF⟩ := q_bind hF
      refine g_getfR fl_X6_27 e6 dX6_howManyWays_58 ?_
      refine g_iload 4 dX6_howManyWays_61 rfl ?_
      refine g_aload_n 1 dX6_howManyWays_63 rfl ?_
      refine g_iload 4 dX6_howManyWays_64 rfl ?_
      obtain ⟨u7, e8, hF⟩ := q_bind hF
      obtain ⟨x9, e10, hF⟩ := q_bind hF
      refine g_callVr0 (ci := 0) (q := (RX0, TX0, 15)) qm_X0_howManyFollow wd_997 wd_791 wd_792 rfl e8 (M_X0_howManyFollow l b D z nx e10) (As := [.int a4]) rfl rfl (Nat.le_of_ble_eq_true rfl) ⟨(Nat.le_of_ble_eq_true rfl), (Nat.le_of_ble_eq_true rfl)⟩ ⟨rfl, rfl⟩ ⟨(Nat.le_of_ble_eq_true rfl), (Nat.le_of_ble_eq_true rfl)⟩ dX6_howManyWays_66 ?_
      refine g_if_ne 76 dX6_howManyWays_69 (by decide) (fun c11 => ?_) (fun c11 => ?_)
      · replace hF := q_f c11 hF
        refine g_aload_n 0 dX6_howManyWays_76 rfl ?_
        refine g_aload_n 1 dX6_howManyWays_77 rfl ?_
        refine g_iload 4 dX6_howManyWays_78 rfl ?_
        obtain ⟨u12, e13, hF⟩ := q_bind hF
        obtain ⟨x14, e15, hF⟩ := q_bind hF
        refine g_callVr0 (ci := 6) (q := (RX6, TX6, 7)) qm_X6_sumOfFollowers wd_1347 wd_1349 wd_73 rfl e13 (M_X6_sumOfFollowers l b D z nx e15) (As := [.ref a1, .int a4]) rfl rfl (Nat.le_of_ble_eq_true rfl) ⟨(Nat.le_of_ble_eq_true rfl), (Nat.le_of_ble_eq_true rfl)⟩ ⟨rfl, rfl⟩ ⟨(Nat.le_of_ble_eq_true rfl), (Nat.le_of_ble_eq_true rfl)⟩ dX6_howManyWays_80 ?_
        obtain ⟨h16, e17, hF⟩ := q_bind hF
        refine g_last e17 dX6_howManyWays_83 ?_
        refine g_iinc [(4, .int (a4 + 1)), (0, .ref a0), (1, .ref a1), (2, .int a2), (3, .int a3)] 4 dX6_howManyWays_84 rfl (congrArg (a4 + ·) lt_iconst_1) (Nat.le_of_ble_eq_true rfl) rfl ?_
        refine g_goto 41 dX6_howManyWays_87 (by decide) ?_
        cases hF
        refine g_sub [1, 2, 3, 4, 0] rfl ?_
        exact hback _ _ rfl
      · replace hF := q_t c11 hF
        refine g_lconst (v := 1) dX6_howManyWays_72 (by decide +kernel) ?_
        refine g_goto 83 dX6_howManyWays_73 (by decide) ?_
        obtain ⟨h18, e19, hF⟩ := q_bind hF
        refine g_last e19 dX6_howManyWays_83 ?_
        refine g_iinc [(4, .int (a4 + 1)), (0, .ref a0), (1, .ref a1), (2, .int a2), (3, .int a3)] 4 dX6_howManyWays_84 rfl (congrArg (a4 + ·) lt_iconst_1) (Nat.le_of_ble_eq_true rfl) rfl ?_
        refine g_goto 41 dX6_howManyWays_87 (by decide) ?_
        cases hF
        refine g_sub [1, 2, 3, 4, 0] rfl ?_
        exact hback _ _ rfl
set_option maxRecDepth 100000 in
set_option maxHeartbeats 4000000 in
theorem L_X6_howManyWays_41 (l : Launch) (b : Nat) (D : va_G) (z : Nat → Nat) {Φ : Option Value → qH → Nat → Prop} {nx : Nat} {a0 : Nat} {a1 : Nat} {a2 : Int32} {a3 : Int32} : ∀ (n : Nat) (a4 : Int32) (h : qH) (e : qH), q_lp (s_X6_howManyWays_41 a0 a1 a2 a3) n (a4, h) = some e → (∀  (bh : qH), e = bh → Go l b D z yX6_howManyWays cX6_howManyWays 5 (some .long) rm_X6_howManyWays Φ 90 [(0, .ref a0), (1, .ref a1), (2, .int a2), (3, .int a3)] [] bh nx 0 0) → Go l b D z yX6_howManyWays cX6_howManyWays 5 (some .long) rm_X6_howManyWays Φ 41 [(0, .ref a0), (1, .ref a1), (2, .int a2), (3, .int a3), (4, .int a4)] [] h nx 0 0 := by
  intro n
  induction n with
  | zero => intro a4 h e he; cases (show none = some e from he)
  | succ n ih =>
    intro a4 h e he hx0
    obtain ⟨o, ho, h1, h2⟩ := q_lp_succ he
    exact B_X6_howManyWays_41 l b D z (show b_X6_howManyWays_41 a0 a1 a2 a3 a4 h = some o from ho) (fun b4 bh hb => ih _ _ e (h1 _ hb) hx0) (fun p0 hr => hx0 p0 (h2 _ hr).symm)
set_option maxRecDepth 100000 in
set_option maxHeartbeats 4000000 in
theorem J_X6_howManyWays_90 (l : Launch) (b : Nat) (D : va_G) (z : Nat → Nat) {Φ : Option Value → qH → Nat → Prop} {nx : Nat} {h : qH} {a0 : Nat} {a1 : Nat} {a2 : Int32} {a3 : Int32} {o : (Int32 × qH) ⊕ qH} (hF : j_X6_howManyWays_90 h a0 a1 a2 a3  = some o) (hback : ∀ (b3 : Int32) (bh : qH), o = .inl (b3, bh) → Go l b D z yX6_howManyWays cX6_howManyWays 5 (some .long) rm_X6_howManyWays Φ 33 [(0, .ref a0), (1, .ref a1), (2, .int a2), (3, .int b3)] [] bh nx 0 0) (hx0 : ∀  (bh : qH), o = .inr bh → Go l b D z yX6_howManyWays cX6_howManyWays 5 (some .long) rm_X6_howManyWays Φ 111 [(0, .ref a0)] [] bh nx 0 0) : Go l b D z yX6_howManyWays cX6_howManyWays 5 (some .long) rm_X6_howManyWays Φ 90 [(0, .ref a0), (1, .ref a1), (2, .int a2), (3, .int a3)] [] h nx 0 0 := by
  unfold j_X6_howManyWays_90 at hF
  refine g_aload_n 0 dX6_howManyWays_90 rfl ?_
  obtain ⟨x1, e2, hF⟩ := q_bind hF
  refine g_getfR fl_X6_27 e2 dX6_howManyWays_91 ?_
  refine g_iconst dX6_howManyWays_94 lt_iconst_0 ?_
  refine g_aload_n 0 dX6_howManyWays_95 rfl ?_
  obtain ⟨x3, e4, hF⟩ := q_bind hF
  refine g_getfR fl_X6_23 e4 dX6_howManyWays_96 ?_
  refine g_iconst dX6_howManyWays_99 lt_iconst_0 ?_
  refine g_bipush dX6_howManyWays_100 lt_bipush_20 ?_
  obtain ⟨h5, e6, hF⟩ := q_bind hF
  refine g_copyL e6 wd_1026 wd_1028 wd_1027 wd_182 (Nat.le_of_ble_eq_true rfl) (Nat.le_of_ble_eq_true rfl) dX6_howManyWays_102 ?_
  refine g_iinc [(3, .int (a3 + 1)), (0, .ref a0), (1, .ref a1), (2, .int a2)] 3 dX6_howManyWays_105 rfl (congrArg (a3 + ·) lt_iconst_1) (Nat.le_of_ble_eq_true rfl) rfl ?_
  refine g_goto 33 dX6_howManyWays_108 (by decide) ?_
  cases hF
  refine g_sub [1, 2, 3, 0] rfl ?_
  exact hback _ _ rfl
set_option maxRecDepth 100000 in
set_option maxHeartbeats 4000000 in
theorem B_X6_howManyWays_33 (l : Launch) (b : Nat) (D : va_G) (z : Nat → Nat) {Φ : Option Value → qH → Nat → Prop} {nx : Nat} {a0 : Nat} {a1 : Nat} {a2 : Int32} {a3 : Int32} {h : qH} {o : (Int32 × qH) ⊕ qH} (hF : b_X6_howManyWays_33 a0 a1 a2 a3 h = some o) (hback : ∀ (b3 : Int32) (bh : qH), o = .inl (b3, bh) → Go l b D z yX6_howManyWays cX6_howManyWays 5 (some .long) rm_X6_howManyWays Φ 33 [(0, .ref a0), (1, .ref a1), (2, .int a2), (3, .int b3)] [] bh nx 0 0) (hx0 : ∀  (bh : qH), o = .inr bh → Go l b D z yX6_howManyWays cX6_howManyWays 5 (some .long) rm_X6_howManyWays Φ 111 [(0, .ref a0)] [] bh nx 0 0) : Go l b D z yX6_howManyWays cX6_howManyWays 5 (some .long) rm_X6_howManyWays Φ 33 [(0, .ref a0), (1, .ref a1), (2, .int a2), (3, .int a3)] [] h nx 0 0 := by
  unfold b_X6_howManyWays_33 at hF
  refine g_iload_n 3 dX6_howManyWays_33 rfl ?_
  refine g_iload_n 2 dX6_howManyWays_34 rfl ?_
  refine g_icmp_gt 111 dX6_howManyWays_35 (by decide) (fun c1 => ?_) (fun c1 => ?_)
  · replace hF := q_t c1 hF
    cases hF
    refine g_sub [0] rfl ?_
    exact hx0 _ rfl
  · replace hF := q_f c1 hF
    refine g_iconst dX6_howManyWays_38 lt_iconst_0 ?_
    refine g_istore [(4, .int (0 : Int32)), (0, .ref a0), (1, .ref a1), (2, .int a2), (3, .int a3)] dX6_howManyWays_39 (Nat.le_of_ble_eq_true rfl) rfl ?_
    obtain ⟨e2, w3, hF⟩ := q_bind hF
    refine g_sub [1, 2, 3, 4, 0] rfl ?_
    refine L_X6_howManyWays_41 l b D z q_N (0 : Int32) h e2 w3 ?_
    · intro h4 w5
      replace w5 := w5.symm
      subst w5
      exact J_X6_howManyWays_90 l b D z hF hback hx0
set_option maxRecDepth 100000 in
set_option maxHeartbeats 4000000 in
theorem L_X6_howManyWays_33 (l : Launch) (b : Nat) (D : va_G) (z : Nat → Nat) {Φ : Option Value → qH → Nat → Prop} {nx : Nat} {a0 : Nat} {a1 : Nat} {a2 : Int32} : ∀ (n : Nat) (a3 : Int32) (h : qH) (e : qH), q_lp (s_X6_howManyWays_33 a0 a1 a2) n (a3, h) = some e → (∀  (bh : qH), e = bh → Go l b D z yX6_howManyWays cX6_howManyWays 5 (some .long) rm_X6_howManyWays Φ 111 [(0, .ref a0)] [] bh nx 0 0) → Go l b D z yX6_howManyWays cX6_howManyWays 5 (some .long) rm_X6_howManyWays Φ 33 [(0, .ref a0), (1, .ref a1), (2, .int a2), (3, .int a3)] [] h nx 0 0 := by
  intro n
  induction n with
  | zero => intro a3 h e he; cases (show none = some e from he)
  | succ n ih =>
    intro a3 h e he hx0
    obtain ⟨o, ho, h1, h2⟩ := q_lp_succ he
    exact B_X6_howManyWays_33 l b D z (show b_X6_howManyWays_33 a0 a1 a2 a3 h = some o from ho) (fun b3 bh hb => ih _ _ e (h1 _ hb) hx0) (fun p0 hr => hx0 p0 (h2 _ hr).symm)
set_option maxRecDepth 100000 in
set_option maxHeartbeats 4000000 in
theorem M_X6_howManyWays (l : Launch) (b : Nat) (D : va_G) (z : Nat → Nat) (nx : Nat) {h : qH} {a0 : Nat} {a1 : Nat} {a2 : Int32} {r : Int64 × qH} (hF : F_X6_howManyWays h a0 a1 a2 = some r) : Me l b D z yX6_howManyWays cX6_howManyWays 5 (some .long) rm_X6_howManyWays [.ref a0, .ref a1, .int a2] h nx (qE (some (.long r.1)) r.2 nx) := by
  refine Me.of (by decide +kernel) (Nat.le_of_ble_eq_true rfl) ?_
  show Go l b D z yX6_howManyWays cX6_howManyWays 5 (some .long) rm_X6_howManyWays (qE (some (.long r.1)) r.2 nx) 0 [(0, .ref a0), (1, .ref a1), (2, .int a2)] [] h nx 0 0
  unfold F_X6_howManyWays at hF
  refine g_aload_n 1 dX6_howManyWays_0 rfl ?_
  refine g_iconst dX6_howManyWays_1 lt_iconst_0 ?_
  obtain ⟨u1, e2, hF⟩ := q_bind hF
  obtain ⟨x3, e4, hF⟩ := q_bind hF
  refine g_callVr0 (ci := 0) (q := (RX0, TX0, 15)) qm_X0_has wd_987 wd_783 wd_784 rfl e2 (M_X0_has l b D z nx e4) (As := [.int (0 : Int32)]) rfl rfl (Nat.le_of_ble_eq_true rfl) ⟨(Nat.le_of_ble_eq_true rfl), (Nat.le_of_ble_eq_true rfl)⟩ ⟨rfl, rfl⟩ ⟨(Nat.le_of_ble_eq_true rfl), (Nat.le_of_ble_eq_true rfl)⟩ dX6_howManyWays_2 ?_
  refine g_if_ne 10 dX6_howManyWays_5 (by decide) (fun c5 => ?_) (fun c5 => ?_)
  · replace hF := q_f c5 hF
    refine g_iconst dX6_howManyWays_10 lt_iconst_0 ?_
    refine g_istore_n [(3, .int (0 : Int32)), (0, .ref a0), (1, .ref a1), (2, .int a2)] dX6_howManyWays_11 (Nat.le_of_ble_eq_true rfl) rfl ?_
    obtain ⟨e6, w7, hF⟩ := q_bind hF
    refine g_sub [1, 2, 3, 0] rfl ?_
    refine L_X6_howManyWays_12 l b D z q_N (0 : Int32) h e6 w7 ?_
    · intro h8 w9
      replace w9 := w9.symm
      subst w9
      refine g_iconst dX6_howManyWays_31 lt_iconst_2 ?_
      refine g_istore_n [(3, .int (2 : Int32)), (0, .ref a0), (1, .ref a1), (2, .int a2)] dX6_howManyWays_32 (Nat.le_of_ble_eq_true rfl) rfl ?_
      obtain ⟨e10, w11, hF⟩ := q_bind hF
      refine g_sub [1, 2, 3, 0] rfl ?_
      refine L_X6_howManyWays_33 l b D z q_N (2 : Int32) h8 e10 w11 ?_
      · intro h12 w13
        replace w13 := w13.symm
        subst w13
        refine g_aload_n 0 dX6_howManyWays_111 rfl ?_
        obtain ⟨x14, e15, hF⟩ := q_bind hF
        refine g_getfR fl_X6_23 e15 dX6_howManyWays_112 ?_
        refine g_iconst dX6_howManyWays_115 lt_iconst_0 ?_
        obtain ⟨x16, e17, hF⟩ := q_bind hF
        refine g_lald e17 dX6_howManyWays_116 ?_
        cases hF
        exact g_lret dX6_howManyWays_117 rfl ⟨rfl, rfl, rfl⟩ (Nat.le_of_ble_eq_true rfl) (Nat.le_of_ble_eq_true rfl)
  · replace hF := q_t c5 hF
    refine g_lconst (v := 0) dX6_howManyWays_8 (by decide +kernel) ?_
    cases hF
    exact g_lret dX6_howManyWays_9 rfl ⟨rfl, rfl, rfl⟩ (Nat.le_of_ble_eq_true rfl) (Nat.le_of_ble_eq_true rfl)
def rm_X6_harmBehind : Room := { frames := 3, cells := 0, slots := 0, locals := 65 }
set_option maxRecDepth 100000 in
set_option maxHeartbeats 4000000 in
theorem B_X6_harmBehind_6 (l : Launch) (b : Nat) (D : va_G) (z : Nat → Nat) {Φ : Option Value → qH → Nat → Prop} {nx : Nat} {h : qH} {a0 : Nat} {a1 : Nat} {a2 : Int32} {a3 : Int32} {a4 : Int32} {a5 : Int32} {a6 : Int32} {o : (Int32 × Int32) ⊕ Int32} (hF : b_X6_harmBehind_6 h a0 a1 a2 a3 a4 a5 a6 = some o) (hback : ∀ (b5 : Int32) (b6 : Int32), o = .inl (b5, b6) → Go l b D z yX6_harmBehind cX6_harmBehind 10 (some .int) rm_X6_harmBehind Φ 6 [(0, .ref a0), (1, .ref a1), (2, .int a2), (3, .int a3), (4, .int a4), (5, .int b5), (6, .int b6)] [] h nx 0 0) (hx0 : ∀ (b5 : Int32), o = .inr b5 → Go l b D z yX6_harmBehind cX6_harmBehind 10 (some .int) rm_X6_harmBehind Φ 113 [(5, .int b5)] [] h nx 0 0) : Go l b D z yX6_harmBehind cX6_harmBehind 10 (some .int) rm_X6_harmBehind Φ 6 [(0, .ref a0), (1, .ref a1), (2, .int a2), (3, .int a3), (4, .int a4), (5, .int a5), (6, .int a6)] [] h nx 0 0 := by
  unfold b_X6_harmBehind_6 at hF
  refine g_iload 6 dX6_harmBehind_6 rfl ?_
  refine g_aload_n 1 dX6_harmBehind_8 rfl ?_
  refine g_iload_n 2 dX6_harmBehind_9 rfl ?_
  obtain ⟨u1, e2, hF⟩ := q_bind hF
  obtain ⟨x3, e4, hF⟩ := q_bind hF
  refine g_callVr0 (ci := 0) (q := (RX0, TX0, 15)) qm_X0_howManyFollow wd_997 wd_791 wd_792 rfl e2 (M_X0_howManyFollow l b D z nx e4) (As := [.int a2]) rfl rfl (Nat.le_of_ble_eq_true rfl) ⟨(Nat.le_of_ble_eq_true rfl), (Nat.le_of_ble_eq_true rfl)⟩ ⟨rfl, rfl⟩ ⟨(Nat.le_of_ble_eq_true rfl), (Nat.le_of_ble_eq_true rfl)⟩ dX6_harmBehind_10 ?_
  refine g_icmp_ge 113 dX6_harmBehind_13 (by decide) (fun c5 => ?_) (fun c5 => ?_)
  · replace hF := q_t c5 hF
    cases hF
    refine g_sub [5] rfl ?_
    exact hx0 _ rfl
  · replace hF := q_f c5 hF
    refine g_aload_n 1 dX6_harmBehind_16 rfl ?_
    refine g_iload_n 2 dX6_harmBehind_17 rfl ?_
    refine g_iload 6 dX6_harmBehind_18 rfl ?_
    obtain ⟨u6, e7, hF⟩ := q_bind hF
    obtain ⟨x8, e9, hF⟩ := q_bind hF
    refine g_callVr0 (ci := 0) (q := (RX0, TX0, 15)) qm_X0_following wd_998 wd_795 wd_796 rfl e7 (M_X0_following l b D z nx e9) (As := [.int a2, .int a6]) rfl rfl (Nat.le_of_ble_eq_true rfl) ⟨(Nat.le_of_ble_eq_true rfl), (Nat.le_of_ble_eq_true rfl)⟩ ⟨rfl, rfl⟩ ⟨(Nat.le_of_ble_eq_true rfl), (Nat.le_of_ble_eq_true rfl)⟩ dX6_harmBehind_20 ?_
    refine g_istore [(7, .int x8), (0, .ref a0), (1, .ref a1), (2, .int a2), (3, .int a3), (4, .int a4), (5, .int a5), (6, .int a6)] dX6_harmBehind_23 (Nat.le_of_ble_eq_true rfl) rfl ?_
    refine g_iload_n 4 dX6_harmBehind_25 rfl ?_
    refine g_aload_n 2 dX6_harmBehind_26 rfl ?_
    refine g_iload_n 3 dX6_harmBehind_27 rfl ?_
    refine g_iload 0 dX6_harmBehind_28 rfl ?_
    obtain ⟨u10, e11, hF⟩ := q_bind hF
    obtain ⟨x12, e13, hF⟩ := q_bind hF
    refine g_callVr0 (ci := 0) (q := (RX0, TX0, 15)) qm_X0_strayingOf wd_1003 wd_1004 wd_1005 rfl e11 (M_X0_strayingOf l b D z nx e13) (As := [.int a2, .int x8]) rfl rfl (Nat.le_of_ble_eq_true rfl) ⟨(Nat.le_of_ble_eq_true rfl), (Nat.le_of_ble_eq_true rfl)⟩ ⟨rfl, rfl⟩ ⟨(Nat.le_of_ble_eq_true rfl), (Nat.le_of_ble_eq_true rfl)⟩ dX6_harmBehind_30 ?_
    refine g_isub dX6_harmBehind_33 ?_
    refine g_istore [(8, .int (a3 - x12)), (7, .int x8), (0, .ref a0), (1, .ref a1), (2, .int a2), (3, .int a3), (4, .int a4), (5, .int a5), (6, .int a6)] dX6_harmBehind_34 (Nat.le_of_ble_eq_true rfl) rfl ?_
    refine g_iload 0 dX6_harmBehind_36 rfl ?_
    refine g_if_lt 107 dX6_harmBehind_38 (by decide) (fun c14 => ?_) (fun c14 => ?_)
    · replace hF := q_t c14 hF
      refine g_iinc [(6, .int (a6 + 1)), (8, .int (a3 - x12)), (7, .int x8), (0, .ref a0), (1, .ref a1), (2, .int a2), (3, .int a3), (4, .int a4), (5, .int a5)] 8 dX6_harmBehind_107 rfl (congrArg (a6 + ·) lt_iconst_1) (Nat.le_of_ble_eq_true rfl) rfl ?_
      refine g_goto 6 dX6_harmBehind_110 (by decide) ?_
      cases hF
      refine g_sub [3, 4, 5, 6, 7, 8, 0] rfl ?_
      exact hback _ _ rfl
    · replace hF := q_f c14 hF
      refine g_iload 0 dX6_harmBehind_41 rfl ?_
      refine g_bipush dX6_harmBehind_43 lt_bipush_10 ?_
      refine g_icmp_ge 107 dX6_harmBehind_45 (by decide) (fun c15 => ?_) (fun c15 => ?_)
      · replace hF := q_t c15 hF
        refine g_iinc [(6, .int (a6 + 1)), (8, .int (a3 - x12)), (7, .int x8), (0, .ref a0), (1, .ref a1), (2, .int a2), (3, .int a3), (4, .int a4), (5, .int a5)] 8 dX6_harmBehind_107 rfl (congrArg (a6 + ·) lt_iconst_1) (Nat.le_of_ble_eq_true rfl) rfl ?_
        refine g_goto 6 dX6_harmBehind_110 (by decide) ?_
        cases hF
        refine g_sub [3, 4, 5, 6, 7, 8, 0] rfl ?_
        exact hback _ _ rfl
      · replace hF := q_f c15 hF
        refine g_aload_n 3 dX6_harmBehind_48 rfl ?_
        refine g_iload 1 dX6_harmBehind_49 rfl ?_
        obtain ⟨u16, e17, hF⟩ := q_bind hF
        obtain ⟨x18, e19, hF⟩ := q_bind hF
        refine g_callVr0 (ci := 0) (q := (RX0, TX0, 15)) qm_X0_has wd_987 wd_783 wd_784 rfl e17 (M_X0_has l b D z nx e19) (As := [.int x8]) rfl rfl (Nat.le_of_ble_eq_true rfl) ⟨(Nat.le_of_ble_eq_true rfl), (Nat.le_of_ble_eq_true rfl)⟩ ⟨rfl, rfl⟩ ⟨(Nat.le_of_ble_eq_true rfl), (Nat.le_of_ble_eq_true rfl)⟩ dX6_harmBehind_51 ?_
        refine g_if_ne 60 dX6_harmBehind_54 (by decide) (fun c20 => ?_) (fun c20 => ?_)
        · replace hF := q_f c20 hF
          refine g_aload_n 2 dX6_harmBehind_60 rfl ?_
          obtain ⟨x21, e22, hF⟩ := q_bind hF
          refine g_getfR fl_X6_17 e22 dX6_harmBehind_61 ?_
          refine g_iload 1 dX6_harmBehind_64 rfl ?_
          refine g_bipush dX6_harmBehind_66 lt_bipush_10 ?_
          refine g_imul dX6_harmBehind_68 ?_
          refine g_iload 0 dX6_harmBehind_69 rfl ?_
          refine g_iadd dX6_harmBehind_71 ?_
          obtain ⟨x23, e24, hF⟩ := q_bind hF
          refine g_iald e24 dX6_harmBehind_72 ?_
          refine g_istore [(9, .int x23), (8, .int (a3 - x12)), (7, .int x8), (0, .ref a0), (1, .ref a1), (2, .int a2), (3, .int a3), (4, .int a4), (5, .int a5), (6, .int a6)] dX6_harmBehind_73 (Nat.le_of_ble_eq_true rfl) rfl ?_
          refine g_iload 8 dX6_harmBehind_75 rfl ?_
          refine g_iconst dX6_harmBehind_77 lt_iconst_m1 ?_
          refine g_icmp_eq 103 dX6_harmBehind_78 (by decide) (fun c25 => ?_) (fun c25 => ?_)
          · replace hF := q_t c25 hF
            refine g_iload 0 dX6_harmBehind_103 rfl ?_
            refine g_istore [(5, .int x23), (9, .int x23), (8, .int (a3 - x12)), (7, .int x8), (0, .ref a0), (1, .ref a1), (2, .int a2), (3, .int a3), (4, .int a4), (6, .int a6)] dX6_harmBehind_105 (Nat.le_of_ble_eq_true rfl) rfl ?_
            refine g_iinc [(6, .int (a6 + 1)), (5, .int x23), (9, .int x23), (8, .int (a3 - x12)), (7, .int x8), (0, .ref a0), (1, .ref a1), (2, .int a2), (3, .int a3), (4, .int a4)] 9 dX6_harmBehind_107 rfl (congrArg (a6 + ·) lt_iconst_1) (Nat.le_of_ble_eq_true rfl) rfl ?_
            refine g_goto 6 dX6_harmBehind_110 (by decide) ?_
            cases hF
            refine g_sub [5, 6, 7, 8, 9, 1, 0] rfl ?_
            exact hback _ _ rfl
          · replace hF := q_f c25 hF
            refine g_iload 7 dX6_harmBehind_81 rfl ?_
            refine g_if_eq 96 dX6_harmBehind_83 (by decide) (fun c26 => ?_) (fun c26 => ?_)
            · replace hF := q_t c26 hF
              refine g_iload 0 dX6_harmBehind_96 rfl ?_
              refine g_iload 8 dX6_harmBehind_98 rfl ?_
              refine g_icmp_le 107 dX6_harmBehind_100 (by decide) (fun c27 => ?_) (fun c27 => ?_)
              · replace hF := q_t c27 hF
                refine g_iinc [(6, .int (a6 + 1)), (9, .int x23), (8, .int (a3 - x12)), (7, .int x8), (0, .ref a0), (1, .ref a1), (2, .int a2), (3, .int a3), (4, .int a4), (5, .int a5)] 9 dX6_harmBehind_107 rfl (congrArg (a6 + ·) lt_iconst_1) (Nat.le_of_ble_eq_true rfl) rfl ?_
                refine g_goto 6 dX6_harmBehind_110 (by decide) ?_
                cases hF
                refine g_sub [4, 5, 6, 7, 8, 9, 0] rfl ?_
                exact hback _ _ rfl
              · replace hF := q_f c27 hF
                refine g_iload 0 dX6_harmBehind_103 rfl ?_
                refine g_istore [(5, .int x23), (9, .int x23), (8, .int (a3 - x12)), (7, .int x8), (0, .ref a0), (1, .ref a1), (2, .int a2), (3, .int a3), (4, .int a4), (6, .int a6)] dX6_harmBehind_105 (Nat.le_of_ble_eq_true rfl) rfl ?_
                refine g_iinc [(6, .int (a6 + 1)), (5, .int x23), (9, .int x23), (8, .int (a3 - x12)), (7, .int x8), (0, .ref a0), (1, .ref a1), (2, .int a2), (3, .int a3), (4, .int a4)] 9 dX6_harmBehind_107 rfl (congrArg (a6 + ·) lt_iconst_1) (Nat.le_of_ble_eq_true rfl) rfl ?_
                refine g_goto 6 dX6_harmBehind_110 (by decide) ?_
                cases hF
                refine g_sub [5, 6, 7, 8, 9, 1, 0] rfl ?_
                exact hback _ _ rfl
            · replace hF := q_f c26 hF
              refine g_iload 0 dX6_harmBehind_86 rfl ?_
              refine g_iload 8 dX6_harmBehind_88 rfl ?_
              refine g_icmp_ge 107 dX6_harmBehind_90 (by decide) (fun c28 => ?_) (fun c28 => ?_)
              · replace hF := q_t c28 hF
                refine g_iinc [(6, .int (a6 + 1)), (9, .int x23), (8, .int (a3 - x12)), (7, .int x8), (0, .ref a0), (1, .ref a1), (2, .int a2), (3, .int a3), (4, .int a4), (5, .int a5)] 9 dX6_harmBehind_107 rfl (congrArg (a6 + ·) lt_iconst_1) (Nat.le_of_ble_eq_true rfl) rfl ?_
                refine g_goto 6 dX6_harmBehind_110 (by decide) ?_
                cases hF
                refine g_sub [4, 5, 6, 7, 8, 9, 0] rfl ?_
                exact hback _ _ rfl
              · replace hF := q_f c28 hF
                refine g_goto 103 dX6_harmBehind_93 (by decide) ?_
                refine g_iload 0 dX6_harmBehind_103 rfl ?_
                refine g_istore [(5, .int x23), (9, .int x23), (8, .int (a3 - x12)), (7, .int x8), (0, .ref a0), (1, .ref a1), (2, .int a2), (3, .int a3), (4, .int a4), (6, .int a6)] dX6_harmBehind_105 (Nat.le_of_ble_eq_true rfl) rfl ?_
                refine g_iinc [(6, .int (a6 + 1)), (5, .int x23), (9, .int x23), (8, .int (a3 - x12)), (7, .int x8), (0, .ref a0), (1, .ref a1), (2, .int a2), (3, .int a3), (4, .int a4)] 9 dX6_harmBehind_107 rfl (congrArg (a6 + ·) lt_iconst_1) (Nat.le_of_ble_eq_true rfl) rfl ?_
                refine g_goto 6 dX6_harmBehind_110 (by decide) ?_
                cases hF
                refine g_sub [5, 6, 7, 8, 9, 1, 0] rfl ?_
                exact hback _ _ rfl
        · replace hF := q_t c20 hF
          refine g_goto 107 dX6_harmBehind_57 (by decide) ?_
          refine g_iinc [(6, .int (a6 + 1)), (8, .int (a3 - x12)), (7, .int x8), (0, .ref a0), (1, .ref a1), (2, .int a2), (3, .int a3), (4, .int a4), (5, .int a5)] 8 dX6_harmBehind_107 rfl (congrArg (a6 + ·) lt_iconst_1) (Nat.le_of_ble_eq_true rfl) rfl ?_
          refine g_goto 6 dX6_harmBehind_110 (by decide) ?_
          cases hF
          refine g_sub [3, 4, 5, 6, 7, 8, 0] rfl ?_
          exact hback _ _ rfl
set_option maxRecDepth 100000 in
set_option maxHeartbeats 4000000 in
theorem L_X6_harmBehind_6 (l : Launch) (b : Nat) (D : va_G) (z : Nat → Nat) {Φ : Option Value → qH → Nat → Prop} {nx : Nat} {h : qH} {a0 : Nat} {a1 : Nat} {a2 : Int32} {a3 : Int32} {a4 : Int32} : ∀ (n : Nat) (a5 : Int32) (a6 : Int32) (e : Int32), q_lp (s_X6_harmBehind_6 h a0 a1 a2 a3 a4) n (a5, a6) = some e → (∀ (b5 : Int32), e = b5 → Go l b D z yX6_harmBehind cX6_harmBehind 10 (some .int) rm_X6_harmBehind Φ 113 [(5, .int b5)] [] h nx 0 0) → Go l b D z yX6_harmBehind cX6_harmBehind 10 (some .int) rm_X6_harmBehind Φ 6 [(0, .ref a0), (1, .ref a1), (2, .int a2), (3, .int a3), (4, .int a4), (5, .int a5), (6, .int a6)] [] h nx 0 0 := by
  intro n
  induction n with
  | zero => intro a5 a6 e he; cases (show none = some e from he)
  | succ n ih =>
    intro a5 a6 e he hx0
    obtain ⟨o, ho, h1, h2⟩ := q_lp_succ he
    exact B_X6_harmBehind_6 l b D z (show b_X6_harmBehind_6 h a0 a1 a2 a3 a4 a5 a6 = some o from ho) (fun b5 b6 hb => ih _ _ e (h1 _ hb) hx0) (fun p0 hr => hx0 p0 (h2 _ hr).symm)
set_option maxRecDepth 100000 in
set_option maxHeartbeats 4000000 in
theorem M_X6_harmBehind (l : Launch) (b : Nat) (D : va_G) (z : Nat → Nat) (nx : Nat) {h : qH} {a0 : Nat} {a1 : Nat} {a2 : Int32} {a3 : Int32} {a4 : Int32} {r : Int32} (hF : F_X6_harmBehind h a0 a1 a2 a3 a4 = some r) : Me l b D z yX6_harmBehind cX6_harmBehind 10 (some .int) rm_X6_harmBehind [.ref a0, .ref a1, .int a2, .int a3, .int a4] h nx (qE (some (.int r)) h nx) := by
  refine Me.of (by decide +kernel) (Nat.le_of_ble_eq_true rfl) ?_
  show Go l b D z yX6_harmBehind cX6_harmBehind 10 (some .int) rm_X6_harmBehind (qE (some (.int r)) h nx) 0 [(0, .ref a0), (1, .ref a1), (2, .int a2), (3, .int a3), (4, .int a4)] [] h nx 0 0
  unfold F_X6_harmBehind at hF
  refine g_iconst dX6_harmBehind_0 lt_iconst_m1 ?_
  refine g_istore [(5, .int (-1 : Int32)), (0, .ref a0), (1, .ref a1), (2, .int a2), (3, .int a3), (4, .int a4)] dX6_harmBehind_1 (Nat.le_of_ble_eq_true rfl) rfl ?_
  refine g_iconst dX6_harmBehind_3 lt_iconst_0 ?_
  refine g_istore [(6, .int (0 : Int32)), (5, .int (-1 : Int32)), (0, .ref a0), (1, .ref a1), (2, .int a2), (3, .int a3), (4, .int a4)] dX6_harmBehind_4 (Nat.le_of_ble_eq_true rfl) rfl ?_
  obtain ⟨e1, w2, hF⟩ := q_bind hF
  refine g_sub [2, 3, 4, 5, 6, 1, 0] rfl ?_
  refine L_X6_harmBehind_6 l b D z q_N (-1 : Int32) (0 : Int32) e1 w2 ?_
  · intro o3 w4
    replace w4 := w4.symm
    subst w4
    refine g_iload 0 dX6_harmBehind_113 rfl ?_
    refine g_iconst dX6_harmBehind_115 lt_iconst_m1 ?_
    refine g_icmp_ne 123 dX6_harmBehind_116 (by decide) (fun c5 => ?_) (fun c5 => ?_)
    · replace hF := q_f c5 hF
      refine g_iload 0 dX6_harmBehind_123 rfl ?_
      cases hF
      exact g_iret dX6_harmBehind_125 rfl ⟨rfl, rfl, rfl⟩ (Nat.le_of_ble_eq_true rfl) (Nat.le_of_ble_eq_true rfl)
    · replace hF := q_t c5 hF
      refine g_iconst dX6_harmBehind_119 lt_iconst_0 ?_
      refine g_goto 125 dX6_harmBehind_120 (by decide) ?_
      cases hF
      exact g_iret dX6_harmBehind_125 rfl ⟨rfl, rfl, rfl⟩ (Nat.le_of_ble_eq_true rfl) (Nat.le_of_ble_eq_true rfl)
def rm_X6_harmOfWay : Room := { frames := 4, cells := 0, slots := 0, locals := 94 }
set_option maxRecDepth 100000 in
set_option maxHeartbeats 4000000 in
theorem B_X6_harmOfWay_3 (l : Launch) (b : Nat) (D : va_G) (z : Nat → Nat) {Φ : Option Value → qH → Nat → Prop} {nx : Nat} {a0 : Nat} {a1 : Nat} {a2 : Int32} {a3 : Int32} {a4 : Int32} {a5 : Int32} {h : qH} {o : (Int32 × qH) ⊕ qH} (hF : b_X6_harmOfWay_3 a0 a1 a2 a3 a4 a5 h = some o) (hback : ∀ (b5 : Int32) (bh : qH), o = .inl (b5, bh) → Go l b D z yX6_harmOfWay cX6_harmOfWay 8 (some .int) rm_X6_harmOfWay Φ 3 [(0, .ref a0), (1, .ref a1), (2, .int a2), (3, .int a3), (4, .int a4), (5, .int b5)] [] bh nx 0 0) (hx0 : ∀  (bh : qH), o = .inr bh → Go l b D z yX6_harmOfWay cX6_harmOfWay 8 (some .int) rm_X6_harmOfWay Φ 33 [(0, .ref a0), (1, .ref a1), (2, .int a2), (3, .int a3), (4, .int a4)] [] bh nx 0 0) : Go l b D z yX6_harmOfWay cX6_harmOfWay 8 (some .int) rm_X6_harmOfWay Φ 3 [(0, .ref a0), (1, .ref a1), (2, .int a2), (3, .int a3), (4, .int a4), (5, .int a5)] [] h nx 0 0 := by
  unfold b_X6_harmOfWay_3 at hF
  refine g_iload 5 dX6_harmOfWay_3 rfl ?_
  refine g_sipush dX6_harmOfWay_5 lt_sipush_200 ?_
  refine g_icmp_ge 33 dX6_harmOfWay_8 (by decide) (fun c1 => ?_) (fun c1 => ?_)
  · replace hF := q_t c1 hF
    cases hF
    refine g_sub [0, 1, 2, 3, 4] rfl ?_
    exact hx0 _ rfl
  · replace hF := q_f c1 hF
    refine g_aload_n 0 dX6_harmOfWay_11 rfl ?_
    obtain ⟨x2, e3, hF⟩ := q_bind hF
    refine g_getfR fl_X6_17 e3 dX6_harmOfWay_12 ?_
    refine g_iload 5 dX6_harmOfWay_15 rfl ?_
    refine g_aload_n 1 dX6_harmOfWay_17 rfl ?_
    refine g_iload 5 dX6_harmOfWay_18 rfl ?_
    refine g_bipush dX6_harmOfWay_20 lt_bipush_10 ?_
    refine g_idiv dX6_harmOfWay_22 (by decide) ?_
    obtain ⟨u4, e5, hF⟩ := q_bind hF
    obtain ⟨x6, e7, hF⟩ := q_bind hF
    refine g_callVr0 (ci := 0) (q := (RX0, TX0, 15)) qm_X0_harmDone wd_1359 wd_944 wd_945 rfl e5 (M_X0_harmDone l b D z nx e7) (As := [.int (a5 / (10 : Int32))]) rfl rfl (Nat.le_of_ble_eq_true rfl) ⟨(Nat.le_of_ble_eq_true rfl), (Nat.le_of_ble_eq_true rfl)⟩ ⟨rfl, rfl⟩ ⟨(Nat.le_of_ble_eq_true rfl), (Nat.le_of_ble_eq_true rfl)⟩ dX6_harmOfWay_23 ?_
    obtain ⟨h8, e9, hF⟩ := q_bind hF
    refine g_iast e9 dX6_harmOfWay_26 ?_
    refine g_iinc [(5, .int (a5 + 1)), (0, .ref a0), (1, .ref a1), (2, .int a2), (3, .int a3), (4, .int a4)] 5 dX6_harmOfWay_27 rfl (congrArg (a5 + ·) lt_iconst_1) (Nat.le_of_ble_eq_true rfl) rfl ?_
    refine g_goto 3 dX6_harmOfWay_30 (by decide) ?_
    cases hF
    refine g_sub [1, 2, 3, 4, 5, 0] rfl ?_
    exact hback _ _ rfl
set_option maxRecDepth 100000 in
set_option maxHeartbeats 4000000 in
theorem L_X6_harmOfWay_3 (l : Launch) (b : Nat) (D : va_G) (z : Nat → Nat) {Φ : Option Value → qH → Nat → Prop} {nx : Nat} {a0 : Nat} {a1 : Nat} {a2 : Int32} {a3 : Int32} {a4 : Int32} : ∀ (n : Nat) (a5 : Int32) (h : qH) (e : qH), q_lp (s_X6_harmOfWay_3 a0 a1 a2 a3 a4) n (a5, h) = some e → (∀  (bh : qH), e = bh → Go l b D z yX6_harmOfWay cX6_harmOfWay 8 (some .int) rm_X6_harmOfWay Φ 33 [(0, .ref a0), (1, .ref a1), (2, .int a2), (3, .int a3), (4, .int a4)] [] bh nx 0 0) → Go l b D z yX6_harmOfWay cX6_harmOfWay 8 (some .int) rm_X6_harmOfWay Φ 3 [(0, .ref a0), (1, .ref a1), (2, .int a2), (3, .int a3), (4, .int a4), (5, .int a5)] [] h nx 0 0 := by
  intro n
  induction n with
  | zero => intro a5 h e he; cases (show none = some e from he)
  | succ n ih =>
    intro a5 h e he hx0
    obtain ⟨o, ho, h1, h2⟩ := q_lp_succ he
    exact B_X6_harmOfWay_3 l b D z (show b_X6_harmOfWay_3 a0 a1 a2 a3 a4 a5 h = some o from ho) (fun b5 bh hb => ih _ _ e (h1 _ hb) hx0) (fun p0 hr => hx0 p0 (h2 _ hr).symm)
set_option maxRecDepth 100000 in
set_option maxHeartbeats 4000000 in
theorem B_X6_harmOfWay_45 (l : Launch) (b : Nat) (D : va_G) (z : Nat → Nat) {Φ : Option Value → qH → Nat → Prop} {nx : Nat} {a0 : Nat} {a1 : Nat} {a2 : Int32} {a3 : Int32} {a4 : Int32} {a5 : Int32} {a6 : Int32} {h : qH} {o : (Int32 × qH) ⊕ qH} (hF : b_X6_harmOfWay_45 a0 a1 a2 a3 a4 a5 a6 h = some o) (hback : ∀ (b6 : Int32) (bh : qH), o = .inl (b6, bh) → Go l b D z yX6_harmOfWay cX6_harmOfWay 8 (some .int) rm_X6_harmOfWay Φ 45 [(0, .ref a0), (1, .ref a1), (2, .int a2), (3, .int a3), (4, .int a4), (5, .int a5), (6, .int b6)] [] bh nx 0 0) (hx0 : ∀  (bh : qH), o = .inr bh → Go l b D z yX6_harmOfWay cX6_harmOfWay 8 (some .int) rm_X6_harmOfWay Φ 106 [(0, .ref a0), (1, .ref a1), (2, .int a2), (3, .int a3), (4, .int a4), (5, .int a5)] [] bh nx 0 0) : Go l b D z yX6_harmOfWay cX6_harmOfWay 8 (some .int) rm_X6_harmOfWay Φ 45 [(0, .ref a0), (1, .ref a1), (2, .int a2), (3, .int a3), (4, .int a4), (5, .int a5), (6, .int a6)] [] h nx 0 0 := by
  unfold b_X6_harmOfWay_45 at hF
  refine g_iload 6 dX6_harmOfWay_45 rfl ?_
  refine g_aload_n 1 dX6_harmOfWay_47 rfl ?_
  obtain ⟨x1, e2, hF⟩ := q_bind hF
  refine g_getfI fl_X6_40 e2 dX6_harmOfWay_48 ?_
  refine g_bipush dX6_harmOfWay_51 lt_bipush_10 ?_
  refine g_imul dX6_harmOfWay_53 ?_
  refine g_icmp_ge 106 dX6_harmOfWay_54 (by decide) (fun c3 => ?_) (fun c3 => ?_)
  · replace hF := q_t c3 hF
    cases hF
    refine g_sub [0, 1, 2, 3, 4, 5] rfl ?_
    exact hx0 _ rfl
  · replace hF := q_f c3 hF
    refine g_iload 6 dX6_harmOfWay_57 rfl ?_
    refine g_sipush dX6_harmOfWay_59 lt_sipush_200 ?_
    refine g_icmp_ge 106 dX6_harmOfWay_62 (by decide) (fun c4 => ?_) (fun c4 => ?_)
    · replace hF := q_t c4 hF
      cases hF
      refine g_sub [0, 1, 2, 3, 4, 5] rfl ?_
      exact hx0 _ rfl
    · replace hF := q_f c4 hF
      refine g_iload 6 dX6_harmOfWay_65 rfl ?_
      refine g_bipush dX6_harmOfWay_67 lt_bipush_10 ?_
      refine g_idiv dX6_harmOfWay_69 (by decide) ?_
      refine g_istore [(7, .int (a6 / (10 : Int32))), (0, .ref a0), (1, .ref a1), (2, .int a2), (3, .int a3), (4, .int a4), (5, .int a5), (6, .int a6)] dX6_harmOfWay_70 (Nat.le_of_ble_eq_true rfl) rfl ?_
      refine g_aload_n 1 dX6_harmOfWay_72 rfl ?_
      obtain ⟨x5, e6, hF⟩ := q_bind hF
      refine g_getfR fl_X6_20 e6 dX6_harmOfWay_73 ?_
      refine g_iload 7 dX6_harmOfWay_76 rfl ?_
      refine g_aload_n 2 dX6_harmOfWay_78 rfl ?_
      refine g_iload 0 dX6_harmOfWay_79 rfl ?_
      obtain ⟨u7, e8, hF⟩ := q_bind hF
      obtain ⟨x9, e10, hF⟩ := q_bind hF
      refine g_callVr0 (ci := 0) (q := (RX0, TX0, 15)) qm_X0_harmDone wd_1359 wd_944 wd_945 rfl e8 (M_X0_harmDone l b D z nx e10) (As := [.int (a6 / (10 : Int32))]) rfl rfl (Nat.le_of_ble_eq_true rfl) ⟨(Nat.le_of_ble_eq_true rfl), (Nat.le_of_ble_eq_true rfl)⟩ ⟨rfl, rfl⟩ ⟨(Nat.le_of_ble_eq_true rfl), (Nat.le_of_ble_eq_true rfl)⟩ dX6_harmOfWay_81 ?_
      refine g_aload_n 1 dX6_harmOfWay_84 rfl ?_
      refine g_aload_n 2 dX6_harmOfWay_85 rfl ?_
      refine g_iload 0 dX6_harmOfWay_86 rfl ?_
      refine g_iload 7 dX6_harmOfWay_88 rfl ?_
      refine g_bipush dX6_harmOfWay_90 lt_bipush_10 ?_
      refine g_irem dX6_harmOfWay_92 (by decide) ?_
      refine g_iload 5 dX6_harmOfWay_93 rfl ?_
      obtain ⟨u11, e12, hF⟩ := q_bind hF
      obtain ⟨x13, e14, hF⟩ := q_bind hF
      refine g_callVr0 (ci := 6) (q := (RX6, TX6, 7)) qm_X6_harmBehind wd_1360 wd_1362 wd_74 rfl e12 (M_X6_harmBehind l b D z nx e14) (As := [.ref a1, .int (a6 / (10 : Int32)), .int (q_rem a6 (10 : Int32)), .int a4]) rfl rfl (Nat.le_of_ble_eq_true rfl) ⟨(Nat.le_of_ble_eq_true rfl), (Nat.le_of_ble_eq_true rfl)⟩ ⟨rfl, rfl⟩ ⟨(Nat.le_of_ble_eq_true rfl), (Nat.le_of_ble_eq_true rfl)⟩ dX6_harmOfWay_95 ?_
      refine g_iadd dX6_harmOfWay_98 ?_
      obtain ⟨h15, e16, hF⟩ := q_bind hF
      refine g_iast e16 dX6_harmOfWay_99 ?_
      refine g_iinc [(6, .int (a6 + 1)), (7, .int (a6 / (10 : Int32))), (0, .ref a0), (1, .ref a1), (2, .int a2), (3, .int a3), (4, .int a4), (5, .int a5)] 7 dX6_harmOfWay_100 rfl (congrArg (a6 + ·) lt_iconst_1) (Nat.le_of_ble_eq_true rfl) rfl ?_
      refine g_goto 45 dX6_harmOfWay_103 (by decide) ?_
      cases hF
      refine g_sub [2, 3, 4, 5, 6, 7, 0] rfl ?_
      exact hback _ _ rfl
set_option maxRecDepth 100000 in
set_option maxHeartbeats 4000000 in
theorem L_X6_harmOfWay_45 (l : Launch) (b : Nat) (D : va_G) (z : Nat → Nat) {Φ : Option Value → qH → Nat → Prop} {nx : Nat} {a0 : Nat} {a1 : Nat} {a2 : Int32} {a3 : Int32} {a4 : Int32} {a5 : Int32} : ∀ (n : Nat) (a6 : Int32) (h : qH) (e : qH), q_lp (s_X6_harmOfWay_45 a0 a1 a2 a3 a4 a5) n (a6, h) = some e → (∀  (bh : qH), e = bh → Go l b D z yX6_harmOfWay cX6_harmOfWay 8 (some .int) rm_X6_harmOfWay Φ 106 [(0, .ref a0), (1, .ref a1), (2, .int a2), (3, .int a3), (4, .int a4), (5, .int a5)] [] bh nx 0 0) → Go l b D z yX6_harmOfWay cX6_harmOfWay 8 (some .int) rm_X6_harmOfWay Φ 45 [(0, .ref a0), (1, .ref a1), (2, .int a2), (3, .int a3), (4, .int a4), (5, .int a5), (6, .int a6)] [] h nx 0 0 := by
  intro n
  induction n with
  | zero => intro a6 h e he; cases (show none = some e from he)
  | succ n ih =>
    intro a6 h e he hx0
    obtain ⟨o, ho, h1, h2⟩ := q_lp_succ he
    exact B_X6_harmOfWay_45 l b D z (show b_X6_harmOfWay_45 a0 a1 a2 a3 a4 a5 a6 h = some o from ho) (fun b6 bh hb => ih _ _ e (h1 _ hb) hx0) (fun p0 hr => hx0 p0 (h2 _ hr).symm)
set_option maxRecDepth 100000 in
set_option maxHeartbeats 4000000 in
theorem J_X6_harmOfWay_106 (l : Launch) (b : Nat) (D : va_G) (z : Nat → Nat) {Φ : Option Value → qH → Nat → Prop} {nx : Nat} {h : qH} {a0 : Nat} {a1 : Nat} {a2 : Int32} {a3 : Int32} {a4 : Int32} {a5 : Int32} {o : (Int32 × qH) ⊕ qH} (hF : j_X6_harmOfWay_106 h a0 a1 a2 a3 a4 a5  = some o) (hback : ∀ (b5 : Int32) (bh : qH), o = .inl (b5, bh) → Go l b D z yX6_harmOfWay cX6_harmOfWay 8 (some .int) rm_X6_harmOfWay Φ 36 [(0, .ref a0), (1, .ref a1), (2, .int a2), (3, .int a3), (4, .int a4), (5, .int b5)] [] bh nx 0 0) (hx0 : ∀  (bh : qH), o = .inr bh → Go l b D z yX6_harmOfWay cX6_harmOfWay 8 (some .int) rm_X6_harmOfWay Φ 128 [(0, .ref a0), (3, .int a3)] [] bh nx 0 0) : Go l b D z yX6_harmOfWay cX6_harmOfWay 8 (some .int) rm_X6_harmOfWay Φ 106 [(0, .ref a0), (1, .ref a1), (2, .int a2), (3, .int a3), (4, .int a4), (5, .int a5)] [] h nx 0 0 := by
  unfold j_X6_harmOfWay_106 at hF
  refine g_aload_n 0 dX6_harmOfWay_106 rfl ?_
  obtain ⟨x1, e2, hF⟩ := q_bind hF
  refine g_getfR fl_X6_20 e2 dX6_harmOfWay_107 ?_
  refine g_iconst dX6_harmOfWay_110 lt_iconst_0 ?_
  refine g_aload_n 0 dX6_harmOfWay_111 rfl ?_
  obtain ⟨x3, e4, hF⟩ := q_bind hF
  refine g_getfR fl_X6_17 e4 dX6_harmOfWay_112 ?_
  refine g_iconst dX6_harmOfWay_115 lt_iconst_0 ?_
  refine g_sipush dX6_harmOfWay_116 lt_sipush_200 ?_
  obtain ⟨h5, e6, hF⟩ := q_bind hF
  refine g_copyI rfl e6 wd_1026 wd_1028 wd_1027 wd_182 (Nat.le_of_ble_eq_true rfl) (Nat.le_of_ble_eq_true rfl) dX6_harmOfWay_119 ?_
  refine g_iinc [(5, .int (a5 + 1)), (0, .ref a0), (1, .ref a1), (2, .int a2), (3, .int a3), (4, .int a4)] 5 dX6_harmOfWay_122 rfl (congrArg (a5 + ·) lt_iconst_1) (Nat.le_of_ble_eq_true rfl) rfl ?_
  refine g_goto 36 dX6_harmOfWay_125 (by decide) ?_
  cases hF
  refine g_sub [1, 2, 3, 4, 5, 0] rfl ?_
  exact hback _ _ rfl
set_option maxRecDepth 100000 in
set_option maxHeartbeats 4000000 in
theorem B_X6_harmOfWay_36 (l : Launch) (b : Nat) (D : va_G) (z : Nat → Nat) {Φ : Option Value → qH → Nat → Prop} {nx : Nat} {a0 : Nat} {a1 : Nat} {a2 : Int32} {a3 : Int32} {a4 : Int32} {a5 : Int32} {h : qH} {o : (Int32 × qH) ⊕ qH} (hF : b_X6_harmOfWay_36 a0 a1 a2 a3 a4 a5 h = some o) (hback : ∀ (b5 : Int32) (bh : qH), o = .inl (b5, bh) → Go l b D z yX6_harmOfWay cX6_harmOfWay 8 (some .int) rm_X6_harmOfWay Φ 36 [(0, .ref a0), (1, .ref a1), (2, .int a2), (3, .int a3), (4, .int a4), (5, .int b5)] [] bh nx 0 0) (hx0 : ∀  (bh : qH), o = .inr bh → Go l b D z yX6_harmOfWay cX6_harmOfWay 8 (some .int) rm_X6_harmOfWay Φ 128 [(0, .ref a0), (3, .int a3)] [] bh nx 0 0) : Go l b D z yX6_harmOfWay cX6_harmOfWay 8 (some .int) rm_X6_harmOfWay Φ 36 [(0, .ref a0), (1, .ref a1), (2, .int a2), (3, .int a3), (4, .int a4), (5, .int a5)] [] h nx 0 0 := by
  unfold b_X6_harmOfWay_36 at hF
  refine g_iload 5 dX6_harmOfWay_36 rfl ?_
  refine g_iload_n 2 dX6_harmOfWay_38 rfl ?_
  refine g_icmp_gt 128 dX6_harmOfWay_39 (by decide) (fun c1 => ?_) (fun c1 => ?_)
  · replace hF := q_t c1 hF
    cases hF
    refine g_sub [0, 3] rfl ?_
    exact hx0 _ rfl
  · replace hF := q_f c1 hF
    refine g_iconst dX6_harmOfWay_42 lt_iconst_0 ?_
    refine g_istore [(6, .int (0 : Int32)), (0, .ref a0), (1, .ref a1), (2, .int a2), (3, .int a3), (4, .int a4), (5, .int a5)] dX6_harmOfWay_43 (Nat.le_of_ble_eq_true rfl) rfl ?_
    obtain ⟨e2, w3, hF⟩ := q_bind hF
    refine g_sub [1, 2, 3, 4, 5, 6, 0] rfl ?_
    refine L_X6_harmOfWay_45 l b D z q_N (0 : Int32) h e2 w3 ?_
    · intro h4 w5
      replace w5 := w5.symm
      subst w5
      exact J_X6_harmOfWay_106 l b D z hF hback hx0
set_option maxRecDepth 100000 in
set_option maxHeartbeats 4000000 in
theorem L_X6_harmOfWay_36 (l : Launch) (b : Nat) (D : va_G) (z : Nat → Nat) {Φ : Option Value → qH → Nat → Prop} {nx : Nat} {a0 : Nat} {a1 : Nat} {a2 : Int32} {a3 : Int32} {a4 : Int32} : ∀ (n : Nat) (a5 : Int32) (h : qH) (e : qH), q_lp (s_X6_harmOfWay_36 a0 a1 a2 a3 a4) n (a5, h) = some e → (∀  (bh : qH), e = bh → Go l b D z yX6_harmOfWay cX6_harmOfWay 8 (some .int) rm_X6_harmOfWay Φ 128 [(0, .ref a0), (3, .int a3)] [] bh nx 0 0) → Go l b D z yX6_harmOfWay cX6_harmOfWay 8 (some .int) rm_X6_harmOfWay Φ 36 [(0, .ref a0), (1, .ref a1), (2, .int a2), (3, .int a3), (4, .int a4), (5, .int a5)] [] h nx 0 0 := by
  intro n
  induction n with
  | zero => intro a5 h e he; cases (show none = some e from he)
  | succ n ih =>
    intro a5 h e he hx0
    obtain ⟨o, ho, h1, h2⟩ := q_lp_succ he
    exact B_X6_harmOfWay_36 l b D z (show b_X6_harmOfWay_36 a0 a1 a2 a3 a4 a5 h = some o from ho) (fun b5 bh hb => ih _ _ e (h1 _ hb) hx0) (fun p0 hr => hx0 p0 (h2 _ hr).symm)
set_option maxRecDepth 100000 in
set_option maxHeartbeats 4000000 in
theorem M_X6_harmOfWay (l : Launch) (b : Nat) (D : va_G) (z : Nat → Nat) (nx : Nat) {h : qH} {a0 : Nat} {a1 : Nat} {a2 : Int32} {a3 : Int32} {a4 : Int32} {r : Int32 × qH} (hF : F_X6_harmOfWay h a0 a1 a2 a3 a4 = some r) : Me l b D z yX6_harmOfWay cX6_harmOfWay 8 (some .int) rm_X6_harmOfWay [.ref a0, .ref a1, .int a2, .int a3, .int a4] h nx (qE (some (.int r.1)) r.2 nx) := by
  refine Me.of (by decide +kernel) (Nat.le_of_ble_eq_true rfl) ?_
  show Go l b D z yX6_harmOfWay cX6_harmOfWay 8 (some .int) rm_X6_harmOfWay (qE (some (.int r.1)) r.2 nx) 0 [(0, .ref a0), (1, .ref a1), (2, .int a2), (3, .int a3), (4, .int a4)] [] h nx 0 0
  unfold F_X6_harmOfWay at hF
  refine g_iconst dX6_harmOfWay_0 lt_iconst_0 ?_
  refine g_istore [(5, .int (0 : Int32)), (0, .ref a0), (1, .ref a1), (2, .int a2), (3, .int a3), (4, .int a4)] dX6_harmOfWay_1 (Nat.le_of_ble_eq_true rfl) rfl ?_
  obtain ⟨e1, w2, hF⟩ := q_bind hF
  refine g_sub [1, 2, 3, 4, 5, 0] rfl ?_
  refine L_X6_harmOfWay_3 l b D z q_N (0 : Int32) h e1 w2 ?_
  · intro h3 w4
    replace w4 := w4.symm
    subst w4
    refine g_iconst dX6_harmOfWay_33 lt_iconst_2 ?_
    refine g_istore [(5, .int (2 : Int32)), (0, .ref a0), (1, .ref a1), (2, .int a2), (3, .int a3), (4, .int a4)] dX6_harmOfWay_34 (Nat.le_of_ble_eq_true rfl) rfl ?_
    obtain ⟨e5, w6, hF⟩ := q_bind hF
    refine g_sub [1, 2, 3, 4, 5, 0] rfl ?_
    refine L_X6_harmOfWay_36 l b D z q_N (2 : Int32) h3 e5 w6 ?_
    · intro h7 w8
      replace w8 := w8.symm
      subst w8
      refine g_iload_n 1 dX6_harmOfWay_128 rfl ?_
      refine g_if_lt 147 dX6_harmOfWay_129 (by decide) (fun c9 => ?_) (fun c9 => ?_)
      · replace hF := q_t c9 hF
        refine g_iconst dX6_harmOfWay_147 lt_iconst_m1 ?_
        cases hF
        exact g_iret dX6_harmOfWay_148 rfl ⟨rfl, rfl, rfl⟩ (Nat.le_of_ble_eq_true rfl) (Nat.le_of_ble_eq_true rfl)
      · replace hF := q_f c9 hF
        refine g_iload_n 1 dX6_harmOfWay_132 rfl ?_
        refine g_bipush dX6_harmOfWay_133 lt_bipush_10 ?_
        refine g_icmp_ge 147 dX6_harmOfWay_135 (by decide) (fun c10 => ?_) (fun c10 => ?_)
        · replace hF := q_t c10 hF
          refine g_iconst dX6_harmOfWay_147 lt_iconst_m1 ?_
          cases hF
          exact g_iret dX6_harmOfWay_148 rfl ⟨rfl, rfl, rfl⟩ (Nat.le_of_ble_eq_true rfl) (Nat.le_of_ble_eq_true rfl)
        · replace hF := q_f c10 hF
          refine g_aload_n 0 dX6_harmOfWay_138 rfl ?_
          obtain ⟨x11, e12, hF⟩ := q_bind hF
          refine g_getfR fl_X6_17 e12 dX6_harmOfWay_139 ?_
          refine g_iload_n 1 dX6_harmOfWay_142 rfl ?_
          obtain ⟨x13, e14, hF⟩ := q_bind hF
          refine g_iald e14 dX6_harmOfWay_143 ?_
          refine g_goto 148 dX6_harmOfWay_144 (by decide) ?_
          cases hF
          exact g_iret dX6_harmOfWay_148 rfl ⟨rfl, rfl, rfl⟩ (Nat.le_of_ble_eq_true rfl) (Nat.le_of_ble_eq_true rfl)
def rm_X6_mayBeSaid : Room := { frames := 1, cells := 0, slots := 0, locals := 21 }
set_option maxRecDepth 100000 in
set_option maxHeartbeats 4000000 in
theorem M_X6_mayBeSaid (l : Launch) (b : Nat) (D : va_G) (z : Nat → Nat) (nx : Nat) {h : qH} {a0 : Nat} {a1 : Int32} {a2 : Int32} {a3 : Int32} {r : Int32} (hF : F_X6_mayBeSaid h a0 a1 a2 a3 = some r) : Me l b D z yX6_mayBeSaid cX6_mayBeSaid 4 (some .boolean) rm_X6_mayBeSaid [.ref a0, .int a1, .int a2, .int a3] h nx (qE (some (.int r)) h nx) := by
  refine Me.of (by decide +kernel) (Nat.le_of_ble_eq_true rfl) ?_
  show Go l b D z yX6_mayBeSaid cX6_mayBeSaid 4 (some .boolean) rm_X6_mayBeSaid (qE (some (.int r)) h nx) 0 [(0, .ref a0), (1, .int a1), (2, .int a2), (3, .int a3)] [] h nx 0 0
  unfold F_X6_mayBeSaid at hF
  refine g_aload_n 0 dX6_mayBeSaid_0 rfl ?_
  refine g_iload_n 1 dX6_mayBeSaid_1 rfl ?_
  obtain ⟨u1, e2, hF⟩ := q_bind hF
  obtain ⟨x3, e4, hF⟩ := q_bind hF
  refine g_callVr0 (ci := 0) (q := (RX0, TX0, 15)) qm_X0_has wd_987 wd_783 wd_784 rfl e2 (M_X0_has l b D z nx e4) (As := [.int a1]) rfl rfl (Nat.le_of_ble_eq_true rfl) ⟨(Nat.le_of_ble_eq_true rfl), (Nat.le_of_ble_eq_true rfl)⟩ ⟨rfl, rfl⟩ ⟨(Nat.le_of_ble_eq_true rfl), (Nat.le_of_ble_eq_true rfl)⟩ dX6_mayBeSaid_2 ?_
  refine g_if_eq 29 dX6_mayBeSaid_5 (by decide) (fun c5 => ?_) (fun c5 => ?_)
  · replace hF := q_t c5 hF
    refine g_iconst dX6_mayBeSaid_29 lt_iconst_0 ?_
    cases hF
    exact g_zret dX6_mayBeSaid_30 rfl zn_0 ⟨rfl, rfl, rfl⟩ (Nat.le_of_ble_eq_true rfl) (Nat.le_of_ble_eq_true rfl)
  · replace hF := q_f c5 hF
    refine g_iload_n 1 dX6_mayBeSaid_8 rfl ?_
    refine g_iload_n 3 dX6_mayBeSaid_9 rfl ?_
    refine g_icmp_eq 29 dX6_mayBeSaid_10 (by decide) (fun c6 => ?_) (fun c6 => ?_)
    · replace hF := q_t c6 hF
      refine g_iconst dX6_mayBeSaid_29 lt_iconst_0 ?_
      cases hF
      exact g_zret dX6_mayBeSaid_30 rfl zn_0 ⟨rfl, rfl, rfl⟩ (Nat.le_of_ble_eq_true rfl) (Nat.le_of_ble_eq_true rfl)
    · replace hF := q_f c6 hF
      refine g_iload_n 2 dX6_mayBeSaid_13 rfl ?_
      refine g_aload_n 0 dX6_mayBeSaid_14 rfl ?_
      refine g_iload_n 1 dX6_mayBeSaid_15 rfl ?_
      obtain ⟨u7, e8, hF⟩ := q_bind hF
      obtain ⟨x9, e10, hF⟩ := q_bind hF
      refine g_callVr0 (ci := 0) (q := (RX0, TX0, 15)) qm_X0_whoSays wd_1041 wd_931 wd_932 rfl e8 (M_X0_whoSays l b D z nx e10) (As := [.int a1]) rfl rfl (Nat.le_of_ble_eq_true rfl) ⟨(Nat.le_of_ble_eq_true rfl), (Nat.le_of_ble_eq_true rfl)⟩ ⟨rfl, rfl⟩ ⟨(Nat.le_of_ble_eq_true rfl), (Nat.le_of_ble_eq_true rfl)⟩ dX6_mayBeSaid_16 ?_
      refine g_ishr dX6_mayBeSaid_19 ?_
      refine g_iconst dX6_mayBeSaid_20 lt_iconst_1 ?_
      refine g_iand dX6_mayBeSaid_21 ?_
      refine g_if_ne 29 dX6_mayBeSaid_22 (by decide) (fun c11 => ?_) (fun c11 => ?_)
      · replace hF := q_f c11 hF
        refine g_iconst dX6_mayBeSaid_29 lt_iconst_0 ?_
        cases hF
        exact g_zret dX6_mayBeSaid_30 rfl zn_0 ⟨rfl, rfl, rfl⟩ (Nat.le_of_ble_eq_true rfl) (Nat.le_of_ble_eq_true rfl)
      · replace hF := q_t c11 hF
        refine g_iconst dX6_mayBeSaid_25 lt_iconst_1 ?_
        refine g_goto 30 dX6_mayBeSaid_26 (by decide) ?_
        cases hF
        exact g_zret dX6_mayBeSaid_30 rfl zn_1 ⟨rfl, rfl, rfl⟩ (Nat.le_of_ble_eq_true rfl) (Nat.le_of_ble_eq_true rfl)
