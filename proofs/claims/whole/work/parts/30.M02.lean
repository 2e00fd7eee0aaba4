def rm_X4_shortestFrom : Room := { frames := 1, cells := 0, slots := 0, locals := 22 }
set_option maxRecDepth 100000 in
set_option maxHeartbeats 4000000 in
theorem M_X4_shortestFrom (l : Launch) (b : Nat) (D : va_G) (z : Nat → Nat) (nx : Nat) {h : qH} {a0 : Nat} {a1 : Int32} {a2 : Int32} {r : Int32} (hF : F_X4_shortestFrom h a0 a1 a2 = some r) : Me l b D z yX4_shortestFrom cX4_shortestFrom 3 (some .int) rm_X4_shortestFrom [.ref a0, .int a1, .int a2] h nx (qE (some (.int r)) h nx) := by
  refine Me.of (by decide +kernel) (Nat.le_of_ble_eq_true rfl) ?_
  show Go l b D z yX4_shortestFrom cX4_shortestFrom 3 (some .int) rm_X4_shortestFrom (qE (some (.int r)) h nx) 0 [(0, .ref a0), (1, .int a1), (2, .int a2)] [] h nx 0 0
  unfold F_X4_shortestFrom at hF
  refine g_iload_n 1 dX4_shortestFrom_0 rfl ?_
  refine g_aload_n 0 dX4_shortestFrom_1 rfl ?_
  obtain ⟨x1, e2, hF⟩ := q_bind hF
  refine g_getfI fl_X4_28 e2 dX4_shortestFrom_2 ?_
  refine g_icmp_lt 15 dX4_shortestFrom_5 (by decide) (fun c3 => ?_) (fun c3 => ?_)
  · replace hF := q_t c3 hF
    refine g_iload_n 2 dX4_shortestFrom_15 rfl ?_
    refine g_aload_n 0 dX4_shortestFrom_16 rfl ?_
    obtain ⟨x4, e5, hF⟩ := q_bind hF
    refine g_getfI fl_X4_32 e5 dX4_shortestFrom_17 ?_
    refine g_icmp_lt 30 dX4_shortestFrom_20 (by decide) (fun c6 => ?_) (fun c6 => ?_)
    · replace hF := q_t c6 hF
      refine g_aload_n 0 dX4_shortestFrom_30 rfl ?_
      refine g_iload_n 1 dX4_shortestFrom_31 rfl ?_
      refine g_iload_n 2 dX4_shortestFrom_32 rfl ?_
      obtain ⟨u7, e8, hF⟩ := q_bind hF
      obtain ⟨x9, e10, hF⟩ := q_bind hF
      refine g_callVr0 (ci := 4) (q := (RX4, TX4, 7)) qm_X4_isShared wd_1121 wd_1123 wd_45 rfl e8 (M_X4_isShared l b D z nx e10) (As := [.int a1, .int a2]) rfl rfl (Nat.le_of_ble_eq_true rfl) ⟨(Nat.le_of_ble_eq_true rfl), (Nat.le_of_ble_eq_true rfl)⟩ ⟨rfl, rfl⟩ ⟨(Nat.le_of_ble_eq_true rfl), (Nat.le_of_ble_eq_true rfl)⟩ dX4_shortestFrom_33 ?_
      refine g_if_eq 52 dX4_shortestFrom_36 (by decide) (fun c11 => ?_) (fun c11 => ?_)
      · replace hF := q_t c11 hF
        refine g_iconst dX4_shortestFrom_52 lt_iconst_1 ?_
        refine g_aload_n 0 dX4_shortestFrom_53 rfl ?_
        refine g_iload_n 1 dX4_shortestFrom_54 rfl ?_
        refine g_iconst dX4_shortestFrom_55 lt_iconst_1 ?_
        refine g_iadd dX4_shortestFrom_56 ?_
        refine g_iload_n 2 dX4_shortestFrom_57 rfl ?_
        obtain ⟨u12, e13, hF⟩ := q_bind hF
        obtain ⟨x14, e15, hF⟩ := q_bind hF
        refine g_callVr0 (ci := 4) (q := (RX4, TX4, 7)) qm_X4_shortestAt wd_1125 wd_1127 wd_46 rfl e13 (M_X4_shortestAt l b D z nx e15) (As := [.int (a1 + (1 : Int32)), .int a2]) rfl rfl (Nat.le_of_ble_eq_true rfl) ⟨(Nat.le_of_ble_eq_true rfl), (Nat.le_of_ble_eq_true rfl)⟩ ⟨rfl, rfl⟩ ⟨(Nat.le_of_ble_eq_true rfl), (Nat.le_of_ble_eq_true rfl)⟩ dX4_shortestFrom_58 ?_
        refine g_aload_n 0 dX4_shortestFrom_61 rfl ?_
        refine g_iload_n 1 dX4_shortestFrom_62 rfl ?_
        refine g_iload_n 2 dX4_shortestFrom_63 rfl ?_
        refine g_iconst dX4_shortestFrom_64 lt_iconst_1 ?_
        refine g_iadd dX4_shortestFrom_65 ?_
        obtain ⟨u16, e17, hF⟩ := q_bind hF
        obtain ⟨x18, e19, hF⟩ := q_bind hF
        refine g_callVr0 (ci := 4) (q := (RX4, TX4, 7)) qm_X4_shortestAt wd_1125 wd_1127 wd_46 rfl e17 (M_X4_shortestAt l b D z nx e19) (As := [.int a1, .int (a2 + (1 : Int32))]) rfl rfl (Nat.le_of_ble_eq_true rfl) ⟨(Nat.le_of_ble_eq_true rfl), (Nat.le_of_ble_eq_true rfl)⟩ ⟨rfl, rfl⟩ ⟨(Nat.le_of_ble_eq_true rfl), (Nat.le_of_ble_eq_true rfl)⟩ dX4_shortestFrom_66 ?_
        obtain ⟨x20, e21, hF⟩ := q_bind hF
        refine g_callSr0 qm_J9_min_7cf53 wd_1130 wd_1008 (M_J9_min_7cf53 l b D z nx e21) (As := [.int x14, .int x18]) rfl rfl (Nat.le_of_ble_eq_true rfl) ⟨(Nat.le_of_ble_eq_true rfl), (Nat.le_of_ble_eq_true rfl)⟩ ⟨rfl, rfl⟩ ⟨(Nat.le_of_ble_eq_true rfl), (Nat.le_of_ble_eq_true rfl)⟩ dX4_shortestFrom_69 ?_
        refine g_iadd dX4_shortestFrom_72 ?_
        cases hF
        exact g_iret dX4_shortestFrom_73 rfl ⟨rfl, rfl, rfl⟩ (Nat.le_of_ble_eq_true rfl) (Nat.le_of_ble_eq_true rfl)
      · replace hF := q_f c11 hF
        refine g_iconst dX4_shortestFrom_39 lt_iconst_1 ?_
        refine g_aload_n 0 dX4_shortestFrom_40 rfl ?_
        refine g_iload_n 1 dX4_shortestFrom_41 rfl ?_
        refine g_iconst dX4_shortestFrom_42 lt_iconst_1 ?_
        refine g_iadd dX4_shortestFrom_43 ?_
        refine g_iload_n 2 dX4_shortestFrom_44 rfl ?_
        refine g_iconst dX4_shortestFrom_45 lt_iconst_1 ?_
        refine g_iadd dX4_shortestFrom_46 ?_
        obtain ⟨u22, e23, hF⟩ := q_bind hF
        obtain ⟨x24, e25, hF⟩ := q_bind hF
        refine g_callVr0 (ci := 4) (q := (RX4, TX4, 7)) qm_X4_shortestAt wd_1125 wd_1127 wd_46 rfl e23 (M_X4_shortestAt l b D z nx e25) (As := [.int (a1 + (1 : Int32)), .int (a2 + (1 : Int32))]) rfl rfl (Nat.le_of_ble_eq_true rfl) ⟨(Nat.le_of_ble_eq_true rfl), (Nat.le_of_ble_eq_true rfl)⟩ ⟨rfl, rfl⟩ ⟨(Nat.le_of_ble_eq_true rfl), (Nat.le_of_ble_eq_true rfl)⟩ dX4_shortestFrom_47 ?_
        refine g_iadd dX4_shortestFrom_50 ?_
        cases hF
        exact g_iret dX4_shortestFrom_51 rfl ⟨rfl, rfl, rfl⟩ (Nat.le_of_ble_eq_true rfl) (Nat.le_of_ble_eq_true rfl)
    · replace hF := q_f c6 hF
      refine g_aload_n 0 dX4_shortestFrom_23 rfl ?_
      obtain ⟨x26, e27, hF⟩ := q_bind hF
      refine g_getfI fl_X4_28 e27 dX4_shortestFrom_24 ?_
      refine g_iload_n 1 dX4_shortestFrom_27 rfl ?_
      refine g_isub dX4_shortestFrom_28 ?_
      cases hF
      exact g_iret dX4_shortestFrom_29 rfl ⟨rfl, rfl, rfl⟩ (Nat.le_of_ble_eq_true rfl) (Nat.le_of_ble_eq_true rfl)
  · replace hF := q_f c3 hF
    refine g_aload_n 0 dX4_shortestFrom_8 rfl ?_
    obtain ⟨x28, e29, hF⟩ := q_bind hF
    refine g_getfI fl_X4_32 e29 dX4_shortestFrom_9 ?_
    refine g_iload_n 2 dX4_shortestFrom_12 rfl ?_
    refine g_isub dX4_shortestFrom_13 ?_
    cases hF
    exact g_iret dX4_shortestFrom_14 rfl ⟨rfl, rfl, rfl⟩ (Nat.le_of_ble_eq_true rfl) (Nat.le_of_ble_eq_true rfl)
def rm_X4_takesOne : Room := { frames := 1, cells := 0, slots := 0, locals := 22 }
set_option maxRecDepth 100000 in
set_option maxHeartbeats 4000000 in
theorem J_X4_takesOne_16 (l : Launch) (b : Nat) (D : va_G) (z : Nat → Nat) {nx : Nat} {h : qH} {a0 : Nat} {a1 : Int32} {r : Int32} (hF : j_X4_takesOne_16 h a0 a1  = some r) : Go l b D z yX4_takesOne cX4_takesOne 5 (some .boolean) rm_X4_takesOne (qE (some (.int r)) h nx) 16 [(0, .ref a0), (1, .int a1)] [] h nx 0 0 := by
  unfold j_X4_takesOne_16 at hF
  refine g_iload_n 1 dX4_takesOne_16 rfl ?_
  refine g_aload_n 0 dX4_takesOne_17 rfl ?_
  obtain ⟨x1, e2, hF⟩ := q_bind hF
  refine g_getfI fl_X4_28 e2 dX4_takesOne_18 ?_
  refine g_icmp_ge 28 dX4_takesOne_21 (by decide) (fun c3 => ?_) (fun c3 => ?_)
  · replace hF := q_t c3 hF
    refine g_iconst dX4_takesOne_28 lt_iconst_0 ?_
    cases hF
    exact g_zret dX4_takesOne_29 rfl zn_0 ⟨rfl, rfl, rfl⟩ (Nat.le_of_ble_eq_true rfl) (Nat.le_of_ble_eq_true rfl)
  · replace hF := q_f c3 hF
    refine g_iconst dX4_takesOne_24 lt_iconst_1 ?_
    refine g_goto 29 dX4_takesOne_25 (by decide) ?_
    cases hF
    exact g_zret dX4_takesOne_29 rfl zn_1 ⟨rfl, rfl, rfl⟩ (Nat.le_of_ble_eq_true rfl) (Nat.le_of_ble_eq_true rfl)
set_option maxRecDepth 100000 in
set_option maxHeartbeats 4000000 in
theorem M_X4_takesOne (l : Launch) (b : Nat) (D : va_G) (z : Nat → Nat) (nx : Nat) {h : qH} {a0 : Nat} {a1 : Int32} {a2 : Int32} {r : Int32} (hF : F_X4_takesOne h a0 a1 a2 = some r) : Me l b D z yX4_takesOne cX4_takesOne 5 (some .boolean) rm_X4_takesOne [.ref a0, .int a1, .int a2] h nx (qE (some (.int r)) h nx) := by
  refine Me.of (by decide +kernel) (Nat.le_of_ble_eq_true rfl) ?_
  show Go l b D z yX4_takesOne cX4_takesOne 5 (some .boolean) rm_X4_takesOne (qE (some (.int r)) h nx) 0 [(0, .ref a0), (1, .int a1), (2, .int a2)] [] h nx 0 0
  unfold F_X4_takesOne at hF
  refine g_iload_n 1 dX4_takesOne_0 rfl ?_
  refine g_aload_n 0 dX4_takesOne_1 rfl ?_
  obtain ⟨x1, e2, hF⟩ := q_bind hF
  refine g_getfI fl_X4_28 e2 dX4_takesOne_2 ?_
  refine g_icmp_ge 16 dX4_takesOne_5 (by decide) (fun c3 => ?_) (fun c3 => ?_)
  · replace hF := q_t c3 hF
    refine g_sub [0, 1] rfl ?_
    exact J_X4_takesOne_16 l b D z hF
  · replace hF := q_f c3 hF
    refine g_iload_n 2 dX4_takesOne_8 rfl ?_
    refine g_aload_n 0 dX4_takesOne_9 rfl ?_
    obtain ⟨x4, e5, hF⟩ := q_bind hF
    refine g_getfI fl_X4_32 e5 dX4_takesOne_10 ?_
    refine g_icmp_lt 30 dX4_takesOne_13 (by decide) (fun c6 => ?_) (fun c6 => ?_)
    · replace hF := q_t c6 hF
      refine g_aload_n 0 dX4_takesOne_30 rfl ?_
      refine g_iload_n 1 dX4_takesOne_31 rfl ?_
      refine g_iconst dX4_takesOne_32 lt_iconst_1 ?_
      refine g_iadd dX4_takesOne_33 ?_
      refine g_iload_n 2 dX4_takesOne_34 rfl ?_
      obtain ⟨u7, e8, hF⟩ := q_bind hF
      obtain ⟨x9, e10, hF⟩ := q_bind hF
      refine g_callVr0 (ci := 4) (q := (RX4, TX4, 7)) qm_X4_shortestAt wd_1125 wd_1127 wd_46 rfl e8 (M_X4_shortestAt l b D z nx e10) (As := [.int (a1 + (1 : Int32)), .int a2]) rfl rfl (Nat.le_of_ble_eq_true rfl) ⟨(Nat.le_of_ble_eq_true rfl), (Nat.le_of_ble_eq_true rfl)⟩ ⟨rfl, rfl⟩ ⟨(Nat.le_of_ble_eq_true rfl), (Nat.le_of_ble_eq_true rfl)⟩ dX4_takesOne_35 ?_
      refine g_istore_n [(3, .int x9), (0, .ref a0), (1, .int a1), (2, .int a2)] dX4_takesOne_38 (Nat.le_of_ble_eq_true rfl) rfl ?_
      refine g_aload_n 1 dX4_takesOne_39 rfl ?_
      refine g_iload_n 2 dX4_takesOne_40 rfl ?_
      refine g_iload_n 3 dX4_takesOne_41 rfl ?_
      refine g_iconst dX4_takesOne_42 lt_iconst_1 ?_
      refine g_iadd dX4_takesOne_43 ?_
      obtain ⟨u11, e12, hF⟩ := q_bind hF
      obtain ⟨x13, e14, hF⟩ := q_bind hF
      refine g_callVr0 (ci := 4) (q := (RX4, TX4, 7)) qm_X4_shortestAt wd_1125 wd_1127 wd_46 rfl e12 (M_X4_shortestAt l b D z nx e14) (As := [.int a1, .int (a2 + (1 : Int32))]) rfl rfl (Nat.le_of_ble_eq_true rfl) ⟨(Nat.le_of_ble_eq_true rfl), (Nat.le_of_ble_eq_true rfl)⟩ ⟨rfl, rfl⟩ ⟨(Nat.le_of_ble_eq_true rfl), (Nat.le_of_ble_eq_true rfl)⟩ dX4_takesOne_44 ?_
      refine g_istore [(4, .int x13), (3, .int x9), (0, .ref a0), (1, .int a1), (2, .int a2)] dX4_takesOne_47 (Nat.le_of_ble_eq_true rfl) rfl ?_
      refine g_iload_n 1 dX4_takesOne_49 rfl ?_
      refine g_iload 0 dX4_takesOne_50 rfl ?_
      refine g_icmp_lt 76 dX4_takesOne_52 (by decide) (fun c15 => ?_) (fun c15 => ?_)
      · replace hF := q_t c15 hF
        refine g_iconst dX4_takesOne_76 lt_iconst_1 ?_
        refine g_goto 81 dX4_takesOne_77 (by decide) ?_
        cases hF
        exact g_zret dX4_takesOne_81 rfl zn_1 ⟨rfl, rfl, rfl⟩ (Nat.le_of_ble_eq_true rfl) (Nat.le_of_ble_eq_true rfl)
      · replace hF := q_f c15 hF
        refine g_iload_n 1 dX4_takesOne_55 rfl ?_
        refine g_iload 0 dX4_takesOne_56 rfl ?_
        refine g_icmp_ne 80 dX4_takesOne_58 (by decide) (fun c16 => ?_) (fun c16 => ?_)
        · replace hF := q_f c16 hF
          refine g_iconst dX4_takesOne_80 lt_iconst_0 ?_
          cases hF
          exact g_zret dX4_takesOne_81 rfl zn_0 ⟨rfl, rfl, rfl⟩ (Nat.le_of_ble_eq_true rfl) (Nat.le_of_ble_eq_true rfl)
        · replace hF := q_t c16 hF
          refine g_aload_n 2 dX4_takesOne_61 rfl ?_
          obtain ⟨x17, e18, hF⟩ := q_bind hF
          refine g_getfR fl_X4_11 e18 dX4_takesOne_62 ?_
          refine g_iload_n 3 dX4_takesOne_65 rfl ?_
          obtain ⟨x19, e20, hF⟩ := q_bind hF
          refine g_iald e20 dX4_takesOne_66 ?_
          refine g_aload_n 2 dX4_takesOne_67 rfl ?_
          obtain ⟨x21, e22, hF⟩ := q_bind hF
          refine g_getfR fl_X4_15 e22 dX4_takesOne_68 ?_
          refine g_iload_n 4 dX4_takesOne_71 rfl ?_
          obtain ⟨x23, e24, hF⟩ := q_bind hF
          refine g_iald e24 dX4_takesOne_72 ?_
          refine g_icmp_ge 80 dX4_takesOne_73 (by decide) (fun c25 => ?_) (fun c25 => ?_)
          · replace hF := q_t c25 hF
            refine g_iconst dX4_takesOne_80 lt_iconst_0 ?_
            cases hF
            exact g_zret dX4_takesOne_81 rfl zn_0 ⟨rfl, rfl, rfl⟩ (Nat.le_of_ble_eq_true rfl) (Nat.le_of_ble_eq_true rfl)
          · replace hF := q_f c25 hF
            refine g_iconst dX4_takesOne_76 lt_iconst_1 ?_
            refine g_goto 81 dX4_takesOne_77 (by decide) ?_
            cases hF
            exact g_zret dX4_takesOne_81 rfl zn_1 ⟨rfl, rfl, rfl⟩ (Nat.le_of_ble_eq_true rfl) (Nat.le_of_ble_eq_true rfl)
    · replace hF := q_f c6 hF
      refine g_sub [0, 1] rfl ?_
      exact J_X4_takesOne_16 l b D z hF
def rm_X4_fillRow : Room := { frames := 2, cells := 0, slots := 0, locals := 46 }
set_option maxRecDepth 100000 in
set_option maxHeartbeats 4000000 in
theorem J_X4_fillRow_134 (l : Launch) (b : Nat) (D : va_G) (z : Nat → Nat) {Φ : Option Value → qH → Nat → Prop} {nx : Nat} {h : qH} {a0 : Nat} {a2 : Int32} {a3 : Int32} {a4 : Int32} {t0 : Int32} {t1 : Int32} {o : (Int32 × Int32 × qH) ⊕ qH} (hF : j_X4_fillRow_134 h a0 a2 a3 a4 t0 t1 = some o) (hback : ∀ (b1 : Int32) (b2 : Int32) (bh : qH), o = .inl (b1, b2, bh) → Go l b D z yX4_fillRow cX4_fillRow 5 none rm_X4_fillRow Φ 9 [(0, .ref a0), (1, .int b1), (2, .int b2)] [] bh nx 0 0) (hx0 : ∀  (bh : qH), o = .inr bh → Go l b D z yX4_fillRow cX4_fillRow 5 none rm_X4_fillRow Φ 156 [] [] bh nx 0 0) : Go l b D z yX4_fillRow cX4_fillRow 5 none rm_X4_fillRow Φ 134 [(0, .ref a0), (2, .int a2), (3, .int a3), (4, .int a4)] [.int t0, .int t1] h nx 0 0 := by
  unfold j_X4_fillRow_134 at hF
  refine g_iadd dX4_fillRow_134 ?_
  refine g_istore_n [(1, .int (t1 + t0)), (0, .ref a0), (2, .int a2), (3, .int a3), (4, .int a4)] dX4_fillRow_135 (Nat.le_of_ble_eq_true rfl) rfl ?_
  refine g_iload_n 2 dX4_fillRow_136 rfl ?_
  refine g_iload_n 3 dX4_fillRow_137 rfl ?_
  refine g_if_ne 146 dX4_fillRow_138 (by decide) (fun c1 => ?_) (fun c1 => ?_)
  · replace hF := q_f c1 hF
    refine g_iconst dX4_fillRow_146 lt_iconst_1 ?_
    refine g_goto 151 dX4_fillRow_147 (by decide) ?_
    refine g_iadd dX4_fillRow_151 ?_
    refine g_istore_n [(2, .int (a2 + (1 : Int32))), (1, .int (t1 + t0)), (0, .ref a0), (3, .int a3), (4, .int a4)] dX4_fillRow_152 (Nat.le_of_ble_eq_true rfl) rfl ?_
    refine g_goto 9 dX4_fillRow_153 (by decide) ?_
    cases hF
    refine g_sub [2, 1, 0] rfl ?_
    exact hback _ _ _ rfl
  · replace hF := q_t c1 hF
    refine g_iload 4 dX4_fillRow_141 rfl ?_
    refine g_if_ne 150 dX4_fillRow_143 (by decide) (fun c2 => ?_) (fun c2 => ?_)
    · replace hF := q_f c2 hF
      refine g_iconst dX4_fillRow_150 lt_iconst_0 ?_
      refine g_iadd dX4_fillRow_151 ?_
      refine g_istore_n [(2, .int (a2 + (0 : Int32))), (1, .int (t1 + t0)), (0, .ref a0), (3, .int a3), (4, .int a4)] dX4_fillRow_152 (Nat.le_of_ble_eq_true rfl) rfl ?_
      refine g_goto 9 dX4_fillRow_153 (by decide) ?_
      cases hF
      refine g_sub [2, 1, 0] rfl ?_
      exact hback _ _ _ rfl
    · replace hF := q_t c2 hF
      refine g_iconst dX4_fillRow_146 lt_iconst_1 ?_
      refine g_goto 151 dX4_fillRow_147 (by decide) ?_
      refine g_iadd dX4_fillRow_151 ?_
      refine g_istore_n [(2, .int (a2 + (1 : Int32))), (1, .int (t1 + t0)), (0, .ref a0), (3, .int a3), (4, .int a4)] dX4_fillRow_152 (Nat.le_of_ble_eq_true rfl) rfl ?_
      refine g_goto 9 dX4_fillRow_153 (by decide) ?_
      cases hF
      refine g_sub [2, 1, 0] rfl ?_
      exact hback _ _ _ rfl
set_option maxRecDepth 100000 in
set_option maxHeartbeats 4000000 in
theorem J_X4_fillRow_112 (l : Launch) (b : Nat) (D : va_G) (z : Nat → Nat) {Φ : Option Value → qH → Nat → Prop} {nx : Nat} {h : qH} {a0 : Nat} {a1 : Int32} {a2 : Int32} {a3 : Int32} {a4 : Int32} {t0 : Int32} {t1 : Int32} {t2 : Nat} {o : (Int32 × Int32 × qH) ⊕ qH} (hF : j_X4_fillRow_112 h a0 a1 a2 a3 a4 t0 t1 t2 = some o) (hback : ∀ (b1 : Int32) (b2 : Int32) (bh : qH), o = .inl (b1, b2, bh) → Go l b D z yX4_fillRow cX4_fillRow 5 none rm_X4_fillRow Φ 9 [(0, .ref a0), (1, .int b1), (2, .int b2)] [] bh nx 0 0) (hx0 : ∀  (bh : qH), o = .inr bh → Go l b D z yX4_fillRow cX4_fillRow 5 none rm_X4_fillRow Φ 156 [] [] bh nx 0 0) : Go l b D z yX4_fillRow cX4_fillRow 5 none rm_X4_fillRow Φ 112 [(0, .ref a0), (1, .int a1), (2, .int a2), (3, .int a3), (4, .int a4)] [.int t0, .int t1, .ref t2] h nx 0 0 := by
  unfold j_X4_fillRow_112 at hF
  obtain ⟨h1, e2, hF⟩ := q_bind hF
  refine g_iast e2 dX4_fillRow_112 ?_
  refine g_aload_n 0 dX4_fillRow_113 rfl ?_
  refine g_dup dX4_fillRow_114 rfl ?_
  obtain ⟨x3, e4, hF⟩ := q_bind hF
  refine g_getfI fl_X4_68 e4 dX4_fillRow_115 ?_
  refine g_iconst dX4_fillRow_118 lt_iconst_1 ?_
  refine g_iadd dX4_fillRow_119 ?_
  obtain ⟨h5, e6, hF⟩ := q_bind hF
  refine g_putf fl_X4_68 e6 rfl rfl dX4_fillRow_120 ?_
  refine g_iload_n 1 dX4_fillRow_123 rfl ?_
  refine g_iload 4 dX4_fillRow_124 rfl ?_
  refine g_if_eq 133 dX4_fillRow_126 (by decide) (fun c7 => ?_) (fun c7 => ?_)
  · replace hF := q_t c7 hF
    refine g_iconst dX4_fillRow_133 lt_iconst_0 ?_
    refine g_sub [0, 2, 3, 4] rfl ?_
    exact J_X4_fillRow_134 l b D z hF hback hx0
  · replace hF := q_f c7 hF
    refine g_iconst dX4_fillRow_129 lt_iconst_1 ?_
    refine g_goto 134 dX4_fillRow_130 (by decide) ?_
    refine g_sub [0, 2, 3, 4] rfl ?_
    exact J_X4_fillRow_134 l b D z hF hback hx0
set_option maxRecDepth 100000 in
set_option maxHeartbeats 4000000 in
theorem J_X4_fillRow_94 (l : Launch) (b : Nat) (D : va_G) (z : Nat → Nat) {Φ : Option Value → qH → Nat → Prop} {nx : Nat} {h : qH} {a0 : Nat} {a1 : Int32} {a2 : Int32} {a3 : Int32} {a4 : Int32} {t0 : Int32} {t1 : Nat} {o : (Int32 × Int32 × qH) ⊕ qH} (hF : j_X4_fillRow_94 h a0 a1 a2 a3 a4 t0 t1 = some o) (hback : ∀ (b1 : Int32) (b2 : Int32) (bh : qH), o = .inl (b1, b2, bh) → Go l b D z yX4_fillRow cX4_fillRow 5 none rm_X4_fillRow Φ 9 [(0, .ref a0), (1, .int b1), (2, .int b2)] [] bh nx 0 0) (hx0 : ∀  (bh : qH), o = .inr bh → Go l b D z yX4_fillRow cX4_fillRow 5 none rm_X4_fillRow Φ 156 [] [] bh nx 0 0) : Go l b D z yX4_fillRow cX4_fillRow 5 none rm_X4_fillRow Φ 94 [(0, .ref a0), (1, .int a1), (2, .int a2), (3, .int a3), (4, .int a4)] [.int t0, .ref t1] h nx 0 0 := by
  unfold j_X4_fillRow_94 at hF
  refine g_iload_n 2 dX4_fillRow_94 rfl ?_
  refine g_aload_n 0 dX4_fillRow_95 rfl ?_
  obtain ⟨x1, e2, hF⟩ := q_bind hF
  refine g_getfI fl_X4_32 e2 dX4_fillRow_96 ?_
  refine g_icmp_ge 111 dX4_fillRow_99 (by decide) (fun c3 => ?_) (fun c3 => ?_)
  · replace hF := q_t c3 hF
    refine g_iconst dX4_fillRow_111 lt_iconst_m1 ?_
    exact J_X4_fillRow_112 l b D z hF hback hx0
  · replace hF := q_f c3 hF
    refine g_aload_n 0 dX4_fillRow_102 rfl ?_
    obtain ⟨x4, e5, hF⟩ := q_bind hF
    refine g_getfR fl_X4_15 e5 dX4_fillRow_103 ?_
    refine g_iload_n 2 dX4_fillRow_106 rfl ?_
    obtain ⟨x6, e7, hF⟩ := q_bind hF
    refine g_iald e7 dX4_fillRow_107 ?_
    refine g_goto 112 dX4_fillRow_108 (by decide) ?_
    exact J_X4_fillRow_112 l b D z hF hback hx0
set_option maxRecDepth 100000 in
set_option maxHeartbeats 4000000 in
theorem J_X4_fillRow_62 (l : Launch) (b : Nat) (D : va_G) (z : Nat → Nat) {Φ : Option Value → qH → Nat → Prop} {nx : Nat} {h : qH} {a0 : Nat} {a1 : Int32} {a2 : Int32} {a3 : Int32} {t0 : Int32} {o : (Int32 × Int32 × qH) ⊕ qH} (hF : j_X4_fillRow_62 h a0 a1 a2 a3 t0 = some o) (hback : ∀ (b1 : Int32) (b2 : Int32) (bh : qH), o = .inl (b1, b2, bh) → Go l b D z yX4_fillRow cX4_fillRow 5 none rm_X4_fillRow Φ 9 [(0, .ref a0), (1, .int b1), (2, .int b2)] [] bh nx 0 0) (hx0 : ∀  (bh : qH), o = .inr bh → Go l b D z yX4_fillRow cX4_fillRow 5 none rm_X4_fillRow Φ 156 [] [] bh nx 0 0) : Go l b D z yX4_fillRow cX4_fillRow 5 none rm_X4_fillRow Φ 62 [(0, .ref a0), (1, .int a1), (2, .int a2), (3, .int a3)] [.int t0] h nx 0 0 := by
  unfold j_X4_fillRow_62 at hF
  refine g_istore [(4, .int t0), (0, .ref a0), (1, .int a1), (2, .int a2), (3, .int a3)] dX4_fillRow_62 (Nat.le_of_ble_eq_true rfl) rfl ?_
  refine g_aload_n 1 dX4_fillRow_64 rfl ?_
  obtain ⟨x1, e2, hF⟩ := q_bind hF
  refine g_getfR fl_X4_21 e2 dX4_fillRow_65 ?_
  refine g_aload_n 1 dX4_fillRow_68 rfl ?_
  obtain ⟨x3, e4, hF⟩ := q_bind hF
  refine g_getfI fl_X4_68 e4 dX4_fillRow_69 ?_
  refine g_iload 0 dX4_fillRow_72 rfl ?_
  refine g_if_eq 94 dX4_fillRow_74 (by decide) (fun c5 => ?_) (fun c5 => ?_)
  · replace hF := q_t c5 hF
    refine g_sub [1, 2, 3, 4, 0] rfl ?_
    exact J_X4_fillRow_94 l b D z hF hback hx0
  · replace hF := q_f c5 hF
    refine g_iload_n 2 dX4_fillRow_77 rfl ?_
    refine g_aload_n 1 dX4_fillRow_78 rfl ?_
    obtain ⟨x6, e7, hF⟩ := q_bind hF
    refine g_getfI fl_X4_28 e7 dX4_fillRow_79 ?_
    refine g_icmp_ge 94 dX4_fillRow_82 (by decide) (fun c8 => ?_) (fun c8 => ?_)
    · replace hF := q_t c8 hF
      refine g_sub [1, 2, 3, 4, 0] rfl ?_
      exact J_X4_fillRow_94 l b D z hF hback hx0
    · replace hF := q_f c8 hF
      refine g_aload_n 1 dX4_fillRow_85 rfl ?_
      obtain ⟨x9, e10, hF⟩ := q_bind hF
      refine g_getfR fl_X4_11 e10 dX4_fillRow_86 ?_
      refine g_iload_n 2 dX4_fillRow_89 rfl ?_
      obtain ⟨x11, e12, hF⟩ := q_bind hF
      refine g_iald e12 dX4_fillRow_90 ?_
      refine g_goto 112 dX4_fillRow_91 (by decide) ?_
      refine g_sub [1, 2, 3, 4, 0] rfl ?_
      exact J_X4_fillRow_112 l b D z hF hback hx0
set_option maxRecDepth 100000 in
set_option maxHeartbeats 4000000 in
theorem J_X4_fillRow_57 (l : Launch) (b : Nat) (D : va_G) (z : Nat → Nat) {Φ : Option Value → qH → Nat → Prop} {nx : Nat} {h : qH} {a0 : Nat} {a1 : Int32} {a2 : Int32} {a3 : Int32} {o : (Int32 × Int32 × qH) ⊕ qH} (hF : j_X4_fillRow_57 h a0 a1 a2 a3  = some o) (hback : ∀ (b1 : Int32) (b2 : Int32) (bh : qH), o = .inl (b1, b2, bh) → Go l b D z yX4_fillRow cX4_fillRow 5 none rm_X4_fillRow Φ 9 [(0, .ref a0), (1, .int b1), (2, .int b2)] [] bh nx 0 0) (hx0 : ∀  (bh : qH), o = .inr bh → Go l b D z yX4_fillRow cX4_fillRow 5 none rm_X4_fillRow Φ 156 [] [] bh nx 0 0) : Go l b D z yX4_fillRow cX4_fillRow 5 none rm_X4_fillRow Φ 57 [(0, .ref a0), (1, .int a1), (2, .int a2), (3, .int a3)] [] h nx 0 0 := by
  unfold j_X4_fillRow_57 at hF
  refine g_iconst dX4_fillRow_57 lt_iconst_1 ?_
  refine g_goto 62 dX4_fillRow_58 (by decide) ?_
  exact J_X4_fillRow_62 l b D z hF hback hx0
set_option maxRecDepth 100000 in
set_option maxHeartbeats 4000000 in
theorem J_X4_fillRow_37 (l : Launch) (b : Nat) (D : va_G) (z : Nat → Nat) {Φ : Option Value → qH → Nat → Prop} {nx : Nat} {h : qH} {a0 : Nat} {a1 : Int32} {a2 : Int32} {o : (Int32 × Int32 × qH) ⊕ qH} (hF : j_X4_fillRow_37 h a0 a1 a2  = some o) (hback : ∀ (b1 : Int32) (b2 : Int32) (bh : qH), o = .inl (b1, b2, bh) → Go l b D z yX4_fillRow cX4_fillRow 5 none rm_X4_fillRow Φ 9 [(0, .ref a0), (1, .int b1), (2, .int b2)] [] bh nx 0 0) (hx0 : ∀  (bh : qH), o = .inr bh → Go l b D z yX4_fillRow cX4_fillRow 5 none rm_X4_fillRow Φ 156 [] [] bh nx 0 0) : Go l b D z yX4_fillRow cX4_fillRow 5 none rm_X4_fillRow Φ 37 [(0, .ref a0), (1, .int a1), (2, .int a2)] [] h nx 0 0 := by
  unfold j_X4_fillRow_37 at hF
  refine g_aload_n 0 dX4_fillRow_37 rfl ?_
  refine g_iload_n 1 dX4_fillRow_38 rfl ?_
  refine g_iload_n 2 dX4_fillRow_39 rfl ?_
  obtain ⟨u1, e2, hF⟩ := q_bind hF
  obtain ⟨x3, e4, hF⟩ := q_bind hF
  refine g_callVr0 (ci := 4) (q := (RX4, TX4, 7)) qm_X4_isShared wd_1121 wd_1123 wd_45 rfl e2 (M_X4_isShared l b D z nx e4) (As := [.int a1, .int a2]) rfl rfl (Nat.le_of_ble_eq_true rfl) ⟨(Nat.le_of_ble_eq_true rfl), (Nat.le_of_ble_eq_true rfl)⟩ ⟨rfl, rfl⟩ ⟨(Nat.le_of_ble_eq_true rfl), (Nat.le_of_ble_eq_true rfl)⟩ dX4_fillRow_40 ?_
  refine g_istore_n [(3, .int x3), (0, .ref a0), (1, .int a1), (2, .int a2)] dX4_fillRow_43 (Nat.le_of_ble_eq_true rfl) rfl ?_
  refine g_iload_n 0 dX4_fillRow_44 rfl ?_
  refine g_if_ne 57 dX4_fillRow_45 (by decide) (fun c5 => ?_) (fun c5 => ?_)
  · replace hF := q_f c5 hF
    refine g_sub [1, 2, 3, 0] rfl ?_
    exact J_X4_fillRow_57 l b D z hF hback hx0
  · replace hF := q_t c5 hF
    refine g_aload_n 1 dX4_fillRow_48 rfl ?_
    refine g_iload_n 2 dX4_fillRow_49 rfl ?_
    refine g_iload_n 3 dX4_fillRow_50 rfl ?_
    obtain ⟨u6, e7, hF⟩ := q_bind hF
    obtain ⟨x8, e9, hF⟩ := q_bind hF
    refine g_callVr0 (ci := 4) (q := (RX4, TX4, 7)) qm_X4_takesOne wd_1135 wd_1137 wd_48 rfl e7 (M_X4_takesOne l b D z nx e9) (As := [.int a1, .int a2]) rfl rfl (Nat.le_of_ble_eq_true rfl) ⟨(Nat.le_of_ble_eq_true rfl), (Nat.le_of_ble_eq_true rfl)⟩ ⟨rfl, rfl⟩ ⟨(Nat.le_of_ble_eq_true rfl), (Nat.le_of_ble_eq_true rfl)⟩ dX4_fillRow_51 ?_
    refine g_if_eq 61 dX4_fillRow_54 (by decide) (fun c10 => ?_) (fun c10 => ?_)
    · replace hF := q_t c10 hF
      refine g_iconst dX4_fillRow_61 lt_iconst_0 ?_
      refine g_sub [1, 2, 3, 0] rfl ?_
      exact J_X4_fillRow_62 l b D z hF hback hx0
    · replace hF := q_f c10 hF
      refine g_sub [1, 2, 3, 0] rfl ?_
      exact J_X4_fillRow_57 l b D z hF hback hx0
set_option maxRecDepth 100000 in
set_option maxHeartbeats 4000000 in
theorem B_X4_fillRow_9 (l : Launch) (b : Nat) (D : va_G) (z : Nat → Nat) {Φ : Option Value → qH → Nat → Prop} {nx : Nat} {a0 : Nat} {a1 : Int32} {a2 : Int32} {h : qH} {o : (Int32 × Int32 × qH) ⊕ qH} (hF : b_X4_fillRow_9 a0 a1 a2 h = some o) (hback : ∀ (b1 : Int32) (b2 : Int32) (bh : qH), o = .inl (b1, b2, bh) → Go l b D z yX4_fillRow cX4_fillRow 5 none rm_X4_fillRow Φ 9 [(0, .ref a0), (1, .int b1), (2, .int b2)] [] bh nx 0 0) (hx0 : ∀  (bh : qH), o = .inr bh → Go l b D z yX4_fillRow cX4_fillRow 5 none rm_X4_fillRow Φ 156 [] [] bh nx 0 0) : Go l b D z yX4_fillRow cX4_fillRow 5 none rm_X4_fillRow Φ 9 [(0, .ref a0), (1, .int a1), (2, .int a2)] [] h nx 0 0 := by
  unfold b_X4_fillRow_9 at hF
  refine g_aload_n 0 dX4_fillRow_9 rfl ?_
  obtain ⟨x1, e2, hF⟩ := q_bind hF
  refine g_getfI fl_X4_68 e2 dX4_fillRow_10 ?_
  refine g_aload_n 0 dX4_fillRow_13 rfl ?_
  obtain ⟨x3, e4, hF⟩ := q_bind hF
  refine g_getfR fl_X4_21 e4 dX4_fillRow_14 ?_
  obtain ⟨x5, e6, hF⟩ := q_bind hF
  refine g_alen e6 dX4_fillRow_17 ?_
  refine g_icmp_ge 156 dX4_fillRow_18 (by decide) (fun c7 => ?_) (fun c7 => ?_)
  · replace hF := q_t c7 hF
    cases hF
    refine g_sub [] rfl ?_
    exact hx0 _ rfl
  · replace hF := q_f c7 hF
    refine g_iload_n 1 dX4_fillRow_21 rfl ?_
    refine g_aload_n 0 dX4_fillRow_22 rfl ?_
    obtain ⟨x8, e9, hF⟩ := q_bind hF
    refine g_getfI fl_X4_28 e9 dX4_fillRow_23 ?_
    refine g_icmp_lt 37 dX4_fillRow_26 (by decide) (fun c10 => ?_) (fun c10 => ?_)
    · replace hF := q_t c10 hF
      exact J_X4_fillRow_37 l b D z hF hback hx0
    · replace hF := q_f c10 hF
      refine g_iload_n 2 dX4_fillRow_29 rfl ?_
      refine g_aload_n 0 dX4_fillRow_30 rfl ?_
      obtain ⟨x11, e12, hF⟩ := q_bind hF
      refine g_getfI fl_X4_32 e12 dX4_fillRow_31 ?_
      refine g_icmp_ge 156 dX4_fillRow_34 (by decide) (fun c13 => ?_) (fun c13 => ?_)
      · replace hF := q_t c13 hF
        cases hF
        refine g_sub [] rfl ?_
        exact hx0 _ rfl
      · replace hF := q_f c13 hF
        exact J_X4_fillRow_37 l b D z hF hback hx0
set_option maxRecDepth 100000 in
set_option maxHeartbeats 4000000 in
theorem L_X4_fillRow_9 (l : Launch) (b : Nat) (D : va_G) (z : Nat → Nat) {Φ : Option Value → qH → Nat → Prop} {nx : Nat} {a0 : Nat} : ∀ (n : Nat) (a1 : Int32) (a2 : Int32) (h : qH) (e : qH), q_lp (s_X4_fillRow_9 a0) n (a1, a2, h) = some e → (∀  (bh : qH), e = bh → Go l b D z yX4_fillRow cX4_fillRow 5 none rm_X4_fillRow Φ 156 [] [] bh nx 0 0) → Go l b D z yX4_fillRow cX4_fillRow 5 none rm_X4_fillRow Φ 9 [(0, .ref a0), (1, .int a1), (2, .int a2)] [] h nx 0 0 := by
  intro n
  induction n with
  | zero => intro a1 a2 h e he; cases (show none = some e from he)
  | succ n ih =>
    intro a1 a2 h e he hx0
    obtain ⟨o, ho, h1, h2⟩ := q_lp_succ he
    exact B_X4_fillRow_9 l b D z (show b_X4_fillRow_9 a0 a1 a2 h = some o from ho) (fun b1 b2 bh hb => ih _ _ _ e (h1 _ hb) hx0) (fun p0 hr => hx0 p0 (h2 _ hr).symm)
set_option maxRecDepth 100000 in
set_option maxHeartbeats 4000000 in
theorem M_X4_fillRow (l : Launch) (b : Nat) (D : va_G) (z : Nat → Nat) (nx : Nat) {h : qH} {a0 : Nat} {r : qH} (hF : F_X4_fillRow h a0 = some r) : Me l b D z yX4_fillRow cX4_fillRow 5 none rm_X4_fillRow [.ref a0] h nx (qE none r nx) := by
  refine Me.of (by decide +kernel) (Nat.le_of_ble_eq_true rfl) ?_
  show Go l b D z yX4_fillRow cX4_fillRow 5 none rm_X4_fillRow (qE none r nx) 0 [(0, .ref a0)] [] h nx 0 0
  unfold F_X4_fillRow at hF
  refine g_iconst dX4_fillRow_0 lt_iconst_0 ?_
  refine g_istore_n [(1, .int (0 : Int32)), (0, .ref a0)] dX4_fillRow_1 (Nat.le_of_ble_eq_true rfl) rfl ?_
  refine g_iconst dX4_fillRow_2 lt_iconst_0 ?_
  refine g_istore_n [(2, .int (0 : Int32)), (1, .int (0 : Int32)), (0, .ref a0)] dX4_fillRow_3 (Nat.le_of_ble_eq_true rfl) rfl ?_
  refine g_aload_n 2 dX4_fillRow_4 rfl ?_
  refine g_iconst dX4_fillRow_5 lt_iconst_0 ?_
  obtain ⟨h1, e2, hF⟩ := q_bind hF
  refine g_putf fl_X4_68 e2 rfl rfl dX4_fillRow_6 ?_
  obtain ⟨e3, w4, hF⟩ := q_bind hF
  refine g_sub [2, 1, 0] rfl ?_
  refine L_X4_fillRow_9 l b D z q_N (0 : Int32) (0 : Int32) h1 e3 w4 ?_
  · intro h5 w6
    replace w6 := w6.symm
    subst w6
    cases hF
    exact g_vret dX4_fillRow_156 rfl ⟨rfl, rfl, rfl⟩ (Nat.le_of_ble_eq_true rfl) (Nat.le_of_ble_eq_true rfl)
def rm_X4_merge : Room := { frames := 3, cells := 0, slots := 0, locals := 70 }
set_option maxRecDepth 100000 in
set_option maxHeartbeats 4000000 in
theorem B_X4_merge_43 (l : Launch) (b : Nat) (D : va_G) (z : Nat → Nat) {Φ : Option Value → qH → Nat → Prop} {nx : Nat} {a0 : Nat} {a4 : Int32} {a5 : Int32} {h : qH} {o : (Int32 × qH) ⊕ qH} (hF : b_X4_merge_43 a0 a4 a5 h = some o) (hback : ∀ (b5 : Int32) (bh : qH), o = .inl (b5, bh) → Go l b D z yX4_merge cX4_merge 6 none rm_X4_merge Φ 43 [(0, .ref a0), (4, .int a4), (5, .int b5)] [] bh nx 0 0) (hx0 : ∀  (bh : qH), o = .inr bh → Go l b D z yX4_merge cX4_merge 6 none rm_X4_merge Φ 75 [(0, .ref a0), (4, .int a4)] [] bh nx 0 0) : Go l b D z yX4_merge cX4_merge 6 none rm_X4_merge Φ 43 [(0, .ref a0), (4, .int a4), (5, .int a5)] [] h nx 0 0 := by
  unfold b_X4_merge_43 at hF
  refine g_iload 2 dX4_merge_43 rfl ?_
  refine g_if_lt 75 dX4_merge_45 (by decide) (fun c1 => ?_) (fun c1 => ?_)
  · replace hF := q_t c1 hF
    cases hF
    refine g_sub [0, 1] rfl ?_
    exact hx0 _ rfl
  · replace hF := q_f c1 hF
    refine g_aload_n 0 dX4_merge_48 rfl ?_
    obtain ⟨x2, e3, hF⟩ := q_bind hF
    refine g_getfR fl_X4_18 e3 dX4_merge_49 ?_
    refine g_iload 1 dX4_merge_52 rfl ?_
    refine g_bipush dX4_merge_54 lt_bipush_13 ?_
    refine g_imul dX4_merge_56 ?_
    refine g_iload 2 dX4_merge_57 rfl ?_
    refine g_iadd dX4_merge_59 ?_
    refine g_aload_n 0 dX4_merge_60 rfl ?_
    refine g_iload 1 dX4_merge_61 rfl ?_
    refine g_iload 2 dX4_merge_63 rfl ?_
    obtain ⟨u4, e5, hF⟩ := q_bind hF
    obtain ⟨x6, e7, hF⟩ := q_bind hF
    refine g_callVr0 (ci := 4) (q := (RX4, TX4, 7)) qm_X4_shortestFrom wd_1117 wd_1119 wd_44 rfl e5 (M_X4_shortestFrom l b D z nx e7) (As := [.int a4, .int a5]) rfl rfl (Nat.le_of_ble_eq_true rfl) ⟨(Nat.le_of_ble_eq_true rfl), (Nat.le_of_ble_eq_true rfl)⟩ ⟨rfl, rfl⟩ ⟨(Nat.le_of_ble_eq_true rfl), (Nat.le_of_ble_eq_true rfl)⟩ dX4_merge_65 ?_
    obtain ⟨h8, e9, hF⟩ := q_bind hF
    refine g_iast e9 dX4_merge_68 ?_
    refine g_iinc [(5, .int (a5 + (-1))), (0, .ref a0), (4, .int a4)] 2 dX4_merge_69 rfl (congrArg (a5 + ·) lt_iconst_m1) (Nat.le_of_ble_eq_true rfl) rfl ?_
    refine g_goto 43 dX4_merge_72 (by decide) ?_
    cases hF
    refine g_sub [1, 2, 0] rfl ?_
    exact hback _ _ rfl
set_option maxRecDepth 100000 in
set_option maxHeartbeats 4000000 in
theorem L_X4_merge_43 (l : Launch) (b : Nat) (D : va_G) (z : Nat → Nat) {Φ : Option Value → qH → Nat → Prop} {nx : Nat} {a0 : Nat} {a4 : Int32} : ∀ (n : Nat) (a5 : Int32) (h : qH) (e : qH), q_lp (s_X4_merge_43 a0 a4) n (a5, h) = some e → (∀  (bh : qH), e = bh → Go l b D z yX4_merge cX4_merge 6 none rm_X4_merge Φ 75 [(0, .ref a0), (4, .int a4)] [] bh nx 0 0) → Go l b D z yX4_merge cX4_merge 6 none rm_X4_merge Φ 43 [(0, .ref a0), (4, .int a4), (5, .int a5)] [] h nx 0 0 := by
  intro n
  induction n with
  | zero => intro a5 h e he; cases (show none = some e from he)
  | succ n ih =>
    intro a5 h e he hx0
    obtain ⟨o, ho, h1, h2⟩ := q_lp_succ he
    exact B_X4_merge_43 l b D z (show b_X4_merge_43 a0 a4 a5 h = some o from ho) (fun b5 bh hb => ih _ _ e (h1 _ hb) hx0) (fun p0 hr => hx0 p0 (h2 _ hr).symm)
set_option maxRecDepth 100000 in
set_option maxHeartbeats 4000000 in
theorem B_X4_merge_32 (l : Launch) (b : Nat) (D : va_G) (z : Nat → Nat) {Φ : Option Value → qH → Nat → Prop} {nx : Nat} {a0 : Nat} {a4 : Int32} {h : qH} {o : (Int32 × qH) ⊕ qH} (hF : b_X4_merge_32 a0 a4 h = some o) (hback : ∀ (b4 : Int32) (bh : qH), o = .inl (b4, bh) → Go l b D z yX4_merge cX4_merge 6 none rm_X4_merge Φ 32 [(0, .ref a0), (4, .int b4)] [] bh nx 0 0) (hx0 : ∀  (bh : qH), o = .inr bh → Go l b D z yX4_merge cX4_merge 6 none rm_X4_merge Φ 81 [(0, .ref a0)] [] bh nx 0 0) : Go l b D z yX4_merge cX4_merge 6 none rm_X4_merge Φ 32 [(0, .ref a0), (4, .int a4)] [] h nx 0 0 := by
  unfold b_X4_merge_32 at hF
  refine g_iload 1 dX4_merge_32 rfl ?_
  refine g_if_lt 81 dX4_merge_34 (by decide) (fun c1 => ?_) (fun c1 => ?_)
  · replace hF := q_t c1 hF
    cases hF
    refine g_sub [0] rfl ?_
    exact hx0 _ rfl
  · replace hF := q_f c1 hF
    refine g_aload_n 0 dX4_merge_37 rfl ?_
    obtain ⟨x2, e3, hF⟩ := q_bind hF
    refine g_getfI fl_X4_32 e3 dX4_merge_38 ?_
    refine g_istore [(5, .int x2), (0, .ref a0), (4, .int a4)] dX4_merge_41 (Nat.le_of_ble_eq_true rfl) rfl ?_
    obtain ⟨e4, w5, hF⟩ := q_bind hF
    refine g_sub [1, 2, 0] rfl ?_
    refine L_X4_merge_43 l b D z q_N x2 h e4 w5 ?_
    · intro h6 w7
      replace w7 := w7.symm
      subst w7
      refine g_iinc [(4, .int (a4 + (-1))), (0, .ref a0)] 1 dX4_merge_75 rfl (congrArg (a4 + ·) lt_iconst_m1) (Nat.le_of_ble_eq_true rfl) rfl ?_
      refine g_goto 32 dX4_merge_78 (by decide) ?_
      cases hF
      refine g_sub [1, 0] rfl ?_
      exact hback _ _ rfl
set_option maxRecDepth 100000 in
set_option maxHeartbeats 4000000 in
theorem L_X4_merge_32 (l : Launch) (b : Nat) (D : va_G) (z : Nat → Nat) {Φ : Option Value → qH → Nat → Prop} {nx : Nat} {a0 : Nat} : ∀ (n : Nat) (a4 : Int32) (h : qH) (e : qH), q_lp (s_X4_merge_32 a0) n (a4, h) = some e → (∀  (bh : qH), e = bh → Go l b D z yX4_merge cX4_merge 6 none rm_X4_merge Φ 81 [(0, .ref a0)] [] bh nx 0 0) → Go l b D z yX4_merge cX4_merge 6 none rm_X4_merge Φ 32 [(0, .ref a0), (4, .int a4)] [] h nx 0 0 := by
  intro n
  induction n with
  | zero => intro a4 h e he; cases (show none = some e from he)
  | succ n ih =>
    intro a4 h e he hx0
    obtain ⟨o, ho, h1, h2⟩ := q_lp_succ he
    exact B_X4_merge_32 l b D z (show b_X4_merge_32 a0 a4 h = some o from ho) (fun b4 bh hb => ih _ _ e (h1 _ hb) hx0) (fun p0 hr => hx0 p0 (h2 _ hr).symm)
set_option maxRecDepth 100000 in
set_option maxHeartbeats 4000000 in
theorem M_X4_merge (l : Launch) (b : Nat) (D : va_G) (z : Nat → Nat) (nx : Nat) {h : qH} {a0 : Nat} {a1 : Nat} {a2 : Nat} {a3 : Int32} {r : qH} (hF : F_X4_merge h a0 a1 a2 a3 = some r) : Me l b D z yX4_merge cX4_merge 6 none rm_X4_merge [.ref a0, .ref a1, .ref a2, .int a3] h nx (qE none r nx) := by
  refine Me.of (by decide +kernel) (Nat.le_of_ble_eq_true rfl) ?_
  show Go l b D z yX4_merge cX4_merge 6 none rm_X4_merge (qE none r nx) 0 [(0, .ref a0), (1, .ref a1), (2, .ref a2), (3, .int a3)] [] h nx 0 0
  unfold F_X4_merge at hF
  refine g_aload_n 0 dX4_merge_0 rfl ?_
  refine g_aload_n 1 dX4_merge_1 rfl ?_
  refine g_aload_n 0 dX4_merge_2 rfl ?_
  obtain ⟨x1, e2, hF⟩ := q_bind hF
  refine g_getfR fl_X4_11 e2 dX4_merge_3 ?_
  refine g_iload_n 3 dX4_merge_6 rfl ?_
  obtain ⟨x3, e4, hF⟩ := q_bind hF
  refine g_callSr0 qm_X4_fillByNext wd_1111 wd_1112 (M_X4_fillByNext l b D z nx e4) (As := [.ref a1, .ref x1, .int a3]) rfl rfl (Nat.le_of_ble_eq_true rfl) ⟨(Nat.le_of_ble_eq_true rfl), (Nat.le_of_ble_eq_true rfl)⟩ ⟨rfl, rfl⟩ ⟨(Nat.le_of_ble_eq_true rfl), (Nat.le_of_ble_eq_true rfl)⟩ dX4_merge_7 ?_
  obtain ⟨h5, e6, hF⟩ := q_bind hF
  refine g_putf fl_X4_28 e6 rfl rfl dX4_merge_10 ?_
  refine g_aload_n 0 dX4_merge_13 rfl ?_
  refine g_aload_n 2 dX4_merge_14 rfl ?_
  refine g_aload_n 0 dX4_merge_15 rfl ?_
  obtain ⟨x7, e8, hF⟩ := q_bind hF
  refine g_getfR fl_X4_15 e8 dX4_merge_16 ?_
  refine g_iload_n 3 dX4_merge_19 rfl ?_
  obtain ⟨x9, e10, hF⟩ := q_bind hF
  refine g_callSr0 qm_X4_fillByNext wd_1111 wd_1112 (M_X4_fillByNext l b D z nx e10) (As := [.ref a2, .ref x7, .int a3]) rfl rfl (Nat.le_of_ble_eq_true rfl) ⟨(Nat.le_of_ble_eq_true rfl), (Nat.le_of_ble_eq_true rfl)⟩ ⟨rfl, rfl⟩ ⟨(Nat.le_of_ble_eq_true rfl), (Nat.le_of_ble_eq_true rfl)⟩ dX4_merge_20 ?_
  obtain ⟨h11, e12, hF⟩ := q_bind hF
  refine g_putf fl_X4_32 e12 rfl rfl dX4_merge_23 ?_
  refine g_aload_n 0 dX4_merge_26 rfl ?_
  obtain ⟨x13, e14, hF⟩ := q_bind hF
  refine g_getfI fl_X4_28 e14 dX4_merge_27 ?_
  refine g_istore [(4, .int x13), (0, .ref a0), (1, .ref a1), (2, .ref a2), (3, .int a3)] dX4_merge_30 (Nat.le_of_ble_eq_true rfl) rfl ?_
  obtain ⟨e15, w16, hF⟩ := q_bind hF
  refine g_sub [1, 0] rfl ?_
  refine L_X4_merge_32 l b D z q_N x13 h11 e15 w16 ?_
  · intro h17 w18
    replace w18 := w18.symm
    subst w18
    refine g_aload_n 0 dX4_merge_81 rfl ?_
    obtain ⟨u19, e20, hF⟩ := q_bind hF
    obtain ⟨x21, e22, hF⟩ := q_bind hF
    refine g_callVv0 (ci := 4) (q := (RX4, TX4, 7)) qm_X4_fillRow wd_1131 wd_1133 wd_47 rfl e20 (M_X4_fillRow l b D z nx e22) (As := []) rfl rfl (Nat.le_of_ble_eq_true rfl) ⟨(Nat.le_of_ble_eq_true rfl), (Nat.le_of_ble_eq_true rfl)⟩ ⟨rfl, rfl⟩ ⟨(Nat.le_of_ble_eq_true rfl), (Nat.le_of_ble_eq_true rfl)⟩ dX4_merge_82 ?_
    cases hF
    exact g_vret dX4_merge_85 rfl ⟨rfl, rfl, rfl⟩ (Nat.le_of_ble_eq_true rfl) (Nat.le_of_ble_eq_true rfl)
def rm_X4_common : Room := { frames := 0, cells := 0, slots := 0, locals := 0 }
set_option maxRecDepth 100000 in
set_option maxHeartbeats 4000000 in
theorem M_X4_common (l : Launch) (b : Nat) (D : va_G) (z : Nat → Nat) (nx : Nat) {h : qH} {a0 : Nat} {r : Int32} (hF : F_X4_common h a0 = some r) : Me l b D z yX4_common cX4_common 1 (some .int) rm_X4_common [.ref a0] h nx (qE (some (.int r)) h nx) := by
  refine Me.of (by decide +kernel) (Nat.le_of_ble_eq_true rfl) ?_
  show Go l b D z yX4_common cX4_common 1 (some .int) rm_X4_common (qE (some (.int r)) h nx) 0 [(0, .ref a0)] [] h nx 0 0
  unfold F_X4_common at hF
  refine g_aload_n 0 dX4_common_0 rfl ?_
  obtain ⟨x1, e2, hF⟩ := q_bind hF
  refine g_getfI fl_X4_28 e2 dX4_common_1 ?_
  refine g_aload_n 0 dX4_common_4 rfl ?_
  obtain ⟨x3, e4, hF⟩ := q_bind hF
  refine g_getfI fl_X4_32 e4 dX4_common_5 ?_
  refine g_iadd dX4_common_8 ?_
  refine g_aload_n 0 dX4_common_9 rfl ?_
  obtain ⟨x5, e6, hF⟩ := q_bind hF
  refine g_getfI fl_X4_68 e6 dX4_common_10 ?_
  refine g_isub dX4_common_13 ?_
  cases hF
  exact g_iret dX4_common_14 rfl ⟨rfl, rfl, rfl⟩ (Nat.le_of_ble_eq_true rfl) (Nat.le_of_ble_eq_true rfl)
def rm_X4_person : Room := { frames := 0, cells := 0, slots := 0, locals := 0 }
set_option maxRecDepth 100000 in
set_option maxHeartbeats 4000000 in
theorem M_X4_person (l : Launch) (b : Nat) (D : va_G) (z : Nat → Nat) (nx : Nat) {h : qH} {a0 : Nat} {a1 : Int32} {r : Int32} (hF : F_X4_person h a0 a1 = some r) : Me l b D z yX4_person cX4_person 2 (some .int) rm_X4_person [.ref a0, .int a1] h nx (qE (some (.int r)) h nx) := by
  refine Me.of (by decide +kernel) (Nat.le_of_ble_eq_true rfl) ?_
  show Go l b D z yX4_person cX4_person 2 (some .int) rm_X4_person (qE (some (.int r)) h nx) 0 [(0, .ref a0), (1, .int a1)] [] h nx 0 0
  unfold F_X4_person at hF
  refine g_iload_n 1 dX4_person_0 rfl ?_
  refine g_if_lt 30 dX4_person_1 (by decide) (fun c1 => ?_) (fun c1 => ?_)
  · replace hF := q_t c1 hF
    refine g_iconst dX4_person_30 lt_iconst_m1 ?_
    cases hF
    exact g_iret dX4_person_31 rfl ⟨rfl, rfl, rfl⟩ (Nat.le_of_ble_eq_true rfl) (Nat.le_of_ble_eq_true rfl)
  · replace hF := q_f c1 hF
    refine g_iload_n 1 dX4_person_4 rfl ?_
    refine g_aload_n 0 dX4_person_5 rfl ?_
    obtain ⟨x2, e3, hF⟩ := q_bind hF
    refine g_getfI fl_X4_68 e3 dX4_person_6 ?_
    refine g_icmp_ge 30 dX4_person_9 (by decide) (fun c4 => ?_) (fun c4 => ?_)
    · replace hF := q_t c4 hF
      refine g_iconst dX4_person_30 lt_iconst_m1 ?_
      cases hF
      exact g_iret dX4_person_31 rfl ⟨rfl, rfl, rfl⟩ (Nat.le_of_ble_eq_true rfl) (Nat.le_of_ble_eq_true rfl)
    · replace hF := q_f c4 hF
      refine g_iload_n 1 dX4_person_12 rfl ?_
      refine g_aload_n 0 dX4_person_13 rfl ?_
      obtain ⟨x5, e6, hF⟩ := q_bind hF
      refine g_getfR fl_X4_21 e6 dX4_person_14 ?_
      obtain ⟨x7, e8, hF⟩ := q_bind hF
      refine g_alen e8 dX4_person_17 ?_
      refine g_icmp_ge 30 dX4_person_18 (by decide) (fun c9 => ?_) (fun c9 => ?_)
      · replace hF := q_t c9 hF
        refine g_iconst dX4_person_30 lt_iconst_m1 ?_
        cases hF
        exact g_iret dX4_person_31 rfl ⟨rfl, rfl, rfl⟩ (Nat.le_of_ble_eq_true rfl) (Nat.le_of_ble_eq_true rfl)
      · replace hF := q_f c9 hF
        refine g_aload_n 0 dX4_person_21 rfl ?_
        obtain ⟨x10, e11, hF⟩ := q_bind hF
        refine g_getfR fl_X4_21 e11 dX4_person_22 ?_
        refine g_iload_n 1 dX4_person_25 rfl ?_
        obtain ⟨x12, e13, hF⟩ := q_bind hF
        refine g_iald e13 dX4_person_26 ?_
        refine g_goto 31 dX4_person_27 (by decide) ?_
        cases hF
        exact g_iret dX4_person_31 rfl ⟨rfl, rfl, rfl⟩ (Nat.le_of_ble_eq_true rfl) (Nat.le_of_ble_eq_true rfl)
def rm_X4_firstUnlike : Room := { frames := 2, cells := 0, slots := 0, locals := 43 }
set_option maxRecDepth 100000 in
set_option maxHeartbeats 4000000 in
theorem B_X4_firstUnlike_32 (l : Launch) (b : Nat) (D : va_G) (z : Nat → Nat) {Φ : Option Value → qH → Nat → Prop} {nx : Nat} {h : qH} {a1 : Nat} {a2 : Nat} {a3 : Int32} {a4 : Int32} {a5 : Int32} {o : (Int32 × Int32 × Int32) ⊕ (Int32 ⊕ Unit)} (hF : b_X4_firstUnlike_32 h a1 a2 a3 a4 a5 = some o) (hback : ∀ (b3 : Int32) (b4 : Int32) (b5 : Int32), o = .inl (b3, b4, b5) → Go l b D z yX4_firstUnlike cX4_firstUnlike 6 (some .int) rm_X4_firstUnlike Φ 32 [(1, .ref a1), (2, .ref a2), (3, .int b3), (4, .int b4), (5, .int b5)] [] h nx 0 0) (hx0 : ∀ (b5 : Int32), o = .inr (.inl b5) → Go l b D z yX4_firstUnlike cX4_firstUnlike 6 (some .int) rm_X4_firstUnlike Φ 53 [(5, .int b5)] [] h nx 0 0) (hx1 : o = .inr (.inr ()) → Go l b D z yX4_firstUnlike cX4_firstUnlike 6 (some .int) rm_X4_firstUnlike Φ 76 [] [] h nx 0 0) : Go l b D z yX4_firstUnlike cX4_firstUnlike 6 (some .int) rm_X4_firstUnlike Φ 32 [(1, .ref a1), (2, .ref a2), (3, .int a3), (4, .int a4), (5, .int a5)] [] h nx 0 0 := by
  unfold b_X4_firstUnlike_32 at hF
  refine g_iload 4 dX4_firstUnlike_32 rfl ?_
  refine g_bipush dX4_firstUnlike_34 lt_bipush_20 ?_
  refine g_icmp_ge 76 dX4_firstUnlike_36 (by decide) (fun c1 => ?_) (fun c1 => ?_)
  · replace hF := q_t c1 hF
    cases hF
    refine g_sub [] rfl ?_
    exact hx1  rfl
  · replace hF := q_f c1 hF
    refine g_aload_n 0 dX4_firstUnlike_39 rfl ?_
    refine g_iload_n 2 dX4_firstUnlike_40 rfl ?_
    obtain ⟨u2, e3, hF⟩ := q_bind hF
    obtain ⟨x4, e5, hF⟩ := q_bind hF
    refine g_callVr0 (ci := 0) (q := (RX0, TX0, 15)) qm_X0_whoSays wd_1115 wd_931 wd_932 rfl e3 (M_X0_whoSays l b D z nx e5) (As := [.int a3]) rfl rfl (Nat.le_of_ble_eq_true rfl) ⟨(Nat.le_of_ble_eq_true rfl), (Nat.le_of_ble_eq_true rfl)⟩ ⟨rfl, rfl⟩ ⟨(Nat.le_of_ble_eq_true rfl), (Nat.le_of_ble_eq_true rfl)⟩ dX4_firstUnlike_41 ?_
    refine g_aload_n 1 dX4_firstUnlike_44 rfl ?_
    refine g_iload 3 dX4_firstUnlike_45 rfl ?_
    obtain ⟨u6, e7, hF⟩ := q_bind hF
    obtain ⟨x8, e9, hF⟩ := q_bind hF
    refine g_callVr0 (ci := 0) (q := (RX0, TX0, 15)) qm_X0_whoSays wd_1115 wd_931 wd_932 rfl e7 (M_X0_whoSays l b D z nx e9) (As := [.int a4]) rfl rfl (Nat.le_of_ble_eq_true rfl) ⟨(Nat.le_of_ble_eq_true rfl), (Nat.le_of_ble_eq_true rfl)⟩ ⟨rfl, rfl⟩ ⟨(Nat.le_of_ble_eq_true rfl), (Nat.le_of_ble_eq_true rfl)⟩ dX4_firstUnlike_47 ?_
    refine g_icmp_eq 56 dX4_firstUnlike_50 (by decide) (fun c10 => ?_) (fun c10 => ?_)
    · replace hF := q_t c10 hF
      refine g_aload_n 0 dX4_firstUnlike_56 rfl ?_
      refine g_iload_n 2 dX4_firstUnlike_57 rfl ?_
      obtain ⟨u11, e12, hF⟩ := q_bind hF
      obtain ⟨x13, e14, hF⟩ := q_bind hF
      refine g_callVr0 (ci := 0) (q := (RX0, TX0, 15)) qm_X0_nextOf wd_1116 wd_868 wd_869 rfl e12 (M_X0_nextOf l b D z nx e14) (As := [.int a3]) rfl rfl (Nat.le_of_ble_eq_true rfl) ⟨(Nat.le_of_ble_eq_true rfl), (Nat.le_of_ble_eq_true rfl)⟩ ⟨rfl, rfl⟩ ⟨(Nat.le_of_ble_eq_true rfl), (Nat.le_of_ble_eq_true rfl)⟩ dX4_firstUnlike_58 ?_
      refine g_istore_n [(3, .int x13), (1, .ref a1), (2, .ref a2), (4, .int a4), (5, .int a5)] dX4_firstUnlike_61 (Nat.le_of_ble_eq_true rfl) rfl ?_
      refine g_aload_n 2 dX4_firstUnlike_62 rfl ?_
      refine g_iload 3 dX4_firstUnlike_63 rfl ?_
      obtain ⟨u15, e16, hF⟩ := q_bind hF
      obtain ⟨x17, e18, hF⟩ := q_bind hF
      refine g_callVr0 (ci := 0) (q := (RX0, TX0, 15)) qm_X0_nextOf wd_1116 wd_868 wd_869 rfl e16 (M_X0_nextOf l b D z nx e18) (As := [.int a4]) rfl rfl (Nat.le_of_ble_eq_true rfl) ⟨(Nat.le_of_ble_eq_true rfl), (Nat.le_of_ble_eq_true rfl)⟩ ⟨rfl, rfl⟩ ⟨(Nat.le_of_ble_eq_true rfl), (Nat.le_of_ble_eq_true rfl)⟩ dX4_firstUnlike_65 ?_
      refine g_istore [(4, .int x17), (3, .int x13), (1, .ref a1), (2, .ref a2), (5, .int a5)] dX4_firstUnlike_68 (Nat.le_of_ble_eq_true rfl) rfl ?_
      refine g_iinc [(5, .int (a5 + 1)), (4, .int x17), (3, .int x13), (1, .ref a1), (2, .ref a2)] 4 dX4_firstUnlike_70 rfl (congrArg (a5 + ·) lt_iconst_1) (Nat.le_of_ble_eq_true rfl) rfl ?_
      refine g_goto 32 dX4_firstUnlike_73 (by decide) ?_
      cases hF
      refine g_sub [3, 4, 2, 1, 0] rfl ?_
      exact hback _ _ _ rfl
    · replace hF := q_f c10 hF
      cases hF
      refine g_sub [4] rfl ?_
      exact hx0 _ rfl
set_option maxRecDepth 100000 in
set_option maxHeartbeats 4000000 in
theorem L_X4_firstUnlike_32 (l : Launch) (b : Nat) (D : va_G) (z : Nat → Nat) {Φ : Option Value → qH → Nat → Prop} {nx : Nat} {h : qH} {a1 : Nat} {a2 : Nat} : ∀ (n : Nat) (a3 : Int32) (a4 : Int32) (a5 : Int32) (e : Int32 ⊕ Unit), q_lp (s_X4_firstUnlike_32 h a1 a2) n (a3, a4, a5) = some e → (∀ (b5 : Int32), e = (.inl b5) → Go l b D z yX4_firstUnlike cX4_firstUnlike 6 (some .int) rm_X4_firstUnlike Φ 53 [(5, .int b5)] [] h nx 0 0) → (e = (.inr ()) → Go l b D z yX4_firstUnlike cX4_firstUnlike 6 (some .int) rm_X4_firstUnlike Φ 76 [] [] h nx 0 0) → Go l b D z yX4_firstUnlike cX4_firstUnlike 6 (some .int) rm_X4_firstUnlike Φ 32 [(1, .ref a1), (2, .ref a2), (3, .int a3), (4, .int a4), (5, .int a5)] [] h nx 0 0 := by
  intro n
  induction n with
  | zero => intro a3 a4 a5 e he; cases (show none = some e from he)
  | succ n ih =>
    intro a3 a4 a5 e he hx0 hx1
    obtain ⟨o, ho, h1, h2⟩ := q_lp_succ he
    exact B_X4_firstUnlike_32 l b D z (show b_X4_firstUnlike_32 h a1 a2 a3 a4 a5 = some o from ho) (fun b3 b4 b5 hb => ih _ _ _ e (h1 _ hb) hx0 hx1) (fun p0 hr => hx0 p0 (h2 _ hr).symm) (fun  hr => hx1  (h2 _ hr).symm)
set_option maxRecDepth 100000 in
set_option maxHeartbeats 4000000 in
theorem J_X4_firstUnlike_27 (l : Launch) (b : Nat) (D : va_G) (z : Nat → Nat) {nx : Nat} {h : qH} {a1 : Nat} {a2 : Nat} {a3 : Int32} {t0 : Int32} {r : Int32} (hF : j_X4_firstUnlike_27 h a1 a2 a3 t0 = some r) : Go l b D z yX4_firstUnlike cX4_firstUnlike 6 (some .int) rm_X4_firstUnlike (qE (some (.int r)) h nx) 27 [(1, .ref a1), (2, .ref a2), (3, .int a3)] [.int t0] h nx 0 0 := by
  unfold j_X4_firstUnlike_27 at hF
  refine g_istore [(4, .int t0), (1, .ref a1), (2, .ref a2), (3, .int a3)] dX4_firstUnlike_27 (Nat.le_of_ble_eq_true rfl) rfl ?_
  refine g_iconst dX4_firstUnlike_29 lt_iconst_0 ?_
  refine g_istore [(5, .int (0 : Int32)), (4, .int t0), (1, .ref a1), (2, .ref a2), (3, .int a3)] dX4_firstUnlike_30 (Nat.le_of_ble_eq_true rfl) rfl ?_
  obtain ⟨e1, w2, hF⟩ := q_bind hF
  refine g_sub [2, 3, 4, 1, 0] rfl ?_
  refine L_X4_firstUnlike_32 l b D z q_N a3 t0 (0 : Int32) e1 w2 ?_ ?_
  · intro o3 w4
    replace w4 := w4.symm
    subst w4
    replace hF := q_sl hF
    refine g_iload 0 dX4_firstUnlike_53 rfl ?_
    cases hF
    exact g_iret dX4_firstUnlike_55 rfl ⟨rfl, rfl, rfl⟩ (Nat.le_of_ble_eq_true rfl) (Nat.le_of_ble_eq_true rfl)
  · intro  w6
    replace w6 := w6.symm
    subst w6
    replace hF := q_sr hF
    refine g_iconst dX4_firstUnlike_76 lt_iconst_m1 ?_
    cases hF
    exact g_iret dX4_firstUnlike_77 rfl ⟨rfl, rfl, rfl⟩ (Nat.le_of_ble_eq_true rfl) (Nat.le_of_ble_eq_true rfl)
set_option maxRecDepth 100000 in
set_option maxHeartbeats 4000000 in
theorem J_X4_firstUnlike_13 (l : Launch) (b : Nat) (D : va_G) (z : Nat → Nat) {nx : Nat} {h : qH} {a1 : Nat} {a2 : Nat} {t0 : Int32} {r : Int32} (hF : j_X4_firstUnlike_13 h a1 a2 t0 = some r) : Go l b D z yX4_firstUnlike cX4_firstUnlike 6 (some .int) rm_X4_firstUnlike (qE (some (.int r)) h nx) 13 [(1, .ref a1), (2, .ref a2)] [.int t0] h nx 0 0 := by
  unfold j_X4_firstUnlike_13 at hF
  refine g_istore_n [(3, .int t0), (1, .ref a1), (2, .ref a2)] dX4_firstUnlike_13 (Nat.le_of_ble_eq_true rfl) rfl ?_
  refine g_aload_n 2 dX4_firstUnlike_14 rfl ?_
  refine g_iconst dX4_firstUnlike_15 lt_iconst_0 ?_
  obtain ⟨u1, e2, hF⟩ := q_bind hF
  obtain ⟨x3, e4, hF⟩ := q_bind hF
  refine g_callVr0 (ci := 0) (q := (RX0, TX0, 15)) qm_X0_has wd_1114 wd_783 wd_784 rfl e2 (M_X0_has l b D z nx e4) (As := [.int (0 : Int32)]) rfl rfl (Nat.le_of_ble_eq_true rfl) ⟨(Nat.le_of_ble_eq_true rfl), (Nat.le_of_ble_eq_true rfl)⟩ ⟨rfl, rfl⟩ ⟨(Nat.le_of_ble_eq_true rfl), (Nat.le_of_ble_eq_true rfl)⟩ dX4_firstUnlike_16 ?_
  refine g_if_eq 26 dX4_firstUnlike_19 (by decide) (fun c5 => ?_) (fun c5 => ?_)
  · replace hF := q_t c5 hF
    refine g_iconst dX4_firstUnlike_26 lt_iconst_m1 ?_
    refine g_sub [1, 2, 0] rfl ?_
    exact J_X4_firstUnlike_27 l b D z hF
  · replace hF := q_f c5 hF
    refine g_iconst dX4_firstUnlike_22 lt_iconst_0 ?_
    refine g_goto 27 dX4_firstUnlike_23 (by decide) ?_
    refine g_sub [1, 2, 0] rfl ?_
    exact J_X4_firstUnlike_27 l b D z hF
set_option maxRecDepth 100000 in
set_option maxHeartbeats 4000000 in
theorem M_X4_firstUnlike (l : Launch) (b : Nat) (D : va_G) (z : Nat → Nat) (nx : Nat) {h : qH} {a0 : Nat} {a1 : Nat} {a2 : Nat} {r : Int32} (hF : F_X4_firstUnlike h a0 a1 a2 = some r) : Me l b D z yX4_firstUnlike cX4_firstUnlike 6 (some .int) rm_X4_firstUnlike [.ref a0, .ref a1, .ref a2] h nx (qE (some (.int r)) h nx) := by
  refine Me.of (by decide +kernel) (Nat.le_of_ble_eq_true rfl) ?_
  show Go l b D z yX4_firstUnlike cX4_firstUnlike 6 (some .int) rm_X4_firstUnlike (qE (some (.int r)) h nx) 0 [(0, .ref a0), (1, .ref a1), (2, .ref a2)] [] h nx 0 0
  unfold F_X4_firstUnlike at hF
  refine g_aload_n 1 dX4_firstUnlike_0 rfl ?_
  refine g_iconst dX4_firstUnlike_1 lt_iconst_0 ?_
  obtain ⟨u1, e2, hF⟩ := q_bind hF
  obtain ⟨x3, e4, hF⟩ := q_bind hF
  refine g_callVr0 (ci := 0) (q := (RX0, TX0, 15)) qm_X0_has wd_1114 wd_783 wd_784 rfl e2 (M_X0_has l b D z nx e4) (As := [.int (0 : Int32)]) rfl rfl (Nat.le_of_ble_eq_true rfl) ⟨(Nat.le_of_ble_eq_true rfl), (Nat.le_of_ble_eq_true rfl)⟩ ⟨rfl, rfl⟩ ⟨(Nat.le_of_ble_eq_true rfl), (Nat.le_of_ble_eq_true rfl)⟩ dX4_firstUnlike_2 ?_
  refine g_if_eq 12 dX4_firstUnlike_5 (by decide) (fun c5 => ?_) (fun c5 => ?_)
  · replace hF := q_t c5 hF
    refine g_iconst dX4_firstUnlike_12 lt_iconst_m1 ?_
    refine g_sub [1, 2] rfl ?_
    exact J_X4_firstUnlike_13 l b D z hF
  · replace hF := q_f c5 hF
    refine g_iconst dX4_firstUnlike_8 lt_iconst_0 ?_
    refine g_goto 13 dX4_firstUnlike_9 (by decide) ?_
    refine g_sub [1, 2] rfl ?_
    exact J_X4_firstUnlike_13 l b D z hF
def rm_X5_init : Room := { frames := 1, cells := 2, slots := 40, locals := 20 }
theorem rmc_X5_init : rm_X5_init.cells = 2 := rfl
theorem rms_X5_init : rm_X5_init.slots = 40 := rfl
set_option maxRecDepth 100000 in
set_option maxHeartbeats 4000000 in
theorem M_X5_init (l : Launch) (b : Nat) (D : va_G) (z : Nat → Nat) (nx : Nat) {h : qH} {a0 : Nat} {r : qH × Nat} (hF : F_X5_init h nx a0 = some r) : Me l b D z yX5_init cX5_init 1 none rm_X5_init [.ref a0] h nx (qE none r.1 r.2) := by
  refine Me.of (by decide +kernel) (Nat.le_of_ble_eq_true rfl) ?_
  show Go l b D z yX5_init cX5_init 1 none rm_X5_init (qE none r.1 r.2) 0 [(0, .ref a0)] [] h nx 0 0
  unfold F_X5_init at hF
  refine g_aload_n 0 dX5_init_0 rfl ?_
  refine g_obj wd_455 wd_190 wd_191 (Nat.le_of_ble_eq_true rfl) (Nat.le_of_ble_eq_true rfl) dX5_init_1 ?_
  refine g_aload_n 0 dX5_init_4 rfl ?_
  refine g_bipush dX5_init_5 lt_bipush_20 ?_
  refine g_newl (N := 20) wd_449 (by decide) (by decide) (Nat.le_of_ble_eq_true rfl) (Nat.le_of_ble_eq_true rfl) (Nat.le_of_ble_eq_true rfl) dX5_init_7 ?_
  obtain ⟨h1, e2, hF⟩ := q_bind hF
  refine g_putF fl_X5_11 e2 rfl rfl rfl (fun q hq => by cases hq; rfl) dX5_init_9 ?_
  refine g_aload_n 0 dX5_init_12 rfl ?_
  refine g_bipush dX5_init_13 lt_bipush_20 ?_
  refine g_newl (N := 20) wd_449 (by decide) (by decide) (Nat.le_of_ble_eq_true rfl) (Nat.le_of_ble_eq_true rfl) (Nat.le_of_ble_eq_true rfl) dX5_init_15 ?_
  obtain ⟨h3, e4, hF⟩ := q_bind hF
  refine g_putF fl_X5_17 e4 rfl rfl rfl (fun q hq => by cases hq; rfl) dX5_init_17 ?_
  refine g_aload_n 0 dX5_init_20 rfl ?_
  refine g_lconst (v := 1) dX5_init_21 (by decide +kernel) ?_
  obtain ⟨h5, e6, hF⟩ := q_bind hF
  refine g_putf fl_X5_20 e6 rfl rfl dX5_init_22 ?_
  cases hF
  exact g_vret dX5_init_25 rfl ⟨rfl, rfl, rfl⟩ (Nat.le_of_ble_eq_true rfl) (Nat.le_of_ble_eq_true rfl)
def rm_X5_tenths : Room := { frames := 2, cells := 0, slots := 0, locals := 41 }
set_option maxRecDepth 100000 in
set_option maxHeartbeats 4000000 in
theorem M_X5_tenths (l : Launch) (b : Nat) (D : va_G) (z : Nat → Nat) (nx : Nat) {h : qH} {a0 : Nat} {a1 : Int32} {a2 : Int32} {r : Int32} (hF : F_X5_tenths h a0 a1 a2 = some r) : Me l b D z yX5_tenths cX5_tenths 3 (some .int) rm_X5_tenths [.ref a0, .int a1, .int a2] h nx (qE (some (.int r)) h nx) := by
  refine Me.of (by decide +kernel) (Nat.le_of_ble_eq_true rfl) ?_
  show Go l b D z yX5_tenths cX5_tenths 3 (some .int) rm_X5_tenths (qE (some (.int r)) h nx) 0 [(0, .ref a0), (1, .int a1), (2, .int a2)] [] h nx 0 0
  unfold F_X5_tenths at hF
  refine g_iload_n 2 dX5_tenths_0 rfl ?_
  refine g_if_eq 8 dX5_tenths_1 (by decide) (fun c1 => ?_) (fun c1 => ?_)
  · replace hF := q_t c1 hF
    refine g_aload_n 0 dX5_tenths_8 rfl ?_
    refine g_aload_n 0 dX5_tenths_9 rfl ?_
    refine g_iload_n 1 dX5_tenths_10 rfl ?_
    obtain ⟨u2, e3, hF⟩ := q_bind hF
    obtain ⟨x4, e5, hF⟩ := q_bind hF
    refine g_callVr0 (ci := 0) (q := (RX0, TX0, 15)) qm_X0_whoSays wd_1059 wd_931 wd_932 rfl e3 (M_X0_whoSays l b D z nx e5) (As := [.int a1]) rfl rfl (Nat.le_of_ble_eq_true rfl) ⟨(Nat.le_of_ble_eq_true rfl), (Nat.le_of_ble_eq_true rfl)⟩ ⟨rfl, rfl⟩ ⟨(Nat.le_of_ble_eq_true rfl), (Nat.le_of_ble_eq_true rfl)⟩ dX5_tenths_11 ?_
    obtain ⟨u6, e7, hF⟩ := q_bind hF
    obtain ⟨x8, e9, hF⟩ := q_bind hF
    refine g_callVr0 (ci := 0) (q := (RX0, TX0, 15)) qm_X0_driesOf wd_1060 wd_872 wd_873 rfl e7 (M_X0_driesOf l b D z nx e9) (As := [.int x4]) rfl rfl (Nat.le_of_ble_eq_true rfl) ⟨(Nat.le_of_ble_eq_true rfl), (Nat.le_of_ble_eq_true rfl)⟩ ⟨rfl, rfl⟩ ⟨(Nat.le_of_ble_eq_true rfl), (Nat.le_of_ble_eq_true rfl)⟩ dX5_tenths_14 ?_
    cases hF
    exact g_iret dX5_tenths_17 rfl ⟨rfl, rfl, rfl⟩ (Nat.le_of_ble_eq_true rfl) (Nat.le_of_ble_eq_true rfl)
  · replace hF := q_f c1 hF
    refine g_iconst dX5_tenths_4 lt_iconst_0 ?_
    refine g_goto 17 dX5_tenths_5 (by decide) ?_
    cases hF
    exact g_iret dX5_tenths_17 rfl ⟨rfl, rfl, rfl⟩ (Nat.le_of_ble_eq_true rfl) (Nat.le_of_ble_eq_true rfl)
def rm_X5_takeHarm : Room := { frames := 1, cells := 0, slots := 0, locals := 21 }
set_option maxRecDepth 100000 in
set_option maxHeartbeats 4000000 in
theorem B_X5_takeHarm_5 (l : Launch) (b : Nat) (D : va_G) (z : Nat → Nat) {Φ : Option Value → qH → Nat → Prop} {nx : Nat} {h : qH} {a0 : Nat} {a1 : Nat} {a2 : Int64} {a4 : Int32} {o : (Int64 × Int32) ⊕ Int64} (hF : b_X5_takeHarm_5 h a0 a1 a2 a4 = some o) (hback : ∀ (b2 : Int64) (b4 : Int32), o = .inl (b2, b4) → Go l b D z yX5_takeHarm cX5_takeHarm 5 (some .long) rm_X5_takeHarm Φ 5 [(0, .ref a0), (1, .ref a1), (2, .long b2), (4, .int b4)] [] h nx 0 0) (hx0 : ∀ (b2 : Int64), o = .inr b2 → Go l b D z yX5_takeHarm cX5_takeHarm 5 (some .long) rm_X5_takeHarm Φ 45 [(2, .long b2)] [] h nx 0 0) : Go l b D z yX5_takeHarm cX5_takeHarm 5 (some .long) rm_X5_takeHarm Φ 5 [(0, .ref a0), (1, .ref a1), (2, .long a2), (4, .int a4)] [] h nx 0 0 := by
  unfold b_X5_takeHarm_5 at hF
  refine g_iload 3 dX5_takeHarm_5 rfl ?_
  refine g_aload_n 1 dX5_takeHarm_7 rfl ?_
  obtain ⟨x1, e2, hF⟩ := q_bind hF
  refine g_getfI fl_X5_57 e2 dX5_takeHarm_8 ?_
  refine g_icmp_ge 45 dX5_takeHarm_11 (by decide) (fun c3 => ?_) (fun c3 => ?_)
  · replace hF := q_t c3 hF
    cases hF
    refine g_sub [2] rfl ?_
    exact hx0 _ rfl
  · replace hF := q_f c3 hF
    refine g_iload 3 dX5_takeHarm_14 rfl ?_
    refine g_bipush dX5_takeHarm_16 lt_bipush_20 ?_
    refine g_icmp_ge 45 dX5_takeHarm_18 (by decide) (fun c4 => ?_) (fun c4 => ?_)
    · replace hF := q_t c4 hF
      cases hF
      refine g_sub [2] rfl ?_
      exact hx0 _ rfl
    · replace hF := q_f c4 hF
      refine g_lload_n 2 dX5_takeHarm_21 rfl ?_
      refine g_aload_n 0 dX5_takeHarm_22 rfl ?_
      obtain ⟨x5, e6, hF⟩ := q_bind hF
      refine g_getfR fl_X5_11 e6 dX5_takeHarm_23 ?_
      refine g_iload 3 dX5_takeHarm_26 rfl ?_
      obtain ⟨x7, e8, hF⟩ := q_bind hF
      refine g_lald e8 dX5_takeHarm_28 ?_
      refine g_aload_n 1 dX5_takeHarm_29 rfl ?_
      refine g_iload 3 dX5_takeHarm_30 rfl ?_
      obtain ⟨u9, e10, hF⟩ := q_bind hF
      obtain ⟨x11, e12, hF⟩ := q_bind hF
      refine g_callVr0 (ci := 0) (q := (RX0, TX0, 15)) qm_X0_harmDone wd_1066 wd_944 wd_945 rfl e10 (M_X0_harmDone l b D z nx e12) (As := [.int a4]) rfl rfl (Nat.le_of_ble_eq_true rfl) ⟨(Nat.le_of_ble_eq_true rfl), (Nat.le_of_ble_eq_true rfl)⟩ ⟨rfl, rfl⟩ ⟨(Nat.le_of_ble_eq_true rfl), (Nat.le_of_ble_eq_true rfl)⟩ dX5_takeHarm_32 ?_
      refine g_i2l dX5_takeHarm_35 ?_
      refine g_lmul dX5_takeHarm_36 ?_
      refine g_ladd dX5_takeHarm_37 ?_
      refine g_lstore_n [(2, .long (a2 + (x7 * x11.toInt64))), (0, .ref a0), (1, .ref a1), (4, .int a4)] dX5_takeHarm_38 (Nat.le_of_ble_eq_true rfl) rfl ?_
      refine g_iinc [(4, .int (a4 + 1)), (2, .long (a2 + (x7 * x11.toInt64))), (0, .ref a0), (1, .ref a1)] 3 dX5_takeHarm_39 rfl (congrArg (a4 + ·) lt_iconst_1) (Nat.le_of_ble_eq_true rfl) rfl ?_
      refine g_goto 5 dX5_takeHarm_42 (by decide) ?_
      cases hF
      refine g_sub [2, 3, 1, 0] rfl ?_
      exact hback _ _ rfl
set_option maxRecDepth 100000 in
set_option maxHeartbeats 4000000 in
theorem L_X5_takeHarm_5 (l : Launch) (b : Nat) (D : va_G) (z : Nat → Nat) {Φ : Option Value → qH → Nat → Prop} {nx : Nat} {h : qH} {a0 : Nat} {a1 : Nat} : ∀ (n : Nat) (a2 : Int64) (a4 : Int32) (e : Int64), q_lp (s_X5_takeHarm_5 h a0 a1) n (a2, a4) = some e → (∀ (b2 : Int64), e = b2 → Go l b D z yX5_takeHarm cX5_takeHarm 5 (some .long) rm_X5_takeHarm Φ 45 [(2, .long b2)] [] h nx 0 0) → Go l b D z yX5_takeHarm cX5_takeHarm 5 (some .long) rm_X5_takeHarm Φ 5 [(0, .ref a0), (1, .ref a1), (2, .long a2), (4, .int a4)] [] h nx 0 0 := by
  intro n
  induction n with
  | zero => intro a2 a4 e he; cases (show none = some e from he)
  | succ n ih =>
    intro a2 a4 e he hx0
    obtain ⟨o, ho, h1, h2⟩ := q_lp_succ he
    exact B_X5_takeHarm_5 l b D z (show b_X5_takeHarm_5 h a0 a1 a2 a4 = some o from ho) (fun b2 b4 hb => ih _ _ e (h1 _ hb) hx0) (fun p0 hr => hx0 p0 (h2 _ hr).symm)
set_option maxRecDepth 100000 in
set_option maxHeartbeats 4000000 in
theorem M_X5_takeHarm (l : Launch) (b : Nat) (D : va_G) (z : Nat → Nat) (nx : Nat) {h : qH} {a0 : Nat} {a1 : Nat} {r : Int64} (hF : F_X5_takeHarm h a0 a1 = some r) : Me l b D z yX5_takeHarm cX5_takeHarm 5 (some .long) rm_X5_takeHarm [.ref a0, .ref a1] h nx (qE (some (.long r)) h nx) := by
  refine Me.of (by decide +kernel) (Nat.le_of_ble_eq_true rfl) ?_
  show Go l b D z yX5_takeHarm cX5_takeHarm 5 (some .long) rm_X5_takeHarm (qE (some (.long r)) h nx) 0 [(0, .ref a0), (1, .ref a1)] [] h nx 0 0
  unfold F_X5_takeHarm at hF
  refine g_lconst (v := 0) dX5_takeHarm_0 (by decide +kernel) ?_
  refine g_lstore_n [(2, .long (0 : Int64)), (0, .ref a0), (1, .ref a1)] dX5_takeHarm_1 (Nat.le_of_ble_eq_true rfl) rfl ?_
  refine g_iconst dX5_takeHarm_2 lt_iconst_0 ?_
  refine g_istore [(4, .int (0 : Int32)), (2, .long (0 : Int64)), (0, .ref a0), (1, .ref a1)] dX5_takeHarm_3 (Nat.le_of_ble_eq_true rfl) rfl ?_
  obtain ⟨e1, w2, hF⟩ := q_bind hF
  refine g_sub [2, 3, 1, 0] rfl ?_
  refine L_X5_takeHarm_5 l b D z q_N (0 : Int64) (0 : Int32) e1 w2 ?_
  · intro o3 w4
    replace w4 := w4.symm
    subst w4
    refine g_lload_n 0 dX5_takeHarm_45 rfl ?_
    cases hF
    exact g_lret dX5_takeHarm_46 rfl ⟨rfl, rfl, rfl⟩ (Nat.le_of_ble_eq_true rfl) (Nat.le_of_ble_eq_true rfl)
def rm_X5_takeScene : Room := { frames := 2, cells := 0, slots := 0, locals := 42 }
set_option maxRecDepth 100000 in
set_option maxHeartbeats 4000000 in
theorem B_X5_takeScene_5 (l : Launch) (b : Nat) (D : va_G) (z : Nat → Nat) {Φ : Option Value → qH → Nat → Prop} {nx : Nat} {a0 : Nat} {a1 : Nat} {a2 : Int32} {a3 : Int64} {a5 : Int32} {h : qH} {o : (Int64 × Int32 × qH) ⊕ ((Int64 × qH))} (hF : b_X5_takeScene_5 a0 a1 a2 a3 a5 h = some o) (hback : ∀ (b3 : Int64) (b5 : Int32) (bh : qH), o = .inl (b3, b5, bh) → Go l b D z yX5_takeScene cX5_takeScene 6 (some .long) rm_X5_takeScene Φ 5 [(0, .ref a0), (1, .ref a1), (2, .int a2), (3, .long b3), (5, .int b5)] [] bh nx 0 0) (hx0 : ∀ (b3 : Int64) (bh : qH), o = .inr (b3, bh) → Go l b D z yX5_takeScene cX5_takeScene 6 (some .long) rm_X5_takeScene Φ 55 [(3, .long b3)] [] bh nx 0 0) : Go l b D z yX5_takeScene cX5_takeScene 6 (some .long) rm_X5_takeScene Φ 5 [(0, .ref a0), (1, .ref a1), (2, .int a2), (3, .long a3), (5, .int a5)] [] h nx 0 0 := by
  unfold b_X5_takeScene_5 at hF
  refine g_iload 4 dX5_takeScene_5 rfl ?_
  refine g_aload_n 1 dX5_takeScene_7 rfl ?_
  obtain ⟨x1, e2, hF⟩ := q_bind hF
  refine g_getfI fl_X5_57 e2 dX5_takeScene_8 ?_
  refine g_icmp_ge 55 dX5_takeScene_11 (by decide) (fun c3 => ?_) (fun c3 => ?_)
  · replace hF := q_t c3 hF
    cases hF
    refine g_sub [3] rfl ?_
    exact hx0 _ _ rfl
  · replace hF := q_f c3 hF
    refine g_iload 4 dX5_takeScene_14 rfl ?_
    refine g_bipush dX5_takeScene_16 lt_bipush_20 ?_
    refine g_icmp_ge 55 dX5_takeScene_18 (by decide) (fun c4 => ?_) (fun c4 => ?_)
    · replace hF := q_t c4 hF
      cases hF
      refine g_sub [3] rfl ?_
      exact hx0 _ _ rfl
    · replace hF := q_f c4 hF
      refine g_aload_n 1 dX5_takeScene_21 rfl ?_
      refine g_iload 4 dX5_takeScene_22 rfl ?_
      obtain ⟨u5, e6, hF⟩ := q_bind hF
      obtain ⟨x7, e8, hF⟩ := q_bind hF
      refine g_callVr0 (ci := 0) (q := (RX0, TX0, 15)) qm_X0_sceneOf wd_1071 wd_989 wd_990 rfl e6 (M_X0_sceneOf l b D z nx e8) (As := [.int a5]) rfl rfl (Nat.le_of_ble_eq_true rfl) ⟨(Nat.le_of_ble_eq_true rfl), (Nat.le_of_ble_eq_true rfl)⟩ ⟨rfl, rfl⟩ ⟨(Nat.le_of_ble_eq_true rfl), (Nat.le_of_ble_eq_true rfl)⟩ dX5_takeScene_24 ?_
      refine g_iload_n 2 dX5_takeScene_27 rfl ?_
      refine g_icmp_ne 49 dX5_takeScene_28 (by decide) (fun c9 => ?_) (fun c9 => ?_)
      · replace hF := q_f c9 hF
        refine g_iinc [(5, .int (a5 + 1)), (0, .ref a0), (1, .ref a1), (2, .int a2), (3, .long a3)] 4 dX5_takeScene_49 rfl (congrArg (a5 + ·) lt_iconst_1) (Nat.le_of_ble_eq_true rfl) rfl ?_
        refine g_goto 5 dX5_takeScene_52 (by decide) ?_
        cases hF
        refine g_sub [1, 2, 3, 4, 0] rfl ?_
        exact hback _ _ _ rfl
      · replace hF := q_t c9 hF
        refine g_lload_n 3 dX5_takeScene_31 rfl ?_
        refine g_aload_n 0 dX5_takeScene_32 rfl ?_
        obtain ⟨x10, e11, hF⟩ := q_bind hF
        refine g_getfR fl_X5_11 e11 dX5_takeScene_33 ?_
        refine g_iload 4 dX5_takeScene_36 rfl ?_
        obtain ⟨x12, e13, hF⟩ := q_bind hF
        refine g_lald e13 dX5_takeScene_38 ?_
        refine g_ladd dX5_takeScene_39 ?_
        refine g_lstore_n [(3, .long (a3 + x12)), (0, .ref a0), (1, .ref a1), (2, .int a2), (5, .int a5)] dX5_takeScene_40 (Nat.le_of_ble_eq_true rfl) rfl ?_
        refine g_aload_n 1 dX5_takeScene_41 rfl ?_
        obtain ⟨x14, e15, hF⟩ := q_bind hF
        refine g_getfR fl_X5_11 e15 dX5_takeScene_42 ?_
        refine g_iload 4 dX5_takeScene_45 rfl ?_
        refine g_lconst (v := 0) dX5_takeScene_47 (by decide +kernel) ?_
        obtain ⟨h16, e17, hF⟩ := q_bind hF
        refine g_last e17 dX5_takeScene_48 ?_
        refine g_iinc [(5, .int (a5 + 1)), (3, .long (a3 + x12)), (0, .ref a0), (1, .ref a1), (2, .int a2)] 4 dX5_takeScene_49 rfl (congrArg (a5 + ·) lt_iconst_1) (Nat.le_of_ble_eq_true rfl) rfl ?_
        refine g_goto 5 dX5_takeScene_52 (by decide) ?_
        cases hF
        refine g_sub [2, 3, 4, 1, 0] rfl ?_
        exact hback _ _ _ rfl
set_option maxRecDepth 100000 in
set_option maxHeartbeats 4000000 in
theorem L_X5_takeScene_5 (l : Launch) (b : Nat) (D : va_G) (z : Nat → Nat) {Φ : Option Value → qH → Nat → Prop} {nx : Nat} {a0 : Nat} {a1 : Nat} {a2 : Int32} : ∀ (n : Nat) (a3 : Int64) (a5 : Int32) (h : qH) (e : (Int64 × qH)), q_lp (s_X5_takeScene_5 a0 a1 a2) n (a3, a5, h) = some e → (∀ (b3 : Int64) (bh : qH), e = (b3, bh) → Go l b D z yX5_takeScene cX5_takeScene 6 (some .long) rm_X5_takeScene Φ 55 [(3, .long b3)] [] bh nx 0 0) → Go l b D z yX5_takeScene cX5_takeScene 6 (some .long) rm_X5_takeScene Φ 5 [(0, .ref a0), (1, .ref a1), (2, .int a2), (3, .long a3), (5, .int a5)] [] h nx 0 0 := by
  intro n
  induction n with
  | zero => intro a3 a5 h e he; cases (show none = some e from he)
  | succ n ih =>
    intro a3 a5 h e he hx0
    obtain ⟨o, ho, h1, h2⟩ := q_lp_succ he
    exact B_X5_takeScene_5 l b D z (show b_X5_takeScene_5 a0 a1 a2 a3 a5 h = some o from ho) (fun b3 b5 bh hb => ih _ _ _ e (h1 _ hb) hx0) (fun p0 p1 hr => hx0 p0 p1 (h2 _ hr).symm)
set_option maxRecDepth 100000 in
set_option maxHeartbeats 4000000 in
theorem M_X5_takeScene (l : Launch) (b : Nat) (D : va_G) (z : Nat → Nat) (nx : Nat) {h : qH} {a0 : Nat} {a1 : Nat} {a2 : Int32} {r : Int64 × qH} (hF : F_X5_takeScene h a0 a1 a2 = some r) : Me l b D z yX5_takeScene cX5_takeScene 6 (some .long) rm_X5_takeScene [.ref a0, .ref a1, .int a2] h nx (qE (some (.long r.1)) r.2 nx) := by
  refine Me.of (by decide +kernel) (Nat.le_of_ble_eq_true rfl) ?_
  show Go l b D z yX5_takeScene cX5_takeScene 6 (some .long) rm_X5_takeScene (qE (some (.long r.1)) r.2 nx) 0 [(0, .ref a0), (1, .ref a1), (2, .int a2)] [] h nx 0 0
  unfold F_X5_takeScene at hF
  refine g_lconst (v := 0) dX5_takeScene_0 (by decide +kernel) ?_
  refine g_lstore_n [(3, .long (0 : Int64)), (0, .ref a0), (1, .ref a1), (2, .int a2)] dX5_takeScene_1 (Nat.le_of_ble_eq_true rfl) rfl ?_
  refine g_iconst dX5_takeScene_2 lt_iconst_0 ?_
  refine g_istore [(5, .int (0 : Int32)), (3, .long (0 : Int64)), (0, .ref a0), (1, .ref a1), (2, .int a2)] dX5_takeScene_3 (Nat.le_of_ble_eq_true rfl) rfl ?_
  obtain ⟨e1, w2, hF⟩ := q_bind hF
  refine g_sub [2, 3, 4, 1, 0] rfl ?_
  refine L_X5_takeScene_5 l b D z q_N (0 : Int64) (0 : Int32) h e1 w2 ?_
  · intro o3 h4 w5
    replace w5 := w5.symm
    subst w5
    dsimp only at hF
    refine g_lload_n 0 dX5_takeScene_55 rfl ?_
    cases hF
    exact g_lret dX5_takeScene_56 rfl ⟨rfl, rfl, rfl⟩ (Nat.le_of_ble_eq_true rfl) (Nat.le_of_ble_eq_true rfl)
def rm_X5_step : Room := { frames := 3, cells := 0, slots := 0, locals := 63 }
set_option maxRecDepth 100000 in
set_option maxHeartbeats 4000000 in
theorem B_X5_step_2 (l : Launch) (b : Nat) (D : va_G) (z : Nat → Nat) {Φ : Option Value → qH → Nat → Prop} {nx : Nat} {a0 : Nat} {a1 : Nat} {a2 : Int32} {a3 : Int32} {h : qH} {o : (Int32 × qH) ⊕ qH} (hF : b_X5_step_2 a0 a1 a2 a3 h = some o) (hback : ∀ (b3 : Int32) (bh : qH), o = .inl (b3, bh) → Go l b D z yX5_step cX5_step 7 none rm_X5_step Φ 2 [(0, .ref a0), (1, .ref a1), (2, .int a2), (3, .int b3)] [] bh nx 0 0) (hx0 : ∀  (bh : qH), o = .inr bh → Go l b D z yX5_step cX5_step 7 none rm_X5_step Φ 21 [(0, .ref a0), (1, .ref a1), (2, .int a2)] [] bh nx 0 0) : Go l b D z yX5_step cX5_step 7 none rm_X5_step Φ 2 [(0, .ref a0), (1, .ref a1), (2, .int a2), (3, .int a3)] [] h nx 0 0 := by
  unfold b_X5_step_2 at hF
  refine g_iload_n 3 dX5_step_2 rfl ?_
  refine g_bipush dX5_step_3 lt_bipush_20 ?_
  refine g_icmp_ge 21 dX5_step_5 (by decide) (fun c1 => ?_) (fun c1 => ?_)
  · replace hF := q_t c1 hF
    cases hF
    refine g_sub [0, 1, 2] rfl ?_
    exact hx0 _ rfl
  · replace hF := q_f c1 hF
    refine g_aload_n 0 dX5_step_8 rfl ?_
    obtain ⟨x2, e3, hF⟩ := q_bind hF
    refine g_getfR fl_X5_17 e3 dX5_step_9 ?_
    refine g_iload_n 3 dX5_step_12 rfl ?_
    refine g_lconst (v := 0) dX5_step_13 (by decide +kernel) ?_
    obtain ⟨h4, e5, hF⟩ := q_bind hF
    refine g_last e5 dX5_step_14 ?_
    refine g_iinc [(3, .int (a3 + 1)), (0, .ref a0), (1, .ref a1), (2, .int a2)] 3 dX5_step_15 rfl (congrArg (a3 + ·) lt_iconst_1) (Nat.le_of_ble_eq_true rfl) rfl ?_
    refine g_goto 2 dX5_step_18 (by decide) ?_
    cases hF
    refine g_sub [1, 2, 3, 0] rfl ?_
    exact hback _ _ rfl
set_option maxRecDepth 100000 in
set_option maxHeartbeats 4000000 in
theorem L_X5_step_2 (l : Launch) (b : Nat) (D : va_G) (z : Nat → Nat) {Φ : Option Value → qH → Nat → Prop} {nx : Nat} {a0 : Nat} {a1 : Nat} {a2 : Int32} : ∀ (n : Nat) (a3 : Int32) (h : qH) (e : qH), q_lp (s_X5_step_2 a0 a1 a2) n (a3, h) = some e → (∀  (bh : qH), e = bh → Go l b D z yX5_step cX5_step 7 none rm_X5_step Φ 21 [(0, .ref a0), (1, .ref a1), (2, .int a2)] [] bh nx 0 0) → Go l b D z yX5_step cX5_step 7 none rm_X5_step Φ 2 [(0, .ref a0), (1, .ref a1), (2, .int a2), (3, .int a3)] [] h nx 0 0 := by
  intro n
  induction n with
  | zero => intro a3 h e he; cases (show none = some e from he)
  | succ n ih =>
    intro a3 h e he hx0
    obtain ⟨o, ho, h1, h2⟩ := q_lp_succ he
    exact B_X5_step_2 l b D z (show b_X5_step_2 a0 a1 a2 a3 h = some o from ho) (fun b3 bh hb => ih _ _ e (h1 _ hb) hx0) (fun p0 hr => hx0 p0 (h2 _ hr).symm)
set_option maxRecDepth 100000 in
set_option maxHeartbeats 4000000 in
theorem J_X5_step_93 (l : Launch) (b : Nat) (D : va_G) (z : Nat → Nat) {Φ : Option Value → qH → Nat → Prop} {nx : Nat} {h : qH} {a0 : Nat} {a1 : Nat} {a2 : Int32} {a3 : Int32} {a5 : Int32} {a6 : Int32} {o : (Int32 × qH) ⊕ qH} (hF : j_X5_step_93 h a0 a1 a2 a3 a5 a6  = some o) (hback : ∀ (b3 : Int32) (bh : qH), o = .inl (b3, bh) → Go l b D z yX5_step cX5_step 7 none rm_X5_step Φ 23 [(0, .ref a0), (1, .ref a1), (2, .int a2), (3, .int b3)] [] bh nx 0 0) (hx0 : ∀  (bh : qH), o = .inr bh → Go l b D z yX5_step cX5_step 7 none rm_X5_step Φ 128 [(0, .ref a0)] [] bh nx 0 0) : Go l b D z yX5_step cX5_step 7 none rm_X5_step Φ 93 [(0, .ref a0), (1, .ref a1), (2, .int a2), (3, .int a3), (5, .int a5), (6, .int a6)] [] h nx 0 0 := by
  unfold j_X5_step_93 at hF
  refine g_aload_n 1 dX5_step_93 rfl ?_
  refine g_iload 4 dX5_step_94 rfl ?_
  obtain ⟨u1, e2, hF⟩ := q_bind hF
  obtain ⟨x3, e4, hF⟩ := q_bind hF
  refine g_callVr0 (ci := 0) (q := (RX0, TX0, 15)) qm_X0_has wd_1055 wd_783 wd_784 rfl e2 (M_X0_has l b D z nx e4) (As := [.int a5]) rfl rfl (Nat.le_of_ble_eq_true rfl) ⟨(Nat.le_of_ble_eq_true rfl), (Nat.le_of_ble_eq_true rfl)⟩ ⟨rfl, rfl⟩ ⟨(Nat.le_of_ble_eq_true rfl), (Nat.le_of_ble_eq_true rfl)⟩ dX5_step_96 ?_
  refine g_if_eq 122 dX5_step_99 (by decide) (fun c5 => ?_) (fun c5 => ?_)
  · replace hF := q_t c5 hF
    refine g_iinc [(3, .int (a3 + 1)), (0, .ref a0), (1, .ref a1), (2, .int a2), (5, .int a5), (6, .int a6)] 3 dX5_step_122 rfl (congrArg (a3 + ·) lt_iconst_1) (Nat.le_of_ble_eq_true rfl) rfl ?_
    refine g_goto 23 dX5_step_125 (by decide) ?_
    cases hF
    refine g_sub [1, 2, 3, 0] rfl ?_
    exact hback _ _ rfl
  · replace hF := q_f c5 hF
    refine g_aload_n 0 dX5_step_102 rfl ?_
    obtain ⟨x6, e7, hF⟩ := q_bind hF
    refine g_getfR fl_X5_17 e7 dX5_step_103 ?_
    refine g_iload 4 dX5_step_106 rfl ?_
    refine g_dup2 dX5_step_108 rfl rfl ?_
    obtain ⟨x8, e9, hF⟩ := q_bind hF
    refine g_lald e9 dX5_step_109 ?_
    refine g_aload_n 0 dX5_step_110 rfl ?_
    obtain ⟨x10, e11, hF⟩ := q_bind hF
    refine g_getfR fl_X5_11 e11 dX5_step_111 ?_
    refine g_iload_n 3 dX5_step_114 rfl ?_
    obtain ⟨x12, e13, hF⟩ := q_bind hF
    refine g_lald e13 dX5_step_115 ?_
    refine g_iload 5 dX5_step_116 rfl ?_
    refine g_i2l dX5_step_118 ?_
    refine g_lmul dX5_step_119 ?_
    refine g_ladd dX5_step_120 ?_
    obtain ⟨h14, e15, hF⟩ := q_bind hF
    refine g_last e15 dX5_step_121 ?_
    refine g_iinc [(3, .int (a3 + 1)), (0, .ref a0), (1, .ref a1), (2, .int a2), (5, .int a5), (6, .int a6)] 3 dX5_step_122 rfl (congrArg (a3 + ·) lt_iconst_1) (Nat.le_of_ble_eq_true rfl) rfl ?_
    refine g_goto 23 dX5_step_125 (by decide) ?_
    cases hF
    refine g_sub [1, 2, 3, 0] rfl ?_
    exact hback _ _ rfl
set_option maxRecDepth 100000 in
set_option maxHeartbeats 4000000 in
theorem B_X5_step_23 (l : Launch) (b : Nat) (D : va_G) (z : Nat → Nat) {Φ : Option Value → qH → Nat → Prop} {nx : Nat} {a0 : Nat} {a1 : Nat} {a2 : Int32} {a3 : Int32} {h : qH} {o : (Int32 × qH) ⊕ qH} (hF : b_X5_step_23 a0 a1 a2 a3 h = some o) (hback : ∀ (b3 : Int32) (bh : qH), o = .inl (b3, bh) → Go l b D z yX5_step cX5_step 7 none rm_X5_step Φ 23 [(0, .ref a0), (1, .ref a1), (2, .int a2), (3, .int b3)] [] bh nx 0 0) (hx0 : ∀  (bh : qH), o = .inr bh → Go l b D z yX5_step cX5_step 7 none rm_X5_step Φ 128 [(0, .ref a0)] [] bh nx 0 0) : Go l b D z yX5_step cX5_step 7 none rm_X5_step Φ 23 [(0, .ref a0), (1, .ref a1), (2, .int a2), (3, .int a3)] [] h nx 0 0 := by
  unfold b_X5_step_23 at hF
  refine g_iload_n 3 dX5_step_23 rfl ?_
  refine g_aload_n 1 dX5_step_24 rfl ?_
  obtain ⟨x1, e2, hF⟩ := q_bind hF
  refine g_getfI fl_X5_57 e2 dX5_step_25 ?_
  refine g_icmp_ge 128 dX5_step_28 (by decide) (fun c3 => ?_) (fun c3 => ?_)
  · replace hF := q_t c3 hF
    cases hF
    refine g_sub [0] rfl ?_
    exact hx0 _ rfl
  · replace hF := q_f c3 hF
    refine g_iload_n 3 dX5_step_31 rfl ?_
    refine g_bipush dX5_step_32 lt_bipush_20 ?_
    refine g_icmp_ge 128 dX5_step_34 (by decide) (fun c4 => ?_) (fun c4 => ?_)
    · replace hF := q_t c4 hF
      cases hF
      refine g_sub [0] rfl ?_
      exact hx0 _ rfl
    · replace hF := q_f c4 hF
      refine g_aload_n 1 dX5_step_37 rfl ?_
      refine g_iload_n 3 dX5_step_38 rfl ?_
      obtain ⟨u5, e6, hF⟩ := q_bind hF
      obtain ⟨x7, e8, hF⟩ := q_bind hF
      refine g_callVr0 (ci := 0) (q := (RX0, TX0, 15)) qm_X0_nextOf wd_1076 wd_868 wd_869 rfl e6 (M_X0_nextOf l b D z nx e8) (As := [.int a3]) rfl rfl (Nat.le_of_ble_eq_true rfl) ⟨(Nat.le_of_ble_eq_true rfl), (Nat.le_of_ble_eq_true rfl)⟩ ⟨rfl, rfl⟩ ⟨(Nat.le_of_ble_eq_true rfl), (Nat.le_of_ble_eq_true rfl)⟩ dX5_step_39 ?_
      refine g_istore [(4, .int x7), (0, .ref a0), (1, .ref a1), (2, .int a2), (3, .int a3)] dX5_step_42 (Nat.le_of_ble_eq_true rfl) rfl ?_
      refine g_aload_n 2 dX5_step_44 rfl ?_
      refine g_iload_n 4 dX5_step_45 rfl ?_
      refine g_iconst dX5_step_46 lt_iconst_1 ?_
      obtain ⟨u9, e10, hF⟩ := q_bind hF
      obtain ⟨x11, e12, hF⟩ := q_bind hF
      refine g_callVr0 (ci := 0) (q := (RX0, TX0, 15)) qm_X0_following wd_1077 wd_795 wd_796 rfl e10 (M_X0_following l b D z nx e12) (As := [.int a3, .int (1 : Int32)]) rfl rfl (Nat.le_of_ble_eq_true rfl) ⟨(Nat.le_of_ble_eq_true rfl), (Nat.le_of_ble_eq_true rfl)⟩ ⟨rfl, rfl⟩ ⟨(Nat.le_of_ble_eq_true rfl), (Nat.le_of_ble_eq_true rfl)⟩ dX5_step_47 ?_
      refine g_istore [(5, .int x11), (4, .int x7), (0, .ref a0), (1, .ref a1), (2, .int a2), (3, .int a3)] dX5_step_50 (Nat.le_of_ble_eq_true rfl) rfl ?_
      refine g_aload_n 3 dX5_step_52 rfl ?_
      refine g_iload 1 dX5_step_53 rfl ?_
      refine g_iload_n 4 dX5_step_55 rfl ?_
      obtain ⟨x13, e14, hF⟩ := q_bind hF
      refine g_callSr0 qm_X5_tenths wd_1056 wd_1057 (M_X5_tenths l b D z nx e14) (As := [.ref a1, .int x7, .int a2]) rfl rfl (Nat.le_of_ble_eq_true rfl) ⟨(Nat.le_of_ble_eq_true rfl), (Nat.le_of_ble_eq_true rfl)⟩ ⟨rfl, rfl⟩ ⟨(Nat.le_of_ble_eq_true rfl), (Nat.le_of_ble_eq_true rfl)⟩ dX5_step_56 ?_
      refine g_istore [(6, .int x13), (5, .int x11), (4, .int x7), (0, .ref a0), (1, .ref a1), (2, .int a2), (3, .int a3)] dX5_step_59 (Nat.le_of_ble_eq_true rfl) rfl ?_
      refine g_aload_n 4 dX5_step_61 rfl ?_
      refine g_iload 2 dX5_step_62 rfl ?_
      obtain ⟨u15, e16, hF⟩ := q_bind hF
      obtain ⟨x17, e18, hF⟩ := q_bind hF
      refine g_callVr0 (ci := 0) (q := (RX0, TX0, 15)) qm_X0_has wd_1055 wd_783 wd_784 rfl e16 (M_X0_has l b D z nx e18) (As := [.int x7]) rfl rfl (Nat.le_of_ble_eq_true rfl) ⟨(Nat.le_of_ble_eq_true rfl), (Nat.le_of_ble_eq_true rfl)⟩ ⟨rfl, rfl⟩ ⟨(Nat.le_of_ble_eq_true rfl), (Nat.le_of_ble_eq_true rfl)⟩ dX5_step_64 ?_
      refine g_if_eq 93 dX5_step_67 (by decide) (fun c19 => ?_) (fun c19 => ?_)
      · replace hF := q_t c19 hF
        refine g_sub [3, 4, 5, 6, 1, 0] rfl ?_
        exact J_X5_step_93 l b D z hF hback hx0
      · replace hF := q_f c19 hF
        refine g_aload_n 3 dX5_step_70 rfl ?_
        obtain ⟨x20, e21, hF⟩ := q_bind hF
        refine g_getfR fl_X5_17 e21 dX5_step_71 ?_
        refine g_iload 2 dX5_step_74 rfl ?_
        refine g_dup2 dX5_step_76 rfl rfl ?_
        obtain ⟨x22, e23, hF⟩ := q_bind hF
        refine g_lald e23 dX5_step_77 ?_
        refine g_aload_n 3 dX5_step_78 rfl ?_
        obtain ⟨x24, e25, hF⟩ := q_bind hF
        refine g_getfR fl_X5_11 e25 dX5_step_79 ?_
        refine g_iload_n 6 dX5_step_82 rfl ?_
        obtain ⟨x26, e27, hF⟩ := q_bind hF
        refine g_lald e27 dX5_step_83 ?_
        refine g_bipush dX5_step_84 lt_bipush_10 ?_
        refine g_iload 0 dX5_step_86 rfl ?_
        refine g_isub dX5_step_88 ?_
        refine g_i2l dX5_step_89 ?_
        refine g_lmul dX5_step_90 ?_
        refine g_ladd dX5_step_91 ?_
        obtain ⟨h28, e29, hF⟩ := q_bind hF
        refine g_last e29 dX5_step_92 ?_
        refine g_sub [3, 4, 5, 6, 1, 0] rfl ?_
        exact J_X5_step_93 l b D z hF hback hx0
set_option maxRecDepth 100000 in
set_option maxHeartbeats 4000000 in
theorem L_X5_step_23 (l : Launch) (b : Nat) (D : va_G) (z : Nat → Nat) {Φ : Option Value → qH → Nat → Prop} {nx : Nat} {a0 : Nat} {a1 : Nat} {a2 : Int32} : ∀ (n : Nat) (a3 : Int32) (h : qH) (e : qH), q_lp (s_X5_step_23 a0 a1 a2) n (a3, h) = some e → (∀  (bh : qH), e = bh → Go l b D z yX5_step cX5_step 7 none rm_X5_step Φ 128 [(0, .ref a0)] [] bh nx 0 0) → Go l b D z yX5_step cX5_step 7 none rm_X5_step Φ 23 [(0, .ref a0), (1, .ref a1), (2, .int a2), (3, .int a3)] [] h nx 0 0 := by
  intro n
  induction n with
  | zero => intro a3 h e he; cases (show none = some e from he)
  | succ n ih =>
    intro a3 h e he hx0
    obtain ⟨o, ho, h1, h2⟩ := q_lp_succ he
    exact B_X5_step_23 l b D z (show b_X5_step_23 a0 a1 a2 a3 h = some o from ho) (fun b3 bh hb => ih _ _ e (h1 _ hb) hx0) (fun p0 hr => hx0 p0 (h2 _ hr).symm)
set_option maxRecDepth 100000 in
set_option maxHeartbeats 4000000 in
theorem J_X5_step_128 (l : Launch) (b : Nat) (D : va_G) (z : Nat → Nat) {nx : Nat} {h : qH} {a0 : Nat} {r : qH} (hF : j_X5_step_128 h a0  = some r) : Go l b D z yX5_step cX5_step 7 none rm_X5_step (qE none r nx) 128 [(0, .ref a0)] [] h nx 0 0 := by
  unfold j_X5_step_128 at hF
  refine g_aload_n 0 dX5_step_128 rfl ?_
  obtain ⟨x1, e2, hF⟩ := q_bind hF
  refine g_getfR fl_X5_17 e2 dX5_step_129 ?_
  refine g_iconst dX5_step_132 lt_iconst_0 ?_
  refine g_aload_n 0 dX5_step_133 rfl ?_
  obtain ⟨x3, e4, hF⟩ := q_bind hF
  refine g_getfR fl_X5_11 e4 dX5_step_134 ?_
  refine g_iconst dX5_step_137 lt_iconst_0 ?_
  refine g_bipush dX5_step_138 lt_bipush_20 ?_
  obtain ⟨h5, e6, hF⟩ := q_bind hF
  refine g_copyL e6 wd_1078 wd_1028 wd_1027 wd_182 (Nat.le_of_ble_eq_true rfl) (Nat.le_of_ble_eq_true rfl) dX5_step_140 ?_
  cases hF
  exact g_vret dX5_step_143 rfl ⟨rfl, rfl, rfl⟩ (Nat.le_of_ble_eq_true rfl) (Nat.le_of_ble_eq_true rfl)
set_option maxRecDepth 100000 in
set_option maxHeartbeats 4000000 in
theorem M_X5_step (l : Launch) (b : Nat) (D : va_G) (z : Nat → Nat) (nx : Nat) {h : qH} {a0 : Nat} {a1 : Nat} {a2 : Int32} {r : qH} (hF : F_X5_step h a0 a1 a2 = some r) : Me l b D z yX5_step cX5_step 7 none rm_X5_step [.ref a0, .ref a1, .int a2] h nx (qE none r nx) := by
  refine Me.of (by decide +kernel) (Nat.le_of_ble_eq_true rfl) ?_
  show Go l b D z yX5_step cX5_step 7 none rm_X5_step (qE none r nx) 0 [(0, .ref a0), (1, .ref a1), (2, .int a2)] [] h nx 0 0
  unfold F_X5_step at hF
  refine g_iconst dX5_step_0 lt_iconst_0 ?_
  refine g_istore_n [(3, .int (0 : Int32)), (0, .ref a0), (1, .ref a1), (2, .int a2)] dX5_step_1 (Nat.le_of_ble_eq_true rfl) rfl ?_
  obtain ⟨e1, w2, hF⟩ := q_bind hF
  refine g_sub [1, 2, 3, 0] rfl ?_
  refine L_X5_step_2 l b D z q_N (0 : Int32) h e1 w2 ?_
  · intro h3 w4
    replace w4 := w4.symm
    subst w4
    refine g_iconst dX5_step_21 lt_iconst_0 ?_
    refine g_istore_n [(3, .int (0 : Int32)), (0, .ref a0), (1, .ref a1), (2, .int a2)] dX5_step_22 (Nat.le_of_ble_eq_true rfl) rfl ?_
    obtain ⟨e5, w6, hF⟩ := q_bind hF
    refine g_sub [1, 2, 3, 0] rfl ?_
    refine L_X5_step_23 l b D z q_N (0 : Int32) h3 e5 w6 ?_
    · intro h7 w8
      replace w8 := w8.symm
      subst w8
      exact J_X5_step_128 l b D z hF
def rm_X5_reduce : Room := { frames := 0, cells := 0, slots := 0, locals := 0 }
set_option maxRecDepth 100000 in
set_option maxHeartbeats 4000000 in
theorem B_X5_reduce_9 (l : Launch) (b : Nat) (D : va_G) (z : Nat → Nat) {Φ : Option Value → qH → Nat → Prop} {nx : Nat} {h : qH} {a0 : Nat} {a1 : Int64} {a3 : Int64} {a5 : Int64} {a7 : Int64} {a9 : Int32} {o : (Int64 × Int64 × Int32) ⊕ Int64} (hF : b_X5_reduce_9 h a0 a1 a3 a5 a7 a9 = some o) (hback : ∀ (b5 : Int64) (b7 : Int64) (b9 : Int32), o = .inl (b5, b7, b9) → Go l b D z yX5_reduce cX5_reduce 12 none rm_X5_reduce Φ 9 [(0, .ref a0), (1, .long a1), (3, .long a3), (5, .long b5), (7, .long b7), (9, .int b9)] [] h nx 0 0) (hx0 : ∀ (b5 : Int64), o = .inr b5 → Go l b D z yX5_reduce cX5_reduce 12 none rm_X5_reduce Φ 44 [(0, .ref a0), (1, .long a1), (3, .long a3), (5, .long b5)] [] h nx 0 0) : Go l b D z yX5_reduce cX5_reduce 12 none rm_X5_reduce Φ 9 [(0, .ref a0), (1, .long a1), (3, .long a3), (5, .long a5), (7, .long a7), (9, .int a9)] [] h nx 0 0 := by
  unfold b_X5_reduce_9 at hF
  refine g_iload 5 dX5_reduce_9 rfl ?_
  refine g_bipush dX5_reduce_11 lt_bipush_100 ?_
  refine g_icmp_ge 44 dX5_reduce_13 (by decide) (fun c1 => ?_) (fun c1 => ?_)
  · replace hF := q_t c1 hF
    cases hF
    refine g_sub [0, 1, 2, 3] rfl ?_
    exact hx0 _ rfl
  · replace hF := q_f c1 hF
    refine g_lload 4 dX5_reduce_16 rfl ?_
    refine g_lconst (v := 0) dX5_reduce_18 (by decide +kernel) ?_
    refine g_lcmp dX5_reduce_19 ?_
    refine g_if_eq 44 dX5_reduce_20 (by decide) (fun c2 => ?_) (fun c2 => ?_)
    · replace hF := q_t c2 hF
      cases hF
      refine g_sub [0, 1, 2, 3] rfl ?_
      exact hx0 _ rfl
    · replace hF := q_f c2 hF
      refine g_lload 3 dX5_reduce_23 rfl ?_
      refine g_lload 4 dX5_reduce_25 rfl ?_
      obtain ⟨u3, e4, hF⟩ := q_bind hF
      refine g_lrem dX5_reduce_27 (q_lnz_spec e4) ?_
      refine g_lstore [(10, .long (q_lrem a5 a7)), (0, .ref a0), (1, .long a1), (3, .long a3), (5, .long a5), (7, .long a7), (9, .int a9)] dX5_reduce_28 (Nat.le_of_ble_eq_true rfl) rfl ?_
      refine g_lload 5 dX5_reduce_30 rfl ?_
      refine g_lstore [(5, .long a7), (10, .long (q_lrem a5 a7)), (0, .ref a0), (1, .long a1), (3, .long a3), (7, .long a7), (9, .int a9)] dX5_reduce_32 (Nat.le_of_ble_eq_true rfl) rfl ?_
      refine g_lload 1 dX5_reduce_34 rfl ?_
      refine g_lstore [(7, .long (q_lrem a5 a7)), (5, .long a7), (10, .long (q_lrem a5 a7)), (0, .ref a0), (1, .long a1), (3, .long a3), (9, .int a9)] dX5_reduce_36 (Nat.le_of_ble_eq_true rfl) rfl ?_
      refine g_iinc [(9, .int (a9 + 1)), (7, .long (q_lrem a5 a7)), (5, .long a7), (10, .long (q_lrem a5 a7)), (0, .ref a0), (1, .long a1), (3, .long a3)] 6 dX5_reduce_38 rfl (congrArg (a9 + ·) lt_iconst_1) (Nat.le_of_ble_eq_true rfl) rfl ?_
      refine g_goto 9 dX5_reduce_41 (by decide) ?_
      cases hF
      refine g_sub [4, 5, 6, 2, 1, 0] rfl ?_
      exact hback _ _ _ rfl
set_option maxRecDepth 100000 in
set_option maxHeartbeats 4000000 in
theorem L_X5_reduce_9 (l : Launch) (b : Nat) (D : va_G) (z : Nat → Nat) {Φ : Option Value → qH → Nat → Prop} {nx : Nat} {h : qH} {a0 : Nat} {a1 : Int64} {a3 : Int64} : ∀ (n : Nat) (a5 : Int64) (a7 : Int64) (a9 : Int32) (e : Int64), q_lp (s_X5_reduce_9 h a0 a1 a3) n (a5, a7, a9) = some e → (∀ (b5 : Int64), e = b5 → Go l b D z yX5_reduce cX5_reduce 12 none rm_X5_reduce Φ 44 [(0, .ref a0), (1, .long a1), (3, .long a3), (5, .long b5)] [] h nx 0 0) → Go l b D z yX5_reduce cX5_reduce 12 none rm_X5_reduce Φ 9 [(0, .ref a0), (1, .long a1), (3, .long a3), (5, .long a5), (7, .long a7), (9, .int a9)] [] h nx 0 0 := by
  intro n
  induction n with
  | zero => intro a5 a7 a9 e he; cases (show none = some e from he)
  | succ n ih =>
    intro a5 a7 a9 e he hx0
    obtain ⟨o, ho, h1, h2⟩ := q_lp_succ he
    exact B_X5_reduce_9 l b D z (show b_X5_reduce_9 h a0 a1 a3 a5 a7 a9 = some o from ho) (fun b5 b7 b9 hb => ih _ _ _ e (h1 _ hb) hx0) (fun p0 hr => hx0 p0 (h2 _ hr).symm)
set_option maxRecDepth 100000 in
set_option maxHeartbeats 4000000 in
theorem J_X5_reduce_44 (l : Launch) (b : Nat) (D : va_G) (z : Nat → Nat) {nx : Nat} {h : qH} {a0 : Nat} {a1 : Int64} {a3 : Int64} {a5 : Int64} {r : qH} (hF : j_X5_reduce_44 h a0 a1 a3 a5  = some r) : Go l b D z yX5_reduce cX5_reduce 12 none rm_X5_reduce (qE none r nx) 44 [(0, .ref a0), (1, .long a1), (3, .long a3), (5, .long a5)] [] h nx 0 0 := by
  unfold j_X5_reduce_44 at hF
  refine g_lload 3 dX5_reduce_44 rfl ?_
  refine g_lconst (v := 0) dX5_reduce_46 (by decide +kernel) ?_
  refine g_lcmp dX5_reduce_47 ?_
  refine g_if_le 67 dX5_reduce_48 (by decide) (fun c1 => ?_) (fun c1 => ?_)
  · replace hF := q_t c1 hF
    cases hF
    exact g_vret dX5_reduce_67 rfl ⟨rfl, rfl, rfl⟩ (Nat.le_of_ble_eq_true rfl) (Nat.le_of_ble_eq_true rfl)
  · replace hF := q_f c1 hF
    refine g_aload_n 0 dX5_reduce_51 rfl ?_
    refine g_lload_n 1 dX5_reduce_52 rfl ?_
    refine g_lload 3 dX5_reduce_53 rfl ?_
    obtain ⟨u2, e3, hF⟩ := q_bind hF
    refine g_ldiv dX5_reduce_55 (q_lnz_spec e3) ?_
    obtain ⟨h4, e5, hF⟩ := q_bind hF
    refine g_putf fl_X5_80 e5 rfl rfl dX5_reduce_56 ?_
    refine g_aload_n 0 dX5_reduce_59 rfl ?_
    refine g_lload_n 2 dX5_reduce_60 rfl ?_
    refine g_lload 3 dX5_reduce_61 rfl ?_
    obtain ⟨u6, e7, hF⟩ := q_bind hF
    refine g_ldiv dX5_reduce_63 (q_lnz_spec e7) ?_
    obtain ⟨h8, e9, hF⟩ := q_bind hF
    refine g_putf fl_X5_20 e9 rfl rfl dX5_reduce_64 ?_
    cases hF
    exact g_vret dX5_reduce_67 rfl ⟨rfl, rfl, rfl⟩ (Nat.le_of_ble_eq_true rfl) (Nat.le_of_ble_eq_true rfl)
set_option maxRecDepth 100000 in
set_option maxHeartbeats 4000000 in
theorem M_X5_reduce (l : Launch) (b : Nat) (D : va_G) (z : Nat → Nat) (nx : Nat) {h : qH} {a0 : Nat} {a1 : Int64} {a3 : Int64} {r : qH} (hF : F_X5_reduce h a0 a1 a3 = some r) : Me l b D z yX5_reduce cX5_reduce 12 none rm_X5_reduce [.ref a0, .long a1, .long a3] h nx (qE none r nx) := by
  refine Me.of (by decide +kernel) (Nat.le_of_ble_eq_true rfl) ?_
  show Go l b D z yX5_reduce cX5_reduce 12 none rm_X5_reduce (qE none r nx) 0 [(0, .ref a0), (1, .long a1), (3, .long a3)] [] h nx 0 0
  unfold F_X5_reduce at hF
  refine g_lload_n 2 dX5_reduce_0 rfl ?_
  refine g_lstore [(5, .long a3), (0, .ref a0), (1, .long a1), (3, .long a3)] dX5_reduce_1 (Nat.le_of_ble_eq_true rfl) rfl ?_
  refine g_lload_n 2 dX5_reduce_3 rfl ?_
  refine g_lstore [(7, .long a1), (5, .long a3), (0, .ref a0), (1, .long a1), (3, .long a3)] dX5_reduce_4 (Nat.le_of_ble_eq_true rfl) rfl ?_
  refine g_iconst dX5_reduce_6 lt_iconst_0 ?_
  refine g_istore [(9, .int (0 : Int32)), (7, .long a1), (5, .long a3), (0, .ref a0), (1, .long a1), (3, .long a3)] dX5_reduce_7 (Nat.le_of_ble_eq_true rfl) rfl ?_
  obtain ⟨e1, w2, hF⟩ := q_bind hF
  refine g_sub [3, 4, 5, 2, 1, 0] rfl ?_
  refine L_X5_reduce_9 l b D z q_N a3 a1 (0 : Int32) e1 w2 ?_
  · intro o3 w4
    replace w4 := w4.symm
    subst w4
    exact J_X5_reduce_44 l b D z hF
def rm_X5_gather : Room := { frames := 4, cells := 0, slots := 0, locals := 89 }
set_option maxRecDepth 100000 in
set_option maxHeartbeats 4000000 in
theorem B_X5_gather_3 (l : Launch) (b : Nat) (D : va_G) (z : Nat → Nat) {Φ : Option Value → qH → Nat → Prop} {nx : Nat} {a0 : Nat} {a1 : Nat} {a2 : Int32} {a3 : Int32} {a4 : Int32} {a5 : Int32} {h : qH} {o : (Int32 × qH) ⊕ qH} (hF : b_X5_gather_3 a0 a1 a2 a3 a4 a5 h = some o) (hback : ∀ (b5 : Int32) (bh : qH), o = .inl (b5, bh) → Go l b D z yX5_gather cX5_gather 10 none rm_X5_gather Φ 3 [(0, .ref a0), (1, .ref a1), (2, .int a2), (3, .int a3), (4, .int a4), (5, .int b5)] [] bh nx 0 0) (hx0 : ∀  (bh : qH), o = .inr bh → Go l b D z yX5_gather cX5_gather 10 none rm_X5_gather Φ 24 [(0, .ref a0), (1, .ref a1), (2, .int a2), (3, .int a3), (4, .int a4)] [] bh nx 0 0) : Go l b D z yX5_gather cX5_gather 10 none rm_X5_gather Φ 3 [(0, .ref a0), (1, .ref a1), (2, .int a2), (3, .int a3), (4, .int a4), (5, .int a5)] [] h nx 0 0 := by
  unfold b_X5_gather_3 at hF
  refine g_iload 5 dX5_gather_3 rfl ?_
  refine g_bipush dX5_gather_5 lt_bipush_20 ?_
  refine g_icmp_ge 24 dX5_gather_7 (by decide) (fun c1 => ?_) (fun c1 => ?_)
  · replace hF := q_t c1 hF
    cases hF
    refine g_sub [0, 1, 2, 3, 4] rfl ?_
    exact hx0 _ rfl
  · replace hF := q_f c1 hF
    refine g_aload_n 0 dX5_gather_10 rfl ?_
    obtain ⟨x2, e3, hF⟩ := q_bind hF
    refine g_getfR fl_X5_11 e3 dX5_gather_11 ?_
    refine g_iload 5 dX5_gather_14 rfl ?_
    refine g_lconst (v := 0) dX5_gather_16 (by decide +kernel) ?_
    obtain ⟨h4, e5, hF⟩ := q_bind hF
    refine g_last e5 dX5_gather_17 ?_
    refine g_iinc [(5, .int (a5 + 1)), (0, .ref a0), (1, .ref a1), (2, .int a2), (3, .int a3), (4, .int a4)] 5 dX5_gather_18 rfl (congrArg (a5 + ·) lt_iconst_1) (Nat.le_of_ble_eq_true rfl) rfl ?_
    refine g_goto 3 dX5_gather_21 (by decide) ?_
    cases hF
    refine g_sub [1, 2, 3, 4, 5, 0] rfl ?_
    exact hback _ _ rfl
set_option maxRecDepth 100000 in
set_option maxHeartbeats 4000000 in
theorem L_X5_gather_3 (l : Launch) (b : Nat) (D : va_G) (z : Nat → Nat) {Φ : Option Value → qH → Nat → Prop} {nx : Nat} {a0 : Nat} {a1 : Nat} {a2 : Int32} {a3 : Int32} {a4 : Int32} : ∀ (n : Nat) (a5 : Int32) (h : qH) (e : qH), q_lp (s_X5_gather_3 a0 a1 a2 a3 a4) n (a5, h) = some e → (∀  (bh : qH), e = bh → Go l b D z yX5_gather cX5_gather 10 none rm_X5_gather Φ 24 [(0, .ref a0), (1, .ref a1), (2, .int a2), (3, .int a3), (4, .int a4)] [] bh nx 0 0) → Go l b D z yX5_gather cX5_gather 10 none rm_X5_gather Φ 3 [(0, .ref a0), (1, .ref a1), (2, .int a2), (3, .int a3), (4, .int a4), (5, .int a5)] [] h nx 0 0 := by
  intro n
  induction n with
  | zero => intro a5 h e he; cases (show none = some e from he)
  | succ n ih =>
    intro a5 h e he hx0
    obtain ⟨o, ho, h1, h2⟩ := q_lp_succ he
    exact B_X5_gather_3 l b D z (show b_X5_gather_3 a0 a1 a2 a3 a4 a5 h = some o from ho) (fun b5 bh hb => ih _ _ e (h1 _ hb) hx0) (fun p0 hr => hx0 p0 (h2 _ hr).symm)
set_option maxRecDepth 100000 in
set_option maxHeartbeats 4000000 in
theorem J_X5_gather_89 (l : Launch) (b : Nat) (D : va_G) (z : Nat → Nat) {Φ : Option Value → qH → Nat → Prop} {nx : Nat} {h : qH} {a0 : Nat} {a1 : Nat} {a2 : Int32} {a3 : Int32} {a4 : Int32} {a7 : Int64} {a9 : Int32} {t0 : Int64} {t1 : Int64} {o : (Int64 × Int64 × Int32 × qH) ⊕ ((Int64 × Int64 × qH))} (hF : j_X5_gather_89 h a0 a1 a2 a3 a4 a7 a9 t0 t1 = some o) (hback : ∀ (b5 : Int64) (b7 : Int64) (b9 : Int32) (bh : qH), o = .inl (b5, b7, b9, bh) → Go l b D z yX5_gather cX5_gather 10 none rm_X5_gather Φ 58 [(0, .ref a0), (1, .ref a1), (2, .int a2), (3, .int a3), (4, .int a4), (5, .long b5), (7, .long b7), (9, .int b9)] [] bh nx 0 0) (hx0 : ∀ (b5 : Int64) (b7 : Int64) (bh : qH), o = .inr (b5, b7, bh) → Go l b D z yX5_gather cX5_gather 10 none rm_X5_gather Φ 113 [(0, .ref a0), (5, .long b5), (7, .long b7)] [] bh nx 0 0) : Go l b D z yX5_gather cX5_gather 10 none rm_X5_gather Φ 89 [(0, .ref a0), (1, .ref a1), (2, .int a2), (3, .int a3), (4, .int a4), (7, .long a7), (9, .int a9)] [.long t0, .long t1] h nx 0 0 := by
  unfold j_X5_gather_89 at hF
  refine g_ladd dX5_gather_89 ?_
  refine g_lstore [(5, .long (t1 + t0)), (0, .ref a0), (1, .ref a1), (2, .int a2), (3, .int a3), (4, .int a4), (7, .long a7), (9, .int a9)] dX5_gather_90 (Nat.le_of_ble_eq_true rfl) rfl ?_
  refine g_lload 6 dX5_gather_92 rfl ?_
  refine g_ldc2 dX5_gather_94 wd_1061 ?_
  refine g_lmul dX5_gather_97 ?_
  refine g_lstore [(7, .long (a7 * (10 : Int64))), (5, .long (t1 + t0)), (0, .ref a0), (1, .ref a1), (2, .int a2), (3, .int a3), (4, .int a4), (9, .int a9)] dX5_gather_98 (Nat.le_of_ble_eq_true rfl) rfl ?_
  refine g_aload_n 2 dX5_gather_100 rfl ?_
  refine g_aload_n 3 dX5_gather_101 rfl ?_
  refine g_iload 6 dX5_gather_102 rfl ?_
  obtain ⟨u1, e2, hF⟩ := q_bind hF
  obtain ⟨x3, e4, hF⟩ := q_bind hF
  refine g_callVv0 (ci := 5) (q := (RX5, TX5, 4)) qm_X5_step wd_1072 wd_1074 wd_41 rfl e2 (M_X5_step l b D z nx e4) (As := [.ref a1, .int a4]) rfl rfl (Nat.le_of_ble_eq_true rfl) ⟨(Nat.le_of_ble_eq_true rfl), (Nat.le_of_ble_eq_true rfl)⟩ ⟨rfl, rfl⟩ ⟨(Nat.le_of_ble_eq_true rfl), (Nat.le_of_ble_eq_true rfl)⟩ dX5_gather_104 ?_
  refine g_iinc [(9, .int (a9 + 1)), (7, .long (a7 * (10 : Int64))), (5, .long (t1 + t0)), (0, .ref a0), (1, .ref a1), (2, .int a2), (3, .int a3), (4, .int a4)] 7 dX5_gather_107 rfl (congrArg (a9 + ·) lt_iconst_1) (Nat.le_of_ble_eq_true rfl) rfl ?_
  refine g_goto 58 dX5_gather_110 (by decide) ?_
  cases hF
  refine g_sub [3, 4, 5, 6, 7, 2, 1, 0] rfl ?_
  exact hback _ _ _ _ rfl
set_option maxRecDepth 100000 in
set_option maxHeartbeats 4000000 in
theorem B_X5_gather_58 (l : Launch) (b : Nat) (D : va_G) (z : Nat → Nat) {Φ : Option Value → qH → Nat → Prop} {nx : Nat} {a0 : Nat} {a1 : Nat} {a2 : Int32} {a3 : Int32} {a4 : Int32} {a5 : Int64} {a7 : Int64} {a9 : Int32} {h : qH} {o : (Int64 × Int64 × Int32 × qH) ⊕ ((Int64 × Int64 × qH))} (hF : b_X5_gather_58 a0 a1 a2 a3 a4 a5 a7 a9 h = some o) (hback : ∀ (b5 : Int64) (b7 : Int64) (b9 : Int32) (bh : qH), o = .inl (b5, b7, b9, bh) → Go l b D z yX5_gather cX5_gather 10 none rm_X5_gather Φ 58 [(0, .ref a0), (1, .ref a1), (2, .int a2), (3, .int a3), (4, .int a4), (5, .long b5), (7, .long b7), (9, .int b9)] [] bh nx 0 0) (hx0 : ∀ (b5 : Int64) (b7 : Int64) (bh : qH), o = .inr (b5, b7, bh) → Go l b D z yX5_gather cX5_gather 10 none rm_X5_gather Φ 113 [(0, .ref a0), (5, .long b5), (7, .long b7)] [] bh nx 0 0) : Go l b D z yX5_gather cX5_gather 10 none rm_X5_gather Φ 58 [(0, .ref a0), (1, .ref a1), (2, .int a2), (3, .int a3), (4, .int a4), (5, .long a5), (7, .long a7), (9, .int a9)] [] h nx 0 0 := by
  unfold b_X5_gather_58 at hF
  refine g_iload 7 dX5_gather_58 rfl ?_
  refine g_iload_n 3 dX5_gather_60 rfl ?_
  refine g_icmp_ge 113 dX5_gather_61 (by decide) (fun c1 => ?_) (fun c1 => ?_)
  · replace hF := q_t c1 hF
    cases hF
    refine g_sub [0, 5, 6] rfl ?_
    exact hx0 _ _ _ rfl
  · replace hF := q_f c1 hF
    refine g_lload 5 dX5_gather_64 rfl ?_
    refine g_ldc2 dX5_gather_66 wd_1061 ?_
    refine g_lmul dX5_gather_69 ?_
    refine g_iload_n 2 dX5_gather_70 rfl ?_
    refine g_iconst dX5_gather_71 lt_iconst_m1 ?_
    refine g_icmp_ne 83 dX5_gather_72 (by decide) (fun c2 => ?_) (fun c2 => ?_)
    · replace hF := q_f c2 hF
      refine g_aload_n 0 dX5_gather_83 rfl ?_
      refine g_aload_n 1 dX5_gather_84 rfl ?_
      refine g_iload_n 2 dX5_gather_85 rfl ?_
      obtain ⟨u3, e4, hF⟩ := q_bind hF
      obtain ⟨x5, e6, hF⟩ := q_bind hF
      refine g_callVr0 (ci := 5) (q := (RX5, TX5, 4)) qm_X5_takeScene wd_1067 wd_1069 wd_40 rfl e4 (M_X5_takeScene l b D z nx e6) (As := [.ref a1, .int a2]) rfl rfl (Nat.le_of_ble_eq_true rfl) ⟨(Nat.le_of_ble_eq_true rfl), (Nat.le_of_ble_eq_true rfl)⟩ ⟨rfl, rfl⟩ ⟨(Nat.le_of_ble_eq_true rfl), (Nat.le_of_ble_eq_true rfl)⟩ dX5_gather_86 ?_
      refine g_sub [0, 1, 2, 3, 4, 6, 7] rfl ?_
      exact J_X5_gather_89 l b D z hF hback hx0
    · replace hF := q_t c2 hF
      refine g_aload_n 0 dX5_gather_75 rfl ?_
      refine g_aload_n 1 dX5_gather_76 rfl ?_
      obtain ⟨u7, e8, hF⟩ := q_bind hF
      obtain ⟨x9, e10, hF⟩ := q_bind hF
      refine g_callVr0 (ci := 5) (q := (RX5, TX5, 4)) qm_X5_takeHarm wd_1062 wd_1064 wd_39 rfl e8 (M_X5_takeHarm l b D z nx e10) (As := [.ref a1]) rfl rfl (Nat.le_of_ble_eq_true rfl) ⟨(Nat.le_of_ble_eq_true rfl), (Nat.le_of_ble_eq_true rfl)⟩ ⟨rfl, rfl⟩ ⟨(Nat.le_of_ble_eq_true rfl), (Nat.le_of_ble_eq_true rfl)⟩ dX5_gather_77 ?_
      refine g_goto 89 dX5_gather_80 (by decide) ?_
      refine g_sub [0, 1, 2, 3, 4, 6, 7] rfl ?_
      exact J_X5_gather_89 l b D z hF hback hx0
set_option maxRecDepth 100000 in
set_option maxHeartbeats 4000000 in
theorem L_X5_gather_58 (l : Launch) (b : Nat) (D : va_G) (z : Nat → Nat) {Φ : Option Value → qH → Nat → Prop} {nx : Nat} {a0 : Nat} {a1 : Nat} {a2 : Int32} {a3 : Int32} {a4 : Int32} : ∀ (n : Nat) (a5 : Int64) (a7 : Int64) (a9 : Int32) (h : qH) (e : (Int64 × Int64 × qH)), q_lp (s_X5_gather_58 a0 a1 a2 a3 a4) n (a5, a7, a9, h) = some e → (∀ (b5 : Int64) (b7 : Int64) (bh : qH), e = (b5, b7, bh) → Go l b D z yX5_gather cX5_gather 10 none rm_X5_gather Φ 113 [(0, .ref a0), (5, .long b5), (7, .long b7)] [] bh nx 0 0) → Go l b D z yX5_gather cX5_gather 10 none rm_X5_gather Φ 58 [(0, .ref a0), (1, .ref a1), (2, .int a2), (3, .int a3), (4, .int a4), (5, .long a5), (7, .long a7), (9, .int a9)] [] h nx 0 0 := by
  intro n
  induction n with
  | zero => intro a5 a7 a9 h e he; cases (show none = some e from he)
  | succ n ih =>
    intro a5 a7 a9 h e he hx0
    obtain ⟨o, ho, h1, h2⟩ := q_lp_succ he
    exact B_X5_gather_58 l b D z (show b_X5_gather_58 a0 a1 a2 a3 a4 a5 a7 a9 h = some o from ho) (fun b5 b7 b9 bh hb => ih _ _ _ _ e (h1 _ hb) hx0) (fun p0 p1 p2 hr => hx0 p0 p1 p2 (h2 _ hr).symm)
set_option maxRecDepth 100000 in
set_option maxHeartbeats 4000000 in
theorem J_X5_gather_49 (l : Launch) (b : Nat) (D : va_G) (z : Nat → Nat) {nx : Nat} {h : qH} {a0 : Nat} {a1 : Nat} {a2 : Int32} {a3 : Int32} {a4 : Int32} {r : qH} (hF : j_X5_gather_49 h a0 a1 a2 a3 a4  = some r) : Go l b D z yX5_gather cX5_gather 10 none rm_X5_gather (qE none r nx) 49 [(0, .ref a0), (1, .ref a1), (2, .int a2), (3, .int a3), (4, .int a4)] [] h nx 0 0 := by
  unfold j_X5_gather_49 at hF
  refine g_lconst (v := 0) dX5_gather_49 (by decide +kernel) ?_
  refine g_lstore [(5, .long (0 : Int64)), (0, .ref a0), (1, .ref a1), (2, .int a2), (3, .int a3), (4, .int a4)] dX5_gather_50 (Nat.le_of_ble_eq_true rfl) rfl ?_
  refine g_lconst (v := 1) dX5_gather_52 (by decide +kernel) ?_
  refine g_lstore [(7, .long (1 : Int64)), (5, .long (0 : Int64)), (0, .ref a0), (1, .ref a1), (2, .int a2), (3, .int a3), (4, .int a4)] dX5_gather_53 (Nat.le_of_ble_eq_true rfl) rfl ?_
  refine g_iconst dX5_gather_55 lt_iconst_0 ?_
  refine g_istore [(9, .int (0 : Int32)), (7, .long (1 : Int64)), (5, .long (0 : Int64)), (0, .ref a0), (1, .ref a1), (2, .int a2), (3, .int a3), (4, .int a4)] dX5_gather_56 (Nat.le_of_ble_eq_true rfl) rfl ?_
  obtain ⟨e1, w2, hF⟩ := q_bind hF
  refine g_sub [3, 4, 5, 6, 7, 2, 1, 0] rfl ?_
  refine L_X5_gather_58 l b D z q_N (0 : Int64) (1 : Int64) (0 : Int32) h e1 w2 ?_
  · intro o3 o4 h5 w6
    replace w6 := w6.symm
    subst w6
    dsimp only at hF
    refine g_aload_n 0 dX5_gather_113 rfl ?_
    refine g_lload 1 dX5_gather_114 rfl ?_
    refine g_lload 2 dX5_gather_116 rfl ?_
    obtain ⟨u7, e8, hF⟩ := q_bind hF
    obtain ⟨x9, e10, hF⟩ := q_bind hF
    refine g_callVv0 (ci := 5) (q := (RX5, TX5, 4)) qm_X5_reduce wd_1079 wd_1081 wd_42 rfl e8 (M_X5_reduce l b D z nx e10) (As := [.long o3, .long o4]) rfl rfl (Nat.le_of_ble_eq_true rfl) ⟨(Nat.le_of_ble_eq_true rfl), (Nat.le_of_ble_eq_true rfl)⟩ ⟨rfl, rfl⟩ ⟨(Nat.le_of_ble_eq_true rfl), (Nat.le_of_ble_eq_true rfl)⟩ dX5_gather_118 ?_
    cases hF
    exact g_vret dX5_gather_121 rfl ⟨rfl, rfl, rfl⟩ (Nat.le_of_ble_eq_true rfl) (Nat.le_of_ble_eq_true rfl)
set_option maxRecDepth 100000 in
set_option maxHeartbeats 4000000 in
theorem M_X5_gather (l : Launch) (b : Nat) (D : va_G) (z : Nat → Nat) (nx : Nat) {h : qH} {a0 : Nat} {a1 : Nat} {a2 : Int32} {a3 : Int32} {a4 : Int32} {r : qH} (hF : F_X5_gather h a0 a1 a2 a3 a4 = some r) : Me l b D z yX5_gather cX5_gather 10 none rm_X5_gather [.ref a0, .ref a1, .int a2, .int a3, .int a4] h nx (qE none r nx) := by
  refine Me.of (by decide +kernel) (Nat.le_of_ble_eq_true rfl) ?_
  show Go l b D z yX5_gather cX5_gather 10 none rm_X5_gather (qE none r nx) 0 [(0, .ref a0), (1, .ref a1), (2, .int a2), (3, .int a3), (4, .int a4)] [] h nx 0 0
  unfold F_X5_gather at hF
  refine g_iconst dX5_gather_0 lt_iconst_0 ?_
  refine g_istore [(5, .int (0 : Int32)), (0, .ref a0), (1, .ref a1), (2, .int a2), (3, .int a3), (4, .int a4)] dX5_gather_1 (Nat.le_of_ble_eq_true rfl) rfl ?_
  obtain ⟨e1, w2, hF⟩ := q_bind hF
  refine g_sub [1, 2, 3, 4, 5, 0] rfl ?_
  refine L_X5_gather_3 l b D z q_N (0 : Int32) h e1 w2 ?_
  · intro h3 w4
    replace w4 := w4.symm
    subst w4
    refine g_aload_n 1 dX5_gather_24 rfl ?_
    refine g_iconst dX5_gather_25 lt_iconst_0 ?_
    obtain ⟨u5, e6, hF⟩ := q_bind hF
    obtain ⟨x7, e8, hF⟩ := q_bind hF
    refine g_callVr0 (ci := 0) (q := (RX0, TX0, 15)) qm_X0_has wd_1055 wd_783 wd_784 rfl e6 (M_X0_has l b D z nx e8) (As := [.int (0 : Int32)]) rfl rfl (Nat.le_of_ble_eq_true rfl) ⟨(Nat.le_of_ble_eq_true rfl), (Nat.le_of_ble_eq_true rfl)⟩ ⟨rfl, rfl⟩ ⟨(Nat.le_of_ble_eq_true rfl), (Nat.le_of_ble_eq_true rfl)⟩ dX5_gather_26 ?_
    refine g_if_eq 49 dX5_gather_29 (by decide) (fun c9 => ?_) (fun c9 => ?_)
    · replace hF := q_t c9 hF
      exact J_X5_gather_49 l b D z hF
    · replace hF := q_f c9 hF
      refine g_aload_n 0 dX5_gather_32 rfl ?_
      obtain ⟨x10, e11, hF⟩ := q_bind hF
      refine g_getfR fl_X5_11 e11 dX5_gather_33 ?_
      refine g_iconst dX5_gather_36 lt_iconst_0 ?_
      refine g_bipush dX5_gather_37 lt_bipush_10 ?_
      refine g_aload_n 1 dX5_gather_39 rfl ?_
      refine g_iconst dX5_gather_40 lt_iconst_0 ?_
      refine g_iload 4 dX5_gather_41 rfl ?_
      obtain ⟨x12, e13, hF⟩ := q_bind hF
      refine g_callSr0 qm_X5_tenths wd_1056 wd_1057 (M_X5_tenths l b D z nx e13) (As := [.ref a1, .int (0 : Int32), .int a4]) rfl rfl (Nat.le_of_ble_eq_true rfl) ⟨(Nat.le_of_ble_eq_true rfl), (Nat.le_of_ble_eq_true rfl)⟩ ⟨rfl, rfl⟩ ⟨(Nat.le_of_ble_eq_true rfl), (Nat.le_of_ble_eq_true rfl)⟩ dX5_gather_43 ?_
      refine g_isub dX5_gather_46 ?_
      refine g_i2l dX5_gather_47 ?_
      obtain ⟨h14, e15, hF⟩ := q_bind hF
      refine g_last e15 dX5_gather_48 ?_
      exact J_X5_gather_49 l b D z hF
def rm_X5_driesByNext : Room := { frames := 2, cells := 0, slots := 0, locals := 43 }
set_option maxRecDepth 100000 in
set_option maxHeartbeats 4000000 in
theorem B_X5_driesByNext_20 (l : Launch) (b : Nat) (D : va_G) (z : Nat → Nat) {Φ : Option Value → qH → Nat → Prop} {nx : Nat} {h : qH} {a0 : Nat} {a1 : Nat} {a2 : Int32} {a3 : Int64} {a5 : Int32} {a6 : Int32} {o : (Int64 × Int32 × Int32) ⊕ Int64} (hF : b_X5_driesByNext_20 h a0 a1 a2 a3 a5 a6 = some o) (hback : ∀ (b3 : Int64) (b5 : Int32) (b6 : Int32), o = .inl (b3, b5, b6) → Go l b D z yX5_driesByNext cX5_driesByNext 7 none rm_X5_driesByNext Φ 20 [(0, .ref a0), (1, .ref a1), (2, .int a2), (3, .long b3), (5, .int b5), (6, .int b6)] [] h nx 0 0) (hx0 : ∀ (b3 : Int64), o = .inr b3 → Go l b D z yX5_driesByNext cX5_driesByNext 7 none rm_X5_driesByNext Φ 60 [(0, .ref a0), (3, .long b3)] [] h nx 0 0) : Go l b D z yX5_driesByNext cX5_driesByNext 7 none rm_X5_driesByNext Φ 20 [(0, .ref a0), (1, .ref a1), (2, .int a2), (3, .long a3), (5, .int a5), (6, .int a6)] [] h nx 0 0 := by
  unfold b_X5_driesByNext_20 at hF
  refine g_iload 5 dX5_driesByNext_20 rfl ?_
  refine g_iload_n 2 dX5_driesByNext_22 rfl ?_
  refine g_icmp_ge 60 dX5_driesByNext_23 (by decide) (fun c1 => ?_) (fun c1 => ?_)
  · replace hF := q_t c1 hF
    cases hF
    refine g_sub [0, 3] rfl ?_
    exact hx0 _ rfl
  · replace hF := q_f c1 hF
    refine g_iload 4 dX5_driesByNext_26 rfl ?_
    refine g_iconst dX5_driesByNext_28 lt_iconst_m1 ?_
    refine g_icmp_eq 60 dX5_driesByNext_29 (by decide) (fun c2 => ?_) (fun c2 => ?_)
    · replace hF := q_t c2 hF
      cases hF
      refine g_sub [0, 3] rfl ?_
      exact hx0 _ rfl
    · replace hF := q_f c2 hF
      refine g_lload_n 3 dX5_driesByNext_32 rfl ?_
      refine g_aload_n 1 dX5_driesByNext_33 rfl ?_
      refine g_aload_n 1 dX5_driesByNext_34 rfl ?_
      refine g_iload 4 dX5_driesByNext_35 rfl ?_
      obtain ⟨u3, e4, hF⟩ := q_bind hF
      obtain ⟨x5, e6, hF⟩ := q_bind hF
      refine g_callVr0 (ci := 0) (q := (RX0, TX0, 15)) qm_X0_whoSays wd_1059 wd_931 wd_932 rfl e4 (M_X0_whoSays l b D z nx e6) (As := [.int a5]) rfl rfl (Nat.le_of_ble_eq_true rfl) ⟨(Nat.le_of_ble_eq_true rfl), (Nat.le_of_ble_eq_true rfl)⟩ ⟨rfl, rfl⟩ ⟨(Nat.le_of_ble_eq_true rfl), (Nat.le_of_ble_eq_true rfl)⟩ dX5_driesByNext_37 ?_
      obtain ⟨u7, e8, hF⟩ := q_bind hF
      obtain ⟨x9, e10, hF⟩ := q_bind hF
      refine g_callVr0 (ci := 0) (q := (RX0, TX0, 15)) qm_X0_driesOf wd_1060 wd_872 wd_873 rfl e8 (M_X0_driesOf l b D z nx e10) (As := [.int x5]) rfl rfl (Nat.le_of_ble_eq_true rfl) ⟨(Nat.le_of_ble_eq_true rfl), (Nat.le_of_ble_eq_true rfl)⟩ ⟨rfl, rfl⟩ ⟨(Nat.le_of_ble_eq_true rfl), (Nat.le_of_ble_eq_true rfl)⟩ dX5_driesByNext_40 ?_
      refine g_i2l dX5_driesByNext_43 ?_
      refine g_ladd dX5_driesByNext_44 ?_
      refine g_lstore_n [(3, .long (a3 + x9.toInt64)), (0, .ref a0), (1, .ref a1), (2, .int a2), (5, .int a5), (6, .int a6)] dX5_driesByNext_45 (Nat.le_of_ble_eq_true rfl) rfl ?_
      refine g_aload_n 2 dX5_driesByNext_46 rfl ?_
      refine g_iload 4 dX5_driesByNext_47 rfl ?_
      obtain ⟨u11, e12, hF⟩ := q_bind hF
      obtain ⟨x13, e14, hF⟩ := q_bind hF
      refine g_callVr0 (ci := 0) (q := (RX0, TX0, 15)) qm_X0_nextOf wd_1076 wd_868 wd_869 rfl e12 (M_X0_nextOf l b D z nx e14) (As := [.int a5]) rfl rfl (Nat.le_of_ble_eq_true rfl) ⟨(Nat.le_of_ble_eq_true rfl), (Nat.le_of_ble_eq_true rfl)⟩ ⟨rfl, rfl⟩ ⟨(Nat.le_of_ble_eq_true rfl), (Nat.le_of_ble_eq_true rfl)⟩ dX5_driesByNext_49 ?_
      refine g_istore [(5, .int x13), (3, .long (a3 + x9.toInt64)), (0, .ref a0), (1, .ref a1), (2, .int a2), (6, .int a6)] dX5_driesByNext_52 (Nat.le_of_ble_eq_true rfl) rfl ?_
      refine g_iinc [(6, .int (a6 + 1)), (5, .int x13), (3, .long (a3 + x9.toInt64)), (0, .ref a0), (1, .ref a1), (2, .int a2)] 5 dX5_driesByNext_54 rfl (congrArg (a6 + ·) lt_iconst_1) (Nat.le_of_ble_eq_true rfl) rfl ?_
      refine g_goto 20 dX5_driesByNext_57 (by decide) ?_
      cases hF
      refine g_sub [3, 4, 5, 2, 1, 0] rfl ?_
      exact hback _ _ _ rfl
set_option maxRecDepth 100000 in
set_option maxHeartbeats 4000000 in
theorem L_X5_driesByNext_20 (l : Launch) (b : Nat) (D : va_G) (z : Nat → Nat) {Φ : Option Value → qH → Nat → Prop} {nx : Nat} {h : qH} {a0 : Nat} {a1 : Nat} {a2 : Int32} : ∀ (n : Nat) (a3 : Int64) (a5 : Int32) (a6 : Int32) (e : Int64), q_lp (s_X5_driesByNext_20 h a0 a1 a2) n (a3, a5, a6) = some e → (∀ (b3 : Int64), e = b3 → Go l b D z yX5_driesByNext cX5_driesByNext 7 none rm_X5_driesByNext Φ 60 [(0, .ref a0), (3, .long b3)] [] h nx 0 0) → Go l b D z yX5_driesByNext cX5_driesByNext 7 none rm_X5_driesByNext Φ 20 [(0, .ref a0), (1, .ref a1), (2, .int a2), (3, .long a3), (5, .int a5), (6, .int a6)] [] h nx 0 0 := by
  intro n
  induction n with
  | zero => intro a3 a5 a6 e he; cases (show none = some e from he)
  | succ n ih =>
    intro a3 a5 a6 e he hx0
    obtain ⟨o, ho, h1, h2⟩ := q_lp_succ he
    exact B_X5_driesByNext_20 l b D z (show b_X5_driesByNext_20 h a0 a1 a2 a3 a5 a6 = some o from ho) (fun b3 b5 b6 hb => ih _ _ _ e (h1 _ hb) hx0) (fun p0 hr => hx0 p0 (h2 _ hr).symm)
set_option maxRecDepth 100000 in
set_option maxHeartbeats 4000000 in
theorem J_X5_driesByNext_15 (l : Launch) (b : Nat) (D : va_G) (z : Nat → Nat) {nx : Nat} {h : qH} {a0 : Nat} {a1 : Nat} {a2 : Int32} {a3 : Int64} {t0 : Int32} {r : qH} (hF : j_X5_driesByNext_15 h a0 a1 a2 a3 t0 = some r) : Go l b D z yX5_driesByNext cX5_driesByNext 7 none rm_X5_driesByNext (qE none r nx) 15 [(0, .ref a0), (1, .ref a1), (2, .int a2), (3, .long a3)] [.int t0] h nx 0 0 := by
  unfold j_X5_driesByNext_15 at hF
  refine g_istore [(5, .int t0), (0, .ref a0), (1, .ref a1), (2, .int a2), (3, .long a3)] dX5_driesByNext_15 (Nat.le_of_ble_eq_true rfl) rfl ?_
  refine g_iconst dX5_driesByNext_17 lt_iconst_0 ?_
  refine g_istore [(6, .int (0 : Int32)), (5, .int t0), (0, .ref a0), (1, .ref a1), (2, .int a2), (3, .long a3)] dX5_driesByNext_18 (Nat.le_of_ble_eq_true rfl) rfl ?_
  obtain ⟨e1, w2, hF⟩ := q_bind hF
  refine g_sub [2, 3, 4, 5, 1, 0] rfl ?_
  refine L_X5_driesByNext_20 l b D z q_N a3 t0 (0 : Int32) e1 w2 ?_
  · intro o3 w4
    replace w4 := w4.symm
    subst w4
    refine g_aload_n 0 dX5_driesByNext_60 rfl ?_
    refine g_lload_n 1 dX5_driesByNext_61 rfl ?_
    refine g_ldc2 dX5_driesByNext_62 wd_1061 ?_
    obtain ⟨u5, e6, hF⟩ := q_bind hF
    obtain ⟨x7, e8, hF⟩ := q_bind hF
    refine g_callVv0 (ci := 5) (q := (RX5, TX5, 4)) qm_X5_reduce wd_1079 wd_1081 wd_42 rfl e6 (M_X5_reduce l b D z nx e8) (As := [.long o3, .long (10 : Int64)]) rfl rfl (Nat.le_of_ble_eq_true rfl) ⟨(Nat.le_of_ble_eq_true rfl), (Nat.le_of_ble_eq_true rfl)⟩ ⟨rfl, rfl⟩ ⟨(Nat.le_of_ble_eq_true rfl), (Nat.le_of_ble_eq_true rfl)⟩ dX5_driesByNext_65 ?_
    cases hF
    exact g_vret dX5_driesByNext_68 rfl ⟨rfl, rfl, rfl⟩ (Nat.le_of_ble_eq_true rfl) (Nat.le_of_ble_eq_true rfl)
set_option maxRecDepth 100000 in
set_option maxHeartbeats 4000000 in
theorem M_X5_driesByNext (l : Launch) (b : Nat) (D : va_G) (z : Nat → Nat) (nx : Nat) {h : qH} {a0 : Nat} {a1 : Nat} {a2 : Int32} {r : qH} (hF : F_X5_driesByNext h a0 a1 a2 = some r) : Me l b D z yX5_driesByNext cX5_driesByNext 7 none rm_X5_driesByNext [.ref a0, .ref a1, .int a2] h nx (qE none r nx) := by
  refine Me.of (by decide +kernel) (Nat.le_of_ble_eq_true rfl) ?_
  show Go l b D z yX5_driesByNext cX5_driesByNext 7 none rm_X5_driesByNext (qE none r nx) 0 [(0, .ref a0), (1, .ref a1), (2, .int a2)] [] h nx 0 0
  unfold F_X5_driesByNext at hF
  refine g_lconst (v := 0) dX5_driesByNext_0 (by decide +kernel) ?_
  refine g_lstore_n [(3, .long (0 : Int64)), (0, .ref a0), (1, .ref a1), (2, .int a2)] dX5_driesByNext_1 (Nat.le_of_ble_eq_true rfl) rfl ?_
  refine g_aload_n 2 dX5_driesByNext_2 rfl ?_
  refine g_iconst dX5_driesByNext_3 lt_iconst_0 ?_
  obtain ⟨u1, e2, hF⟩ := q_bind hF
  obtain ⟨x3, e4, hF⟩ := q_bind hF
  refine g_callVr0 (ci := 0) (q := (RX0, TX0, 15)) qm_X0_has wd_1055 wd_783 wd_784 rfl e2 (M_X0_has l b D z nx e4) (As := [.int (0 : Int32)]) rfl rfl (Nat.le_of_ble_eq_true rfl) ⟨(Nat.le_of_ble_eq_true rfl), (Nat.le_of_ble_eq_true rfl)⟩ ⟨rfl, rfl⟩ ⟨(Nat.le_of_ble_eq_true rfl), (Nat.le_of_ble_eq_true rfl)⟩ dX5_driesByNext_4 ?_
  refine g_if_eq 14 dX5_driesByNext_7 (by decide) (fun c5 => ?_) (fun c5 => ?_)
  · replace hF := q_t c5 hF
    refine g_iconst dX5_driesByNext_14 lt_iconst_m1 ?_
    refine g_sub [1, 2, 3, 0] rfl ?_
    exact J_X5_driesByNext_15 l b D z hF
  · replace hF := q_f c5 hF
    refine g_iconst dX5_driesByNext_10 lt_iconst_0 ?_
    refine g_goto 15 dX5_driesByNext_11 (by decide) ?_
    refine g_sub [1, 2, 3, 0] rfl ?_
    exact J_X5_driesByNext_15 l b D z hF
def rm_X6_init : Room := { frames := 1, cells := 7, slots := 868, locals := 20 }
theorem rmc_X6_init : rm_X6_init.cells = 7 := rfl
theorem rms_X6_init : rm_X6_init.slots = 868 := rfl
set_option maxRecDepth 100000 in
set_option maxHeartbeats 4000000 in
theorem M_X6_init (l : Launch) (b : Nat) (D : va_G) (z : Nat → Nat) (nx : Nat) {h : qH} {a0 : Nat} {r : qH × Nat} (hF : F_X6_init h nx a0 = some r) : Me l b D z yX6_init cX6_init 1 none rm_X6_init [.ref a0] h nx (qE none r.1 r.2) := by
  refine Me.of (by decide +kernel) (Nat.le_of_ble_eq_true rfl) ?_
  show Go l b D z yX6_init cX6_init 1 none rm_X6_init (qE none r.1 r.2) 0 [(0, .ref a0)] [] h nx 0 0
  unfold F_X6_init at hF
  refine g_aload_n 0 dX6_init_0 rfl ?_
  refine g_obj wd_426 wd_190 wd_191 (Nat.le_of_ble_eq_true rfl) (Nat.le_of_ble_eq_true rfl) dX6_init_1 ?_
  refine g_aload_n 0 dX6_init_4 rfl ?_
  refine g_sipush dX6_init_5 lt_sipush_420 ?_
  refine g_newi (N := 420) wd_266 (by decide) (by decide) (Nat.le_of_ble_eq_true rfl) (Nat.le_of_ble_eq_true rfl) (Nat.le_of_ble_eq_true rfl) dX6_init_8 ?_
  obtain ⟨h1, e2, hF⟩ := q_bind hF
  refine g_putF fl_X6_13 e2 rfl rfl rfl (fun q hq => by cases hq; rfl) dX6_init_10 ?_
  refine g_aload_n 0 dX6_init_13 rfl ?_
  refine g_sipush dX6_init_14 lt_sipush_200 ?_
  refine g_newi (N := 200) wd_266 (by decide) (by decide) (Nat.le_of_ble_eq_true rfl) (Nat.le_of_ble_eq_true rfl) (Nat.le_of_ble_eq_true rfl) dX6_init_17 ?_
  obtain ⟨h3, e4, hF⟩ := q_bind hF
  refine g_putF fl_X6_17 e4 rfl rfl rfl (fun q hq => by cases hq; rfl) dX6_init_19 ?_
  refine g_aload_n 0 dX6_init_22 rfl ?_
  refine g_sipush dX6_init_23 lt_sipush_200 ?_
  refine g_newi (N := 200) wd_266 (by decide) (by decide) (Nat.le_of_ble_eq_true rfl) (Nat.le_of_ble_eq_true rfl) (Nat.le_of_ble_eq_true rfl) dX6_init_26 ?_
  obtain ⟨h5, e6, hF⟩ := q_bind hF
  refine g_putF fl_X6_20 e6 rfl rfl rfl (fun q hq => by cases hq; rfl) dX6_init_28 ?_
  refine g_aload_n 0 dX6_init_31 rfl ?_
  refine g_bipush dX6_init_32 lt_bipush_20 ?_
  refine g_newl (N := 20) wd_449 (by decide) (by decide) (Nat.le_of_ble_eq_true rfl) (Nat.le_of_ble_eq_true rfl) (Nat.le_of_ble_eq_true rfl) dX6_init_34 ?_
  obtain ⟨h7, e8, hF⟩ := q_bind hF
  refine g_putF fl_X6_23 e8 rfl rfl rfl (fun q hq => by cases hq; rfl) dX6_init_36 ?_
  refine g_aload_n 0 dX6_init_39 rfl ?_
  refine g_bipush dX6_init_40 lt_bipush_20 ?_
  refine g_newl (N := 20) wd_449 (by decide) (by decide) (Nat.le_of_ble_eq_true rfl) (Nat.le_of_ble_eq_true rfl) (Nat.le_of_ble_eq_true rfl) dX6_init_42 ?_
  obtain ⟨h9, e10, hF⟩ := q_bind hF
  refine g_putF fl_X6_27 e10 rfl rfl rfl (fun q hq => by cases hq; rfl) dX6_init_44 ?_
  refine g_aload_n 0 dX6_init_47 rfl ?_
  refine g_iconst dX6_init_48 lt_iconst_4 ?_
  refine g_newi (N := 4) wd_266 (by decide) (by decide) (Nat.le_of_ble_eq_true rfl) (Nat.le_of_ble_eq_true rfl) (Nat.le_of_ble_eq_true rfl) dX6_init_49 ?_
  obtain ⟨h11, e12, hF⟩ := q_bind hF
  refine g_putF fl_X6_30 e12 rfl rfl rfl (fun q hq => by cases hq; rfl) dX6_init_51 ?_
  refine g_aload_n 0 dX6_init_54 rfl ?_
  refine g_iconst dX6_init_55 lt_iconst_4 ?_
  refine g_newi (N := 4) wd_266 (by decide) (by decide) (Nat.le_of_ble_eq_true rfl) (Nat.le_of_ble_eq_true rfl) (Nat.le_of_ble_eq_true rfl) dX6_init_56 ?_
  obtain ⟨h13, e14, hF⟩ := q_bind hF
  refine g_putF fl_X6_33 e14 rfl rfl rfl (fun q hq => by cases hq; rfl) dX6_init_58 ?_
  cases hF
  exact g_vret dX6_init_61 rfl ⟨rfl, rfl, rfl⟩ (Nat.le_of_ble_eq_true rfl) (Nat.le_of_ble_eq_true rfl)
def rm_X6_fewestAt : Room := { frames := 0, cells := 0, slots := 0, locals := 0 }
set_option maxRecDepth 100000 in
set_option maxHeartbeats 4000000 in
theorem M_X6_fewestAt (l : Launch) (b : Nat) (D : va_G) (z : Nat → Nat) (nx : Nat) {h : qH} {a0 : Nat} {a1 : Int32} {a2 : Int32} {r : Int32} (hF : F_X6_fewestAt h a0 a1 a2 = some r) : Me l b D z yX6_fewestAt cX6_fewestAt 3 (some .int) rm_X6_fewestAt [.ref a0, .int a1, .int a2] h nx (qE (some (.int r)) h nx) := by
  refine Me.of (by decide +kernel) (Nat.le_of_ble_eq_true rfl) ?_
  show Go l b D z yX6_fewestAt cX6_fewestAt 3 (some .int) rm_X6_fewestAt (qE (some (.int r)) h nx) 0 [(0, .ref a0), (1, .int a1), (2, .int a2)] [] h nx 0 0
  unfold F_X6_fewestAt at hF
  refine g_iload_n 1 dX6_fewestAt_0 rfl ?_
  refine g_if_lt 34 dX6_fewestAt_1 (by decide) (fun c1 => ?_) (fun c1 => ?_)
  · replace hF := q_t c1 hF
    refine g_ldc dX6_fewestAt_34 wd_992 ?_
    cases hF
    exact g_iret dX6_fewestAt_36 rfl ⟨rfl, rfl, rfl⟩ (Nat.le_of_ble_eq_true rfl) (Nat.le_of_ble_eq_true rfl)
  · replace hF := q_f c1 hF
    refine g_iload_n 1 dX6_fewestAt_4 rfl ?_
    refine g_bipush dX6_fewestAt_5 lt_bipush_20 ?_
    refine g_icmp_gt 34 dX6_fewestAt_7 (by decide) (fun c2 => ?_) (fun c2 => ?_)
    · replace hF := q_t c2 hF
      refine g_ldc dX6_fewestAt_34 wd_992 ?_
      cases hF
      exact g_iret dX6_fewestAt_36 rfl ⟨rfl, rfl, rfl⟩ (Nat.le_of_ble_eq_true rfl) (Nat.le_of_ble_eq_true rfl)
    · replace hF := q_f c2 hF
      refine g_iload_n 2 dX6_fewestAt_10 rfl ?_
      refine g_if_lt 34 dX6_fewestAt_11 (by decide) (fun c3 => ?_) (fun c3 => ?_)
      · replace hF := q_t c3 hF
        refine g_ldc dX6_fewestAt_34 wd_992 ?_
        cases hF
        exact g_iret dX6_fewestAt_36 rfl ⟨rfl, rfl, rfl⟩ (Nat.le_of_ble_eq_true rfl) (Nat.le_of_ble_eq_true rfl)
      · replace hF := q_f c3 hF
        refine g_iload_n 2 dX6_fewestAt_14 rfl ?_
        refine g_bipush dX6_fewestAt_15 lt_bipush_20 ?_
        refine g_icmp_ge 34 dX6_fewestAt_17 (by decide) (fun c4 => ?_) (fun c4 => ?_)
        · replace hF := q_t c4 hF
          refine g_ldc dX6_fewestAt_34 wd_992 ?_
          cases hF
          exact g_iret dX6_fewestAt_36 rfl ⟨rfl, rfl, rfl⟩ (Nat.le_of_ble_eq_true rfl) (Nat.le_of_ble_eq_true rfl)
        · replace hF := q_f c4 hF
          refine g_aload_n 0 dX6_fewestAt_20 rfl ?_
          obtain ⟨x5, e6, hF⟩ := q_bind hF
          refine g_getfR fl_X6_13 e6 dX6_fewestAt_21 ?_
          refine g_iload_n 1 dX6_fewestAt_24 rfl ?_
          refine g_bipush dX6_fewestAt_25 lt_bipush_20 ?_
          refine g_imul dX6_fewestAt_27 ?_
          refine g_iload_n 2 dX6_fewestAt_28 rfl ?_
          refine g_iadd dX6_fewestAt_29 ?_
          obtain ⟨x7, e8, hF⟩ := q_bind hF
          refine g_iald e8 dX6_fewestAt_30 ?_
          refine g_goto 36 dX6_fewestAt_31 (by decide) ?_
          cases hF
          exact g_iret dX6_fewestAt_36 rfl ⟨rfl, rfl, rfl⟩ (Nat.le_of_ble_eq_true rfl) (Nat.le_of_ble_eq_true rfl)
def rm_X6_fewestFrom : Room := { frames := 3, cells := 0, slots := 0, locals := 65 }
set_option maxRecDepth 100000 in
set_option maxHeartbeats 4000000 in
theorem B_X6_fewestFrom_22 (l : Launch) (b : Nat) (D : va_G) (z : Nat → Nat) {Φ : Option Value → qH → Nat → Prop} {nx : Nat} {h : qH} {a0 : Nat} {a1 : Nat} {a2 : Int32} {a3 : Int32} {a4 : Int32} {a5 : Int32} {o : (Int32 × Int32) ⊕ Int32} (hF : b_X6_fewestFrom_22 h a0 a1 a2 a3 a4 a5 = some o) (hback : ∀ (b4 : Int32) (b5 : Int32), o = .inl (b4, b5) → Go l b D z yX6_fewestFrom cX6_fewestFrom 7 (some .int) rm_X6_fewestFrom Φ 22 [(0, .ref a0), (1, .ref a1), (2, .int a2), (3, .int a3), (4, .int b4), (5, .int b5)] [] h nx 0 0) (hx0 : ∀ (b4 : Int32), o = .inr b4 → Go l b D z yX6_fewestFrom cX6_fewestFrom 7 (some .int) rm_X6_fewestFrom Φ 71 [(4, .int b4)] [] h nx 0 0) : Go l b D z yX6_fewestFrom cX6_fewestFrom 7 (some .int) rm_X6_fewestFrom Φ 22 [(0, .ref a0), (1, .ref a1), (2, .int a2), (3, .int a3), (4, .int a4), (5, .int a5)] [] h nx 0 0 := by
  unfold b_X6_fewestFrom_22 at hF
  refine g_iload 5 dX6_fewestFrom_22 rfl ?_
  refine g_aload_n 1 dX6_fewestFrom_24 rfl ?_
  refine g_iload_n 3 dX6_fewestFrom_25 rfl ?_
  obtain ⟨u1, e2, hF⟩ := q_bind hF
  obtain ⟨x3, e4, hF⟩ := q_bind hF
  refine g_callVr0 (ci := 0) (q := (RX0, TX0, 15)) qm_X0_howManyFollow wd_997 wd_791 wd_792 rfl e2 (M_X0_howManyFollow l b D z nx e4) (As := [.int a3]) rfl rfl (Nat.le_of_ble_eq_true rfl) ⟨(Nat.le_of_ble_eq_true rfl), (Nat.le_of_ble_eq_true rfl)⟩ ⟨rfl, rfl⟩ ⟨(Nat.le_of_ble_eq_true rfl), (Nat.le_of_ble_eq_true rfl)⟩ dX6_fewestFrom_26 ?_
  refine g_icmp_ge 71 dX6_fewestFrom_29 (by decide) (fun c5 => ?_) (fun c5 => ?_)
  · replace hF := q_t c5 hF
    cases hF
    refine g_sub [4] rfl ?_
    exact hx0 _ rfl
  · replace hF := q_f c5 hF
    refine g_aload_n 1 dX6_fewestFrom_32 rfl ?_
    refine g_iload_n 3 dX6_fewestFrom_33 rfl ?_
    refine g_iload 5 dX6_fewestFrom_34 rfl ?_
    obtain ⟨u6, e7, hF⟩ := q_bind hF
    obtain ⟨x8, e9, hF⟩ := q_bind hF
    refine g_callVr0 (ci := 0) (q := (RX0, TX0, 15)) qm_X0_following wd_998 wd_795 wd_796 rfl e7 (M_X0_following l b D z nx e9) (As := [.int a3, .int a5]) rfl rfl (Nat.le_of_ble_eq_true rfl) ⟨(Nat.le_of_ble_eq_true rfl), (Nat.le_of_ble_eq_true rfl)⟩ ⟨rfl, rfl⟩ ⟨(Nat.le_of_ble_eq_true rfl), (Nat.le_of_ble_eq_true rfl)⟩ dX6_fewestFrom_36 ?_
    refine g_istore [(6, .int x8), (0, .ref a0), (1, .ref a1), (2, .int a2), (3, .int a3), (4, .int a4), (5, .int a5)] dX6_fewestFrom_39 (Nat.le_of_ble_eq_true rfl) rfl ?_
    refine g_iload 5 dX6_fewestFrom_41 rfl ?_
    refine g_aload_n 1 dX6_fewestFrom_43 rfl ?_
    refine g_iload_n 3 dX6_fewestFrom_44 rfl ?_
    refine g_iconst dX6_fewestFrom_45 lt_iconst_1 ?_
    refine g_isub dX6_fewestFrom_46 ?_
    refine g_iload 0 dX6_fewestFrom_47 rfl ?_
    obtain ⟨u10, e11, hF⟩ := q_bind hF
    obtain ⟨x12, e13, hF⟩ := q_bind hF
    refine g_callVr0 (ci := 6) (q := (RX6, TX6, 7)) qm_X6_fewestAt wd_999 wd_1001 wd_36 rfl e11 (M_X6_fewestAt l b D z nx e13) (As := [.int (a2 - (1 : Int32)), .int x8]) rfl rfl (Nat.le_of_ble_eq_true rfl) ⟨(Nat.le_of_ble_eq_true rfl), (Nat.le_of_ble_eq_true rfl)⟩ ⟨rfl, rfl⟩ ⟨(Nat.le_of_ble_eq_true rfl), (Nat.le_of_ble_eq_true rfl)⟩ dX6_fewestFrom_49 ?_
    refine g_aload_n 2 dX6_fewestFrom_52 rfl ?_
    refine g_iload_n 4 dX6_fewestFrom_53 rfl ?_
    refine g_iload 0 dX6_fewestFrom_54 rfl ?_
    obtain ⟨u14, e15, hF⟩ := q_bind hF
    obtain ⟨x16, e17, hF⟩ := q_bind hF
    refine g_callVr0 (ci := 0) (q := (RX0, TX0, 15)) qm_X0_strayingOf wd_1003 wd_1004 wd_1005 rfl e15 (M_X0_strayingOf l b D z nx e17) (As := [.int a3, .int x8]) rfl rfl (Nat.le_of_ble_eq_true rfl) ⟨(Nat.le_of_ble_eq_true rfl), (Nat.le_of_ble_eq_true rfl)⟩ ⟨rfl, rfl⟩ ⟨(Nat.le_of_ble_eq_true rfl), (Nat.le_of_ble_eq_true rfl)⟩ dX6_fewestFrom_56 ?_
    refine g_iadd dX6_fewestFrom_59 ?_
    obtain ⟨x18, e19, hF⟩ := q_bind hF
    refine g_callSr0 qm_J9_min_7cf53 wd_1007 wd_1008 (M_J9_min_7cf53 l b D z nx e19) (As := [.int a4, .int (x12 + x16)]) rfl rfl (Nat.le_of_ble_eq_true rfl) ⟨(Nat.le_of_ble_eq_true rfl), (Nat.le_of_ble_eq_true rfl)⟩ ⟨rfl, rfl⟩ ⟨(Nat.le_of_ble_eq_true rfl), (Nat.le_of_ble_eq_true rfl)⟩ dX6_fewestFrom_60 ?_
    refine g_istore [(4, .int x18), (6, .int x8), (0, .ref a0), (1, .ref a1), (2, .int a2), (3, .int a3), (5, .int a5)] dX6_fewestFrom_63 (Nat.le_of_ble_eq_true rfl) rfl ?_
    refine g_iinc [(5, .int (a5 + 1)), (4, .int x18), (6, .int x8), (0, .ref a0), (1, .ref a1), (2, .int a2), (3, .int a3)] 6 dX6_fewestFrom_65 rfl (congrArg (a5 + ·) lt_iconst_1) (Nat.le_of_ble_eq_true rfl) rfl ?_
    refine g_goto 22 dX6_fewestFrom_68 (by decide) ?_
    cases hF
    refine g_sub [3, 4, 5, 6, 1, 0] rfl ?_
    exact hback _ _ rfl
set_option maxRecDepth 100000 in
set_option maxHeartbeats 4000000 in
theorem L_X6_fewestFrom_22 (l : Launch) (b : Nat) (D : va_G) (z : Nat → Nat) {Φ : Option Value → qH → Nat → Prop} {nx : Nat} {h : qH} {a0 : Nat} {a1 : Nat} {a2 : Int32} {a3 : Int32} : ∀ (n : Nat) (a4 : Int32) (a5 : Int32) (e : Int32), q_lp (s_X6_fewestFrom_22 h a0 a1 a2 a3) n (a4, a5) = some e → (∀ (b4 : Int32), e = b4 → Go l b D z yX6_fewestFrom cX6_fewestFrom 7 (some .int) rm_X6_fewestFrom Φ 71 [(4, .int b4)] [] h nx 0 0) → Go l b D z yX6_fewestFrom cX6_fewestFrom 7 (some .int) rm_X6_fewestFrom Φ 22 [(0, .ref a0), (1, .ref a1), (2, .int a2), (3, .int a3), (4, .int a4), (5, .int a5)] [] h nx 0 0 := by
  intro n
  induction n with
  | zero => intro a4 a5 e he; cases (show none = some e from he)
  | succ n ih =>
    intro a4 a5 e he hx0
    obtain ⟨o, ho, h1, h2⟩ := q_lp_succ he
    exact B_X6_fewestFrom_22 l b D z (show b_X6_fewestFrom_22 h a0 a1 a2 a3 a4 a5 = some o from ho) (fun b4 b5 hb => ih _ _ e (h1 _ hb) hx0) (fun p0 hr => hx0 p0 (h2 _ hr).symm)
set_option maxRecDepth 100000 in
set_option maxHeartbeats 4000000 in
theorem M_X6_fewestFrom (l : Launch) (b : Nat) (D : va_G) (z : Nat → Nat) (nx : Nat) {h : qH} {a0 : Nat} {a1 : Nat} {a2 : Int32} {a3 : Int32} {r : Int32} (hF : F_X6_fewestFrom h a0 a1 a2 a3 = some r) : Me l b D z yX6_fewestFrom cX6_fewestFrom 7 (some .int) rm_X6_fewestFrom [.ref a0, .ref a1, .int a2, .int a3] h nx (qE (some (.int r)) h nx) := by
  refine Me.of (by decide +kernel) (Nat.le_of_ble_eq_true rfl) ?_
  show Go l b D z yX6_fewestFrom cX6_fewestFrom 7 (some .int) rm_X6_fewestFrom (qE (some (.int r)) h nx) 0 [(0, .ref a0), (1, .ref a1), (2, .int a2), (3, .int a3)] [] h nx 0 0
  unfold F_X6_fewestFrom at hF
  refine g_iload_n 2 dX6_fewestFrom_0 rfl ?_
  refine g_iconst dX6_fewestFrom_1 lt_iconst_1 ?_
  refine g_icmp_le 13 dX6_fewestFrom_2 (by decide) (fun c1 => ?_) (fun c1 => ?_)
  · replace hF := q_t c1 hF
    refine g_iconst dX6_fewestFrom_13 lt_iconst_0 ?_
    cases hF
    exact g_iret dX6_fewestFrom_14 rfl ⟨rfl, rfl, rfl⟩ (Nat.le_of_ble_eq_true rfl) (Nat.le_of_ble_eq_true rfl)
  · replace hF := q_f c1 hF
    refine g_aload_n 1 dX6_fewestFrom_5 rfl ?_
    refine g_iload_n 3 dX6_fewestFrom_6 rfl ?_
    obtain ⟨u2, e3, hF⟩ := q_bind hF
    obtain ⟨x4, e5, hF⟩ := q_bind hF
    refine g_callVr0 (ci := 0) (q := (RX0, TX0, 15)) qm_X0_howManyFollow wd_997 wd_791 wd_792 rfl e3 (M_X0_howManyFollow l b D z nx e5) (As := [.int a3]) rfl rfl (Nat.le_of_ble_eq_true rfl) ⟨(Nat.le_of_ble_eq_true rfl), (Nat.le_of_ble_eq_true rfl)⟩ ⟨rfl, rfl⟩ ⟨(Nat.le_of_ble_eq_true rfl), (Nat.le_of_ble_eq_true rfl)⟩ dX6_fewestFrom_7 ?_
    refine g_if_ne 15 dX6_fewestFrom_10 (by decide) (fun c6 => ?_) (fun c6 => ?_)
    · replace hF := q_f c6 hF
      refine g_ldc dX6_fewestFrom_15 wd_992 ?_
      refine g_istore [(4, .int (1000000 : Int32)), (0, .ref a0), (1, .ref a1), (2, .int a2), (3, .int a3)] dX6_fewestFrom_17 (Nat.le_of_ble_eq_true rfl) rfl ?_
      refine g_iconst dX6_fewestFrom_19 lt_iconst_0 ?_
      refine g_istore [(5, .int (0 : Int32)), (4, .int (1000000 : Int32)), (0, .ref a0), (1, .ref a1), (2, .int a2), (3, .int a3)] dX6_fewestFrom_20 (Nat.le_of_ble_eq_true rfl) rfl ?_
      obtain ⟨e7, w8, hF⟩ := q_bind hF
      refine g_sub [2, 3, 4, 5, 1, 0] rfl ?_
      refine L_X6_fewestFrom_22 l b D z q_N (1000000 : Int32) (0 : Int32) e7 w8 ?_
      · intro o9 w10
        replace w10 := w10.symm
        subst w10
        refine g_iload 0 dX6_fewestFrom_71 rfl ?_
        cases hF
        exact g_iret dX6_fewestFrom_73 rfl ⟨rfl, rfl, rfl⟩ (Nat.le_of_ble_eq_true rfl) (Nat.le_of_ble_eq_true rfl)
    · replace hF := q_t c6 hF
      refine g_iconst dX6_fewestFrom_13 lt_iconst_0 ?_
      cases hF
      exact g_iret dX6_fewestFrom_14 rfl ⟨rfl, rfl, rfl⟩ (Nat.le_of_ble_eq_true rfl) (Nat.le_of_ble_eq_true rfl)
def rm_X6_fewestWithout : Room := { frames := 4, cells := 0, slots := 0, locals := 91 }
set_option maxRecDepth 100000 in
set_option maxHeartbeats 4000000 in
theorem B_X6_fewestWithout_33 (l : Launch) (b : Nat) (D : va_G) (z : Nat → Nat) {Φ : Option Value → qH → Nat → Prop} {nx : Nat} {a0 : Nat} {a1 : Nat} {a2 : Int32} {a3 : Int32} {a4 : Int32} {a5 : Int32} {h : qH} {o : (Int32 × qH) ⊕ qH} (hF : b_X6_fewestWithout_33 a0 a1 a2 a3 a4 a5 h = some o) (hback : ∀ (b5 : Int32) (bh : qH), o = .inl (b5, bh) → Go l b D z yX6_fewestWithout cX6_fewestWithout 6 (some .int) rm_X6_fewestWithout Φ 33 [(0, .ref a0), (1, .ref a1), (2, .int a2), (3, .int a3), (4, .int a4), (5, .int b5)] [] bh nx 0 0) (hx0 : ∀  (bh : qH), o = .inr bh → Go l b D z yX6_fewestWithout cX6_fewestWithout 6 (some .int) rm_X6_fewestWithout Φ 92 [(0, .ref a0), (1, .ref a1), (2, .int a2), (3, .int a3), (4, .int a4)] [] bh nx 0 0) : Go l b D z yX6_fewestWithout cX6_fewestWithout 6 (some .int) rm_X6_fewestWithout Φ 33 [(0, .ref a0), (1, .ref a1), (2, .int a2), (3, .int a3), (4, .int a4), (5, .int a5)] [] h nx 0 0 := by
  unfold b_X6_fewestWithout_33 at hF
  refine g_iload 5 dX6_fewestWithout_33 rfl ?_
  refine g_aload_n 1 dX6_fewestWithout_35 rfl ?_
  obtain ⟨x1, e2, hF⟩ := q_bind hF
  refine g_getfI fl_X6_40 e2 dX6_fewestWithout_36 ?_
  refine g_icmp_ge 92 dX6_fewestWithout_39 (by decide) (fun c3 => ?_) (fun c3 => ?_)
  · replace hF := q_t c3 hF
    cases hF
    refine g_sub [0, 1, 2, 3, 4] rfl ?_
    exact hx0 _ rfl
  · replace hF := q_f c3 hF
    refine g_iload 5 dX6_fewestWithout_42 rfl ?_
    refine g_bipush dX6_fewestWithout_44 lt_bipush_20 ?_
    refine g_icmp_ge 92 dX6_fewestWithout_46 (by decide) (fun c4 => ?_) (fun c4 => ?_)
    · replace hF := q_t c4 hF
      cases hF
      refine g_sub [0, 1, 2, 3, 4] rfl ?_
      exact hx0 _ rfl
    · replace hF := q_f c4 hF
      refine g_aload_n 0 dX6_fewestWithout_49 rfl ?_
      obtain ⟨x5, e6, hF⟩ := q_bind hF
      refine g_getfR fl_X6_13 e6 dX6_fewestWithout_50 ?_
      refine g_iload 4 dX6_fewestWithout_53 rfl ?_
      refine g_bipush dX6_fewestWithout_55 lt_bipush_20 ?_
      refine g_imul dX6_fewestWithout_57 ?_
      refine g_iload 5 dX6_fewestWithout_58 rfl ?_
      refine g_iadd dX6_fewestWithout_60 ?_
      refine g_aload_n 1 dX6_fewestWithout_61 rfl ?_
      refine g_iload 5 dX6_fewestWithout_62 rfl ?_
      obtain ⟨u7, e8, hF⟩ := q_bind hF
      obtain ⟨x9, e10, hF⟩ := q_bind hF
      refine g_callVr0 (ci := 0) (q := (RX0, TX0, 15)) qm_X0_sceneOf wd_988 wd_989 wd_990 rfl e8 (M_X0_sceneOf l b D z nx e10) (As := [.int a5]) rfl rfl (Nat.le_of_ble_eq_true rfl) ⟨(Nat.le_of_ble_eq_true rfl), (Nat.le_of_ble_eq_true rfl)⟩ ⟨rfl, rfl⟩ ⟨(Nat.le_of_ble_eq_true rfl), (Nat.le_of_ble_eq_true rfl)⟩ dX6_fewestWithout_64 ?_
      refine g_iload_n 2 dX6_fewestWithout_67 rfl ?_
      refine g_icmp_ne 76 dX6_fewestWithout_68 (by decide) (fun c11 => ?_) (fun c11 => ?_)
      · replace hF := q_f c11 hF
        refine g_aload_n 0 dX6_fewestWithout_76 rfl ?_
        refine g_aload_n 1 dX6_fewestWithout_77 rfl ?_
        refine g_iload 4 dX6_fewestWithout_78 rfl ?_
        refine g_iload 5 dX6_fewestWithout_80 rfl ?_
        obtain ⟨u12, e13, hF⟩ := q_bind hF
        obtain ⟨x14, e15, hF⟩ := q_bind hF
        refine g_callVr0 (ci := 6) (q := (RX6, TX6, 7)) qm_X6_fewestFrom wd_993 wd_995 wd_35 rfl e13 (M_X6_fewestFrom l b D z nx e15) (As := [.ref a1, .int a4, .int a5]) rfl rfl (Nat.le_of_ble_eq_true rfl) ⟨(Nat.le_of_ble_eq_true rfl), (Nat.le_of_ble_eq_true rfl)⟩ ⟨rfl, rfl⟩ ⟨(Nat.le_of_ble_eq_true rfl), (Nat.le_of_ble_eq_true rfl)⟩ dX6_fewestWithout_82 ?_
        obtain ⟨h16, e17, hF⟩ := q_bind hF
        refine g_iast e17 dX6_fewestWithout_85 ?_
        refine g_iinc [(5, .int (a5 + 1)), (0, .ref a0), (1, .ref a1), (2, .int a2), (3, .int a3), (4, .int a4)] 5 dX6_fewestWithout_86 rfl (congrArg (a5 + ·) lt_iconst_1) (Nat.le_of_ble_eq_true rfl) rfl ?_
        refine g_goto 33 dX6_fewestWithout_89 (by decide) ?_
        cases hF
        refine g_sub [1, 2, 3, 4, 5, 0] rfl ?_
        exact hback _ _ rfl
      · replace hF := q_t c11 hF
        refine g_ldc dX6_fewestWithout_71 wd_992 ?_
        refine g_goto 85 dX6_fewestWithout_73 (by decide) ?_
        obtain ⟨h18, e19, hF⟩ := q_bind hF
        refine g_iast e19 dX6_fewestWithout_85 ?_
        refine g_iinc [(5, .int (a5 + 1)), (0, .ref a0), (1, .ref a1), (2, .int a2), (3, .int a3), (4, .int a4)] 5 dX6_fewestWithout_86 rfl (congrArg (a5 + ·) lt_iconst_1) (Nat.le_of_ble_eq_true rfl) rfl ?_
        refine g_goto 33 dX6_fewestWithout_89 (by decide) ?_
        cases hF
        refine g_sub [1, 2, 3, 4, 5, 0] rfl ?_
        exact hback _ _ rfl
set_option maxRecDepth 100000 in
set_option maxHeartbeats 4000000 in
theorem L_X6_fewestWithout_33 (l : Launch) (b : Nat) (D : va_G) (z : Nat → Nat) {Φ : Option Value → qH → Nat → Prop} {nx : Nat} {a0 : Nat} {a1 : Nat} {a2 : Int32} {a3 : Int32} {a4 : Int32} : ∀ (n : Nat) (a5 : Int32) (h : qH) (e : qH), q_lp (s_X6_fewestWithout_33 a0 a1 a2 a3 a4) n (a5, h) = some e → (∀  (bh : qH), e = bh → Go l b D z yX6_fewestWithout cX6_fewestWithout 6 (some .int) rm_X6_fewestWithout Φ 92 [(0, .ref a0), (1, .ref a1), (2, .int a2), (3, .int a3), (4, .int a4)] [] bh nx 0 0) → Go l b D z yX6_fewestWithout cX6_fewestWithout 6 (some .int) rm_X6_fewestWithout Φ 33 [(0, .ref a0), (1, .ref a1), (2, .int a2), (3, .int a3), (4, .int a4), (5, .int a5)] [] h nx 0 0 := by
  intro n
  induction n with
  | zero => intro a5 h e he; cases (show none = some e from he)
  | succ n ih =>
    intro a5 h e he hx0
    obtain ⟨o, ho, h1, h2⟩ := q_lp_succ he
    exact B_X6_fewestWithout_33 l b D z (show b_X6_fewestWithout_33 a0 a1 a2 a3 a4 a5 h = some o from ho) (fun b5 bh hb => ih _ _ e (h1 _ hb) hx0) (fun p0 hr => hx0 p0 (h2 _ hr).symm)
set_option maxRecDepth 100000 in
set_option maxHeartbeats 4000000 in
theorem B_X6_fewestWithout_24 (l : Launch) (b : Nat) (D : va_G) (z : Nat → Nat) {Φ : Option Value → qH → Nat → Prop} {nx : Nat} {a0 : Nat} {a1 : Nat} {a2 : Int32} {a3 : Int32} {a4 : Int32} {h : qH} {o : (Int32 × qH) ⊕ qH} (hF : b_X6_fewestWithout_24 a0 a1 a2 a3 a4 h = some o) (hback : ∀ (b4 : Int32) (bh : qH), o = .inl (b4, bh) → Go l b D z yX6_fewestWithout cX6_fewestWithout 6 (some .int) rm_X6_fewestWithout Φ 24 [(0, .ref a0), (1, .ref a1), (2, .int a2), (3, .int a3), (4, .int b4)] [] bh nx 0 0) (hx0 : ∀  (bh : qH), o = .inr bh → Go l b D z yX6_fewestWithout cX6_fewestWithout 6 (some .int) rm_X6_fewestWithout Φ 98 [(0, .ref a0), (3, .int a3)] [] bh nx 0 0) : Go l b D z yX6_fewestWithout cX6_fewestWithout 6 (some .int) rm_X6_fewestWithout Φ 24 [(0, .ref a0), (1, .ref a1), (2, .int a2), (3, .int a3), (4, .int a4)] [] h nx 0 0 := by
  unfold b_X6_fewestWithout_24 at hF
  refine g_iload 4 dX6_fewestWithout_24 rfl ?_
  refine g_iload_n 3 dX6_fewestWithout_26 rfl ?_
  refine g_icmp_gt 98 dX6_fewestWithout_27 (by decide) (fun c1 => ?_) (fun c1 => ?_)
  · replace hF := q_t c1 hF
    cases hF
    refine g_sub [0, 3] rfl ?_
    exact hx0 _ rfl
  · replace hF := q_f c1 hF
    refine g_iconst dX6_fewestWithout_30 lt_iconst_0 ?_
    refine g_istore [(5, .int (0 : Int32)), (0, .ref a0), (1, .ref a1), (2, .int a2), (3, .int a3), (4, .int a4)] dX6_fewestWithout_31 (Nat.le_of_ble_eq_true rfl) rfl ?_
    obtain ⟨e2, w3, hF⟩ := q_bind hF
    refine g_sub [1, 2, 3, 4, 5, 0] rfl ?_
    refine L_X6_fewestWithout_33 l b D z q_N (0 : Int32) h e2 w3 ?_
    · intro h4 w5
      replace w5 := w5.symm
      subst w5
      refine g_iinc [(4, .int (a4 + 1)), (0, .ref a0), (1, .ref a1), (2, .int a2), (3, .int a3)] 4 dX6_fewestWithout_92 rfl (congrArg (a4 + ·) lt_iconst_1) (Nat.le_of_ble_eq_true rfl) rfl ?_
      refine g_goto 24 dX6_fewestWithout_95 (by decide) ?_
      cases hF
      refine g_sub [1, 2, 3, 4, 0] rfl ?_
      exact hback _ _ rfl
set_option maxRecDepth 100000 in
set_option maxHeartbeats 4000000 in
theorem L_X6_fewestWithout_24 (l : Launch) (b : Nat) (D : va_G) (z : Nat → Nat) {Φ : Option Value → qH → Nat → Prop} {nx : Nat} {a0 : Nat} {a1 : Nat} {a2 : Int32} {a3 : Int32} : ∀ (n : Nat) (a4 : Int32) (h : qH) (e : qH), q_lp (s_X6_fewestWithout_24 a0 a1 a2 a3) n (a4, h) = some e → (∀  (bh : qH), e = bh → Go l b D z yX6_fewestWithout cX6_fewestWithout 6 (some .int) rm_X6_fewestWithout Φ 98 [(0, .ref a0), (3, .int a3)] [] bh nx 0 0) → Go l b D z yX6_fewestWithout cX6_fewestWithout 6 (some .int) rm_X6_fewestWithout Φ 24 [(0, .ref a0), (1, .ref a1), (2, .int a2), (3, .int a3), (4, .int a4)] [] h nx 0 0 := by
  intro n
  induction n with
  | zero => intro a4 h e he; cases (show none = some e from he)
  | succ n ih =>
    intro a4 h e he hx0
    obtain ⟨o, ho, h1, h2⟩ := q_lp_succ he
    exact B_X6_fewestWithout_24 l b D z (show b_X6_fewestWithout_24 a0 a1 a2 a3 a4 h = some o from ho) (fun b4 bh hb => ih _ _ e (h1 _ hb) hx0) (fun p0 hr => hx0 p0 (h2 _ hr).symm)
set_option maxRecDepth 100000 in
set_option maxHeartbeats 4000000 in
theorem M_X6_fewestWithout (l : Launch) (b : Nat) (D : va_G) (z : Nat → Nat) (nx : Nat) {h : qH} {a0 : Nat} {a1 : Nat} {a2 : Int32} {a3 : Int32} {r : Int32 × qH} (hF : F_X6_fewestWithout h a0 a1 a2 a3 = some r) : Me l b D z yX6_fewestWithout cX6_fewestWithout 6 (some .int) rm_X6_fewestWithout [.ref a0, .ref a1, .int a2, .int a3] h nx (qE (some (.int r.1)) r.2 nx) := by
  refine Me.of (by decide +kernel) (Nat.le_of_ble_eq_true rfl) ?_
  show Go l b D z yX6_fewestWithout cX6_fewestWithout 6 (some .int) rm_X6_fewestWithout (qE (some (.int r.1)) r.2 nx) 0 [(0, .ref a0), (1, .ref a1), (2, .int a2), (3, .int a3)] [] h nx 0 0
  unfold F_X6_fewestWithout at hF
  refine g_aload_n 1 dX6_fewestWithout_0 rfl ?_
  refine g_iconst dX6_fewestWithout_1 lt_iconst_0 ?_
  obtain ⟨u1, e2, hF⟩ := q_bind hF
  obtain ⟨x3, e4, hF⟩ := q_bind hF
  refine g_callVr0 (ci := 0) (q := (RX0, TX0, 15)) qm_X0_has wd_987 wd_783 wd_784 rfl e2 (M_X0_has l b D z nx e4) (As := [.int (0 : Int32)]) rfl rfl (Nat.le_of_ble_eq_true rfl) ⟨(Nat.le_of_ble_eq_true rfl), (Nat.le_of_ble_eq_true rfl)⟩ ⟨rfl, rfl⟩ ⟨(Nat.le_of_ble_eq_true rfl), (Nat.le_of_ble_eq_true rfl)⟩ dX6_fewestWithout_2 ?_
  refine g_if_eq 19 dX6_fewestWithout_5 (by decide) (fun c5 => ?_) (fun c5 => ?_)
  · replace hF := q_t c5 hF
    refine g_iconst dX6_fewestWithout_19 lt_iconst_m1 ?_
    cases hF
    exact g_iret dX6_fewestWithout_20 rfl ⟨rfl, rfl, rfl⟩ (Nat.le_of_ble_eq_true rfl) (Nat.le_of_ble_eq_true rfl)
  · replace hF := q_f c5 hF
    refine g_iload_n 3 dX6_fewestWithout_8 rfl ?_
    refine g_iconst dX6_fewestWithout_9 lt_iconst_1 ?_
    refine g_icmp_lt 19 dX6_fewestWithout_10 (by decide) (fun c6 => ?_) (fun c6 => ?_)
    · replace hF := q_t c6 hF
      refine g_iconst dX6_fewestWithout_19 lt_iconst_m1 ?_
      cases hF
      exact g_iret dX6_fewestWithout_20 rfl ⟨rfl, rfl, rfl⟩ (Nat.le_of_ble_eq_true rfl) (Nat.le_of_ble_eq_true rfl)
    · replace hF := q_f c6 hF
      refine g_iload_n 3 dX6_fewestWithout_13 rfl ?_
      refine g_bipush dX6_fewestWithout_14 lt_bipush_20 ?_
      refine g_icmp_le 21 dX6_fewestWithout_16 (by decide) (fun c7 => ?_) (fun c7 => ?_)
      · replace hF := q_t c7 hF
        refine g_iconst dX6_fewestWithout_21 lt_iconst_1 ?_
        refine g_istore [(4, .int (1 : Int32)), (0, .ref a0), (1, .ref a1), (2, .int a2), (3, .int a3)] dX6_fewestWithout_22 (Nat.le_of_ble_eq_true rfl) rfl ?_
        obtain ⟨e8, w9, hF⟩ := q_bind hF
        refine g_sub [1, 2, 3, 4, 0] rfl ?_
        refine L_X6_fewestWithout_24 l b D z q_N (1 : Int32) h e8 w9 ?_
        · intro h10 w11
          replace w11 := w11.symm
          subst w11
          refine g_aload_n 0 dX6_fewestWithout_98 rfl ?_
          obtain ⟨x12, e13, hF⟩ := q_bind hF
          refine g_getfR fl_X6_13 e13 dX6_fewestWithout_99 ?_
          refine g_iload_n 1 dX6_fewestWithout_102 rfl ?_
          refine g_bipush dX6_fewestWithout_103 lt_bipush_20 ?_
          refine g_imul dX6_fewestWithout_105 ?_
          obtain ⟨x14, e15, hF⟩ := q_bind hF
          refine g_iald e15 dX6_fewestWithout_106 ?_
          refine g_ldc dX6_fewestWithout_107 wd_992 ?_
          refine g_icmp_lt 116 dX6_fewestWithout_109 (by decide) (fun c16 => ?_) (fun c16 => ?_)
          · replace hF := q_t c16 hF
            refine g_aload_n 0 dX6_fewestWithout_116 rfl ?_
            obtain ⟨x17, e18, hF⟩ := q_bind hF
            refine g_getfR fl_X6_13 e18 dX6_fewestWithout_117 ?_
            refine g_iload_n 1 dX6_fewestWithout_120 rfl ?_
            refine g_bipush dX6_fewestWithout_121 lt_bipush_20 ?_
            refine g_imul dX6_fewestWithout_123 ?_
            obtain ⟨x19, e20, hF⟩ := q_bind hF
            refine g_iald e20 dX6_fewestWithout_124 ?_
            cases hF
            exact g_iret dX6_fewestWithout_125 rfl ⟨rfl, rfl, rfl⟩ (Nat.le_of_ble_eq_true rfl) (Nat.le_of_ble_eq_true rfl)
          · replace hF := q_f c16 hF
            refine g_iconst dX6_fewestWithout_112 lt_iconst_m1 ?_
            refine g_goto 125 dX6_fewestWithout_113 (by decide) ?_
            cases hF
            exact g_iret dX6_fewestWithout_125 rfl ⟨rfl, rfl, rfl⟩ (Nat.le_of_ble_eq_true rfl) (Nat.le_of_ble_eq_true rfl)
      · replace hF := q_f c7 hF
        refine g_iconst dX6_fewestWithout_19 lt_iconst_m1 ?_
        cases hF
        exact g_iret dX6_fewestWithout_20 rfl ⟨rfl, rfl, rfl⟩ (Nat.le_of_ble_eq_true rfl) (Nat.le_of_ble_eq_true rfl)
