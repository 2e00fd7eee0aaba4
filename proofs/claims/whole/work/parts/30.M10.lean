def rm_X12_deedBy : Room := { frames := 0, cells := 0, slots := 0, locals := 0 }
set_option maxRecDepth 100000 in
set_option maxHeartbeats 4000000 in
theorem M_X12_deedBy (l : Launch) (b : Nat) (D : va_G) (z : Nat → Nat) (nx : Nat) {h : qH} {a0 : Int64} {r : Int32} (hF : F_X12_deedBy h a0 = some r) : Me l b D z yX12_deedBy cX12_deedBy 2 (some .int) rm_X12_deedBy [.long a0] h nx (qE (some (.int r)) h nx) := by
  refine Me.of (by decide +kernel) (Nat.le_of_ble_eq_true rfl) ?_
  show Go l b D z yX12_deedBy cX12_deedBy 2 (some .int) rm_X12_deedBy (qE (some (.int r)) h nx) 0 [(0, .long a0)] [] h nx 0 0
  unfold F_X12_deedBy at hF
  refine g_lload_n 0 dX12_deedBy_0 rfl ?_
  refine g_ldc2 dX12_deedBy_1 wd_1710 ?_
  refine g_lcmp dX12_deedBy_4 ?_
  refine g_if_ne 12 dX12_deedBy_5 (by decide) (fun c1 => ?_) (fun c1 => ?_)
  · replace hF := q_f c1 hF
    refine g_lload_n 0 dX12_deedBy_12 rfl ?_
    refine g_ldc2 dX12_deedBy_13 wd_1711 ?_
    refine g_lcmp dX12_deedBy_16 ?_
    refine g_if_ne 24 dX12_deedBy_17 (by decide) (fun c2 => ?_) (fun c2 => ?_)
    · replace hF := q_f c2 hF
      refine g_lload_n 0 dX12_deedBy_24 rfl ?_
      refine g_ldc2 dX12_deedBy_25 wd_1712 ?_
      refine g_lcmp dX12_deedBy_28 ?_
      refine g_if_ne 36 dX12_deedBy_29 (by decide) (fun c3 => ?_) (fun c3 => ?_)
      · replace hF := q_f c3 hF
        refine g_lload_n 0 dX12_deedBy_36 rfl ?_
        refine g_ldc2 dX12_deedBy_37 wd_1663 ?_
        refine g_lcmp dX12_deedBy_40 ?_
        refine g_if_ne 48 dX12_deedBy_41 (by decide) (fun c4 => ?_) (fun c4 => ?_)
        · replace hF := q_f c4 hF
          refine g_lload_n 0 dX12_deedBy_48 rfl ?_
          refine g_ldc2 dX12_deedBy_49 wd_1713 ?_
          refine g_lcmp dX12_deedBy_52 ?_
          refine g_if_ne 60 dX12_deedBy_53 (by decide) (fun c5 => ?_) (fun c5 => ?_)
          · replace hF := q_f c5 hF
            refine g_lload_n 0 dX12_deedBy_60 rfl ?_
            refine g_ldc2 dX12_deedBy_61 wd_1714 ?_
            refine g_lcmp dX12_deedBy_64 ?_
            refine g_if_ne 72 dX12_deedBy_65 (by decide) (fun c6 => ?_) (fun c6 => ?_)
            · replace hF := q_f c6 hF
              refine g_lload_n 0 dX12_deedBy_72 rfl ?_
              refine g_ldc2 dX12_deedBy_73 wd_1715 ?_
              refine g_lcmp dX12_deedBy_76 ?_
              refine g_if_ne 85 dX12_deedBy_77 (by decide) (fun c7 => ?_) (fun c7 => ?_)
              · replace hF := q_f c7 hF
                refine g_iconst dX12_deedBy_85 lt_iconst_m1 ?_
                cases hF
                exact g_iret dX12_deedBy_86 rfl ⟨rfl, rfl, rfl⟩ (Nat.le_of_ble_eq_true rfl) (Nat.le_of_ble_eq_true rfl)
              · replace hF := q_t c7 hF
                refine g_bipush dX12_deedBy_80 lt_bipush_6 ?_
                refine g_goto 86 dX12_deedBy_82 (by decide) ?_
                cases hF
                exact g_iret dX12_deedBy_86 rfl ⟨rfl, rfl, rfl⟩ (Nat.le_of_ble_eq_true rfl) (Nat.le_of_ble_eq_true rfl)
            · replace hF := q_t c6 hF
              refine g_iconst dX12_deedBy_68 lt_iconst_5 ?_
              refine g_goto 86 dX12_deedBy_69 (by decide) ?_
              cases hF
              exact g_iret dX12_deedBy_86 rfl ⟨rfl, rfl, rfl⟩ (Nat.le_of_ble_eq_true rfl) (Nat.le_of_ble_eq_true rfl)
          · replace hF := q_t c5 hF
            refine g_iconst dX12_deedBy_56 lt_iconst_4 ?_
            refine g_goto 86 dX12_deedBy_57 (by decide) ?_
            cases hF
            exact g_iret dX12_deedBy_86 rfl ⟨rfl, rfl, rfl⟩ (Nat.le_of_ble_eq_true rfl) (Nat.le_of_ble_eq_true rfl)
        · replace hF := q_t c4 hF
          refine g_iconst dX12_deedBy_44 lt_iconst_3 ?_
          refine g_goto 86 dX12_deedBy_45 (by decide) ?_
          cases hF
          exact g_iret dX12_deedBy_86 rfl ⟨rfl, rfl, rfl⟩ (Nat.le_of_ble_eq_true rfl) (Nat.le_of_ble_eq_true rfl)
      · replace hF := q_t c3 hF
        refine g_iconst dX12_deedBy_32 lt_iconst_2 ?_
        refine g_goto 86 dX12_deedBy_33 (by decide) ?_
        cases hF
        exact g_iret dX12_deedBy_86 rfl ⟨rfl, rfl, rfl⟩ (Nat.le_of_ble_eq_true rfl) (Nat.le_of_ble_eq_true rfl)
    · replace hF := q_t c2 hF
      refine g_iconst dX12_deedBy_20 lt_iconst_1 ?_
      refine g_goto 86 dX12_deedBy_21 (by decide) ?_
      cases hF
      exact g_iret dX12_deedBy_86 rfl ⟨rfl, rfl, rfl⟩ (Nat.le_of_ble_eq_true rfl) (Nat.le_of_ble_eq_true rfl)
  · replace hF := q_t c1 hF
    refine g_iconst dX12_deedBy_8 lt_iconst_0 ?_
    refine g_goto 86 dX12_deedBy_9 (by decide) ?_
    cases hF
    exact g_iret dX12_deedBy_86 rfl ⟨rfl, rfl, rfl⟩ (Nat.le_of_ble_eq_true rfl) (Nat.le_of_ble_eq_true rfl)
def rm_X12_keep : Room := { frames := 0, cells := 0, slots := 0, locals := 0 }
set_option maxRecDepth 100000 in
set_option maxHeartbeats 4000000 in
theorem B_X12_keep_16 (l : Launch) (b : Nat) (D : va_G) (z : Nat → Nat) {Φ : Option Value → qH → Nat → Prop} {nx : Nat} {a0 : Nat} {a1 : Int32} {a3 : Int32} {a4 : Int32} {h : qH} {o : (Int32 × qH) ⊕ qH} (hF : b_X12_keep_16 a0 a1 a3 a4 h = some o) (hback : ∀ (b4 : Int32) (bh : qH), o = .inl (b4, bh) → Go l b D z yX12_keep cX12_keep 5 none rm_X12_keep Φ 16 [(0, .ref a0), (1, .int a1), (3, .int a3), (4, .int b4)] [] bh nx 0 0) (hx0 : ∀  (bh : qH), o = .inr bh → Go l b D z yX12_keep cX12_keep 5 none rm_X12_keep Φ 48 [(0, .ref a0)] [] bh nx 0 0) : Go l b D z yX12_keep cX12_keep 5 none rm_X12_keep Φ 16 [(0, .ref a0), (1, .int a1), (3, .int a3), (4, .int a4)] [] h nx 0 0 := by
  unfold b_X12_keep_16 at hF
  refine g_iload 3 dX12_keep_16 rfl ?_
  refine g_iload_n 1 dX12_keep_18 rfl ?_
  refine g_icmp_ge 48 dX12_keep_19 (by decide) (fun c1 => ?_) (fun c1 => ?_)
  · replace hF := q_t c1 hF
    cases hF
    refine g_sub [0] rfl ?_
    exact hx0 _ rfl
  · replace hF := q_f c1 hF
    refine g_aload_n 0 dX12_keep_22 rfl ?_
    obtain ⟨x2, e3, hF⟩ := q_bind hF
    refine g_getfR fl_X12_38 e3 dX12_keep_23 ?_
    refine g_iconst dX12_keep_26 lt_iconst_1 ?_
    refine g_iload_n 1 dX12_keep_27 rfl ?_
    refine g_iload_n 2 dX12_keep_28 rfl ?_
    refine g_imul dX12_keep_29 ?_
    refine g_iadd dX12_keep_30 ?_
    refine g_iload 3 dX12_keep_31 rfl ?_
    refine g_iadd dX12_keep_33 ?_
    refine g_aload_n 0 dX12_keep_34 rfl ?_
    obtain ⟨x4, e5, hF⟩ := q_bind hF
    refine g_getfR fl_X12_41 e5 dX12_keep_35 ?_
    refine g_iload 3 dX12_keep_38 rfl ?_
    obtain ⟨x6, e7, hF⟩ := q_bind hF
    refine g_iald e7 dX12_keep_40 ?_
    obtain ⟨h8, e9, hF⟩ := q_bind hF
    refine g_iast e9 dX12_keep_41 ?_
    refine g_iinc [(4, .int (a4 + 1)), (0, .ref a0), (1, .int a1), (3, .int a3)] 3 dX12_keep_42 rfl (congrArg (a4 + ·) lt_iconst_1) (Nat.le_of_ble_eq_true rfl) rfl ?_
    refine g_goto 16 dX12_keep_45 (by decide) ?_
    cases hF
    refine g_sub [1, 2, 3, 0] rfl ?_
    exact hback _ _ rfl
set_option maxRecDepth 100000 in
set_option maxHeartbeats 4000000 in
theorem L_X12_keep_16 (l : Launch) (b : Nat) (D : va_G) (z : Nat → Nat) {Φ : Option Value → qH → Nat → Prop} {nx : Nat} {a0 : Nat} {a1 : Int32} {a3 : Int32} : ∀ (n : Nat) (a4 : Int32) (h : qH) (e : qH), q_lp (s_X12_keep_16 a0 a1 a3) n (a4, h) = some e → (∀  (bh : qH), e = bh → Go l b D z yX12_keep cX12_keep 5 none rm_X12_keep Φ 48 [(0, .ref a0)] [] bh nx 0 0) → Go l b D z yX12_keep cX12_keep 5 none rm_X12_keep Φ 16 [(0, .ref a0), (1, .int a1), (3, .int a3), (4, .int a4)] [] h nx 0 0 := by
  intro n
  induction n with
  | zero => intro a4 h e he; cases (show none = some e from he)
  | succ n ih =>
    intro a4 h e he hx0
    obtain ⟨o, ho, h1, h2⟩ := q_lp_succ he
    exact B_X12_keep_16 l b D z (show b_X12_keep_16 a0 a1 a3 a4 h = some o from ho) (fun b4 bh hb => ih _ _ e (h1 _ hb) hx0) (fun p0 hr => hx0 p0 (h2 _ hr).symm)
set_option maxRecDepth 100000 in
set_option maxHeartbeats 4000000 in
theorem M_X12_keep (l : Launch) (b : Nat) (D : va_G) (z : Nat → Nat) (nx : Nat) {h : qH} {a0 : Nat} {a1 : Int32} {a2 : Int32} {r : qH} (hF : F_X12_keep h a0 a1 a2 = some r) : Me l b D z yX12_keep cX12_keep 5 none rm_X12_keep [.ref a0, .int a1, .int a2] h nx (qE none r nx) := by
  refine Me.of (by decide +kernel) (Nat.le_of_ble_eq_true rfl) ?_
  show Go l b D z yX12_keep cX12_keep 5 none rm_X12_keep (qE none r nx) 0 [(0, .ref a0), (1, .int a1), (2, .int a2)] [] h nx 0 0
  unfold F_X12_keep at hF
  refine g_aload_n 0 dX12_keep_0 rfl ?_
  obtain ⟨x1, e2, hF⟩ := q_bind hF
  refine g_getfR fl_X12_38 e2 dX12_keep_1 ?_
  refine g_iconst dX12_keep_4 lt_iconst_0 ?_
  obtain ⟨x3, e4, hF⟩ := q_bind hF
  refine g_iald e4 dX12_keep_5 ?_
  refine g_istore_n [(3, .int x3), (0, .ref a0), (1, .int a1), (2, .int a2)] dX12_keep_6 (Nat.le_of_ble_eq_true rfl) rfl ?_
  refine g_iload_n 0 dX12_keep_7 rfl ?_
  refine g_iload_n 3 dX12_keep_8 rfl ?_
  refine g_icmp_ne 13 dX12_keep_9 (by decide) (fun c5 => ?_) (fun c5 => ?_)
  · replace hF := q_f c5 hF
    refine g_iconst dX12_keep_13 lt_iconst_0 ?_
    refine g_istore [(4, .int (0 : Int32)), (3, .int x3), (0, .ref a0), (1, .int a1), (2, .int a2)] dX12_keep_14 (Nat.le_of_ble_eq_true rfl) rfl ?_
    obtain ⟨e6, w7, hF⟩ := q_bind hF
    refine g_sub [2, 3, 1, 0] rfl ?_
    refine L_X12_keep_16 l b D z q_N (0 : Int32) h e6 w7 ?_
    · intro h8 w9
      replace w9 := w9.symm
      subst w9
      refine g_aload_n 0 dX12_keep_48 rfl ?_
      obtain ⟨x10, e11, hF⟩ := q_bind hF
      refine g_getfR fl_X12_38 e11 dX12_keep_49 ?_
      refine g_iconst dX12_keep_52 lt_iconst_0 ?_
      refine g_dup2 dX12_keep_53 rfl rfl ?_
      obtain ⟨x12, e13, hF⟩ := q_bind hF
      refine g_iald e13 dX12_keep_54 ?_
      refine g_iconst dX12_keep_55 lt_iconst_1 ?_
      refine g_iadd dX12_keep_56 ?_
      obtain ⟨h14, e15, hF⟩ := q_bind hF
      refine g_iast e15 dX12_keep_57 ?_
      cases hF
      exact g_vret dX12_keep_58 rfl ⟨rfl, rfl, rfl⟩ (Nat.le_of_ble_eq_true rfl) (Nat.le_of_ble_eq_true rfl)
  · replace hF := q_t c5 hF
    cases hF
    exact g_vret dX12_keep_12 rfl ⟨rfl, rfl, rfl⟩ (Nat.le_of_ble_eq_true rfl) (Nat.le_of_ble_eq_true rfl)
def rm_X12_eveningLine : Room := { frames := 3, cells := 0, slots := 0, locals := 67 }
set_option maxRecDepth 100000 in
set_option maxHeartbeats 4000000 in
theorem J_X12_eveningLine_64 (l : Launch) (b : Nat) (D : va_G) (z : Nat → Nat) {nx : Nat} {h : qH} {a0 : Nat} {a4 : Int32} {r : Int32 × qH} (hF : j_X12_eveningLine_64 h a0 a4  = some r) : Go l b D z yX12_eveningLine cX12_eveningLine 5 (some .boolean) rm_X12_eveningLine (qE (some (.int r.1)) r.2 nx) 64 [(0, .ref a0), (4, .int a4)] [] h nx 0 0 := by
  unfold j_X12_eveningLine_64 at hF
  refine g_aload_n 0 dX12_eveningLine_64 rfl ?_
  obtain ⟨x1, e2, hF⟩ := q_bind hF
  refine g_getfR fl_X12_41 e2 dX12_eveningLine_65 ?_
  refine g_iconst dX12_eveningLine_68 lt_iconst_0 ?_
  refine g_iload 1 dX12_eveningLine_69 rfl ?_
  obtain ⟨h3, e4, hF⟩ := q_bind hF
  refine g_iast e4 dX12_eveningLine_71 ?_
  refine g_aload_n 0 dX12_eveningLine_72 rfl ?_
  refine g_iconst dX12_eveningLine_73 lt_iconst_2 ?_
  refine g_bipush dX12_eveningLine_74 lt_bipush_40 ?_
  obtain ⟨u5, e6, hF⟩ := q_bind hF
  obtain ⟨x7, e8, hF⟩ := q_bind hF
  refine g_callVv0 (ci := 12) (q := (RX12, TX12, 49)) qm_X12_keep wd_1716 wd_1718 wd_94 rfl e6 (M_X12_keep l b D z nx e8) (As := [.int (2 : Int32), .int (40 : Int32)]) rfl rfl (Nat.le_of_ble_eq_true rfl) ⟨(Nat.le_of_ble_eq_true rfl), (Nat.le_of_ble_eq_true rfl)⟩ ⟨rfl, rfl⟩ ⟨(Nat.le_of_ble_eq_true rfl), (Nat.le_of_ble_eq_true rfl)⟩ dX12_eveningLine_76 ?_
  refine g_iconst dX12_eveningLine_79 lt_iconst_1 ?_
  cases hF
  exact g_zret dX12_eveningLine_80 rfl zn_1 ⟨rfl, rfl, rfl⟩ (Nat.le_of_ble_eq_true rfl) (Nat.le_of_ble_eq_true rfl)
set_option maxRecDepth 100000 in
set_option maxHeartbeats 4000000 in
theorem J_X12_eveningLine_56 (l : Launch) (b : Nat) (D : va_G) (z : Nat → Nat) {nx : Nat} {h : qH} {a0 : Nat} {a4 : Int32} {t0 : Int32} {t1 : Int32} {t2 : Int32} {t3 : Nat} {r : Int32 × qH} (hF : j_X12_eveningLine_56 h a0 a4 t0 t1 t2 t3 = some r) : Go l b D z yX12_eveningLine cX12_eveningLine 5 (some .boolean) rm_X12_eveningLine (qE (some (.int r.1)) r.2 nx) 56 [(0, .ref a0), (4, .int a4)] [.int t0, .int t1, .int t2, .ref t3] h nx 0 0 := by
  unfold j_X12_eveningLine_56 at hF
  obtain ⟨u1, e2, hF⟩ := q_bind hF
  obtain ⟨x3, e4, hF⟩ := q_bind hF
  refine g_callVr0 (ci := 12) (q := (RX12, TX12, 49)) qm_X12_take wd_1688 wd_1690 wd_90 rfl e2 (M_X12_take l b D z nx e4) (As := [.int t2, .int t1, .int t0]) rfl rfl (Nat.le_of_ble_eq_true rfl) ⟨(Nat.le_of_ble_eq_true rfl), (Nat.le_of_ble_eq_true rfl)⟩ ⟨rfl, rfl⟩ ⟨(Nat.le_of_ble_eq_true rfl), (Nat.le_of_ble_eq_true rfl)⟩ dX12_eveningLine_56 ?_
  refine g_if_ne 64 dX12_eveningLine_59 (by decide) (fun c5 => ?_) (fun c5 => ?_)
  · replace hF := q_f c5 hF
    exact J_X12_eveningLine_64 l b D z hF
  · replace hF := q_t c5 hF
    refine g_iconst dX12_eveningLine_62 lt_iconst_0 ?_
    cases hF
    exact g_zret dX12_eveningLine_63 rfl zn_0 ⟨rfl, rfl, rfl⟩ (Nat.le_of_ble_eq_true rfl) (Nat.le_of_ble_eq_true rfl)
set_option maxRecDepth 100000 in
set_option maxHeartbeats 4000000 in
theorem M_X12_eveningLine (l : Launch) (b : Nat) (D : va_G) (z : Nat → Nat) (nx : Nat) {h : qH} {a0 : Nat} {a1 : Int64} {a3 : Int32} {r : Int32 × qH} (hF : F_X12_eveningLine h a0 a1 a3 = some r) : Me l b D z yX12_eveningLine cX12_eveningLine 5 (some .boolean) rm_X12_eveningLine [.ref a0, .long a1, .int a3] h nx (qE (some (.int r.1)) r.2 nx) := by
  refine Me.of (by decide +kernel) (Nat.le_of_ble_eq_true rfl) ?_
  show Go l b D z yX12_eveningLine cX12_eveningLine 5 (some .boolean) rm_X12_eveningLine (qE (some (.int r.1)) r.2 nx) 0 [(0, .ref a0), (1, .long a1), (3, .int a3)] [] h nx 0 0
  unfold F_X12_eveningLine at hF
  refine g_lload_n 1 dX12_eveningLine_0 rfl ?_
  obtain ⟨x1, e2, hF⟩ := q_bind hF
  refine g_callSr0 qm_X12_deedBy wd_1707 wd_1708 (M_X12_deedBy l b D z nx e2) (As := [.long a1]) rfl rfl (Nat.le_of_ble_eq_true rfl) ⟨(Nat.le_of_ble_eq_true rfl), (Nat.le_of_ble_eq_true rfl)⟩ ⟨rfl, rfl⟩ ⟨(Nat.le_of_ble_eq_true rfl), (Nat.le_of_ble_eq_true rfl)⟩ dX12_eveningLine_1 ?_
  refine g_istore [(4, .int x1), (0, .ref a0), (1, .long a1), (3, .int a3)] dX12_eveningLine_4 (Nat.le_of_ble_eq_true rfl) rfl ?_
  refine g_iload 0 dX12_eveningLine_6 rfl ?_
  refine g_iconst dX12_eveningLine_8 lt_iconst_m1 ?_
  refine g_icmp_ne 17 dX12_eveningLine_9 (by decide) (fun c3 => ?_) (fun c3 => ?_)
  · replace hF := q_f c3 hF
    refine g_aload_n 1 dX12_eveningLine_17 rfl ?_
    refine g_iconst dX12_eveningLine_18 lt_iconst_0 ?_
    refine g_bipush dX12_eveningLine_19 lt_bipush_40 ?_
    refine g_iload_n 3 dX12_eveningLine_21 rfl ?_
    obtain ⟨u4, e5, hF⟩ := q_bind hF
    obtain ⟨x6, e7, hF⟩ := q_bind hF
    refine g_callVv0 (ci := 12) (q := (RX12, TX12, 49)) qm_X12_full wd_1672 wd_1674 wd_86 rfl e5 (M_X12_full l b D z nx e7) (As := [.int (0 : Int32), .int (40 : Int32), .int a3]) rfl rfl (Nat.le_of_ble_eq_true rfl) ⟨(Nat.le_of_ble_eq_true rfl), (Nat.le_of_ble_eq_true rfl)⟩ ⟨rfl, rfl⟩ ⟨(Nat.le_of_ble_eq_true rfl), (Nat.le_of_ble_eq_true rfl)⟩ dX12_eveningLine_22 ?_
    refine g_aload_n 1 dX12_eveningLine_25 rfl ?_
    obtain ⟨u8, e9, hF⟩ := q_bind hF
    obtain ⟨x10, e11, hF⟩ := q_bind hF
    refine g_callVv0 (ci := 12) (q := (RX12, TX12, 49)) qm_X12_token wd_1642 wd_1644 wd_80 rfl e9 (M_X12_token l b D z nx e11) (As := []) rfl rfl (Nat.le_of_ble_eq_true rfl) ⟨(Nat.le_of_ble_eq_true rfl), (Nat.le_of_ble_eq_true rfl)⟩ ⟨rfl, rfl⟩ ⟨(Nat.le_of_ble_eq_true rfl), (Nat.le_of_ble_eq_true rfl)⟩ dX12_eveningLine_26 ?_
    refine g_aload_n 1 dX12_eveningLine_29 rfl ?_
    obtain ⟨x12, e13, hF⟩ := q_bind hF
    refine g_getfR fl_X12_41 e13 dX12_eveningLine_30 ?_
    refine g_iconst dX12_eveningLine_33 lt_iconst_1 ?_
    refine g_iconst dX12_eveningLine_34 lt_iconst_m1 ?_
    obtain ⟨h14, e15, hF⟩ := q_bind hF
    refine g_iast e15 dX12_eveningLine_35 ?_
    refine g_iload 0 dX12_eveningLine_36 rfl ?_
    refine g_iconst dX12_eveningLine_38 lt_iconst_3 ?_
    refine g_icmp_ge 64 dX12_eveningLine_39 (by decide) (fun c16 => ?_) (fun c16 => ?_)
    · replace hF := q_t c16 hF
      refine g_sub [1, 0] rfl ?_
      exact J_X12_eveningLine_64 l b D z hF
    · replace hF := q_f c16 hF
      refine g_aload_n 1 dX12_eveningLine_42 rfl ?_
      refine g_iconst dX12_eveningLine_43 lt_iconst_1 ?_
      refine g_iconst dX12_eveningLine_44 lt_iconst_0 ?_
      refine g_iload 0 dX12_eveningLine_45 rfl ?_
      refine g_if_ne 55 dX12_eveningLine_47 (by decide) (fun c17 => ?_) (fun c17 => ?_)
      · replace hF := q_f c17 hF
        refine g_iconst dX12_eveningLine_55 lt_iconst_5 ?_
        refine g_sub [1, 0] rfl ?_
        exact J_X12_eveningLine_56 l b D z hF
      · replace hF := q_t c17 hF
        refine g_bipush dX12_eveningLine_50 lt_bipush_19 ?_
        refine g_goto 56 dX12_eveningLine_52 (by decide) ?_
        refine g_sub [1, 0] rfl ?_
        exact J_X12_eveningLine_56 l b D z hF
  · replace hF := q_t c3 hF
    refine g_aload_n 1 dX12_eveningLine_12 rfl ?_
    obtain ⟨u18, e19, hF⟩ := q_bind hF
    obtain ⟨x20, e21, hF⟩ := q_bind hF
    refine g_callVr0 (ci := 12) (q := (RX12, TX12, 49)) qm_X12_fails wd_1668 wd_1670 wd_85 rfl e19 (M_X12_fails l b D z nx e21) (As := []) rfl rfl (Nat.le_of_ble_eq_true rfl) ⟨(Nat.le_of_ble_eq_true rfl), (Nat.le_of_ble_eq_true rfl)⟩ ⟨rfl, rfl⟩ ⟨(Nat.le_of_ble_eq_true rfl), (Nat.le_of_ble_eq_true rfl)⟩ dX12_eveningLine_13 ?_
    obtain ⟨u22, e23, hF⟩ := q_bind hF
    cases hF
    exact g_zret dX12_eveningLine_16 rfl (q_z_spec e23).2.1 ⟨rfl, rfl, rfl⟩ (Nat.le_of_ble_eq_true rfl) (Nat.le_of_ble_eq_true rfl)
def rm_X12_logLine : Room := { frames := 3, cells := 0, slots := 0, locals := 67 }
set_option maxRecDepth 100000 in
set_option maxHeartbeats 4000000 in
theorem J_X12_logLine_21 (l : Launch) (b : Nat) (D : va_G) (z : Nat → Nat) {nx : Nat} {h : qH} {a0 : Nat} {a1 : Int64} {a3 : Int32} {r : Int32 × qH} (hF : j_X12_logLine_21 h a0 a1 a3  = some r) : Go l b D z yX12_logLine cX12_logLine 4 (some .boolean) rm_X12_logLine (qE (some (.int r.1)) r.2 nx) 21 [(0, .ref a0), (1, .long a1), (3, .int a3)] [] h nx 0 0 := by
  unfold j_X12_logLine_21 at hF
  refine g_aload_n 0 dX12_logLine_21 rfl ?_
  refine g_iconst dX12_logLine_22 lt_iconst_0 ?_
  refine g_bipush dX12_logLine_23 lt_bipush_12 ?_
  refine g_iload_n 2 dX12_logLine_25 rfl ?_
  obtain ⟨u1, e2, hF⟩ := q_bind hF
  obtain ⟨x3, e4, hF⟩ := q_bind hF
  refine g_callVv0 (ci := 12) (q := (RX12, TX12, 49)) qm_X12_full wd_1672 wd_1674 wd_86 rfl e2 (M_X12_full l b D z nx e4) (As := [.int (0 : Int32), .int (12 : Int32), .int a3]) rfl rfl (Nat.le_of_ble_eq_true rfl) ⟨(Nat.le_of_ble_eq_true rfl), (Nat.le_of_ble_eq_true rfl)⟩ ⟨rfl, rfl⟩ ⟨(Nat.le_of_ble_eq_true rfl), (Nat.le_of_ble_eq_true rfl)⟩ dX12_logLine_26 ?_
  refine g_aload_n 0 dX12_logLine_29 rfl ?_
  obtain ⟨u5, e6, hF⟩ := q_bind hF
  obtain ⟨x7, e8, hF⟩ := q_bind hF
  refine g_callVv0 (ci := 12) (q := (RX12, TX12, 49)) qm_X12_token wd_1642 wd_1644 wd_80 rfl e6 (M_X12_token l b D z nx e8) (As := []) rfl rfl (Nat.le_of_ble_eq_true rfl) ⟨(Nat.le_of_ble_eq_true rfl), (Nat.le_of_ble_eq_true rfl)⟩ ⟨rfl, rfl⟩ ⟨(Nat.le_of_ble_eq_true rfl), (Nat.le_of_ble_eq_true rfl)⟩ dX12_logLine_30 ?_
  refine g_aload_n 0 dX12_logLine_33 rfl ?_
  obtain ⟨x9, e10, hF⟩ := q_bind hF
  refine g_getfR fl_X12_41 e10 dX12_logLine_34 ?_
  refine g_iconst dX12_logLine_37 lt_iconst_0 ?_
  refine g_bipush dX12_logLine_38 lt_bipush_6 ?_
  obtain ⟨h11, e12, hF⟩ := q_bind hF
  refine g_iast e12 dX12_logLine_40 ?_
  refine g_lload_n 1 dX12_logLine_41 rfl ?_
  refine g_ldc2 dX12_logLine_42 wd_1724 ?_
  refine g_lcmp dX12_logLine_45 ?_
  refine g_if_ne 61 dX12_logLine_46 (by decide) (fun c13 => ?_) (fun c13 => ?_)
  · replace hF := q_f c13 hF
    refine g_aload_n 0 dX12_logLine_61 rfl ?_
    refine g_iconst dX12_logLine_62 lt_iconst_1 ?_
    refine g_bipush dX12_logLine_63 lt_bipush_12 ?_
    obtain ⟨u14, e15, hF⟩ := q_bind hF
    obtain ⟨x16, e17, hF⟩ := q_bind hF
    refine g_callVv0 (ci := 12) (q := (RX12, TX12, 49)) qm_X12_keep wd_1716 wd_1718 wd_94 rfl e15 (M_X12_keep l b D z nx e17) (As := [.int (1 : Int32), .int (12 : Int32)]) rfl rfl (Nat.le_of_ble_eq_true rfl) ⟨(Nat.le_of_ble_eq_true rfl), (Nat.le_of_ble_eq_true rfl)⟩ ⟨rfl, rfl⟩ ⟨(Nat.le_of_ble_eq_true rfl), (Nat.le_of_ble_eq_true rfl)⟩ dX12_logLine_65 ?_
    refine g_iconst dX12_logLine_68 lt_iconst_1 ?_
    cases hF
    exact g_zret dX12_logLine_69 rfl zn_1 ⟨rfl, rfl, rfl⟩ (Nat.le_of_ble_eq_true rfl) (Nat.le_of_ble_eq_true rfl)
  · replace hF := q_t c13 hF
    refine g_aload_n 0 dX12_logLine_49 rfl ?_
    refine g_iconst dX12_logLine_50 lt_iconst_0 ?_
    refine g_iconst dX12_logLine_51 lt_iconst_0 ?_
    refine g_iconst dX12_logLine_52 lt_iconst_5 ?_
    obtain ⟨u18, e19, hF⟩ := q_bind hF
    obtain ⟨x20, e21, hF⟩ := q_bind hF
    refine g_callVr0 (ci := 12) (q := (RX12, TX12, 49)) qm_X12_take wd_1688 wd_1690 wd_90 rfl e19 (M_X12_take l b D z nx e21) (As := [.int (0 : Int32), .int (0 : Int32), .int (5 : Int32)]) rfl rfl (Nat.le_of_ble_eq_true rfl) ⟨(Nat.le_of_ble_eq_true rfl), (Nat.le_of_ble_eq_true rfl)⟩ ⟨rfl, rfl⟩ ⟨(Nat.le_of_ble_eq_true rfl), (Nat.le_of_ble_eq_true rfl)⟩ dX12_logLine_53 ?_
    refine g_if_ne 61 dX12_logLine_56 (by decide) (fun c22 => ?_) (fun c22 => ?_)
    · replace hF := q_f c22 hF
      refine g_aload_n 0 dX12_logLine_61 rfl ?_
      refine g_iconst dX12_logLine_62 lt_iconst_1 ?_
      refine g_bipush dX12_logLine_63 lt_bipush_12 ?_
      obtain ⟨u23, e24, hF⟩ := q_bind hF
      obtain ⟨x25, e26, hF⟩ := q_bind hF
      refine g_callVv0 (ci := 12) (q := (RX12, TX12, 49)) qm_X12_keep wd_1716 wd_1718 wd_94 rfl e24 (M_X12_keep l b D z nx e26) (As := [.int (1 : Int32), .int (12 : Int32)]) rfl rfl (Nat.le_of_ble_eq_true rfl) ⟨(Nat.le_of_ble_eq_true rfl), (Nat.le_of_ble_eq_true rfl)⟩ ⟨rfl, rfl⟩ ⟨(Nat.le_of_ble_eq_true rfl), (Nat.le_of_ble_eq_true rfl)⟩ dX12_logLine_65 ?_
      refine g_iconst dX12_logLine_68 lt_iconst_1 ?_
      cases hF
      exact g_zret dX12_logLine_69 rfl zn_1 ⟨rfl, rfl, rfl⟩ (Nat.le_of_ble_eq_true rfl) (Nat.le_of_ble_eq_true rfl)
    · replace hF := q_t c22 hF
      refine g_iconst dX12_logLine_59 lt_iconst_0 ?_
      cases hF
      exact g_zret dX12_logLine_60 rfl zn_0 ⟨rfl, rfl, rfl⟩ (Nat.le_of_ble_eq_true rfl) (Nat.le_of_ble_eq_true rfl)
set_option maxRecDepth 100000 in
set_option maxHeartbeats 4000000 in
theorem M_X12_logLine (l : Launch) (b : Nat) (D : va_G) (z : Nat → Nat) (nx : Nat) {h : qH} {a0 : Nat} {a1 : Int64} {a3 : Int32} {r : Int32 × qH} (hF : F_X12_logLine h a0 a1 a3 = some r) : Me l b D z yX12_logLine cX12_logLine 4 (some .boolean) rm_X12_logLine [.ref a0, .long a1, .int a3] h nx (qE (some (.int r.1)) r.2 nx) := by
  refine Me.of (by decide +kernel) (Nat.le_of_ble_eq_true rfl) ?_
  show Go l b D z yX12_logLine cX12_logLine 4 (some .boolean) rm_X12_logLine (qE (some (.int r.1)) r.2 nx) 0 [(0, .ref a0), (1, .long a1), (3, .int a3)] [] h nx 0 0
  unfold F_X12_logLine at hF
  refine g_lload_n 1 dX12_logLine_0 rfl ?_
  refine g_ldc2 dX12_logLine_1 wd_1724 ?_
  refine g_lcmp dX12_logLine_4 ?_
  refine g_if_eq 21 dX12_logLine_5 (by decide) (fun c1 => ?_) (fun c1 => ?_)
  · replace hF := q_t c1 hF
    exact J_X12_logLine_21 l b D z hF
  · replace hF := q_f c1 hF
    refine g_lload_n 1 dX12_logLine_8 rfl ?_
    refine g_ldc2 dX12_logLine_9 wd_1725 ?_
    refine g_lcmp dX12_logLine_12 ?_
    refine g_if_eq 21 dX12_logLine_13 (by decide) (fun c2 => ?_) (fun c2 => ?_)
    · replace hF := q_t c2 hF
      exact J_X12_logLine_21 l b D z hF
    · replace hF := q_f c2 hF
      refine g_aload_n 0 dX12_logLine_16 rfl ?_
      obtain ⟨u3, e4, hF⟩ := q_bind hF
      obtain ⟨x5, e6, hF⟩ := q_bind hF
      refine g_callVr0 (ci := 12) (q := (RX12, TX12, 49)) qm_X12_fails wd_1668 wd_1670 wd_85 rfl e4 (M_X12_fails l b D z nx e6) (As := []) rfl rfl (Nat.le_of_ble_eq_true rfl) ⟨(Nat.le_of_ble_eq_true rfl), (Nat.le_of_ble_eq_true rfl)⟩ ⟨rfl, rfl⟩ ⟨(Nat.le_of_ble_eq_true rfl), (Nat.le_of_ble_eq_true rfl)⟩ dX12_logLine_17 ?_
      obtain ⟨u7, e8, hF⟩ := q_bind hF
      cases hF
      exact g_zret dX12_logLine_20 rfl (q_z_spec e8).2.1 ⟨rfl, rfl, rfl⟩ (Nat.le_of_ble_eq_true rfl) (Nat.le_of_ble_eq_true rfl)
def rm_X12_townLine : Room := { frames := 4, cells := 0, slots := 0, locals := 90 }
set_option maxRecDepth 100000 in
set_option maxHeartbeats 4000000 in
theorem J_X12_townLine_183 (l : Launch) (b : Nat) (D : va_G) (z : Nat → Nat) {nx : Nat} {h : qH} {a0 : Nat} {t0 : Int32} {t1 : Nat} {r : Int32 × qH} (hF : j_X12_townLine_183 h a0 t0 t1 = some r) : Go l b D z yX12_townLine cX12_townLine 3 (some .boolean) rm_X12_townLine (qE (some (.int r.1)) r.2 nx) 183 [(0, .ref a0)] [.int t0, .ref t1] h nx 0 0 := by
  unfold j_X12_townLine_183 at hF
  refine g_aload_n 0 dX12_townLine_183 rfl ?_
  obtain ⟨x1, e2, hF⟩ := q_bind hF
  refine g_getfR fl_X12_41 e2 dX12_townLine_184 ?_
  refine g_iconst dX12_townLine_187 lt_iconst_0 ?_
  obtain ⟨x3, e4, hF⟩ := q_bind hF
  refine g_iald e4 dX12_townLine_188 ?_
  refine g_iadd dX12_townLine_189 ?_
  refine g_aload_n 0 dX12_townLine_190 rfl ?_
  obtain ⟨x5, e6, hF⟩ := q_bind hF
  refine g_getfR fl_X12_41 e6 dX12_townLine_191 ?_
  refine g_iconst dX12_townLine_194 lt_iconst_1 ?_
  obtain ⟨x7, e8, hF⟩ := q_bind hF
  refine g_iald e8 dX12_townLine_195 ?_
  obtain ⟨h9, e10, hF⟩ := q_bind hF
  refine g_iast e10 dX12_townLine_196 ?_
  refine g_iconst dX12_townLine_197 lt_iconst_1 ?_
  cases hF
  exact g_zret dX12_townLine_198 rfl zn_1 ⟨rfl, rfl, rfl⟩ (Nat.le_of_ble_eq_true rfl) (Nat.le_of_ble_eq_true rfl)
set_option maxRecDepth 100000 in
set_option maxHeartbeats 4000000 in
theorem J_X12_townLine_145 (l : Launch) (b : Nat) (D : va_G) (z : Nat → Nat) {nx : Nat} {h : qH} {a0 : Nat} {a1 : Int64} {r : Int32 × qH} (hF : j_X12_townLine_145 h a0 a1  = some r) : Go l b D z yX12_townLine cX12_townLine 3 (some .boolean) rm_X12_townLine (qE (some (.int r.1)) r.2 nx) 145 [(0, .ref a0), (1, .long a1)] [] h nx 0 0 := by
  unfold j_X12_townLine_145 at hF
  refine g_aload_n 0 dX12_townLine_145 rfl ?_
  obtain ⟨x1, e2, hF⟩ := q_bind hF
  refine g_getfI fl_X12_155 e2 dX12_townLine_146 ?_
  refine g_if_eq 197 dX12_townLine_149 (by decide) (fun c3 => ?_) (fun c3 => ?_)
  · replace hF := q_t c3 hF
    refine g_iconst dX12_townLine_197 lt_iconst_1 ?_
    cases hF
    exact g_zret dX12_townLine_198 rfl zn_1 ⟨rfl, rfl, rfl⟩ (Nat.le_of_ble_eq_true rfl) (Nat.le_of_ble_eq_true rfl)
  · replace hF := q_f c3 hF
    refine g_aload_n 0 dX12_townLine_152 rfl ?_
    obtain ⟨x4, e5, hF⟩ := q_bind hF
    refine g_getfR fl_X12_38 e5 dX12_townLine_153 ?_
    refine g_lload_n 1 dX12_townLine_156 rfl ?_
    refine g_ldc2 dX12_townLine_157 wd_1731 ?_
    refine g_lcmp dX12_townLine_160 ?_
    refine g_if_ne 168 dX12_townLine_161 (by decide) (fun c6 => ?_) (fun c6 => ?_)
    · replace hF := q_f c6 hF
      refine g_lload_n 1 dX12_townLine_168 rfl ?_
      refine g_ldc2 dX12_townLine_169 wd_1732 ?_
      refine g_lcmp dX12_townLine_172 ?_
      refine g_if_ne 181 dX12_townLine_173 (by decide) (fun c7 => ?_) (fun c7 => ?_)
      · replace hF := q_f c7 hF
        refine g_bipush dX12_townLine_181 lt_bipush_18 ?_
        refine g_sub [0] rfl ?_
        exact J_X12_townLine_183 l b D z hF
      · replace hF := q_t c7 hF
        refine g_bipush dX12_townLine_176 lt_bipush_9 ?_
        refine g_goto 183 dX12_townLine_178 (by decide) ?_
        refine g_sub [0] rfl ?_
        exact J_X12_townLine_183 l b D z hF
    · replace hF := q_t c6 hF
      refine g_iconst dX12_townLine_164 lt_iconst_1 ?_
      refine g_goto 183 dX12_townLine_165 (by decide) ?_
      refine g_sub [0] rfl ?_
      exact J_X12_townLine_183 l b D z hF
set_option maxRecDepth 100000 in
set_option maxHeartbeats 4000000 in
theorem J_X12_townLine_137 (l : Launch) (b : Nat) (D : va_G) (z : Nat → Nat) {nx : Nat} {h : qH} {a0 : Nat} {a1 : Int64} {t0 : Int32} {t1 : Int32} {t2 : Int32} {t3 : Nat} {r : Int32 × qH} (hF : j_X12_townLine_137 h a0 a1 t0 t1 t2 t3 = some r) : Go l b D z yX12_townLine cX12_townLine 3 (some .boolean) rm_X12_townLine (qE (some (.int r.1)) r.2 nx) 137 [(0, .ref a0), (1, .long a1)] [.int t0, .int t1, .int t2, .ref t3] h nx 0 0 := by
  unfold j_X12_townLine_137 at hF
  obtain ⟨u1, e2, hF⟩ := q_bind hF
  obtain ⟨x3, e4, hF⟩ := q_bind hF
  refine g_callVr0 (ci := 12) (q := (RX12, TX12, 49)) qm_X12_take wd_1688 wd_1690 wd_90 rfl e2 (M_X12_take l b D z nx e4) (As := [.int t2, .int t1, .int t0]) rfl rfl (Nat.le_of_ble_eq_true rfl) ⟨(Nat.le_of_ble_eq_true rfl), (Nat.le_of_ble_eq_true rfl)⟩ ⟨rfl, rfl⟩ ⟨(Nat.le_of_ble_eq_true rfl), (Nat.le_of_ble_eq_true rfl)⟩ dX12_townLine_137 ?_
  refine g_if_ne 145 dX12_townLine_140 (by decide) (fun c5 => ?_) (fun c5 => ?_)
  · replace hF := q_f c5 hF
    exact J_X12_townLine_145 l b D z hF
  · replace hF := q_t c5 hF
    refine g_iconst dX12_townLine_143 lt_iconst_0 ?_
    cases hF
    exact g_zret dX12_townLine_144 rfl zn_0 ⟨rfl, rfl, rfl⟩ (Nat.le_of_ble_eq_true rfl) (Nat.le_of_ble_eq_true rfl)
set_option maxRecDepth 100000 in
set_option maxHeartbeats 4000000 in
theorem J_X12_townLine_37 (l : Launch) (b : Nat) (D : va_G) (z : Nat → Nat) {nx : Nat} {h : qH} {a0 : Nat} {a1 : Int64} {r : Int32 × qH} (hF : j_X12_townLine_37 h a0 a1  = some r) : Go l b D z yX12_townLine cX12_townLine 3 (some .boolean) rm_X12_townLine (qE (some (.int r.1)) r.2 nx) 37 [(0, .ref a0), (1, .long a1)] [] h nx 0 0 := by
  unfold j_X12_townLine_37 at hF
  refine g_aload_n 0 dX12_townLine_37 rfl ?_
  obtain ⟨u1, e2, hF⟩ := q_bind hF
  obtain ⟨x3, e4, hF⟩ := q_bind hF
  refine g_callVv0 (ci := 12) (q := (RX12, TX12, 49)) qm_X12_token wd_1642 wd_1644 wd_80 rfl e2 (M_X12_token l b D z nx e4) (As := []) rfl rfl (Nat.le_of_ble_eq_true rfl) ⟨(Nat.le_of_ble_eq_true rfl), (Nat.le_of_ble_eq_true rfl)⟩ ⟨rfl, rfl⟩ ⟨(Nat.le_of_ble_eq_true rfl), (Nat.le_of_ble_eq_true rfl)⟩ dX12_townLine_38 ?_
  refine g_lload_n 1 dX12_townLine_41 rfl ?_
  refine g_ldc2 dX12_townLine_42 wd_1730 ?_
  refine g_lcmp dX12_townLine_45 ?_
  refine g_if_ne 76 dX12_townLine_46 (by decide) (fun c5 => ?_) (fun c5 => ?_)
  · replace hF := q_f c5 hF
    refine g_lload_n 1 dX12_townLine_76 rfl ?_
    refine g_ldc2 dX12_townLine_77 wd_1731 ?_
    refine g_lcmp dX12_townLine_80 ?_
    refine g_if_ne 109 dX12_townLine_81 (by decide) (fun c6 => ?_) (fun c6 => ?_)
    · replace hF := q_f c6 hF
      refine g_aload_n 0 dX12_townLine_109 rfl ?_
      refine g_iconst dX12_townLine_110 lt_iconst_0 ?_
      refine g_bipush dX12_townLine_111 lt_bipush_8 ?_
      refine g_iconst dX12_townLine_113 lt_iconst_0 ?_
      obtain ⟨u7, e8, hF⟩ := q_bind hF
      obtain ⟨x9, e10, hF⟩ := q_bind hF
      refine g_callVr0 (ci := 12) (q := (RX12, TX12, 49)) qm_X12_takeFar wd_1684 wd_1686 wd_89 rfl e8 (M_X12_takeFar l b D z nx e10) (As := [.int (0 : Int32), .int (8 : Int32), .int (0 : Int32)]) rfl rfl (Nat.le_of_ble_eq_true rfl) ⟨(Nat.le_of_ble_eq_true rfl), (Nat.le_of_ble_eq_true rfl)⟩ ⟨rfl, rfl⟩ ⟨(Nat.le_of_ble_eq_true rfl), (Nat.le_of_ble_eq_true rfl)⟩ dX12_townLine_114 ?_
      refine g_if_eq 143 dX12_townLine_117 (by decide) (fun c11 => ?_) (fun c11 => ?_)
      · replace hF := q_t c11 hF
        refine g_iconst dX12_townLine_143 lt_iconst_0 ?_
        cases hF
        exact g_zret dX12_townLine_144 rfl zn_0 ⟨rfl, rfl, rfl⟩ (Nat.le_of_ble_eq_true rfl) (Nat.le_of_ble_eq_true rfl)
      · replace hF := q_f c11 hF
        refine g_aload_n 0 dX12_townLine_120 rfl ?_
        refine g_iconst dX12_townLine_121 lt_iconst_1 ?_
        refine g_iconst dX12_townLine_122 lt_iconst_0 ?_
        refine g_lload_n 1 dX12_townLine_123 rfl ?_
        refine g_ldc2 dX12_townLine_124 wd_1732 ?_
        refine g_lcmp dX12_townLine_127 ?_
        refine g_if_ne 135 dX12_townLine_128 (by decide) (fun c12 => ?_) (fun c12 => ?_)
        · replace hF := q_f c12 hF
          refine g_bipush dX12_townLine_135 lt_bipush_9 ?_
          exact J_X12_townLine_137 l b D z hF
        · replace hF := q_t c12 hF
          refine g_iconst dX12_townLine_131 lt_iconst_1 ?_
          refine g_goto 137 dX12_townLine_132 (by decide) ?_
          exact J_X12_townLine_137 l b D z hF
    · replace hF := q_t c6 hF
      refine g_aload_n 0 dX12_townLine_84 rfl ?_
      refine g_iconst dX12_townLine_85 lt_iconst_0 ?_
      refine g_bipush dX12_townLine_86 lt_bipush_7 ?_
      refine g_iconst dX12_townLine_88 lt_iconst_1 ?_
      obtain ⟨u13, e14, hF⟩ := q_bind hF
      obtain ⟨x15, e16, hF⟩ := q_bind hF
      refine g_callVr0 (ci := 12) (q := (RX12, TX12, 49)) qm_X12_takeFar wd_1684 wd_1686 wd_89 rfl e14 (M_X12_takeFar l b D z nx e16) (As := [.int (0 : Int32), .int (7 : Int32), .int (1 : Int32)]) rfl rfl (Nat.le_of_ble_eq_true rfl) ⟨(Nat.le_of_ble_eq_true rfl), (Nat.le_of_ble_eq_true rfl)⟩ ⟨rfl, rfl⟩ ⟨(Nat.le_of_ble_eq_true rfl), (Nat.le_of_ble_eq_true rfl)⟩ dX12_townLine_89 ?_
      refine g_if_eq 143 dX12_townLine_92 (by decide) (fun c17 => ?_) (fun c17 => ?_)
      · replace hF := q_t c17 hF
        refine g_iconst dX12_townLine_143 lt_iconst_0 ?_
        cases hF
        exact g_zret dX12_townLine_144 rfl zn_0 ⟨rfl, rfl, rfl⟩ (Nat.le_of_ble_eq_true rfl) (Nat.le_of_ble_eq_true rfl)
      · replace hF := q_f c17 hF
        refine g_aload_n 0 dX12_townLine_95 rfl ?_
        refine g_iconst dX12_townLine_96 lt_iconst_1 ?_
        refine g_iconst dX12_townLine_97 lt_iconst_1 ?_
        refine g_bipush dX12_townLine_98 lt_bipush_9 ?_
        obtain ⟨u18, e19, hF⟩ := q_bind hF
        obtain ⟨x20, e21, hF⟩ := q_bind hF
        refine g_callVr0 (ci := 12) (q := (RX12, TX12, 49)) qm_X12_take wd_1688 wd_1690 wd_90 rfl e19 (M_X12_take l b D z nx e21) (As := [.int (1 : Int32), .int (1 : Int32), .int (9 : Int32)]) rfl rfl (Nat.le_of_ble_eq_true rfl) ⟨(Nat.le_of_ble_eq_true rfl), (Nat.le_of_ble_eq_true rfl)⟩ ⟨rfl, rfl⟩ ⟨(Nat.le_of_ble_eq_true rfl), (Nat.le_of_ble_eq_true rfl)⟩ dX12_townLine_100 ?_
        refine g_if_ne 145 dX12_townLine_103 (by decide) (fun c22 => ?_) (fun c22 => ?_)
        · replace hF := q_f c22 hF
          exact J_X12_townLine_145 l b D z hF
        · replace hF := q_t c22 hF
          refine g_goto 143 dX12_townLine_106 (by decide) ?_
          refine g_iconst dX12_townLine_143 lt_iconst_0 ?_
          cases hF
          exact g_zret dX12_townLine_144 rfl zn_0 ⟨rfl, rfl, rfl⟩ (Nat.le_of_ble_eq_true rfl) (Nat.le_of_ble_eq_true rfl)
  · replace hF := q_t c5 hF
    refine g_aload_n 0 dX12_townLine_49 rfl ?_
    refine g_iconst dX12_townLine_50 lt_iconst_0 ?_
    refine g_iconst dX12_townLine_51 lt_iconst_2 ?_
    refine g_bipush dX12_townLine_52 lt_bipush_9 ?_
    obtain ⟨u23, e24, hF⟩ := q_bind hF
    obtain ⟨x25, e26, hF⟩ := q_bind hF
    refine g_callVr0 (ci := 12) (q := (RX12, TX12, 49)) qm_X12_take wd_1688 wd_1690 wd_90 rfl e24 (M_X12_take l b D z nx e26) (As := [.int (0 : Int32), .int (2 : Int32), .int (9 : Int32)]) rfl rfl (Nat.le_of_ble_eq_true rfl) ⟨(Nat.le_of_ble_eq_true rfl), (Nat.le_of_ble_eq_true rfl)⟩ ⟨rfl, rfl⟩ ⟨(Nat.le_of_ble_eq_true rfl), (Nat.le_of_ble_eq_true rfl)⟩ dX12_townLine_54 ?_
    refine g_if_ne 62 dX12_townLine_57 (by decide) (fun c27 => ?_) (fun c27 => ?_)
    · replace hF := q_f c27 hF
      refine g_aload_n 0 dX12_townLine_62 rfl ?_
      obtain ⟨x28, e29, hF⟩ := q_bind hF
      refine g_getfR fl_X12_38 e29 dX12_townLine_63 ?_
      refine g_iconst dX12_townLine_66 lt_iconst_0 ?_
      refine g_aload_n 0 dX12_townLine_67 rfl ?_
      obtain ⟨x30, e31, hF⟩ := q_bind hF
      refine g_getfR fl_X12_41 e31 dX12_townLine_68 ?_
      refine g_iconst dX12_townLine_71 lt_iconst_0 ?_
      obtain ⟨x32, e33, hF⟩ := q_bind hF
      refine g_iald e33 dX12_townLine_72 ?_
      obtain ⟨h34, e35, hF⟩ := q_bind hF
      refine g_iast e35 dX12_townLine_73 ?_
      refine g_iconst dX12_townLine_74 lt_iconst_1 ?_
      cases hF
      exact g_zret dX12_townLine_75 rfl zn_1 ⟨rfl, rfl, rfl⟩ (Nat.le_of_ble_eq_true rfl) (Nat.le_of_ble_eq_true rfl)
    · replace hF := q_t c27 hF
      refine g_iconst dX12_townLine_60 lt_iconst_0 ?_
      cases hF
      exact g_zret dX12_townLine_61 rfl zn_0 ⟨rfl, rfl, rfl⟩ (Nat.le_of_ble_eq_true rfl) (Nat.le_of_ble_eq_true rfl)
set_option maxRecDepth 100000 in
set_option maxHeartbeats 4000000 in
theorem M_X12_townLine (l : Launch) (b : Nat) (D : va_G) (z : Nat → Nat) (nx : Nat) {h : qH} {a0 : Nat} {a1 : Int64} {r : Int32 × qH} (hF : F_X12_townLine h a0 a1 = some r) : Me l b D z yX12_townLine cX12_townLine 3 (some .boolean) rm_X12_townLine [.ref a0, .long a1] h nx (qE (some (.int r.1)) r.2 nx) := by
  refine Me.of (by decide +kernel) (Nat.le_of_ble_eq_true rfl) ?_
  show Go l b D z yX12_townLine cX12_townLine 3 (some .boolean) rm_X12_townLine (qE (some (.int r.1)) r.2 nx) 0 [(0, .ref a0), (1, .long a1)] [] h nx 0 0
  unfold F_X12_townLine at hF
  refine g_lload_n 1 dX12_townLine_0 rfl ?_
  refine g_ldc2 dX12_townLine_1 wd_1730 ?_
  refine g_lcmp dX12_townLine_4 ?_
  refine g_if_eq 37 dX12_townLine_5 (by decide) (fun c1 => ?_) (fun c1 => ?_)
  · replace hF := q_t c1 hF
    exact J_X12_townLine_37 l b D z hF
  · replace hF := q_f c1 hF
    refine g_lload_n 1 dX12_townLine_8 rfl ?_
    refine g_ldc2 dX12_townLine_9 wd_1731 ?_
    refine g_lcmp dX12_townLine_12 ?_
    refine g_if_eq 37 dX12_townLine_13 (by decide) (fun c2 => ?_) (fun c2 => ?_)
    · replace hF := q_t c2 hF
      exact J_X12_townLine_37 l b D z hF
    · replace hF := q_f c2 hF
      refine g_lload_n 1 dX12_townLine_16 rfl ?_
      refine g_ldc2 dX12_townLine_17 wd_1732 ?_
      refine g_lcmp dX12_townLine_20 ?_
      refine g_if_eq 37 dX12_townLine_21 (by decide) (fun c3 => ?_) (fun c3 => ?_)
      · replace hF := q_t c3 hF
        exact J_X12_townLine_37 l b D z hF
      · replace hF := q_f c3 hF
        refine g_lload_n 1 dX12_townLine_24 rfl ?_
        refine g_ldc2 dX12_townLine_25 wd_1733 ?_
        refine g_lcmp dX12_townLine_28 ?_
        refine g_if_eq 37 dX12_townLine_29 (by decide) (fun c4 => ?_) (fun c4 => ?_)
        · replace hF := q_t c4 hF
          exact J_X12_townLine_37 l b D z hF
        · replace hF := q_f c4 hF
          refine g_aload_n 0 dX12_townLine_32 rfl ?_
          obtain ⟨u5, e6, hF⟩ := q_bind hF
          obtain ⟨x7, e8, hF⟩ := q_bind hF
          refine g_callVr0 (ci := 12) (q := (RX12, TX12, 49)) qm_X12_fails wd_1668 wd_1670 wd_85 rfl e6 (M_X12_fails l b D z nx e8) (As := []) rfl rfl (Nat.le_of_ble_eq_true rfl) ⟨(Nat.le_of_ble_eq_true rfl), (Nat.le_of_ble_eq_true rfl)⟩ ⟨rfl, rfl⟩ ⟨(Nat.le_of_ble_eq_true rfl), (Nat.le_of_ble_eq_true rfl)⟩ dX12_townLine_33 ?_
          obtain ⟨u9, e10, hF⟩ := q_bind hF
          cases hF
          exact g_zret dX12_townLine_36 rfl (q_z_spec e10).2.1 ⟨rfl, rfl, rfl⟩ (Nat.le_of_ble_eq_true rfl) (Nat.le_of_ble_eq_true rfl)
def rm_X12_lineOf : Room := { frames := 6, cells := 0, slots := 0, locals := 135 }
set_option maxRecDepth 100000 in
set_option maxHeartbeats 4000000 in
theorem M_X12_lineOf (l : Launch) (b : Nat) (D : va_G) (z : Nat → Nat) (nx : Nat) {h : qH} {a0 : Nat} {a1 : Int32} {a2 : Int64} {a4 : Int32} {r : Int32 × qH} (hF : F_X12_lineOf h a0 a1 a2 a4 = some r) : Me l b D z yX12_lineOf cX12_lineOf 5 (some .boolean) rm_X12_lineOf [.ref a0, .int a1, .long a2, .int a4] h nx (qE (some (.int r.1)) r.2 nx) := by
  refine Me.of (by decide +kernel) (Nat.le_of_ble_eq_true rfl) ?_
  show Go l b D z yX12_lineOf cX12_lineOf 5 (some .boolean) rm_X12_lineOf (qE (some (.int r.1)) r.2 nx) 0 [(0, .ref a0), (1, .int a1), (2, .long a2), (4, .int a4)] [] h nx 0 0
  unfold F_X12_lineOf at hF
  refine g_iload_n 1 dX12_lineOf_0 rfl ?_
  by_cases c1 : a1 = 0
  · replace hF := q_t c1 hF
    refine g_tabIn (off := 27) 28 dX12_lineOf_1 (by rw [c1]; decide) (by rw [c1]; decide) (by rw [c1]; decide) (by decide) ?_
    refine g_aload_n 0 dX12_lineOf_28 rfl ?_
    refine g_lload_n 2 dX12_lineOf_29 rfl ?_
    refine g_iload 3 dX12_lineOf_30 rfl ?_
    obtain ⟨u2, e3, hF⟩ := q_bind hF
    obtain ⟨x4, e5, hF⟩ := q_bind hF
    refine g_callVr0 (ci := 12) (q := (RX12, TX12, 49)) qm_X12_bookLine wd_1658 wd_1660 wd_84 rfl e3 (M_X12_bookLine l b D z nx e5) (As := [.long a2, .int a4]) rfl rfl (Nat.le_of_ble_eq_true rfl) ⟨(Nat.le_of_ble_eq_true rfl), (Nat.le_of_ble_eq_true rfl)⟩ ⟨rfl, rfl⟩ ⟨(Nat.le_of_ble_eq_true rfl), (Nat.le_of_ble_eq_true rfl)⟩ dX12_lineOf_32 ?_
    obtain ⟨u6, e7, hF⟩ := q_bind hF
    cases hF
    exact g_zret dX12_lineOf_35 rfl (q_z_spec e7).2.1 ⟨rfl, rfl, rfl⟩ (Nat.le_of_ble_eq_true rfl) (Nat.le_of_ble_eq_true rfl)
  replace hF := q_f c1 hF
  by_cases c8 : a1 = 1
  · replace hF := q_t c8 hF
    refine g_tabIn (off := 35) 36 dX12_lineOf_1 (by rw [c8]; decide) (by rw [c8]; decide) (by rw [c8]; decide) (by decide) ?_
    refine g_aload_n 0 dX12_lineOf_36 rfl ?_
    refine g_lload_n 2 dX12_lineOf_37 rfl ?_
    refine g_iload 3 dX12_lineOf_38 rfl ?_
    obtain ⟨u9, e10, hF⟩ := q_bind hF
    obtain ⟨x11, e12, hF⟩ := q_bind hF
    refine g_callVr0 (ci := 12) (q := (RX12, TX12, 49)) qm_X12_eveningLine wd_1703 wd_1705 wd_93 rfl e10 (M_X12_eveningLine l b D z nx e12) (As := [.long a2, .int a4]) rfl rfl (Nat.le_of_ble_eq_true rfl) ⟨(Nat.le_of_ble_eq_true rfl), (Nat.le_of_ble_eq_true rfl)⟩ ⟨rfl, rfl⟩ ⟨(Nat.le_of_ble_eq_true rfl), (Nat.le_of_ble_eq_true rfl)⟩ dX12_lineOf_40 ?_
    obtain ⟨u13, e14, hF⟩ := q_bind hF
    cases hF
    exact g_zret dX12_lineOf_43 rfl (q_z_spec e14).2.1 ⟨rfl, rfl, rfl⟩ (Nat.le_of_ble_eq_true rfl) (Nat.le_of_ble_eq_true rfl)
  replace hF := q_f c8 hF
  by_cases c15 : a1 = 2
  · replace hF := q_t c15 hF
    refine g_tabIn (off := 43) 44 dX12_lineOf_1 (by rw [c15]; decide) (by rw [c15]; decide) (by rw [c15]; decide) (by decide) ?_
    refine g_aload_n 0 dX12_lineOf_44 rfl ?_
    refine g_lload_n 2 dX12_lineOf_45 rfl ?_
    refine g_iload 3 dX12_lineOf_46 rfl ?_
    obtain ⟨u16, e17, hF⟩ := q_bind hF
    obtain ⟨x18, e19, hF⟩ := q_bind hF
    refine g_callVr0 (ci := 12) (q := (RX12, TX12, 49)) qm_X12_logLine wd_1720 wd_1722 wd_95 rfl e17 (M_X12_logLine l b D z nx e19) (As := [.long a2, .int a4]) rfl rfl (Nat.le_of_ble_eq_true rfl) ⟨(Nat.le_of_ble_eq_true rfl), (Nat.le_of_ble_eq_true rfl)⟩ ⟨rfl, rfl⟩ ⟨(Nat.le_of_ble_eq_true rfl), (Nat.le_of_ble_eq_true rfl)⟩ dX12_lineOf_48 ?_
    obtain ⟨u20, e21, hF⟩ := q_bind hF
    cases hF
    exact g_zret dX12_lineOf_51 rfl (q_z_spec e21).2.1 ⟨rfl, rfl, rfl⟩ (Nat.le_of_ble_eq_true rfl) (Nat.le_of_ble_eq_true rfl)
  replace hF := q_f c15 hF
  refine g_tabOut 52 dX12_lineOf_1 ?_ (by decide) ?_
  · have t0 := lv_neT (a := 0) c1 (by decide); have t1 := lv_neT (a := 1) c8 (by decide); have t2 := lv_neT (a := 2) c15 (by decide); omega
  refine g_aload_n 0 dX12_lineOf_52 rfl ?_
  refine g_lload_n 2 dX12_lineOf_53 rfl ?_
  obtain ⟨u22, e23, hF⟩ := q_bind hF
  obtain ⟨x24, e25, hF⟩ := q_bind hF
  refine g_callVr0 (ci := 12) (q := (RX12, TX12, 49)) qm_X12_townLine wd_1726 wd_1728 wd_96 rfl e23 (M_X12_townLine l b D z nx e25) (As := [.long a2]) rfl rfl (Nat.le_of_ble_eq_true rfl) ⟨(Nat.le_of_ble_eq_true rfl), (Nat.le_of_ble_eq_true rfl)⟩ ⟨rfl, rfl⟩ ⟨(Nat.le_of_ble_eq_true rfl), (Nat.le_of_ble_eq_true rfl)⟩ dX12_lineOf_54 ?_
  obtain ⟨u26, e27, hF⟩ := q_bind hF
  cases hF
  exact g_zret dX12_lineOf_57 rfl (q_z_spec e27).2.1 ⟨rfl, rfl, rfl⟩ (Nat.le_of_ble_eq_true rfl) (Nat.le_of_ble_eq_true rfl)
def rm_X12_lines : Room := { frames := 7, cells := 0, slots := 0, locals := 159 }
set_option maxRecDepth 100000 in
set_option maxHeartbeats 4000000 in
theorem J_X12_lines_63 (l : Launch) (b : Nat) (D : va_G) (z : Nat → Nat) {Φ : Option Value → qH → Nat → Prop} {nx : Nat} {h : qH} {a0 : Nat} {a1 : Int32} {a2 : Int32} {o : (Int32 × qH) ⊕ ((Int32 × qH))} (hF : j_X12_lines_63 h a0 a1 a2  = some o) (hback : ∀ (b2 : Int32) (bh : qH), o = .inl (b2, bh) → Go l b D z yX12_lines cX12_lines 4 (some .boolean) rm_X12_lines Φ 2 [(0, .ref a0), (1, .int a1), (2, .int b2)] [] bh nx 0 0) (hx0 : ∀ (b2 : Int32) (bh : qH), o = .inr (b2, bh) → Go l b D z yX12_lines cX12_lines 4 (some .boolean) rm_X12_lines Φ 74 [(2, .int b2)] [] bh nx 0 0) : Go l b D z yX12_lines cX12_lines 4 (some .boolean) rm_X12_lines Φ 63 [(0, .ref a0), (1, .int a1), (2, .int a2)] [] h nx 0 0 := by
  unfold j_X12_lines_63 at hF
  refine g_iload_n 2 dX12_lines_63 rfl ?_
  refine g_if_eq 71 dX12_lines_64 (by decide) (fun c1 => ?_) (fun c1 => ?_)
  · replace hF := q_t c1 hF
    refine g_goto 2 dX12_lines_71 (by decide) ?_
    cases hF
    exact hback _ _ rfl
  · replace hF := q_f c1 hF
    refine g_aload_n 0 dX12_lines_67 rfl ?_
    obtain ⟨u2, e3, hF⟩ := q_bind hF
    obtain ⟨x4, e5, hF⟩ := q_bind hF
    refine g_callVv0 (ci := 12) (q := (RX12, TX12, 49)) qm_X12_token wd_1642 wd_1644 wd_80 rfl e3 (M_X12_token l b D z nx e5) (As := []) rfl rfl (Nat.le_of_ble_eq_true rfl) ⟨(Nat.le_of_ble_eq_true rfl), (Nat.le_of_ble_eq_true rfl)⟩ ⟨rfl, rfl⟩ ⟨(Nat.le_of_ble_eq_true rfl), (Nat.le_of_ble_eq_true rfl)⟩ dX12_lines_68 ?_
    refine g_goto 2 dX12_lines_71 (by decide) ?_
    cases hF
    exact hback _ _ rfl
set_option maxRecDepth 100000 in
set_option maxHeartbeats 4000000 in
theorem J_X12_lines_41 (l : Launch) (b : Nat) (D : va_G) (z : Nat → Nat) {Φ : Option Value → qH → Nat → Prop} {nx : Nat} {h : qH} {a0 : Nat} {a1 : Int32} {a3 : Int32} {t0 : Int64} {t1 : Int32} {t2 : Nat} {o : (Int32 × qH) ⊕ ((Int32 × qH))} (hF : j_X12_lines_41 h a0 a1 a3 t0 t1 t2 = some o) (hback : ∀ (b2 : Int32) (bh : qH), o = .inl (b2, bh) → Go l b D z yX12_lines cX12_lines 4 (some .boolean) rm_X12_lines Φ 2 [(0, .ref a0), (1, .int a1), (2, .int b2)] [] bh nx 0 0) (hx0 : ∀ (b2 : Int32) (bh : qH), o = .inr (b2, bh) → Go l b D z yX12_lines cX12_lines 4 (some .boolean) rm_X12_lines Φ 74 [(2, .int b2)] [] bh nx 0 0) : Go l b D z yX12_lines cX12_lines 4 (some .boolean) rm_X12_lines Φ 41 [(0, .ref a0), (1, .int a1), (3, .int a3)] [.long t0, .int t1, .ref t2] h nx 0 0 := by
  unfold j_X12_lines_41 at hF
  refine g_iload_n 2 dX12_lines_41 rfl ?_
  obtain ⟨u1, e2, hF⟩ := q_bind hF
  obtain ⟨x3, e4, hF⟩ := q_bind hF
  refine g_callVr0 (ci := 12) (q := (RX12, TX12, 49)) qm_X12_lineOf wd_1654 wd_1656 wd_83 rfl e2 (M_X12_lineOf l b D z nx e4) (As := [.int t1, .long t0, .int a3]) rfl rfl (Nat.le_of_ble_eq_true rfl) ⟨(Nat.le_of_ble_eq_true rfl), (Nat.le_of_ble_eq_true rfl)⟩ ⟨rfl, rfl⟩ ⟨(Nat.le_of_ble_eq_true rfl), (Nat.le_of_ble_eq_true rfl)⟩ dX12_lines_42 ?_
  refine g_istore_n [(2, .int x3.1), (0, .ref a0), (1, .int a1), (3, .int a3)] dX12_lines_45 (Nat.le_of_ble_eq_true rfl) rfl ?_
  refine g_iload_n 0 dX12_lines_46 rfl ?_
  refine g_if_eq 63 dX12_lines_47 (by decide) (fun c5 => ?_) (fun c5 => ?_)
  · replace hF := q_t c5 hF
    refine g_sub [1, 2, 0] rfl ?_
    exact J_X12_lines_63 l b D z hF hback hx0
  · replace hF := q_f c5 hF
    refine g_aload_n 1 dX12_lines_50 rfl ?_
    obtain ⟨x6, e7, hF⟩ := q_bind hF
    refine g_getfI fl_X12_132 e7 dX12_lines_51 ?_
    refine g_iconst dX12_lines_54 lt_iconst_4 ?_
    refine g_icmp_eq 63 dX12_lines_55 (by decide) (fun c8 => ?_) (fun c8 => ?_)
    · replace hF := q_t c8 hF
      refine g_sub [1, 2, 0] rfl ?_
      exact J_X12_lines_63 l b D z hF hback hx0
    · replace hF := q_f c8 hF
      refine g_aload_n 1 dX12_lines_58 rfl ?_
      obtain ⟨u9, e10, hF⟩ := q_bind hF
      obtain ⟨x11, e12, hF⟩ := q_bind hF
      refine g_callVr0 (ci := 12) (q := (RX12, TX12, 49)) qm_X12_fails wd_1668 wd_1670 wd_85 rfl e10 (M_X12_fails l b D z nx e12) (As := []) rfl rfl (Nat.le_of_ble_eq_true rfl) ⟨(Nat.le_of_ble_eq_true rfl), (Nat.le_of_ble_eq_true rfl)⟩ ⟨rfl, rfl⟩ ⟨(Nat.le_of_ble_eq_true rfl), (Nat.le_of_ble_eq_true rfl)⟩ dX12_lines_59 ?_
      refine g_istore_n [(2, .int x11.1), (0, .ref a0), (1, .int a1), (3, .int a3)] dX12_lines_62 (Nat.le_of_ble_eq_true rfl) rfl ?_
      refine g_sub [1, 2, 0] rfl ?_
      exact J_X12_lines_63 l b D z hF hback hx0
set_option maxRecDepth 100000 in
set_option maxHeartbeats 4000000 in
theorem J_X12_lines_41_2 (l : Launch) (b : Nat) (D : va_G) (z : Nat → Nat) {Φ : Option Value → qH → Nat → Prop} {nx : Nat} {h : qH} {a0 : Nat} {a1 : Int32} {a3 : Int32} {t0 : Int64} {t1 : Int32} {t2 : Nat} {o : (Int32 × qH) ⊕ ((Int32 × qH))} (hF : j_X12_lines_41_2 h a0 a1 a3 t0 t1 t2 = some o) (hback : ∀ (b2 : Int32) (bh : qH), o = .inl (b2, bh) → Go l b D z yX12_lines cX12_lines 4 (some .boolean) rm_X12_lines Φ 2 [(0, .ref a0), (1, .int a1), (2, .int b2)] [] bh nx 0 0) (hx0 : ∀ (b2 : Int32) (bh : qH), o = .inr (b2, bh) → Go l b D z yX12_lines cX12_lines 4 (some .boolean) rm_X12_lines Φ 74 [(2, .int b2)] [] bh nx 0 0) : Go l b D z yX12_lines cX12_lines 4 (some .boolean) rm_X12_lines Φ 41 [(0, .ref a0), (1, .int a1), (3, .int a3)] [.long t0, .int t1, .ref t2] h nx 0 0 := by
  unfold j_X12_lines_41_2 at hF
  refine g_iload_n 2 dX12_lines_41 rfl ?_
  obtain ⟨u1, e2, hF⟩ := q_bind hF
  obtain ⟨x3, e4, hF⟩ := q_bind hF
  refine g_callVr0 (ci := 12) (q := (RX12, TX12, 49)) qm_X12_lineOf wd_1654 wd_1656 wd_83 rfl e2 (M_X12_lineOf l b D z nx e4) (As := [.int t1, .long t0, .int a3]) rfl rfl (Nat.le_of_ble_eq_true rfl) ⟨(Nat.le_of_ble_eq_true rfl), (Nat.le_of_ble_eq_true rfl)⟩ ⟨rfl, rfl⟩ ⟨(Nat.le_of_ble_eq_true rfl), (Nat.le_of_ble_eq_true rfl)⟩ dX12_lines_42 ?_
  refine g_istore_n [(2, .int x3.1), (0, .ref a0), (1, .int a1), (3, .int a3)] dX12_lines_45 (Nat.le_of_ble_eq_true rfl) rfl ?_
  refine g_iload_n 0 dX12_lines_46 rfl ?_
  refine g_if_eq 63 dX12_lines_47 (by decide) (fun c5 => ?_) (fun c5 => ?_)
  · replace hF := q_t c5 hF
    refine g_sub [1, 2, 0] rfl ?_
    exact J_X12_lines_63 l b D z hF hback hx0
  · replace hF := q_f c5 hF
    refine g_aload_n 1 dX12_lines_50 rfl ?_
    obtain ⟨x6, e7, hF⟩ := q_bind hF
    refine g_getfI fl_X12_132 e7 dX12_lines_51 ?_
    refine g_iconst dX12_lines_54 lt_iconst_4 ?_
    refine g_icmp_eq 63 dX12_lines_55 (by decide) (fun c8 => ?_) (fun c8 => ?_)
    · replace hF := q_t c8 hF
      refine g_sub [1, 2, 0] rfl ?_
      exact J_X12_lines_63 l b D z hF hback hx0
    · replace hF := q_f c8 hF
      refine g_aload_n 1 dX12_lines_58 rfl ?_
      obtain ⟨u9, e10, hF⟩ := q_bind hF
      obtain ⟨x11, e12, hF⟩ := q_bind hF
      refine g_callVr0 (ci := 12) (q := (RX12, TX12, 49)) qm_X12_fails wd_1668 wd_1670 wd_85 rfl e10 (M_X12_fails l b D z nx e12) (As := []) rfl rfl (Nat.le_of_ble_eq_true rfl) ⟨(Nat.le_of_ble_eq_true rfl), (Nat.le_of_ble_eq_true rfl)⟩ ⟨rfl, rfl⟩ ⟨(Nat.le_of_ble_eq_true rfl), (Nat.le_of_ble_eq_true rfl)⟩ dX12_lines_59 ?_
      refine g_istore_n [(2, .int x11.1), (0, .ref a0), (1, .int a1), (3, .int a3)] dX12_lines_62 (Nat.le_of_ble_eq_true rfl) rfl ?_
      refine g_sub [1, 2, 0] rfl ?_
      exact J_X12_lines_63 l b D z hF hback hx0
set_option maxRecDepth 100000 in
set_option maxHeartbeats 4000000 in
theorem B_X12_lines_2 (l : Launch) (b : Nat) (D : va_G) (z : Nat → Nat) {Φ : Option Value → qH → Nat → Prop} {nx : Nat} {a0 : Nat} {a1 : Int32} {a2 : Int32} {h : qH} {o : (Int32 × qH) ⊕ ((Int32 × qH))} (hF : b_X12_lines_2 a0 a1 a2 h = some o) (hback : ∀ (b2 : Int32) (bh : qH), o = .inl (b2, bh) → Go l b D z yX12_lines cX12_lines 4 (some .boolean) rm_X12_lines Φ 2 [(0, .ref a0), (1, .int a1), (2, .int b2)] [] bh nx 0 0) (hx0 : ∀ (b2 : Int32) (bh : qH), o = .inr (b2, bh) → Go l b D z yX12_lines cX12_lines 4 (some .boolean) rm_X12_lines Φ 74 [(2, .int b2)] [] bh nx 0 0) : Go l b D z yX12_lines cX12_lines 4 (some .boolean) rm_X12_lines Φ 2 [(0, .ref a0), (1, .int a1), (2, .int a2)] [] h nx 0 0 := by
  unfold b_X12_lines_2 at hF
  refine g_iload_n 2 dX12_lines_2 rfl ?_
  refine g_if_eq 74 dX12_lines_3 (by decide) (fun c1 => ?_) (fun c1 => ?_)
  · replace hF := q_t c1 hF
    cases hF
    refine g_sub [2] rfl ?_
    exact hx0 _ _ rfl
  · replace hF := q_f c1 hF
    refine g_aload_n 0 dX12_lines_6 rfl ?_
    obtain ⟨x2, e3, hF⟩ := q_bind hF
    refine g_getfI fl_X12_132 e3 dX12_lines_7 ?_
    refine g_if_eq 74 dX12_lines_10 (by decide) (fun c4 => ?_) (fun c4 => ?_)
    · replace hF := q_t c4 hF
      cases hF
      refine g_sub [2] rfl ?_
      exact hx0 _ _ rfl
    · replace hF := q_f c4 hF
      refine g_aload_n 0 dX12_lines_13 rfl ?_
      obtain ⟨x5, e6, hF⟩ := q_bind hF
      refine g_getfI fl_X12_125 e6 dX12_lines_14 ?_
      refine g_istore_n [(3, .int x5), (0, .ref a0), (1, .int a1), (2, .int a2)] dX12_lines_17 (Nat.le_of_ble_eq_true rfl) rfl ?_
      refine g_aload_n 1 dX12_lines_18 rfl ?_
      refine g_iconst dX12_lines_19 lt_iconst_1 ?_
      obtain ⟨h7, e8, hF⟩ := q_bind hF
      refine g_putf fl_X12_155 e8 zn_1 zf_1 dX12_lines_20 ?_
      refine g_aload_n 1 dX12_lines_23 rfl ?_
      refine g_iload_n 2 dX12_lines_24 rfl ?_
      refine g_aload_n 1 dX12_lines_25 rfl ?_
      obtain ⟨x9, e10, hF⟩ := q_bind hF
      refine g_getfI fl_X12_132 e10 dX12_lines_26 ?_
      refine g_iconst dX12_lines_29 lt_iconst_2 ?_
      refine g_icmp_ne 40 dX12_lines_30 (by decide) (fun c11 => ?_) (fun c11 => ?_)
      · replace hF := q_f c11 hF
        refine g_lconst (v := 0) dX12_lines_40 (by decide +kernel) ?_
        refine g_sub [1, 2, 0] rfl ?_
        exact J_X12_lines_41 l b D z hF hback hx0
      · replace hF := q_t c11 hF
        refine g_aload_n 1 dX12_lines_33 rfl ?_
        obtain ⟨x12, e13, hF⟩ := q_bind hF
        refine g_getfL fl_X12_128 e13 dX12_lines_34 ?_
        refine g_goto 41 dX12_lines_37 (by decide) ?_
        refine g_sub [1, 2, 0] rfl ?_
        exact J_X12_lines_41_2 l b D z hF hback hx0
set_option maxRecDepth 100000 in
set_option maxHeartbeats 4000000 in
theorem L_X12_lines_2 (l : Launch) (b : Nat) (D : va_G) (z : Nat → Nat) {Φ : Option Value → qH → Nat → Prop} {nx : Nat} {a0 : Nat} {a1 : Int32} : ∀ (n : Nat) (a2 : Int32) (h : qH) (e : (Int32 × qH)), q_lp (s_X12_lines_2 a0 a1) n (a2, h) = some e → (∀ (b2 : Int32) (bh : qH), e = (b2, bh) → Go l b D z yX12_lines cX12_lines 4 (some .boolean) rm_X12_lines Φ 74 [(2, .int b2)] [] bh nx 0 0) → Go l b D z yX12_lines cX12_lines 4 (some .boolean) rm_X12_lines Φ 2 [(0, .ref a0), (1, .int a1), (2, .int a2)] [] h nx 0 0 := by
  intro n
  induction n with
  | zero => intro a2 h e he; cases (show none = some e from he)
  | succ n ih =>
    intro a2 h e he hx0
    obtain ⟨o, ho, h1, h2⟩ := q_lp_succ he
    exact B_X12_lines_2 l b D z (show b_X12_lines_2 a0 a1 a2 h = some o from ho) (fun b2 bh hb => ih _ _ e (h1 _ hb) hx0) (fun p0 p1 hr => hx0 p0 p1 (h2 _ hr).symm)
set_option maxRecDepth 100000 in
set_option maxHeartbeats 4000000 in
theorem M_X12_lines (l : Launch) (b : Nat) (D : va_G) (z : Nat → Nat) (nx : Nat) {h : qH} {a0 : Nat} {a1 : Int32} {r : Int32 × qH} (hF : F_X12_lines h a0 a1 = some r) : Me l b D z yX12_lines cX12_lines 4 (some .boolean) rm_X12_lines [.ref a0, .int a1] h nx (qE (some (.int r.1)) r.2 nx) := by
  refine Me.of (by decide +kernel) (Nat.le_of_ble_eq_true rfl) ?_
  show Go l b D z yX12_lines cX12_lines 4 (some .boolean) rm_X12_lines (qE (some (.int r.1)) r.2 nx) 0 [(0, .ref a0), (1, .int a1)] [] h nx 0 0
  unfold F_X12_lines at hF
  refine g_iconst dX12_lines_0 lt_iconst_1 ?_
  refine g_istore_n [(2, .int (1 : Int32)), (0, .ref a0), (1, .int a1)] dX12_lines_1 (Nat.le_of_ble_eq_true rfl) rfl ?_
  obtain ⟨e1, w2, hF⟩ := q_bind hF
  refine g_sub [1, 2, 0] rfl ?_
  refine L_X12_lines_2 l b D z q_N (1 : Int32) h e1 w2 ?_
  · intro o3 h4 w5
    replace w5 := w5.symm
    subst w5
    dsimp only at hF
    refine g_iload_n 0 dX12_lines_74 rfl ?_
    obtain ⟨u6, e7, hF⟩ := q_bind hF
    cases hF
    exact g_zret dX12_lines_75 rfl (q_z_spec e7).2.1 ⟨rfl, rfl, rfl⟩ (Nat.le_of_ble_eq_true rfl) (Nat.le_of_ble_eq_true rfl)
def rm_X12_blank : Room := { frames := 1, cells := 0, slots := 0, locals := 22 }
set_option maxRecDepth 100000 in
set_option maxHeartbeats 4000000 in
theorem J_X12_blank_47 (l : Launch) (b : Nat) (D : va_G) (z : Nat → Nat) {Φ : Option Value → qH → Nat → Prop} {nx : Nat} {h : qH} {a0 : Nat} {a1 : Int32} {a2 : Int32} {t0 : Int32} {t1 : Nat} {o : (Int32 × qH) ⊕ qH} (hF : j_X12_blank_47 h a0 a1 a2 t0 t1 = some o) (hback : ∀ (b2 : Int32) (bh : qH), o = .inl (b2, bh) → Go l b D z yX12_blank cX12_blank 3 none rm_X12_blank Φ 2 [(0, .ref a0), (1, .int a1), (2, .int b2)] [] bh nx 0 0) (hx0 : ∀  (bh : qH), o = .inr bh → Go l b D z yX12_blank cX12_blank 3 none rm_X12_blank Φ 75 [(0, .ref a0), (1, .int a1)] [] bh nx 0 0) : Go l b D z yX12_blank cX12_blank 3 none rm_X12_blank Φ 47 [(0, .ref a0), (1, .int a1), (2, .int a2)] [.int t0, .ref t1] h nx 0 0 := by
  unfold j_X12_blank_47 at hF
  refine g_iload_n 1 dX12_blank_47 rfl ?_
  refine g_iconst dX12_blank_48 lt_iconst_3 ?_
  refine g_icmp_ne 67 dX12_blank_49 (by decide) (fun c1 => ?_) (fun c1 => ?_)
  · replace hF := q_f c1 hF
    refine g_iconst dX12_blank_67 lt_iconst_0 ?_
    obtain ⟨h2, e3, hF⟩ := q_bind hF
    refine g_iast e3 dX12_blank_68 ?_
    refine g_iinc [(2, .int (a2 + 1)), (0, .ref a0), (1, .int a1)] 2 dX12_blank_69 rfl (congrArg (a2 + ·) lt_iconst_1) (Nat.le_of_ble_eq_true rfl) rfl ?_
    refine g_goto 2 dX12_blank_72 (by decide) ?_
    cases hF
    refine g_sub [1, 2, 0] rfl ?_
    exact hback _ _ rfl
  · replace hF := q_t c1 hF
    refine g_iload_n 2 dX12_blank_52 rfl ?_
    refine g_bipush dX12_blank_53 lt_bipush_18 ?_
    refine g_bipush dX12_blank_55 lt_bipush_26 ?_
    obtain ⟨x4, e5, hF⟩ := q_bind hF
    refine g_callSr0 qm_X12_in wd_1623 wd_1624 (M_X12_in l b D z nx e5) (As := [.int a2, .int (18 : Int32), .int (26 : Int32)]) rfl rfl (Nat.le_of_ble_eq_true rfl) ⟨(Nat.le_of_ble_eq_true rfl), (Nat.le_of_ble_eq_true rfl)⟩ ⟨rfl, rfl⟩ ⟨(Nat.le_of_ble_eq_true rfl), (Nat.le_of_ble_eq_true rfl)⟩ dX12_blank_57 ?_
    refine g_if_eq 67 dX12_blank_60 (by decide) (fun c6 => ?_) (fun c6 => ?_)
    · replace hF := q_t c6 hF
      refine g_iconst dX12_blank_67 lt_iconst_0 ?_
      obtain ⟨h7, e8, hF⟩ := q_bind hF
      refine g_iast e8 dX12_blank_68 ?_
      refine g_iinc [(2, .int (a2 + 1)), (0, .ref a0), (1, .int a1)] 2 dX12_blank_69 rfl (congrArg (a2 + ·) lt_iconst_1) (Nat.le_of_ble_eq_true rfl) rfl ?_
      refine g_goto 2 dX12_blank_72 (by decide) ?_
      cases hF
      refine g_sub [1, 2, 0] rfl ?_
      exact hback _ _ rfl
    · replace hF := q_f c6 hF
      refine g_iconst dX12_blank_63 lt_iconst_3 ?_
      refine g_goto 68 dX12_blank_64 (by decide) ?_
      obtain ⟨h9, e10, hF⟩ := q_bind hF
      refine g_iast e10 dX12_blank_68 ?_
      refine g_iinc [(2, .int (a2 + 1)), (0, .ref a0), (1, .int a1)] 2 dX12_blank_69 rfl (congrArg (a2 + ·) lt_iconst_1) (Nat.le_of_ble_eq_true rfl) rfl ?_
      refine g_goto 2 dX12_blank_72 (by decide) ?_
      cases hF
      refine g_sub [1, 2, 0] rfl ?_
      exact hback _ _ rfl
set_option maxRecDepth 100000 in
set_option maxHeartbeats 4000000 in
theorem J_X12_blank_28 (l : Launch) (b : Nat) (D : va_G) (z : Nat → Nat) {Φ : Option Value → qH → Nat → Prop} {nx : Nat} {h : qH} {a0 : Nat} {a1 : Int32} {a2 : Int32} {t0 : Int32} {t1 : Nat} {o : (Int32 × qH) ⊕ qH} (hF : j_X12_blank_28 h a0 a1 a2 t0 t1 = some o) (hback : ∀ (b2 : Int32) (bh : qH), o = .inl (b2, bh) → Go l b D z yX12_blank cX12_blank 3 none rm_X12_blank Φ 2 [(0, .ref a0), (1, .int a1), (2, .int b2)] [] bh nx 0 0) (hx0 : ∀  (bh : qH), o = .inr bh → Go l b D z yX12_blank cX12_blank 3 none rm_X12_blank Φ 75 [(0, .ref a0), (1, .int a1)] [] bh nx 0 0) : Go l b D z yX12_blank cX12_blank 3 none rm_X12_blank Φ 28 [(0, .ref a0), (1, .int a1), (2, .int a2)] [.int t0, .ref t1] h nx 0 0 := by
  unfold j_X12_blank_28 at hF
  refine g_iload_n 1 dX12_blank_28 rfl ?_
  refine g_iconst dX12_blank_29 lt_iconst_3 ?_
  refine g_icmp_ne 47 dX12_blank_30 (by decide) (fun c1 => ?_) (fun c1 => ?_)
  · replace hF := q_f c1 hF
    exact J_X12_blank_47 l b D z hF hback hx0
  · replace hF := q_t c1 hF
    refine g_iload_n 2 dX12_blank_33 rfl ?_
    refine g_iconst dX12_blank_34 lt_iconst_1 ?_
    refine g_bipush dX12_blank_35 lt_bipush_8 ?_
    obtain ⟨x2, e3, hF⟩ := q_bind hF
    refine g_callSr0 qm_X12_in wd_1623 wd_1624 (M_X12_in l b D z nx e3) (As := [.int a2, .int (1 : Int32), .int (8 : Int32)]) rfl rfl (Nat.le_of_ble_eq_true rfl) ⟨(Nat.le_of_ble_eq_true rfl), (Nat.le_of_ble_eq_true rfl)⟩ ⟨rfl, rfl⟩ ⟨(Nat.le_of_ble_eq_true rfl), (Nat.le_of_ble_eq_true rfl)⟩ dX12_blank_37 ?_
    refine g_if_eq 47 dX12_blank_40 (by decide) (fun c4 => ?_) (fun c4 => ?_)
    · replace hF := q_t c4 hF
      exact J_X12_blank_47 l b D z hF hback hx0
    · replace hF := q_f c4 hF
      refine g_iconst dX12_blank_43 lt_iconst_2 ?_
      refine g_goto 68 dX12_blank_44 (by decide) ?_
      obtain ⟨h5, e6, hF⟩ := q_bind hF
      refine g_iast e6 dX12_blank_68 ?_
      refine g_iinc [(2, .int (a2 + 1)), (0, .ref a0), (1, .int a1)] 2 dX12_blank_69 rfl (congrArg (a2 + ·) lt_iconst_1) (Nat.le_of_ble_eq_true rfl) rfl ?_
      refine g_goto 2 dX12_blank_72 (by decide) ?_
      cases hF
      refine g_sub [1, 2, 0] rfl ?_
      exact hback _ _ rfl
set_option maxRecDepth 100000 in
set_option maxHeartbeats 4000000 in
theorem B_X12_blank_2 (l : Launch) (b : Nat) (D : va_G) (z : Nat → Nat) {Φ : Option Value → qH → Nat → Prop} {nx : Nat} {a0 : Nat} {a1 : Int32} {a2 : Int32} {h : qH} {o : (Int32 × qH) ⊕ qH} (hF : b_X12_blank_2 a0 a1 a2 h = some o) (hback : ∀ (b2 : Int32) (bh : qH), o = .inl (b2, bh) → Go l b D z yX12_blank cX12_blank 3 none rm_X12_blank Φ 2 [(0, .ref a0), (1, .int a1), (2, .int b2)] [] bh nx 0 0) (hx0 : ∀  (bh : qH), o = .inr bh → Go l b D z yX12_blank cX12_blank 3 none rm_X12_blank Φ 75 [(0, .ref a0), (1, .int a1)] [] bh nx 0 0) : Go l b D z yX12_blank cX12_blank 3 none rm_X12_blank Φ 2 [(0, .ref a0), (1, .int a1), (2, .int a2)] [] h nx 0 0 := by
  unfold b_X12_blank_2 at hF
  refine g_iload_n 2 dX12_blank_2 rfl ?_
  refine g_bipush dX12_blank_3 lt_bipush_112 ?_
  refine g_icmp_ge 75 dX12_blank_5 (by decide) (fun c1 => ?_) (fun c1 => ?_)
  · replace hF := q_t c1 hF
    cases hF
    refine g_sub [0, 1] rfl ?_
    exact hx0 _ rfl
  · replace hF := q_f c1 hF
    refine g_aload_n 0 dX12_blank_8 rfl ?_
    obtain ⟨x2, e3, hF⟩ := q_bind hF
    refine g_getfR fl_X12_38 e3 dX12_blank_9 ?_
    refine g_iload_n 2 dX12_blank_12 rfl ?_
    refine g_iload_n 1 dX12_blank_13 rfl ?_
    refine g_if_ne 28 dX12_blank_14 (by decide) (fun c4 => ?_) (fun c4 => ?_)
    · replace hF := q_f c4 hF
      exact J_X12_blank_28 l b D z hF hback hx0
    · replace hF := q_t c4 hF
      refine g_iload_n 2 dX12_blank_17 rfl ?_
      refine g_bipush dX12_blank_18 lt_bipush_100 ?_
      refine g_bipush dX12_blank_20 lt_bipush_105 ?_
      obtain ⟨x5, e6, hF⟩ := q_bind hF
      refine g_callSr0 qm_X12_in wd_1623 wd_1624 (M_X12_in l b D z nx e6) (As := [.int a2, .int (100 : Int32), .int (105 : Int32)]) rfl rfl (Nat.le_of_ble_eq_true rfl) ⟨(Nat.le_of_ble_eq_true rfl), (Nat.le_of_ble_eq_true rfl)⟩ ⟨rfl, rfl⟩ ⟨(Nat.le_of_ble_eq_true rfl), (Nat.le_of_ble_eq_true rfl)⟩ dX12_blank_22 ?_
      refine g_if_ne 43 dX12_blank_25 (by decide) (fun c7 => ?_) (fun c7 => ?_)
      · replace hF := q_f c7 hF
        refine g_iconst dX12_blank_43 lt_iconst_2 ?_
        refine g_goto 68 dX12_blank_44 (by decide) ?_
        obtain ⟨h8, e9, hF⟩ := q_bind hF
        refine g_iast e9 dX12_blank_68 ?_
        refine g_iinc [(2, .int (a2 + 1)), (0, .ref a0), (1, .int a1)] 2 dX12_blank_69 rfl (congrArg (a2 + ·) lt_iconst_1) (Nat.le_of_ble_eq_true rfl) rfl ?_
        refine g_goto 2 dX12_blank_72 (by decide) ?_
        cases hF
        refine g_sub [1, 2, 0] rfl ?_
        exact hback _ _ rfl
      · replace hF := q_t c7 hF
        exact J_X12_blank_28 l b D z hF hback hx0
set_option maxRecDepth 100000 in
set_option maxHeartbeats 4000000 in
theorem L_X12_blank_2 (l : Launch) (b : Nat) (D : va_G) (z : Nat → Nat) {Φ : Option Value → qH → Nat → Prop} {nx : Nat} {a0 : Nat} {a1 : Int32} : ∀ (n : Nat) (a2 : Int32) (h : qH) (e : qH), q_lp (s_X12_blank_2 a0 a1) n (a2, h) = some e → (∀  (bh : qH), e = bh → Go l b D z yX12_blank cX12_blank 3 none rm_X12_blank Φ 75 [(0, .ref a0), (1, .int a1)] [] bh nx 0 0) → Go l b D z yX12_blank cX12_blank 3 none rm_X12_blank Φ 2 [(0, .ref a0), (1, .int a1), (2, .int a2)] [] h nx 0 0 := by
  intro n
  induction n with
  | zero => intro a2 h e he; cases (show none = some e from he)
  | succ n ih =>
    intro a2 h e he hx0
    obtain ⟨o, ho, h1, h2⟩ := q_lp_succ he
    exact B_X12_blank_2 l b D z (show b_X12_blank_2 a0 a1 a2 h = some o from ho) (fun b2 bh hb => ih _ _ e (h1 _ hb) hx0) (fun p0 hr => hx0 p0 (h2 _ hr).symm)
set_option maxRecDepth 100000 in
set_option maxHeartbeats 4000000 in
theorem J_X12_blank_110 (l : Launch) (b : Nat) (D : va_G) (z : Nat → Nat) {nx : Nat} {h : qH} {a0 : Nat} {a1 : Int32} {t0 : Int32} {t1 : Int32} {t2 : Nat} {r : qH} (hF : j_X12_blank_110 h a0 a1 t0 t1 t2 = some r) : Go l b D z yX12_blank cX12_blank 3 none rm_X12_blank (qE none r nx) 110 [(0, .ref a0), (1, .int a1)] [.int t0, .int t1, .ref t2] h nx 0 0 := by
  unfold j_X12_blank_110 at hF
  obtain ⟨h1, e2, hF⟩ := q_bind hF
  refine g_iast e2 dX12_blank_110 ?_
  refine g_aload_n 0 dX12_blank_111 rfl ?_
  obtain ⟨x3, e4, hF⟩ := q_bind hF
  refine g_getfR fl_X12_38 e4 dX12_blank_112 ?_
  refine g_iconst dX12_blank_115 lt_iconst_3 ?_
  refine g_iload_n 1 dX12_blank_116 rfl ?_
  refine g_if_ne 124 dX12_blank_117 (by decide) (fun c5 => ?_) (fun c5 => ?_)
  · replace hF := q_f c5 hF
    refine g_aload_n 0 dX12_blank_124 rfl ?_
    obtain ⟨x6, e7, hF⟩ := q_bind hF
    refine g_getfR fl_X12_38 e7 dX12_blank_125 ?_
    refine g_iconst dX12_blank_128 lt_iconst_3 ?_
    obtain ⟨x8, e9, hF⟩ := q_bind hF
    refine g_iald e9 dX12_blank_129 ?_
    obtain ⟨h10, e11, hF⟩ := q_bind hF
    refine g_iast e11 dX12_blank_130 ?_
    cases hF
    exact g_vret dX12_blank_131 rfl ⟨rfl, rfl, rfl⟩ (Nat.le_of_ble_eq_true rfl) (Nat.le_of_ble_eq_true rfl)
  · replace hF := q_t c5 hF
    refine g_iconst dX12_blank_120 lt_iconst_3 ?_
    refine g_goto 130 dX12_blank_121 (by decide) ?_
    obtain ⟨h12, e13, hF⟩ := q_bind hF
    refine g_iast e13 dX12_blank_130 ?_
    cases hF
    exact g_vret dX12_blank_131 rfl ⟨rfl, rfl, rfl⟩ (Nat.le_of_ble_eq_true rfl) (Nat.le_of_ble_eq_true rfl)
set_option maxRecDepth 100000 in
set_option maxHeartbeats 4000000 in
theorem J_X12_blank_90 (l : Launch) (b : Nat) (D : va_G) (z : Nat → Nat) {nx : Nat} {h : qH} {a0 : Nat} {a1 : Int32} {t0 : Int32} {t1 : Int32} {t2 : Nat} {r : qH} (hF : j_X12_blank_90 h a0 a1 t0 t1 t2 = some r) : Go l b D z yX12_blank cX12_blank 3 none rm_X12_blank (qE none r nx) 90 [(0, .ref a0), (1, .int a1)] [.int t0, .int t1, .ref t2] h nx 0 0 := by
  unfold j_X12_blank_90 at hF
  obtain ⟨h1, e2, hF⟩ := q_bind hF
  refine g_iast e2 dX12_blank_90 ?_
  refine g_aload_n 0 dX12_blank_91 rfl ?_
  obtain ⟨x3, e4, hF⟩ := q_bind hF
  refine g_getfR fl_X12_38 e4 dX12_blank_92 ?_
  refine g_iconst dX12_blank_95 lt_iconst_2 ?_
  refine g_iload_n 1 dX12_blank_96 rfl ?_
  refine g_if_ne 104 dX12_blank_97 (by decide) (fun c5 => ?_) (fun c5 => ?_)
  · replace hF := q_f c5 hF
    refine g_aload_n 0 dX12_blank_104 rfl ?_
    obtain ⟨x6, e7, hF⟩ := q_bind hF
    refine g_getfR fl_X12_38 e7 dX12_blank_105 ?_
    refine g_iconst dX12_blank_108 lt_iconst_2 ?_
    obtain ⟨x8, e9, hF⟩ := q_bind hF
    refine g_iald e9 dX12_blank_109 ?_
    exact J_X12_blank_110 l b D z hF
  · replace hF := q_t c5 hF
    refine g_iconst dX12_blank_100 lt_iconst_3 ?_
    refine g_goto 110 dX12_blank_101 (by decide) ?_
    exact J_X12_blank_110 l b D z hF
set_option maxRecDepth 100000 in
set_option maxHeartbeats 4000000 in
theorem M_X12_blank (l : Launch) (b : Nat) (D : va_G) (z : Nat → Nat) (nx : Nat) {h : qH} {a0 : Nat} {a1 : Int32} {r : qH} (hF : F_X12_blank h a0 a1 = some r) : Me l b D z yX12_blank cX12_blank 3 none rm_X12_blank [.ref a0, .int a1] h nx (qE none r nx) := by
  refine Me.of (by decide +kernel) (Nat.le_of_ble_eq_true rfl) ?_
  show Go l b D z yX12_blank cX12_blank 3 none rm_X12_blank (qE none r nx) 0 [(0, .ref a0), (1, .int a1)] [] h nx 0 0
  unfold F_X12_blank at hF
  refine g_iconst dX12_blank_0 lt_iconst_0 ?_
  refine g_istore_n [(2, .int (0 : Int32)), (0, .ref a0), (1, .int a1)] dX12_blank_1 (Nat.le_of_ble_eq_true rfl) rfl ?_
  obtain ⟨e1, w2, hF⟩ := q_bind hF
  refine g_sub [1, 2, 0] rfl ?_
  refine L_X12_blank_2 l b D z q_N (0 : Int32) h e1 w2 ?_
  · intro h3 w4
    replace w4 := w4.symm
    subst w4
    refine g_aload_n 0 dX12_blank_75 rfl ?_
    obtain ⟨x5, e6, hF⟩ := q_bind hF
    refine g_getfR fl_X12_38 e6 dX12_blank_76 ?_
    refine g_iconst dX12_blank_79 lt_iconst_0 ?_
    refine g_iload_n 1 dX12_blank_80 rfl ?_
    refine g_iconst dX12_blank_81 lt_iconst_3 ?_
    refine g_icmp_ne 89 dX12_blank_82 (by decide) (fun c7 => ?_) (fun c7 => ?_)
    · replace hF := q_f c7 hF
      refine g_iconst dX12_blank_89 lt_iconst_0 ?_
      exact J_X12_blank_90 l b D z hF
    · replace hF := q_t c7 hF
      refine g_iconst dX12_blank_85 lt_iconst_4 ?_
      refine g_goto 90 dX12_blank_86 (by decide) ?_
      exact J_X12_blank_90 l b D z hF
def rm_X12_readText : Room := { frames := 8, cells := 0, slots := 0, locals := 182 }
set_option maxRecDepth 100000 in
set_option maxHeartbeats 4000000 in
theorem J_X12_readText_121 (l : Launch) (b : Nat) (D : va_G) (z : Nat → Nat) {nx : Nat} {h : qH} {a0 : Nat} {t0 : Int32} {t1 : Int32} {t2 : Nat} {r : Int32 × qH} (hF : j_X12_readText_121 h a0 t0 t1 t2 = some r) : Go l b D z yX12_readText cX12_readText 3 (some .boolean) rm_X12_readText (qE (some (.int r.1)) r.2 nx) 121 [(0, .ref a0)] [.int t0, .int t1, .ref t2] h nx 0 0 := by
  unfold j_X12_readText_121 at hF
  obtain ⟨h1, e2, hF⟩ := q_bind hF
  refine g_iast e2 dX12_readText_121 ?_
  refine g_aload_n 0 dX12_readText_122 rfl ?_
  obtain ⟨x3, e4, hF⟩ := q_bind hF
  refine g_getfR fl_X12_17 e4 dX12_readText_123 ?_
  refine g_iconst dX12_readText_126 lt_iconst_0 ?_
  obtain ⟨x5, e6, hF⟩ := q_bind hF
  refine g_iald e6 dX12_readText_127 ?_
  refine g_if_ne 135 dX12_readText_128 (by decide) (fun c7 => ?_) (fun c7 => ?_)
  · replace hF := q_f c7 hF
    refine g_iconst dX12_readText_135 lt_iconst_0 ?_
    cases hF
    exact g_zret dX12_readText_136 rfl zn_0 ⟨rfl, rfl, rfl⟩ (Nat.le_of_ble_eq_true rfl) (Nat.le_of_ble_eq_true rfl)
  · replace hF := q_t c7 hF
    refine g_iconst dX12_readText_131 lt_iconst_1 ?_
    refine g_goto 136 dX12_readText_132 (by decide) ?_
    cases hF
    exact g_zret dX12_readText_136 rfl zn_1 ⟨rfl, rfl, rfl⟩ (Nat.le_of_ble_eq_true rfl) (Nat.le_of_ble_eq_true rfl)
set_option maxRecDepth 100000 in
set_option maxHeartbeats 4000000 in
theorem J_X12_readText_121_3 (l : Launch) (b : Nat) (D : va_G) (z : Nat → Nat) {nx : Nat} {h : qH} {a0 : Nat} {t0 : Int32} {t1 : Int32} {t2 : Nat} {r : Int32 × qH} (hF : j_X12_readText_121_3 h a0 t0 t1 t2 = some r) : Go l b D z yX12_readText cX12_readText 3 (some .boolean) rm_X12_readText (qE (some (.int r.1)) r.2 nx) 121 [(0, .ref a0)] [.int t0, .int t1, .ref t2] h nx 0 0 := by
  unfold j_X12_readText_121_3 at hF
  obtain ⟨h1, e2, hF⟩ := q_bind hF
  refine g_iast e2 dX12_readText_121 ?_
  refine g_aload_n 0 dX12_readText_122 rfl ?_
  obtain ⟨x3, e4, hF⟩ := q_bind hF
  refine g_getfR fl_X12_17 e4 dX12_readText_123 ?_
  refine g_iconst dX12_readText_126 lt_iconst_0 ?_
  obtain ⟨x5, e6, hF⟩ := q_bind hF
  refine g_iald e6 dX12_readText_127 ?_
  refine g_if_ne 135 dX12_readText_128 (by decide) (fun c7 => ?_) (fun c7 => ?_)
  · replace hF := q_f c7 hF
    refine g_iconst dX12_readText_135 lt_iconst_0 ?_
    cases hF
    exact g_zret dX12_readText_136 rfl zn_0 ⟨rfl, rfl, rfl⟩ (Nat.le_of_ble_eq_true rfl) (Nat.le_of_ble_eq_true rfl)
  · replace hF := q_t c7 hF
    refine g_iconst dX12_readText_131 lt_iconst_1 ?_
    refine g_goto 136 dX12_readText_132 (by decide) ?_
    cases hF
    exact g_zret dX12_readText_136 rfl zn_1 ⟨rfl, rfl, rfl⟩ (Nat.le_of_ble_eq_true rfl) (Nat.le_of_ble_eq_true rfl)
set_option maxRecDepth 100000 in
set_option maxHeartbeats 4000000 in
theorem J_X12_readText_89 (l : Launch) (b : Nat) (D : va_G) (z : Nat → Nat) {nx : Nat} {h : qH} {a0 : Nat} {a2 : Int32} {t0 : Int32} {t1 : Int32} {t2 : Nat} {r : Int32 × qH} (hF : j_X12_readText_89 h a0 a2 t0 t1 t2 = some r) : Go l b D z yX12_readText cX12_readText 3 (some .boolean) rm_X12_readText (qE (some (.int r.1)) r.2 nx) 89 [(0, .ref a0), (2, .int a2)] [.int t0, .int t1, .ref t2] h nx 0 0 := by
  unfold j_X12_readText_89 at hF
  obtain ⟨h1, e2, hF⟩ := q_bind hF
  refine g_iast e2 dX12_readText_89 ?_
  refine g_aload_n 0 dX12_readText_90 rfl ?_
  obtain ⟨x3, e4, hF⟩ := q_bind hF
  refine g_getfR fl_X12_20 e4 dX12_readText_91 ?_
  refine g_iconst dX12_readText_94 lt_iconst_0 ?_
  refine g_iload_n 1 dX12_readText_95 rfl ?_
  refine g_if_ne 106 dX12_readText_96 (by decide) (fun c5 => ?_) (fun c5 => ?_)
  · replace hF := q_f c5 hF
    refine g_aload_n 0 dX12_readText_106 rfl ?_
    obtain ⟨x6, e7, hF⟩ := q_bind hF
    refine g_getfI fl_X12_141 e7 dX12_readText_107 ?_
    refine g_if_le 120 dX12_readText_110 (by decide) (fun c8 => ?_) (fun c8 => ?_)
    · replace hF := q_t c8 hF
      refine g_iconst dX12_readText_120 lt_iconst_m1 ?_
      refine g_sub [0] rfl ?_
      exact J_X12_readText_121 l b D z hF
    · replace hF := q_f c8 hF
      refine g_aload_n 0 dX12_readText_113 rfl ?_
      obtain ⟨x9, e10, hF⟩ := q_bind hF
      refine g_getfI fl_X12_144 e10 dX12_readText_114 ?_
      refine g_goto 121 dX12_readText_117 (by decide) ?_
      refine g_sub [0] rfl ?_
      exact J_X12_readText_121_3 l b D z hF
  · replace hF := q_t c5 hF
    refine g_aload_n 0 dX12_readText_99 rfl ?_
    obtain ⟨x11, e12, hF⟩ := q_bind hF
    refine g_getfI fl_X12_138 e12 dX12_readText_100 ?_
    refine g_goto 121 dX12_readText_103 (by decide) ?_
    refine g_sub [0] rfl ?_
    exact J_X12_readText_121_3 l b D z hF
set_option maxRecDepth 100000 in
set_option maxHeartbeats 4000000 in
theorem J_X12_readText_89_4 (l : Launch) (b : Nat) (D : va_G) (z : Nat → Nat) {nx : Nat} {h : qH} {a0 : Nat} {a2 : Int32} {t0 : Int32} {t1 : Int32} {t2 : Nat} {r : Int32 × qH} (hF : j_X12_readText_89_4 h a0 a2 t0 t1 t2 = some r) : Go l b D z yX12_readText cX12_readText 3 (some .boolean) rm_X12_readText (qE (some (.int r.1)) r.2 nx) 89 [(0, .ref a0), (2, .int a2)] [.int t0, .int t1, .ref t2] h nx 0 0 := by
  unfold j_X12_readText_89_4 at hF
  obtain ⟨h1, e2, hF⟩ := q_bind hF
  refine g_iast e2 dX12_readText_89 ?_
  refine g_aload_n 0 dX12_readText_90 rfl ?_
  obtain ⟨x3, e4, hF⟩ := q_bind hF
  refine g_getfR fl_X12_20 e4 dX12_readText_91 ?_
  refine g_iconst dX12_readText_94 lt_iconst_0 ?_
  refine g_iload_n 1 dX12_readText_95 rfl ?_
  refine g_if_ne 106 dX12_readText_96 (by decide) (fun c5 => ?_) (fun c5 => ?_)
  · replace hF := q_f c5 hF
    refine g_aload_n 0 dX12_readText_106 rfl ?_
    obtain ⟨x6, e7, hF⟩ := q_bind hF
    refine g_getfI fl_X12_141 e7 dX12_readText_107 ?_
    refine g_if_le 120 dX12_readText_110 (by decide) (fun c8 => ?_) (fun c8 => ?_)
    · replace hF := q_t c8 hF
      refine g_iconst dX12_readText_120 lt_iconst_m1 ?_
      refine g_sub [0] rfl ?_
      exact J_X12_readText_121 l b D z hF
    · replace hF := q_f c8 hF
      refine g_aload_n 0 dX12_readText_113 rfl ?_
      obtain ⟨x9, e10, hF⟩ := q_bind hF
      refine g_getfI fl_X12_144 e10 dX12_readText_114 ?_
      refine g_goto 121 dX12_readText_117 (by decide) ?_
      refine g_sub [0] rfl ?_
      exact J_X12_readText_121_3 l b D z hF
  · replace hF := q_t c5 hF
    refine g_aload_n 0 dX12_readText_99 rfl ?_
    obtain ⟨x11, e12, hF⟩ := q_bind hF
    refine g_getfI fl_X12_138 e12 dX12_readText_100 ?_
    refine g_goto 121 dX12_readText_103 (by decide) ?_
    refine g_sub [0] rfl ?_
    exact J_X12_readText_121_3 l b D z hF
set_option maxRecDepth 100000 in
set_option maxHeartbeats 4000000 in
theorem J_X12_readText_72 (l : Launch) (b : Nat) (D : va_G) (z : Nat → Nat) {nx : Nat} {h : qH} {a0 : Nat} {a2 : Int32} {r : Int32 × qH} (hF : j_X12_readText_72 h a0 a2  = some r) : Go l b D z yX12_readText cX12_readText 3 (some .boolean) rm_X12_readText (qE (some (.int r.1)) r.2 nx) 72 [(0, .ref a0), (2, .int a2)] [] h nx 0 0 := by
  unfold j_X12_readText_72 at hF
  refine g_aload_n 0 dX12_readText_72 rfl ?_
  obtain ⟨x1, e2, hF⟩ := q_bind hF
  refine g_getfR fl_X12_17 e2 dX12_readText_73 ?_
  refine g_iconst dX12_readText_76 lt_iconst_0 ?_
  refine g_iload_n 1 dX12_readText_77 rfl ?_
  refine g_if_eq 88 dX12_readText_78 (by decide) (fun c3 => ?_) (fun c3 => ?_)
  · replace hF := q_t c3 hF
    refine g_iconst dX12_readText_88 lt_iconst_1 ?_
    exact J_X12_readText_89 l b D z hF
  · replace hF := q_f c3 hF
    refine g_aload_n 0 dX12_readText_81 rfl ?_
    obtain ⟨x4, e5, hF⟩ := q_bind hF
    refine g_getfI fl_X12_141 e5 dX12_readText_82 ?_
    refine g_goto 89 dX12_readText_85 (by decide) ?_
    exact J_X12_readText_89_4 l b D z hF
set_option maxRecDepth 100000 in
set_option maxHeartbeats 4000000 in
theorem J_X12_readText_50 (l : Launch) (b : Nat) (D : va_G) (z : Nat → Nat) {nx : Nat} {h : qH} {a0 : Nat} {a2 : Int32} {r : Int32 × qH} (hF : j_X12_readText_50 h a0 a2  = some r) : Go l b D z yX12_readText cX12_readText 3 (some .boolean) rm_X12_readText (qE (some (.int r.1)) r.2 nx) 50 [(0, .ref a0), (2, .int a2)] [] h nx 0 0 := by
  unfold j_X12_readText_50 at hF
  refine g_aload_n 0 dX12_readText_50 rfl ?_
  obtain ⟨x1, e2, hF⟩ := q_bind hF
  refine g_getfI fl_X12_165 e2 dX12_readText_51 ?_
  refine g_aload_n 0 dX12_readText_54 rfl ?_
  obtain ⟨x3, e4, hF⟩ := q_bind hF
  refine g_getfR fl_X12_38 e4 dX12_readText_55 ?_
  refine g_iconst dX12_readText_58 lt_iconst_0 ?_
  obtain ⟨x5, e6, hF⟩ := q_bind hF
  refine g_iald e6 dX12_readText_59 ?_
  refine g_icmp_lt 72 dX12_readText_60 (by decide) (fun c7 => ?_) (fun c7 => ?_)
  · replace hF := q_t c7 hF
    exact J_X12_readText_72 l b D z hF
  · replace hF := q_f c7 hF
    refine g_aload_n 0 dX12_readText_63 rfl ?_
    refine g_iconst dX12_readText_64 lt_iconst_4 ?_
    refine g_aload_n 0 dX12_readText_65 rfl ?_
    obtain ⟨x8, e9, hF⟩ := q_bind hF
    refine g_getfI fl_X12_125 e9 dX12_readText_66 ?_
    obtain ⟨u10, e11, hF⟩ := q_bind hF
    obtain ⟨x12, e13, hF⟩ := q_bind hF
    refine g_callVv0 (ci := 12) (q := (RX12, TX12, 49)) qm_X12_later wd_1676 wd_1678 wd_87 rfl e11 (M_X12_later l b D z nx e13) (As := [.int (4 : Int32), .int x8]) rfl rfl (Nat.le_of_ble_eq_true rfl) ⟨(Nat.le_of_ble_eq_true rfl), (Nat.le_of_ble_eq_true rfl)⟩ ⟨rfl, rfl⟩ ⟨(Nat.le_of_ble_eq_true rfl), (Nat.le_of_ble_eq_true rfl)⟩ dX12_readText_69 ?_
    exact J_X12_readText_72 l b D z hF
set_option maxRecDepth 100000 in
set_option maxHeartbeats 4000000 in
theorem M_X12_readText (l : Launch) (b : Nat) (D : va_G) (z : Nat → Nat) (nx : Nat) {h : qH} {a0 : Nat} {a1 : Int32} {r : Int32 × qH} (hF : F_X12_readText h a0 a1 = some r) : Me l b D z yX12_readText cX12_readText 3 (some .boolean) rm_X12_readText [.ref a0, .int a1] h nx (qE (some (.int r.1)) r.2 nx) := by
  refine Me.of (by decide +kernel) (Nat.le_of_ble_eq_true rfl) ?_
  show Go l b D z yX12_readText cX12_readText 3 (some .boolean) rm_X12_readText (qE (some (.int r.1)) r.2 nx) 0 [(0, .ref a0), (1, .int a1)] [] h nx 0 0
  unfold F_X12_readText at hF
  refine g_aload_n 0 dX12_readText_0 rfl ?_
  refine g_iload_n 1 dX12_readText_1 rfl ?_
  obtain ⟨u1, e2, hF⟩ := q_bind hF
  obtain ⟨x3, e4, hF⟩ := q_bind hF
  refine g_callVv0 (ci := 12) (q := (RX12, TX12, 49)) qm_X12_blank wd_1638 wd_1640 wd_79 rfl e2 (M_X12_blank l b D z nx e4) (As := [.int a1]) rfl rfl (Nat.le_of_ble_eq_true rfl) ⟨(Nat.le_of_ble_eq_true rfl), (Nat.le_of_ble_eq_true rfl)⟩ ⟨rfl, rfl⟩ ⟨(Nat.le_of_ble_eq_true rfl), (Nat.le_of_ble_eq_true rfl)⟩ dX12_readText_2 ?_
  refine g_aload_n 0 dX12_readText_5 rfl ?_
  refine g_iconst dX12_readText_6 lt_iconst_m1 ?_
  obtain ⟨h5, e6, hF⟩ := q_bind hF
  refine g_putf fl_X12_165 e6 rfl rfl dX12_readText_7 ?_
  refine g_aload_n 0 dX12_readText_10 rfl ?_
  refine g_iconst dX12_readText_11 lt_iconst_0 ?_
  obtain ⟨h7, e8, hF⟩ := q_bind hF
  refine g_putf fl_X12_115 e8 rfl rfl dX12_readText_12 ?_
  refine g_aload_n 0 dX12_readText_15 rfl ?_
  refine g_iconst dX12_readText_16 lt_iconst_0 ?_
  obtain ⟨h9, e10, hF⟩ := q_bind hF
  refine g_putf fl_X12_141 e10 rfl rfl dX12_readText_17 ?_
  refine g_aload_n 0 dX12_readText_20 rfl ?_
  obtain ⟨u11, e12, hF⟩ := q_bind hF
  obtain ⟨x13, e14, hF⟩ := q_bind hF
  refine g_callVv0 (ci := 12) (q := (RX12, TX12, 49)) qm_X12_token wd_1642 wd_1644 wd_80 rfl e12 (M_X12_token l b D z nx e14) (As := []) rfl rfl (Nat.le_of_ble_eq_true rfl) ⟨(Nat.le_of_ble_eq_true rfl), (Nat.le_of_ble_eq_true rfl)⟩ ⟨rfl, rfl⟩ ⟨(Nat.le_of_ble_eq_true rfl), (Nat.le_of_ble_eq_true rfl)⟩ dX12_readText_21 ?_
  refine g_aload_n 0 dX12_readText_24 rfl ?_
  refine g_iload_n 1 dX12_readText_25 rfl ?_
  obtain ⟨u15, e16, hF⟩ := q_bind hF
  obtain ⟨x17, e18, hF⟩ := q_bind hF
  refine g_callVr0 (ci := 12) (q := (RX12, TX12, 49)) qm_X12_lines wd_1650 wd_1652 wd_82 rfl e16 (M_X12_lines l b D z nx e18) (As := [.int a1]) rfl rfl (Nat.le_of_ble_eq_true rfl) ⟨(Nat.le_of_ble_eq_true rfl), (Nat.le_of_ble_eq_true rfl)⟩ ⟨rfl, rfl⟩ ⟨(Nat.le_of_ble_eq_true rfl), (Nat.le_of_ble_eq_true rfl)⟩ dX12_readText_26 ?_
  refine g_istore_n [(2, .int x17.1), (0, .ref a0), (1, .int a1)] dX12_readText_29 (Nat.le_of_ble_eq_true rfl) rfl ?_
  refine g_iload_n 0 dX12_readText_30 rfl ?_
  refine g_if_eq 72 dX12_readText_31 (by decide) (fun c19 => ?_) (fun c19 => ?_)
  · replace hF := q_t c19 hF
    refine g_sub [1, 0] rfl ?_
    exact J_X12_readText_72 l b D z hF
  · replace hF := q_f c19 hF
    refine g_aload_n 1 dX12_readText_34 rfl ?_
    obtain ⟨x20, e21, hF⟩ := q_bind hF
    refine g_getfI fl_X12_141 e21 dX12_readText_35 ?_
    refine g_if_ne 72 dX12_readText_38 (by decide) (fun c22 => ?_) (fun c22 => ?_)
    · replace hF := q_f c22 hF
      refine g_sub [1, 0] rfl ?_
      exact J_X12_readText_72 l b D z hF
    · replace hF := q_t c22 hF
      refine g_iload_n 2 dX12_readText_41 rfl ?_
      refine g_if_eq 50 dX12_readText_42 (by decide) (fun c23 => ?_) (fun c23 => ?_)
      · replace hF := q_t c23 hF
        refine g_sub [1, 0] rfl ?_
        exact J_X12_readText_50 l b D z hF
      · replace hF := q_f c23 hF
        refine g_iload_n 2 dX12_readText_45 rfl ?_
        refine g_iconst dX12_readText_46 lt_iconst_3 ?_
        refine g_icmp_ne 72 dX12_readText_47 (by decide) (fun c24 => ?_) (fun c24 => ?_)
        · replace hF := q_f c24 hF
          refine g_sub [1, 0] rfl ?_
          exact J_X12_readText_72 l b D z hF
        · replace hF := q_t c24 hF
          refine g_sub [1, 0] rfl ?_
          exact J_X12_readText_50 l b D z hF
def rm_X12_store : Room := { frames := 0, cells := 0, slots := 0, locals := 0 }
set_option maxRecDepth 100000 in
set_option maxHeartbeats 4000000 in
theorem B_X12_store_3 (l : Launch) (b : Nat) (D : va_G) (z : Nat → Nat) {Φ : Option Value → qH → Nat → Prop} {nx : Nat} {a0 : Nat} {a1 : Nat} {a2 : Int32} {a3 : Int32} {a4 : Int32} {h : qH} {o : (Int32 × qH) ⊕ qH} (hF : b_X12_store_3 a0 a1 a2 a3 a4 h = some o) (hback : ∀ (b4 : Int32) (bh : qH), o = .inl (b4, bh) → Go l b D z yX12_store cX12_store 5 none rm_X12_store Φ 3 [(0, .ref a0), (1, .ref a1), (2, .int a2), (3, .int a3), (4, .int b4)] [] bh nx 0 0) (hx0 : ∀  (bh : qH), o = .inr bh → Go l b D z yX12_store cX12_store 5 none rm_X12_store Φ 30 [] [] bh nx 0 0) : Go l b D z yX12_store cX12_store 5 none rm_X12_store Φ 3 [(0, .ref a0), (1, .ref a1), (2, .int a2), (3, .int a3), (4, .int a4)] [] h nx 0 0 := by
  unfold b_X12_store_3 at hF
  refine g_iload 4 dX12_store_3 rfl ?_
  refine g_iload_n 2 dX12_store_5 rfl ?_
  refine g_icmp_ge 30 dX12_store_6 (by decide) (fun c1 => ?_) (fun c1 => ?_)
  · replace hF := q_t c1 hF
    cases hF
    refine g_sub [] rfl ?_
    exact hx0 _ rfl
  · replace hF := q_f c1 hF
    refine g_aload_n 1 dX12_store_9 rfl ?_
    refine g_iload_n 2 dX12_store_10 rfl ?_
    refine g_iload_n 3 dX12_store_11 rfl ?_
    refine g_imul dX12_store_12 ?_
    refine g_iload 4 dX12_store_13 rfl ?_
    refine g_iadd dX12_store_15 ?_
    refine g_aload_n 0 dX12_store_16 rfl ?_
    obtain ⟨x2, e3, hF⟩ := q_bind hF
    refine g_getfR fl_X12_38 e3 dX12_store_17 ?_
    refine g_iload 4 dX12_store_20 rfl ?_
    obtain ⟨x4, e5, hF⟩ := q_bind hF
    refine g_iald e5 dX12_store_22 ?_
    obtain ⟨h6, e7, hF⟩ := q_bind hF
    refine g_iast e7 dX12_store_23 ?_
    refine g_iinc [(4, .int (a4 + 1)), (0, .ref a0), (1, .ref a1), (2, .int a2), (3, .int a3)] 4 dX12_store_24 rfl (congrArg (a4 + ·) lt_iconst_1) (Nat.le_of_ble_eq_true rfl) rfl ?_
    refine g_goto 3 dX12_store_27 (by decide) ?_
    cases hF
    refine g_sub [1, 2, 3, 4, 0] rfl ?_
    exact hback _ _ rfl
set_option maxRecDepth 100000 in
set_option maxHeartbeats 4000000 in
theorem L_X12_store_3 (l : Launch) (b : Nat) (D : va_G) (z : Nat → Nat) {Φ : Option Value → qH → Nat → Prop} {nx : Nat} {a0 : Nat} {a1 : Nat} {a2 : Int32} {a3 : Int32} : ∀ (n : Nat) (a4 : Int32) (h : qH) (e : qH), q_lp (s_X12_store_3 a0 a1 a2 a3) n (a4, h) = some e → (∀  (bh : qH), e = bh → Go l b D z yX12_store cX12_store 5 none rm_X12_store Φ 30 [] [] bh nx 0 0) → Go l b D z yX12_store cX12_store 5 none rm_X12_store Φ 3 [(0, .ref a0), (1, .ref a1), (2, .int a2), (3, .int a3), (4, .int a4)] [] h nx 0 0 := by
  intro n
  induction n with
  | zero => intro a4 h e he; cases (show none = some e from he)
  | succ n ih =>
    intro a4 h e he hx0
    obtain ⟨o, ho, h1, h2⟩ := q_lp_succ he
    exact B_X12_store_3 l b D z (show b_X12_store_3 a0 a1 a2 a3 a4 h = some o from ho) (fun b4 bh hb => ih _ _ e (h1 _ hb) hx0) (fun p0 hr => hx0 p0 (h2 _ hr).symm)
set_option maxRecDepth 100000 in
set_option maxHeartbeats 4000000 in
theorem M_X12_store (l : Launch) (b : Nat) (D : va_G) (z : Nat → Nat) (nx : Nat) {h : qH} {a0 : Nat} {a1 : Nat} {a2 : Int32} {a3 : Int32} {r : qH} (hF : F_X12_store h a0 a1 a2 a3 = some r) : Me l b D z yX12_store cX12_store 5 none rm_X12_store [.ref a0, .ref a1, .int a2, .int a3] h nx (qE none r nx) := by
  refine Me.of (by decide +kernel) (Nat.le_of_ble_eq_true rfl) ?_
  show Go l b D z yX12_store cX12_store 5 none rm_X12_store (qE none r nx) 0 [(0, .ref a0), (1, .ref a1), (2, .int a2), (3, .int a3)] [] h nx 0 0
  unfold F_X12_store at hF
  refine g_iconst dX12_store_0 lt_iconst_0 ?_
  refine g_istore [(4, .int (0 : Int32)), (0, .ref a0), (1, .ref a1), (2, .int a2), (3, .int a3)] dX12_store_1 (Nat.le_of_ble_eq_true rfl) rfl ?_
  obtain ⟨e1, w2, hF⟩ := q_bind hF
  refine g_sub [1, 2, 3, 4, 0] rfl ?_
  refine L_X12_store_3 l b D z q_N (0 : Int32) h e1 w2 ?_
  · intro h3 w4
    replace w4 := w4.symm
    subst w4
    cases hF
    exact g_vret dX12_store_30 rfl ⟨rfl, rfl, rfl⟩ (Nat.le_of_ble_eq_true rfl) (Nat.le_of_ble_eq_true rfl)
def rm_X12_storeAll : Room := { frames := 1, cells := 0, slots := 0, locals := 24 }
set_option maxRecDepth 100000 in
set_option maxHeartbeats 4000000 in
theorem M_X12_storeAll (l : Launch) (b : Nat) (D : va_G) (z : Nat → Nat) (nx : Nat) {h : qH} {a0 : Nat} {a1 : Int32} {a2 : Int32} {r : qH} (hF : F_X12_storeAll h a0 a1 a2 = some r) : Me l b D z yX12_storeAll cX12_storeAll 3 none rm_X12_storeAll [.ref a0, .int a1, .int a2] h nx (qE none r nx) := by
  refine Me.of (by decide +kernel) (Nat.le_of_ble_eq_true rfl) ?_
  show Go l b D z yX12_storeAll cX12_storeAll 3 none rm_X12_storeAll (qE none r nx) 0 [(0, .ref a0), (1, .int a1), (2, .int a2)] [] h nx 0 0
  unfold F_X12_storeAll at hF
  refine g_iload_n 1 dX12_storeAll_0 rfl ?_
  by_cases c1 : a1 = 0
  · replace hF := q_t c1 hF
    refine g_tabIn (off := 27) 28 dX12_storeAll_1 (by rw [c1]; decide) (by rw [c1]; decide) (by rw [c1]; decide) (by decide) ?_
    refine g_aload_n 0 dX12_storeAll_28 rfl ?_
    refine g_aload_n 0 dX12_storeAll_29 rfl ?_
    obtain ⟨x2, e3, hF⟩ := q_bind hF
    refine g_getfR fl_X12_26 e3 dX12_storeAll_30 ?_
    refine g_bipush dX12_storeAll_33 lt_bipush_112 ?_
    refine g_iload_n 2 dX12_storeAll_35 rfl ?_
    obtain ⟨u4, e5, hF⟩ := q_bind hF
    obtain ⟨x6, e7, hF⟩ := q_bind hF
    refine g_callVv0 (ci := 12) (q := (RX12, TX12, 49)) qm_X12_store wd_1738 wd_1740 wd_98 rfl e5 (M_X12_store l b D z nx e7) (As := [.ref x2, .int (112 : Int32), .int a2]) rfl rfl (Nat.le_of_ble_eq_true rfl) ⟨(Nat.le_of_ble_eq_true rfl), (Nat.le_of_ble_eq_true rfl)⟩ ⟨rfl, rfl⟩ ⟨(Nat.le_of_ble_eq_true rfl), (Nat.le_of_ble_eq_true rfl)⟩ dX12_storeAll_36 ?_
    cases hF
    exact g_vret dX12_storeAll_39 rfl ⟨rfl, rfl, rfl⟩ (Nat.le_of_ble_eq_true rfl) (Nat.le_of_ble_eq_true rfl)
  replace hF := q_f c1 hF
  by_cases c8 : a1 = 1
  · replace hF := q_t c8 hF
    refine g_tabIn (off := 39) 40 dX12_storeAll_1 (by rw [c8]; decide) (by rw [c8]; decide) (by rw [c8]; decide) (by decide) ?_
    refine g_aload_n 0 dX12_storeAll_40 rfl ?_
    refine g_aload_n 0 dX12_storeAll_41 rfl ?_
    obtain ⟨x9, e10, hF⟩ := q_bind hF
    refine g_getfR fl_X12_29 e10 dX12_storeAll_42 ?_
    refine g_bipush dX12_storeAll_45 lt_bipush_81 ?_
    refine g_iload_n 2 dX12_storeAll_47 rfl ?_
    obtain ⟨u11, e12, hF⟩ := q_bind hF
    obtain ⟨x13, e14, hF⟩ := q_bind hF
    refine g_callVv0 (ci := 12) (q := (RX12, TX12, 49)) qm_X12_store wd_1738 wd_1740 wd_98 rfl e12 (M_X12_store l b D z nx e14) (As := [.ref x9, .int (81 : Int32), .int a2]) rfl rfl (Nat.le_of_ble_eq_true rfl) ⟨(Nat.le_of_ble_eq_true rfl), (Nat.le_of_ble_eq_true rfl)⟩ ⟨rfl, rfl⟩ ⟨(Nat.le_of_ble_eq_true rfl), (Nat.le_of_ble_eq_true rfl)⟩ dX12_storeAll_48 ?_
    cases hF
    exact g_vret dX12_storeAll_51 rfl ⟨rfl, rfl, rfl⟩ (Nat.le_of_ble_eq_true rfl) (Nat.le_of_ble_eq_true rfl)
  replace hF := q_f c8 hF
  by_cases c15 : a1 = 2
  · replace hF := q_t c15 hF
    refine g_tabIn (off := 51) 52 dX12_storeAll_1 (by rw [c15]; decide) (by rw [c15]; decide) (by rw [c15]; decide) (by decide) ?_
    refine g_aload_n 0 dX12_storeAll_52 rfl ?_
    refine g_aload_n 0 dX12_storeAll_53 rfl ?_
    obtain ⟨x16, e17, hF⟩ := q_bind hF
    refine g_getfR fl_X12_32 e17 dX12_storeAll_54 ?_
    refine g_bipush dX12_storeAll_57 lt_bipush_13 ?_
    refine g_iload_n 2 dX12_storeAll_59 rfl ?_
    obtain ⟨u18, e19, hF⟩ := q_bind hF
    obtain ⟨x20, e21, hF⟩ := q_bind hF
    refine g_callVv0 (ci := 12) (q := (RX12, TX12, 49)) qm_X12_store wd_1738 wd_1740 wd_98 rfl e19 (M_X12_store l b D z nx e21) (As := [.ref x16, .int (13 : Int32), .int a2]) rfl rfl (Nat.le_of_ble_eq_true rfl) ⟨(Nat.le_of_ble_eq_true rfl), (Nat.le_of_ble_eq_true rfl)⟩ ⟨rfl, rfl⟩ ⟨(Nat.le_of_ble_eq_true rfl), (Nat.le_of_ble_eq_true rfl)⟩ dX12_storeAll_60 ?_
    cases hF
    exact g_vret dX12_storeAll_63 rfl ⟨rfl, rfl, rfl⟩ (Nat.le_of_ble_eq_true rfl) (Nat.le_of_ble_eq_true rfl)
  replace hF := q_f c15 hF
  refine g_tabOut 64 dX12_storeAll_1 ?_ (by decide) ?_
  · have t0 := lv_neT (a := 0) c1 (by decide); have t1 := lv_neT (a := 1) c8 (by decide); have t2 := lv_neT (a := 2) c15 (by decide); omega
  refine g_aload_n 0 dX12_storeAll_64 rfl ?_
  refine g_aload_n 0 dX12_storeAll_65 rfl ?_
  obtain ⟨x22, e23, hF⟩ := q_bind hF
  refine g_getfR fl_X12_35 e23 dX12_storeAll_66 ?_
  refine g_bipush dX12_storeAll_69 lt_bipush_27 ?_
  refine g_iload_n 2 dX12_storeAll_71 rfl ?_
  obtain ⟨u24, e25, hF⟩ := q_bind hF
  obtain ⟨x26, e27, hF⟩ := q_bind hF
  refine g_callVv0 (ci := 12) (q := (RX12, TX12, 49)) qm_X12_store wd_1738 wd_1740 wd_98 rfl e25 (M_X12_store l b D z nx e27) (As := [.ref x22, .int (27 : Int32), .int a2]) rfl rfl (Nat.le_of_ble_eq_true rfl) ⟨(Nat.le_of_ble_eq_true rfl), (Nat.le_of_ble_eq_true rfl)⟩ ⟨rfl, rfl⟩ ⟨(Nat.le_of_ble_eq_true rfl), (Nat.le_of_ble_eq_true rfl)⟩ dX12_storeAll_72 ?_
  cases hF
  exact g_vret dX12_storeAll_75 rfl ⟨rfl, rfl, rfl⟩ (Nat.le_of_ble_eq_true rfl) (Nat.le_of_ble_eq_true rfl)
def rm_X12_text : Room := { frames := 9, cells := 0, slots := 0, locals := 204 }
set_option maxRecDepth 100000 in
set_option maxHeartbeats 4000000 in
theorem J_X12_text_118 (l : Launch) (b : Nat) (D : va_G) (z : Nat → Nat) {nx : Nat} {h : qH} {a0 : Nat} {a1 : Int32} {a3 : Int32} {t0 : Int32} {t1 : Int32} {t2 : Int32} {t3 : Nat} {r : Int32 × qH} (hF : j_X12_text_118 h a0 a1 a3 t0 t1 t2 t3 = some r) : Go l b D z yX12_text cX12_text 4 (some .int) rm_X12_text (qE (some (.int r.1)) r.2 nx) 118 [(0, .ref a0), (1, .int a1), (3, .int a3)] [.int t0, .int t1, .int t2, .ref t3] h nx 0 0 := by
  unfold j_X12_text_118 at hF
  refine g_iadd dX12_text_118 ?_
  obtain ⟨h1, e2, hF⟩ := q_bind hF
  refine g_iast e2 dX12_text_119 ?_
  refine g_aload_n 0 dX12_text_120 rfl ?_
  refine g_iload_n 1 dX12_text_121 rfl ?_
  refine g_iload_n 2 dX12_text_122 rfl ?_
  obtain ⟨u3, e4, hF⟩ := q_bind hF
  obtain ⟨x5, e6, hF⟩ := q_bind hF
  refine g_callVv0 (ci := 12) (q := (RX12, TX12, 49)) qm_X12_storeAll wd_1734 wd_1736 wd_97 rfl e4 (M_X12_storeAll l b D z nx e6) (As := [.int a1, .int a3]) rfl rfl (Nat.le_of_ble_eq_true rfl) ⟨(Nat.le_of_ble_eq_true rfl), (Nat.le_of_ble_eq_true rfl)⟩ ⟨rfl, rfl⟩ ⟨(Nat.le_of_ble_eq_true rfl), (Nat.le_of_ble_eq_true rfl)⟩ dX12_text_123 ?_
  refine g_iload_n 2 dX12_text_126 rfl ?_
  cases hF
  exact g_iret dX12_text_127 rfl ⟨rfl, rfl, rfl⟩ (Nat.le_of_ble_eq_true rfl) (Nat.le_of_ble_eq_true rfl)
set_option maxRecDepth 100000 in
set_option maxHeartbeats 4000000 in
theorem J_X12_text_100 (l : Launch) (b : Nat) (D : va_G) (z : Nat → Nat) {nx : Nat} {h : qH} {a0 : Nat} {a1 : Int32} {a2 : Int32} {t0 : Int32} {r : Int32 × qH} (hF : j_X12_text_100 h a0 a1 a2 t0 = some r) : Go l b D z yX12_text cX12_text 4 (some .int) rm_X12_text (qE (some (.int r.1)) r.2 nx) 100 [(0, .ref a0), (1, .int a1), (2, .int a2)] [.int t0] h nx 0 0 := by
  unfold j_X12_text_100 at hF
  refine g_istore_n [(3, .int t0), (0, .ref a0), (1, .int a1), (2, .int a2)] dX12_text_100 (Nat.le_of_ble_eq_true rfl) rfl ?_
  refine g_aload_n 1 dX12_text_101 rfl ?_
  obtain ⟨x1, e2, hF⟩ := q_bind hF
  refine g_getfR fl_X12_23 e2 dX12_text_102 ?_
  refine g_iload_n 2 dX12_text_105 rfl ?_
  refine g_dup2 dX12_text_106 rfl rfl ?_
  obtain ⟨x3, e4, hF⟩ := q_bind hF
  refine g_iald e4 dX12_text_107 ?_
  refine g_iload_n 3 dX12_text_108 rfl ?_
  refine g_iconst dX12_text_109 lt_iconst_m1 ?_
  refine g_icmp_ne 117 dX12_text_110 (by decide) (fun c5 => ?_) (fun c5 => ?_)
  · replace hF := q_f c5 hF
    refine g_iconst dX12_text_117 lt_iconst_0 ?_
    refine g_sub [1, 2, 0] rfl ?_
    exact J_X12_text_118 l b D z hF
  · replace hF := q_t c5 hF
    refine g_iconst dX12_text_113 lt_iconst_1 ?_
    refine g_goto 118 dX12_text_114 (by decide) ?_
    refine g_sub [1, 2, 0] rfl ?_
    exact J_X12_text_118 l b D z hF
set_option maxRecDepth 100000 in
set_option maxHeartbeats 4000000 in
theorem J_X12_text_118_4 (l : Launch) (b : Nat) (D : va_G) (z : Nat → Nat) {nx : Nat} {h : qH} {a0 : Nat} {a1 : Int32} {a3 : Int32} {t0 : Int32} {t1 : Int32} {t2 : Int32} {t3 : Nat} {r : Int32 × qH} (hF : j_X12_text_118_4 h a0 a1 a3 t0 t1 t2 t3 = some r) : Go l b D z yX12_text cX12_text 4 (some .int) rm_X12_text (qE (some (.int r.1)) r.2 nx) 118 [(0, .ref a0), (1, .int a1), (3, .int a3)] [.int t0, .int t1, .int t2, .ref t3] h nx 0 0 := by
  unfold j_X12_text_118_4 at hF
  refine g_iadd dX12_text_118 ?_
  obtain ⟨h1, e2, hF⟩ := q_bind hF
  refine g_iast e2 dX12_text_119 ?_
  refine g_aload_n 0 dX12_text_120 rfl ?_
  refine g_iload_n 1 dX12_text_121 rfl ?_
  refine g_iload_n 2 dX12_text_122 rfl ?_
  obtain ⟨u3, e4, hF⟩ := q_bind hF
  obtain ⟨x5, e6, hF⟩ := q_bind hF
  refine g_callVv0 (ci := 12) (q := (RX12, TX12, 49)) qm_X12_storeAll wd_1734 wd_1736 wd_97 rfl e4 (M_X12_storeAll l b D z nx e6) (As := [.int a1, .int a3]) rfl rfl (Nat.le_of_ble_eq_true rfl) ⟨(Nat.le_of_ble_eq_true rfl), (Nat.le_of_ble_eq_true rfl)⟩ ⟨rfl, rfl⟩ ⟨(Nat.le_of_ble_eq_true rfl), (Nat.le_of_ble_eq_true rfl)⟩ dX12_text_123 ?_
  refine g_iload_n 2 dX12_text_126 rfl ?_
  cases hF
  exact g_iret dX12_text_127 rfl ⟨rfl, rfl, rfl⟩ (Nat.le_of_ble_eq_true rfl) (Nat.le_of_ble_eq_true rfl)
set_option maxRecDepth 100000 in
set_option maxHeartbeats 4000000 in
theorem J_X12_text_100_3 (l : Launch) (b : Nat) (D : va_G) (z : Nat → Nat) {nx : Nat} {h : qH} {a0 : Nat} {a1 : Int32} {a2 : Int32} {t0 : Int32} {r : Int32 × qH} (hF : j_X12_text_100_3 h a0 a1 a2 t0 = some r) : Go l b D z yX12_text cX12_text 4 (some .int) rm_X12_text (qE (some (.int r.1)) r.2 nx) 100 [(0, .ref a0), (1, .int a1), (2, .int a2)] [.int t0] h nx 0 0 := by
  unfold j_X12_text_100_3 at hF
  refine g_istore_n [(3, .int t0), (0, .ref a0), (1, .int a1), (2, .int a2)] dX12_text_100 (Nat.le_of_ble_eq_true rfl) rfl ?_
  refine g_aload_n 1 dX12_text_101 rfl ?_
  obtain ⟨x1, e2, hF⟩ := q_bind hF
  refine g_getfR fl_X12_23 e2 dX12_text_102 ?_
  refine g_iload_n 2 dX12_text_105 rfl ?_
  refine g_dup2 dX12_text_106 rfl rfl ?_
  obtain ⟨x3, e4, hF⟩ := q_bind hF
  refine g_iald e4 dX12_text_107 ?_
  refine g_iload_n 3 dX12_text_108 rfl ?_
  refine g_iconst dX12_text_109 lt_iconst_m1 ?_
  refine g_icmp_ne 117 dX12_text_110 (by decide) (fun c5 => ?_) (fun c5 => ?_)
  · replace hF := q_f c5 hF
    refine g_iconst dX12_text_117 lt_iconst_0 ?_
    refine g_sub [1, 2, 0] rfl ?_
    exact J_X12_text_118_4 l b D z hF
  · replace hF := q_t c5 hF
    refine g_iconst dX12_text_113 lt_iconst_1 ?_
    refine g_goto 118 dX12_text_114 (by decide) ?_
    refine g_sub [1, 2, 0] rfl ?_
    exact J_X12_text_118_4 l b D z hF
set_option maxRecDepth 100000 in
set_option maxHeartbeats 4000000 in
theorem J_X12_text_75 (l : Launch) (b : Nat) (D : va_G) (z : Nat → Nat) {nx : Nat} {h : qH} {a0 : Nat} {a1 : Int32} {a2 : Int32} {r : Int32 × qH} (hF : j_X12_text_75 h a0 a1 a2  = some r) : Go l b D z yX12_text cX12_text 4 (some .int) rm_X12_text (qE (some (.int r.1)) r.2 nx) 75 [(0, .ref a0), (1, .int a1), (2, .int a2)] [] h nx 0 0 := by
  unfold j_X12_text_75 at hF
  refine g_aload_n 0 dX12_text_75 rfl ?_
  refine g_iload_n 1 dX12_text_76 rfl ?_
  obtain ⟨u1, e2, hF⟩ := q_bind hF
  obtain ⟨x3, e4, hF⟩ := q_bind hF
  refine g_callVr0 (ci := 12) (q := (RX12, TX12, 49)) qm_X12_readText wd_1634 wd_1636 wd_78 rfl e2 (M_X12_readText l b D z nx e4) (As := [.int a1]) rfl rfl (Nat.le_of_ble_eq_true rfl) ⟨(Nat.le_of_ble_eq_true rfl), (Nat.le_of_ble_eq_true rfl)⟩ ⟨rfl, rfl⟩ ⟨(Nat.le_of_ble_eq_true rfl), (Nat.le_of_ble_eq_true rfl)⟩ dX12_text_77 ?_
  refine g_if_ne 85 dX12_text_80 (by decide) (fun c5 => ?_) (fun c5 => ?_)
  · replace hF := q_f c5 hF
    refine g_iload_n 2 dX12_text_85 rfl ?_
    refine g_iconst dX12_text_86 lt_iconst_m1 ?_
    refine g_icmp_ne 99 dX12_text_87 (by decide) (fun c6 => ?_) (fun c6 => ?_)
    · replace hF := q_f c6 hF
      refine g_iload_n 2 dX12_text_99 rfl ?_
      exact J_X12_text_100 l b D z hF
    · replace hF := q_t c6 hF
      refine g_aload_n 0 dX12_text_90 rfl ?_
      obtain ⟨x7, e8, hF⟩ := q_bind hF
      refine g_getfR fl_X12_23 e8 dX12_text_91 ?_
      refine g_iload_n 1 dX12_text_94 rfl ?_
      obtain ⟨x9, e10, hF⟩ := q_bind hF
      refine g_iald e10 dX12_text_95 ?_
      refine g_goto 100 dX12_text_96 (by decide) ?_
      exact J_X12_text_100_3 l b D z hF
  · replace hF := q_t c5 hF
    refine g_iconst dX12_text_83 lt_iconst_m1 ?_
    cases hF
    exact g_iret dX12_text_84 rfl ⟨rfl, rfl, rfl⟩ (Nat.le_of_ble_eq_true rfl) (Nat.le_of_ble_eq_true rfl)
set_option maxRecDepth 100000 in
set_option maxHeartbeats 4000000 in
theorem M_X12_text (l : Launch) (b : Nat) (D : va_G) (z : Nat → Nat) (nx : Nat) {h : qH} {a0 : Nat} {a1 : Int32} {a2 : Int32} {r : Int32 × qH} (hF : F_X12_text h a0 a1 a2 = some r) : Me l b D z yX12_text cX12_text 4 (some .int) rm_X12_text [.ref a0, .int a1, .int a2] h nx (qE (some (.int r.1)) r.2 nx) := by
  refine Me.of (by decide +kernel) (Nat.le_of_ble_eq_true rfl) ?_
  show Go l b D z yX12_text cX12_text 4 (some .int) rm_X12_text (qE (some (.int r.1)) r.2 nx) 0 [(0, .ref a0), (1, .int a1), (2, .int a2)] [] h nx 0 0
  unfold F_X12_text at hF
  refine g_aload_n 0 dX12_text_0 rfl ?_
  refine g_iconst dX12_text_1 lt_iconst_0 ?_
  obtain ⟨h1, e2, hF⟩ := q_bind hF
  refine g_putf fl_X12_91 e2 rfl rfl dX12_text_2 ?_
  refine g_aload_n 0 dX12_text_5 rfl ?_
  refine g_aload_n 0 dX12_text_6 rfl ?_
  obtain ⟨x3, e4, hF⟩ := q_bind hF
  refine g_getfR fl_X12_13 e4 dX12_text_7 ?_
  refine g_iconst dX12_text_10 lt_iconst_0 ?_
  obtain ⟨x5, e6, hF⟩ := q_bind hF
  refine g_iald e6 dX12_text_11 ?_
  obtain ⟨h7, e8, hF⟩ := q_bind hF
  refine g_putf fl_X12_118 e8 rfl rfl dX12_text_12 ?_
  refine g_aload_n 0 dX12_text_15 rfl ?_
  obtain ⟨x9, e10, hF⟩ := q_bind hF
  refine g_getfR fl_X12_13 e10 dX12_text_16 ?_
  refine g_iconst dX12_text_19 lt_iconst_0 ?_
  refine g_iconst dX12_text_20 lt_iconst_0 ?_
  obtain ⟨h11, e12, hF⟩ := q_bind hF
  refine g_iast e12 dX12_text_21 ?_
  refine g_aload_n 0 dX12_text_22 rfl ?_
  obtain ⟨x13, e14, hF⟩ := q_bind hF
  refine g_getfR fl_X12_17 e14 dX12_text_23 ?_
  refine g_iconst dX12_text_26 lt_iconst_0 ?_
  refine g_iconst dX12_text_27 lt_iconst_0 ?_
  obtain ⟨h15, e16, hF⟩ := q_bind hF
  refine g_iast e16 dX12_text_28 ?_
  refine g_aload_n 0 dX12_text_29 rfl ?_
  obtain ⟨x17, e18, hF⟩ := q_bind hF
  refine g_getfR fl_X12_20 e18 dX12_text_30 ?_
  refine g_iconst dX12_text_33 lt_iconst_0 ?_
  refine g_iconst dX12_text_34 lt_iconst_m1 ?_
  obtain ⟨h19, e20, hF⟩ := q_bind hF
  refine g_iast e20 dX12_text_35 ?_
  refine g_iload_n 1 dX12_text_36 rfl ?_
  refine g_iconst dX12_text_37 lt_iconst_0 ?_
  refine g_iconst dX12_text_38 lt_iconst_3 ?_
  obtain ⟨x21, e22, hF⟩ := q_bind hF
  refine g_callSr0 qm_X12_in wd_1623 wd_1624 (M_X12_in l b D z nx e22) (As := [.int a1, .int (0 : Int32), .int (3 : Int32)]) rfl rfl (Nat.le_of_ble_eq_true rfl) ⟨(Nat.le_of_ble_eq_true rfl), (Nat.le_of_ble_eq_true rfl)⟩ ⟨rfl, rfl⟩ ⟨(Nat.le_of_ble_eq_true rfl), (Nat.le_of_ble_eq_true rfl)⟩ dX12_text_39 ?_
  refine g_if_eq 72 dX12_text_42 (by decide) (fun c23 => ?_) (fun c23 => ?_)
  · replace hF := q_t c23 hF
    refine g_bipush dX12_text_72 lt_bipush_m2 ?_
    cases hF
    exact g_iret dX12_text_74 rfl ⟨rfl, rfl, rfl⟩ (Nat.le_of_ble_eq_true rfl) (Nat.le_of_ble_eq_true rfl)
  · replace hF := q_f c23 hF
    refine g_iload_n 2 dX12_text_45 rfl ?_
    refine g_iconst dX12_text_46 lt_iconst_m1 ?_
    refine g_icmp_ne 63 dX12_text_47 (by decide) (fun c24 => ?_) (fun c24 => ?_)
    · replace hF := q_f c24 hF
      refine g_aload_n 0 dX12_text_63 rfl ?_
      refine g_iload_n 1 dX12_text_64 rfl ?_
      refine g_iload_n 2 dX12_text_65 rfl ?_
      obtain ⟨u25, e26, hF⟩ := q_bind hF
      obtain ⟨x27, e28, hF⟩ := q_bind hF
      refine g_callVr0 (ci := 12) (q := (RX12, TX12, 49)) qm_X12_is wd_1630 wd_1632 wd_77 rfl e26 (M_X12_is l b D z nx e28) (As := [.int a1, .int a2]) rfl rfl (Nat.le_of_ble_eq_true rfl) ⟨(Nat.le_of_ble_eq_true rfl), (Nat.le_of_ble_eq_true rfl)⟩ ⟨rfl, rfl⟩ ⟨(Nat.le_of_ble_eq_true rfl), (Nat.le_of_ble_eq_true rfl)⟩ dX12_text_66 ?_
      refine g_if_ne 75 dX12_text_69 (by decide) (fun c29 => ?_) (fun c29 => ?_)
      · replace hF := q_f c29 hF
        exact J_X12_text_75 l b D z hF
      · replace hF := q_t c29 hF
        refine g_bipush dX12_text_72 lt_bipush_m2 ?_
        cases hF
        exact g_iret dX12_text_74 rfl ⟨rfl, rfl, rfl⟩ (Nat.le_of_ble_eq_true rfl) (Nat.le_of_ble_eq_true rfl)
    · replace hF := q_t c24 hF
      refine g_aload_n 0 dX12_text_50 rfl ?_
      obtain ⟨x30, e31, hF⟩ := q_bind hF
      refine g_getfR fl_X12_23 e31 dX12_text_51 ?_
      refine g_iload_n 1 dX12_text_54 rfl ?_
      obtain ⟨x32, e33, hF⟩ := q_bind hF
      refine g_iald e33 dX12_text_55 ?_
      refine g_iconst dX12_text_56 lt_iconst_2 ?_
      refine g_icmp_ne 75 dX12_text_57 (by decide) (fun c34 => ?_) (fun c34 => ?_)
      · replace hF := q_f c34 hF
        exact J_X12_text_75 l b D z hF
      · replace hF := q_t c34 hF
        refine g_goto 72 dX12_text_60 (by decide) ?_
        refine g_bipush dX12_text_72 lt_bipush_m2 ?_
        cases hF
        exact g_iret dX12_text_74 rfl ⟨rfl, rfl, rfl⟩ (Nat.le_of_ble_eq_true rfl) (Nat.le_of_ble_eq_true rfl)
def rm_X12_fault : Room := { frames := 0, cells := 0, slots := 0, locals := 0 }
set_option maxRecDepth 100000 in
set_option maxHeartbeats 4000000 in
theorem M_X12_fault (l : Launch) (b : Nat) (D : va_G) (z : Nat → Nat) (nx : Nat) {h : qH} {a0 : Nat} {a1 : Int32} {r : Int32 × qH} (hF : F_X12_fault h a0 a1 = some r) : Me l b D z yX12_fault cX12_fault 2 (some .int) rm_X12_fault [.ref a0, .int a1] h nx (qE (some (.int r.1)) r.2 nx) := by
  refine Me.of (by decide +kernel) (Nat.le_of_ble_eq_true rfl) ?_
  show Go l b D z yX12_fault cX12_fault 2 (some .int) rm_X12_fault (qE (some (.int r.1)) r.2 nx) 0 [(0, .ref a0), (1, .int a1)] [] h nx 0 0
  unfold F_X12_fault at hF
  refine g_aload_n 0 dX12_fault_0 rfl ?_
  refine g_iconst dX12_fault_1 lt_iconst_0 ?_
  obtain ⟨h1, e2, hF⟩ := q_bind hF
  refine g_putf fl_X12_91 e2 rfl rfl dX12_fault_2 ?_
  refine g_iload_n 1 dX12_fault_5 rfl ?_
  refine g_if_ne 18 dX12_fault_6 (by decide) (fun c3 => ?_) (fun c3 => ?_)
  · replace hF := q_f c3 hF
    refine g_iload_n 1 dX12_fault_18 rfl ?_
    refine g_iconst dX12_fault_19 lt_iconst_1 ?_
    refine g_icmp_ne 32 dX12_fault_20 (by decide) (fun c4 => ?_) (fun c4 => ?_)
    · replace hF := q_f c4 hF
      refine g_iconst dX12_fault_32 lt_iconst_m1 ?_
      cases hF
      exact g_iret dX12_fault_33 rfl ⟨rfl, rfl, rfl⟩ (Nat.le_of_ble_eq_true rfl) (Nat.le_of_ble_eq_true rfl)
    · replace hF := q_t c4 hF
      refine g_aload_n 0 dX12_fault_23 rfl ?_
      obtain ⟨x5, e6, hF⟩ := q_bind hF
      refine g_getfR fl_X12_20 e6 dX12_fault_24 ?_
      refine g_iconst dX12_fault_27 lt_iconst_0 ?_
      obtain ⟨x7, e8, hF⟩ := q_bind hF
      refine g_iald e8 dX12_fault_28 ?_
      refine g_goto 33 dX12_fault_29 (by decide) ?_
      cases hF
      exact g_iret dX12_fault_33 rfl ⟨rfl, rfl, rfl⟩ (Nat.le_of_ble_eq_true rfl) (Nat.le_of_ble_eq_true rfl)
  · replace hF := q_t c3 hF
    refine g_aload_n 0 dX12_fault_9 rfl ?_
    obtain ⟨x9, e10, hF⟩ := q_bind hF
    refine g_getfR fl_X12_17 e10 dX12_fault_10 ?_
    refine g_iconst dX12_fault_13 lt_iconst_0 ?_
    obtain ⟨x11, e12, hF⟩ := q_bind hF
    refine g_iald e12 dX12_fault_14 ?_
    refine g_goto 33 dX12_fault_15 (by decide) ?_
    cases hF
    exact g_iret dX12_fault_33 rfl ⟨rfl, rfl, rfl⟩ (Nat.le_of_ble_eq_true rfl) (Nat.le_of_ble_eq_true rfl)
def rm_X12_of : Room := { frames := 0, cells := 0, slots := 0, locals := 0 }
set_option maxRecDepth 100000 in
set_option maxHeartbeats 4000000 in
theorem M_X12_of (l : Launch) (b : Nat) (D : va_G) (z : Nat → Nat) (nx : Nat) {h : qH} {a0 : Nat} {a1 : Int32} {r : Int32} (hF : F_X12_of h a0 a1 = some r) : Me l b D z yX12_of cX12_of 2 (some .int) rm_X12_of [.ref a0, .int a1] h nx (qE (some (.int r)) h nx) := by
  refine Me.of (by decide +kernel) (Nat.le_of_ble_eq_true rfl) ?_
  show Go l b D z yX12_of cX12_of 2 (some .int) rm_X12_of (qE (some (.int r)) h nx) 0 [(0, .ref a0), (1, .int a1)] [] h nx 0 0
  unfold F_X12_of at hF
  refine g_aload_n 0 dX12_of_0 rfl ?_
  obtain ⟨x1, e2, hF⟩ := q_bind hF
  refine g_getfR fl_X12_26 e2 dX12_of_1 ?_
  refine g_bipush dX12_of_4 lt_bipush_112 ?_
  refine g_aload_n 0 dX12_of_6 rfl ?_
  obtain ⟨x3, e4, hF⟩ := q_bind hF
  refine g_getfI fl_X12_269 e4 dX12_of_7 ?_
  refine g_imul dX12_of_10 ?_
  refine g_iload_n 1 dX12_of_11 rfl ?_
  refine g_iadd dX12_of_12 ?_
  obtain ⟨x5, e6, hF⟩ := q_bind hF
  refine g_iald e6 dX12_of_13 ?_
  cases hF
  exact g_iret dX12_of_14 rfl ⟨rfl, rfl, rfl⟩ (Nat.le_of_ble_eq_true rfl) (Nat.le_of_ble_eq_true rfl)
def rm_X12_addFollower : Room := { frames := 0, cells := 0, slots := 0, locals := 0 }
set_option maxRecDepth 100000 in
set_option maxHeartbeats 4000000 in
theorem B_X12_addFollower_2 (l : Launch) (b : Nat) (D : va_G) (z : Nat → Nat) {Φ : Option Value → qH → Nat → Prop} {nx : Nat} {h : qH} {a0 : Nat} {a1 : Int32} {a2 : Int32} {a3 : Int32} {o : Int32 ⊕ (Unit ⊕ Unit)} (hF : b_X12_addFollower_2 h a0 a1 a2 a3 = some o) (hback : ∀ (b3 : Int32), o = .inl b3 → Go l b D z yX12_addFollower cX12_addFollower 4 none rm_X12_addFollower Φ 2 [(0, .ref a0), (1, .int a1), (2, .int a2), (3, .int b3)] [] h nx 0 0) (hx0 : o = .inr (.inl ()) → Go l b D z yX12_addFollower cX12_addFollower 4 none rm_X12_addFollower Φ 27 [] [] h nx 0 0) (hx1 : o = .inr (.inr ()) → Go l b D z yX12_addFollower cX12_addFollower 4 none rm_X12_addFollower Φ 34 [(0, .ref a0), (1, .int a1), (2, .int a2)] [] h nx 0 0) : Go l b D z yX12_addFollower cX12_addFollower 4 none rm_X12_addFollower Φ 2 [(0, .ref a0), (1, .int a1), (2, .int a2), (3, .int a3)] [] h nx 0 0 := by
  unfold b_X12_addFollower_2 at hF
  refine g_iload_n 3 dX12_addFollower_2 rfl ?_
  refine g_aload_n 0 dX12_addFollower_3 rfl ?_
  obtain ⟨x1, e2, hF⟩ := q_bind hF
  refine g_getfR fl_X12_47 e2 dX12_addFollower_4 ?_
  refine g_iload_n 1 dX12_addFollower_7 rfl ?_
  obtain ⟨x3, e4, hF⟩ := q_bind hF
  refine g_iald e4 dX12_addFollower_8 ?_
  refine g_icmp_ge 34 dX12_addFollower_9 (by decide) (fun c5 => ?_) (fun c5 => ?_)
  · replace hF := q_t c5 hF
    cases hF
    refine g_sub [0, 1, 2] rfl ?_
    exact hx1  rfl
  · replace hF := q_f c5 hF
    refine g_aload_n 0 dX12_addFollower_12 rfl ?_
    obtain ⟨x6, e7, hF⟩ := q_bind hF
    refine g_getfR fl_X12_44 e7 dX12_addFollower_13 ?_
    refine g_bipush dX12_addFollower_16 lt_bipush_20 ?_
    refine g_iload_n 1 dX12_addFollower_18 rfl ?_
    refine g_imul dX12_addFollower_19 ?_
    refine g_iload_n 3 dX12_addFollower_20 rfl ?_
    refine g_iadd dX12_addFollower_21 ?_
    obtain ⟨x8, e9, hF⟩ := q_bind hF
    refine g_iald e9 dX12_addFollower_22 ?_
    refine g_iload_n 2 dX12_addFollower_23 rfl ?_
    refine g_icmp_ne 28 dX12_addFollower_24 (by decide) (fun c10 => ?_) (fun c10 => ?_)
    · replace hF := q_f c10 hF
      refine g_iinc [(3, .int (a3 + 1)), (0, .ref a0), (1, .int a1), (2, .int a2)] 3 dX12_addFollower_28 rfl (congrArg (a3 + ·) lt_iconst_1) (Nat.le_of_ble_eq_true rfl) rfl ?_
      refine g_goto 2 dX12_addFollower_31 (by decide) ?_
      cases hF
      refine g_sub [1, 2, 3, 0] rfl ?_
      exact hback _ rfl
    · replace hF := q_t c10 hF
      cases hF
      refine g_sub [] rfl ?_
      exact hx0  rfl
set_option maxRecDepth 100000 in
set_option maxHeartbeats 4000000 in
theorem L_X12_addFollower_2 (l : Launch) (b : Nat) (D : va_G) (z : Nat → Nat) {Φ : Option Value → qH → Nat → Prop} {nx : Nat} {h : qH} {a0 : Nat} {a1 : Int32} {a2 : Int32} : ∀ (n : Nat) (a3 : Int32) (e : Unit ⊕ Unit), q_lp (s_X12_addFollower_2 h a0 a1 a2) n a3 = some e → (e = (.inl ()) → Go l b D z yX12_addFollower cX12_addFollower 4 none rm_X12_addFollower Φ 27 [] [] h nx 0 0) → (e = (.inr ()) → Go l b D z yX12_addFollower cX12_addFollower 4 none rm_X12_addFollower Φ 34 [(0, .ref a0), (1, .int a1), (2, .int a2)] [] h nx 0 0) → Go l b D z yX12_addFollower cX12_addFollower 4 none rm_X12_addFollower Φ 2 [(0, .ref a0), (1, .int a1), (2, .int a2), (3, .int a3)] [] h nx 0 0 := by
  intro n
  induction n with
  | zero => intro a3 e he; cases (show none = some e from he)
  | succ n ih =>
    intro a3 e he hx0 hx1
    obtain ⟨o, ho, h1, h2⟩ := q_lp_succ he
    exact B_X12_addFollower_2 l b D z (show b_X12_addFollower_2 h a0 a1 a2 a3 = some o from ho) (fun b3 hb => ih _ e (h1 _ hb) hx0 hx1) (fun  hr => hx0  (h2 _ hr).symm) (fun  hr => hx1  (h2 _ hr).symm)
set_option maxRecDepth 100000 in
set_option maxHeartbeats 4000000 in
theorem M_X12_addFollower (l : Launch) (b : Nat) (D : va_G) (z : Nat → Nat) (nx : Nat) {h : qH} {a0 : Nat} {a1 : Int32} {a2 : Int32} {r : qH} (hF : F_X12_addFollower h a0 a1 a2 = some r) : Me l b D z yX12_addFollower cX12_addFollower 4 none rm_X12_addFollower [.ref a0, .int a1, .int a2] h nx (qE none r nx) := by
  refine Me.of (by decide +kernel) (Nat.le_of_ble_eq_true rfl) ?_
  show Go l b D z yX12_addFollower cX12_addFollower 4 none rm_X12_addFollower (qE none r nx) 0 [(0, .ref a0), (1, .int a1), (2, .int a2)] [] h nx 0 0
  unfold F_X12_addFollower at hF
  refine g_iconst dX12_addFollower_0 lt_iconst_0 ?_
  refine g_istore_n [(3, .int (0 : Int32)), (0, .ref a0), (1, .int a1), (2, .int a2)] dX12_addFollower_1 (Nat.le_of_ble_eq_true rfl) rfl ?_
  obtain ⟨e1, w2, hF⟩ := q_bind hF
  refine g_sub [1, 2, 3, 0] rfl ?_
  refine L_X12_addFollower_2 l b D z q_N (0 : Int32) e1 w2 ?_ ?_
  · intro  w3
    replace w3 := w3.symm
    subst w3
    replace hF := q_sl hF
    cases hF
    exact g_vret dX12_addFollower_27 rfl ⟨rfl, rfl, rfl⟩ (Nat.le_of_ble_eq_true rfl) (Nat.le_of_ble_eq_true rfl)
  · intro  w5
    replace w5 := w5.symm
    subst w5
    replace hF := q_sr hF
    refine g_aload_n 0 dX12_addFollower_34 rfl ?_
    obtain ⟨x6, e7, hF⟩ := q_bind hF
    refine g_getfR fl_X12_44 e7 dX12_addFollower_35 ?_
    refine g_bipush dX12_addFollower_38 lt_bipush_20 ?_
    refine g_iload_n 1 dX12_addFollower_40 rfl ?_
    refine g_imul dX12_addFollower_41 ?_
    refine g_aload_n 0 dX12_addFollower_42 rfl ?_
    obtain ⟨x8, e9, hF⟩ := q_bind hF
    refine g_getfR fl_X12_47 e9 dX12_addFollower_43 ?_
    refine g_iload_n 1 dX12_addFollower_46 rfl ?_
    obtain ⟨x10, e11, hF⟩ := q_bind hF
    refine g_iald e11 dX12_addFollower_47 ?_
    refine g_iadd dX12_addFollower_48 ?_
    refine g_iload_n 2 dX12_addFollower_49 rfl ?_
    obtain ⟨h12, e13, hF⟩ := q_bind hF
    refine g_iast e13 dX12_addFollower_50 ?_
    refine g_aload_n 0 dX12_addFollower_51 rfl ?_
    obtain ⟨x14, e15, hF⟩ := q_bind hF
    refine g_getfR fl_X12_47 e15 dX12_addFollower_52 ?_
    refine g_iload_n 1 dX12_addFollower_55 rfl ?_
    refine g_dup2 dX12_addFollower_56 rfl rfl ?_
    obtain ⟨x16, e17, hF⟩ := q_bind hF
    refine g_iald e17 dX12_addFollower_57 ?_
    refine g_iconst dX12_addFollower_58 lt_iconst_1 ?_
    refine g_iadd dX12_addFollower_59 ?_
    obtain ⟨h18, e19, hF⟩ := q_bind hF
    refine g_iast e19 dX12_addFollower_60 ?_
    cases hF
    exact g_vret dX12_addFollower_61 rfl ⟨rfl, rfl, rfl⟩ (Nat.le_of_ble_eq_true rfl) (Nat.le_of_ble_eq_true rfl)
def rm_X12_hand : Room := { frames := 2, cells := 0, slots := 0, locals := 44 }
set_option maxRecDepth 100000 in
set_option maxHeartbeats 4000000 in
theorem B_X12_hand_27 (l : Launch) (b : Nat) (D : va_G) (z : Nat → Nat) {Φ : Option Value → qH → Nat → Prop} {nx : Nat} {a0 : Nat} {a2 : Int32} {h : qH} {o : (Int32 × qH) ⊕ qH} (hF : b_X12_hand_27 a0 a2 h = some o) (hback : ∀ (b2 : Int32) (bh : qH), o = .inl (b2, bh) → Go l b D z yX12_hand cX12_hand 3 (some .boolean) rm_X12_hand Φ 27 [(0, .ref a0), (2, .int b2)] [] bh nx 0 0) (hx0 : ∀  (bh : qH), o = .inr bh → Go l b D z yX12_hand cX12_hand 3 (some .boolean) rm_X12_hand Φ 46 [(0, .ref a0)] [] bh nx 0 0) : Go l b D z yX12_hand cX12_hand 3 (some .boolean) rm_X12_hand Φ 27 [(0, .ref a0), (2, .int a2)] [] h nx 0 0 := by
  unfold b_X12_hand_27 at hF
  refine g_iload_n 1 dX12_hand_27 rfl ?_
  refine g_bipush dX12_hand_28 lt_bipush_20 ?_
  refine g_icmp_ge 46 dX12_hand_30 (by decide) (fun c1 => ?_) (fun c1 => ?_)
  · replace hF := q_t c1 hF
    cases hF
    refine g_sub [0] rfl ?_
    exact hx0 _ rfl
  · replace hF := q_f c1 hF
    refine g_aload_n 0 dX12_hand_33 rfl ?_
    obtain ⟨x2, e3, hF⟩ := q_bind hF
    refine g_getfR fl_X12_47 e3 dX12_hand_34 ?_
    refine g_iload_n 1 dX12_hand_37 rfl ?_
    refine g_iconst dX12_hand_38 lt_iconst_0 ?_
    obtain ⟨h4, e5, hF⟩ := q_bind hF
    refine g_iast e5 dX12_hand_39 ?_
    refine g_iinc [(2, .int (a2 + 1)), (0, .ref a0)] 1 dX12_hand_40 rfl (congrArg (a2 + ·) lt_iconst_1) (Nat.le_of_ble_eq_true rfl) rfl ?_
    refine g_goto 27 dX12_hand_43 (by decide) ?_
    cases hF
    refine g_sub [1, 0] rfl ?_
    exact hback _ _ rfl
set_option maxRecDepth 100000 in
set_option maxHeartbeats 4000000 in
theorem L_X12_hand_27 (l : Launch) (b : Nat) (D : va_G) (z : Nat → Nat) {Φ : Option Value → qH → Nat → Prop} {nx : Nat} {a0 : Nat} : ∀ (n : Nat) (a2 : Int32) (h : qH) (e : qH), q_lp (s_X12_hand_27 a0) n (a2, h) = some e → (∀  (bh : qH), e = bh → Go l b D z yX12_hand cX12_hand 3 (some .boolean) rm_X12_hand Φ 46 [(0, .ref a0)] [] bh nx 0 0) → Go l b D z yX12_hand cX12_hand 3 (some .boolean) rm_X12_hand Φ 27 [(0, .ref a0), (2, .int a2)] [] h nx 0 0 := by
  intro n
  induction n with
  | zero => intro a2 h e he; cases (show none = some e from he)
  | succ n ih =>
    intro a2 h e he hx0
    obtain ⟨o, ho, h1, h2⟩ := q_lp_succ he
    exact B_X12_hand_27 l b D z (show b_X12_hand_27 a0 a2 h = some o from ho) (fun b2 bh hb => ih _ _ e (h1 _ hb) hx0) (fun p0 hr => hx0 p0 (h2 _ hr).symm)
set_option maxRecDepth 100000 in
set_option maxHeartbeats 4000000 in
theorem B_X12_hand_48 (l : Launch) (b : Nat) (D : va_G) (z : Nat → Nat) {Φ : Option Value → qH → Nat → Prop} {nx : Nat} {a0 : Nat} {a2 : Int32} {h : qH} {o : (Int32 × qH) ⊕ qH} (hF : b_X12_hand_48 a0 a2 h = some o) (hback : ∀ (b2 : Int32) (bh : qH), o = .inl (b2, bh) → Go l b D z yX12_hand cX12_hand 3 (some .boolean) rm_X12_hand Φ 48 [(0, .ref a0), (2, .int b2)] [] bh nx 0 0) (hx0 : ∀  (bh : qH), o = .inr bh → Go l b D z yX12_hand cX12_hand 3 (some .boolean) rm_X12_hand Φ 74 [(0, .ref a0)] [] bh nx 0 0) : Go l b D z yX12_hand cX12_hand 3 (some .boolean) rm_X12_hand Φ 48 [(0, .ref a0), (2, .int a2)] [] h nx 0 0 := by
  unfold b_X12_hand_48 at hF
  refine g_iload_n 1 dX12_hand_48 rfl ?_
  refine g_aload_n 0 dX12_hand_49 rfl ?_
  obtain ⟨x1, e2, hF⟩ := q_bind hF
  refine g_getfI fl_X12_276 e2 dX12_hand_50 ?_
  refine g_icmp_ge 74 dX12_hand_53 (by decide) (fun c3 => ?_) (fun c3 => ?_)
  · replace hF := q_t c3 hF
    cases hF
    refine g_sub [0] rfl ?_
    exact hx0 _ rfl
  · replace hF := q_f c3 hF
    refine g_aload_n 0 dX12_hand_56 rfl ?_
    refine g_aload_n 0 dX12_hand_57 rfl ?_
    refine g_iconst dX12_hand_58 lt_iconst_4 ?_
    refine g_iload_n 1 dX12_hand_59 rfl ?_
    refine g_iadd dX12_hand_60 ?_
    obtain ⟨u4, e5, hF⟩ := q_bind hF
    obtain ⟨x6, e7, hF⟩ := q_bind hF
    refine g_callVr0 (ci := 12) (q := (RX12, TX12, 49)) qm_X12_of wd_1754 wd_1756 wd_100 rfl e5 (M_X12_of l b D z nx e7) (As := [.int ((4 : Int32) + a2)]) rfl rfl (Nat.le_of_ble_eq_true rfl) ⟨(Nat.le_of_ble_eq_true rfl), (Nat.le_of_ble_eq_true rfl)⟩ ⟨rfl, rfl⟩ ⟨(Nat.le_of_ble_eq_true rfl), (Nat.le_of_ble_eq_true rfl)⟩ dX12_hand_61 ?_
    refine g_iload_n 1 dX12_hand_64 rfl ?_
    obtain ⟨u8, e9, hF⟩ := q_bind hF
    obtain ⟨x10, e11, hF⟩ := q_bind hF
    refine g_callVv0 (ci := 12) (q := (RX12, TX12, 49)) qm_X12_addFollower wd_1758 wd_1760 wd_101 rfl e9 (M_X12_addFollower l b D z nx e11) (As := [.int x6, .int a2]) rfl rfl (Nat.le_of_ble_eq_true rfl) ⟨(Nat.le_of_ble_eq_true rfl), (Nat.le_of_ble_eq_true rfl)⟩ ⟨rfl, rfl⟩ ⟨(Nat.le_of_ble_eq_true rfl), (Nat.le_of_ble_eq_true rfl)⟩ dX12_hand_65 ?_
    refine g_iinc [(2, .int (a2 + 1)), (0, .ref a0)] 1 dX12_hand_68 rfl (congrArg (a2 + ·) lt_iconst_1) (Nat.le_of_ble_eq_true rfl) rfl ?_
    refine g_goto 48 dX12_hand_71 (by decide) ?_
    cases hF
    refine g_sub [1, 0] rfl ?_
    exact hback _ _ rfl
set_option maxRecDepth 100000 in
set_option maxHeartbeats 4000000 in
theorem L_X12_hand_48 (l : Launch) (b : Nat) (D : va_G) (z : Nat → Nat) {Φ : Option Value → qH → Nat → Prop} {nx : Nat} {a0 : Nat} : ∀ (n : Nat) (a2 : Int32) (h : qH) (e : qH), q_lp (s_X12_hand_48 a0) n (a2, h) = some e → (∀  (bh : qH), e = bh → Go l b D z yX12_hand cX12_hand 3 (some .boolean) rm_X12_hand Φ 74 [(0, .ref a0)] [] bh nx 0 0) → Go l b D z yX12_hand cX12_hand 3 (some .boolean) rm_X12_hand Φ 48 [(0, .ref a0), (2, .int a2)] [] h nx 0 0 := by
  intro n
  induction n with
  | zero => intro a2 h e he; cases (show none = some e from he)
  | succ n ih =>
    intro a2 h e he hx0
    obtain ⟨o, ho, h1, h2⟩ := q_lp_succ he
    exact B_X12_hand_48 l b D z (show b_X12_hand_48 a0 a2 h = some o from ho) (fun b2 bh hb => ih _ _ e (h1 _ hb) hx0) (fun p0 hr => hx0 p0 (h2 _ hr).symm)
set_option maxRecDepth 100000 in
set_option maxHeartbeats 4000000 in
theorem B_X12_hand_76 (l : Launch) (b : Nat) (D : va_G) (z : Nat → Nat) {Φ : Option Value → qH → Nat → Prop} {nx : Nat} {a0 : Nat} {a2 : Int32} {h : qH} {o : (Int32 × qH) ⊕ qH} (hF : b_X12_hand_76 a0 a2 h = some o) (hback : ∀ (b2 : Int32) (bh : qH), o = .inl (b2, bh) → Go l b D z yX12_hand cX12_hand 3 (some .boolean) rm_X12_hand Φ 76 [(0, .ref a0), (2, .int b2)] [] bh nx 0 0) (hx0 : ∀  (bh : qH), o = .inr bh → Go l b D z yX12_hand cX12_hand 3 (some .boolean) rm_X12_hand Φ 111 [] [] bh nx 0 0) : Go l b D z yX12_hand cX12_hand 3 (some .boolean) rm_X12_hand Φ 76 [(0, .ref a0), (2, .int a2)] [] h nx 0 0 := by
  unfold b_X12_hand_76 at hF
  refine g_iload_n 1 dX12_hand_76 rfl ?_
  refine g_aload_n 0 dX12_hand_77 rfl ?_
  refine g_iconst dX12_hand_78 lt_iconst_1 ?_
  obtain ⟨u1, e2, hF⟩ := q_bind hF
  obtain ⟨x3, e4, hF⟩ := q_bind hF
  refine g_callVr0 (ci := 12) (q := (RX12, TX12, 49)) qm_X12_of wd_1754 wd_1756 wd_100 rfl e2 (M_X12_of l b D z nx e4) (As := [.int (1 : Int32)]) rfl rfl (Nat.le_of_ble_eq_true rfl) ⟨(Nat.le_of_ble_eq_true rfl), (Nat.le_of_ble_eq_true rfl)⟩ ⟨rfl, rfl⟩ ⟨(Nat.le_of_ble_eq_true rfl), (Nat.le_of_ble_eq_true rfl)⟩ dX12_hand_79 ?_
  refine g_icmp_ge 111 dX12_hand_82 (by decide) (fun c5 => ?_) (fun c5 => ?_)
  · replace hF := q_t c5 hF
    cases hF
    refine g_sub [] rfl ?_
    exact hx0 _ rfl
  · replace hF := q_f c5 hF
    refine g_aload_n 0 dX12_hand_85 rfl ?_
    refine g_aload_n 0 dX12_hand_86 rfl ?_
    refine g_bipush dX12_hand_87 lt_bipush_84 ?_
    refine g_iload_n 1 dX12_hand_89 rfl ?_
    refine g_iadd dX12_hand_90 ?_
    obtain ⟨u6, e7, hF⟩ := q_bind hF
    obtain ⟨x8, e9, hF⟩ := q_bind hF
    refine g_callVr0 (ci := 12) (q := (RX12, TX12, 49)) qm_X12_of wd_1754 wd_1756 wd_100 rfl e7 (M_X12_of l b D z nx e9) (As := [.int ((84 : Int32) + a2)]) rfl rfl (Nat.le_of_ble_eq_true rfl) ⟨(Nat.le_of_ble_eq_true rfl), (Nat.le_of_ble_eq_true rfl)⟩ ⟨rfl, rfl⟩ ⟨(Nat.le_of_ble_eq_true rfl), (Nat.le_of_ble_eq_true rfl)⟩ dX12_hand_91 ?_
    refine g_aload_n 0 dX12_hand_94 rfl ?_
    refine g_bipush dX12_hand_95 lt_bipush_92 ?_
    refine g_iload_n 1 dX12_hand_97 rfl ?_
    refine g_iadd dX12_hand_98 ?_
    obtain ⟨u10, e11, hF⟩ := q_bind hF
    obtain ⟨x12, e13, hF⟩ := q_bind hF
    refine g_callVr0 (ci := 12) (q := (RX12, TX12, 49)) qm_X12_of wd_1754 wd_1756 wd_100 rfl e11 (M_X12_of l b D z nx e13) (As := [.int ((92 : Int32) + a2)]) rfl rfl (Nat.le_of_ble_eq_true rfl) ⟨(Nat.le_of_ble_eq_true rfl), (Nat.le_of_ble_eq_true rfl)⟩ ⟨rfl, rfl⟩ ⟨(Nat.le_of_ble_eq_true rfl), (Nat.le_of_ble_eq_true rfl)⟩ dX12_hand_99 ?_
    obtain ⟨u14, e15, hF⟩ := q_bind hF
    obtain ⟨x16, e17, hF⟩ := q_bind hF
    refine g_callVv0 (ci := 12) (q := (RX12, TX12, 49)) qm_X12_addFollower wd_1758 wd_1760 wd_101 rfl e15 (M_X12_addFollower l b D z nx e17) (As := [.int x8, .int x12]) rfl rfl (Nat.le_of_ble_eq_true rfl) ⟨(Nat.le_of_ble_eq_true rfl), (Nat.le_of_ble_eq_true rfl)⟩ ⟨rfl, rfl⟩ ⟨(Nat.le_of_ble_eq_true rfl), (Nat.le_of_ble_eq_true rfl)⟩ dX12_hand_102 ?_
    refine g_iinc [(2, .int (a2 + 1)), (0, .ref a0)] 1 dX12_hand_105 rfl (congrArg (a2 + ·) lt_iconst_1) (Nat.le_of_ble_eq_true rfl) rfl ?_
    refine g_goto 76 dX12_hand_108 (by decide) ?_
    cases hF
    refine g_sub [1, 0] rfl ?_
    exact hback _ _ rfl
set_option maxRecDepth 100000 in
set_option maxHeartbeats 4000000 in
theorem L_X12_hand_76 (l : Launch) (b : Nat) (D : va_G) (z : Nat → Nat) {Φ : Option Value → qH → Nat → Prop} {nx : Nat} {a0 : Nat} : ∀ (n : Nat) (a2 : Int32) (h : qH) (e : qH), q_lp (s_X12_hand_76 a0) n (a2, h) = some e → (∀  (bh : qH), e = bh → Go l b D z yX12_hand cX12_hand 3 (some .boolean) rm_X12_hand Φ 111 [] [] bh nx 0 0) → Go l b D z yX12_hand cX12_hand 3 (some .boolean) rm_X12_hand Φ 76 [(0, .ref a0), (2, .int a2)] [] h nx 0 0 := by
  intro n
  induction n with
  | zero => intro a2 h e he; cases (show none = some e from he)
  | succ n ih =>
    intro a2 h e he hx0
    obtain ⟨o, ho, h1, h2⟩ := q_lp_succ he
    exact B_X12_hand_76 l b D z (show b_X12_hand_76 a0 a2 h = some o from ho) (fun b2 bh hb => ih _ _ e (h1 _ hb) hx0) (fun p0 hr => hx0 p0 (h2 _ hr).symm)
set_option maxRecDepth 100000 in
set_option maxHeartbeats 4000000 in
theorem M_X12_hand (l : Launch) (b : Nat) (D : va_G) (z : Nat → Nat) (nx : Nat) {h : qH} {a0 : Nat} {a1 : Int32} {r : Int32 × qH} (hF : F_X12_hand h a0 a1 = some r) : Me l b D z yX12_hand cX12_hand 3 (some .boolean) rm_X12_hand [.ref a0, .int a1] h nx (qE (some (.int r.1)) r.2 nx) := by
  refine Me.of (by decide +kernel) (Nat.le_of_ble_eq_true rfl) ?_
  show Go l b D z yX12_hand cX12_hand 3 (some .boolean) rm_X12_hand (qE (some (.int r.1)) r.2 nx) 0 [(0, .ref a0), (1, .int a1)] [] h nx 0 0
  unfold F_X12_hand at hF
  refine g_aload_n 0 dX12_hand_0 rfl ?_
  refine g_iload_n 1 dX12_hand_1 rfl ?_
  obtain ⟨h1, e2, hF⟩ := q_bind hF
  refine g_putf fl_X12_269 e2 rfl rfl dX12_hand_2 ?_
  refine g_aload_n 0 dX12_hand_5 rfl ?_
  refine g_iconst dX12_hand_6 lt_iconst_0 ?_
  refine g_iload_n 1 dX12_hand_7 rfl ?_
  obtain ⟨u3, e4, hF⟩ := q_bind hF
  obtain ⟨x5, e6, hF⟩ := q_bind hF
  refine g_callVr0 (ci := 12) (q := (RX12, TX12, 49)) qm_X12_is wd_1630 wd_1632 wd_77 rfl e4 (M_X12_is l b D z nx e6) (As := [.int (0 : Int32), .int a1]) rfl rfl (Nat.le_of_ble_eq_true rfl) ⟨(Nat.le_of_ble_eq_true rfl), (Nat.le_of_ble_eq_true rfl)⟩ ⟨rfl, rfl⟩ ⟨(Nat.le_of_ble_eq_true rfl), (Nat.le_of_ble_eq_true rfl)⟩ dX12_hand_8 ?_
  refine g_if_ne 16 dX12_hand_11 (by decide) (fun c7 => ?_) (fun c7 => ?_)
  · replace hF := q_f c7 hF
    refine g_aload_n 0 dX12_hand_16 rfl ?_
    refine g_aload_n 0 dX12_hand_17 rfl ?_
    refine g_iconst dX12_hand_18 lt_iconst_0 ?_
    obtain ⟨u8, e9, hF⟩ := q_bind hF
    obtain ⟨x10, e11, hF⟩ := q_bind hF
    refine g_callVr0 (ci := 12) (q := (RX12, TX12, 49)) qm_X12_of wd_1754 wd_1756 wd_100 rfl e9 (M_X12_of l b D z nx e11) (As := [.int (0 : Int32)]) rfl rfl (Nat.le_of_ble_eq_true rfl) ⟨(Nat.le_of_ble_eq_true rfl), (Nat.le_of_ble_eq_true rfl)⟩ ⟨rfl, rfl⟩ ⟨(Nat.le_of_ble_eq_true rfl), (Nat.le_of_ble_eq_true rfl)⟩ dX12_hand_19 ?_
    obtain ⟨h12, e13, hF⟩ := q_bind hF
    refine g_putf fl_X12_276 e13 rfl rfl dX12_hand_22 ?_
    refine g_iconst dX12_hand_25 lt_iconst_0 ?_
    refine g_istore_n [(2, .int (0 : Int32)), (0, .ref a0), (1, .int a1)] dX12_hand_26 (Nat.le_of_ble_eq_true rfl) rfl ?_
    obtain ⟨e14, w15, hF⟩ := q_bind hF
    refine g_sub [1, 0] rfl ?_
    refine L_X12_hand_27 l b D z q_N (0 : Int32) h12 e14 w15 ?_
    · intro h16 w17
      replace w17 := w17.symm
      subst w17
      refine g_iconst dX12_hand_46 lt_iconst_1 ?_
      refine g_istore_n [(2, .int (1 : Int32)), (0, .ref a0)] dX12_hand_47 (Nat.le_of_ble_eq_true rfl) rfl ?_
      obtain ⟨e18, w19, hF⟩ := q_bind hF
      refine g_sub [1, 0] rfl ?_
      refine L_X12_hand_48 l b D z q_N (1 : Int32) h16 e18 w19 ?_
      · intro h20 w21
        replace w21 := w21.symm
        subst w21
        refine g_iconst dX12_hand_74 lt_iconst_0 ?_
        refine g_istore_n [(2, .int (0 : Int32)), (0, .ref a0)] dX12_hand_75 (Nat.le_of_ble_eq_true rfl) rfl ?_
        obtain ⟨e22, w23, hF⟩ := q_bind hF
        refine g_sub [1, 0] rfl ?_
        refine L_X12_hand_76 l b D z q_N (0 : Int32) h20 e22 w23 ?_
        · intro h24 w25
          replace w25 := w25.symm
          subst w25
          refine g_iconst dX12_hand_111 lt_iconst_1 ?_
          cases hF
          exact g_zret dX12_hand_112 rfl zn_1 ⟨rfl, rfl, rfl⟩ (Nat.le_of_ble_eq_true rfl) (Nat.le_of_ble_eq_true rfl)
  · replace hF := q_t c7 hF
    refine g_iconst dX12_hand_14 lt_iconst_0 ?_
    cases hF
    exact g_zret dX12_hand_15 rfl zn_0 ⟨rfl, rfl, rfl⟩ (Nat.le_of_ble_eq_true rfl) (Nat.le_of_ble_eq_true rfl)
def rm_X12_isLine : Room := { frames := 1, cells := 0, slots := 0, locals := 22 }
set_option maxRecDepth 100000 in
set_option maxHeartbeats 4000000 in
theorem M_X12_isLine (l : Launch) (b : Nat) (D : va_G) (z : Nat → Nat) (nx : Nat) {h : qH} {a0 : Nat} {a1 : Int32} {r : Int32} (hF : F_X12_isLine h a0 a1 = some r) : Me l b D z yX12_isLine cX12_isLine 2 (some .boolean) rm_X12_isLine [.ref a0, .int a1] h nx (qE (some (.int r)) h nx) := by
  refine Me.of (by decide +kernel) (Nat.le_of_ble_eq_true rfl) ?_
  show Go l b D z yX12_isLine cX12_isLine 2 (some .boolean) rm_X12_isLine (qE (some (.int r)) h nx) 0 [(0, .ref a0), (1, .int a1)] [] h nx 0 0
  unfold F_X12_isLine at hF
  refine g_iload_n 1 dX12_isLine_0 rfl ?_
  refine g_iconst dX12_isLine_1 lt_iconst_0 ?_
  refine g_aload_n 0 dX12_isLine_2 rfl ?_
  obtain ⟨x1, e2, hF⟩ := q_bind hF
  refine g_getfI fl_X12_276 e2 dX12_isLine_3 ?_
  refine g_iconst dX12_isLine_6 lt_iconst_1 ?_
  refine g_isub dX12_isLine_7 ?_
  obtain ⟨x3, e4, hF⟩ := q_bind hF
  refine g_callSr0 qm_X12_in wd_1623 wd_1624 (M_X12_in l b D z nx e4) (As := [.int a1, .int (0 : Int32), .int (x1 - (1 : Int32))]) rfl rfl (Nat.le_of_ble_eq_true rfl) ⟨(Nat.le_of_ble_eq_true rfl), (Nat.le_of_ble_eq_true rfl)⟩ ⟨rfl, rfl⟩ ⟨(Nat.le_of_ble_eq_true rfl), (Nat.le_of_ble_eq_true rfl)⟩ dX12_isLine_8 ?_
  obtain ⟨u5, e6, hF⟩ := q_bind hF
  cases hF
  exact g_zret dX12_isLine_11 rfl (q_z_spec e6).2.1 ⟨rfl, rfl, rfl⟩ (Nat.le_of_ble_eq_true rfl) (Nat.le_of_ble_eq_true rfl)
def rm_X12_isPerson : Room := { frames := 1, cells := 0, slots := 0, locals := 22 }
set_option maxRecDepth 100000 in
set_option maxHeartbeats 4000000 in
theorem M_X12_isPerson (l : Launch) (b : Nat) (D : va_G) (z : Nat → Nat) (nx : Nat) {h : qH} {a0 : Int32} {r : Int32} (hF : F_X12_isPerson h a0 = some r) : Me l b D z yX12_isPerson cX12_isPerson 1 (some .boolean) rm_X12_isPerson [.int a0] h nx (qE (some (.int r)) h nx) := by
  refine Me.of (by decide +kernel) (Nat.le_of_ble_eq_true rfl) ?_
  show Go l b D z yX12_isPerson cX12_isPerson 1 (some .boolean) rm_X12_isPerson (qE (some (.int r)) h nx) 0 [(0, .int a0)] [] h nx 0 0
  unfold F_X12_isPerson at hF
  refine g_iload_n 0 dX12_isPerson_0 rfl ?_
  refine g_iconst dX12_isPerson_1 lt_iconst_0 ?_
  refine g_iconst dX12_isPerson_2 lt_iconst_5 ?_
  obtain ⟨x1, e2, hF⟩ := q_bind hF
  refine g_callSr0 qm_X12_in wd_1623 wd_1624 (M_X12_in l b D z nx e2) (As := [.int a0, .int (0 : Int32), .int (5 : Int32)]) rfl rfl (Nat.le_of_ble_eq_true rfl) ⟨(Nat.le_of_ble_eq_true rfl), (Nat.le_of_ble_eq_true rfl)⟩ ⟨rfl, rfl⟩ ⟨(Nat.le_of_ble_eq_true rfl), (Nat.le_of_ble_eq_true rfl)⟩ dX12_isPerson_3 ?_
  obtain ⟨u3, e4, hF⟩ := q_bind hF
  cases hF
  exact g_zret dX12_isPerson_6 rfl (q_z_spec e4).2.1 ⟨rfl, rfl, rfl⟩ (Nat.le_of_ble_eq_true rfl) (Nat.le_of_ble_eq_true rfl)
def rm_X12_isScene : Room := { frames := 1, cells := 0, slots := 0, locals := 22 }
set_option maxRecDepth 100000 in
set_option maxHeartbeats 4000000 in
theorem M_X12_isScene (l : Launch) (b : Nat) (D : va_G) (z : Nat → Nat) (nx : Nat) {h : qH} {a0 : Int32} {r : Int32} (hF : F_X12_isScene h a0 = some r) : Me l b D z yX12_isScene cX12_isScene 1 (some .boolean) rm_X12_isScene [.int a0] h nx (qE (some (.int r)) h nx) := by
  refine Me.of (by decide +kernel) (Nat.le_of_ble_eq_true rfl) ?_
  show Go l b D z yX12_isScene cX12_isScene 1 (some .boolean) rm_X12_isScene (qE (some (.int r)) h nx) 0 [(0, .int a0)] [] h nx 0 0
  unfold F_X12_isScene at hF
  refine g_iload_n 0 dX12_isScene_0 rfl ?_
  refine g_iconst dX12_isScene_1 lt_iconst_0 ?_
  refine g_bipush dX12_isScene_2 lt_bipush_9 ?_
  obtain ⟨x1, e2, hF⟩ := q_bind hF
  refine g_callSr0 qm_X12_in wd_1623 wd_1624 (M_X12_in l b D z nx e2) (As := [.int a0, .int (0 : Int32), .int (9 : Int32)]) rfl rfl (Nat.le_of_ble_eq_true rfl) ⟨(Nat.le_of_ble_eq_true rfl), (Nat.le_of_ble_eq_true rfl)⟩ ⟨rfl, rfl⟩ ⟨(Nat.le_of_ble_eq_true rfl), (Nat.le_of_ble_eq_true rfl)⟩ dX12_isScene_4 ?_
  obtain ⟨u3, e4, hF⟩ := q_bind hF
  cases hF
  exact g_zret dX12_isScene_7 rfl (q_z_spec e4).2.1 ⟨rfl, rfl, rfl⟩ (Nat.le_of_ble_eq_true rfl) (Nat.le_of_ble_eq_true rfl)
def rm_X12_behind : Room := { frames := 0, cells := 0, slots := 0, locals := 0 }
set_option maxRecDepth 100000 in
set_option maxHeartbeats 4000000 in
theorem M_X12_behind (l : Launch) (b : Nat) (D : va_G) (z : Nat → Nat) (nx : Nat) {h : qH} {a0 : Nat} {a1 : Int32} {a2 : Int32} {r : Int32} (hF : F_X12_behind h a0 a1 a2 = some r) : Me l b D z yX12_behind cX12_behind 3 (some .int) rm_X12_behind [.ref a0, .int a1, .int a2] h nx (qE (some (.int r)) h nx) := by
  refine Me.of (by decide +kernel) (Nat.le_of_ble_eq_true rfl) ?_
  show Go l b D z yX12_behind cX12_behind 3 (some .int) rm_X12_behind (qE (some (.int r)) h nx) 0 [(0, .ref a0), (1, .int a1), (2, .int a2)] [] h nx 0 0
  unfold F_X12_behind at hF
  refine g_iload_n 2 dX12_behind_0 rfl ?_
  refine g_aload_n 0 dX12_behind_1 rfl ?_
  obtain ⟨x1, e2, hF⟩ := q_bind hF
  refine g_getfR fl_X12_47 e2 dX12_behind_2 ?_
  refine g_iload_n 1 dX12_behind_5 rfl ?_
  obtain ⟨x3, e4, hF⟩ := q_bind hF
  refine g_iald e4 dX12_behind_6 ?_
  refine g_icmp_ge 24 dX12_behind_7 (by decide) (fun c5 => ?_) (fun c5 => ?_)
  · replace hF := q_t c5 hF
    refine g_iconst dX12_behind_24 lt_iconst_m1 ?_
    cases hF
    exact g_iret dX12_behind_25 rfl ⟨rfl, rfl, rfl⟩ (Nat.le_of_ble_eq_true rfl) (Nat.le_of_ble_eq_true rfl)
  · replace hF := q_f c5 hF
    refine g_aload_n 0 dX12_behind_10 rfl ?_
    obtain ⟨x6, e7, hF⟩ := q_bind hF
    refine g_getfR fl_X12_44 e7 dX12_behind_11 ?_
    refine g_bipush dX12_behind_14 lt_bipush_20 ?_
    refine g_iload_n 1 dX12_behind_16 rfl ?_
    refine g_imul dX12_behind_17 ?_
    refine g_iload_n 2 dX12_behind_18 rfl ?_
    refine g_iadd dX12_behind_19 ?_
    obtain ⟨x8, e9, hF⟩ := q_bind hF
    refine g_iald e9 dX12_behind_20 ?_
    refine g_goto 25 dX12_behind_21 (by decide) ?_
    cases hF
    exact g_iret dX12_behind_25 rfl ⟨rfl, rfl, rfl⟩ (Nat.le_of_ble_eq_true rfl) (Nat.le_of_ble_eq_true rfl)
def rm_X12_who : Room := { frames := 1, cells := 0, slots := 0, locals := 21 }
set_option maxRecDepth 100000 in
set_option maxHeartbeats 4000000 in
theorem M_X12_who (l : Launch) (b : Nat) (D : va_G) (z : Nat → Nat) (nx : Nat) {h : qH} {a0 : Nat} {a1 : Int32} {r : Int32} (hF : F_X12_who h a0 a1 = some r) : Me l b D z yX12_who cX12_who 2 (some .int) rm_X12_who [.ref a0, .int a1] h nx (qE (some (.int r)) h nx) := by
  refine Me.of (by decide +kernel) (Nat.le_of_ble_eq_true rfl) ?_
  show Go l b D z yX12_who cX12_who 2 (some .int) rm_X12_who (qE (some (.int r)) h nx) 0 [(0, .ref a0), (1, .int a1)] [] h nx 0 0
  unfold F_X12_who at hF
  refine g_aload_n 0 dX12_who_0 rfl ?_
  refine g_bipush dX12_who_1 lt_bipush_24 ?_
  refine g_iload_n 1 dX12_who_3 rfl ?_
  refine g_iadd dX12_who_4 ?_
  obtain ⟨u1, e2, hF⟩ := q_bind hF
  obtain ⟨x3, e4, hF⟩ := q_bind hF
  refine g_callVr0 (ci := 12) (q := (RX12, TX12, 49)) qm_X12_of wd_1754 wd_1756 wd_100 rfl e2 (M_X12_of l b D z nx e4) (As := [.int ((24 : Int32) + a1)]) rfl rfl (Nat.le_of_ble_eq_true rfl) ⟨(Nat.le_of_ble_eq_true rfl), (Nat.le_of_ble_eq_true rfl)⟩ ⟨rfl, rfl⟩ ⟨(Nat.le_of_ble_eq_true rfl), (Nat.le_of_ble_eq_true rfl)⟩ dX12_who_5 ?_
  cases hF
  exact g_iret dX12_who_8 rfl ⟨rfl, rfl, rfl⟩ (Nat.le_of_ble_eq_true rfl) (Nat.le_of_ble_eq_true rfl)
def rm_X12_isOf : Room := { frames := 1, cells := 0, slots := 0, locals := 21 }
set_option maxRecDepth 100000 in
set_option maxHeartbeats 4000000 in
theorem M_X12_isOf (l : Launch) (b : Nat) (D : va_G) (z : Nat → Nat) (nx : Nat) {h : qH} {a0 : Nat} {a1 : Int32} {a2 : Int32} {r : Int32} (hF : F_X12_isOf h a0 a1 a2 = some r) : Me l b D z yX12_isOf cX12_isOf 3 (some .boolean) rm_X12_isOf [.ref a0, .int a1, .int a2] h nx (qE (some (.int r)) h nx) := by
  refine Me.of (by decide +kernel) (Nat.le_of_ble_eq_true rfl) ?_
  show Go l b D z yX12_isOf cX12_isOf 3 (some .boolean) rm_X12_isOf (qE (some (.int r)) h nx) 0 [(0, .ref a0), (1, .int a1), (2, .int a2)] [] h nx 0 0
  unfold F_X12_isOf at hF
  refine g_aload_n 0 dX12_isOf_0 rfl ?_
  refine g_bipush dX12_isOf_1 lt_bipush_44 ?_
  refine g_iload_n 1 dX12_isOf_3 rfl ?_
  refine g_iadd dX12_isOf_4 ?_
  obtain ⟨u1, e2, hF⟩ := q_bind hF
  obtain ⟨x3, e4, hF⟩ := q_bind hF
  refine g_callVr0 (ci := 12) (q := (RX12, TX12, 49)) qm_X12_of wd_1754 wd_1756 wd_100 rfl e2 (M_X12_of l b D z nx e4) (As := [.int ((44 : Int32) + a1)]) rfl rfl (Nat.le_of_ble_eq_true rfl) ⟨(Nat.le_of_ble_eq_true rfl), (Nat.le_of_ble_eq_true rfl)⟩ ⟨rfl, rfl⟩ ⟨(Nat.le_of_ble_eq_true rfl), (Nat.le_of_ble_eq_true rfl)⟩ dX12_isOf_5 ?_
  refine g_iload_n 2 dX12_isOf_8 rfl ?_
  refine g_icmp_ne 16 dX12_isOf_9 (by decide) (fun c5 => ?_) (fun c5 => ?_)
  · replace hF := q_f c5 hF
    refine g_iconst dX12_isOf_16 lt_iconst_0 ?_
    cases hF
    exact g_zret dX12_isOf_17 rfl zn_0 ⟨rfl, rfl, rfl⟩ (Nat.le_of_ble_eq_true rfl) (Nat.le_of_ble_eq_true rfl)
  · replace hF := q_t c5 hF
    refine g_iconst dX12_isOf_12 lt_iconst_1 ?_
    refine g_goto 17 dX12_isOf_13 (by decide) ?_
    cases hF
    exact g_zret dX12_isOf_17 rfl zn_1 ⟨rfl, rfl, rfl⟩ (Nat.le_of_ble_eq_true rfl) (Nat.le_of_ble_eq_true rfl)
def rm_X12_harmOf : Room := { frames := 2, cells := 0, slots := 0, locals := 42 }
set_option maxRecDepth 100000 in
set_option maxHeartbeats 4000000 in
theorem M_X12_harmOf (l : Launch) (b : Nat) (D : va_G) (z : Nat → Nat) (nx : Nat) {h : qH} {a0 : Nat} {a1 : Int32} {r : Int32} (hF : F_X12_harmOf h a0 a1 = some r) : Me l b D z yX12_harmOf cX12_harmOf 2 (some .int) rm_X12_harmOf [.ref a0, .int a1] h nx (qE (some (.int r)) h nx) := by
  refine Me.of (by decide +kernel) (Nat.le_of_ble_eq_true rfl) ?_
  show Go l b D z yX12_harmOf cX12_harmOf 2 (some .int) rm_X12_harmOf (qE (some (.int r)) h nx) 0 [(0, .ref a0), (1, .int a1)] [] h nx 0 0
  unfold F_X12_harmOf at hF
  refine g_aload_n 0 dX12_harmOf_0 rfl ?_
  refine g_bipush dX12_harmOf_1 lt_bipush_106 ?_
  refine g_aload_n 0 dX12_harmOf_3 rfl ?_
  refine g_iload_n 1 dX12_harmOf_4 rfl ?_
  obtain ⟨u1, e2, hF⟩ := q_bind hF
  obtain ⟨x3, e4, hF⟩ := q_bind hF
  refine g_callVr0 (ci := 12) (q := (RX12, TX12, 49)) qm_X12_who wd_1836 wd_1838 wd_116 rfl e2 (M_X12_who l b D z nx e4) (As := [.int a1]) rfl rfl (Nat.le_of_ble_eq_true rfl) ⟨(Nat.le_of_ble_eq_true rfl), (Nat.le_of_ble_eq_true rfl)⟩ ⟨rfl, rfl⟩ ⟨(Nat.le_of_ble_eq_true rfl), (Nat.le_of_ble_eq_true rfl)⟩ dX12_harmOf_5 ?_
  refine g_iadd dX12_harmOf_8 ?_
  obtain ⟨u5, e6, hF⟩ := q_bind hF
  obtain ⟨x7, e8, hF⟩ := q_bind hF
  refine g_callVr0 (ci := 12) (q := (RX12, TX12, 49)) qm_X12_of wd_1754 wd_1756 wd_100 rfl e6 (M_X12_of l b D z nx e8) (As := [.int ((106 : Int32) + x3)]) rfl rfl (Nat.le_of_ble_eq_true rfl) ⟨(Nat.le_of_ble_eq_true rfl), (Nat.le_of_ble_eq_true rfl)⟩ ⟨rfl, rfl⟩ ⟨(Nat.le_of_ble_eq_true rfl), (Nat.le_of_ble_eq_true rfl)⟩ dX12_harmOf_9 ?_
  refine g_iconst dX12_harmOf_12 lt_iconst_1 ?_
  refine g_icmp_ne 20 dX12_harmOf_13 (by decide) (fun c9 => ?_) (fun c9 => ?_)
  · replace hF := q_f c9 hF
    refine g_aload_n 0 dX12_harmOf_20 rfl ?_
    refine g_bipush dX12_harmOf_21 lt_bipush_64 ?_
    refine g_iload_n 1 dX12_harmOf_23 rfl ?_
    refine g_iadd dX12_harmOf_24 ?_
    obtain ⟨u10, e11, hF⟩ := q_bind hF
    obtain ⟨x12, e13, hF⟩ := q_bind hF
    refine g_callVr0 (ci := 12) (q := (RX12, TX12, 49)) qm_X12_of wd_1754 wd_1756 wd_100 rfl e11 (M_X12_of l b D z nx e13) (As := [.int ((64 : Int32) + a1)]) rfl rfl (Nat.le_of_ble_eq_true rfl) ⟨(Nat.le_of_ble_eq_true rfl), (Nat.le_of_ble_eq_true rfl)⟩ ⟨rfl, rfl⟩ ⟨(Nat.le_of_ble_eq_true rfl), (Nat.le_of_ble_eq_true rfl)⟩ dX12_harmOf_25 ?_
    cases hF
    exact g_iret dX12_harmOf_28 rfl ⟨rfl, rfl, rfl⟩ (Nat.le_of_ble_eq_true rfl) (Nat.le_of_ble_eq_true rfl)
  · replace hF := q_t c9 hF
    refine g_iconst dX12_harmOf_16 lt_iconst_0 ?_
    refine g_goto 28 dX12_harmOf_17 (by decide) ?_
    cases hF
    exact g_iret dX12_harmOf_28 rfl ⟨rfl, rfl, rfl⟩ (Nat.le_of_ble_eq_true rfl) (Nat.le_of_ble_eq_true rfl)
def rm_X12_strays : Room := { frames := 0, cells := 0, slots := 0, locals := 0 }
set_option maxRecDepth 100000 in
set_option maxHeartbeats 4000000 in
theorem M_X12_strays (l : Launch) (b : Nat) (D : va_G) (z : Nat → Nat) (nx : Nat) {h : qH} {a0 : Int32} {r : Int32} (hF : F_X12_strays h a0 = some r) : Me l b D z yX12_strays cX12_strays 1 (some .int) rm_X12_strays [.int a0] h nx (qE (some (.int r)) h nx) := by
  refine Me.of (by decide +kernel) (Nat.le_of_ble_eq_true rfl) ?_
  show Go l b D z yX12_strays cX12_strays 1 (some .int) rm_X12_strays (qE (some (.int r)) h nx) 0 [(0, .int a0)] [] h nx 0 0
  unfold F_X12_strays at hF
  refine g_iload_n 0 dX12_strays_0 rfl ?_
  refine g_if_ne 8 dX12_strays_1 (by decide) (fun c1 => ?_) (fun c1 => ?_)
  · replace hF := q_f c1 hF
    refine g_iconst dX12_strays_8 lt_iconst_1 ?_
    cases hF
    exact g_iret dX12_strays_9 rfl ⟨rfl, rfl, rfl⟩ (Nat.le_of_ble_eq_true rfl) (Nat.le_of_ble_eq_true rfl)
  · replace hF := q_t c1 hF
    refine g_iconst dX12_strays_4 lt_iconst_0 ?_
    refine g_goto 9 dX12_strays_5 (by decide) ?_
    cases hF
    exact g_iret dX12_strays_9 rfl ⟨rfl, rfl, rfl⟩ (Nat.le_of_ble_eq_true rfl) (Nat.le_of_ble_eq_true rfl)
