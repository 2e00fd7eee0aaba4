def rm_X0_init : Room := { frames := 1, cells := 11, slots := 548, locals := 20 }
theorem rmc_X0_init : rm_X0_init.cells = 11 := rfl
theorem rms_X0_init : rm_X0_init.slots = 548 := rfl
set_option maxRecDepth 100000 in
set_option maxHeartbeats 4000000 in
theorem M_X0_init (l : Launch) (b : Nat) (D : va_G) (z : Nat → Nat) (nx : Nat) {h : qH} {a0 : Nat} {r : qH × Nat} (hF : F_X0_init h nx a0 = some r) : Me l b D z yX0_init cX0_init 1 none rm_X0_init [.ref a0] h nx (qE none r.1 r.2) := by
  refine Me.of (by decide +kernel) (Nat.le_of_ble_eq_true rfl) ?_
  show Go l b D z yX0_init cX0_init 1 none rm_X0_init (qE none r.1 r.2) 0 [(0, .ref a0)] [] h nx 0 0
  unfold F_X0_init at hF
  refine g_aload_n 0 dX0_init_0 rfl ?_
  refine g_obj wd_210 wd_190 wd_191 (Nat.le_of_ble_eq_true rfl) (Nat.le_of_ble_eq_true rfl) dX0_init_1 ?_
  refine g_aload_n 0 dX0_init_4 rfl ?_
  refine g_bipush dX0_init_5 lt_bipush_20 ?_
  refine g_newi (N := 20) wd_266 (by decide) (by decide) (Nat.le_of_ble_eq_true rfl) (Nat.le_of_ble_eq_true rfl) (Nat.le_of_ble_eq_true rfl) dX0_init_7 ?_
  obtain ⟨h1, e2, hF⟩ := q_bind hF
  refine g_putF fl_X0_11 e2 rfl rfl rfl (fun q hq => by cases hq; rfl) dX0_init_9 ?_
  refine g_aload_n 0 dX0_init_12 rfl ?_
  refine g_bipush dX0_init_13 lt_bipush_20 ?_
  refine g_newi (N := 20) wd_266 (by decide) (by decide) (Nat.le_of_ble_eq_true rfl) (Nat.le_of_ble_eq_true rfl) (Nat.le_of_ble_eq_true rfl) dX0_init_15 ?_
  obtain ⟨h3, e4, hF⟩ := q_bind hF
  refine g_putF fl_X0_15 e4 rfl rfl rfl (fun q hq => by cases hq; rfl) dX0_init_17 ?_
  refine g_aload_n 0 dX0_init_20 rfl ?_
  refine g_bipush dX0_init_21 lt_bipush_20 ?_
  refine g_newi (N := 20) wd_266 (by decide) (by decide) (Nat.le_of_ble_eq_true rfl) (Nat.le_of_ble_eq_true rfl) (Nat.le_of_ble_eq_true rfl) dX0_init_23 ?_
  obtain ⟨h5, e6, hF⟩ := q_bind hF
  refine g_putF fl_X0_18 e6 rfl rfl rfl (fun q hq => by cases hq; rfl) dX0_init_25 ?_
  refine g_aload_n 0 dX0_init_28 rfl ?_
  refine g_bipush dX0_init_29 lt_bipush_20 ?_
  refine g_newi (N := 20) wd_266 (by decide) (by decide) (Nat.le_of_ble_eq_true rfl) (Nat.le_of_ble_eq_true rfl) (Nat.le_of_ble_eq_true rfl) dX0_init_31 ?_
  obtain ⟨h7, e8, hF⟩ := q_bind hF
  refine g_putF fl_X0_21 e8 rfl rfl rfl (fun q hq => by cases hq; rfl) dX0_init_33 ?_
  refine g_aload_n 0 dX0_init_36 rfl ?_
  refine g_bipush dX0_init_37 lt_bipush_20 ?_
  refine g_newi (N := 20) wd_266 (by decide) (by decide) (Nat.le_of_ble_eq_true rfl) (Nat.le_of_ble_eq_true rfl) (Nat.le_of_ble_eq_true rfl) dX0_init_39 ?_
  obtain ⟨h9, e10, hF⟩ := q_bind hF
  refine g_putF fl_X0_24 e10 rfl rfl rfl (fun q hq => by cases hq; rfl) dX0_init_41 ?_
  refine g_aload_n 0 dX0_init_44 rfl ?_
  refine g_bipush dX0_init_45 lt_bipush_8 ?_
  refine g_newi (N := 8) wd_266 (by decide) (by decide) (Nat.le_of_ble_eq_true rfl) (Nat.le_of_ble_eq_true rfl) (Nat.le_of_ble_eq_true rfl) dX0_init_47 ?_
  obtain ⟨h11, e12, hF⟩ := q_bind hF
  refine g_putF fl_X0_27 e12 rfl rfl rfl (fun q hq => by cases hq; rfl) dX0_init_49 ?_
  refine g_aload_n 0 dX0_init_52 rfl ?_
  refine g_bipush dX0_init_53 lt_bipush_8 ?_
  refine g_newi (N := 8) wd_266 (by decide) (by decide) (Nat.le_of_ble_eq_true rfl) (Nat.le_of_ble_eq_true rfl) (Nat.le_of_ble_eq_true rfl) dX0_init_55 ?_
  obtain ⟨h13, e14, hF⟩ := q_bind hF
  refine g_putF fl_X0_30 e14 rfl rfl rfl (fun q hq => by cases hq; rfl) dX0_init_57 ?_
  refine g_aload_n 0 dX0_init_60 rfl ?_
  refine g_bipush dX0_init_61 lt_bipush_6 ?_
  refine g_newi (N := 6) wd_266 (by decide) (by decide) (Nat.le_of_ble_eq_true rfl) (Nat.le_of_ble_eq_true rfl) (Nat.le_of_ble_eq_true rfl) dX0_init_63 ?_
  obtain ⟨h15, e16, hF⟩ := q_bind hF
  refine g_putF fl_X0_33 e16 rfl rfl rfl (fun q hq => by cases hq; rfl) dX0_init_65 ?_
  refine g_aload_n 0 dX0_init_68 rfl ?_
  refine g_bipush dX0_init_69 lt_bipush_6 ?_
  refine g_newi (N := 6) wd_266 (by decide) (by decide) (Nat.le_of_ble_eq_true rfl) (Nat.le_of_ble_eq_true rfl) (Nat.le_of_ble_eq_true rfl) dX0_init_71 ?_
  obtain ⟨h17, e18, hF⟩ := q_bind hF
  refine g_putF fl_X0_36 e18 rfl rfl rfl (fun q hq => by cases hq; rfl) dX0_init_73 ?_
  refine g_aload_n 0 dX0_init_76 rfl ?_
  refine g_sipush dX0_init_77 lt_sipush_400 ?_
  refine g_newi (N := 400) wd_266 (by decide) (by decide) (Nat.le_of_ble_eq_true rfl) (Nat.le_of_ble_eq_true rfl) (Nat.le_of_ble_eq_true rfl) dX0_init_80 ?_
  obtain ⟨h19, e20, hF⟩ := q_bind hF
  refine g_putF fl_X0_39 e20 rfl rfl rfl (fun q hq => by cases hq; rfl) dX0_init_82 ?_
  refine g_aload_n 0 dX0_init_85 rfl ?_
  refine g_bipush dX0_init_86 lt_bipush_20 ?_
  refine g_newi (N := 20) wd_266 (by decide) (by decide) (Nat.le_of_ble_eq_true rfl) (Nat.le_of_ble_eq_true rfl) (Nat.le_of_ble_eq_true rfl) dX0_init_88 ?_
  obtain ⟨h21, e22, hF⟩ := q_bind hF
  refine g_putF fl_X0_42 e22 rfl rfl rfl (fun q hq => by cases hq; rfl) dX0_init_90 ?_
  cases hF
  exact g_vret dX0_init_93 rfl ⟨rfl, rfl, rfl⟩ (Nat.le_of_ble_eq_true rfl) (Nat.le_of_ble_eq_true rfl)
def rm_X0_clear : Room := { frames := 0, cells := 0, slots := 0, locals := 0 }
set_option maxRecDepth 100000 in
set_option maxHeartbeats 4000000 in
theorem B_X0_clear_22 (l : Launch) (b : Nat) (D : va_G) (z : Nat → Nat) {Φ : Option Value → qH → Nat → Prop} {nx : Nat} {a0 : Nat} {a1 : Int32} {h : qH} {o : (Int32 × qH) ⊕ qH} (hF : b_X0_clear_22 a0 a1 h = some o) (hback : ∀ (b1 : Int32) (bh : qH), o = .inl (b1, bh) → Go l b D z yX0_clear cX0_clear 2 none rm_X0_clear Φ 22 [(0, .ref a0), (1, .int b1)] [] bh nx 0 0) (hx0 : ∀  (bh : qH), o = .inr bh → Go l b D z yX0_clear cX0_clear 2 none rm_X0_clear Φ 48 [] [] bh nx 0 0) : Go l b D z yX0_clear cX0_clear 2 none rm_X0_clear Φ 22 [(0, .ref a0), (1, .int a1)] [] h nx 0 0 := by
  unfold b_X0_clear_22 at hF
  refine g_iload_n 1 dX0_clear_22 rfl ?_
  refine g_bipush dX0_clear_23 lt_bipush_6 ?_
  refine g_icmp_ge 48 dX0_clear_25 (by decide) (fun c1 => ?_) (fun c1 => ?_)
  · replace hF := q_t c1 hF
    cases hF
    refine g_sub [] rfl ?_
    exact hx0 _ rfl
  · replace hF := q_f c1 hF
    refine g_aload_n 0 dX0_clear_28 rfl ?_
    obtain ⟨x2, e3, hF⟩ := q_bind hF
    refine g_getfR fl_X0_33 e3 dX0_clear_29 ?_
    refine g_iload_n 1 dX0_clear_32 rfl ?_
    refine g_iconst dX0_clear_33 lt_iconst_2 ?_
    obtain ⟨h4, e5, hF⟩ := q_bind hF
    refine g_iast e5 dX0_clear_34 ?_
    refine g_aload_n 0 dX0_clear_35 rfl ?_
    obtain ⟨x6, e7, hF⟩ := q_bind hF
    refine g_getfR fl_X0_36 e7 dX0_clear_36 ?_
    refine g_iload_n 1 dX0_clear_39 rfl ?_
    refine g_iconst dX0_clear_40 lt_iconst_0 ?_
    obtain ⟨h8, e9, hF⟩ := q_bind hF
    refine g_iast e9 dX0_clear_41 ?_
    refine g_iinc [(1, .int (a1 + 1)), (0, .ref a0)] 1 dX0_clear_42 rfl (congrArg (a1 + ·) lt_iconst_1) (Nat.le_of_ble_eq_true rfl) rfl ?_
    refine g_goto 22 dX0_clear_45 (by decide) ?_
    cases hF
    refine g_sub [1, 0] rfl ?_
    exact hback _ _ rfl
set_option maxRecDepth 100000 in
set_option maxHeartbeats 4000000 in
theorem L_X0_clear_22 (l : Launch) (b : Nat) (D : va_G) (z : Nat → Nat) {Φ : Option Value → qH → Nat → Prop} {nx : Nat} {a0 : Nat} : ∀ (n : Nat) (a1 : Int32) (h : qH) (e : qH), q_lp (s_X0_clear_22 a0) n (a1, h) = some e → (∀  (bh : qH), e = bh → Go l b D z yX0_clear cX0_clear 2 none rm_X0_clear Φ 48 [] [] bh nx 0 0) → Go l b D z yX0_clear cX0_clear 2 none rm_X0_clear Φ 22 [(0, .ref a0), (1, .int a1)] [] h nx 0 0 := by
  intro n
  induction n with
  | zero => intro a1 h e he; cases (show none = some e from he)
  | succ n ih =>
    intro a1 h e he hx0
    obtain ⟨o, ho, h1, h2⟩ := q_lp_succ he
    exact B_X0_clear_22 l b D z (show b_X0_clear_22 a0 a1 h = some o from ho) (fun b1 bh hb => ih _ _ e (h1 _ hb) hx0) (fun p0 hr => hx0 p0 (h2 _ hr).symm)
set_option maxRecDepth 100000 in
set_option maxHeartbeats 4000000 in
theorem M_X0_clear (l : Launch) (b : Nat) (D : va_G) (z : Nat → Nat) (nx : Nat) {h : qH} {a0 : Nat} {r : qH} (hF : F_X0_clear h a0 = some r) : Me l b D z yX0_clear cX0_clear 2 none rm_X0_clear [.ref a0] h nx (qE none r nx) := by
  refine Me.of (by decide +kernel) (Nat.le_of_ble_eq_true rfl) ?_
  show Go l b D z yX0_clear cX0_clear 2 none rm_X0_clear (qE none r nx) 0 [(0, .ref a0)] [] h nx 0 0
  unfold F_X0_clear at hF
  refine g_aload_n 0 dX0_clear_0 rfl ?_
  refine g_iconst dX0_clear_1 lt_iconst_0 ?_
  obtain ⟨h1, e2, hF⟩ := q_bind hF
  refine g_putf fl_X0_45 e2 rfl rfl dX0_clear_2 ?_
  refine g_aload_n 0 dX0_clear_5 rfl ?_
  refine g_iconst dX0_clear_6 lt_iconst_0 ?_
  obtain ⟨h3, e4, hF⟩ := q_bind hF
  refine g_putf fl_X0_49 e4 rfl rfl dX0_clear_7 ?_
  refine g_aload_n 0 dX0_clear_10 rfl ?_
  refine g_iconst dX0_clear_11 lt_iconst_3 ?_
  obtain ⟨h5, e6, hF⟩ := q_bind hF
  refine g_putf fl_X0_52 e6 rfl rfl dX0_clear_12 ?_
  refine g_aload_n 0 dX0_clear_15 rfl ?_
  refine g_iconst dX0_clear_16 lt_iconst_3 ?_
  obtain ⟨h7, e8, hF⟩ := q_bind hF
  refine g_putf fl_X0_55 e8 rfl rfl dX0_clear_17 ?_
  refine g_iconst dX0_clear_20 lt_iconst_0 ?_
  refine g_istore_n [(1, .int (0 : Int32)), (0, .ref a0)] dX0_clear_21 (Nat.le_of_ble_eq_true rfl) rfl ?_
  obtain ⟨e9, w10, hF⟩ := q_bind hF
  refine g_sub [1, 0] rfl ?_
  refine L_X0_clear_22 l b D z q_N (0 : Int32) h7 e9 w10 ?_
  · intro h11 w12
    replace w12 := w12.symm
    subst w12
    cases hF
    exact g_vret dX0_clear_48 rfl ⟨rfl, rfl, rfl⟩ (Nat.le_of_ble_eq_true rfl) (Nat.le_of_ble_eq_true rfl)
def rm_X0_addLine : Room := { frames := 0, cells := 0, slots := 0, locals := 0 }
set_option maxRecDepth 100000 in
set_option maxHeartbeats 4000000 in
theorem M_X0_addLine (l : Launch) (b : Nat) (D : va_G) (z : Nat → Nat) (nx : Nat) {h : qH} {a0 : Nat} {a1 : Int32} {a2 : Int32} {a3 : Int32} {a4 : Int32} {r : qH} (hF : F_X0_addLine h a0 a1 a2 a3 a4 = some r) : Me l b D z yX0_addLine cX0_addLine 5 none rm_X0_addLine [.ref a0, .int a1, .int a2, .int a3, .int a4] h nx (qE none r nx) := by
  refine Me.of (by decide +kernel) (Nat.le_of_ble_eq_true rfl) ?_
  show Go l b D z yX0_addLine cX0_addLine 5 none rm_X0_addLine (qE none r nx) 0 [(0, .ref a0), (1, .int a1), (2, .int a2), (3, .int a3), (4, .int a4)] [] h nx 0 0
  unfold F_X0_addLine at hF
  refine g_aload_n 0 dX0_addLine_0 rfl ?_
  obtain ⟨x1, e2, hF⟩ := q_bind hF
  refine g_getfI fl_X0_45 e2 dX0_addLine_1 ?_
  refine g_bipush dX0_addLine_4 lt_bipush_20 ?_
  refine g_icmp_ge 60 dX0_addLine_6 (by decide) (fun c3 => ?_) (fun c3 => ?_)
  · replace hF := q_t c3 hF
    cases hF
    exact g_vret dX0_addLine_60 rfl ⟨rfl, rfl, rfl⟩ (Nat.le_of_ble_eq_true rfl) (Nat.le_of_ble_eq_true rfl)
  · replace hF := q_f c3 hF
    refine g_aload_n 0 dX0_addLine_9 rfl ?_
    obtain ⟨x4, e5, hF⟩ := q_bind hF
    refine g_getfR fl_X0_11 e5 dX0_addLine_10 ?_
    refine g_aload_n 0 dX0_addLine_13 rfl ?_
    obtain ⟨x6, e7, hF⟩ := q_bind hF
    refine g_getfI fl_X0_45 e7 dX0_addLine_14 ?_
    refine g_iload_n 1 dX0_addLine_17 rfl ?_
    obtain ⟨h8, e9, hF⟩ := q_bind hF
    refine g_iast e9 dX0_addLine_18 ?_
    refine g_aload_n 0 dX0_addLine_19 rfl ?_
    obtain ⟨x10, e11, hF⟩ := q_bind hF
    refine g_getfR fl_X0_15 e11 dX0_addLine_20 ?_
    refine g_aload_n 0 dX0_addLine_23 rfl ?_
    obtain ⟨x12, e13, hF⟩ := q_bind hF
    refine g_getfI fl_X0_45 e13 dX0_addLine_24 ?_
    refine g_iload_n 2 dX0_addLine_27 rfl ?_
    obtain ⟨h14, e15, hF⟩ := q_bind hF
    refine g_iast e15 dX0_addLine_28 ?_
    refine g_aload_n 0 dX0_addLine_29 rfl ?_
    obtain ⟨x16, e17, hF⟩ := q_bind hF
    refine g_getfR fl_X0_18 e17 dX0_addLine_30 ?_
    refine g_aload_n 0 dX0_addLine_33 rfl ?_
    obtain ⟨x18, e19, hF⟩ := q_bind hF
    refine g_getfI fl_X0_45 e19 dX0_addLine_34 ?_
    refine g_iload_n 3 dX0_addLine_37 rfl ?_
    obtain ⟨h20, e21, hF⟩ := q_bind hF
    refine g_iast e21 dX0_addLine_38 ?_
    refine g_aload_n 0 dX0_addLine_39 rfl ?_
    obtain ⟨x22, e23, hF⟩ := q_bind hF
    refine g_getfR fl_X0_21 e23 dX0_addLine_40 ?_
    refine g_aload_n 0 dX0_addLine_43 rfl ?_
    obtain ⟨x24, e25, hF⟩ := q_bind hF
    refine g_getfI fl_X0_45 e25 dX0_addLine_44 ?_
    refine g_iload 4 dX0_addLine_47 rfl ?_
    obtain ⟨h26, e27, hF⟩ := q_bind hF
    refine g_iast e27 dX0_addLine_49 ?_
    refine g_aload_n 0 dX0_addLine_50 rfl ?_
    refine g_dup dX0_addLine_51 rfl ?_
    obtain ⟨x28, e29, hF⟩ := q_bind hF
    refine g_getfI fl_X0_45 e29 dX0_addLine_52 ?_
    refine g_iconst dX0_addLine_55 lt_iconst_1 ?_
    refine g_iadd dX0_addLine_56 ?_
    obtain ⟨h30, e31, hF⟩ := q_bind hF
    refine g_putf fl_X0_45 e31 rfl rfl dX0_addLine_57 ?_
    cases hF
    exact g_vret dX0_addLine_60 rfl ⟨rfl, rfl, rfl⟩ (Nat.le_of_ble_eq_true rfl) (Nat.le_of_ble_eq_true rfl)
def rm_X0_addBack : Room := { frames := 0, cells := 0, slots := 0, locals := 0 }
set_option maxRecDepth 100000 in
set_option maxHeartbeats 4000000 in
theorem M_X0_addBack (l : Launch) (b : Nat) (D : va_G) (z : Nat → Nat) (nx : Nat) {h : qH} {a0 : Nat} {a1 : Int32} {a2 : Int32} {r : qH} (hF : F_X0_addBack h a0 a1 a2 = some r) : Me l b D z yX0_addBack cX0_addBack 3 none rm_X0_addBack [.ref a0, .int a1, .int a2] h nx (qE none r nx) := by
  refine Me.of (by decide +kernel) (Nat.le_of_ble_eq_true rfl) ?_
  show Go l b D z yX0_addBack cX0_addBack 3 none rm_X0_addBack (qE none r nx) 0 [(0, .ref a0), (1, .int a1), (2, .int a2)] [] h nx 0 0
  unfold F_X0_addBack at hF
  refine g_aload_n 0 dX0_addBack_0 rfl ?_
  obtain ⟨x1, e2, hF⟩ := q_bind hF
  refine g_getfI fl_X0_49 e2 dX0_addBack_1 ?_
  refine g_bipush dX0_addBack_4 lt_bipush_8 ?_
  refine g_icmp_ge 39 dX0_addBack_6 (by decide) (fun c3 => ?_) (fun c3 => ?_)
  · replace hF := q_t c3 hF
    cases hF
    exact g_vret dX0_addBack_39 rfl ⟨rfl, rfl, rfl⟩ (Nat.le_of_ble_eq_true rfl) (Nat.le_of_ble_eq_true rfl)
  · replace hF := q_f c3 hF
    refine g_aload_n 0 dX0_addBack_9 rfl ?_
    obtain ⟨x4, e5, hF⟩ := q_bind hF
    refine g_getfR fl_X0_27 e5 dX0_addBack_10 ?_
    refine g_aload_n 0 dX0_addBack_13 rfl ?_
    obtain ⟨x6, e7, hF⟩ := q_bind hF
    refine g_getfI fl_X0_49 e7 dX0_addBack_14 ?_
    refine g_iload_n 1 dX0_addBack_17 rfl ?_
    obtain ⟨h8, e9, hF⟩ := q_bind hF
    refine g_iast e9 dX0_addBack_18 ?_
    refine g_aload_n 0 dX0_addBack_19 rfl ?_
    obtain ⟨x10, e11, hF⟩ := q_bind hF
    refine g_getfR fl_X0_30 e11 dX0_addBack_20 ?_
    refine g_aload_n 0 dX0_addBack_23 rfl ?_
    obtain ⟨x12, e13, hF⟩ := q_bind hF
    refine g_getfI fl_X0_49 e13 dX0_addBack_24 ?_
    refine g_iload_n 2 dX0_addBack_27 rfl ?_
    obtain ⟨h14, e15, hF⟩ := q_bind hF
    refine g_iast e15 dX0_addBack_28 ?_
    refine g_aload_n 0 dX0_addBack_29 rfl ?_
    refine g_dup dX0_addBack_30 rfl ?_
    obtain ⟨x16, e17, hF⟩ := q_bind hF
    refine g_getfI fl_X0_49 e17 dX0_addBack_31 ?_
    refine g_iconst dX0_addBack_34 lt_iconst_1 ?_
    refine g_iadd dX0_addBack_35 ?_
    obtain ⟨h18, e19, hF⟩ := q_bind hF
    refine g_putf fl_X0_49 e19 rfl rfl dX0_addBack_36 ?_
    cases hF
    exact g_vret dX0_addBack_39 rfl ⟨rfl, rfl, rfl⟩ (Nat.le_of_ble_eq_true rfl) (Nat.le_of_ble_eq_true rfl)
def rm_X11_isPerson : Room := { frames := 0, cells := 0, slots := 0, locals := 0 }
set_option maxRecDepth 100000 in
set_option maxHeartbeats 4000000 in
theorem M_X11_isPerson (l : Launch) (b : Nat) (D : va_G) (z : Nat → Nat) (nx : Nat) {h : qH} {a0 : Int32} {r : Int32} (hF : F_X11_isPerson h a0 = some r) : Me l b D z yX11_isPerson cX11_isPerson 1 (some .boolean) rm_X11_isPerson [.int a0] h nx (qE (some (.int r)) h nx) := by
  refine Me.of (by decide +kernel) (Nat.le_of_ble_eq_true rfl) ?_
  show Go l b D z yX11_isPerson cX11_isPerson 1 (some .boolean) rm_X11_isPerson (qE (some (.int r)) h nx) 0 [(0, .int a0)] [] h nx 0 0
  unfold F_X11_isPerson at hF
  refine g_iload_n 0 dX11_isPerson_0 rfl ?_
  refine g_if_lt 14 dX11_isPerson_1 (by decide) (fun c1 => ?_) (fun c1 => ?_)
  · replace hF := q_t c1 hF
    refine g_iconst dX11_isPerson_14 lt_iconst_0 ?_
    cases hF
    exact g_zret dX11_isPerson_15 rfl zn_0 ⟨rfl, rfl, rfl⟩ (Nat.le_of_ble_eq_true rfl) (Nat.le_of_ble_eq_true rfl)
  · replace hF := q_f c1 hF
    refine g_iload_n 0 dX11_isPerson_4 rfl ?_
    refine g_bipush dX11_isPerson_5 lt_bipush_6 ?_
    refine g_icmp_ge 14 dX11_isPerson_7 (by decide) (fun c2 => ?_) (fun c2 => ?_)
    · replace hF := q_t c2 hF
      refine g_iconst dX11_isPerson_14 lt_iconst_0 ?_
      cases hF
      exact g_zret dX11_isPerson_15 rfl zn_0 ⟨rfl, rfl, rfl⟩ (Nat.le_of_ble_eq_true rfl) (Nat.le_of_ble_eq_true rfl)
    · replace hF := q_f c2 hF
      refine g_iconst dX11_isPerson_10 lt_iconst_1 ?_
      refine g_goto 15 dX11_isPerson_11 (by decide) ?_
      cases hF
      exact g_zret dX11_isPerson_15 rfl zn_1 ⟨rfl, rfl, rfl⟩ (Nat.le_of_ble_eq_true rfl) (Nat.le_of_ble_eq_true rfl)
def rm_X0_setDry : Room := { frames := 1, cells := 0, slots := 0, locals := 20 }
set_option maxRecDepth 100000 in
set_option maxHeartbeats 4000000 in
theorem M_X0_setDry (l : Launch) (b : Nat) (D : va_G) (z : Nat → Nat) (nx : Nat) {h : qH} {a0 : Nat} {a1 : Int32} {a2 : Int32} {r : qH} (hF : F_X0_setDry h a0 a1 a2 = some r) : Me l b D z yX0_setDry cX0_setDry 3 none rm_X0_setDry [.ref a0, .int a1, .int a2] h nx (qE none r nx) := by
  refine Me.of (by decide +kernel) (Nat.le_of_ble_eq_true rfl) ?_
  show Go l b D z yX0_setDry cX0_setDry 3 none rm_X0_setDry (qE none r nx) 0 [(0, .ref a0), (1, .int a1), (2, .int a2)] [] h nx 0 0
  unfold F_X0_setDry at hF
  refine g_iload_n 1 dX0_setDry_0 rfl ?_
  obtain ⟨x1, e2, hF⟩ := q_bind hF
  refine g_callSNr0 qm_X11_isPerson (by decide +kernel) wd_760 (M_X11_isPerson l b D z nx e2) (As := [.int a1]) rfl rfl (Nat.le_of_ble_eq_true rfl) ⟨(Nat.le_of_ble_eq_true rfl), (Nat.le_of_ble_eq_true rfl)⟩ ⟨rfl, rfl⟩ ⟨(Nat.le_of_ble_eq_true rfl), (Nat.le_of_ble_eq_true rfl)⟩ dX0_setDry_1 ?_
  refine g_if_eq 14 dX0_setDry_4 (by decide) (fun c3 => ?_) (fun c3 => ?_)
  · replace hF := q_t c3 hF
    cases hF
    exact g_vret dX0_setDry_14 rfl ⟨rfl, rfl, rfl⟩ (Nat.le_of_ble_eq_true rfl) (Nat.le_of_ble_eq_true rfl)
  · replace hF := q_f c3 hF
    refine g_aload_n 0 dX0_setDry_7 rfl ?_
    obtain ⟨x4, e5, hF⟩ := q_bind hF
    refine g_getfR fl_X0_33 e5 dX0_setDry_8 ?_
    refine g_iload_n 1 dX0_setDry_11 rfl ?_
    refine g_iload_n 2 dX0_setDry_12 rfl ?_
    obtain ⟨h6, e7, hF⟩ := q_bind hF
    refine g_iast e7 dX0_setDry_13 ?_
    cases hF
    exact g_vret dX0_setDry_14 rfl ⟨rfl, rfl, rfl⟩ (Nat.le_of_ble_eq_true rfl) (Nat.le_of_ble_eq_true rfl)
def rm_X0_setChild : Room := { frames := 1, cells := 0, slots := 0, locals := 20 }
set_option maxRecDepth 100000 in
set_option maxHeartbeats 4000000 in
theorem M_X0_setChild (l : Launch) (b : Nat) (D : va_G) (z : Nat → Nat) (nx : Nat) {h : qH} {a0 : Nat} {a1 : Int32} {r : qH} (hF : F_X0_setChild h a0 a1 = some r) : Me l b D z yX0_setChild cX0_setChild 2 none rm_X0_setChild [.ref a0, .int a1] h nx (qE none r nx) := by
  refine Me.of (by decide +kernel) (Nat.le_of_ble_eq_true rfl) ?_
  show Go l b D z yX0_setChild cX0_setChild 2 none rm_X0_setChild (qE none r nx) 0 [(0, .ref a0), (1, .int a1)] [] h nx 0 0
  unfold F_X0_setChild at hF
  refine g_iload_n 1 dX0_setChild_0 rfl ?_
  obtain ⟨x1, e2, hF⟩ := q_bind hF
  refine g_callSNr0 qm_X11_isPerson (by decide +kernel) wd_760 (M_X11_isPerson l b D z nx e2) (As := [.int a1]) rfl rfl (Nat.le_of_ble_eq_true rfl) ⟨(Nat.le_of_ble_eq_true rfl), (Nat.le_of_ble_eq_true rfl)⟩ ⟨rfl, rfl⟩ ⟨(Nat.le_of_ble_eq_true rfl), (Nat.le_of_ble_eq_true rfl)⟩ dX0_setChild_1 ?_
  refine g_if_eq 14 dX0_setChild_4 (by decide) (fun c3 => ?_) (fun c3 => ?_)
  · replace hF := q_t c3 hF
    cases hF
    exact g_vret dX0_setChild_14 rfl ⟨rfl, rfl, rfl⟩ (Nat.le_of_ble_eq_true rfl) (Nat.le_of_ble_eq_true rfl)
  · replace hF := q_f c3 hF
    refine g_aload_n 0 dX0_setChild_7 rfl ?_
    obtain ⟨x4, e5, hF⟩ := q_bind hF
    refine g_getfR fl_X0_36 e5 dX0_setChild_8 ?_
    refine g_iload_n 1 dX0_setChild_11 rfl ?_
    refine g_iconst dX0_setChild_12 lt_iconst_1 ?_
    obtain ⟨h6, e7, hF⟩ := q_bind hF
    refine g_iast e7 dX0_setChild_13 ?_
    cases hF
    exact g_vret dX0_setChild_14 rfl ⟨rfl, rfl, rfl⟩ (Nat.le_of_ble_eq_true rfl) (Nat.le_of_ble_eq_true rfl)
def rm_X0_isChild : Room := { frames := 0, cells := 0, slots := 0, locals := 0 }
set_option maxRecDepth 100000 in
set_option maxHeartbeats 4000000 in
theorem M_X0_isChild (l : Launch) (b : Nat) (D : va_G) (z : Nat → Nat) (nx : Nat) {h : qH} {a0 : Nat} {a1 : Int32} {r : Int32} (hF : F_X0_isChild h a0 a1 = some r) : Me l b D z yX0_isChild cX0_isChild 2 (some .boolean) rm_X0_isChild [.ref a0, .int a1] h nx (qE (some (.int r)) h nx) := by
  refine Me.of (by decide +kernel) (Nat.le_of_ble_eq_true rfl) ?_
  show Go l b D z yX0_isChild cX0_isChild 2 (some .boolean) rm_X0_isChild (qE (some (.int r)) h nx) 0 [(0, .ref a0), (1, .int a1)] [] h nx 0 0
  unfold F_X0_isChild at hF
  refine g_iload_n 1 dX0_isChild_0 rfl ?_
  refine g_if_lt 24 dX0_isChild_1 (by decide) (fun c1 => ?_) (fun c1 => ?_)
  · replace hF := q_t c1 hF
    refine g_iconst dX0_isChild_24 lt_iconst_0 ?_
    cases hF
    exact g_zret dX0_isChild_25 rfl zn_0 ⟨rfl, rfl, rfl⟩ (Nat.le_of_ble_eq_true rfl) (Nat.le_of_ble_eq_true rfl)
  · replace hF := q_f c1 hF
    refine g_iload_n 1 dX0_isChild_4 rfl ?_
    refine g_bipush dX0_isChild_5 lt_bipush_6 ?_
    refine g_icmp_ge 24 dX0_isChild_7 (by decide) (fun c2 => ?_) (fun c2 => ?_)
    · replace hF := q_t c2 hF
      refine g_iconst dX0_isChild_24 lt_iconst_0 ?_
      cases hF
      exact g_zret dX0_isChild_25 rfl zn_0 ⟨rfl, rfl, rfl⟩ (Nat.le_of_ble_eq_true rfl) (Nat.le_of_ble_eq_true rfl)
    · replace hF := q_f c2 hF
      refine g_aload_n 0 dX0_isChild_10 rfl ?_
      obtain ⟨x3, e4, hF⟩ := q_bind hF
      refine g_getfR fl_X0_36 e4 dX0_isChild_11 ?_
      refine g_iload_n 1 dX0_isChild_14 rfl ?_
      obtain ⟨x5, e6, hF⟩ := q_bind hF
      refine g_iald e6 dX0_isChild_15 ?_
      refine g_iconst dX0_isChild_16 lt_iconst_1 ?_
      refine g_icmp_ne 24 dX0_isChild_17 (by decide) (fun c7 => ?_) (fun c7 => ?_)
      · replace hF := q_f c7 hF
        refine g_iconst dX0_isChild_24 lt_iconst_0 ?_
        cases hF
        exact g_zret dX0_isChild_25 rfl zn_0 ⟨rfl, rfl, rfl⟩ (Nat.le_of_ble_eq_true rfl) (Nat.le_of_ble_eq_true rfl)
      · replace hF := q_t c7 hF
        refine g_iconst dX0_isChild_20 lt_iconst_1 ?_
        refine g_goto 25 dX0_isChild_21 (by decide) ?_
        cases hF
        exact g_zret dX0_isChild_25 rfl zn_1 ⟨rfl, rfl, rfl⟩ (Nat.le_of_ble_eq_true rfl) (Nat.le_of_ble_eq_true rfl)
def rm_X0_has : Room := { frames := 0, cells := 0, slots := 0, locals := 0 }
set_option maxRecDepth 100000 in
set_option maxHeartbeats 4000000 in
theorem M_X0_has (l : Launch) (b : Nat) (D : va_G) (z : Nat → Nat) (nx : Nat) {h : qH} {a0 : Nat} {a1 : Int32} {r : Int32} (hF : F_X0_has h a0 a1 = some r) : Me l b D z yX0_has cX0_has 2 (some .boolean) rm_X0_has [.ref a0, .int a1] h nx (qE (some (.int r)) h nx) := by
  refine Me.of (by decide +kernel) (Nat.le_of_ble_eq_true rfl) ?_
  show Go l b D z yX0_has cX0_has 2 (some .boolean) rm_X0_has (qE (some (.int r)) h nx) 0 [(0, .ref a0), (1, .int a1)] [] h nx 0 0
  unfold F_X0_has at hF
  refine g_iload_n 1 dX0_has_0 rfl ?_
  refine g_if_lt 22 dX0_has_1 (by decide) (fun c1 => ?_) (fun c1 => ?_)
  · replace hF := q_t c1 hF
    refine g_iconst dX0_has_22 lt_iconst_0 ?_
    cases hF
    exact g_zret dX0_has_23 rfl zn_0 ⟨rfl, rfl, rfl⟩ (Nat.le_of_ble_eq_true rfl) (Nat.le_of_ble_eq_true rfl)
  · replace hF := q_f c1 hF
    refine g_iload_n 1 dX0_has_4 rfl ?_
    refine g_aload_n 0 dX0_has_5 rfl ?_
    obtain ⟨x2, e3, hF⟩ := q_bind hF
    refine g_getfI fl_X0_45 e3 dX0_has_6 ?_
    refine g_icmp_ge 22 dX0_has_9 (by decide) (fun c4 => ?_) (fun c4 => ?_)
    · replace hF := q_t c4 hF
      refine g_iconst dX0_has_22 lt_iconst_0 ?_
      cases hF
      exact g_zret dX0_has_23 rfl zn_0 ⟨rfl, rfl, rfl⟩ (Nat.le_of_ble_eq_true rfl) (Nat.le_of_ble_eq_true rfl)
    · replace hF := q_f c4 hF
      refine g_iload_n 1 dX0_has_12 rfl ?_
      refine g_bipush dX0_has_13 lt_bipush_20 ?_
      refine g_icmp_ge 22 dX0_has_15 (by decide) (fun c5 => ?_) (fun c5 => ?_)
      · replace hF := q_t c5 hF
        refine g_iconst dX0_has_22 lt_iconst_0 ?_
        cases hF
        exact g_zret dX0_has_23 rfl zn_0 ⟨rfl, rfl, rfl⟩ (Nat.le_of_ble_eq_true rfl) (Nat.le_of_ble_eq_true rfl)
      · replace hF := q_f c5 hF
        refine g_iconst dX0_has_18 lt_iconst_1 ?_
        refine g_goto 23 dX0_has_19 (by decide) ?_
        cases hF
        exact g_zret dX0_has_23 rfl zn_1 ⟨rfl, rfl, rfl⟩ (Nat.le_of_ble_eq_true rfl) (Nat.le_of_ble_eq_true rfl)
def rm_X0_howManyFollow : Room := { frames := 0, cells := 0, slots := 0, locals := 0 }
set_option maxRecDepth 100000 in
set_option maxHeartbeats 4000000 in
theorem M_X0_howManyFollow (l : Launch) (b : Nat) (D : va_G) (z : Nat → Nat) (nx : Nat) {h : qH} {a0 : Nat} {a1 : Int32} {r : Int32} (hF : F_X0_howManyFollow h a0 a1 = some r) : Me l b D z yX0_howManyFollow cX0_howManyFollow 2 (some .int) rm_X0_howManyFollow [.ref a0, .int a1] h nx (qE (some (.int r)) h nx) := by
  refine Me.of (by decide +kernel) (Nat.le_of_ble_eq_true rfl) ?_
  show Go l b D z yX0_howManyFollow cX0_howManyFollow 2 (some .int) rm_X0_howManyFollow (qE (some (.int r)) h nx) 0 [(0, .ref a0), (1, .int a1)] [] h nx 0 0
  unfold F_X0_howManyFollow at hF
  refine g_iload_n 1 dX0_howManyFollow_0 rfl ?_
  refine g_if_lt 27 dX0_howManyFollow_1 (by decide) (fun c1 => ?_) (fun c1 => ?_)
  · replace hF := q_t c1 hF
    refine g_iconst dX0_howManyFollow_27 lt_iconst_0 ?_
    cases hF
    exact g_iret dX0_howManyFollow_28 rfl ⟨rfl, rfl, rfl⟩ (Nat.le_of_ble_eq_true rfl) (Nat.le_of_ble_eq_true rfl)
  · replace hF := q_f c1 hF
    refine g_iload_n 1 dX0_howManyFollow_4 rfl ?_
    refine g_aload_n 0 dX0_howManyFollow_5 rfl ?_
    obtain ⟨x2, e3, hF⟩ := q_bind hF
    refine g_getfI fl_X0_45 e3 dX0_howManyFollow_6 ?_
    refine g_icmp_ge 27 dX0_howManyFollow_9 (by decide) (fun c4 => ?_) (fun c4 => ?_)
    · replace hF := q_t c4 hF
      refine g_iconst dX0_howManyFollow_27 lt_iconst_0 ?_
      cases hF
      exact g_iret dX0_howManyFollow_28 rfl ⟨rfl, rfl, rfl⟩ (Nat.le_of_ble_eq_true rfl) (Nat.le_of_ble_eq_true rfl)
    · replace hF := q_f c4 hF
      refine g_iload_n 1 dX0_howManyFollow_12 rfl ?_
      refine g_bipush dX0_howManyFollow_13 lt_bipush_20 ?_
      refine g_icmp_ge 27 dX0_howManyFollow_15 (by decide) (fun c5 => ?_) (fun c5 => ?_)
      · replace hF := q_t c5 hF
        refine g_iconst dX0_howManyFollow_27 lt_iconst_0 ?_
        cases hF
        exact g_iret dX0_howManyFollow_28 rfl ⟨rfl, rfl, rfl⟩ (Nat.le_of_ble_eq_true rfl) (Nat.le_of_ble_eq_true rfl)
      · replace hF := q_f c5 hF
        refine g_aload_n 0 dX0_howManyFollow_18 rfl ?_
        obtain ⟨x6, e7, hF⟩ := q_bind hF
        refine g_getfR fl_X0_42 e7 dX0_howManyFollow_19 ?_
        refine g_iload_n 1 dX0_howManyFollow_22 rfl ?_
        obtain ⟨x8, e9, hF⟩ := q_bind hF
        refine g_iald e9 dX0_howManyFollow_23 ?_
        refine g_goto 28 dX0_howManyFollow_24 (by decide) ?_
        cases hF
        exact g_iret dX0_howManyFollow_28 rfl ⟨rfl, rfl, rfl⟩ (Nat.le_of_ble_eq_true rfl) (Nat.le_of_ble_eq_true rfl)
def rm_X0_following : Room := { frames := 0, cells := 0, slots := 0, locals := 0 }
set_option maxRecDepth 100000 in
set_option maxHeartbeats 4000000 in
theorem M_X0_following (l : Launch) (b : Nat) (D : va_G) (z : Nat → Nat) (nx : Nat) {h : qH} {a0 : Nat} {a1 : Int32} {a2 : Int32} {r : Int32} (hF : F_X0_following h a0 a1 a2 = some r) : Me l b D z yX0_following cX0_following 3 (some .int) rm_X0_following [.ref a0, .int a1, .int a2] h nx (qE (some (.int r)) h nx) := by
  refine Me.of (by decide +kernel) (Nat.le_of_ble_eq_true rfl) ?_
  show Go l b D z yX0_following cX0_following 3 (some .int) rm_X0_following (qE (some (.int r)) h nx) 0 [(0, .ref a0), (1, .int a1), (2, .int a2)] [] h nx 0 0
  unfold F_X0_following at hF
  refine g_iload_n 1 dX0_following_0 rfl ?_
  refine g_if_lt 18 dX0_following_1 (by decide) (fun c1 => ?_) (fun c1 => ?_)
  · replace hF := q_t c1 hF
    refine g_iconst dX0_following_18 lt_iconst_m1 ?_
    cases hF
    exact g_iret dX0_following_19 rfl ⟨rfl, rfl, rfl⟩ (Nat.le_of_ble_eq_true rfl) (Nat.le_of_ble_eq_true rfl)
  · replace hF := q_f c1 hF
    refine g_iload_n 1 dX0_following_4 rfl ?_
    refine g_aload_n 0 dX0_following_5 rfl ?_
    obtain ⟨x2, e3, hF⟩ := q_bind hF
    refine g_getfI fl_X0_45 e3 dX0_following_6 ?_
    refine g_icmp_ge 18 dX0_following_9 (by decide) (fun c4 => ?_) (fun c4 => ?_)
    · replace hF := q_t c4 hF
      refine g_iconst dX0_following_18 lt_iconst_m1 ?_
      cases hF
      exact g_iret dX0_following_19 rfl ⟨rfl, rfl, rfl⟩ (Nat.le_of_ble_eq_true rfl) (Nat.le_of_ble_eq_true rfl)
    · replace hF := q_f c4 hF
      refine g_iload_n 1 dX0_following_12 rfl ?_
      refine g_bipush dX0_following_13 lt_bipush_20 ?_
      refine g_icmp_lt 20 dX0_following_15 (by decide) (fun c5 => ?_) (fun c5 => ?_)
      · replace hF := q_t c5 hF
        refine g_iload_n 2 dX0_following_20 rfl ?_
        refine g_if_lt 54 dX0_following_21 (by decide) (fun c6 => ?_) (fun c6 => ?_)
        · replace hF := q_t c6 hF
          refine g_iconst dX0_following_54 lt_iconst_m1 ?_
          cases hF
          exact g_iret dX0_following_55 rfl ⟨rfl, rfl, rfl⟩ (Nat.le_of_ble_eq_true rfl) (Nat.le_of_ble_eq_true rfl)
        · replace hF := q_f c6 hF
          refine g_iload_n 2 dX0_following_24 rfl ?_
          refine g_aload_n 0 dX0_following_25 rfl ?_
          obtain ⟨x7, e8, hF⟩ := q_bind hF
          refine g_getfR fl_X0_42 e8 dX0_following_26 ?_
          refine g_iload_n 1 dX0_following_29 rfl ?_
          obtain ⟨x9, e10, hF⟩ := q_bind hF
          refine g_iald e10 dX0_following_30 ?_
          refine g_icmp_ge 54 dX0_following_31 (by decide) (fun c11 => ?_) (fun c11 => ?_)
          · replace hF := q_t c11 hF
            refine g_iconst dX0_following_54 lt_iconst_m1 ?_
            cases hF
            exact g_iret dX0_following_55 rfl ⟨rfl, rfl, rfl⟩ (Nat.le_of_ble_eq_true rfl) (Nat.le_of_ble_eq_true rfl)
          · replace hF := q_f c11 hF
            refine g_iload_n 2 dX0_following_34 rfl ?_
            refine g_bipush dX0_following_35 lt_bipush_20 ?_
            refine g_icmp_ge 54 dX0_following_37 (by decide) (fun c12 => ?_) (fun c12 => ?_)
            · replace hF := q_t c12 hF
              refine g_iconst dX0_following_54 lt_iconst_m1 ?_
              cases hF
              exact g_iret dX0_following_55 rfl ⟨rfl, rfl, rfl⟩ (Nat.le_of_ble_eq_true rfl) (Nat.le_of_ble_eq_true rfl)
            · replace hF := q_f c12 hF
              refine g_aload_n 0 dX0_following_40 rfl ?_
              obtain ⟨x13, e14, hF⟩ := q_bind hF
              refine g_getfR fl_X0_39 e14 dX0_following_41 ?_
              refine g_iload_n 1 dX0_following_44 rfl ?_
              refine g_bipush dX0_following_45 lt_bipush_20 ?_
              refine g_imul dX0_following_47 ?_
              refine g_iload_n 2 dX0_following_48 rfl ?_
              refine g_iadd dX0_following_49 ?_
              obtain ⟨x15, e16, hF⟩ := q_bind hF
              refine g_iald e16 dX0_following_50 ?_
              refine g_goto 55 dX0_following_51 (by decide) ?_
              cases hF
              exact g_iret dX0_following_55 rfl ⟨rfl, rfl, rfl⟩ (Nat.le_of_ble_eq_true rfl) (Nat.le_of_ble_eq_true rfl)
      · replace hF := q_f c5 hF
        refine g_iconst dX0_following_18 lt_iconst_m1 ?_
        cases hF
        exact g_iret dX0_following_19 rfl ⟨rfl, rfl, rfl⟩ (Nat.le_of_ble_eq_true rfl) (Nat.le_of_ble_eq_true rfl)
def rm_X0_follows : Room := { frames := 1, cells := 0, slots := 0, locals := 22 }
set_option maxRecDepth 100000 in
set_option maxHeartbeats 4000000 in
theorem B_X0_follows_2 (l : Launch) (b : Nat) (D : va_G) (z : Nat → Nat) {Φ : Option Value → qH → Nat → Prop} {nx : Nat} {h : qH} {a0 : Nat} {a1 : Int32} {a2 : Int32} {a3 : Int32} {o : Int32 ⊕ (Unit ⊕ Unit)} (hF : b_X0_follows_2 h a0 a1 a2 a3 = some o) (hback : ∀ (b3 : Int32), o = .inl b3 → Go l b D z yX0_follows cX0_follows 4 (some .boolean) rm_X0_follows Φ 2 [(0, .ref a0), (1, .int a1), (2, .int a2), (3, .int b3)] [] h nx 0 0) (hx0 : o = .inr (.inl ()) → Go l b D z yX0_follows cX0_follows 4 (some .boolean) rm_X0_follows Φ 21 [] [] h nx 0 0) (hx1 : o = .inr (.inr ()) → Go l b D z yX0_follows cX0_follows 4 (some .boolean) rm_X0_follows Φ 29 [] [] h nx 0 0) : Go l b D z yX0_follows cX0_follows 4 (some .boolean) rm_X0_follows Φ 2 [(0, .ref a0), (1, .int a1), (2, .int a2), (3, .int a3)] [] h nx 0 0 := by
  unfold b_X0_follows_2 at hF
  refine g_iload_n 3 dX0_follows_2 rfl ?_
  refine g_aload_n 0 dX0_follows_3 rfl ?_
  refine g_iload_n 1 dX0_follows_4 rfl ?_
  obtain ⟨u1, e2, hF⟩ := q_bind hF
  obtain ⟨x3, e4, hF⟩ := q_bind hF
  refine g_callVr0 (ci := 0) (q := (RX0, TX0, 15)) qm_X0_howManyFollow wd_790 wd_791 wd_792 rfl e2 (M_X0_howManyFollow l b D z nx e4) (As := [.int a1]) rfl rfl (Nat.le_of_ble_eq_true rfl) ⟨(Nat.le_of_ble_eq_true rfl), (Nat.le_of_ble_eq_true rfl)⟩ ⟨rfl, rfl⟩ ⟨(Nat.le_of_ble_eq_true rfl), (Nat.le_of_ble_eq_true rfl)⟩ dX0_follows_5 ?_
  refine g_icmp_ge 29 dX0_follows_8 (by decide) (fun c5 => ?_) (fun c5 => ?_)
  · replace hF := q_t c5 hF
    cases hF
    refine g_sub [] rfl ?_
    exact hx1  rfl
  · replace hF := q_f c5 hF
    refine g_aload_n 0 dX0_follows_11 rfl ?_
    refine g_iload_n 1 dX0_follows_12 rfl ?_
    refine g_iload_n 3 dX0_follows_13 rfl ?_
    obtain ⟨u6, e7, hF⟩ := q_bind hF
    obtain ⟨x8, e9, hF⟩ := q_bind hF
    refine g_callVr0 (ci := 0) (q := (RX0, TX0, 15)) qm_X0_following wd_794 wd_795 wd_796 rfl e7 (M_X0_following l b D z nx e9) (As := [.int a1, .int a3]) rfl rfl (Nat.le_of_ble_eq_true rfl) ⟨(Nat.le_of_ble_eq_true rfl), (Nat.le_of_ble_eq_true rfl)⟩ ⟨rfl, rfl⟩ ⟨(Nat.le_of_ble_eq_true rfl), (Nat.le_of_ble_eq_true rfl)⟩ dX0_follows_14 ?_
    refine g_iload_n 2 dX0_follows_17 rfl ?_
    refine g_icmp_ne 23 dX0_follows_18 (by decide) (fun c10 => ?_) (fun c10 => ?_)
    · replace hF := q_f c10 hF
      refine g_iinc [(3, .int (a3 + 1)), (0, .ref a0), (1, .int a1), (2, .int a2)] 3 dX0_follows_23 rfl (congrArg (a3 + ·) lt_iconst_1) (Nat.le_of_ble_eq_true rfl) rfl ?_
      refine g_goto 2 dX0_follows_26 (by decide) ?_
      cases hF
      refine g_sub [1, 2, 3, 0] rfl ?_
      exact hback _ rfl
    · replace hF := q_t c10 hF
      cases hF
      refine g_sub [] rfl ?_
      exact hx0  rfl
set_option maxRecDepth 100000 in
set_option maxHeartbeats 4000000 in
theorem L_X0_follows_2 (l : Launch) (b : Nat) (D : va_G) (z : Nat → Nat) {Φ : Option Value → qH → Nat → Prop} {nx : Nat} {h : qH} {a0 : Nat} {a1 : Int32} {a2 : Int32} : ∀ (n : Nat) (a3 : Int32) (e : Unit ⊕ Unit), q_lp (s_X0_follows_2 h a0 a1 a2) n a3 = some e → (e = (.inl ()) → Go l b D z yX0_follows cX0_follows 4 (some .boolean) rm_X0_follows Φ 21 [] [] h nx 0 0) → (e = (.inr ()) → Go l b D z yX0_follows cX0_follows 4 (some .boolean) rm_X0_follows Φ 29 [] [] h nx 0 0) → Go l b D z yX0_follows cX0_follows 4 (some .boolean) rm_X0_follows Φ 2 [(0, .ref a0), (1, .int a1), (2, .int a2), (3, .int a3)] [] h nx 0 0 := by
  intro n
  induction n with
  | zero => intro a3 e he; cases (show none = some e from he)
  | succ n ih =>
    intro a3 e he hx0 hx1
    obtain ⟨o, ho, h1, h2⟩ := q_lp_succ he
    exact B_X0_follows_2 l b D z (show b_X0_follows_2 h a0 a1 a2 a3 = some o from ho) (fun b3 hb => ih _ e (h1 _ hb) hx0 hx1) (fun  hr => hx0  (h2 _ hr).symm) (fun  hr => hx1  (h2 _ hr).symm)
set_option maxRecDepth 100000 in
set_option maxHeartbeats 4000000 in
theorem M_X0_follows (l : Launch) (b : Nat) (D : va_G) (z : Nat → Nat) (nx : Nat) {h : qH} {a0 : Nat} {a1 : Int32} {a2 : Int32} {r : Int32} (hF : F_X0_follows h a0 a1 a2 = some r) : Me l b D z yX0_follows cX0_follows 4 (some .boolean) rm_X0_follows [.ref a0, .int a1, .int a2] h nx (qE (some (.int r)) h nx) := by
  refine Me.of (by decide +kernel) (Nat.le_of_ble_eq_true rfl) ?_
  show Go l b D z yX0_follows cX0_follows 4 (some .boolean) rm_X0_follows (qE (some (.int r)) h nx) 0 [(0, .ref a0), (1, .int a1), (2, .int a2)] [] h nx 0 0
  unfold F_X0_follows at hF
  refine g_iconst dX0_follows_0 lt_iconst_0 ?_
  refine g_istore_n [(3, .int (0 : Int32)), (0, .ref a0), (1, .int a1), (2, .int a2)] dX0_follows_1 (Nat.le_of_ble_eq_true rfl) rfl ?_
  obtain ⟨e1, w2, hF⟩ := q_bind hF
  refine g_sub [1, 2, 3, 0] rfl ?_
  refine L_X0_follows_2 l b D z q_N (0 : Int32) e1 w2 ?_ ?_
  · intro  w3
    replace w3 := w3.symm
    subst w3
    replace hF := q_sl hF
    refine g_iconst dX0_follows_21 lt_iconst_1 ?_
    cases hF
    exact g_zret dX0_follows_22 rfl zn_1 ⟨rfl, rfl, rfl⟩ (Nat.le_of_ble_eq_true rfl) (Nat.le_of_ble_eq_true rfl)
  · intro  w5
    replace w5 := w5.symm
    subst w5
    replace hF := q_sr hF
    refine g_iconst dX0_follows_29 lt_iconst_0 ?_
    cases hF
    exact g_zret dX0_follows_30 rfl zn_0 ⟨rfl, rfl, rfl⟩ (Nat.le_of_ble_eq_true rfl) (Nat.le_of_ble_eq_true rfl)
def rm_X0_addFollower : Room := { frames := 2, cells := 0, slots := 0, locals := 45 }
set_option maxRecDepth 100000 in
set_option maxHeartbeats 4000000 in
theorem M_X0_addFollower (l : Launch) (b : Nat) (D : va_G) (z : Nat → Nat) (nx : Nat) {h : qH} {a0 : Nat} {a1 : Int32} {a2 : Int32} {r : qH} (hF : F_X0_addFollower h a0 a1 a2 = some r) : Me l b D z yX0_addFollower cX0_addFollower 4 none rm_X0_addFollower [.ref a0, .int a1, .int a2] h nx (qE none r nx) := by
  refine Me.of (by decide +kernel) (Nat.le_of_ble_eq_true rfl) ?_
  show Go l b D z yX0_addFollower cX0_addFollower 4 none rm_X0_addFollower (qE none r nx) 0 [(0, .ref a0), (1, .int a1), (2, .int a2)] [] h nx 0 0
  unfold F_X0_addFollower at hF
  refine g_aload_n 0 dX0_addFollower_0 rfl ?_
  refine g_iload_n 1 dX0_addFollower_1 rfl ?_
  obtain ⟨u1, e2, hF⟩ := q_bind hF
  obtain ⟨x3, e4, hF⟩ := q_bind hF
  refine g_callVr0 (ci := 0) (q := (RX0, TX0, 15)) qm_X0_has wd_782 wd_783 wd_784 rfl e2 (M_X0_has l b D z nx e4) (As := [.int a1]) rfl rfl (Nat.le_of_ble_eq_true rfl) ⟨(Nat.le_of_ble_eq_true rfl), (Nat.le_of_ble_eq_true rfl)⟩ ⟨rfl, rfl⟩ ⟨(Nat.le_of_ble_eq_true rfl), (Nat.le_of_ble_eq_true rfl)⟩ dX0_addFollower_2 ?_
  refine g_if_eq 25 dX0_addFollower_5 (by decide) (fun c5 => ?_) (fun c5 => ?_)
  · replace hF := q_t c5 hF
    cases hF
    exact g_vret dX0_addFollower_25 rfl ⟨rfl, rfl, rfl⟩ (Nat.le_of_ble_eq_true rfl) (Nat.le_of_ble_eq_true rfl)
  · replace hF := q_f c5 hF
    refine g_aload_n 0 dX0_addFollower_8 rfl ?_
    refine g_iload_n 2 dX0_addFollower_9 rfl ?_
    obtain ⟨u6, e7, hF⟩ := q_bind hF
    obtain ⟨x8, e9, hF⟩ := q_bind hF
    refine g_callVr0 (ci := 0) (q := (RX0, TX0, 15)) qm_X0_has wd_782 wd_783 wd_784 rfl e7 (M_X0_has l b D z nx e9) (As := [.int a2]) rfl rfl (Nat.le_of_ble_eq_true rfl) ⟨(Nat.le_of_ble_eq_true rfl), (Nat.le_of_ble_eq_true rfl)⟩ ⟨rfl, rfl⟩ ⟨(Nat.le_of_ble_eq_true rfl), (Nat.le_of_ble_eq_true rfl)⟩ dX0_addFollower_10 ?_
    refine g_if_eq 25 dX0_addFollower_13 (by decide) (fun c10 => ?_) (fun c10 => ?_)
    · replace hF := q_t c10 hF
      cases hF
      exact g_vret dX0_addFollower_25 rfl ⟨rfl, rfl, rfl⟩ (Nat.le_of_ble_eq_true rfl) (Nat.le_of_ble_eq_true rfl)
    · replace hF := q_f c10 hF
      refine g_aload_n 0 dX0_addFollower_16 rfl ?_
      refine g_iload_n 1 dX0_addFollower_17 rfl ?_
      refine g_iload_n 2 dX0_addFollower_18 rfl ?_
      obtain ⟨u11, e12, hF⟩ := q_bind hF
      obtain ⟨x13, e14, hF⟩ := q_bind hF
      refine g_callVr0 (ci := 0) (q := (RX0, TX0, 15)) qm_X0_follows wd_786 wd_787 wd_788 rfl e12 (M_X0_follows l b D z nx e14) (As := [.int a1, .int a2]) rfl rfl (Nat.le_of_ble_eq_true rfl) ⟨(Nat.le_of_ble_eq_true rfl), (Nat.le_of_ble_eq_true rfl)⟩ ⟨rfl, rfl⟩ ⟨(Nat.le_of_ble_eq_true rfl), (Nat.le_of_ble_eq_true rfl)⟩ dX0_addFollower_19 ?_
      refine g_if_eq 26 dX0_addFollower_22 (by decide) (fun c15 => ?_) (fun c15 => ?_)
      · replace hF := q_t c15 hF
        refine g_aload_n 0 dX0_addFollower_26 rfl ?_
        obtain ⟨x16, e17, hF⟩ := q_bind hF
        refine g_getfR fl_X0_42 e17 dX0_addFollower_27 ?_
        refine g_iload_n 1 dX0_addFollower_30 rfl ?_
        obtain ⟨x18, e19, hF⟩ := q_bind hF
        refine g_iald e19 dX0_addFollower_31 ?_
        refine g_istore_n [(3, .int x18), (0, .ref a0), (1, .int a1), (2, .int a2)] dX0_addFollower_32 (Nat.le_of_ble_eq_true rfl) rfl ?_
        refine g_iload_n 0 dX0_addFollower_33 rfl ?_
        refine g_if_lt 64 dX0_addFollower_34 (by decide) (fun c20 => ?_) (fun c20 => ?_)
        · replace hF := q_t c20 hF
          cases hF
          exact g_vret dX0_addFollower_64 rfl ⟨rfl, rfl, rfl⟩ (Nat.le_of_ble_eq_true rfl) (Nat.le_of_ble_eq_true rfl)
        · replace hF := q_f c20 hF
          refine g_iload_n 0 dX0_addFollower_37 rfl ?_
          refine g_bipush dX0_addFollower_38 lt_bipush_20 ?_
          refine g_icmp_ge 64 dX0_addFollower_40 (by decide) (fun c21 => ?_) (fun c21 => ?_)
          · replace hF := q_t c21 hF
            cases hF
            exact g_vret dX0_addFollower_64 rfl ⟨rfl, rfl, rfl⟩ (Nat.le_of_ble_eq_true rfl) (Nat.le_of_ble_eq_true rfl)
          · replace hF := q_f c21 hF
            refine g_aload_n 1 dX0_addFollower_43 rfl ?_
            obtain ⟨x22, e23, hF⟩ := q_bind hF
            refine g_getfR fl_X0_39 e23 dX0_addFollower_44 ?_
            refine g_iload_n 2 dX0_addFollower_47 rfl ?_
            refine g_bipush dX0_addFollower_48 lt_bipush_20 ?_
            refine g_imul dX0_addFollower_50 ?_
            refine g_iload_n 0 dX0_addFollower_51 rfl ?_
            refine g_iadd dX0_addFollower_52 ?_
            refine g_iload_n 3 dX0_addFollower_53 rfl ?_
            obtain ⟨h24, e25, hF⟩ := q_bind hF
            refine g_iast e25 dX0_addFollower_54 ?_
            refine g_aload_n 1 dX0_addFollower_55 rfl ?_
            obtain ⟨x26, e27, hF⟩ := q_bind hF
            refine g_getfR fl_X0_42 e27 dX0_addFollower_56 ?_
            refine g_iload_n 2 dX0_addFollower_59 rfl ?_
            refine g_iload_n 0 dX0_addFollower_60 rfl ?_
            refine g_iconst dX0_addFollower_61 lt_iconst_1 ?_
            refine g_iadd dX0_addFollower_62 ?_
            obtain ⟨h28, e29, hF⟩ := q_bind hF
            refine g_iast e29 dX0_addFollower_63 ?_
            cases hF
            exact g_vret dX0_addFollower_64 rfl ⟨rfl, rfl, rfl⟩ (Nat.le_of_ble_eq_true rfl) (Nat.le_of_ble_eq_true rfl)
      · replace hF := q_f c15 hF
        cases hF
        exact g_vret dX0_addFollower_25 rfl ⟨rfl, rfl, rfl⟩ (Nat.le_of_ble_eq_true rfl) (Nat.le_of_ble_eq_true rfl)
def rm_X0_settle : Room := { frames := 3, cells := 0, slots := 0, locals := 68 }
set_option maxRecDepth 100000 in
set_option maxHeartbeats 4000000 in
theorem B_X0_settle_2 (l : Launch) (b : Nat) (D : va_G) (z : Nat → Nat) {Φ : Option Value → qH → Nat → Prop} {nx : Nat} {a0 : Nat} {a1 : Int32} {h : qH} {o : (Int32 × qH) ⊕ qH} (hF : b_X0_settle_2 a0 a1 h = some o) (hback : ∀ (b1 : Int32) (bh : qH), o = .inl (b1, bh) → Go l b D z yX0_settle cX0_settle 2 none rm_X0_settle Φ 2 [(0, .ref a0), (1, .int b1)] [] bh nx 0 0) (hx0 : ∀  (bh : qH), o = .inr bh → Go l b D z yX0_settle cX0_settle 2 none rm_X0_settle Φ 58 [(0, .ref a0)] [] bh nx 0 0) : Go l b D z yX0_settle cX0_settle 2 none rm_X0_settle Φ 2 [(0, .ref a0), (1, .int a1)] [] h nx 0 0 := by
  unfold b_X0_settle_2 at hF
  refine g_iload_n 1 dX0_settle_2 rfl ?_
  refine g_aload_n 0 dX0_settle_3 rfl ?_
  obtain ⟨x1, e2, hF⟩ := q_bind hF
  refine g_getfI fl_X0_45 e2 dX0_settle_4 ?_
  refine g_icmp_ge 58 dX0_settle_7 (by decide) (fun c3 => ?_) (fun c3 => ?_)
  · replace hF := q_t c3 hF
    cases hF
    refine g_sub [0] rfl ?_
    exact hx0 _ rfl
  · replace hF := q_f c3 hF
    refine g_iload_n 1 dX0_settle_10 rfl ?_
    refine g_bipush dX0_settle_11 lt_bipush_20 ?_
    refine g_icmp_ge 58 dX0_settle_13 (by decide) (fun c4 => ?_) (fun c4 => ?_)
    · replace hF := q_t c4 hF
      cases hF
      refine g_sub [0] rfl ?_
      exact hx0 _ rfl
    · replace hF := q_f c4 hF
      refine g_aload_n 0 dX0_settle_16 rfl ?_
      obtain ⟨x5, e6, hF⟩ := q_bind hF
      refine g_getfR fl_X0_42 e6 dX0_settle_17 ?_
      refine g_iload_n 1 dX0_settle_20 rfl ?_
      refine g_iconst dX0_settle_21 lt_iconst_0 ?_
      obtain ⟨h7, e8, hF⟩ := q_bind hF
      refine g_iast e8 dX0_settle_22 ?_
      refine g_aload_n 0 dX0_settle_23 rfl ?_
      obtain ⟨x9, e10, hF⟩ := q_bind hF
      refine g_getfR fl_X0_24 e10 dX0_settle_24 ?_
      refine g_iload_n 1 dX0_settle_27 rfl ?_
      refine g_aload_n 0 dX0_settle_28 rfl ?_
      refine g_aload_n 0 dX0_settle_29 rfl ?_
      obtain ⟨x11, e12, hF⟩ := q_bind hF
      refine g_getfR fl_X0_15 e12 dX0_settle_30 ?_
      refine g_iload_n 1 dX0_settle_33 rfl ?_
      obtain ⟨x13, e14, hF⟩ := q_bind hF
      refine g_iald e14 dX0_settle_34 ?_
      obtain ⟨u15, e16, hF⟩ := q_bind hF
      obtain ⟨x17, e18, hF⟩ := q_bind hF
      refine g_callVr0 (ci := 0) (q := (RX0, TX0, 15)) qm_X0_isChild wd_774 wd_775 wd_776 rfl e16 (M_X0_isChild l b D z nx e18) (As := [.int x13]) rfl rfl (Nat.le_of_ble_eq_true rfl) ⟨(Nat.le_of_ble_eq_true rfl), (Nat.le_of_ble_eq_true rfl)⟩ ⟨rfl, rfl⟩ ⟨(Nat.le_of_ble_eq_true rfl), (Nat.le_of_ble_eq_true rfl)⟩ dX0_settle_35 ?_
      refine g_if_eq 45 dX0_settle_38 (by decide) (fun c19 => ?_) (fun c19 => ?_)
      · replace hF := q_t c19 hF
        refine g_aload_n 0 dX0_settle_45 rfl ?_
        obtain ⟨x20, e21, hF⟩ := q_bind hF
        refine g_getfR fl_X0_21 e21 dX0_settle_46 ?_
        refine g_iload_n 1 dX0_settle_49 rfl ?_
        obtain ⟨x22, e23, hF⟩ := q_bind hF
        refine g_iald e23 dX0_settle_50 ?_
        obtain ⟨h24, e25, hF⟩ := q_bind hF
        refine g_iast e25 dX0_settle_51 ?_
        refine g_iinc [(1, .int (a1 + 1)), (0, .ref a0)] 1 dX0_settle_52 rfl (congrArg (a1 + ·) lt_iconst_1) (Nat.le_of_ble_eq_true rfl) rfl ?_
        refine g_goto 2 dX0_settle_55 (by decide) ?_
        cases hF
        refine g_sub [1, 0] rfl ?_
        exact hback _ _ rfl
      · replace hF := q_f c19 hF
        refine g_iconst dX0_settle_41 lt_iconst_0 ?_
        refine g_goto 51 dX0_settle_42 (by decide) ?_
        obtain ⟨h26, e27, hF⟩ := q_bind hF
        refine g_iast e27 dX0_settle_51 ?_
        refine g_iinc [(1, .int (a1 + 1)), (0, .ref a0)] 1 dX0_settle_52 rfl (congrArg (a1 + ·) lt_iconst_1) (Nat.le_of_ble_eq_true rfl) rfl ?_
        refine g_goto 2 dX0_settle_55 (by decide) ?_
        cases hF
        refine g_sub [1, 0] rfl ?_
        exact hback _ _ rfl
set_option maxRecDepth 100000 in
set_option maxHeartbeats 4000000 in
theorem L_X0_settle_2 (l : Launch) (b : Nat) (D : va_G) (z : Nat → Nat) {Φ : Option Value → qH → Nat → Prop} {nx : Nat} {a0 : Nat} : ∀ (n : Nat) (a1 : Int32) (h : qH) (e : qH), q_lp (s_X0_settle_2 a0) n (a1, h) = some e → (∀  (bh : qH), e = bh → Go l b D z yX0_settle cX0_settle 2 none rm_X0_settle Φ 58 [(0, .ref a0)] [] bh nx 0 0) → Go l b D z yX0_settle cX0_settle 2 none rm_X0_settle Φ 2 [(0, .ref a0), (1, .int a1)] [] h nx 0 0 := by
  intro n
  induction n with
  | zero => intro a1 h e he; cases (show none = some e from he)
  | succ n ih =>
    intro a1 h e he hx0
    obtain ⟨o, ho, h1, h2⟩ := q_lp_succ he
    exact B_X0_settle_2 l b D z (show b_X0_settle_2 a0 a1 h = some o from ho) (fun b1 bh hb => ih _ _ e (h1 _ hb) hx0) (fun p0 hr => hx0 p0 (h2 _ hr).symm)
set_option maxRecDepth 100000 in
set_option maxHeartbeats 4000000 in
theorem B_X0_settle_60 (l : Launch) (b : Nat) (D : va_G) (z : Nat → Nat) {Φ : Option Value → qH → Nat → Prop} {nx : Nat} {a0 : Nat} {a1 : Int32} {h : qH} {o : (Int32 × qH) ⊕ qH} (hF : b_X0_settle_60 a0 a1 h = some o) (hback : ∀ (b1 : Int32) (bh : qH), o = .inl (b1, bh) → Go l b D z yX0_settle cX0_settle 2 none rm_X0_settle Φ 60 [(0, .ref a0), (1, .int b1)] [] bh nx 0 0) (hx0 : ∀  (bh : qH), o = .inr bh → Go l b D z yX0_settle cX0_settle 2 none rm_X0_settle Φ 91 [(0, .ref a0)] [] bh nx 0 0) : Go l b D z yX0_settle cX0_settle 2 none rm_X0_settle Φ 60 [(0, .ref a0), (1, .int a1)] [] h nx 0 0 := by
  unfold b_X0_settle_60 at hF
  refine g_iload_n 1 dX0_settle_60 rfl ?_
  refine g_aload_n 0 dX0_settle_61 rfl ?_
  obtain ⟨x1, e2, hF⟩ := q_bind hF
  refine g_getfI fl_X0_45 e2 dX0_settle_62 ?_
  refine g_icmp_ge 91 dX0_settle_65 (by decide) (fun c3 => ?_) (fun c3 => ?_)
  · replace hF := q_t c3 hF
    cases hF
    refine g_sub [0] rfl ?_
    exact hx0 _ rfl
  · replace hF := q_f c3 hF
    refine g_iload_n 1 dX0_settle_68 rfl ?_
    refine g_bipush dX0_settle_69 lt_bipush_20 ?_
    refine g_icmp_ge 91 dX0_settle_71 (by decide) (fun c4 => ?_) (fun c4 => ?_)
    · replace hF := q_t c4 hF
      cases hF
      refine g_sub [0] rfl ?_
      exact hx0 _ rfl
    · replace hF := q_f c4 hF
      refine g_aload_n 0 dX0_settle_74 rfl ?_
      refine g_aload_n 0 dX0_settle_75 rfl ?_
      obtain ⟨x5, e6, hF⟩ := q_bind hF
      refine g_getfR fl_X0_11 e6 dX0_settle_76 ?_
      refine g_iload_n 1 dX0_settle_79 rfl ?_
      obtain ⟨x7, e8, hF⟩ := q_bind hF
      refine g_iald e8 dX0_settle_80 ?_
      refine g_iload_n 1 dX0_settle_81 rfl ?_
      obtain ⟨u9, e10, hF⟩ := q_bind hF
      obtain ⟨x11, e12, hF⟩ := q_bind hF
      refine g_callVv0 (ci := 0) (q := (RX0, TX0, 15)) qm_X0_addFollower wd_778 wd_780 wd_17 rfl e10 (M_X0_addFollower l b D z nx e12) (As := [.int x7, .int a1]) rfl rfl (Nat.le_of_ble_eq_true rfl) ⟨(Nat.le_of_ble_eq_true rfl), (Nat.le_of_ble_eq_true rfl)⟩ ⟨rfl, rfl⟩ ⟨(Nat.le_of_ble_eq_true rfl), (Nat.le_of_ble_eq_true rfl)⟩ dX0_settle_82 ?_
      refine g_iinc [(1, .int (a1 + 1)), (0, .ref a0)] 1 dX0_settle_85 rfl (congrArg (a1 + ·) lt_iconst_1) (Nat.le_of_ble_eq_true rfl) rfl ?_
      refine g_goto 60 dX0_settle_88 (by decide) ?_
      cases hF
      refine g_sub [1, 0] rfl ?_
      exact hback _ _ rfl
set_option maxRecDepth 100000 in
set_option maxHeartbeats 4000000 in
theorem L_X0_settle_60 (l : Launch) (b : Nat) (D : va_G) (z : Nat → Nat) {Φ : Option Value → qH → Nat → Prop} {nx : Nat} {a0 : Nat} : ∀ (n : Nat) (a1 : Int32) (h : qH) (e : qH), q_lp (s_X0_settle_60 a0) n (a1, h) = some e → (∀  (bh : qH), e = bh → Go l b D z yX0_settle cX0_settle 2 none rm_X0_settle Φ 91 [(0, .ref a0)] [] bh nx 0 0) → Go l b D z yX0_settle cX0_settle 2 none rm_X0_settle Φ 60 [(0, .ref a0), (1, .int a1)] [] h nx 0 0 := by
  intro n
  induction n with
  | zero => intro a1 h e he; cases (show none = some e from he)
  | succ n ih =>
    intro a1 h e he hx0
    obtain ⟨o, ho, h1, h2⟩ := q_lp_succ he
    exact B_X0_settle_60 l b D z (show b_X0_settle_60 a0 a1 h = some o from ho) (fun b1 bh hb => ih _ _ e (h1 _ hb) hx0) (fun p0 hr => hx0 p0 (h2 _ hr).symm)
set_option maxRecDepth 100000 in
set_option maxHeartbeats 4000000 in
theorem B_X0_settle_93 (l : Launch) (b : Nat) (D : va_G) (z : Nat → Nat) {Φ : Option Value → qH → Nat → Prop} {nx : Nat} {a0 : Nat} {a1 : Int32} {h : qH} {o : (Int32 × qH) ⊕ qH} (hF : b_X0_settle_93 a0 a1 h = some o) (hback : ∀ (b1 : Int32) (bh : qH), o = .inl (b1, bh) → Go l b D z yX0_settle cX0_settle 2 none rm_X0_settle Φ 93 [(0, .ref a0), (1, .int b1)] [] bh nx 0 0) (hx0 : ∀  (bh : qH), o = .inr bh → Go l b D z yX0_settle cX0_settle 2 none rm_X0_settle Φ 129 [] [] bh nx 0 0) : Go l b D z yX0_settle cX0_settle 2 none rm_X0_settle Φ 93 [(0, .ref a0), (1, .int a1)] [] h nx 0 0 := by
  unfold b_X0_settle_93 at hF
  refine g_iload_n 1 dX0_settle_93 rfl ?_
  refine g_aload_n 0 dX0_settle_94 rfl ?_
  obtain ⟨x1, e2, hF⟩ := q_bind hF
  refine g_getfI fl_X0_49 e2 dX0_settle_95 ?_
  refine g_icmp_ge 129 dX0_settle_98 (by decide) (fun c3 => ?_) (fun c3 => ?_)
  · replace hF := q_t c3 hF
    cases hF
    refine g_sub [] rfl ?_
    exact hx0 _ rfl
  · replace hF := q_f c3 hF
    refine g_iload_n 1 dX0_settle_101 rfl ?_
    refine g_bipush dX0_settle_102 lt_bipush_8 ?_
    refine g_icmp_ge 129 dX0_settle_104 (by decide) (fun c4 => ?_) (fun c4 => ?_)
    · replace hF := q_t c4 hF
      cases hF
      refine g_sub [] rfl ?_
      exact hx0 _ rfl
    · replace hF := q_f c4 hF
      refine g_aload_n 0 dX0_settle_107 rfl ?_
      refine g_aload_n 0 dX0_settle_108 rfl ?_
      obtain ⟨x5, e6, hF⟩ := q_bind hF
      refine g_getfR fl_X0_27 e6 dX0_settle_109 ?_
      refine g_iload_n 1 dX0_settle_112 rfl ?_
      obtain ⟨x7, e8, hF⟩ := q_bind hF
      refine g_iald e8 dX0_settle_113 ?_
      refine g_aload_n 0 dX0_settle_114 rfl ?_
      obtain ⟨x9, e10, hF⟩ := q_bind hF
      refine g_getfR fl_X0_30 e10 dX0_settle_115 ?_
      refine g_iload_n 1 dX0_settle_118 rfl ?_
      obtain ⟨x11, e12, hF⟩ := q_bind hF
      refine g_iald e12 dX0_settle_119 ?_
      obtain ⟨u13, e14, hF⟩ := q_bind hF
      obtain ⟨x15, e16, hF⟩ := q_bind hF
      refine g_callVv0 (ci := 0) (q := (RX0, TX0, 15)) qm_X0_addFollower wd_778 wd_780 wd_17 rfl e14 (M_X0_addFollower l b D z nx e16) (As := [.int x7, .int x11]) rfl rfl (Nat.le_of_ble_eq_true rfl) ⟨(Nat.le_of_ble_eq_true rfl), (Nat.le_of_ble_eq_true rfl)⟩ ⟨rfl, rfl⟩ ⟨(Nat.le_of_ble_eq_true rfl), (Nat.le_of_ble_eq_true rfl)⟩ dX0_settle_120 ?_
      refine g_iinc [(1, .int (a1 + 1)), (0, .ref a0)] 1 dX0_settle_123 rfl (congrArg (a1 + ·) lt_iconst_1) (Nat.le_of_ble_eq_true rfl) rfl ?_
      refine g_goto 93 dX0_settle_126 (by decide) ?_
      cases hF
      refine g_sub [1, 0] rfl ?_
      exact hback _ _ rfl
set_option maxRecDepth 100000 in
set_option maxHeartbeats 4000000 in
theorem L_X0_settle_93 (l : Launch) (b : Nat) (D : va_G) (z : Nat → Nat) {Φ : Option Value → qH → Nat → Prop} {nx : Nat} {a0 : Nat} : ∀ (n : Nat) (a1 : Int32) (h : qH) (e : qH), q_lp (s_X0_settle_93 a0) n (a1, h) = some e → (∀  (bh : qH), e = bh → Go l b D z yX0_settle cX0_settle 2 none rm_X0_settle Φ 129 [] [] bh nx 0 0) → Go l b D z yX0_settle cX0_settle 2 none rm_X0_settle Φ 93 [(0, .ref a0), (1, .int a1)] [] h nx 0 0 := by
  intro n
  induction n with
  | zero => intro a1 h e he; cases (show none = some e from he)
  | succ n ih =>
    intro a1 h e he hx0
    obtain ⟨o, ho, h1, h2⟩ := q_lp_succ he
    exact B_X0_settle_93 l b D z (show b_X0_settle_93 a0 a1 h = some o from ho) (fun b1 bh hb => ih _ _ e (h1 _ hb) hx0) (fun p0 hr => hx0 p0 (h2 _ hr).symm)
set_option maxRecDepth 100000 in
set_option maxHeartbeats 4000000 in
theorem J_X0_settle_91 (l : Launch) (b : Nat) (D : va_G) (z : Nat → Nat) {nx : Nat} {h : qH} {a0 : Nat} {r : qH} (hF : j_X0_settle_91 h a0  = some r) : Go l b D z yX0_settle cX0_settle 2 none rm_X0_settle (qE none r nx) 91 [(0, .ref a0)] [] h nx 0 0 := by
  unfold j_X0_settle_91 at hF
  refine g_iconst dX0_settle_91 lt_iconst_0 ?_
  refine g_istore_n [(1, .int (0 : Int32)), (0, .ref a0)] dX0_settle_92 (Nat.le_of_ble_eq_true rfl) rfl ?_
  obtain ⟨e1, w2, hF⟩ := q_bind hF
  refine g_sub [1, 0] rfl ?_
  refine L_X0_settle_93 l b D z q_N (0 : Int32) h e1 w2 ?_
  · intro h3 w4
    replace w4 := w4.symm
    subst w4
    cases hF
    exact g_vret dX0_settle_129 rfl ⟨rfl, rfl, rfl⟩ (Nat.le_of_ble_eq_true rfl) (Nat.le_of_ble_eq_true rfl)
set_option maxRecDepth 100000 in
set_option maxHeartbeats 4000000 in
theorem J_X0_settle_58 (l : Launch) (b : Nat) (D : va_G) (z : Nat → Nat) {nx : Nat} {h : qH} {a0 : Nat} {r : qH} (hF : j_X0_settle_58 h a0  = some r) : Go l b D z yX0_settle cX0_settle 2 none rm_X0_settle (qE none r nx) 58 [(0, .ref a0)] [] h nx 0 0 := by
  unfold j_X0_settle_58 at hF
  refine g_iconst dX0_settle_58 lt_iconst_1 ?_
  refine g_istore_n [(1, .int (1 : Int32)), (0, .ref a0)] dX0_settle_59 (Nat.le_of_ble_eq_true rfl) rfl ?_
  obtain ⟨e1, w2, hF⟩ := q_bind hF
  refine g_sub [1, 0] rfl ?_
  refine L_X0_settle_60 l b D z q_N (1 : Int32) h e1 w2 ?_
  · intro h3 w4
    replace w4 := w4.symm
    subst w4
    exact J_X0_settle_91 l b D z hF
set_option maxRecDepth 100000 in
set_option maxHeartbeats 4000000 in
theorem M_X0_settle (l : Launch) (b : Nat) (D : va_G) (z : Nat → Nat) (nx : Nat) {h : qH} {a0 : Nat} {r : qH} (hF : F_X0_settle h a0 = some r) : Me l b D z yX0_settle cX0_settle 2 none rm_X0_settle [.ref a0] h nx (qE none r nx) := by
  refine Me.of (by decide +kernel) (Nat.le_of_ble_eq_true rfl) ?_
  show Go l b D z yX0_settle cX0_settle 2 none rm_X0_settle (qE none r nx) 0 [(0, .ref a0)] [] h nx 0 0
  unfold F_X0_settle at hF
  refine g_iconst dX0_settle_0 lt_iconst_0 ?_
  refine g_istore_n [(1, .int (0 : Int32)), (0, .ref a0)] dX0_settle_1 (Nat.le_of_ble_eq_true rfl) rfl ?_
  obtain ⟨e1, w2, hF⟩ := q_bind hF
  refine g_sub [1, 0] rfl ?_
  refine L_X0_settle_2 l b D z q_N (0 : Int32) h e1 w2 ?_
  · intro h3 w4
    replace w4 := w4.symm
    subst w4
    exact J_X0_settle_58 l b D z hF
def rm_X0_copy : Room := { frames := 1, cells := 0, slots := 0, locals := 40 }
set_option maxRecDepth 100000 in
set_option maxHeartbeats 4000000 in
theorem M_X0_copy (l : Launch) (b : Nat) (D : va_G) (z : Nat → Nat) (nx : Nat) {h : qH} {a0 : Nat} {a1 : Nat} {r : qH} (hF : F_X0_copy h a0 a1 = some r) : Me l b D z yX0_copy cX0_copy 2 none rm_X0_copy [.ref a0, .ref a1] h nx (qE none r nx) := by
  refine Me.of (by decide +kernel) (Nat.le_of_ble_eq_true rfl) ?_
  show Go l b D z yX0_copy cX0_copy 2 none rm_X0_copy (qE none r nx) 0 [(0, .ref a0), (1, .ref a1)] [] h nx 0 0
  unfold F_X0_copy at hF
  refine g_aload_n 1 dX0_copy_0 rfl ?_
  obtain ⟨x1, e2, hF⟩ := q_bind hF
  refine g_getfR fl_X0_11 e2 dX0_copy_1 ?_
  refine g_iconst dX0_copy_4 lt_iconst_0 ?_
  refine g_aload_n 0 dX0_copy_5 rfl ?_
  obtain ⟨x3, e4, hF⟩ := q_bind hF
  refine g_getfR fl_X0_11 e4 dX0_copy_6 ?_
  refine g_iconst dX0_copy_9 lt_iconst_0 ?_
  refine g_bipush dX0_copy_10 lt_bipush_20 ?_
  obtain ⟨h5, e6, hF⟩ := q_bind hF
  refine g_copyI rfl e6 wd_1436 wd_1028 wd_1027 wd_182 (Nat.le_of_ble_eq_true rfl) (Nat.le_of_ble_eq_true rfl) dX0_copy_12 ?_
  refine g_aload_n 1 dX0_copy_15 rfl ?_
  obtain ⟨x7, e8, hF⟩ := q_bind hF
  refine g_getfR fl_X0_15 e8 dX0_copy_16 ?_
  refine g_iconst dX0_copy_19 lt_iconst_0 ?_
  refine g_aload_n 0 dX0_copy_20 rfl ?_
  obtain ⟨x9, e10, hF⟩ := q_bind hF
  refine g_getfR fl_X0_15 e10 dX0_copy_21 ?_
  refine g_iconst dX0_copy_24 lt_iconst_0 ?_
  refine g_bipush dX0_copy_25 lt_bipush_20 ?_
  obtain ⟨h11, e12, hF⟩ := q_bind hF
  refine g_copyI rfl e12 wd_1436 wd_1028 wd_1027 wd_182 (Nat.le_of_ble_eq_true rfl) (Nat.le_of_ble_eq_true rfl) dX0_copy_27 ?_
  refine g_aload_n 1 dX0_copy_30 rfl ?_
  obtain ⟨x13, e14, hF⟩ := q_bind hF
  refine g_getfR fl_X0_18 e14 dX0_copy_31 ?_
  refine g_iconst dX0_copy_34 lt_iconst_0 ?_
  refine g_aload_n 0 dX0_copy_35 rfl ?_
  obtain ⟨x15, e16, hF⟩ := q_bind hF
  refine g_getfR fl_X0_18 e16 dX0_copy_36 ?_
  refine g_iconst dX0_copy_39 lt_iconst_0 ?_
  refine g_bipush dX0_copy_40 lt_bipush_20 ?_
  obtain ⟨h17, e18, hF⟩ := q_bind hF
  refine g_copyI rfl e18 wd_1436 wd_1028 wd_1027 wd_182 (Nat.le_of_ble_eq_true rfl) (Nat.le_of_ble_eq_true rfl) dX0_copy_42 ?_
  refine g_aload_n 1 dX0_copy_45 rfl ?_
  obtain ⟨x19, e20, hF⟩ := q_bind hF
  refine g_getfR fl_X0_21 e20 dX0_copy_46 ?_
  refine g_iconst dX0_copy_49 lt_iconst_0 ?_
  refine g_aload_n 0 dX0_copy_50 rfl ?_
  obtain ⟨x21, e22, hF⟩ := q_bind hF
  refine g_getfR fl_X0_21 e22 dX0_copy_51 ?_
  refine g_iconst dX0_copy_54 lt_iconst_0 ?_
  refine g_bipush dX0_copy_55 lt_bipush_20 ?_
  obtain ⟨h23, e24, hF⟩ := q_bind hF
  refine g_copyI rfl e24 wd_1436 wd_1028 wd_1027 wd_182 (Nat.le_of_ble_eq_true rfl) (Nat.le_of_ble_eq_true rfl) dX0_copy_57 ?_
  refine g_aload_n 1 dX0_copy_60 rfl ?_
  obtain ⟨x25, e26, hF⟩ := q_bind hF
  refine g_getfR fl_X0_24 e26 dX0_copy_61 ?_
  refine g_iconst dX0_copy_64 lt_iconst_0 ?_
  refine g_aload_n 0 dX0_copy_65 rfl ?_
  obtain ⟨x27, e28, hF⟩ := q_bind hF
  refine g_getfR fl_X0_24 e28 dX0_copy_66 ?_
  refine g_iconst dX0_copy_69 lt_iconst_0 ?_
  refine g_bipush dX0_copy_70 lt_bipush_20 ?_
  obtain ⟨h29, e30, hF⟩ := q_bind hF
  refine g_copyI rfl e30 wd_1436 wd_1028 wd_1027 wd_182 (Nat.le_of_ble_eq_true rfl) (Nat.le_of_ble_eq_true rfl) dX0_copy_72 ?_
  refine g_aload_n 1 dX0_copy_75 rfl ?_
  obtain ⟨x31, e32, hF⟩ := q_bind hF
  refine g_getfR fl_X0_27 e32 dX0_copy_76 ?_
  refine g_iconst dX0_copy_79 lt_iconst_0 ?_
  refine g_aload_n 0 dX0_copy_80 rfl ?_
  obtain ⟨x33, e34, hF⟩ := q_bind hF
  refine g_getfR fl_X0_27 e34 dX0_copy_81 ?_
  refine g_iconst dX0_copy_84 lt_iconst_0 ?_
  refine g_bipush dX0_copy_85 lt_bipush_8 ?_
  obtain ⟨h35, e36, hF⟩ := q_bind hF
  refine g_copyI rfl e36 wd_1436 wd_1028 wd_1027 wd_182 (Nat.le_of_ble_eq_true rfl) (Nat.le_of_ble_eq_true rfl) dX0_copy_87 ?_
  refine g_aload_n 1 dX0_copy_90 rfl ?_
  obtain ⟨x37, e38, hF⟩ := q_bind hF
  refine g_getfR fl_X0_30 e38 dX0_copy_91 ?_
  refine g_iconst dX0_copy_94 lt_iconst_0 ?_
  refine g_aload_n 0 dX0_copy_95 rfl ?_
  obtain ⟨x39, e40, hF⟩ := q_bind hF
  refine g_getfR fl_X0_30 e40 dX0_copy_96 ?_
  refine g_iconst dX0_copy_99 lt_iconst_0 ?_
  refine g_bipush dX0_copy_100 lt_bipush_8 ?_
  obtain ⟨h41, e42, hF⟩ := q_bind hF
  refine g_copyI rfl e42 wd_1436 wd_1028 wd_1027 wd_182 (Nat.le_of_ble_eq_true rfl) (Nat.le_of_ble_eq_true rfl) dX0_copy_102 ?_
  refine g_aload_n 1 dX0_copy_105 rfl ?_
  obtain ⟨x43, e44, hF⟩ := q_bind hF
  refine g_getfR fl_X0_33 e44 dX0_copy_106 ?_
  refine g_iconst dX0_copy_109 lt_iconst_0 ?_
  refine g_aload_n 0 dX0_copy_110 rfl ?_
  obtain ⟨x45, e46, hF⟩ := q_bind hF
  refine g_getfR fl_X0_33 e46 dX0_copy_111 ?_
  refine g_iconst dX0_copy_114 lt_iconst_0 ?_
  refine g_bipush dX0_copy_115 lt_bipush_6 ?_
  obtain ⟨h47, e48, hF⟩ := q_bind hF
  refine g_copyI rfl e48 wd_1436 wd_1028 wd_1027 wd_182 (Nat.le_of_ble_eq_true rfl) (Nat.le_of_ble_eq_true rfl) dX0_copy_117 ?_
  refine g_aload_n 1 dX0_copy_120 rfl ?_
  obtain ⟨x49, e50, hF⟩ := q_bind hF
  refine g_getfR fl_X0_36 e50 dX0_copy_121 ?_
  refine g_iconst dX0_copy_124 lt_iconst_0 ?_
  refine g_aload_n 0 dX0_copy_125 rfl ?_
  obtain ⟨x51, e52, hF⟩ := q_bind hF
  refine g_getfR fl_X0_36 e52 dX0_copy_126 ?_
  refine g_iconst dX0_copy_129 lt_iconst_0 ?_
  refine g_bipush dX0_copy_130 lt_bipush_6 ?_
  obtain ⟨h53, e54, hF⟩ := q_bind hF
  refine g_copyI rfl e54 wd_1436 wd_1028 wd_1027 wd_182 (Nat.le_of_ble_eq_true rfl) (Nat.le_of_ble_eq_true rfl) dX0_copy_132 ?_
  refine g_aload_n 1 dX0_copy_135 rfl ?_
  obtain ⟨x55, e56, hF⟩ := q_bind hF
  refine g_getfR fl_X0_39 e56 dX0_copy_136 ?_
  refine g_iconst dX0_copy_139 lt_iconst_0 ?_
  refine g_aload_n 0 dX0_copy_140 rfl ?_
  obtain ⟨x57, e58, hF⟩ := q_bind hF
  refine g_getfR fl_X0_39 e58 dX0_copy_141 ?_
  refine g_iconst dX0_copy_144 lt_iconst_0 ?_
  refine g_sipush dX0_copy_145 lt_sipush_400 ?_
  obtain ⟨h59, e60, hF⟩ := q_bind hF
  refine g_copyI rfl e60 wd_1436 wd_1028 wd_1027 wd_182 (Nat.le_of_ble_eq_true rfl) (Nat.le_of_ble_eq_true rfl) dX0_copy_148 ?_
  refine g_aload_n 1 dX0_copy_151 rfl ?_
  obtain ⟨x61, e62, hF⟩ := q_bind hF
  refine g_getfR fl_X0_42 e62 dX0_copy_152 ?_
  refine g_iconst dX0_copy_155 lt_iconst_0 ?_
  refine g_aload_n 0 dX0_copy_156 rfl ?_
  obtain ⟨x63, e64, hF⟩ := q_bind hF
  refine g_getfR fl_X0_42 e64 dX0_copy_157 ?_
  refine g_iconst dX0_copy_160 lt_iconst_0 ?_
  refine g_bipush dX0_copy_161 lt_bipush_20 ?_
  obtain ⟨h65, e66, hF⟩ := q_bind hF
  refine g_copyI rfl e66 wd_1436 wd_1028 wd_1027 wd_182 (Nat.le_of_ble_eq_true rfl) (Nat.le_of_ble_eq_true rfl) dX0_copy_163 ?_
  refine g_aload_n 0 dX0_copy_166 rfl ?_
  refine g_aload_n 1 dX0_copy_167 rfl ?_
  obtain ⟨x67, e68, hF⟩ := q_bind hF
  refine g_getfI fl_X0_45 e68 dX0_copy_168 ?_
  obtain ⟨h69, e70, hF⟩ := q_bind hF
  refine g_putf fl_X0_45 e70 rfl rfl dX0_copy_171 ?_
  refine g_aload_n 0 dX0_copy_174 rfl ?_
  refine g_aload_n 1 dX0_copy_175 rfl ?_
  obtain ⟨x71, e72, hF⟩ := q_bind hF
  refine g_getfI fl_X0_49 e72 dX0_copy_176 ?_
  obtain ⟨h73, e74, hF⟩ := q_bind hF
  refine g_putf fl_X0_49 e74 rfl rfl dX0_copy_179 ?_
  refine g_aload_n 0 dX0_copy_182 rfl ?_
  refine g_aload_n 1 dX0_copy_183 rfl ?_
  obtain ⟨x75, e76, hF⟩ := q_bind hF
  refine g_getfI fl_X0_52 e76 dX0_copy_184 ?_
  obtain ⟨h77, e78, hF⟩ := q_bind hF
  refine g_putf fl_X0_52 e78 rfl rfl dX0_copy_187 ?_
  refine g_aload_n 0 dX0_copy_190 rfl ?_
  refine g_aload_n 1 dX0_copy_191 rfl ?_
  obtain ⟨x79, e80, hF⟩ := q_bind hF
  refine g_getfI fl_X0_55 e80 dX0_copy_192 ?_
  obtain ⟨h81, e82, hF⟩ := q_bind hF
  refine g_putf fl_X0_55 e82 rfl rfl dX0_copy_195 ?_
  cases hF
  exact g_vret dX0_copy_198 rfl ⟨rfl, rfl, rfl⟩ (Nat.le_of_ble_eq_true rfl) (Nat.le_of_ble_eq_true rfl)
def rm_X0_nextOf : Room := { frames := 1, cells := 0, slots := 0, locals := 22 }
set_option maxRecDepth 100000 in
set_option maxHeartbeats 4000000 in
theorem M_X0_nextOf (l : Launch) (b : Nat) (D : va_G) (z : Nat → Nat) (nx : Nat) {h : qH} {a0 : Nat} {a1 : Int32} {r : Int32} (hF : F_X0_nextOf h a0 a1 = some r) : Me l b D z yX0_nextOf cX0_nextOf 2 (some .int) rm_X0_nextOf [.ref a0, .int a1] h nx (qE (some (.int r)) h nx) := by
  refine Me.of (by decide +kernel) (Nat.le_of_ble_eq_true rfl) ?_
  show Go l b D z yX0_nextOf cX0_nextOf 2 (some .int) rm_X0_nextOf (qE (some (.int r)) h nx) 0 [(0, .ref a0), (1, .int a1)] [] h nx 0 0
  unfold F_X0_nextOf at hF
  refine g_aload_n 0 dX0_nextOf_0 rfl ?_
  refine g_iload_n 1 dX0_nextOf_1 rfl ?_
  refine g_iconst dX0_nextOf_2 lt_iconst_0 ?_
  obtain ⟨u1, e2, hF⟩ := q_bind hF
  obtain ⟨x3, e4, hF⟩ := q_bind hF
  refine g_callVr0 (ci := 0) (q := (RX0, TX0, 15)) qm_X0_following wd_794 wd_795 wd_796 rfl e2 (M_X0_following l b D z nx e4) (As := [.int a1, .int (0 : Int32)]) rfl rfl (Nat.le_of_ble_eq_true rfl) ⟨(Nat.le_of_ble_eq_true rfl), (Nat.le_of_ble_eq_true rfl)⟩ ⟨rfl, rfl⟩ ⟨(Nat.le_of_ble_eq_true rfl), (Nat.le_of_ble_eq_true rfl)⟩ dX0_nextOf_3 ?_
  cases hF
  exact g_iret dX0_nextOf_6 rfl ⟨rfl, rfl, rfl⟩ (Nat.le_of_ble_eq_true rfl) (Nat.le_of_ble_eq_true rfl)
def rm_X0_strayingOf : Room := { frames := 2, cells := 0, slots := 0, locals := 43 }
set_option maxRecDepth 100000 in
set_option maxHeartbeats 4000000 in
theorem M_X0_strayingOf (l : Launch) (b : Nat) (D : va_G) (z : Nat → Nat) (nx : Nat) {h : qH} {a0 : Nat} {a1 : Int32} {a2 : Int32} {r : Int32} (hF : F_X0_strayingOf h a0 a1 a2 = some r) : Me l b D z yX0_strayingOf cX0_strayingOf 3 (some .int) rm_X0_strayingOf [.ref a0, .int a1, .int a2] h nx (qE (some (.int r)) h nx) := by
  refine Me.of (by decide +kernel) (Nat.le_of_ble_eq_true rfl) ?_
  show Go l b D z yX0_strayingOf cX0_strayingOf 3 (some .int) rm_X0_strayingOf (qE (some (.int r)) h nx) 0 [(0, .ref a0), (1, .int a1), (2, .int a2)] [] h nx 0 0
  unfold F_X0_strayingOf at hF
  refine g_aload_n 0 dX0_strayingOf_0 rfl ?_
  refine g_iload_n 1 dX0_strayingOf_1 rfl ?_
  obtain ⟨u1, e2, hF⟩ := q_bind hF
  obtain ⟨x3, e4, hF⟩ := q_bind hF
  refine g_callVr0 (ci := 0) (q := (RX0, TX0, 15)) qm_X0_nextOf wd_867 wd_868 wd_869 rfl e2 (M_X0_nextOf l b D z nx e4) (As := [.int a1]) rfl rfl (Nat.le_of_ble_eq_true rfl) ⟨(Nat.le_of_ble_eq_true rfl), (Nat.le_of_ble_eq_true rfl)⟩ ⟨rfl, rfl⟩ ⟨(Nat.le_of_ble_eq_true rfl), (Nat.le_of_ble_eq_true rfl)⟩ dX0_strayingOf_2 ?_
  refine g_iload_n 2 dX0_strayingOf_5 rfl ?_
  refine g_icmp_ne 13 dX0_strayingOf_6 (by decide) (fun c5 => ?_) (fun c5 => ?_)
  · replace hF := q_f c5 hF
    refine g_iconst dX0_strayingOf_13 lt_iconst_1 ?_
    cases hF
    exact g_iret dX0_strayingOf_14 rfl ⟨rfl, rfl, rfl⟩ (Nat.le_of_ble_eq_true rfl) (Nat.le_of_ble_eq_true rfl)
  · replace hF := q_t c5 hF
    refine g_iconst dX0_strayingOf_9 lt_iconst_0 ?_
    refine g_goto 14 dX0_strayingOf_10 (by decide) ?_
    cases hF
    exact g_iret dX0_strayingOf_14 rfl ⟨rfl, rfl, rfl⟩ (Nat.le_of_ble_eq_true rfl) (Nat.le_of_ble_eq_true rfl)
def rm_X0_whoSays : Room := { frames := 0, cells := 0, slots := 0, locals := 0 }
set_option maxRecDepth 100000 in
set_option maxHeartbeats 4000000 in
theorem M_X0_whoSays (l : Launch) (b : Nat) (D : va_G) (z : Nat → Nat) (nx : Nat) {h : qH} {a0 : Nat} {a1 : Int32} {r : Int32} (hF : F_X0_whoSays h a0 a1 = some r) : Me l b D z yX0_whoSays cX0_whoSays 2 (some .int) rm_X0_whoSays [.ref a0, .int a1] h nx (qE (some (.int r)) h nx) := by
  refine Me.of (by decide +kernel) (Nat.le_of_ble_eq_true rfl) ?_
  show Go l b D z yX0_whoSays cX0_whoSays 2 (some .int) rm_X0_whoSays (qE (some (.int r)) h nx) 0 [(0, .ref a0), (1, .int a1)] [] h nx 0 0
  unfold F_X0_whoSays at hF
  refine g_iload_n 1 dX0_whoSays_0 rfl ?_
  refine g_if_lt 27 dX0_whoSays_1 (by decide) (fun c1 => ?_) (fun c1 => ?_)
  · replace hF := q_t c1 hF
    refine g_iconst dX0_whoSays_27 lt_iconst_m1 ?_
    cases hF
    exact g_iret dX0_whoSays_28 rfl ⟨rfl, rfl, rfl⟩ (Nat.le_of_ble_eq_true rfl) (Nat.le_of_ble_eq_true rfl)
  · replace hF := q_f c1 hF
    refine g_iload_n 1 dX0_whoSays_4 rfl ?_
    refine g_aload_n 0 dX0_whoSays_5 rfl ?_
    obtain ⟨x2, e3, hF⟩ := q_bind hF
    refine g_getfI fl_X0_45 e3 dX0_whoSays_6 ?_
    refine g_icmp_ge 27 dX0_whoSays_9 (by decide) (fun c4 => ?_) (fun c4 => ?_)
    · replace hF := q_t c4 hF
      refine g_iconst dX0_whoSays_27 lt_iconst_m1 ?_
      cases hF
      exact g_iret dX0_whoSays_28 rfl ⟨rfl, rfl, rfl⟩ (Nat.le_of_ble_eq_true rfl) (Nat.le_of_ble_eq_true rfl)
    · replace hF := q_f c4 hF
      refine g_iload_n 1 dX0_whoSays_12 rfl ?_
      refine g_bipush dX0_whoSays_13 lt_bipush_20 ?_
      refine g_icmp_ge 27 dX0_whoSays_15 (by decide) (fun c5 => ?_) (fun c5 => ?_)
      · replace hF := q_t c5 hF
        refine g_iconst dX0_whoSays_27 lt_iconst_m1 ?_
        cases hF
        exact g_iret dX0_whoSays_28 rfl ⟨rfl, rfl, rfl⟩ (Nat.le_of_ble_eq_true rfl) (Nat.le_of_ble_eq_true rfl)
      · replace hF := q_f c5 hF
        refine g_aload_n 0 dX0_whoSays_18 rfl ?_
        obtain ⟨x6, e7, hF⟩ := q_bind hF
        refine g_getfR fl_X0_15 e7 dX0_whoSays_19 ?_
        refine g_iload_n 1 dX0_whoSays_22 rfl ?_
        obtain ⟨x8, e9, hF⟩ := q_bind hF
        refine g_iald e9 dX0_whoSays_23 ?_
        refine g_goto 28 dX0_whoSays_24 (by decide) ?_
        cases hF
        exact g_iret dX0_whoSays_28 rfl ⟨rfl, rfl, rfl⟩ (Nat.le_of_ble_eq_true rfl) (Nat.le_of_ble_eq_true rfl)
def rm_X0_sceneOf : Room := { frames := 1, cells := 0, slots := 0, locals := 21 }
set_option maxRecDepth 100000 in
set_option maxHeartbeats 4000000 in
theorem M_X0_sceneOf (l : Launch) (b : Nat) (D : va_G) (z : Nat → Nat) (nx : Nat) {h : qH} {a0 : Nat} {a1 : Int32} {r : Int32} (hF : F_X0_sceneOf h a0 a1 = some r) : Me l b D z yX0_sceneOf cX0_sceneOf 2 (some .int) rm_X0_sceneOf [.ref a0, .int a1] h nx (qE (some (.int r)) h nx) := by
  refine Me.of (by decide +kernel) (Nat.le_of_ble_eq_true rfl) ?_
  show Go l b D z yX0_sceneOf cX0_sceneOf 2 (some .int) rm_X0_sceneOf (qE (some (.int r)) h nx) 0 [(0, .ref a0), (1, .int a1)] [] h nx 0 0
  unfold F_X0_sceneOf at hF
  refine g_aload_n 0 dX0_sceneOf_0 rfl ?_
  refine g_iload_n 1 dX0_sceneOf_1 rfl ?_
  obtain ⟨u1, e2, hF⟩ := q_bind hF
  obtain ⟨x3, e4, hF⟩ := q_bind hF
  refine g_callVr0 (ci := 0) (q := (RX0, TX0, 15)) qm_X0_has wd_782 wd_783 wd_784 rfl e2 (M_X0_has l b D z nx e4) (As := [.int a1]) rfl rfl (Nat.le_of_ble_eq_true rfl) ⟨(Nat.le_of_ble_eq_true rfl), (Nat.le_of_ble_eq_true rfl)⟩ ⟨rfl, rfl⟩ ⟨(Nat.le_of_ble_eq_true rfl), (Nat.le_of_ble_eq_true rfl)⟩ dX0_sceneOf_2 ?_
  refine g_if_eq 17 dX0_sceneOf_5 (by decide) (fun c5 => ?_) (fun c5 => ?_)
  · replace hF := q_t c5 hF
    refine g_iconst dX0_sceneOf_17 lt_iconst_m1 ?_
    cases hF
    exact g_iret dX0_sceneOf_18 rfl ⟨rfl, rfl, rfl⟩ (Nat.le_of_ble_eq_true rfl) (Nat.le_of_ble_eq_true rfl)
  · replace hF := q_f c5 hF
    refine g_aload_n 0 dX0_sceneOf_8 rfl ?_
    obtain ⟨x6, e7, hF⟩ := q_bind hF
    refine g_getfR fl_X0_18 e7 dX0_sceneOf_9 ?_
    refine g_iload_n 1 dX0_sceneOf_12 rfl ?_
    obtain ⟨x8, e9, hF⟩ := q_bind hF
    refine g_iald e9 dX0_sceneOf_13 ?_
    refine g_goto 18 dX0_sceneOf_14 (by decide) ?_
    cases hF
    exact g_iret dX0_sceneOf_18 rfl ⟨rfl, rfl, rfl⟩ (Nat.le_of_ble_eq_true rfl) (Nat.le_of_ble_eq_true rfl)
def rm_X0_harmDone : Room := { frames := 0, cells := 0, slots := 0, locals := 0 }
set_option maxRecDepth 100000 in
set_option maxHeartbeats 4000000 in
theorem M_X0_harmDone (l : Launch) (b : Nat) (D : va_G) (z : Nat → Nat) (nx : Nat) {h : qH} {a0 : Nat} {a1 : Int32} {r : Int32} (hF : F_X0_harmDone h a0 a1 = some r) : Me l b D z yX0_harmDone cX0_harmDone 2 (some .int) rm_X0_harmDone [.ref a0, .int a1] h nx (qE (some (.int r)) h nx) := by
  refine Me.of (by decide +kernel) (Nat.le_of_ble_eq_true rfl) ?_
  show Go l b D z yX0_harmDone cX0_harmDone 2 (some .int) rm_X0_harmDone (qE (some (.int r)) h nx) 0 [(0, .ref a0), (1, .int a1)] [] h nx 0 0
  unfold F_X0_harmDone at hF
  refine g_iload_n 1 dX0_harmDone_0 rfl ?_
  refine g_if_lt 27 dX0_harmDone_1 (by decide) (fun c1 => ?_) (fun c1 => ?_)
  · replace hF := q_t c1 hF
    refine g_iconst dX0_harmDone_27 lt_iconst_0 ?_
    cases hF
    exact g_iret dX0_harmDone_28 rfl ⟨rfl, rfl, rfl⟩ (Nat.le_of_ble_eq_true rfl) (Nat.le_of_ble_eq_true rfl)
  · replace hF := q_f c1 hF
    refine g_iload_n 1 dX0_harmDone_4 rfl ?_
    refine g_aload_n 0 dX0_harmDone_5 rfl ?_
    obtain ⟨x2, e3, hF⟩ := q_bind hF
    refine g_getfI fl_X0_45 e3 dX0_harmDone_6 ?_
    refine g_icmp_ge 27 dX0_harmDone_9 (by decide) (fun c4 => ?_) (fun c4 => ?_)
    · replace hF := q_t c4 hF
      refine g_iconst dX0_harmDone_27 lt_iconst_0 ?_
      cases hF
      exact g_iret dX0_harmDone_28 rfl ⟨rfl, rfl, rfl⟩ (Nat.le_of_ble_eq_true rfl) (Nat.le_of_ble_eq_true rfl)
    · replace hF := q_f c4 hF
      refine g_iload_n 1 dX0_harmDone_12 rfl ?_
      refine g_bipush dX0_harmDone_13 lt_bipush_20 ?_
      refine g_icmp_ge 27 dX0_harmDone_15 (by decide) (fun c5 => ?_) (fun c5 => ?_)
      · replace hF := q_t c5 hF
        refine g_iconst dX0_harmDone_27 lt_iconst_0 ?_
        cases hF
        exact g_iret dX0_harmDone_28 rfl ⟨rfl, rfl, rfl⟩ (Nat.le_of_ble_eq_true rfl) (Nat.le_of_ble_eq_true rfl)
      · replace hF := q_f c5 hF
        refine g_aload_n 0 dX0_harmDone_18 rfl ?_
        obtain ⟨x6, e7, hF⟩ := q_bind hF
        refine g_getfR fl_X0_24 e7 dX0_harmDone_19 ?_
        refine g_iload_n 1 dX0_harmDone_22 rfl ?_
        obtain ⟨x8, e9, hF⟩ := q_bind hF
        refine g_iald e9 dX0_harmDone_23 ?_
        refine g_goto 28 dX0_harmDone_24 (by decide) ?_
        cases hF
        exact g_iret dX0_harmDone_28 rfl ⟨rfl, rfl, rfl⟩ (Nat.le_of_ble_eq_true rfl) (Nat.le_of_ble_eq_true rfl)
def rm_X0_driesOf : Room := { frames := 1, cells := 0, slots := 0, locals := 20 }
set_option maxRecDepth 100000 in
set_option maxHeartbeats 4000000 in
theorem M_X0_driesOf (l : Launch) (b : Nat) (D : va_G) (z : Nat → Nat) (nx : Nat) {h : qH} {a0 : Nat} {a1 : Int32} {r : Int32} (hF : F_X0_driesOf h a0 a1 = some r) : Me l b D z yX0_driesOf cX0_driesOf 2 (some .int) rm_X0_driesOf [.ref a0, .int a1] h nx (qE (some (.int r)) h nx) := by
  refine Me.of (by decide +kernel) (Nat.le_of_ble_eq_true rfl) ?_
  show Go l b D z yX0_driesOf cX0_driesOf 2 (some .int) rm_X0_driesOf (qE (some (.int r)) h nx) 0 [(0, .ref a0), (1, .int a1)] [] h nx 0 0
  unfold F_X0_driesOf at hF
  refine g_iload_n 1 dX0_driesOf_0 rfl ?_
  obtain ⟨x1, e2, hF⟩ := q_bind hF
  refine g_callSNr0 qm_X11_isPerson (by decide +kernel) wd_760 (M_X11_isPerson l b D z nx e2) (As := [.int a1]) rfl rfl (Nat.le_of_ble_eq_true rfl) ⟨(Nat.le_of_ble_eq_true rfl), (Nat.le_of_ble_eq_true rfl)⟩ ⟨rfl, rfl⟩ ⟨(Nat.le_of_ble_eq_true rfl), (Nat.le_of_ble_eq_true rfl)⟩ dX0_driesOf_1 ?_
  refine g_if_eq 16 dX0_driesOf_4 (by decide) (fun c3 => ?_) (fun c3 => ?_)
  · replace hF := q_t c3 hF
    refine g_iconst dX0_driesOf_16 lt_iconst_0 ?_
    cases hF
    exact g_iret dX0_driesOf_17 rfl ⟨rfl, rfl, rfl⟩ (Nat.le_of_ble_eq_true rfl) (Nat.le_of_ble_eq_true rfl)
  · replace hF := q_f c3 hF
    refine g_aload_n 0 dX0_driesOf_7 rfl ?_
    obtain ⟨x4, e5, hF⟩ := q_bind hF
    refine g_getfR fl_X0_33 e5 dX0_driesOf_8 ?_
    refine g_iload_n 1 dX0_driesOf_11 rfl ?_
    obtain ⟨x6, e7, hF⟩ := q_bind hF
    refine g_iald e7 dX0_driesOf_12 ?_
    refine g_goto 17 dX0_driesOf_13 (by decide) ?_
    cases hF
    exact g_iret dX0_driesOf_17 rfl ⟨rfl, rfl, rfl⟩ (Nat.le_of_ble_eq_true rfl) (Nat.le_of_ble_eq_true rfl)
def rm_X0_showLine : Room := { frames := 2, cells := 0, slots := 0, locals := 43 }
set_option maxRecDepth 100000 in
set_option maxHeartbeats 4000000 in
theorem M_X0_showLine (l : Launch) (b : Nat) (D : va_G) (z : Nat → Nat) (nx : Nat) {h : qH} {a0 : Nat} {a1 : Int32} {a2 : Int32} {r : Int32} (hF : F_X0_showLine h a0 a1 a2 = some r) : Me l b D z yX0_showLine cX0_showLine 3 (some .int) rm_X0_showLine [.ref a0, .int a1, .int a2] h nx (qE (some (.int r)) h nx) := by
  refine Me.of (by decide +kernel) (Nat.le_of_ble_eq_true rfl) ?_
  show Go l b D z yX0_showLine cX0_showLine 3 (some .int) rm_X0_showLine (qE (some (.int r)) h nx) 0 [(0, .ref a0), (1, .int a1), (2, .int a2)] [] h nx 0 0
  unfold F_X0_showLine at hF
  refine g_aload_n 0 dX0_showLine_0 rfl ?_
  refine g_iload_n 2 dX0_showLine_1 rfl ?_
  obtain ⟨u1, e2, hF⟩ := q_bind hF
  obtain ⟨x3, e4, hF⟩ := q_bind hF
  refine g_callVr0 (ci := 0) (q := (RX0, TX0, 15)) qm_X0_has wd_782 wd_783 wd_784 rfl e2 (M_X0_has l b D z nx e4) (As := [.int a2]) rfl rfl (Nat.le_of_ble_eq_true rfl) ⟨(Nat.le_of_ble_eq_true rfl), (Nat.le_of_ble_eq_true rfl)⟩ ⟨rfl, rfl⟩ ⟨(Nat.le_of_ble_eq_true rfl), (Nat.le_of_ble_eq_true rfl)⟩ dX0_showLine_2 ?_
  refine g_if_ne 11 dX0_showLine_5 (by decide) (fun c5 => ?_) (fun c5 => ?_)
  · replace hF := q_f c5 hF
    refine g_iload_n 1 dX0_showLine_11 rfl ?_
    by_cases c6 : a1 = 1
    · replace hF := q_t c6 hF
      refine g_tabIn (off := 40) 52 dX0_showLine_12 (by rw [c6]; decide) (by rw [c6]; decide) (by rw [c6]; decide) (by decide) ?_
      refine g_aload_n 0 dX0_showLine_52 rfl ?_
      obtain ⟨x7, e8, hF⟩ := q_bind hF
      refine g_getfR fl_X0_11 e8 dX0_showLine_53 ?_
      refine g_iload_n 2 dX0_showLine_56 rfl ?_
      obtain ⟨x9, e10, hF⟩ := q_bind hF
      refine g_iald e10 dX0_showLine_57 ?_
      cases hF
      exact g_iret dX0_showLine_58 rfl ⟨rfl, rfl, rfl⟩ (Nat.le_of_ble_eq_true rfl) (Nat.le_of_ble_eq_true rfl)
    replace hF := q_f c6 hF
    by_cases c11 : a1 = 2
    · replace hF := q_t c11 hF
      refine g_tabIn (off := 47) 59 dX0_showLine_12 (by rw [c11]; decide) (by rw [c11]; decide) (by rw [c11]; decide) (by decide) ?_
      refine g_aload_n 0 dX0_showLine_59 rfl ?_
      obtain ⟨x12, e13, hF⟩ := q_bind hF
      refine g_getfR fl_X0_15 e13 dX0_showLine_60 ?_
      refine g_iload_n 2 dX0_showLine_63 rfl ?_
      obtain ⟨x14, e15, hF⟩ := q_bind hF
      refine g_iald e15 dX0_showLine_64 ?_
      cases hF
      exact g_iret dX0_showLine_65 rfl ⟨rfl, rfl, rfl⟩ (Nat.le_of_ble_eq_true rfl) (Nat.le_of_ble_eq_true rfl)
    replace hF := q_f c11 hF
    by_cases c16 : a1 = 3
    · replace hF := q_t c16 hF
      refine g_tabIn (off := 54) 66 dX0_showLine_12 (by rw [c16]; decide) (by rw [c16]; decide) (by rw [c16]; decide) (by decide) ?_
      refine g_aload_n 0 dX0_showLine_66 rfl ?_
      obtain ⟨x17, e18, hF⟩ := q_bind hF
      refine g_getfR fl_X0_18 e18 dX0_showLine_67 ?_
      refine g_iload_n 2 dX0_showLine_70 rfl ?_
      obtain ⟨x19, e20, hF⟩ := q_bind hF
      refine g_iald e20 dX0_showLine_71 ?_
      cases hF
      exact g_iret dX0_showLine_72 rfl ⟨rfl, rfl, rfl⟩ (Nat.le_of_ble_eq_true rfl) (Nat.le_of_ble_eq_true rfl)
    replace hF := q_f c16 hF
    by_cases c21 : a1 = 4
    · replace hF := q_t c21 hF
      refine g_tabIn (off := 61) 73 dX0_showLine_12 (by rw [c21]; decide) (by rw [c21]; decide) (by rw [c21]; decide) (by decide) ?_
      refine g_aload_n 0 dX0_showLine_73 rfl ?_
      obtain ⟨x22, e23, hF⟩ := q_bind hF
      refine g_getfR fl_X0_21 e23 dX0_showLine_74 ?_
      refine g_iload_n 2 dX0_showLine_77 rfl ?_
      obtain ⟨x24, e25, hF⟩ := q_bind hF
      refine g_iald e25 dX0_showLine_78 ?_
      cases hF
      exact g_iret dX0_showLine_79 rfl ⟨rfl, rfl, rfl⟩ (Nat.le_of_ble_eq_true rfl) (Nat.le_of_ble_eq_true rfl)
    replace hF := q_f c21 hF
    by_cases c26 : a1 = 5
    · replace hF := q_t c26 hF
      refine g_tabIn (off := 68) 80 dX0_showLine_12 (by rw [c26]; decide) (by rw [c26]; decide) (by rw [c26]; decide) (by decide) ?_
      refine g_aload_n 0 dX0_showLine_80 rfl ?_
      refine g_iload_n 2 dX0_showLine_81 rfl ?_
      obtain ⟨u27, e28, hF⟩ := q_bind hF
      obtain ⟨x29, e30, hF⟩ := q_bind hF
      refine g_callVr0 (ci := 0) (q := (RX0, TX0, 15)) qm_X0_nextOf wd_867 wd_868 wd_869 rfl e28 (M_X0_nextOf l b D z nx e30) (As := [.int a2]) rfl rfl (Nat.le_of_ble_eq_true rfl) ⟨(Nat.le_of_ble_eq_true rfl), (Nat.le_of_ble_eq_true rfl)⟩ ⟨rfl, rfl⟩ ⟨(Nat.le_of_ble_eq_true rfl), (Nat.le_of_ble_eq_true rfl)⟩ dX0_showLine_82 ?_
      cases hF
      exact g_iret dX0_showLine_85 rfl ⟨rfl, rfl, rfl⟩ (Nat.le_of_ble_eq_true rfl) (Nat.le_of_ble_eq_true rfl)
    replace hF := q_f c26 hF
    by_cases c31 : a1 = 6
    · replace hF := q_t c31 hF
      refine g_tabIn (off := 74) 86 dX0_showLine_12 (by rw [c31]; decide) (by rw [c31]; decide) (by rw [c31]; decide) (by decide) ?_
      refine g_aload_n 0 dX0_showLine_86 rfl ?_
      refine g_iload_n 2 dX0_showLine_87 rfl ?_
      obtain ⟨u32, e33, hF⟩ := q_bind hF
      obtain ⟨x34, e35, hF⟩ := q_bind hF
      refine g_callVr0 (ci := 0) (q := (RX0, TX0, 15)) qm_X0_howManyFollow wd_790 wd_791 wd_792 rfl e33 (M_X0_howManyFollow l b D z nx e35) (As := [.int a2]) rfl rfl (Nat.le_of_ble_eq_true rfl) ⟨(Nat.le_of_ble_eq_true rfl), (Nat.le_of_ble_eq_true rfl)⟩ ⟨rfl, rfl⟩ ⟨(Nat.le_of_ble_eq_true rfl), (Nat.le_of_ble_eq_true rfl)⟩ dX0_showLine_88 ?_
      cases hF
      exact g_iret dX0_showLine_91 rfl ⟨rfl, rfl, rfl⟩ (Nat.le_of_ble_eq_true rfl) (Nat.le_of_ble_eq_true rfl)
    replace hF := q_f c31 hF
    refine g_tabOut 92 dX0_showLine_12 ?_ (by decide) ?_
    · have t0 := lv_neT (a := 1) c6 (by decide); have t1 := lv_neT (a := 2) c11 (by decide); have t2 := lv_neT (a := 3) c16 (by decide); have t3 := lv_neT (a := 4) c21 (by decide); have t4 := lv_neT (a := 5) c26 (by decide); have t5 := lv_neT (a := 6) c31 (by decide); omega
    refine g_bipush dX0_showLine_92 lt_bipush_m2 ?_
    cases hF
    exact g_iret dX0_showLine_94 rfl ⟨rfl, rfl, rfl⟩ (Nat.le_of_ble_eq_true rfl) (Nat.le_of_ble_eq_true rfl)
  · replace hF := q_t c5 hF
    refine g_bipush dX0_showLine_8 lt_bipush_m2 ?_
    cases hF
    exact g_iret dX0_showLine_10 rfl ⟨rfl, rfl, rfl⟩ (Nat.le_of_ble_eq_true rfl) (Nat.le_of_ble_eq_true rfl)
def rm_X0_show : Room := { frames := 3, cells := 0, slots := 0, locals := 65 }
set_option maxRecDepth 100000 in
set_option maxHeartbeats 4000000 in
theorem J_X0_show_69 (l : Launch) (b : Nat) (D : va_G) (z : Nat → Nat) {nx : Nat} {h : qH} {a0 : Nat} {a1 : Int32} {r : Int32} (hF : j_X0_show_69 h a0 a1  = some r) : Go l b D z yX0_show cX0_show 2 (some .int) rm_X0_show (qE (some (.int r)) h nx) 69 [(0, .ref a0), (1, .int a1)] [] h nx 0 0 := by
  unfold j_X0_show_69 at hF
  refine g_iload_n 1 dX0_show_69 rfl ?_
  by_cases c1 : a1 = 0
  · replace hF := q_t c1 hF
    refine g_tabIn (off := 26) 96 dX0_show_70 (by rw [c1]; decide) (by rw [c1]; decide) (by rw [c1]; decide) (by decide) ?_
    refine g_aload_n 0 dX0_show_96 rfl ?_
    obtain ⟨x2, e3, hF⟩ := q_bind hF
    refine g_getfI fl_X0_45 e3 dX0_show_97 ?_
    cases hF
    exact g_iret dX0_show_100 rfl ⟨rfl, rfl, rfl⟩ (Nat.le_of_ble_eq_true rfl) (Nat.le_of_ble_eq_true rfl)
  replace hF := q_f c1 hF
  by_cases c4 : a1 = 1
  · replace hF := q_t c4 hF
    refine g_tabIn (off := 31) 101 dX0_show_70 (by rw [c4]; decide) (by rw [c4]; decide) (by rw [c4]; decide) (by decide) ?_
    refine g_aload_n 0 dX0_show_101 rfl ?_
    obtain ⟨x5, e6, hF⟩ := q_bind hF
    refine g_getfI fl_X0_52 e6 dX0_show_102 ?_
    cases hF
    exact g_iret dX0_show_105 rfl ⟨rfl, rfl, rfl⟩ (Nat.le_of_ble_eq_true rfl) (Nat.le_of_ble_eq_true rfl)
  replace hF := q_f c4 hF
  by_cases c7 : a1 = 2
  · replace hF := q_t c7 hF
    refine g_tabIn (off := 36) 106 dX0_show_70 (by rw [c7]; decide) (by rw [c7]; decide) (by rw [c7]; decide) (by decide) ?_
    refine g_aload_n 0 dX0_show_106 rfl ?_
    obtain ⟨x8, e9, hF⟩ := q_bind hF
    refine g_getfI fl_X0_55 e9 dX0_show_107 ?_
    cases hF
    exact g_iret dX0_show_110 rfl ⟨rfl, rfl, rfl⟩ (Nat.le_of_ble_eq_true rfl) (Nat.le_of_ble_eq_true rfl)
  replace hF := q_f c7 hF
  refine g_tabOut 111 dX0_show_70 ?_ (by decide) ?_
  · have t0 := lv_neT (a := 0) c1 (by decide); have t1 := lv_neT (a := 1) c4 (by decide); have t2 := lv_neT (a := 2) c7 (by decide); omega
  refine g_bipush dX0_show_111 lt_bipush_m2 ?_
  cases hF
  exact g_iret dX0_show_113 rfl ⟨rfl, rfl, rfl⟩ (Nat.le_of_ble_eq_true rfl) (Nat.le_of_ble_eq_true rfl)
set_option maxRecDepth 100000 in
set_option maxHeartbeats 4000000 in
theorem J_X0_show_40 (l : Launch) (b : Nat) (D : va_G) (z : Nat → Nat) {nx : Nat} {h : qH} {a0 : Nat} {a1 : Int32} {r : Int32} (hF : j_X0_show_40 h a0 a1  = some r) : Go l b D z yX0_show cX0_show 2 (some .int) rm_X0_show (qE (some (.int r)) h nx) 40 [(0, .ref a0), (1, .int a1)] [] h nx 0 0 := by
  unfold j_X0_show_40 at hF
  refine g_iload_n 1 dX0_show_40 rfl ?_
  refine g_bipush dX0_show_41 lt_bipush_20 ?_
  refine g_icmp_lt 69 dX0_show_43 (by decide) (fun c1 => ?_) (fun c1 => ?_)
  · replace hF := q_t c1 hF
    exact J_X0_show_69 l b D z hF
  · replace hF := q_f c1 hF
    refine g_iload_n 1 dX0_show_46 rfl ?_
    refine g_bipush dX0_show_47 lt_bipush_26 ?_
    refine g_icmp_ge 69 dX0_show_49 (by decide) (fun c2 => ?_) (fun c2 => ?_)
    · replace hF := q_t c2 hF
      exact J_X0_show_69 l b D z hF
    · replace hF := q_f c2 hF
      refine g_aload_n 0 dX0_show_52 rfl ?_
      refine g_iload_n 1 dX0_show_53 rfl ?_
      refine g_bipush dX0_show_54 lt_bipush_20 ?_
      refine g_isub dX0_show_56 ?_
      obtain ⟨u3, e4, hF⟩ := q_bind hF
      obtain ⟨x5, e6, hF⟩ := q_bind hF
      refine g_callVr0 (ci := 0) (q := (RX0, TX0, 15)) qm_X0_isChild wd_774 wd_775 wd_776 rfl e4 (M_X0_isChild l b D z nx e6) (As := [.int (a1 - (20 : Int32))]) rfl rfl (Nat.le_of_ble_eq_true rfl) ⟨(Nat.le_of_ble_eq_true rfl), (Nat.le_of_ble_eq_true rfl)⟩ ⟨rfl, rfl⟩ ⟨(Nat.le_of_ble_eq_true rfl), (Nat.le_of_ble_eq_true rfl)⟩ dX0_show_57 ?_
      refine g_if_eq 67 dX0_show_60 (by decide) (fun c7 => ?_) (fun c7 => ?_)
      · replace hF := q_t c7 hF
        refine g_iconst dX0_show_67 lt_iconst_0 ?_
        cases hF
        exact g_iret dX0_show_68 rfl ⟨rfl, rfl, rfl⟩ (Nat.le_of_ble_eq_true rfl) (Nat.le_of_ble_eq_true rfl)
      · replace hF := q_f c7 hF
        refine g_iconst dX0_show_63 lt_iconst_1 ?_
        refine g_goto 68 dX0_show_64 (by decide) ?_
        cases hF
        exact g_iret dX0_show_68 rfl ⟨rfl, rfl, rfl⟩ (Nat.le_of_ble_eq_true rfl) (Nat.le_of_ble_eq_true rfl)
set_option maxRecDepth 100000 in
set_option maxHeartbeats 4000000 in
theorem M_X0_show (l : Launch) (b : Nat) (D : va_G) (z : Nat → Nat) (nx : Nat) {h : qH} {a0 : Nat} {a1 : Int32} {r : Int32} (hF : F_X0_show h a0 a1 = some r) : Me l b D z yX0_show cX0_show 2 (some .int) rm_X0_show [.ref a0, .int a1] h nx (qE (some (.int r)) h nx) := by
  refine Me.of (by decide +kernel) (Nat.le_of_ble_eq_true rfl) ?_
  show Go l b D z yX0_show cX0_show 2 (some .int) rm_X0_show (qE (some (.int r)) h nx) 0 [(0, .ref a0), (1, .int a1)] [] h nx 0 0
  unfold F_X0_show at hF
  refine g_iload_n 1 dX0_show_0 rfl ?_
  refine g_bipush dX0_show_1 lt_bipush_100 ?_
  refine g_icmp_lt 19 dX0_show_3 (by decide) (fun c1 => ?_) (fun c1 => ?_)
  · replace hF := q_t c1 hF
    refine g_iload_n 1 dX0_show_19 rfl ?_
    refine g_bipush dX0_show_20 lt_bipush_10 ?_
    refine g_icmp_lt 40 dX0_show_22 (by decide) (fun c2 => ?_) (fun c2 => ?_)
    · replace hF := q_t c2 hF
      exact J_X0_show_40 l b D z hF
    · replace hF := q_f c2 hF
      refine g_iload_n 1 dX0_show_25 rfl ?_
      refine g_bipush dX0_show_26 lt_bipush_16 ?_
      refine g_icmp_ge 40 dX0_show_28 (by decide) (fun c3 => ?_) (fun c3 => ?_)
      · replace hF := q_t c3 hF
        exact J_X0_show_40 l b D z hF
      · replace hF := q_f c3 hF
        refine g_aload_n 0 dX0_show_31 rfl ?_
        refine g_iload_n 1 dX0_show_32 rfl ?_
        refine g_bipush dX0_show_33 lt_bipush_10 ?_
        refine g_isub dX0_show_35 ?_
        obtain ⟨u4, e5, hF⟩ := q_bind hF
        obtain ⟨x6, e7, hF⟩ := q_bind hF
        refine g_callVr0 (ci := 0) (q := (RX0, TX0, 15)) qm_X0_driesOf wd_871 wd_872 wd_873 rfl e5 (M_X0_driesOf l b D z nx e7) (As := [.int (a1 - (10 : Int32))]) rfl rfl (Nat.le_of_ble_eq_true rfl) ⟨(Nat.le_of_ble_eq_true rfl), (Nat.le_of_ble_eq_true rfl)⟩ ⟨rfl, rfl⟩ ⟨(Nat.le_of_ble_eq_true rfl), (Nat.le_of_ble_eq_true rfl)⟩ dX0_show_36 ?_
        cases hF
        exact g_iret dX0_show_39 rfl ⟨rfl, rfl, rfl⟩ (Nat.le_of_ble_eq_true rfl) (Nat.le_of_ble_eq_true rfl)
  · replace hF := q_f c1 hF
    refine g_aload_n 0 dX0_show_6 rfl ?_
    refine g_iload_n 1 dX0_show_7 rfl ?_
    refine g_bipush dX0_show_8 lt_bipush_100 ?_
    refine g_idiv dX0_show_10 (by decide) ?_
    refine g_iload_n 1 dX0_show_11 rfl ?_
    refine g_bipush dX0_show_12 lt_bipush_100 ?_
    refine g_irem dX0_show_14 (by decide) ?_
    obtain ⟨u8, e9, hF⟩ := q_bind hF
    obtain ⟨x10, e11, hF⟩ := q_bind hF
    refine g_callVr0 (ci := 0) (q := (RX0, TX0, 15)) qm_X0_showLine wd_863 wd_865 wd_22 rfl e9 (M_X0_showLine l b D z nx e11) (As := [.int (a1 / (100 : Int32)), .int (q_rem a1 (100 : Int32))]) rfl rfl (Nat.le_of_ble_eq_true rfl) ⟨(Nat.le_of_ble_eq_true rfl), (Nat.le_of_ble_eq_true rfl)⟩ ⟨rfl, rfl⟩ ⟨(Nat.le_of_ble_eq_true rfl), (Nat.le_of_ble_eq_true rfl)⟩ dX0_show_15 ?_
    cases hF
    exact g_iret dX0_show_18 rfl ⟨rfl, rfl, rfl⟩ (Nat.le_of_ble_eq_true rfl) (Nat.le_of_ble_eq_true rfl)
def rm_X0_nextWithout : Room := { frames := 2, cells := 0, slots := 0, locals := 43 }
set_option maxRecDepth 100000 in
set_option maxHeartbeats 4000000 in
theorem M_X0_nextWithout (l : Launch) (b : Nat) (D : va_G) (z : Nat → Nat) (nx : Nat) {h : qH} {a0 : Nat} {a1 : Int32} {a2 : Int32} {r : Int32} (hF : F_X0_nextWithout h a0 a1 a2 = some r) : Me l b D z yX0_nextWithout cX0_nextWithout 4 (some .int) rm_X0_nextWithout [.ref a0, .int a1, .int a2] h nx (qE (some (.int r)) h nx) := by
  refine Me.of (by decide +kernel) (Nat.le_of_ble_eq_true rfl) ?_
  show Go l b D z yX0_nextWithout cX0_nextWithout 4 (some .int) rm_X0_nextWithout (qE (some (.int r)) h nx) 0 [(0, .ref a0), (1, .int a1), (2, .int a2)] [] h nx 0 0
  unfold F_X0_nextWithout at hF
  refine g_aload_n 0 dX0_nextWithout_0 rfl ?_
  refine g_iload_n 1 dX0_nextWithout_1 rfl ?_
  obtain ⟨u1, e2, hF⟩ := q_bind hF
  obtain ⟨x3, e4, hF⟩ := q_bind hF
  refine g_callVr0 (ci := 0) (q := (RX0, TX0, 15)) qm_X0_nextOf wd_867 wd_868 wd_869 rfl e2 (M_X0_nextOf l b D z nx e4) (As := [.int a1]) rfl rfl (Nat.le_of_ble_eq_true rfl) ⟨(Nat.le_of_ble_eq_true rfl), (Nat.le_of_ble_eq_true rfl)⟩ ⟨rfl, rfl⟩ ⟨(Nat.le_of_ble_eq_true rfl), (Nat.le_of_ble_eq_true rfl)⟩ dX0_nextWithout_2 ?_
  refine g_istore_n [(3, .int x3), (0, .ref a0), (1, .int a1), (2, .int a2)] dX0_nextWithout_5 (Nat.le_of_ble_eq_true rfl) rfl ?_
  refine g_iload_n 0 dX0_nextWithout_6 rfl ?_
  refine g_iconst dX0_nextWithout_7 lt_iconst_m1 ?_
  refine g_icmp_eq 25 dX0_nextWithout_8 (by decide) (fun c5 => ?_) (fun c5 => ?_)
  · replace hF := q_t c5 hF
    refine g_iload_n 0 dX0_nextWithout_25 rfl ?_
    cases hF
    exact g_iret dX0_nextWithout_26 rfl ⟨rfl, rfl, rfl⟩ (Nat.le_of_ble_eq_true rfl) (Nat.le_of_ble_eq_true rfl)
  · replace hF := q_f c5 hF
    refine g_iload_n 0 dX0_nextWithout_11 rfl ?_
    refine g_iload_n 3 dX0_nextWithout_12 rfl ?_
    refine g_icmp_ne 25 dX0_nextWithout_13 (by decide) (fun c6 => ?_) (fun c6 => ?_)
    · replace hF := q_f c6 hF
      refine g_iload_n 0 dX0_nextWithout_25 rfl ?_
      cases hF
      exact g_iret dX0_nextWithout_26 rfl ⟨rfl, rfl, rfl⟩ (Nat.le_of_ble_eq_true rfl) (Nat.le_of_ble_eq_true rfl)
    · replace hF := q_t c6 hF
      refine g_aload_n 1 dX0_nextWithout_16 rfl ?_
      refine g_iload_n 2 dX0_nextWithout_17 rfl ?_
      refine g_iconst dX0_nextWithout_18 lt_iconst_1 ?_
      obtain ⟨u7, e8, hF⟩ := q_bind hF
      obtain ⟨x9, e10, hF⟩ := q_bind hF
      refine g_callVr0 (ci := 0) (q := (RX0, TX0, 15)) qm_X0_following wd_794 wd_795 wd_796 rfl e8 (M_X0_following l b D z nx e10) (As := [.int a1, .int (1 : Int32)]) rfl rfl (Nat.le_of_ble_eq_true rfl) ⟨(Nat.le_of_ble_eq_true rfl), (Nat.le_of_ble_eq_true rfl)⟩ ⟨rfl, rfl⟩ ⟨(Nat.le_of_ble_eq_true rfl), (Nat.le_of_ble_eq_true rfl)⟩ dX0_nextWithout_19 ?_
      refine g_goto 26 dX0_nextWithout_22 (by decide) ?_
      cases hF
      exact g_iret dX0_nextWithout_26 rfl ⟨rfl, rfl, rfl⟩ (Nat.le_of_ble_eq_true rfl) (Nat.le_of_ble_eq_true rfl)
def rm_X0_lengthWithout : Room := { frames := 3, cells := 0, slots := 0, locals := 66 }
set_option maxRecDepth 100000 in
set_option maxHeartbeats 4000000 in
theorem B_X0_lengthWithout_19 (l : Launch) (b : Nat) (D : va_G) (z : Nat → Nat) {Φ : Option Value → qH → Nat → Prop} {nx : Nat} {h : qH} {a0 : Nat} {a1 : Int32} {a2 : Int32} {a3 : Int32} {a4 : Int32} {o : (Int32 × Int32 × Int32) ⊕ Int32} (hF : b_X0_lengthWithout_19 h a0 a1 a2 a3 a4 = some o) (hback : ∀ (b2 : Int32) (b3 : Int32) (b4 : Int32), o = .inl (b2, b3, b4) → Go l b D z yX0_lengthWithout cX0_lengthWithout 5 (some .int) rm_X0_lengthWithout Φ 19 [(0, .ref a0), (1, .int a1), (2, .int b2), (3, .int b3), (4, .int b4)] [] h nx 0 0) (hx0 : ∀ (b4 : Int32), o = .inr b4 → Go l b D z yX0_lengthWithout cX0_lengthWithout 5 (some .int) rm_X0_lengthWithout Φ 61 [(4, .int b4)] [] h nx 0 0) : Go l b D z yX0_lengthWithout cX0_lengthWithout 5 (some .int) rm_X0_lengthWithout Φ 19 [(0, .ref a0), (1, .int a1), (2, .int a2), (3, .int a3), (4, .int a4)] [] h nx 0 0 := by
  unfold b_X0_lengthWithout_19 at hF
  refine g_iload 4 dX0_lengthWithout_19 rfl ?_
  refine g_bipush dX0_lengthWithout_21 lt_bipush_20 ?_
  refine g_icmp_ge 61 dX0_lengthWithout_23 (by decide) (fun c1 => ?_) (fun c1 => ?_)
  · replace hF := q_t c1 hF
    cases hF
    refine g_sub [4] rfl ?_
    exact hx0 _ rfl
  · replace hF := q_f c1 hF
    refine g_aload_n 0 dX0_lengthWithout_26 rfl ?_
    refine g_iload_n 3 dX0_lengthWithout_27 rfl ?_
    obtain ⟨u2, e3, hF⟩ := q_bind hF
    obtain ⟨x4, e5, hF⟩ := q_bind hF
    refine g_callVr0 (ci := 0) (q := (RX0, TX0, 15)) qm_X0_has wd_782 wd_783 wd_784 rfl e3 (M_X0_has l b D z nx e5) (As := [.int a3]) rfl rfl (Nat.le_of_ble_eq_true rfl) ⟨(Nat.le_of_ble_eq_true rfl), (Nat.le_of_ble_eq_true rfl)⟩ ⟨rfl, rfl⟩ ⟨(Nat.le_of_ble_eq_true rfl), (Nat.le_of_ble_eq_true rfl)⟩ dX0_lengthWithout_28 ?_
    refine g_if_eq 61 dX0_lengthWithout_31 (by decide) (fun c6 => ?_) (fun c6 => ?_)
    · replace hF := q_t c6 hF
      cases hF
      refine g_sub [4] rfl ?_
      exact hx0 _ rfl
    · replace hF := q_f c6 hF
      refine g_iload_n 2 dX0_lengthWithout_34 rfl ?_
      refine g_iload_n 3 dX0_lengthWithout_35 rfl ?_
      refine g_ishr dX0_lengthWithout_36 ?_
      refine g_iconst dX0_lengthWithout_37 lt_iconst_1 ?_
      refine g_iand dX0_lengthWithout_38 ?_
      refine g_if_ne 61 dX0_lengthWithout_39 (by decide) (fun c7 => ?_) (fun c7 => ?_)
      · replace hF := q_f c7 hF
        cases hF
        refine g_sub [4] rfl ?_
        exact hx0 _ rfl
      · replace hF := q_t c7 hF
        refine g_iload_n 2 dX0_lengthWithout_42 rfl ?_
        refine g_iconst dX0_lengthWithout_43 lt_iconst_1 ?_
        refine g_iload_n 3 dX0_lengthWithout_44 rfl ?_
        refine g_ishl dX0_lengthWithout_45 ?_
        refine g_ior dX0_lengthWithout_46 ?_
        refine g_istore_n [(2, .int (a2 ||| (q_shl (1 : Int32) a3))), (0, .ref a0), (1, .int a1), (3, .int a3), (4, .int a4)] dX0_lengthWithout_47 (Nat.le_of_ble_eq_true rfl) rfl ?_
        refine g_iinc [(4, .int (a4 + 1)), (2, .int (a2 ||| (q_shl (1 : Int32) a3))), (0, .ref a0), (1, .int a1), (3, .int a3)] 4 dX0_lengthWithout_48 rfl (congrArg (a4 + ·) lt_iconst_1) (Nat.le_of_ble_eq_true rfl) rfl ?_
        refine g_aload_n 2 dX0_lengthWithout_51 rfl ?_
        refine g_iload_n 4 dX0_lengthWithout_52 rfl ?_
        refine g_iload_n 3 dX0_lengthWithout_53 rfl ?_
        obtain ⟨u8, e9, hF⟩ := q_bind hF
        obtain ⟨x10, e11, hF⟩ := q_bind hF
        refine g_callVr0 (ci := 0) (q := (RX0, TX0, 15)) qm_X0_nextWithout wd_1095 wd_1097 wd_43 rfl e9 (M_X0_nextWithout l b D z nx e11) (As := [.int a3, .int a1]) rfl rfl (Nat.le_of_ble_eq_true rfl) ⟨(Nat.le_of_ble_eq_true rfl), (Nat.le_of_ble_eq_true rfl)⟩ ⟨rfl, rfl⟩ ⟨(Nat.le_of_ble_eq_true rfl), (Nat.le_of_ble_eq_true rfl)⟩ dX0_lengthWithout_54 ?_
        refine g_istore_n [(3, .int x10), (4, .int (a4 + 1)), (2, .int (a2 ||| (q_shl (1 : Int32) a3))), (0, .ref a0), (1, .int a1)] dX0_lengthWithout_57 (Nat.le_of_ble_eq_true rfl) rfl ?_
        refine g_goto 19 dX0_lengthWithout_58 (by decide) ?_
        cases hF
        refine g_sub [3, 4, 2, 0, 1] rfl ?_
        exact hback _ _ _ rfl
set_option maxRecDepth 100000 in
set_option maxHeartbeats 4000000 in
theorem L_X0_lengthWithout_19 (l : Launch) (b : Nat) (D : va_G) (z : Nat → Nat) {Φ : Option Value → qH → Nat → Prop} {nx : Nat} {h : qH} {a0 : Nat} {a1 : Int32} : ∀ (n : Nat) (a2 : Int32) (a3 : Int32) (a4 : Int32) (e : Int32), q_lp (s_X0_lengthWithout_19 h a0 a1) n (a2, a3, a4) = some e → (∀ (b4 : Int32), e = b4 → Go l b D z yX0_lengthWithout cX0_lengthWithout 5 (some .int) rm_X0_lengthWithout Φ 61 [(4, .int b4)] [] h nx 0 0) → Go l b D z yX0_lengthWithout cX0_lengthWithout 5 (some .int) rm_X0_lengthWithout Φ 19 [(0, .ref a0), (1, .int a1), (2, .int a2), (3, .int a3), (4, .int a4)] [] h nx 0 0 := by
  intro n
  induction n with
  | zero => intro a2 a3 a4 e he; cases (show none = some e from he)
  | succ n ih =>
    intro a2 a3 a4 e he hx0
    obtain ⟨o, ho, h1, h2⟩ := q_lp_succ he
    exact B_X0_lengthWithout_19 l b D z (show b_X0_lengthWithout_19 h a0 a1 a2 a3 a4 = some o from ho) (fun b2 b3 b4 hb => ih _ _ _ e (h1 _ hb) hx0) (fun p0 hr => hx0 p0 (h2 _ hr).symm)
set_option maxRecDepth 100000 in
set_option maxHeartbeats 4000000 in
theorem J_X0_lengthWithout_15 (l : Launch) (b : Nat) (D : va_G) (z : Nat → Nat) {nx : Nat} {h : qH} {a0 : Nat} {a1 : Int32} {a2 : Int32} {t0 : Int32} {r : Int32} (hF : j_X0_lengthWithout_15 h a0 a1 a2 t0 = some r) : Go l b D z yX0_lengthWithout cX0_lengthWithout 5 (some .int) rm_X0_lengthWithout (qE (some (.int r)) h nx) 15 [(0, .ref a0), (1, .int a1), (2, .int a2)] [.int t0] h nx 0 0 := by
  unfold j_X0_lengthWithout_15 at hF
  refine g_istore_n [(3, .int t0), (0, .ref a0), (1, .int a1), (2, .int a2)] dX0_lengthWithout_15 (Nat.le_of_ble_eq_true rfl) rfl ?_
  refine g_iconst dX0_lengthWithout_16 lt_iconst_0 ?_
  refine g_istore [(4, .int (0 : Int32)), (3, .int t0), (0, .ref a0), (1, .int a1), (2, .int a2)] dX0_lengthWithout_17 (Nat.le_of_ble_eq_true rfl) rfl ?_
  obtain ⟨e1, w2, hF⟩ := q_bind hF
  refine g_sub [2, 3, 4, 1, 0] rfl ?_
  refine L_X0_lengthWithout_19 l b D z q_N a2 t0 (0 : Int32) e1 w2 ?_
  · intro o3 w4
    replace w4 := w4.symm
    subst w4
    refine g_iload 0 dX0_lengthWithout_61 rfl ?_
    cases hF
    exact g_iret dX0_lengthWithout_63 rfl ⟨rfl, rfl, rfl⟩ (Nat.le_of_ble_eq_true rfl) (Nat.le_of_ble_eq_true rfl)
set_option maxRecDepth 100000 in
set_option maxHeartbeats 4000000 in
theorem M_X0_lengthWithout (l : Launch) (b : Nat) (D : va_G) (z : Nat → Nat) (nx : Nat) {h : qH} {a0 : Nat} {a1 : Int32} {r : Int32} (hF : F_X0_lengthWithout h a0 a1 = some r) : Me l b D z yX0_lengthWithout cX0_lengthWithout 5 (some .int) rm_X0_lengthWithout [.ref a0, .int a1] h nx (qE (some (.int r)) h nx) := by
  refine Me.of (by decide +kernel) (Nat.le_of_ble_eq_true rfl) ?_
  show Go l b D z yX0_lengthWithout cX0_lengthWithout 5 (some .int) rm_X0_lengthWithout (qE (some (.int r)) h nx) 0 [(0, .ref a0), (1, .int a1)] [] h nx 0 0
  unfold F_X0_lengthWithout at hF
  refine g_iconst dX0_lengthWithout_0 lt_iconst_0 ?_
  refine g_istore_n [(2, .int (0 : Int32)), (0, .ref a0), (1, .int a1)] dX0_lengthWithout_1 (Nat.le_of_ble_eq_true rfl) rfl ?_
  refine g_aload_n 1 dX0_lengthWithout_2 rfl ?_
  refine g_iconst dX0_lengthWithout_3 lt_iconst_0 ?_
  obtain ⟨u1, e2, hF⟩ := q_bind hF
  obtain ⟨x3, e4, hF⟩ := q_bind hF
  refine g_callVr0 (ci := 0) (q := (RX0, TX0, 15)) qm_X0_has wd_782 wd_783 wd_784 rfl e2 (M_X0_has l b D z nx e4) (As := [.int (0 : Int32)]) rfl rfl (Nat.le_of_ble_eq_true rfl) ⟨(Nat.le_of_ble_eq_true rfl), (Nat.le_of_ble_eq_true rfl)⟩ ⟨rfl, rfl⟩ ⟨(Nat.le_of_ble_eq_true rfl), (Nat.le_of_ble_eq_true rfl)⟩ dX0_lengthWithout_4 ?_
  refine g_if_eq 14 dX0_lengthWithout_7 (by decide) (fun c5 => ?_) (fun c5 => ?_)
  · replace hF := q_t c5 hF
    refine g_iconst dX0_lengthWithout_14 lt_iconst_m1 ?_
    refine g_sub [1, 2, 0] rfl ?_
    exact J_X0_lengthWithout_15 l b D z hF
  · replace hF := q_f c5 hF
    refine g_iconst dX0_lengthWithout_10 lt_iconst_0 ?_
    refine g_goto 15 dX0_lengthWithout_11 (by decide) ?_
    refine g_sub [1, 2, 0] rfl ?_
    exact J_X0_lengthWithout_15 l b D z hF
def rm_X0_lengthOfLoop : Room := { frames := 2, cells := 0, slots := 0, locals := 43 }
set_option maxRecDepth 100000 in
set_option maxHeartbeats 4000000 in
theorem B_X0_lengthOfLoop_16 (l : Launch) (b : Nat) (D : va_G) (z : Nat → Nat) {Φ : Option Value → qH → Nat → Prop} {nx : Nat} {h : qH} {a0 : Nat} {a1 : Int32} {a2 : Int32} {o : (Int32 × Int32) ⊕ Int32} (hF : b_X0_lengthOfLoop_16 h a0 a1 a2 = some o) (hback : ∀ (b1 : Int32) (b2 : Int32), o = .inl (b1, b2) → Go l b D z yX0_lengthOfLoop cX0_lengthOfLoop 4 (some .int) rm_X0_lengthOfLoop Φ 16 [(0, .ref a0), (1, .int b1), (2, .int b2)] [] h nx 0 0) (hx0 : ∀ (b1 : Int32), o = .inr b1 → Go l b D z yX0_lengthOfLoop cX0_lengthOfLoop 4 (some .int) rm_X0_lengthOfLoop Φ 34 [(0, .ref a0), (1, .int b1)] [] h nx 0 0) : Go l b D z yX0_lengthOfLoop cX0_lengthOfLoop 4 (some .int) rm_X0_lengthOfLoop Φ 16 [(0, .ref a0), (1, .int a1), (2, .int a2)] [] h nx 0 0 := by
  unfold b_X0_lengthOfLoop_16 at hF
  refine g_iload_n 2 dX0_lengthOfLoop_16 rfl ?_
  refine g_bipush dX0_lengthOfLoop_17 lt_bipush_20 ?_
  refine g_icmp_ge 34 dX0_lengthOfLoop_19 (by decide) (fun c1 => ?_) (fun c1 => ?_)
  · replace hF := q_t c1 hF
    cases hF
    refine g_sub [0, 1] rfl ?_
    exact hx0 _ rfl
  · replace hF := q_f c1 hF
    refine g_aload_n 0 dX0_lengthOfLoop_22 rfl ?_
    refine g_iload_n 1 dX0_lengthOfLoop_23 rfl ?_
    obtain ⟨u2, e3, hF⟩ := q_bind hF
    obtain ⟨x4, e5, hF⟩ := q_bind hF
    refine g_callVr0 (ci := 0) (q := (RX0, TX0, 15)) qm_X0_nextOf wd_867 wd_868 wd_869 rfl e3 (M_X0_nextOf l b D z nx e5) (As := [.int a1]) rfl rfl (Nat.le_of_ble_eq_true rfl) ⟨(Nat.le_of_ble_eq_true rfl), (Nat.le_of_ble_eq_true rfl)⟩ ⟨rfl, rfl⟩ ⟨(Nat.le_of_ble_eq_true rfl), (Nat.le_of_ble_eq_true rfl)⟩ dX0_lengthOfLoop_24 ?_
    refine g_istore_n [(1, .int x4), (0, .ref a0), (2, .int a2)] dX0_lengthOfLoop_27 (Nat.le_of_ble_eq_true rfl) rfl ?_
    refine g_iinc [(2, .int (a2 + 1)), (1, .int x4), (0, .ref a0)] 2 dX0_lengthOfLoop_28 rfl (congrArg (a2 + ·) lt_iconst_1) (Nat.le_of_ble_eq_true rfl) rfl ?_
    refine g_goto 16 dX0_lengthOfLoop_31 (by decide) ?_
    cases hF
    refine g_sub [2, 1, 0] rfl ?_
    exact hback _ _ rfl
set_option maxRecDepth 100000 in
set_option maxHeartbeats 4000000 in
theorem L_X0_lengthOfLoop_16 (l : Launch) (b : Nat) (D : va_G) (z : Nat → Nat) {Φ : Option Value → qH → Nat → Prop} {nx : Nat} {h : qH} {a0 : Nat} : ∀ (n : Nat) (a1 : Int32) (a2 : Int32) (e : Int32), q_lp (s_X0_lengthOfLoop_16 h a0) n (a1, a2) = some e → (∀ (b1 : Int32), e = b1 → Go l b D z yX0_lengthOfLoop cX0_lengthOfLoop 4 (some .int) rm_X0_lengthOfLoop Φ 34 [(0, .ref a0), (1, .int b1)] [] h nx 0 0) → Go l b D z yX0_lengthOfLoop cX0_lengthOfLoop 4 (some .int) rm_X0_lengthOfLoop Φ 16 [(0, .ref a0), (1, .int a1), (2, .int a2)] [] h nx 0 0 := by
  intro n
  induction n with
  | zero => intro a1 a2 e he; cases (show none = some e from he)
  | succ n ih =>
    intro a1 a2 e he hx0
    obtain ⟨o, ho, h1, h2⟩ := q_lp_succ he
    exact B_X0_lengthOfLoop_16 l b D z (show b_X0_lengthOfLoop_16 h a0 a1 a2 = some o from ho) (fun b1 b2 hb => ih _ _ e (h1 _ hb) hx0) (fun p0 hr => hx0 p0 (h2 _ hr).symm)
set_option maxRecDepth 100000 in
set_option maxHeartbeats 4000000 in
theorem B_X0_lengthOfLoop_52 (l : Launch) (b : Nat) (D : va_G) (z : Nat → Nat) {Φ : Option Value → qH → Nat → Prop} {nx : Nat} {h : qH} {a0 : Nat} {a1 : Int32} {a2 : Int32} {a3 : Int32} {o : (Int32 × Int32) ⊕ Int32} (hF : b_X0_lengthOfLoop_52 h a0 a1 a2 a3 = some o) (hback : ∀ (b2 : Int32) (b3 : Int32), o = .inl (b2, b3) → Go l b D z yX0_lengthOfLoop cX0_lengthOfLoop 4 (some .int) rm_X0_lengthOfLoop Φ 52 [(0, .ref a0), (1, .int a1), (2, .int b2), (3, .int b3)] [] h nx 0 0) (hx0 : ∀ (b3 : Int32), o = .inr b3 → Go l b D z yX0_lengthOfLoop cX0_lengthOfLoop 4 (some .int) rm_X0_lengthOfLoop Φ 75 [(3, .int b3)] [] h nx 0 0) : Go l b D z yX0_lengthOfLoop cX0_lengthOfLoop 4 (some .int) rm_X0_lengthOfLoop Φ 52 [(0, .ref a0), (1, .int a1), (2, .int a2), (3, .int a3)] [] h nx 0 0 := by
  unfold b_X0_lengthOfLoop_52 at hF
  refine g_iload_n 2 dX0_lengthOfLoop_52 rfl ?_
  refine g_iload_n 1 dX0_lengthOfLoop_53 rfl ?_
  refine g_icmp_eq 75 dX0_lengthOfLoop_54 (by decide) (fun c1 => ?_) (fun c1 => ?_)
  · replace hF := q_t c1 hF
    cases hF
    refine g_sub [3] rfl ?_
    exact hx0 _ rfl
  · replace hF := q_f c1 hF
    refine g_iload_n 3 dX0_lengthOfLoop_57 rfl ?_
    refine g_bipush dX0_lengthOfLoop_58 lt_bipush_20 ?_
    refine g_icmp_ge 75 dX0_lengthOfLoop_60 (by decide) (fun c2 => ?_) (fun c2 => ?_)
    · replace hF := q_t c2 hF
      cases hF
      refine g_sub [3] rfl ?_
      exact hx0 _ rfl
    · replace hF := q_f c2 hF
      refine g_aload_n 0 dX0_lengthOfLoop_63 rfl ?_
      refine g_iload_n 2 dX0_lengthOfLoop_64 rfl ?_
      obtain ⟨u3, e4, hF⟩ := q_bind hF
      obtain ⟨x5, e6, hF⟩ := q_bind hF
      refine g_callVr0 (ci := 0) (q := (RX0, TX0, 15)) qm_X0_nextOf wd_867 wd_868 wd_869 rfl e4 (M_X0_nextOf l b D z nx e6) (As := [.int a2]) rfl rfl (Nat.le_of_ble_eq_true rfl) ⟨(Nat.le_of_ble_eq_true rfl), (Nat.le_of_ble_eq_true rfl)⟩ ⟨rfl, rfl⟩ ⟨(Nat.le_of_ble_eq_true rfl), (Nat.le_of_ble_eq_true rfl)⟩ dX0_lengthOfLoop_65 ?_
      refine g_istore_n [(2, .int x5), (0, .ref a0), (1, .int a1), (3, .int a3)] dX0_lengthOfLoop_68 (Nat.le_of_ble_eq_true rfl) rfl ?_
      refine g_iinc [(3, .int (a3 + 1)), (2, .int x5), (0, .ref a0), (1, .int a1)] 3 dX0_lengthOfLoop_69 rfl (congrArg (a3 + ·) lt_iconst_1) (Nat.le_of_ble_eq_true rfl) rfl ?_
      refine g_goto 52 dX0_lengthOfLoop_72 (by decide) ?_
      cases hF
      refine g_sub [2, 3, 1, 0] rfl ?_
      exact hback _ _ rfl
set_option maxRecDepth 100000 in
set_option maxHeartbeats 4000000 in
theorem L_X0_lengthOfLoop_52 (l : Launch) (b : Nat) (D : va_G) (z : Nat → Nat) {Φ : Option Value → qH → Nat → Prop} {nx : Nat} {h : qH} {a0 : Nat} {a1 : Int32} : ∀ (n : Nat) (a2 : Int32) (a3 : Int32) (e : Int32), q_lp (s_X0_lengthOfLoop_52 h a0 a1) n (a2, a3) = some e → (∀ (b3 : Int32), e = b3 → Go l b D z yX0_lengthOfLoop cX0_lengthOfLoop 4 (some .int) rm_X0_lengthOfLoop Φ 75 [(3, .int b3)] [] h nx 0 0) → Go l b D z yX0_lengthOfLoop cX0_lengthOfLoop 4 (some .int) rm_X0_lengthOfLoop Φ 52 [(0, .ref a0), (1, .int a1), (2, .int a2), (3, .int a3)] [] h nx 0 0 := by
  intro n
  induction n with
  | zero => intro a2 a3 e he; cases (show none = some e from he)
  | succ n ih =>
    intro a2 a3 e he hx0
    obtain ⟨o, ho, h1, h2⟩ := q_lp_succ he
    exact B_X0_lengthOfLoop_52 l b D z (show b_X0_lengthOfLoop_52 h a0 a1 a2 a3 = some o from ho) (fun b2 b3 hb => ih _ _ e (h1 _ hb) hx0) (fun p0 hr => hx0 p0 (h2 _ hr).symm)
set_option maxRecDepth 100000 in
set_option maxHeartbeats 4000000 in
theorem J_X0_lengthOfLoop_13 (l : Launch) (b : Nat) (D : va_G) (z : Nat → Nat) {nx : Nat} {h : qH} {a0 : Nat} {t0 : Int32} {r : Int32} (hF : j_X0_lengthOfLoop_13 h a0 t0 = some r) : Go l b D z yX0_lengthOfLoop cX0_lengthOfLoop 4 (some .int) rm_X0_lengthOfLoop (qE (some (.int r)) h nx) 13 [(0, .ref a0)] [.int t0] h nx 0 0 := by
  unfold j_X0_lengthOfLoop_13 at hF
  refine g_istore_n [(1, .int t0), (0, .ref a0)] dX0_lengthOfLoop_13 (Nat.le_of_ble_eq_true rfl) rfl ?_
  refine g_iconst dX0_lengthOfLoop_14 lt_iconst_0 ?_
  refine g_istore_n [(2, .int (0 : Int32)), (1, .int t0), (0, .ref a0)] dX0_lengthOfLoop_15 (Nat.le_of_ble_eq_true rfl) rfl ?_
  obtain ⟨e1, w2, hF⟩ := q_bind hF
  refine g_sub [2, 1, 0] rfl ?_
  refine L_X0_lengthOfLoop_16 l b D z q_N t0 (0 : Int32) e1 w2 ?_
  · intro o3 w4
    replace w4 := w4.symm
    subst w4
    refine g_aload_n 0 dX0_lengthOfLoop_34 rfl ?_
    refine g_iload_n 1 dX0_lengthOfLoop_35 rfl ?_
    obtain ⟨u5, e6, hF⟩ := q_bind hF
    obtain ⟨x7, e8, hF⟩ := q_bind hF
    refine g_callVr0 (ci := 0) (q := (RX0, TX0, 15)) qm_X0_has wd_782 wd_783 wd_784 rfl e6 (M_X0_has l b D z nx e8) (As := [.int o3]) rfl rfl (Nat.le_of_ble_eq_true rfl) ⟨(Nat.le_of_ble_eq_true rfl), (Nat.le_of_ble_eq_true rfl)⟩ ⟨rfl, rfl⟩ ⟨(Nat.le_of_ble_eq_true rfl), (Nat.le_of_ble_eq_true rfl)⟩ dX0_lengthOfLoop_36 ?_
    refine g_if_ne 44 dX0_lengthOfLoop_39 (by decide) (fun c9 => ?_) (fun c9 => ?_)
    · replace hF := q_f c9 hF
      refine g_aload_n 0 dX0_lengthOfLoop_44 rfl ?_
      refine g_iload_n 1 dX0_lengthOfLoop_45 rfl ?_
      obtain ⟨u10, e11, hF⟩ := q_bind hF
      obtain ⟨x12, e13, hF⟩ := q_bind hF
      refine g_callVr0 (ci := 0) (q := (RX0, TX0, 15)) qm_X0_nextOf wd_867 wd_868 wd_869 rfl e11 (M_X0_nextOf l b D z nx e13) (As := [.int o3]) rfl rfl (Nat.le_of_ble_eq_true rfl) ⟨(Nat.le_of_ble_eq_true rfl), (Nat.le_of_ble_eq_true rfl)⟩ ⟨rfl, rfl⟩ ⟨(Nat.le_of_ble_eq_true rfl), (Nat.le_of_ble_eq_true rfl)⟩ dX0_lengthOfLoop_46 ?_
      refine g_istore_n [(2, .int x12), (0, .ref a0), (1, .int o3)] dX0_lengthOfLoop_49 (Nat.le_of_ble_eq_true rfl) rfl ?_
      refine g_iconst dX0_lengthOfLoop_50 lt_iconst_1 ?_
      refine g_istore_n [(3, .int (1 : Int32)), (2, .int x12), (0, .ref a0), (1, .int o3)] dX0_lengthOfLoop_51 (Nat.le_of_ble_eq_true rfl) rfl ?_
      obtain ⟨e14, w15, hF⟩ := q_bind hF
      refine g_sub [2, 3, 1, 0] rfl ?_
      refine L_X0_lengthOfLoop_52 l b D z q_N x12 (1 : Int32) e14 w15 ?_
      · intro o16 w17
        replace w17 := w17.symm
        subst w17
        refine g_iload_n 0 dX0_lengthOfLoop_75 rfl ?_
        cases hF
        exact g_iret dX0_lengthOfLoop_76 rfl ⟨rfl, rfl, rfl⟩ (Nat.le_of_ble_eq_true rfl) (Nat.le_of_ble_eq_true rfl)
    · replace hF := q_t c9 hF
      refine g_iconst dX0_lengthOfLoop_42 lt_iconst_0 ?_
      cases hF
      exact g_iret dX0_lengthOfLoop_43 rfl ⟨rfl, rfl, rfl⟩ (Nat.le_of_ble_eq_true rfl) (Nat.le_of_ble_eq_true rfl)
set_option maxRecDepth 100000 in
set_option maxHeartbeats 4000000 in
theorem M_X0_lengthOfLoop (l : Launch) (b : Nat) (D : va_G) (z : Nat → Nat) (nx : Nat) {h : qH} {a0 : Nat} {r : Int32} (hF : F_X0_lengthOfLoop h a0 = some r) : Me l b D z yX0_lengthOfLoop cX0_lengthOfLoop 4 (some .int) rm_X0_lengthOfLoop [.ref a0] h nx (qE (some (.int r)) h nx) := by
  refine Me.of (by decide +kernel) (Nat.le_of_ble_eq_true rfl) ?_
  show Go l b D z yX0_lengthOfLoop cX0_lengthOfLoop 4 (some .int) rm_X0_lengthOfLoop (qE (some (.int r)) h nx) 0 [(0, .ref a0)] [] h nx 0 0
  unfold F_X0_lengthOfLoop at hF
  refine g_aload_n 0 dX0_lengthOfLoop_0 rfl ?_
  refine g_iconst dX0_lengthOfLoop_1 lt_iconst_0 ?_
  obtain ⟨u1, e2, hF⟩ := q_bind hF
  obtain ⟨x3, e4, hF⟩ := q_bind hF
  refine g_callVr0 (ci := 0) (q := (RX0, TX0, 15)) qm_X0_has wd_782 wd_783 wd_784 rfl e2 (M_X0_has l b D z nx e4) (As := [.int (0 : Int32)]) rfl rfl (Nat.le_of_ble_eq_true rfl) ⟨(Nat.le_of_ble_eq_true rfl), (Nat.le_of_ble_eq_true rfl)⟩ ⟨rfl, rfl⟩ ⟨(Nat.le_of_ble_eq_true rfl), (Nat.le_of_ble_eq_true rfl)⟩ dX0_lengthOfLoop_2 ?_
  refine g_if_eq 12 dX0_lengthOfLoop_5 (by decide) (fun c5 => ?_) (fun c5 => ?_)
  · replace hF := q_t c5 hF
    refine g_iconst dX0_lengthOfLoop_12 lt_iconst_m1 ?_
    exact J_X0_lengthOfLoop_13 l b D z hF
  · replace hF := q_f c5 hF
    refine g_iconst dX0_lengthOfLoop_8 lt_iconst_0 ?_
    refine g_goto 13 dX0_lengthOfLoop_9 (by decide) ?_
    exact J_X0_lengthOfLoop_13 l b D z hF
def rm_X0_shortestWithout : Room := { frames := 4, cells := 0, slots := 0, locals := 90 }
set_option maxRecDepth 100000 in
set_option maxHeartbeats 4000000 in
theorem B_X0_shortestWithout_7 (l : Launch) (b : Nat) (D : va_G) (z : Nat → Nat) {Φ : Option Value → qH → Nat → Prop} {nx : Nat} {h : qH} {a0 : Nat} {a1 : Int32} {a2 : Int32} {a3 : Int32} {o : (Int32 × Int32 × Int32) ⊕ Int32} (hF : b_X0_shortestWithout_7 h a0 a1 a2 a3 = some o) (hback : ∀ (b1 : Int32) (b2 : Int32) (b3 : Int32), o = .inl (b1, b2, b3) → Go l b D z yX0_shortestWithout cX0_shortestWithout 5 (some .int) rm_X0_shortestWithout Φ 7 [(0, .ref a0), (1, .int b1), (2, .int b2), (3, .int b3)] [] h nx 0 0) (hx0 : ∀ (b1 : Int32), o = .inr b1 → Go l b D z yX0_shortestWithout cX0_shortestWithout 5 (some .int) rm_X0_shortestWithout Φ 39 [(1, .int b1)] [] h nx 0 0) : Go l b D z yX0_shortestWithout cX0_shortestWithout 5 (some .int) rm_X0_shortestWithout Φ 7 [(0, .ref a0), (1, .int a1), (2, .int a2), (3, .int a3)] [] h nx 0 0 := by
  unfold b_X0_shortestWithout_7 at hF
  refine g_iload_n 3 dX0_shortestWithout_7 rfl ?_
  refine g_aload_n 0 dX0_shortestWithout_8 rfl ?_
  obtain ⟨x1, e2, hF⟩ := q_bind hF
  refine g_getfI fl_X0_45 e2 dX0_shortestWithout_9 ?_
  refine g_icmp_ge 39 dX0_shortestWithout_12 (by decide) (fun c3 => ?_) (fun c3 => ?_)
  · replace hF := q_t c3 hF
    cases hF
    refine g_sub [1] rfl ?_
    exact hx0 _ rfl
  · replace hF := q_f c3 hF
    refine g_aload_n 0 dX0_shortestWithout_15 rfl ?_
    refine g_iload_n 3 dX0_shortestWithout_16 rfl ?_
    obtain ⟨u4, e5, hF⟩ := q_bind hF
    obtain ⟨x6, e7, hF⟩ := q_bind hF
    refine g_callVr0 (ci := 0) (q := (RX0, TX0, 15)) qm_X0_lengthWithout wd_1373 wd_1092 wd_1093 rfl e5 (M_X0_lengthWithout l b D z nx e7) (As := [.int a3]) rfl rfl (Nat.le_of_ble_eq_true rfl) ⟨(Nat.le_of_ble_eq_true rfl), (Nat.le_of_ble_eq_true rfl)⟩ ⟨rfl, rfl⟩ ⟨(Nat.le_of_ble_eq_true rfl), (Nat.le_of_ble_eq_true rfl)⟩ dX0_shortestWithout_17 ?_
    refine g_istore [(4, .int x6), (0, .ref a0), (1, .int a1), (2, .int a2), (3, .int a3)] dX0_shortestWithout_20 (Nat.le_of_ble_eq_true rfl) rfl ?_
    refine g_iload 0 dX0_shortestWithout_22 rfl ?_
    refine g_iload_n 3 dX0_shortestWithout_24 rfl ?_
    refine g_icmp_ge 33 dX0_shortestWithout_25 (by decide) (fun c8 => ?_) (fun c8 => ?_)
    · replace hF := q_t c8 hF
      refine g_iinc [(3, .int (a3 + 1)), (4, .int x6), (0, .ref a0), (1, .int a1), (2, .int a2)] 4 dX0_shortestWithout_33 rfl (congrArg (a3 + ·) lt_iconst_1) (Nat.le_of_ble_eq_true rfl) rfl ?_
      refine g_goto 7 dX0_shortestWithout_36 (by decide) ?_
      cases hF
      refine g_sub [2, 3, 4, 0] rfl ?_
      exact hback _ _ _ rfl
    · replace hF := q_f c8 hF
      refine g_iload 0 dX0_shortestWithout_28 rfl ?_
      refine g_istore_n [(2, .int x6), (4, .int x6), (0, .ref a0), (1, .int a1), (3, .int a3)] dX0_shortestWithout_30 (Nat.le_of_ble_eq_true rfl) rfl ?_
      refine g_iload_n 4 dX0_shortestWithout_31 rfl ?_
      refine g_istore_n [(1, .int a3), (2, .int x6), (4, .int x6), (0, .ref a0), (3, .int a3)] dX0_shortestWithout_32 (Nat.le_of_ble_eq_true rfl) rfl ?_
      refine g_iinc [(3, .int (a3 + 1)), (1, .int a3), (2, .int x6), (4, .int x6), (0, .ref a0)] 4 dX0_shortestWithout_33 rfl (congrArg (a3 + ·) lt_iconst_1) (Nat.le_of_ble_eq_true rfl) rfl ?_
      refine g_goto 7 dX0_shortestWithout_36 (by decide) ?_
      cases hF
      refine g_sub [4, 1, 2, 0] rfl ?_
      exact hback _ _ _ rfl
set_option maxRecDepth 100000 in
set_option maxHeartbeats 4000000 in
theorem L_X0_shortestWithout_7 (l : Launch) (b : Nat) (D : va_G) (z : Nat → Nat) {Φ : Option Value → qH → Nat → Prop} {nx : Nat} {h : qH} {a0 : Nat} : ∀ (n : Nat) (a1 : Int32) (a2 : Int32) (a3 : Int32) (e : Int32), q_lp (s_X0_shortestWithout_7 h a0) n (a1, a2, a3) = some e → (∀ (b1 : Int32), e = b1 → Go l b D z yX0_shortestWithout cX0_shortestWithout 5 (some .int) rm_X0_shortestWithout Φ 39 [(1, .int b1)] [] h nx 0 0) → Go l b D z yX0_shortestWithout cX0_shortestWithout 5 (some .int) rm_X0_shortestWithout Φ 7 [(0, .ref a0), (1, .int a1), (2, .int a2), (3, .int a3)] [] h nx 0 0 := by
  intro n
  induction n with
  | zero => intro a1 a2 a3 e he; cases (show none = some e from he)
  | succ n ih =>
    intro a1 a2 a3 e he hx0
    obtain ⟨o, ho, h1, h2⟩ := q_lp_succ he
    exact B_X0_shortestWithout_7 l b D z (show b_X0_shortestWithout_7 h a0 a1 a2 a3 = some o from ho) (fun b1 b2 b3 hb => ih _ _ _ e (h1 _ hb) hx0) (fun p0 hr => hx0 p0 (h2 _ hr).symm)
set_option maxRecDepth 100000 in
set_option maxHeartbeats 4000000 in
theorem M_X0_shortestWithout (l : Launch) (b : Nat) (D : va_G) (z : Nat → Nat) (nx : Nat) {h : qH} {a0 : Nat} {r : Int32} (hF : F_X0_shortestWithout h a0 = some r) : Me l b D z yX0_shortestWithout cX0_shortestWithout 5 (some .int) rm_X0_shortestWithout [.ref a0] h nx (qE (some (.int r)) h nx) := by
  refine Me.of (by decide +kernel) (Nat.le_of_ble_eq_true rfl) ?_
  show Go l b D z yX0_shortestWithout cX0_shortestWithout 5 (some .int) rm_X0_shortestWithout (qE (some (.int r)) h nx) 0 [(0, .ref a0)] [] h nx 0 0
  unfold F_X0_shortestWithout at hF
  refine g_iconst dX0_shortestWithout_0 lt_iconst_m1 ?_
  refine g_istore_n [(1, .int (-1 : Int32)), (0, .ref a0)] dX0_shortestWithout_1 (Nat.le_of_ble_eq_true rfl) rfl ?_
  refine g_ldc dX0_shortestWithout_2 wd_1372 ?_
  refine g_istore_n [(2, .int (1000000 : Int32)), (1, .int (-1 : Int32)), (0, .ref a0)] dX0_shortestWithout_4 (Nat.le_of_ble_eq_true rfl) rfl ?_
  refine g_iconst dX0_shortestWithout_5 lt_iconst_1 ?_
  refine g_istore_n [(3, .int (1 : Int32)), (2, .int (1000000 : Int32)), (1, .int (-1 : Int32)), (0, .ref a0)] dX0_shortestWithout_6 (Nat.le_of_ble_eq_true rfl) rfl ?_
  obtain ⟨e1, w2, hF⟩ := q_bind hF
  refine g_sub [3, 2, 1, 0] rfl ?_
  refine L_X0_shortestWithout_7 l b D z q_N (-1 : Int32) (1000000 : Int32) (1 : Int32) e1 w2 ?_
  · intro o3 w4
    replace w4 := w4.symm
    subst w4
    refine g_iload_n 0 dX0_shortestWithout_39 rfl ?_
    cases hF
    exact g_iret dX0_shortestWithout_40 rfl ⟨rfl, rfl, rfl⟩ (Nat.le_of_ble_eq_true rfl) (Nat.le_of_ble_eq_true rfl)
def rm_X1_init : Room := { frames := 1, cells := 2, slots := 80, locals := 20 }
theorem rmc_X1_init : rm_X1_init.cells = 2 := rfl
theorem rms_X1_init : rm_X1_init.slots = 80 := rfl
set_option maxRecDepth 100000 in
set_option maxHeartbeats 4000000 in
theorem M_X1_init (l : Launch) (b : Nat) (D : va_G) (z : Nat → Nat) (nx : Nat) {h : qH} {a0 : Nat} {r : qH × Nat} (hF : F_X1_init h nx a0 = some r) : Me l b D z yX1_init cX1_init 1 none rm_X1_init [.ref a0] h nx (qE none r.1 r.2) := by
  refine Me.of (by decide +kernel) (Nat.le_of_ble_eq_true rfl) ?_
  show Go l b D z yX1_init cX1_init 1 none rm_X1_init (qE none r.1 r.2) 0 [(0, .ref a0)] [] h nx 0 0
  unfold F_X1_init at hF
  refine g_aload_n 0 dX1_init_0 rfl ?_
  refine g_obj wd_271 wd_190 wd_191 (Nat.le_of_ble_eq_true rfl) (Nat.le_of_ble_eq_true rfl) dX1_init_1 ?_
  refine g_aload_n 0 dX1_init_4 rfl ?_
  refine g_bipush dX1_init_5 lt_bipush_40 ?_
  refine g_newi (N := 40) wd_266 (by decide) (by decide) (Nat.le_of_ble_eq_true rfl) (Nat.le_of_ble_eq_true rfl) (Nat.le_of_ble_eq_true rfl) dX1_init_7 ?_
  obtain ⟨h1, e2, hF⟩ := q_bind hF
  refine g_putF fl_X1_11 e2 rfl rfl rfl (fun q hq => by cases hq; rfl) dX1_init_9 ?_
  refine g_aload_n 0 dX1_init_12 rfl ?_
  refine g_bipush dX1_init_13 lt_bipush_40 ?_
  refine g_newi (N := 40) wd_266 (by decide) (by decide) (Nat.le_of_ble_eq_true rfl) (Nat.le_of_ble_eq_true rfl) (Nat.le_of_ble_eq_true rfl) dX1_init_15 ?_
  obtain ⟨h3, e4, hF⟩ := q_bind hF
  refine g_putF fl_X1_15 e4 rfl rfl rfl (fun q hq => by cases hq; rfl) dX1_init_17 ?_
  cases hF
  exact g_vret dX1_init_20 rfl ⟨rfl, rfl, rfl⟩ (Nat.le_of_ble_eq_true rfl) (Nat.le_of_ble_eq_true rfl)
def rm_X1_add : Room := { frames := 0, cells := 0, slots := 0, locals := 0 }
set_option maxRecDepth 100000 in
set_option maxHeartbeats 4000000 in
theorem M_X1_add (l : Launch) (b : Nat) (D : va_G) (z : Nat → Nat) (nx : Nat) {h : qH} {a0 : Nat} {a1 : Int32} {a2 : Int32} {r : qH} (hF : F_X1_add h a0 a1 a2 = some r) : Me l b D z yX1_add cX1_add 3 none rm_X1_add [.ref a0, .int a1, .int a2] h nx (qE none r nx) := by
  refine Me.of (by decide +kernel) (Nat.le_of_ble_eq_true rfl) ?_
  show Go l b D z yX1_add cX1_add 3 none rm_X1_add (qE none r nx) 0 [(0, .ref a0), (1, .int a1), (2, .int a2)] [] h nx 0 0
  unfold F_X1_add at hF
  refine g_aload_n 0 dX1_add_0 rfl ?_
  obtain ⟨x1, e2, hF⟩ := q_bind hF
  refine g_getfI fl_X1_18 e2 dX1_add_1 ?_
  refine g_bipush dX1_add_4 lt_bipush_40 ?_
  refine g_icmp_ge 39 dX1_add_6 (by decide) (fun c3 => ?_) (fun c3 => ?_)
  · replace hF := q_t c3 hF
    cases hF
    exact g_vret dX1_add_39 rfl ⟨rfl, rfl, rfl⟩ (Nat.le_of_ble_eq_true rfl) (Nat.le_of_ble_eq_true rfl)
  · replace hF := q_f c3 hF
    refine g_aload_n 0 dX1_add_9 rfl ?_
    obtain ⟨x4, e5, hF⟩ := q_bind hF
    refine g_getfR fl_X1_11 e5 dX1_add_10 ?_
    refine g_aload_n 0 dX1_add_13 rfl ?_
    obtain ⟨x6, e7, hF⟩ := q_bind hF
    refine g_getfI fl_X1_18 e7 dX1_add_14 ?_
    refine g_iload_n 1 dX1_add_17 rfl ?_
    obtain ⟨h8, e9, hF⟩ := q_bind hF
    refine g_iast e9 dX1_add_18 ?_
    refine g_aload_n 0 dX1_add_19 rfl ?_
    obtain ⟨x10, e11, hF⟩ := q_bind hF
    refine g_getfR fl_X1_15 e11 dX1_add_20 ?_
    refine g_aload_n 0 dX1_add_23 rfl ?_
    obtain ⟨x12, e13, hF⟩ := q_bind hF
    refine g_getfI fl_X1_18 e13 dX1_add_24 ?_
    refine g_iload_n 2 dX1_add_27 rfl ?_
    obtain ⟨h14, e15, hF⟩ := q_bind hF
    refine g_iast e15 dX1_add_28 ?_
    refine g_aload_n 0 dX1_add_29 rfl ?_
    refine g_dup dX1_add_30 rfl ?_
    obtain ⟨x16, e17, hF⟩ := q_bind hF
    refine g_getfI fl_X1_18 e17 dX1_add_31 ?_
    refine g_iconst dX1_add_34 lt_iconst_1 ?_
    refine g_iadd dX1_add_35 ?_
    obtain ⟨h18, e19, hF⟩ := q_bind hF
    refine g_putf fl_X1_18 e19 rfl rfl dX1_add_36 ?_
    cases hF
    exact g_vret dX1_add_39 rfl ⟨rfl, rfl, rfl⟩ (Nat.le_of_ble_eq_true rfl) (Nat.le_of_ble_eq_true rfl)
def rm_X1_copy : Room := { frames := 1, cells := 0, slots := 0, locals := 40 }
set_option maxRecDepth 100000 in
set_option maxHeartbeats 4000000 in
theorem M_X1_copy (l : Launch) (b : Nat) (D : va_G) (z : Nat → Nat) (nx : Nat) {h : qH} {a0 : Nat} {a1 : Nat} {r : qH} (hF : F_X1_copy h a0 a1 = some r) : Me l b D z yX1_copy cX1_copy 2 none rm_X1_copy [.ref a0, .ref a1] h nx (qE none r nx) := by
  refine Me.of (by decide +kernel) (Nat.le_of_ble_eq_true rfl) ?_
  show Go l b D z yX1_copy cX1_copy 2 none rm_X1_copy (qE none r nx) 0 [(0, .ref a0), (1, .ref a1)] [] h nx 0 0
  unfold F_X1_copy at hF
  refine g_aload_n 1 dX1_copy_0 rfl ?_
  obtain ⟨x1, e2, hF⟩ := q_bind hF
  refine g_getfR fl_X1_11 e2 dX1_copy_1 ?_
  refine g_iconst dX1_copy_4 lt_iconst_0 ?_
  refine g_aload_n 0 dX1_copy_5 rfl ?_
  obtain ⟨x3, e4, hF⟩ := q_bind hF
  refine g_getfR fl_X1_11 e4 dX1_copy_6 ?_
  refine g_iconst dX1_copy_9 lt_iconst_0 ?_
  refine g_bipush dX1_copy_10 lt_bipush_40 ?_
  obtain ⟨h5, e6, hF⟩ := q_bind hF
  refine g_copyI rfl e6 wd_1441 wd_1028 wd_1027 wd_182 (Nat.le_of_ble_eq_true rfl) (Nat.le_of_ble_eq_true rfl) dX1_copy_12 ?_
  refine g_aload_n 1 dX1_copy_15 rfl ?_
  obtain ⟨x7, e8, hF⟩ := q_bind hF
  refine g_getfR fl_X1_15 e8 dX1_copy_16 ?_
  refine g_iconst dX1_copy_19 lt_iconst_0 ?_
  refine g_aload_n 0 dX1_copy_20 rfl ?_
  obtain ⟨x9, e10, hF⟩ := q_bind hF
  refine g_getfR fl_X1_15 e10 dX1_copy_21 ?_
  refine g_iconst dX1_copy_24 lt_iconst_0 ?_
  refine g_bipush dX1_copy_25 lt_bipush_40 ?_
  obtain ⟨h11, e12, hF⟩ := q_bind hF
  refine g_copyI rfl e12 wd_1441 wd_1028 wd_1027 wd_182 (Nat.le_of_ble_eq_true rfl) (Nat.le_of_ble_eq_true rfl) dX1_copy_27 ?_
  refine g_aload_n 0 dX1_copy_30 rfl ?_
  refine g_aload_n 1 dX1_copy_31 rfl ?_
  obtain ⟨x13, e14, hF⟩ := q_bind hF
  refine g_getfI fl_X1_18 e14 dX1_copy_32 ?_
  obtain ⟨h15, e16, hF⟩ := q_bind hF
  refine g_putf fl_X1_18 e16 rfl rfl dX1_copy_35 ?_
  cases hF
  exact g_vret dX1_copy_38 rfl ⟨rfl, rfl, rfl⟩ (Nat.le_of_ble_eq_true rfl) (Nat.le_of_ble_eq_true rfl)
def rm_X1_has : Room := { frames := 0, cells := 0, slots := 0, locals := 0 }
set_option maxRecDepth 100000 in
set_option maxHeartbeats 4000000 in
theorem M_X1_has (l : Launch) (b : Nat) (D : va_G) (z : Nat → Nat) (nx : Nat) {h : qH} {a0 : Nat} {a1 : Int32} {r : Int32} (hF : F_X1_has h a0 a1 = some r) : Me l b D z yX1_has cX1_has 2 (some .boolean) rm_X1_has [.ref a0, .int a1] h nx (qE (some (.int r)) h nx) := by
  refine Me.of (by decide +kernel) (Nat.le_of_ble_eq_true rfl) ?_
  show Go l b D z yX1_has cX1_has 2 (some .boolean) rm_X1_has (qE (some (.int r)) h nx) 0 [(0, .ref a0), (1, .int a1)] [] h nx 0 0
  unfold F_X1_has at hF
  refine g_iload_n 1 dX1_has_0 rfl ?_
  refine g_if_lt 22 dX1_has_1 (by decide) (fun c1 => ?_) (fun c1 => ?_)
  · replace hF := q_t c1 hF
    refine g_iconst dX1_has_22 lt_iconst_0 ?_
    cases hF
    exact g_zret dX1_has_23 rfl zn_0 ⟨rfl, rfl, rfl⟩ (Nat.le_of_ble_eq_true rfl) (Nat.le_of_ble_eq_true rfl)
  · replace hF := q_f c1 hF
    refine g_iload_n 1 dX1_has_4 rfl ?_
    refine g_aload_n 0 dX1_has_5 rfl ?_
    obtain ⟨x2, e3, hF⟩ := q_bind hF
    refine g_getfI fl_X1_18 e3 dX1_has_6 ?_
    refine g_icmp_ge 22 dX1_has_9 (by decide) (fun c4 => ?_) (fun c4 => ?_)
    · replace hF := q_t c4 hF
      refine g_iconst dX1_has_22 lt_iconst_0 ?_
      cases hF
      exact g_zret dX1_has_23 rfl zn_0 ⟨rfl, rfl, rfl⟩ (Nat.le_of_ble_eq_true rfl) (Nat.le_of_ble_eq_true rfl)
    · replace hF := q_f c4 hF
      refine g_iload_n 1 dX1_has_12 rfl ?_
      refine g_bipush dX1_has_13 lt_bipush_40 ?_
      refine g_icmp_ge 22 dX1_has_15 (by decide) (fun c5 => ?_) (fun c5 => ?_)
      · replace hF := q_t c5 hF
        refine g_iconst dX1_has_22 lt_iconst_0 ?_
        cases hF
        exact g_zret dX1_has_23 rfl zn_0 ⟨rfl, rfl, rfl⟩ (Nat.le_of_ble_eq_true rfl) (Nat.le_of_ble_eq_true rfl)
      · replace hF := q_f c5 hF
        refine g_iconst dX1_has_18 lt_iconst_1 ?_
        refine g_goto 23 dX1_has_19 (by decide) ?_
        cases hF
        exact g_zret dX1_has_23 rfl zn_1 ⟨rfl, rfl, rfl⟩ (Nat.le_of_ble_eq_true rfl) (Nat.le_of_ble_eq_true rfl)
def rm_X1_deedAt : Room := { frames := 1, cells := 0, slots := 0, locals := 21 }
set_option maxRecDepth 100000 in
set_option maxHeartbeats 4000000 in
theorem M_X1_deedAt (l : Launch) (b : Nat) (D : va_G) (z : Nat → Nat) (nx : Nat) {h : qH} {a0 : Nat} {a1 : Int32} {r : Int32} (hF : F_X1_deedAt h a0 a1 = some r) : Me l b D z yX1_deedAt cX1_deedAt 2 (some .int) rm_X1_deedAt [.ref a0, .int a1] h nx (qE (some (.int r)) h nx) := by
  refine Me.of (by decide +kernel) (Nat.le_of_ble_eq_true rfl) ?_
  show Go l b D z yX1_deedAt cX1_deedAt 2 (some .int) rm_X1_deedAt (qE (some (.int r)) h nx) 0 [(0, .ref a0), (1, .int a1)] [] h nx 0 0
  unfold F_X1_deedAt at hF
  refine g_aload_n 0 dX1_deedAt_0 rfl ?_
  refine g_iload_n 1 dX1_deedAt_1 rfl ?_
  obtain ⟨u1, e2, hF⟩ := q_bind hF
  obtain ⟨x3, e4, hF⟩ := q_bind hF
  refine g_callVr0 (ci := 1) (q := (RX1, TX1, 3)) qm_X1_has wd_893 wd_895 wd_23 rfl e2 (M_X1_has l b D z nx e4) (As := [.int a1]) rfl rfl (Nat.le_of_ble_eq_true rfl) ⟨(Nat.le_of_ble_eq_true rfl), (Nat.le_of_ble_eq_true rfl)⟩ ⟨rfl, rfl⟩ ⟨(Nat.le_of_ble_eq_true rfl), (Nat.le_of_ble_eq_true rfl)⟩ dX1_deedAt_2 ?_
  refine g_if_eq 17 dX1_deedAt_5 (by decide) (fun c5 => ?_) (fun c5 => ?_)
  · replace hF := q_t c5 hF
    refine g_bipush dX1_deedAt_17 lt_bipush_m2 ?_
    cases hF
    exact g_iret dX1_deedAt_19 rfl ⟨rfl, rfl, rfl⟩ (Nat.le_of_ble_eq_true rfl) (Nat.le_of_ble_eq_true rfl)
  · replace hF := q_f c5 hF
    refine g_aload_n 0 dX1_deedAt_8 rfl ?_
    obtain ⟨x6, e7, hF⟩ := q_bind hF
    refine g_getfR fl_X1_11 e7 dX1_deedAt_9 ?_
    refine g_iload_n 1 dX1_deedAt_12 rfl ?_
    obtain ⟨x8, e9, hF⟩ := q_bind hF
    refine g_iald e9 dX1_deedAt_13 ?_
    refine g_goto 19 dX1_deedAt_14 (by decide) ?_
    cases hF
    exact g_iret dX1_deedAt_19 rfl ⟨rfl, rfl, rfl⟩ (Nat.le_of_ble_eq_true rfl) (Nat.le_of_ble_eq_true rfl)
def rm_X1_numberAt : Room := { frames := 1, cells := 0, slots := 0, locals := 21 }
set_option maxRecDepth 100000 in
set_option maxHeartbeats 4000000 in
theorem M_X1_numberAt (l : Launch) (b : Nat) (D : va_G) (z : Nat → Nat) (nx : Nat) {h : qH} {a0 : Nat} {a1 : Int32} {r : Int32} (hF : F_X1_numberAt h a0 a1 = some r) : Me l b D z yX1_numberAt cX1_numberAt 2 (some .int) rm_X1_numberAt [.ref a0, .int a1] h nx (qE (some (.int r)) h nx) := by
  refine Me.of (by decide +kernel) (Nat.le_of_ble_eq_true rfl) ?_
  show Go l b D z yX1_numberAt cX1_numberAt 2 (some .int) rm_X1_numberAt (qE (some (.int r)) h nx) 0 [(0, .ref a0), (1, .int a1)] [] h nx 0 0
  unfold F_X1_numberAt at hF
  refine g_aload_n 0 dX1_numberAt_0 rfl ?_
  refine g_iload_n 1 dX1_numberAt_1 rfl ?_
  obtain ⟨u1, e2, hF⟩ := q_bind hF
  obtain ⟨x3, e4, hF⟩ := q_bind hF
  refine g_callVr0 (ci := 1) (q := (RX1, TX1, 3)) qm_X1_has wd_893 wd_895 wd_23 rfl e2 (M_X1_has l b D z nx e4) (As := [.int a1]) rfl rfl (Nat.le_of_ble_eq_true rfl) ⟨(Nat.le_of_ble_eq_true rfl), (Nat.le_of_ble_eq_true rfl)⟩ ⟨rfl, rfl⟩ ⟨(Nat.le_of_ble_eq_true rfl), (Nat.le_of_ble_eq_true rfl)⟩ dX1_numberAt_2 ?_
  refine g_if_eq 17 dX1_numberAt_5 (by decide) (fun c5 => ?_) (fun c5 => ?_)
  · replace hF := q_t c5 hF
    refine g_bipush dX1_numberAt_17 lt_bipush_m2 ?_
    cases hF
    exact g_iret dX1_numberAt_19 rfl ⟨rfl, rfl, rfl⟩ (Nat.le_of_ble_eq_true rfl) (Nat.le_of_ble_eq_true rfl)
  · replace hF := q_f c5 hF
    refine g_aload_n 0 dX1_numberAt_8 rfl ?_
    obtain ⟨x6, e7, hF⟩ := q_bind hF
    refine g_getfR fl_X1_15 e7 dX1_numberAt_9 ?_
    refine g_iload_n 1 dX1_numberAt_12 rfl ?_
    obtain ⟨x8, e9, hF⟩ := q_bind hF
    refine g_iald e9 dX1_numberAt_13 ?_
    refine g_goto 19 dX1_numberAt_14 (by decide) ?_
    cases hF
    exact g_iret dX1_numberAt_19 rfl ⟨rfl, rfl, rfl⟩ (Nat.le_of_ble_eq_true rfl) (Nat.le_of_ble_eq_true rfl)
def rm_X1_show : Room := { frames := 2, cells := 0, slots := 0, locals := 42 }
set_option maxRecDepth 100000 in
set_option maxHeartbeats 4000000 in
theorem M_X1_show (l : Launch) (b : Nat) (D : va_G) (z : Nat → Nat) (nx : Nat) {h : qH} {a0 : Nat} {a1 : Int32} {a2 : Int32} {r : Int32} (hF : F_X1_show h a0 a1 a2 = some r) : Me l b D z yX1_show cX1_show 3 (some .int) rm_X1_show [.ref a0, .int a1, .int a2] h nx (qE (some (.int r)) h nx) := by
  refine Me.of (by decide +kernel) (Nat.le_of_ble_eq_true rfl) ?_
  show Go l b D z yX1_show cX1_show 3 (some .int) rm_X1_show (qE (some (.int r)) h nx) 0 [(0, .ref a0), (1, .int a1), (2, .int a2)] [] h nx 0 0
  unfold F_X1_show at hF
  refine g_iload_n 1 dX1_show_0 rfl ?_
  refine g_iconst dX1_show_1 lt_iconst_m1 ?_
  refine g_icmp_ne 19 dX1_show_2 (by decide) (fun c1 => ?_) (fun c1 => ?_)
  · replace hF := q_f c1 hF
    refine g_iload_n 2 dX1_show_19 rfl ?_
    refine g_if_ne 29 dX1_show_20 (by decide) (fun c2 => ?_) (fun c2 => ?_)
    · replace hF := q_f c2 hF
      refine g_iload_n 2 dX1_show_29 rfl ?_
      refine g_iconst dX1_show_30 lt_iconst_1 ?_
      refine g_icmp_ne 42 dX1_show_31 (by decide) (fun c3 => ?_) (fun c3 => ?_)
      · replace hF := q_f c3 hF
        refine g_bipush dX1_show_42 lt_bipush_m2 ?_
        cases hF
        exact g_iret dX1_show_44 rfl ⟨rfl, rfl, rfl⟩ (Nat.le_of_ble_eq_true rfl) (Nat.le_of_ble_eq_true rfl)
      · replace hF := q_t c3 hF
        refine g_aload_n 0 dX1_show_34 rfl ?_
        refine g_iload_n 1 dX1_show_35 rfl ?_
        obtain ⟨u4, e5, hF⟩ := q_bind hF
        obtain ⟨x6, e7, hF⟩ := q_bind hF
        refine g_callVr0 (ci := 1) (q := (RX1, TX1, 3)) qm_X1_numberAt wd_897 wd_898 wd_899 rfl e5 (M_X1_numberAt l b D z nx e7) (As := [.int a1]) rfl rfl (Nat.le_of_ble_eq_true rfl) ⟨(Nat.le_of_ble_eq_true rfl), (Nat.le_of_ble_eq_true rfl)⟩ ⟨rfl, rfl⟩ ⟨(Nat.le_of_ble_eq_true rfl), (Nat.le_of_ble_eq_true rfl)⟩ dX1_show_36 ?_
        refine g_goto 44 dX1_show_39 (by decide) ?_
        cases hF
        exact g_iret dX1_show_44 rfl ⟨rfl, rfl, rfl⟩ (Nat.le_of_ble_eq_true rfl) (Nat.le_of_ble_eq_true rfl)
    · replace hF := q_t c2 hF
      refine g_aload_n 0 dX1_show_23 rfl ?_
      refine g_iload_n 1 dX1_show_24 rfl ?_
      obtain ⟨u8, e9, hF⟩ := q_bind hF
      obtain ⟨x10, e11, hF⟩ := q_bind hF
      refine g_callVr0 (ci := 1) (q := (RX1, TX1, 3)) qm_X1_deedAt wd_889 wd_890 wd_891 rfl e9 (M_X1_deedAt l b D z nx e11) (As := [.int a1]) rfl rfl (Nat.le_of_ble_eq_true rfl) ⟨(Nat.le_of_ble_eq_true rfl), (Nat.le_of_ble_eq_true rfl)⟩ ⟨rfl, rfl⟩ ⟨(Nat.le_of_ble_eq_true rfl), (Nat.le_of_ble_eq_true rfl)⟩ dX1_show_25 ?_
      cases hF
      exact g_iret dX1_show_28 rfl ⟨rfl, rfl, rfl⟩ (Nat.le_of_ble_eq_true rfl) (Nat.le_of_ble_eq_true rfl)
  · replace hF := q_t c1 hF
    refine g_iload_n 2 dX1_show_5 rfl ?_
    refine g_if_ne 16 dX1_show_6 (by decide) (fun c12 => ?_) (fun c12 => ?_)
    · replace hF := q_f c12 hF
      refine g_bipush dX1_show_16 lt_bipush_m2 ?_
      cases hF
      exact g_iret dX1_show_18 rfl ⟨rfl, rfl, rfl⟩ (Nat.le_of_ble_eq_true rfl) (Nat.le_of_ble_eq_true rfl)
    · replace hF := q_t c12 hF
      refine g_aload_n 0 dX1_show_9 rfl ?_
      obtain ⟨x13, e14, hF⟩ := q_bind hF
      refine g_getfI fl_X1_18 e14 dX1_show_10 ?_
      refine g_goto 18 dX1_show_13 (by decide) ?_
      cases hF
      exact g_iret dX1_show_18 rfl ⟨rfl, rfl, rfl⟩ (Nat.le_of_ble_eq_true rfl) (Nat.le_of_ble_eq_true rfl)
def rm_X2_init : Room := { frames := 1, cells := 3, slots := 720, locals := 20 }
theorem rmc_X2_init : rm_X2_init.cells = 3 := rfl
theorem rms_X2_init : rm_X2_init.slots = 720 := rfl
set_option maxRecDepth 100000 in
set_option maxHeartbeats 4000000 in
theorem M_X2_init (l : Launch) (b : Nat) (D : va_G) (z : Nat → Nat) (nx : Nat) {h : qH} {a0 : Nat} {r : qH × Nat} (hF : F_X2_init h nx a0 = some r) : Me l b D z yX2_init cX2_init 1 none rm_X2_init [.ref a0] h nx (qE none r.1 r.2) := by
  refine Me.of (by decide +kernel) (Nat.le_of_ble_eq_true rfl) ?_
  show Go l b D z yX2_init cX2_init 1 none rm_X2_init (qE none r.1 r.2) 0 [(0, .ref a0)] [] h nx 0 0
  unfold F_X2_init at hF
  refine g_aload_n 0 dX2_init_0 rfl ?_
  refine g_obj wd_505 wd_190 wd_191 (Nat.le_of_ble_eq_true rfl) (Nat.le_of_ble_eq_true rfl) dX2_init_1 ?_
  refine g_aload_n 0 dX2_init_4 rfl ?_
  refine g_sipush dX2_init_5 lt_sipush_240 ?_
  refine g_newl (N := 240) wd_449 (by decide) (by decide) (Nat.le_of_ble_eq_true rfl) (Nat.le_of_ble_eq_true rfl) (Nat.le_of_ble_eq_true rfl) dX2_init_8 ?_
  obtain ⟨h1, e2, hF⟩ := q_bind hF
  refine g_putF fl_X2_15 e2 rfl rfl rfl (fun q hq => by cases hq; rfl) dX2_init_10 ?_
  refine g_aload_n 0 dX2_init_13 rfl ?_
  refine g_sipush dX2_init_14 lt_sipush_240 ?_
  refine g_newl (N := 240) wd_449 (by decide) (by decide) (Nat.le_of_ble_eq_true rfl) (Nat.le_of_ble_eq_true rfl) (Nat.le_of_ble_eq_true rfl) dX2_init_17 ?_
  obtain ⟨h3, e4, hF⟩ := q_bind hF
  refine g_putF fl_X2_19 e4 rfl rfl rfl (fun q hq => by cases hq; rfl) dX2_init_19 ?_
  refine g_aload_n 0 dX2_init_22 rfl ?_
  refine g_sipush dX2_init_23 lt_sipush_240 ?_
  refine g_newi (N := 240) wd_266 (by decide) (by decide) (Nat.le_of_ble_eq_true rfl) (Nat.le_of_ble_eq_true rfl) (Nat.le_of_ble_eq_true rfl) dX2_init_26 ?_
  obtain ⟨h5, e6, hF⟩ := q_bind hF
  refine g_putF fl_X2_22 e6 rfl rfl rfl (fun q hq => by cases hq; rfl) dX2_init_28 ?_
  cases hF
  exact g_vret dX2_init_31 rfl ⟨rfl, rfl, rfl⟩ (Nat.le_of_ble_eq_true rfl) (Nat.le_of_ble_eq_true rfl)
def rm_X3_has : Room := { frames := 0, cells := 0, slots := 0, locals := 0 }
set_option maxRecDepth 100000 in
set_option maxHeartbeats 4000000 in
theorem M_X3_has (l : Launch) (b : Nat) (D : va_G) (z : Nat → Nat) (nx : Nat) {h : qH} {a0 : Nat} {a1 : Int32} {r : Int32} (hF : F_X3_has h a0 a1 = some r) : Me l b D z yX3_has cX3_has 2 (some .boolean) rm_X3_has [.ref a0, .int a1] h nx (qE (some (.int r)) h nx) := by
  refine Me.of (by decide +kernel) (Nat.le_of_ble_eq_true rfl) ?_
  show Go l b D z yX3_has cX3_has 2 (some .boolean) rm_X3_has (qE (some (.int r)) h nx) 0 [(0, .ref a0), (1, .int a1)] [] h nx 0 0
  unfold F_X3_has at hF
  refine g_iload_n 1 dX3_has_0 rfl ?_
  refine g_if_lt 22 dX3_has_1 (by decide) (fun c1 => ?_) (fun c1 => ?_)
  · replace hF := q_t c1 hF
    refine g_iconst dX3_has_22 lt_iconst_0 ?_
    cases hF
    exact g_zret dX3_has_23 rfl zn_0 ⟨rfl, rfl, rfl⟩ (Nat.le_of_ble_eq_true rfl) (Nat.le_of_ble_eq_true rfl)
  · replace hF := q_f c1 hF
    refine g_iload_n 1 dX3_has_4 rfl ?_
    refine g_aload_n 0 dX3_has_5 rfl ?_
    obtain ⟨x2, e3, hF⟩ := q_bind hF
    refine g_getfI fl_X3_15 e3 dX3_has_6 ?_
    refine g_icmp_ge 22 dX3_has_9 (by decide) (fun c4 => ?_) (fun c4 => ?_)
    · replace hF := q_t c4 hF
      refine g_iconst dX3_has_22 lt_iconst_0 ?_
      cases hF
      exact g_zret dX3_has_23 rfl zn_0 ⟨rfl, rfl, rfl⟩ (Nat.le_of_ble_eq_true rfl) (Nat.le_of_ble_eq_true rfl)
    · replace hF := q_f c4 hF
      refine g_iload_n 1 dX3_has_12 rfl ?_
      refine g_bipush dX3_has_13 lt_bipush_12 ?_
      refine g_icmp_ge 22 dX3_has_15 (by decide) (fun c5 => ?_) (fun c5 => ?_)
      · replace hF := q_t c5 hF
        refine g_iconst dX3_has_22 lt_iconst_0 ?_
        cases hF
        exact g_zret dX3_has_23 rfl zn_0 ⟨rfl, rfl, rfl⟩ (Nat.le_of_ble_eq_true rfl) (Nat.le_of_ble_eq_true rfl)
      · replace hF := q_f c5 hF
        refine g_iconst dX3_has_18 lt_iconst_1 ?_
        refine g_goto 23 dX3_has_19 (by decide) ?_
        cases hF
        exact g_zret dX3_has_23 rfl zn_1 ⟨rfl, rfl, rfl⟩ (Nat.le_of_ble_eq_true rfl) (Nat.le_of_ble_eq_true rfl)
def rm_X3_mayBe : Room := { frames := 1, cells := 0, slots := 0, locals := 21 }
set_option maxRecDepth 100000 in
set_option maxHeartbeats 4000000 in
theorem M_X3_mayBe (l : Launch) (b : Nat) (D : va_G) (z : Nat → Nat) (nx : Nat) {h : qH} {a0 : Nat} {a1 : Int32} {a2 : Int32} {r : Int32} (hF : F_X3_mayBe h a0 a1 a2 = some r) : Me l b D z yX3_mayBe cX3_mayBe 3 (some .boolean) rm_X3_mayBe [.ref a0, .int a1, .int a2] h nx (qE (some (.int r)) h nx) := by
  refine Me.of (by decide +kernel) (Nat.le_of_ble_eq_true rfl) ?_
  show Go l b D z yX3_mayBe cX3_mayBe 3 (some .boolean) rm_X3_mayBe (qE (some (.int r)) h nx) 0 [(0, .ref a0), (1, .int a1), (2, .int a2)] [] h nx 0 0
  unfold F_X3_mayBe at hF
  refine g_aload_n 0 dX3_mayBe_0 rfl ?_
  refine g_iload_n 1 dX3_mayBe_1 rfl ?_
  obtain ⟨u1, e2, hF⟩ := q_bind hF
  obtain ⟨x3, e4, hF⟩ := q_bind hF
  refine g_callVr0 (ci := 3) (q := (RX3, TX3, 2)) qm_X3_has wd_1156 wd_1157 wd_1158 rfl e2 (M_X3_has l b D z nx e4) (As := [.int a1]) rfl rfl (Nat.le_of_ble_eq_true rfl) ⟨(Nat.le_of_ble_eq_true rfl), (Nat.le_of_ble_eq_true rfl)⟩ ⟨rfl, rfl⟩ ⟨(Nat.le_of_ble_eq_true rfl), (Nat.le_of_ble_eq_true rfl)⟩ dX3_mayBe_2 ?_
  refine g_if_eq 33 dX3_mayBe_5 (by decide) (fun c5 => ?_) (fun c5 => ?_)
  · replace hF := q_t c5 hF
    refine g_iconst dX3_mayBe_33 lt_iconst_0 ?_
    cases hF
    exact g_zret dX3_mayBe_34 rfl zn_0 ⟨rfl, rfl, rfl⟩ (Nat.le_of_ble_eq_true rfl) (Nat.le_of_ble_eq_true rfl)
  · replace hF := q_f c5 hF
    refine g_aload_n 0 dX3_mayBe_8 rfl ?_
    obtain ⟨x6, e7, hF⟩ := q_bind hF
    refine g_getfR fl_X3_11 e7 dX3_mayBe_9 ?_
    refine g_iload_n 1 dX3_mayBe_12 rfl ?_
    obtain ⟨x8, e9, hF⟩ := q_bind hF
    refine g_iald e9 dX3_mayBe_13 ?_
    refine g_bipush dX3_mayBe_14 lt_bipush_6 ?_
    refine g_icmp_eq 29 dX3_mayBe_16 (by decide) (fun c10 => ?_) (fun c10 => ?_)
    · replace hF := q_t c10 hF
      refine g_iconst dX3_mayBe_29 lt_iconst_1 ?_
      refine g_goto 34 dX3_mayBe_30 (by decide) ?_
      cases hF
      exact g_zret dX3_mayBe_34 rfl zn_1 ⟨rfl, rfl, rfl⟩ (Nat.le_of_ble_eq_true rfl) (Nat.le_of_ble_eq_true rfl)
    · replace hF := q_f c10 hF
      refine g_aload_n 0 dX3_mayBe_19 rfl ?_
      obtain ⟨x11, e12, hF⟩ := q_bind hF
      refine g_getfR fl_X3_11 e12 dX3_mayBe_20 ?_
      refine g_iload_n 1 dX3_mayBe_23 rfl ?_
      obtain ⟨x13, e14, hF⟩ := q_bind hF
      refine g_iald e14 dX3_mayBe_24 ?_
      refine g_iload_n 2 dX3_mayBe_25 rfl ?_
      refine g_icmp_ne 33 dX3_mayBe_26 (by decide) (fun c15 => ?_) (fun c15 => ?_)
      · replace hF := q_f c15 hF
        refine g_iconst dX3_mayBe_33 lt_iconst_0 ?_
        cases hF
        exact g_zret dX3_mayBe_34 rfl zn_0 ⟨rfl, rfl, rfl⟩ (Nat.le_of_ble_eq_true rfl) (Nat.le_of_ble_eq_true rfl)
      · replace hF := q_t c15 hF
        refine g_iconst dX3_mayBe_29 lt_iconst_1 ?_
        refine g_goto 34 dX3_mayBe_30 (by decide) ?_
        cases hF
        exact g_zret dX3_mayBe_34 rfl zn_1 ⟨rfl, rfl, rfl⟩ (Nat.le_of_ble_eq_true rfl) (Nat.le_of_ble_eq_true rfl)
