def rm_X11_image : Room := { frames := 3, cells := 73, slots := 2724, locals := 83 }
theorem rmc_X11_image : rm_X11_image.cells = 73 := rfl
theorem rms_X11_image : rm_X11_image.slots = 2724 := rfl
set_option maxRecDepth 100000 in
set_option maxHeartbeats 4000000 in
theorem M_X11_image (l : Launch) (b : Nat) (D : va_G) (z : Nat → Nat) (nx : Nat) {h : qH} {a0 : Nat} {a1 : Int32} {r : Int32 × qH × Nat} (hF : F_X11_image h nx a0 a1 = some r) : Me l b D z yX11_image cX11_image 3 (some .boolean) rm_X11_image [.ref a0, .int a1] h nx (qE (some (.int r.1)) r.2.1 r.2.2) := by
  refine Me.of (by decide +kernel) (Nat.le_of_ble_eq_true rfl) ?_
  show Go l b D z yX11_image cX11_image 3 (some .boolean) rm_X11_image (qE (some (.int r.1)) r.2.1 r.2.2) 0 [(0, .ref a0), (1, .int a1)] [] h nx 0 0
  unfold F_X11_image at hF
  refine g_iload_n 1 dX11_image_0 rfl ?_
  refine g_if_lt 9 dX11_image_1 (by decide) (fun c1 => ?_) (fun c1 => ?_)
  · replace hF := q_t c1 hF
    refine g_iconst dX11_image_9 lt_iconst_0 ?_
    cases hF
    exact g_zret dX11_image_10 rfl zn_0 ⟨rfl, rfl, rfl⟩ (Nat.le_of_ble_eq_true rfl) (Nat.le_of_ble_eq_true rfl)
  · replace hF := q_f c1 hF
    refine g_iload_n 1 dX11_image_4 rfl ?_
    refine g_iconst dX11_image_5 lt_iconst_3 ?_
    refine g_icmp_lt 11 dX11_image_6 (by decide) (fun c2 => ?_) (fun c2 => ?_)
    · replace hF := q_t c2 hF
      refine g_aload_n 0 dX11_image_11 rfl ?_
      obtain ⟨x3, e4, hF⟩ := q_bind hF
      refine g_getfR fl_X11_16 e4 dX11_image_12 ?_
      refine g_iload_n 1 dX11_image_15 rfl ?_
      obtain ⟨x5, e6, hF⟩ := q_bind hF
      refine g_aald e6 dX11_image_16 ?_
      rcases x5 with _ | x19
      · replace hF := q_en hF
        refine g_astore_nN [(2, .null), (0, .ref a0), (1, .int a1)] dX11_image_17 (Nat.le_of_ble_eq_true rfl) rfl ?_
        refine g_aload_nN 0 dX11_image_18 rfl ?_
        refine g_ifnonnullN dX11_image_19 ?_
        refine g_new (ci := 9) (q := (RX9, TX9, 9)) rfl tyX9 tyX9_ok (fs := df_X9) df_X9_ok wd_192 wd_193 wd_165 (Nat.le_of_ble_eq_true rfl) (Nat.le_of_ble_eq_true rfl) dX11_image_22 ?_
        refine g_dup dX11_image_25 rfl ?_
        obtain ⟨x7, e8, hF⟩ := q_bind hF
        refine g_callIvA qm_X9_init wd_194 wd_195 rfl (M_X9_init l b D z (nx + 1) e8) (As := []) rfl rfl (Nat.le_of_ble_eq_true rfl) ⟨(Nat.le_of_ble_eq_true rfl), (Nat.le_of_ble_eq_true rfl)⟩ ⟨(Nat.le_of_ble_eq_true rfl), (Nat.le_of_ble_eq_true rfl)⟩ dX11_image_26 ?_
        refine g_astore_n [(2, .ref nx), (0, .ref a0), (1, .int a1)] dX11_image_29 (Nat.le_of_ble_eq_true rfl) rfl ?_
        refine g_aload_n 1 dX11_image_30 rfl ?_
        obtain ⟨x9, e10, hF⟩ := q_bind hF
        refine g_getfR fl_X11_16 e10 dX11_image_31 ?_
        refine g_iload_n 2 dX11_image_34 rfl ?_
        refine g_aload_n 0 dX11_image_35 rfl ?_
        obtain ⟨h11, e12, hF⟩ := q_bind hF
        refine g_aast (r := (RX9, TX9, 9)) rfl rfl e12 dX11_image_36 ?_
        refine g_aload_n 0 dX11_image_37 rfl ?_
        refine g_aload_n 1 dX11_image_38 rfl ?_
        obtain ⟨x13, e14, hF⟩ := q_bind hF
        refine g_getfR fl_X11_10 e14 dX11_image_39 ?_
        obtain ⟨u15, e16, hF⟩ := q_bind hF
        obtain ⟨x17, e18, hF⟩ := q_bind hF
        refine g_callVv0 (ci := 9) (q := (RX9, TX9, 9)) qm_X9_copy wd_1427 wd_1428 wd_1429 rfl e16 (M_X9_copy l b D z x7.2 e18) (As := [.ref x13]) rfl rfl (Nat.le_of_ble_eq_true rfl) ⟨(Nat.le_of_ble_eq_true rfl), (Nat.le_of_ble_eq_true rfl)⟩ ⟨rfl, rfl⟩ ⟨(Nat.le_of_ble_eq_true rfl), (Nat.le_of_ble_eq_true rfl)⟩ dX11_image_42 ?_
        refine g_iconst dX11_image_45 lt_iconst_1 ?_
        cases hF
        exact g_zret dX11_image_46 rfl zn_1 ⟨rfl, rfl, rfl⟩ (Nat.le_of_ble_eq_true rfl) (Nat.le_of_ble_eq_true rfl)
      · replace hF := q_es hF
        refine g_astore_n [(2, .ref x19), (0, .ref a0), (1, .int a1)] dX11_image_17 (Nat.le_of_ble_eq_true rfl) rfl ?_
        refine g_aload_n 0 dX11_image_18 rfl ?_
        refine g_ifnonnullR 37 dX11_image_19 (by decide) ?_
        refine g_aload_n 0 dX11_image_37 rfl ?_
        refine g_aload_n 1 dX11_image_38 rfl ?_
        obtain ⟨x20, e21, hF⟩ := q_bind hF
        refine g_getfR fl_X11_10 e21 dX11_image_39 ?_
        obtain ⟨u22, e23, hF⟩ := q_bind hF
        obtain ⟨x24, e25, hF⟩ := q_bind hF
        refine g_callVv0 (ci := 9) (q := (RX9, TX9, 9)) qm_X9_copy wd_1427 wd_1428 wd_1429 rfl e23 (M_X9_copy l b D z nx e25) (As := [.ref x20]) rfl rfl (Nat.le_of_ble_eq_true rfl) ⟨(Nat.le_of_ble_eq_true rfl), (Nat.le_of_ble_eq_true rfl)⟩ ⟨rfl, rfl⟩ ⟨(Nat.le_of_ble_eq_true rfl), (Nat.le_of_ble_eq_true rfl)⟩ dX11_image_42 ?_
        refine g_iconst dX11_image_45 lt_iconst_1 ?_
        cases hF
        exact g_zret dX11_image_46 rfl zn_1 ⟨rfl, rfl, rfl⟩ (Nat.le_of_ble_eq_true rfl) (Nat.le_of_ble_eq_true rfl)
    · replace hF := q_f c2 hF
      refine g_iconst dX11_image_9 lt_iconst_0 ?_
      cases hF
      exact g_zret dX11_image_10 rfl zn_0 ⟨rfl, rfl, rfl⟩ (Nat.le_of_ble_eq_true rfl) (Nat.le_of_ble_eq_true rfl)
def rm_X11_again : Room := { frames := 3, cells := 0, slots := 0, locals := 83 }
set_option maxRecDepth 100000 in
set_option maxHeartbeats 4000000 in
theorem M_X11_again (l : Launch) (b : Nat) (D : va_G) (z : Nat → Nat) (nx : Nat) {h : qH} {a0 : Nat} {a1 : Int32} {r : Int32 × qH} (hF : F_X11_again h a0 a1 = some r) : Me l b D z yX11_again cX11_again 3 (some .boolean) rm_X11_again [.ref a0, .int a1] h nx (qE (some (.int r.1)) r.2 nx) := by
  refine Me.of (by decide +kernel) (Nat.le_of_ble_eq_true rfl) ?_
  show Go l b D z yX11_again cX11_again 3 (some .boolean) rm_X11_again (qE (some (.int r.1)) r.2 nx) 0 [(0, .ref a0), (1, .int a1)] [] h nx 0 0
  unfold F_X11_again at hF
  refine g_iload_n 1 dX11_again_0 rfl ?_
  refine g_if_lt 9 dX11_again_1 (by decide) (fun c1 => ?_) (fun c1 => ?_)
  · replace hF := q_t c1 hF
    refine g_iconst dX11_again_9 lt_iconst_0 ?_
    cases hF
    exact g_zret dX11_again_10 rfl zn_0 ⟨rfl, rfl, rfl⟩ (Nat.le_of_ble_eq_true rfl) (Nat.le_of_ble_eq_true rfl)
  · replace hF := q_f c1 hF
    refine g_iload_n 1 dX11_again_4 rfl ?_
    refine g_iconst dX11_again_5 lt_iconst_3 ?_
    refine g_icmp_lt 11 dX11_again_6 (by decide) (fun c2 => ?_) (fun c2 => ?_)
    · replace hF := q_t c2 hF
      refine g_aload_n 0 dX11_again_11 rfl ?_
      obtain ⟨x3, e4, hF⟩ := q_bind hF
      refine g_getfR fl_X11_16 e4 dX11_again_12 ?_
      refine g_iload_n 1 dX11_again_15 rfl ?_
      obtain ⟨x5, e6, hF⟩ := q_bind hF
      refine g_aald e6 dX11_again_16 ?_
      rcases x5 with _ | x7
      · replace hF := q_en hF
        refine g_astore_nN [(2, .null), (0, .ref a0), (1, .int a1)] dX11_again_17 (Nat.le_of_ble_eq_true rfl) rfl ?_
        refine g_aload_nN 0 dX11_again_18 rfl ?_
        refine g_ifnonnullN dX11_again_19 ?_
        refine g_iconst dX11_again_22 lt_iconst_0 ?_
        cases hF
        exact g_zret dX11_again_23 rfl zn_0 ⟨rfl, rfl, rfl⟩ (Nat.le_of_ble_eq_true rfl) (Nat.le_of_ble_eq_true rfl)
      · replace hF := q_es hF
        refine g_astore_n [(2, .ref x7), (0, .ref a0), (1, .int a1)] dX11_again_17 (Nat.le_of_ble_eq_true rfl) rfl ?_
        refine g_aload_n 0 dX11_again_18 rfl ?_
        refine g_ifnonnullR 24 dX11_again_19 (by decide) ?_
        refine g_aload_n 1 dX11_again_24 rfl ?_
        obtain ⟨x8, e9, hF⟩ := q_bind hF
        refine g_getfR fl_X11_10 e9 dX11_again_25 ?_
        refine g_aload_n 0 dX11_again_28 rfl ?_
        obtain ⟨u10, e11, hF⟩ := q_bind hF
        obtain ⟨x12, e13, hF⟩ := q_bind hF
        refine g_callVv0 (ci := 9) (q := (RX9, TX9, 9)) qm_X9_copy wd_1427 wd_1428 wd_1429 rfl e11 (M_X9_copy l b D z nx e13) (As := [.ref x7]) rfl rfl (Nat.le_of_ble_eq_true rfl) ⟨(Nat.le_of_ble_eq_true rfl), (Nat.le_of_ble_eq_true rfl)⟩ ⟨rfl, rfl⟩ ⟨(Nat.le_of_ble_eq_true rfl), (Nat.le_of_ble_eq_true rfl)⟩ dX11_again_29 ?_
        refine g_iconst dX11_again_32 lt_iconst_1 ?_
        cases hF
        exact g_zret dX11_again_33 rfl zn_1 ⟨rfl, rfl, rfl⟩ (Nat.le_of_ble_eq_true rfl) (Nat.le_of_ble_eq_true rfl)
    · replace hF := q_f c2 hF
      refine g_iconst dX11_again_9 lt_iconst_0 ?_
      cases hF
      exact g_zret dX11_again_10 rfl zn_0 ⟨rfl, rfl, rfl⟩ (Nat.le_of_ble_eq_true rfl) (Nat.le_of_ble_eq_true rfl)
def rm_X12_init : Room := { frames := 1, cells := 26, slots := 10450, locals := 20 }
theorem rmc_X12_init : rm_X12_init.cells = 26 := rfl
theorem rms_X12_init : rm_X12_init.slots = 10450 := rfl
set_option maxRecDepth 100000 in
set_option maxHeartbeats 4000000 in
theorem M_X12_init (l : Launch) (b : Nat) (D : va_G) (z : Nat → Nat) (nx : Nat) {h : qH} {a0 : Nat} {r : qH × Nat} (hF : F_X12_init h nx a0 = some r) : Me l b D z yX12_init cX12_init 1 none rm_X12_init [.ref a0] h nx (qE none r.1 r.2) := by
  refine Me.of (by decide +kernel) (Nat.le_of_ble_eq_true rfl) ?_
  show Go l b D z yX12_init cX12_init 1 none rm_X12_init (qE none r.1 r.2) 0 [(0, .ref a0)] [] h nx 0 0
  unfold F_X12_init at hF
  refine g_aload_n 0 dX12_init_0 rfl ?_
  refine g_obj wd_1461 wd_190 wd_191 (Nat.le_of_ble_eq_true rfl) (Nat.le_of_ble_eq_true rfl) dX12_init_1 ?_
  refine g_aload_n 0 dX12_init_4 rfl ?_
  refine g_sipush dX12_init_5 lt_sipush_2400 ?_
  refine g_newb (N := 2400) wd_265 (by decide) (by decide) (Nat.le_of_ble_eq_true rfl) (Nat.le_of_ble_eq_true rfl) (Nat.le_of_ble_eq_true rfl) dX12_init_8 ?_
  obtain ⟨h1, e2, hF⟩ := q_bind hF
  refine g_putF fl_X12_7 e2 rfl rfl rfl (fun q hq => by cases hq; rfl) dX12_init_10 ?_
  refine g_aload_n 0 dX12_init_13 rfl ?_
  refine g_iconst dX12_init_14 lt_iconst_4 ?_
  refine g_newi (N := 4) wd_266 (by decide) (by decide) (Nat.le_of_ble_eq_true rfl) (Nat.le_of_ble_eq_true rfl) (Nat.le_of_ble_eq_true rfl) dX12_init_15 ?_
  obtain ⟨h3, e4, hF⟩ := q_bind hF
  refine g_putF fl_X12_13 e4 rfl rfl rfl (fun q hq => by cases hq; rfl) dX12_init_17 ?_
  refine g_aload_n 0 dX12_init_20 rfl ?_
  refine g_iconst dX12_init_21 lt_iconst_4 ?_
  refine g_newi (N := 4) wd_266 (by decide) (by decide) (Nat.le_of_ble_eq_true rfl) (Nat.le_of_ble_eq_true rfl) (Nat.le_of_ble_eq_true rfl) dX12_init_22 ?_
  obtain ⟨h5, e6, hF⟩ := q_bind hF
  refine g_putF fl_X12_17 e6 rfl rfl rfl (fun q hq => by cases hq; rfl) dX12_init_24 ?_
  refine g_aload_n 0 dX12_init_27 rfl ?_
  refine g_iconst dX12_init_28 lt_iconst_4 ?_
  refine g_newi (N := 4) wd_266 (by decide) (by decide) (Nat.le_of_ble_eq_true rfl) (Nat.le_of_ble_eq_true rfl) (Nat.le_of_ble_eq_true rfl) dX12_init_29 ?_
  obtain ⟨h7, e8, hF⟩ := q_bind hF
  refine g_putF fl_X12_20 e8 rfl rfl rfl (fun q hq => by cases hq; rfl) dX12_init_31 ?_
  refine g_aload_n 0 dX12_init_34 rfl ?_
  refine g_bipush dX12_init_35 lt_bipush_16 ?_
  refine g_newi (N := 16) wd_266 (by decide) (by decide) (Nat.le_of_ble_eq_true rfl) (Nat.le_of_ble_eq_true rfl) (Nat.le_of_ble_eq_true rfl) dX12_init_37 ?_
  obtain ⟨h9, e10, hF⟩ := q_bind hF
  refine g_putF fl_X12_23 e10 rfl rfl rfl (fun q hq => by cases hq; rfl) dX12_init_39 ?_
  refine g_aload_n 0 dX12_init_42 rfl ?_
  refine g_sipush dX12_init_43 lt_sipush_896 ?_
  refine g_newi (N := 896) wd_266 (by decide) (by decide) (Nat.le_of_ble_eq_true rfl) (Nat.le_of_ble_eq_true rfl) (Nat.le_of_ble_eq_true rfl) dX12_init_46 ?_
  obtain ⟨h11, e12, hF⟩ := q_bind hF
  refine g_putF fl_X12_26 e12 rfl rfl rfl (fun q hq => by cases hq; rfl) dX12_init_48 ?_
  refine g_aload_n 0 dX12_init_51 rfl ?_
  refine g_sipush dX12_init_52 lt_sipush_648 ?_
  refine g_newi (N := 648) wd_266 (by decide) (by decide) (Nat.le_of_ble_eq_true rfl) (Nat.le_of_ble_eq_true rfl) (Nat.le_of_ble_eq_true rfl) dX12_init_55 ?_
  obtain ⟨h13, e14, hF⟩ := q_bind hF
  refine g_putF fl_X12_29 e14 rfl rfl rfl (fun q hq => by cases hq; rfl) dX12_init_57 ?_
  refine g_aload_n 0 dX12_init_60 rfl ?_
  refine g_bipush dX12_init_61 lt_bipush_104 ?_
  refine g_newi (N := 104) wd_266 (by decide) (by decide) (Nat.le_of_ble_eq_true rfl) (Nat.le_of_ble_eq_true rfl) (Nat.le_of_ble_eq_true rfl) dX12_init_63 ?_
  obtain ⟨h15, e16, hF⟩ := q_bind hF
  refine g_putF fl_X12_32 e16 rfl rfl rfl (fun q hq => by cases hq; rfl) dX12_init_65 ?_
  refine g_aload_n 0 dX12_init_68 rfl ?_
  refine g_sipush dX12_init_69 lt_sipush_216 ?_
  refine g_newi (N := 216) wd_266 (by decide) (by decide) (Nat.le_of_ble_eq_true rfl) (Nat.le_of_ble_eq_true rfl) (Nat.le_of_ble_eq_true rfl) dX12_init_72 ?_
  obtain ⟨h17, e18, hF⟩ := q_bind hF
  refine g_putF fl_X12_35 e18 rfl rfl rfl (fun q hq => by cases hq; rfl) dX12_init_74 ?_
  refine g_aload_n 0 dX12_init_77 rfl ?_
  refine g_bipush dX12_init_78 lt_bipush_112 ?_
  refine g_newi (N := 112) wd_266 (by decide) (by decide) (Nat.le_of_ble_eq_true rfl) (Nat.le_of_ble_eq_true rfl) (Nat.le_of_ble_eq_true rfl) dX12_init_80 ?_
  obtain ⟨h19, e20, hF⟩ := q_bind hF
  refine g_putF fl_X12_38 e20 rfl rfl rfl (fun q hq => by cases hq; rfl) dX12_init_82 ?_
  refine g_aload_n 0 dX12_init_85 rfl ?_
  refine g_iconst dX12_init_86 lt_iconst_4 ?_
  refine g_newi (N := 4) wd_266 (by decide) (by decide) (Nat.le_of_ble_eq_true rfl) (Nat.le_of_ble_eq_true rfl) (Nat.le_of_ble_eq_true rfl) dX12_init_87 ?_
  obtain ⟨h21, e22, hF⟩ := q_bind hF
  refine g_putF fl_X12_41 e22 rfl rfl rfl (fun q hq => by cases hq; rfl) dX12_init_89 ?_
  refine g_aload_n 0 dX12_init_92 rfl ?_
  refine g_sipush dX12_init_93 lt_sipush_400 ?_
  refine g_newi (N := 400) wd_266 (by decide) (by decide) (Nat.le_of_ble_eq_true rfl) (Nat.le_of_ble_eq_true rfl) (Nat.le_of_ble_eq_true rfl) dX12_init_96 ?_
  obtain ⟨h23, e24, hF⟩ := q_bind hF
  refine g_putF fl_X12_44 e24 rfl rfl rfl (fun q hq => by cases hq; rfl) dX12_init_98 ?_
  refine g_aload_n 0 dX12_init_101 rfl ?_
  refine g_bipush dX12_init_102 lt_bipush_20 ?_
  refine g_newi (N := 20) wd_266 (by decide) (by decide) (Nat.le_of_ble_eq_true rfl) (Nat.le_of_ble_eq_true rfl) (Nat.le_of_ble_eq_true rfl) dX12_init_104 ?_
  obtain ⟨h25, e26, hF⟩ := q_bind hF
  refine g_putF fl_X12_47 e26 rfl rfl rfl (fun q hq => by cases hq; rfl) dX12_init_106 ?_
  refine g_aload_n 0 dX12_init_109 rfl ?_
  refine g_bipush dX12_init_110 lt_bipush_30 ?_
  refine g_newi (N := 30) wd_266 (by decide) (by decide) (Nat.le_of_ble_eq_true rfl) (Nat.le_of_ble_eq_true rfl) (Nat.le_of_ble_eq_true rfl) dX12_init_112 ?_
  obtain ⟨h27, e28, hF⟩ := q_bind hF
  refine g_putF fl_X12_50 e28 rfl rfl rfl (fun q hq => by cases hq; rfl) dX12_init_114 ?_
  refine g_aload_n 0 dX12_init_117 rfl ?_
  refine g_sipush dX12_init_118 lt_sipush_420 ?_
  refine g_newi (N := 420) wd_266 (by decide) (by decide) (Nat.le_of_ble_eq_true rfl) (Nat.le_of_ble_eq_true rfl) (Nat.le_of_ble_eq_true rfl) dX12_init_121 ?_
  obtain ⟨h29, e30, hF⟩ := q_bind hF
  refine g_putF fl_X12_53 e30 rfl rfl rfl (fun q hq => by cases hq; rfl) dX12_init_123 ?_
  refine g_aload_n 0 dX12_init_126 rfl ?_
  refine g_sipush dX12_init_127 lt_sipush_200 ?_
  refine g_newi (N := 200) wd_266 (by decide) (by decide) (Nat.le_of_ble_eq_true rfl) (Nat.le_of_ble_eq_true rfl) (Nat.le_of_ble_eq_true rfl) dX12_init_130 ?_
  obtain ⟨h31, e32, hF⟩ := q_bind hF
  refine g_putF fl_X12_56 e32 rfl rfl rfl (fun q hq => by cases hq; rfl) dX12_init_132 ?_
  refine g_aload_n 0 dX12_init_135 rfl ?_
  refine g_bipush dX12_init_136 lt_bipush_20 ?_
  refine g_newl (N := 20) wd_449 (by decide) (by decide) (Nat.le_of_ble_eq_true rfl) (Nat.le_of_ble_eq_true rfl) (Nat.le_of_ble_eq_true rfl) dX12_init_138 ?_
  obtain ⟨h33, e34, hF⟩ := q_bind hF
  refine g_putF fl_X12_59 e34 rfl rfl rfl (fun q hq => by cases hq; rfl) dX12_init_140 ?_
  refine g_aload_n 0 dX12_init_143 rfl ?_
  refine g_bipush dX12_init_144 lt_bipush_20 ?_
  refine g_newl (N := 20) wd_449 (by decide) (by decide) (Nat.le_of_ble_eq_true rfl) (Nat.le_of_ble_eq_true rfl) (Nat.le_of_ble_eq_true rfl) dX12_init_146 ?_
  obtain ⟨h35, e36, hF⟩ := q_bind hF
  refine g_putF fl_X12_63 e36 rfl rfl rfl (fun q hq => by cases hq; rfl) dX12_init_148 ?_
  refine g_aload_n 0 dX12_init_151 rfl ?_
  refine g_bipush dX12_init_152 lt_bipush_20 ?_
  refine g_newi (N := 20) wd_266 (by decide) (by decide) (Nat.le_of_ble_eq_true rfl) (Nat.le_of_ble_eq_true rfl) (Nat.le_of_ble_eq_true rfl) dX12_init_154 ?_
  obtain ⟨h37, e38, hF⟩ := q_bind hF
  refine g_putF fl_X12_66 e38 rfl rfl rfl (fun q hq => by cases hq; rfl) dX12_init_156 ?_
  refine g_aload_n 0 dX12_init_159 rfl ?_
  refine g_bipush dX12_init_160 lt_bipush_20 ?_
  refine g_newi (N := 20) wd_266 (by decide) (by decide) (Nat.le_of_ble_eq_true rfl) (Nat.le_of_ble_eq_true rfl) (Nat.le_of_ble_eq_true rfl) dX12_init_162 ?_
  obtain ⟨h39, e40, hF⟩ := q_bind hF
  refine g_putF fl_X12_69 e40 rfl rfl rfl (fun q hq => by cases hq; rfl) dX12_init_164 ?_
  refine g_aload_n 0 dX12_init_167 rfl ?_
  refine g_sipush dX12_init_168 lt_sipush_169 ?_
  refine g_newi (N := 169) wd_266 (by decide) (by decide) (Nat.le_of_ble_eq_true rfl) (Nat.le_of_ble_eq_true rfl) (Nat.le_of_ble_eq_true rfl) dX12_init_171 ?_
  obtain ⟨h41, e42, hF⟩ := q_bind hF
  refine g_putF fl_X12_72 e42 rfl rfl rfl (fun q hq => by cases hq; rfl) dX12_init_173 ?_
  refine g_aload_n 0 dX12_init_176 rfl ?_
  refine g_sipush dX12_init_177 lt_sipush_240 ?_
  refine g_newl (N := 240) wd_449 (by decide) (by decide) (Nat.le_of_ble_eq_true rfl) (Nat.le_of_ble_eq_true rfl) (Nat.le_of_ble_eq_true rfl) dX12_init_180 ?_
  obtain ⟨h43, e44, hF⟩ := q_bind hF
  refine g_putF fl_X12_75 e44 rfl rfl rfl (fun q hq => by cases hq; rfl) dX12_init_182 ?_
  refine g_aload_n 0 dX12_init_185 rfl ?_
  refine g_sipush dX12_init_186 lt_sipush_240 ?_
  refine g_newl (N := 240) wd_449 (by decide) (by decide) (Nat.le_of_ble_eq_true rfl) (Nat.le_of_ble_eq_true rfl) (Nat.le_of_ble_eq_true rfl) dX12_init_189 ?_
  obtain ⟨h45, e46, hF⟩ := q_bind hF
  refine g_putF fl_X12_78 e46 rfl rfl rfl (fun q hq => by cases hq; rfl) dX12_init_191 ?_
  refine g_aload_n 0 dX12_init_194 rfl ?_
  refine g_sipush dX12_init_195 lt_sipush_240 ?_
  refine g_newi (N := 240) wd_266 (by decide) (by decide) (Nat.le_of_ble_eq_true rfl) (Nat.le_of_ble_eq_true rfl) (Nat.le_of_ble_eq_true rfl) dX12_init_198 ?_
  obtain ⟨h47, e48, hF⟩ := q_bind hF
  refine g_putF fl_X12_81 e48 rfl rfl rfl (fun q hq => by cases hq; rfl) dX12_init_200 ?_
  refine g_aload_n 0 dX12_init_203 rfl ?_
  refine g_sipush dX12_init_204 lt_sipush_4000 ?_
  refine g_newi (N := 4000) wd_266 (by decide) (by decide) (Nat.le_of_ble_eq_true rfl) (Nat.le_of_ble_eq_true rfl) (Nat.le_of_ble_eq_true rfl) dX12_init_207 ?_
  obtain ⟨h49, e50, hF⟩ := q_bind hF
  refine g_putF fl_X12_84 e50 rfl rfl rfl (fun q hq => by cases hq; rfl) dX12_init_209 ?_
  refine g_aload_n 0 dX12_init_212 rfl ?_
  refine g_iconst dX12_init_213 lt_iconst_3 ?_
  refine g_newz (N := 3) wd_1610 (by decide) (by decide) (Nat.le_of_ble_eq_true rfl) (Nat.le_of_ble_eq_true rfl) (Nat.le_of_ble_eq_true rfl) dX12_init_214 ?_
  obtain ⟨h51, e52, hF⟩ := q_bind hF
  refine g_putF fl_X12_87 e52 rfl rfl rfl (fun q hq => by cases hq; rfl) dX12_init_216 ?_
  refine g_aload_n 0 dX12_init_219 rfl ?_
  obtain ⟨x53, e54, hF⟩ := q_bind hF
  refine g_getfR fl_X12_20 e54 dX12_init_220 ?_
  refine g_iconst dX12_init_223 lt_iconst_0 ?_
  refine g_iconst dX12_init_224 lt_iconst_m1 ?_
  obtain ⟨h55, e56, hF⟩ := q_bind hF
  refine g_iast e56 dX12_init_225 ?_
  cases hF
  exact g_vret dX12_init_226 rfl ⟨rfl, rfl, rfl⟩ (Nat.le_of_ble_eq_true rfl) (Nat.le_of_ble_eq_true rfl)
def rm_X12_in : Room := { frames := 0, cells := 0, slots := 0, locals := 0 }
set_option maxRecDepth 100000 in
set_option maxHeartbeats 4000000 in
theorem M_X12_in (l : Launch) (b : Nat) (D : va_G) (z : Nat → Nat) (nx : Nat) {h : qH} {a0 : Int32} {a1 : Int32} {a2 : Int32} {r : Int32} (hF : F_X12_in h a0 a1 a2 = some r) : Me l b D z yX12_in cX12_in 3 (some .boolean) rm_X12_in [.int a0, .int a1, .int a2] h nx (qE (some (.int r)) h nx) := by
  refine Me.of (by decide +kernel) (Nat.le_of_ble_eq_true rfl) ?_
  show Go l b D z yX12_in cX12_in 3 (some .boolean) rm_X12_in (qE (some (.int r)) h nx) 0 [(0, .int a0), (1, .int a1), (2, .int a2)] [] h nx 0 0
  unfold F_X12_in at hF
  refine g_iload_n 0 dX12_in_0 rfl ?_
  refine g_iload_n 1 dX12_in_1 rfl ?_
  refine g_icmp_lt 14 dX12_in_2 (by decide) (fun c1 => ?_) (fun c1 => ?_)
  · replace hF := q_t c1 hF
    refine g_iconst dX12_in_14 lt_iconst_0 ?_
    cases hF
    exact g_zret dX12_in_15 rfl zn_0 ⟨rfl, rfl, rfl⟩ (Nat.le_of_ble_eq_true rfl) (Nat.le_of_ble_eq_true rfl)
  · replace hF := q_f c1 hF
    refine g_iload_n 0 dX12_in_5 rfl ?_
    refine g_iload_n 2 dX12_in_6 rfl ?_
    refine g_icmp_gt 14 dX12_in_7 (by decide) (fun c2 => ?_) (fun c2 => ?_)
    · replace hF := q_t c2 hF
      refine g_iconst dX12_in_14 lt_iconst_0 ?_
      cases hF
      exact g_zret dX12_in_15 rfl zn_0 ⟨rfl, rfl, rfl⟩ (Nat.le_of_ble_eq_true rfl) (Nat.le_of_ble_eq_true rfl)
    · replace hF := q_f c2 hF
      refine g_iconst dX12_in_10 lt_iconst_1 ?_
      refine g_goto 15 dX12_in_11 (by decide) ?_
      cases hF
      exact g_zret dX12_in_15 rfl zn_1 ⟨rfl, rfl, rfl⟩ (Nat.le_of_ble_eq_true rfl) (Nat.le_of_ble_eq_true rfl)
def rm_X12_has : Room := { frames := 0, cells := 0, slots := 0, locals := 0 }
set_option maxRecDepth 100000 in
set_option maxHeartbeats 4000000 in
theorem M_X12_has (l : Launch) (b : Nat) (D : va_G) (z : Nat → Nat) (nx : Nat) {h : qH} {a0 : Int32} {a1 : Int32} {r : Int32} (hF : F_X12_has h a0 a1 = some r) : Me l b D z yX12_has cX12_has 2 (some .boolean) rm_X12_has [.int a0, .int a1] h nx (qE (some (.int r)) h nx) := by
  refine Me.of (by decide +kernel) (Nat.le_of_ble_eq_true rfl) ?_
  show Go l b D z yX12_has cX12_has 2 (some .boolean) rm_X12_has (qE (some (.int r)) h nx) 0 [(0, .int a0), (1, .int a1)] [] h nx 0 0
  unfold F_X12_has at hF
  refine g_iload_n 0 dX12_has_0 rfl ?_
  refine g_iload_n 1 dX12_has_1 rfl ?_
  refine g_ishr dX12_has_2 ?_
  refine g_iconst dX12_has_3 lt_iconst_1 ?_
  refine g_iand dX12_has_4 ?_
  refine g_iconst dX12_has_5 lt_iconst_1 ?_
  refine g_icmp_ne 13 dX12_has_6 (by decide) (fun c1 => ?_) (fun c1 => ?_)
  · replace hF := q_f c1 hF
    refine g_iconst dX12_has_13 lt_iconst_0 ?_
    cases hF
    exact g_zret dX12_has_14 rfl zn_0 ⟨rfl, rfl, rfl⟩ (Nat.le_of_ble_eq_true rfl) (Nat.le_of_ble_eq_true rfl)
  · replace hF := q_t c1 hF
    refine g_iconst dX12_has_9 lt_iconst_1 ?_
    refine g_goto 14 dX12_has_10 (by decide) ?_
    cases hF
    exact g_zret dX12_has_14 rfl zn_1 ⟨rfl, rfl, rfl⟩ (Nat.le_of_ble_eq_true rfl) (Nat.le_of_ble_eq_true rfl)
def rm_X12_greater : Room := { frames := 0, cells := 0, slots := 0, locals := 0 }
set_option maxRecDepth 100000 in
set_option maxHeartbeats 4000000 in
theorem M_X12_greater (l : Launch) (b : Nat) (D : va_G) (z : Nat → Nat) (nx : Nat) {h : qH} {a0 : Int32} {a1 : Int32} {r : Int32} (hF : F_X12_greater h a0 a1 = some r) : Me l b D z yX12_greater cX12_greater 2 (some .int) rm_X12_greater [.int a0, .int a1] h nx (qE (some (.int r)) h nx) := by
  refine Me.of (by decide +kernel) (Nat.le_of_ble_eq_true rfl) ?_
  show Go l b D z yX12_greater cX12_greater 2 (some .int) rm_X12_greater (qE (some (.int r)) h nx) 0 [(0, .int a0), (1, .int a1)] [] h nx 0 0
  unfold F_X12_greater at hF
  refine g_iload_n 0 dX12_greater_0 rfl ?_
  refine g_iload_n 1 dX12_greater_1 rfl ?_
  refine g_icmp_le 9 dX12_greater_2 (by decide) (fun c1 => ?_) (fun c1 => ?_)
  · replace hF := q_t c1 hF
    refine g_iload_n 1 dX12_greater_9 rfl ?_
    cases hF
    exact g_iret dX12_greater_10 rfl ⟨rfl, rfl, rfl⟩ (Nat.le_of_ble_eq_true rfl) (Nat.le_of_ble_eq_true rfl)
  · replace hF := q_f c1 hF
    refine g_iload_n 0 dX12_greater_5 rfl ?_
    refine g_goto 10 dX12_greater_6 (by decide) ?_
    cases hF
    exact g_iret dX12_greater_10 rfl ⟨rfl, rfl, rfl⟩ (Nat.le_of_ble_eq_true rfl) (Nat.le_of_ble_eq_true rfl)
def rm_X12_lesser : Room := { frames := 0, cells := 0, slots := 0, locals := 0 }
set_option maxRecDepth 100000 in
set_option maxHeartbeats 4000000 in
theorem M_X12_lesser (l : Launch) (b : Nat) (D : va_G) (z : Nat → Nat) (nx : Nat) {h : qH} {a0 : Int32} {a1 : Int32} {r : Int32} (hF : F_X12_lesser h a0 a1 = some r) : Me l b D z yX12_lesser cX12_lesser 2 (some .int) rm_X12_lesser [.int a0, .int a1] h nx (qE (some (.int r)) h nx) := by
  refine Me.of (by decide +kernel) (Nat.le_of_ble_eq_true rfl) ?_
  show Go l b D z yX12_lesser cX12_lesser 2 (some .int) rm_X12_lesser (qE (some (.int r)) h nx) 0 [(0, .int a0), (1, .int a1)] [] h nx 0 0
  unfold F_X12_lesser at hF
  refine g_iload_n 0 dX12_lesser_0 rfl ?_
  refine g_iload_n 1 dX12_lesser_1 rfl ?_
  refine g_icmp_ge 9 dX12_lesser_2 (by decide) (fun c1 => ?_) (fun c1 => ?_)
  · replace hF := q_t c1 hF
    refine g_iload_n 1 dX12_lesser_9 rfl ?_
    cases hF
    exact g_iret dX12_lesser_10 rfl ⟨rfl, rfl, rfl⟩ (Nat.le_of_ble_eq_true rfl) (Nat.le_of_ble_eq_true rfl)
  · replace hF := q_f c1 hF
    refine g_iload_n 0 dX12_lesser_5 rfl ?_
    refine g_goto 10 dX12_lesser_6 (by decide) ?_
    cases hF
    exact g_iret dX12_lesser_10 rfl ⟨rfl, rfl, rfl⟩ (Nat.le_of_ble_eq_true rfl) (Nat.le_of_ble_eq_true rfl)
def rm_X12_ones : Room := { frames := 1, cells := 0, slots := 0, locals := 21 }
set_option maxRecDepth 100000 in
set_option maxHeartbeats 4000000 in
theorem B_X12_ones_4 (l : Launch) (b : Nat) (D : va_G) (z : Nat → Nat) {Φ : Option Value → qH → Nat → Prop} {nx : Nat} {h : qH} {a0 : Int32} {a1 : Int32} {a2 : Int32} {o : (Int32 × Int32) ⊕ Int32} (hF : b_X12_ones_4 h a0 a1 a2 = some o) (hback : ∀ (b1 : Int32) (b2 : Int32), o = .inl (b1, b2) → Go l b D z yX12_ones cX12_ones 3 (some .int) rm_X12_ones Φ 4 [(0, .int a0), (1, .int b1), (2, .int b2)] [] h nx 0 0) (hx0 : ∀ (b1 : Int32), o = .inr b1 → Go l b D z yX12_ones cX12_ones 3 (some .int) rm_X12_ones Φ 32 [(1, .int b1)] [] h nx 0 0) : Go l b D z yX12_ones cX12_ones 3 (some .int) rm_X12_ones Φ 4 [(0, .int a0), (1, .int a1), (2, .int a2)] [] h nx 0 0 := by
  unfold b_X12_ones_4 at hF
  refine g_iload_n 2 dX12_ones_4 rfl ?_
  refine g_bipush dX12_ones_5 lt_bipush_9 ?_
  refine g_icmp_ge 32 dX12_ones_7 (by decide) (fun c1 => ?_) (fun c1 => ?_)
  · replace hF := q_t c1 hF
    cases hF
    refine g_sub [1] rfl ?_
    exact hx0 _ rfl
  · replace hF := q_f c1 hF
    refine g_iload_n 1 dX12_ones_10 rfl ?_
    refine g_iload_n 0 dX12_ones_11 rfl ?_
    refine g_iload_n 2 dX12_ones_12 rfl ?_
    obtain ⟨x2, e3, hF⟩ := q_bind hF
    refine g_callSr0 qm_X12_has wd_1825 wd_1826 (M_X12_has l b D z nx e3) (As := [.int a0, .int a2]) rfl rfl (Nat.le_of_ble_eq_true rfl) ⟨(Nat.le_of_ble_eq_true rfl), (Nat.le_of_ble_eq_true rfl)⟩ ⟨rfl, rfl⟩ ⟨(Nat.le_of_ble_eq_true rfl), (Nat.le_of_ble_eq_true rfl)⟩ dX12_ones_13 ?_
    refine g_if_eq 23 dX12_ones_16 (by decide) (fun c4 => ?_) (fun c4 => ?_)
    · replace hF := q_t c4 hF
      refine g_iconst dX12_ones_23 lt_iconst_0 ?_
      refine g_iadd dX12_ones_24 ?_
      refine g_istore_n [(1, .int (a1 + (0 : Int32))), (0, .int a0), (2, .int a2)] dX12_ones_25 (Nat.le_of_ble_eq_true rfl) rfl ?_
      refine g_iinc [(2, .int (a2 + 1)), (1, .int (a1 + (0 : Int32))), (0, .int a0)] 2 dX12_ones_26 rfl (congrArg (a2 + ·) lt_iconst_1) (Nat.le_of_ble_eq_true rfl) rfl ?_
      refine g_goto 4 dX12_ones_29 (by decide) ?_
      cases hF
      refine g_sub [2, 1, 0] rfl ?_
      exact hback _ _ rfl
    · replace hF := q_f c4 hF
      refine g_iconst dX12_ones_19 lt_iconst_1 ?_
      refine g_goto 24 dX12_ones_20 (by decide) ?_
      refine g_iadd dX12_ones_24 ?_
      refine g_istore_n [(1, .int (a1 + (1 : Int32))), (0, .int a0), (2, .int a2)] dX12_ones_25 (Nat.le_of_ble_eq_true rfl) rfl ?_
      refine g_iinc [(2, .int (a2 + 1)), (1, .int (a1 + (1 : Int32))), (0, .int a0)] 2 dX12_ones_26 rfl (congrArg (a2 + ·) lt_iconst_1) (Nat.le_of_ble_eq_true rfl) rfl ?_
      refine g_goto 4 dX12_ones_29 (by decide) ?_
      cases hF
      refine g_sub [2, 1, 0] rfl ?_
      exact hback _ _ rfl
set_option maxRecDepth 100000 in
set_option maxHeartbeats 4000000 in
theorem L_X12_ones_4 (l : Launch) (b : Nat) (D : va_G) (z : Nat → Nat) {Φ : Option Value → qH → Nat → Prop} {nx : Nat} {h : qH} {a0 : Int32} : ∀ (n : Nat) (a1 : Int32) (a2 : Int32) (e : Int32), q_lp (s_X12_ones_4 h a0) n (a1, a2) = some e → (∀ (b1 : Int32), e = b1 → Go l b D z yX12_ones cX12_ones 3 (some .int) rm_X12_ones Φ 32 [(1, .int b1)] [] h nx 0 0) → Go l b D z yX12_ones cX12_ones 3 (some .int) rm_X12_ones Φ 4 [(0, .int a0), (1, .int a1), (2, .int a2)] [] h nx 0 0 := by
  intro n
  induction n with
  | zero => intro a1 a2 e he; cases (show none = some e from he)
  | succ n ih =>
    intro a1 a2 e he hx0
    obtain ⟨o, ho, h1, h2⟩ := q_lp_succ he
    exact B_X12_ones_4 l b D z (show b_X12_ones_4 h a0 a1 a2 = some o from ho) (fun b1 b2 hb => ih _ _ e (h1 _ hb) hx0) (fun p0 hr => hx0 p0 (h2 _ hr).symm)
set_option maxRecDepth 100000 in
set_option maxHeartbeats 4000000 in
theorem M_X12_ones (l : Launch) (b : Nat) (D : va_G) (z : Nat → Nat) (nx : Nat) {h : qH} {a0 : Int32} {r : Int32} (hF : F_X12_ones h a0 = some r) : Me l b D z yX12_ones cX12_ones 3 (some .int) rm_X12_ones [.int a0] h nx (qE (some (.int r)) h nx) := by
  refine Me.of (by decide +kernel) (Nat.le_of_ble_eq_true rfl) ?_
  show Go l b D z yX12_ones cX12_ones 3 (some .int) rm_X12_ones (qE (some (.int r)) h nx) 0 [(0, .int a0)] [] h nx 0 0
  unfold F_X12_ones at hF
  refine g_iconst dX12_ones_0 lt_iconst_0 ?_
  refine g_istore_n [(1, .int (0 : Int32)), (0, .int a0)] dX12_ones_1 (Nat.le_of_ble_eq_true rfl) rfl ?_
  refine g_iconst dX12_ones_2 lt_iconst_0 ?_
  refine g_istore_n [(2, .int (0 : Int32)), (1, .int (0 : Int32)), (0, .int a0)] dX12_ones_3 (Nat.le_of_ble_eq_true rfl) rfl ?_
  obtain ⟨e1, w2, hF⟩ := q_bind hF
  refine g_sub [2, 1, 0] rfl ?_
  refine L_X12_ones_4 l b D z q_N (0 : Int32) (0 : Int32) e1 w2 ?_
  · intro o3 w4
    replace w4 := w4.symm
    subst w4
    refine g_iload_n 0 dX12_ones_32 rfl ?_
    cases hF
    exact g_iret dX12_ones_33 rfl ⟨rfl, rfl, rfl⟩ (Nat.le_of_ble_eq_true rfl) (Nat.le_of_ble_eq_true rfl)
def rm_X12_common : Room := { frames := 0, cells := 0, slots := 0, locals := 0 }
set_option maxRecDepth 100000 in
set_option maxHeartbeats 4000000 in
theorem B_X12_common_6 (l : Launch) (b : Nat) (D : va_G) (z : Nat → Nat) {Φ : Option Value → qH → Nat → Prop} {nx : Nat} {h : qH} {a4 : Int64} {a6 : Int64} {o : (Int64 × Int64) ⊕ Int64} (hF : b_X12_common_6 h  a4 a6 = some o) (hback : ∀ (b4 : Int64) (b6 : Int64), o = .inl (b4, b6) → Go l b D z yX12_common cX12_common 10 (some .long) rm_X12_common Φ 6 [(4, .long b4), (6, .long b6)] [] h nx 0 0) (hx0 : ∀ (b4 : Int64), o = .inr b4 → Go l b D z yX12_common cX12_common 10 (some .long) rm_X12_common Φ 31 [(4, .long b4)] [] h nx 0 0) : Go l b D z yX12_common cX12_common 10 (some .long) rm_X12_common Φ 6 [(4, .long a4), (6, .long a6)] [] h nx 0 0 := by
  unfold b_X12_common_6 at hF
  refine g_lload 1 dX12_common_6 rfl ?_
  refine g_lconst (v := 0) dX12_common_8 (by decide +kernel) ?_
  refine g_lcmp dX12_common_9 ?_
  refine g_if_eq 31 dX12_common_10 (by decide) (fun c1 => ?_) (fun c1 => ?_)
  · replace hF := q_t c1 hF
    cases hF
    refine g_sub [0] rfl ?_
    exact hx0 _ rfl
  · replace hF := q_f c1 hF
    refine g_lload 0 dX12_common_13 rfl ?_
    refine g_lload 1 dX12_common_15 rfl ?_
    obtain ⟨u2, e3, hF⟩ := q_bind hF
    refine g_lrem dX12_common_17 (q_lnz_spec e3) ?_
    refine g_lstore [(8, .long (q_lrem a4 a6)), (4, .long a4), (6, .long a6)] dX12_common_18 (Nat.le_of_ble_eq_true rfl) rfl ?_
    refine g_lload 2 dX12_common_20 rfl ?_
    refine g_lstore [(4, .long a6), (8, .long (q_lrem a4 a6)), (6, .long a6)] dX12_common_22 (Nat.le_of_ble_eq_true rfl) rfl ?_
    refine g_lload 1 dX12_common_24 rfl ?_
    refine g_lstore [(6, .long (q_lrem a4 a6)), (4, .long a6), (8, .long (q_lrem a4 a6))] dX12_common_26 (Nat.le_of_ble_eq_true rfl) rfl ?_
    refine g_goto 6 dX12_common_28 (by decide) ?_
    cases hF
    refine g_sub [1, 0] rfl ?_
    exact hback _ _ rfl
set_option maxRecDepth 100000 in
set_option maxHeartbeats 4000000 in
theorem L_X12_common_6 (l : Launch) (b : Nat) (D : va_G) (z : Nat → Nat) {Φ : Option Value → qH → Nat → Prop} {nx : Nat} {h : qH} : ∀ (n : Nat) (a4 : Int64) (a6 : Int64) (e : Int64), q_lp (s_X12_common_6 h ) n (a4, a6) = some e → (∀ (b4 : Int64), e = b4 → Go l b D z yX12_common cX12_common 10 (some .long) rm_X12_common Φ 31 [(4, .long b4)] [] h nx 0 0) → Go l b D z yX12_common cX12_common 10 (some .long) rm_X12_common Φ 6 [(4, .long a4), (6, .long a6)] [] h nx 0 0 := by
  intro n
  induction n with
  | zero => intro a4 a6 e he; cases (show none = some e from he)
  | succ n ih =>
    intro a4 a6 e he hx0
    obtain ⟨o, ho, h1, h2⟩ := q_lp_succ he
    exact B_X12_common_6 l b D z (show b_X12_common_6 h  a4 a6 = some o from ho) (fun b4 b6 hb => ih _ _ e (h1 _ hb) hx0) (fun p0 hr => hx0 p0 (h2 _ hr).symm)
set_option maxRecDepth 100000 in
set_option maxHeartbeats 4000000 in
theorem M_X12_common (l : Launch) (b : Nat) (D : va_G) (z : Nat → Nat) (nx : Nat) {h : qH} {a0 : Int64} {a2 : Int64} {r : Int64} (hF : F_X12_common h a0 a2 = some r) : Me l b D z yX12_common cX12_common 10 (some .long) rm_X12_common [.long a0, .long a2] h nx (qE (some (.long r)) h nx) := by
  refine Me.of (by decide +kernel) (Nat.le_of_ble_eq_true rfl) ?_
  show Go l b D z yX12_common cX12_common 10 (some .long) rm_X12_common (qE (some (.long r)) h nx) 0 [(0, .long a0), (2, .long a2)] [] h nx 0 0
  unfold F_X12_common at hF
  refine g_lload_n 0 dX12_common_0 rfl ?_
  refine g_lstore [(4, .long a0), (0, .long a0), (2, .long a2)] dX12_common_1 (Nat.le_of_ble_eq_true rfl) rfl ?_
  refine g_lload_n 2 dX12_common_3 rfl ?_
  refine g_lstore [(6, .long a2), (4, .long a0), (0, .long a0), (2, .long a2)] dX12_common_4 (Nat.le_of_ble_eq_true rfl) rfl ?_
  obtain ⟨e1, w2, hF⟩ := q_bind hF
  refine g_sub [1, 0] rfl ?_
  refine L_X12_common_6 l b D z q_N a0 a2 e1 w2 ?_
  · intro o3 w4
    replace w4 := w4.symm
    subst w4
    refine g_lload 0 dX12_common_31 rfl ?_
    cases hF
    exact g_lret dX12_common_33 rfl ⟨rfl, rfl, rfl⟩ (Nat.le_of_ble_eq_true rfl) (Nat.le_of_ble_eq_true rfl)
def rm_X12_part : Room := { frames := 1, cells := 0, slots := 0, locals := 29 }
set_option maxRecDepth 100000 in
set_option maxHeartbeats 4000000 in
theorem M_X12_part (l : Launch) (b : Nat) (D : va_G) (z : Nat → Nat) (nx : Nat) {h : qH} {a0 : Int64} {a2 : Int64} {a4 : Int32} {r : Int64} (hF : F_X12_part h a0 a2 a4 = some r) : Me l b D z yX12_part cX12_part 5 (some .long) rm_X12_part [.long a0, .long a2, .int a4] h nx (qE (some (.long r)) h nx) := by
  refine Me.of (by decide +kernel) (Nat.le_of_ble_eq_true rfl) ?_
  show Go l b D z yX12_part cX12_part 5 (some .long) rm_X12_part (qE (some (.long r)) h nx) 0 [(0, .long a0), (2, .long a2), (4, .int a4)] [] h nx 0 0
  unfold F_X12_part at hF
  refine g_iload 2 dX12_part_0 rfl ?_
  refine g_if_eq 9 dX12_part_2 (by decide) (fun c1 => ?_) (fun c1 => ?_)
  · replace hF := q_t c1 hF
    refine g_lload_n 0 dX12_part_9 rfl ?_
    refine g_lload_n 1 dX12_part_10 rfl ?_
    refine g_lload_n 0 dX12_part_11 rfl ?_
    obtain ⟨x2, e3, hF⟩ := q_bind hF
    refine g_callSr0 qm_X12_common wd_1934 wd_1935 (M_X12_common l b D z nx e3) (As := [.long a2, .long a0]) rfl rfl (Nat.le_of_ble_eq_true rfl) ⟨(Nat.le_of_ble_eq_true rfl), (Nat.le_of_ble_eq_true rfl)⟩ ⟨rfl, rfl⟩ ⟨(Nat.le_of_ble_eq_true rfl), (Nat.le_of_ble_eq_true rfl)⟩ dX12_part_12 ?_
    obtain ⟨u4, e5, hF⟩ := q_bind hF
    refine g_ldiv dX12_part_15 (q_lnz_spec e5) ?_
    cases hF
    exact g_lret dX12_part_16 rfl ⟨rfl, rfl, rfl⟩ (Nat.le_of_ble_eq_true rfl) (Nat.le_of_ble_eq_true rfl)
  · replace hF := q_f c1 hF
    refine g_lload_n 1 dX12_part_5 rfl ?_
    refine g_goto 10 dX12_part_6 (by decide) ?_
    refine g_lload_n 1 dX12_part_10 rfl ?_
    refine g_lload_n 0 dX12_part_11 rfl ?_
    obtain ⟨x6, e7, hF⟩ := q_bind hF
    refine g_callSr0 qm_X12_common wd_1934 wd_1935 (M_X12_common l b D z nx e7) (As := [.long a2, .long a0]) rfl rfl (Nat.le_of_ble_eq_true rfl) ⟨(Nat.le_of_ble_eq_true rfl), (Nat.le_of_ble_eq_true rfl)⟩ ⟨rfl, rfl⟩ ⟨(Nat.le_of_ble_eq_true rfl), (Nat.le_of_ble_eq_true rfl)⟩ dX12_part_12 ?_
    obtain ⟨u8, e9, hF⟩ := q_bind hF
    refine g_ldiv dX12_part_15 (q_lnz_spec e9) ?_
    cases hF
    exact g_lret dX12_part_16 rfl ⟨rfl, rfl, rfl⟩ (Nat.le_of_ble_eq_true rfl) (Nat.le_of_ble_eq_true rfl)
def rm_X12_copyRow : Room := { frames := 0, cells := 0, slots := 0, locals := 0 }
set_option maxRecDepth 100000 in
set_option maxHeartbeats 4000000 in
theorem B_X12_copyRow_3 (l : Launch) (b : Nat) (D : va_G) (z : Nat → Nat) {Φ : Option Value → qH → Nat → Prop} {nx : Nat} {a0 : Nat} {a1 : Int32} {a2 : Int32} {a3 : Int32} {a4 : Int32} {h : qH} {o : (Int32 × qH) ⊕ qH} (hF : b_X12_copyRow_3 a0 a1 a2 a3 a4 h = some o) (hback : ∀ (b4 : Int32) (bh : qH), o = .inl (b4, bh) → Go l b D z yX12_copyRow cX12_copyRow 5 none rm_X12_copyRow Φ 3 [(0, .ref a0), (1, .int a1), (2, .int a2), (3, .int a3), (4, .int b4)] [] bh nx 0 0) (hx0 : ∀  (bh : qH), o = .inr bh → Go l b D z yX12_copyRow cX12_copyRow 5 none rm_X12_copyRow Φ 31 [] [] bh nx 0 0) : Go l b D z yX12_copyRow cX12_copyRow 5 none rm_X12_copyRow Φ 3 [(0, .ref a0), (1, .int a1), (2, .int a2), (3, .int a3), (4, .int a4)] [] h nx 0 0 := by
  unfold b_X12_copyRow_3 at hF
  refine g_iload 4 dX12_copyRow_3 rfl ?_
  refine g_iload_n 1 dX12_copyRow_5 rfl ?_
  refine g_icmp_ge 31 dX12_copyRow_6 (by decide) (fun c1 => ?_) (fun c1 => ?_)
  · replace hF := q_t c1 hF
    cases hF
    refine g_sub [] rfl ?_
    exact hx0 _ rfl
  · replace hF := q_f c1 hF
    refine g_aload_n 0 dX12_copyRow_9 rfl ?_
    refine g_iload_n 1 dX12_copyRow_10 rfl ?_
    refine g_iload_n 3 dX12_copyRow_11 rfl ?_
    refine g_imul dX12_copyRow_12 ?_
    refine g_iload 4 dX12_copyRow_13 rfl ?_
    refine g_iadd dX12_copyRow_15 ?_
    refine g_aload_n 0 dX12_copyRow_16 rfl ?_
    refine g_iload_n 1 dX12_copyRow_17 rfl ?_
    refine g_iload_n 2 dX12_copyRow_18 rfl ?_
    refine g_imul dX12_copyRow_19 ?_
    refine g_iload 4 dX12_copyRow_20 rfl ?_
    refine g_iadd dX12_copyRow_22 ?_
    obtain ⟨x2, e3, hF⟩ := q_bind hF
    refine g_iald e3 dX12_copyRow_23 ?_
    obtain ⟨h4, e5, hF⟩ := q_bind hF
    refine g_iast e5 dX12_copyRow_24 ?_
    refine g_iinc [(4, .int (a4 + 1)), (0, .ref a0), (1, .int a1), (2, .int a2), (3, .int a3)] 4 dX12_copyRow_25 rfl (congrArg (a4 + ·) lt_iconst_1) (Nat.le_of_ble_eq_true rfl) rfl ?_
    refine g_goto 3 dX12_copyRow_28 (by decide) ?_
    cases hF
    refine g_sub [1, 2, 3, 4, 0] rfl ?_
    exact hback _ _ rfl
set_option maxRecDepth 100000 in
set_option maxHeartbeats 4000000 in
theorem L_X12_copyRow_3 (l : Launch) (b : Nat) (D : va_G) (z : Nat → Nat) {Φ : Option Value → qH → Nat → Prop} {nx : Nat} {a0 : Nat} {a1 : Int32} {a2 : Int32} {a3 : Int32} : ∀ (n : Nat) (a4 : Int32) (h : qH) (e : qH), q_lp (s_X12_copyRow_3 a0 a1 a2 a3) n (a4, h) = some e → (∀  (bh : qH), e = bh → Go l b D z yX12_copyRow cX12_copyRow 5 none rm_X12_copyRow Φ 31 [] [] bh nx 0 0) → Go l b D z yX12_copyRow cX12_copyRow 5 none rm_X12_copyRow Φ 3 [(0, .ref a0), (1, .int a1), (2, .int a2), (3, .int a3), (4, .int a4)] [] h nx 0 0 := by
  intro n
  induction n with
  | zero => intro a4 h e he; cases (show none = some e from he)
  | succ n ih =>
    intro a4 h e he hx0
    obtain ⟨o, ho, h1, h2⟩ := q_lp_succ he
    exact B_X12_copyRow_3 l b D z (show b_X12_copyRow_3 a0 a1 a2 a3 a4 h = some o from ho) (fun b4 bh hb => ih _ _ e (h1 _ hb) hx0) (fun p0 hr => hx0 p0 (h2 _ hr).symm)
set_option maxRecDepth 100000 in
set_option maxHeartbeats 4000000 in
theorem M_X12_copyRow (l : Launch) (b : Nat) (D : va_G) (z : Nat → Nat) (nx : Nat) {h : qH} {a0 : Nat} {a1 : Int32} {a2 : Int32} {a3 : Int32} {r : qH} (hF : F_X12_copyRow h a0 a1 a2 a3 = some r) : Me l b D z yX12_copyRow cX12_copyRow 5 none rm_X12_copyRow [.ref a0, .int a1, .int a2, .int a3] h nx (qE none r nx) := by
  refine Me.of (by decide +kernel) (Nat.le_of_ble_eq_true rfl) ?_
  show Go l b D z yX12_copyRow cX12_copyRow 5 none rm_X12_copyRow (qE none r nx) 0 [(0, .ref a0), (1, .int a1), (2, .int a2), (3, .int a3)] [] h nx 0 0
  unfold F_X12_copyRow at hF
  refine g_iconst dX12_copyRow_0 lt_iconst_0 ?_
  refine g_istore [(4, .int (0 : Int32)), (0, .ref a0), (1, .int a1), (2, .int a2), (3, .int a3)] dX12_copyRow_1 (Nat.le_of_ble_eq_true rfl) rfl ?_
  obtain ⟨e1, w2, hF⟩ := q_bind hF
  refine g_sub [1, 2, 3, 4, 0] rfl ?_
  refine L_X12_copyRow_3 l b D z q_N (0 : Int32) h e1 w2 ?_
  · intro h3 w4
    replace w4 := w4.symm
    subst w4
    cases hF
    exact g_vret dX12_copyRow_31 rfl ⟨rfl, rfl, rfl⟩ (Nat.le_of_ble_eq_true rfl) (Nat.le_of_ble_eq_true rfl)
def rm_X12_copyAll : Room := { frames := 1, cells := 0, slots := 0, locals := 24 }
set_option maxRecDepth 100000 in
set_option maxHeartbeats 4000000 in
theorem B_X12_copyAll_2 (l : Launch) (b : Nat) (D : va_G) (z : Nat → Nat) {Φ : Option Value → qH → Nat → Prop} {nx : Nat} {a0 : Nat} {a1 : Int32} {a2 : Int32} {a3 : Int32} {h : qH} {o : (Int32 × qH) ⊕ qH} (hF : b_X12_copyAll_2 a0 a1 a2 a3 h = some o) (hback : ∀ (b3 : Int32) (bh : qH), o = .inl (b3, bh) → Go l b D z yX12_copyAll cX12_copyAll 4 none rm_X12_copyAll Φ 2 [(0, .ref a0), (1, .int a1), (2, .int a2), (3, .int b3)] [] bh nx 0 0) (hx0 : ∀  (bh : qH), o = .inr bh → Go l b D z yX12_copyAll cX12_copyAll 4 none rm_X12_copyAll Φ 39 [(0, .ref a0), (1, .int a1), (2, .int a2)] [] bh nx 0 0) : Go l b D z yX12_copyAll cX12_copyAll 4 none rm_X12_copyAll Φ 2 [(0, .ref a0), (1, .int a1), (2, .int a2), (3, .int a3)] [] h nx 0 0 := by
  unfold b_X12_copyAll_2 at hF
  refine g_iload_n 3 dX12_copyAll_2 rfl ?_
  refine g_sipush dX12_copyAll_3 lt_sipush_600 ?_
  refine g_icmp_ge 39 dX12_copyAll_6 (by decide) (fun c1 => ?_) (fun c1 => ?_)
  · replace hF := q_t c1 hF
    cases hF
    refine g_sub [0, 1, 2] rfl ?_
    exact hx0 _ rfl
  · replace hF := q_f c1 hF
    refine g_aload_n 0 dX12_copyAll_9 rfl ?_
    obtain ⟨x2, e3, hF⟩ := q_bind hF
    refine g_getfR fl_X12_7 e3 dX12_copyAll_10 ?_
    refine g_sipush dX12_copyAll_13 lt_sipush_600 ?_
    refine g_iload_n 2 dX12_copyAll_16 rfl ?_
    refine g_imul dX12_copyAll_17 ?_
    refine g_iload_n 3 dX12_copyAll_18 rfl ?_
    refine g_iadd dX12_copyAll_19 ?_
    refine g_aload_n 0 dX12_copyAll_20 rfl ?_
    obtain ⟨x4, e5, hF⟩ := q_bind hF
    refine g_getfR fl_X12_7 e5 dX12_copyAll_21 ?_
    refine g_sipush dX12_copyAll_24 lt_sipush_600 ?_
    refine g_iload_n 1 dX12_copyAll_27 rfl ?_
    refine g_imul dX12_copyAll_28 ?_
    refine g_iload_n 3 dX12_copyAll_29 rfl ?_
    refine g_iadd dX12_copyAll_30 ?_
    obtain ⟨x6, e7, hF⟩ := q_bind hF
    refine g_bald e7 dX12_copyAll_31 ?_
    obtain ⟨h8, e9, hF⟩ := q_bind hF
    refine g_bast e9 dX12_copyAll_32 ?_
    refine g_iinc [(3, .int (a3 + 1)), (0, .ref a0), (1, .int a1), (2, .int a2)] 3 dX12_copyAll_33 rfl (congrArg (a3 + ·) lt_iconst_1) (Nat.le_of_ble_eq_true rfl) rfl ?_
    refine g_goto 2 dX12_copyAll_36 (by decide) ?_
    cases hF
    refine g_sub [1, 2, 3, 0] rfl ?_
    exact hback _ _ rfl
set_option maxRecDepth 100000 in
set_option maxHeartbeats 4000000 in
theorem L_X12_copyAll_2 (l : Launch) (b : Nat) (D : va_G) (z : Nat → Nat) {Φ : Option Value → qH → Nat → Prop} {nx : Nat} {a0 : Nat} {a1 : Int32} {a2 : Int32} : ∀ (n : Nat) (a3 : Int32) (h : qH) (e : qH), q_lp (s_X12_copyAll_2 a0 a1 a2) n (a3, h) = some e → (∀  (bh : qH), e = bh → Go l b D z yX12_copyAll cX12_copyAll 4 none rm_X12_copyAll Φ 39 [(0, .ref a0), (1, .int a1), (2, .int a2)] [] bh nx 0 0) → Go l b D z yX12_copyAll cX12_copyAll 4 none rm_X12_copyAll Φ 2 [(0, .ref a0), (1, .int a1), (2, .int a2), (3, .int a3)] [] h nx 0 0 := by
  intro n
  induction n with
  | zero => intro a3 h e he; cases (show none = some e from he)
  | succ n ih =>
    intro a3 h e he hx0
    obtain ⟨o, ho, h1, h2⟩ := q_lp_succ he
    exact B_X12_copyAll_2 l b D z (show b_X12_copyAll_2 a0 a1 a2 a3 h = some o from ho) (fun b3 bh hb => ih _ _ e (h1 _ hb) hx0) (fun p0 hr => hx0 p0 (h2 _ hr).symm)
set_option maxRecDepth 100000 in
set_option maxHeartbeats 4000000 in
theorem M_X12_copyAll (l : Launch) (b : Nat) (D : va_G) (z : Nat → Nat) (nx : Nat) {h : qH} {a0 : Nat} {a1 : Int32} {a2 : Int32} {r : qH} (hF : F_X12_copyAll h a0 a1 a2 = some r) : Me l b D z yX12_copyAll cX12_copyAll 4 none rm_X12_copyAll [.ref a0, .int a1, .int a2] h nx (qE none r nx) := by
  refine Me.of (by decide +kernel) (Nat.le_of_ble_eq_true rfl) ?_
  show Go l b D z yX12_copyAll cX12_copyAll 4 none rm_X12_copyAll (qE none r nx) 0 [(0, .ref a0), (1, .int a1), (2, .int a2)] [] h nx 0 0
  unfold F_X12_copyAll at hF
  refine g_iconst dX12_copyAll_0 lt_iconst_0 ?_
  refine g_istore_n [(3, .int (0 : Int32)), (0, .ref a0), (1, .int a1), (2, .int a2)] dX12_copyAll_1 (Nat.le_of_ble_eq_true rfl) rfl ?_
  obtain ⟨e1, w2, hF⟩ := q_bind hF
  refine g_sub [1, 2, 3, 0] rfl ?_
  refine L_X12_copyAll_2 l b D z q_N (0 : Int32) h e1 w2 ?_
  · intro h3 w4
    replace w4 := w4.symm
    subst w4
    refine g_aload_n 0 dX12_copyAll_39 rfl ?_
    obtain ⟨x5, e6, hF⟩ := q_bind hF
    refine g_getfR fl_X12_13 e6 dX12_copyAll_40 ?_
    refine g_iconst dX12_copyAll_43 lt_iconst_1 ?_
    refine g_iload_n 1 dX12_copyAll_44 rfl ?_
    refine g_iload_n 2 dX12_copyAll_45 rfl ?_
    obtain ⟨x7, e8, hF⟩ := q_bind hF
    refine g_callSv0 qm_X12_copyRow wd_2145 wd_2146 (M_X12_copyRow l b D z nx e8) (As := [.ref x5, .int (1 : Int32), .int a1, .int a2]) rfl rfl (Nat.le_of_ble_eq_true rfl) ⟨(Nat.le_of_ble_eq_true rfl), (Nat.le_of_ble_eq_true rfl)⟩ ⟨rfl, rfl⟩ ⟨(Nat.le_of_ble_eq_true rfl), (Nat.le_of_ble_eq_true rfl)⟩ dX12_copyAll_46 ?_
    refine g_aload_n 0 dX12_copyAll_49 rfl ?_
    obtain ⟨x9, e10, hF⟩ := q_bind hF
    refine g_getfR fl_X12_17 e10 dX12_copyAll_50 ?_
    refine g_iconst dX12_copyAll_53 lt_iconst_1 ?_
    refine g_iload_n 1 dX12_copyAll_54 rfl ?_
    refine g_iload_n 2 dX12_copyAll_55 rfl ?_
    obtain ⟨x11, e12, hF⟩ := q_bind hF
    refine g_callSv0 qm_X12_copyRow wd_2145 wd_2146 (M_X12_copyRow l b D z nx e12) (As := [.ref x9, .int (1 : Int32), .int a1, .int a2]) rfl rfl (Nat.le_of_ble_eq_true rfl) ⟨(Nat.le_of_ble_eq_true rfl), (Nat.le_of_ble_eq_true rfl)⟩ ⟨rfl, rfl⟩ ⟨(Nat.le_of_ble_eq_true rfl), (Nat.le_of_ble_eq_true rfl)⟩ dX12_copyAll_56 ?_
    refine g_aload_n 0 dX12_copyAll_59 rfl ?_
    obtain ⟨x13, e14, hF⟩ := q_bind hF
    refine g_getfR fl_X12_20 e14 dX12_copyAll_60 ?_
    refine g_iconst dX12_copyAll_63 lt_iconst_1 ?_
    refine g_iload_n 1 dX12_copyAll_64 rfl ?_
    refine g_iload_n 2 dX12_copyAll_65 rfl ?_
    obtain ⟨x15, e16, hF⟩ := q_bind hF
    refine g_callSv0 qm_X12_copyRow wd_2145 wd_2146 (M_X12_copyRow l b D z nx e16) (As := [.ref x13, .int (1 : Int32), .int a1, .int a2]) rfl rfl (Nat.le_of_ble_eq_true rfl) ⟨(Nat.le_of_ble_eq_true rfl), (Nat.le_of_ble_eq_true rfl)⟩ ⟨rfl, rfl⟩ ⟨(Nat.le_of_ble_eq_true rfl), (Nat.le_of_ble_eq_true rfl)⟩ dX12_copyAll_66 ?_
    refine g_aload_n 0 dX12_copyAll_69 rfl ?_
    obtain ⟨x17, e18, hF⟩ := q_bind hF
    refine g_getfR fl_X12_23 e18 dX12_copyAll_70 ?_
    refine g_iconst dX12_copyAll_73 lt_iconst_4 ?_
    refine g_iload_n 1 dX12_copyAll_74 rfl ?_
    refine g_iload_n 2 dX12_copyAll_75 rfl ?_
    obtain ⟨x19, e20, hF⟩ := q_bind hF
    refine g_callSv0 qm_X12_copyRow wd_2145 wd_2146 (M_X12_copyRow l b D z nx e20) (As := [.ref x17, .int (4 : Int32), .int a1, .int a2]) rfl rfl (Nat.le_of_ble_eq_true rfl) ⟨(Nat.le_of_ble_eq_true rfl), (Nat.le_of_ble_eq_true rfl)⟩ ⟨rfl, rfl⟩ ⟨(Nat.le_of_ble_eq_true rfl), (Nat.le_of_ble_eq_true rfl)⟩ dX12_copyAll_76 ?_
    refine g_aload_n 0 dX12_copyAll_79 rfl ?_
    obtain ⟨x21, e22, hF⟩ := q_bind hF
    refine g_getfR fl_X12_26 e22 dX12_copyAll_80 ?_
    refine g_sipush dX12_copyAll_83 lt_sipush_224 ?_
    refine g_iload_n 1 dX12_copyAll_86 rfl ?_
    refine g_iload_n 2 dX12_copyAll_87 rfl ?_
    obtain ⟨x23, e24, hF⟩ := q_bind hF
    refine g_callSv0 qm_X12_copyRow wd_2145 wd_2146 (M_X12_copyRow l b D z nx e24) (As := [.ref x21, .int (224 : Int32), .int a1, .int a2]) rfl rfl (Nat.le_of_ble_eq_true rfl) ⟨(Nat.le_of_ble_eq_true rfl), (Nat.le_of_ble_eq_true rfl)⟩ ⟨rfl, rfl⟩ ⟨(Nat.le_of_ble_eq_true rfl), (Nat.le_of_ble_eq_true rfl)⟩ dX12_copyAll_88 ?_
    refine g_aload_n 0 dX12_copyAll_91 rfl ?_
    obtain ⟨x25, e26, hF⟩ := q_bind hF
    refine g_getfR fl_X12_29 e26 dX12_copyAll_92 ?_
    refine g_sipush dX12_copyAll_95 lt_sipush_162 ?_
    refine g_iload_n 1 dX12_copyAll_98 rfl ?_
    refine g_iload_n 2 dX12_copyAll_99 rfl ?_
    obtain ⟨x27, e28, hF⟩ := q_bind hF
    refine g_callSv0 qm_X12_copyRow wd_2145 wd_2146 (M_X12_copyRow l b D z nx e28) (As := [.ref x25, .int (162 : Int32), .int a1, .int a2]) rfl rfl (Nat.le_of_ble_eq_true rfl) ⟨(Nat.le_of_ble_eq_true rfl), (Nat.le_of_ble_eq_true rfl)⟩ ⟨rfl, rfl⟩ ⟨(Nat.le_of_ble_eq_true rfl), (Nat.le_of_ble_eq_true rfl)⟩ dX12_copyAll_100 ?_
    refine g_aload_n 0 dX12_copyAll_103 rfl ?_
    obtain ⟨x29, e30, hF⟩ := q_bind hF
    refine g_getfR fl_X12_32 e30 dX12_copyAll_104 ?_
    refine g_bipush dX12_copyAll_107 lt_bipush_26 ?_
    refine g_iload_n 1 dX12_copyAll_109 rfl ?_
    refine g_iload_n 2 dX12_copyAll_110 rfl ?_
    obtain ⟨x31, e32, hF⟩ := q_bind hF
    refine g_callSv0 qm_X12_copyRow wd_2145 wd_2146 (M_X12_copyRow l b D z nx e32) (As := [.ref x29, .int (26 : Int32), .int a1, .int a2]) rfl rfl (Nat.le_of_ble_eq_true rfl) ⟨(Nat.le_of_ble_eq_true rfl), (Nat.le_of_ble_eq_true rfl)⟩ ⟨rfl, rfl⟩ ⟨(Nat.le_of_ble_eq_true rfl), (Nat.le_of_ble_eq_true rfl)⟩ dX12_copyAll_111 ?_
    refine g_aload_n 0 dX12_copyAll_114 rfl ?_
    obtain ⟨x33, e34, hF⟩ := q_bind hF
    refine g_getfR fl_X12_35 e34 dX12_copyAll_115 ?_
    refine g_bipush dX12_copyAll_118 lt_bipush_54 ?_
    refine g_iload_n 1 dX12_copyAll_120 rfl ?_
    refine g_iload_n 2 dX12_copyAll_121 rfl ?_
    obtain ⟨x35, e36, hF⟩ := q_bind hF
    refine g_callSv0 qm_X12_copyRow wd_2145 wd_2146 (M_X12_copyRow l b D z nx e36) (As := [.ref x33, .int (54 : Int32), .int a1, .int a2]) rfl rfl (Nat.le_of_ble_eq_true rfl) ⟨(Nat.le_of_ble_eq_true rfl), (Nat.le_of_ble_eq_true rfl)⟩ ⟨rfl, rfl⟩ ⟨(Nat.le_of_ble_eq_true rfl), (Nat.le_of_ble_eq_true rfl)⟩ dX12_copyAll_122 ?_
    cases hF
    exact g_vret dX12_copyAll_125 rfl ⟨rfl, rfl, rfl⟩ (Nat.le_of_ble_eq_true rfl) (Nat.le_of_ble_eq_true rfl)
def rm_X12_is : Room := { frames := 1, cells := 0, slots := 0, locals := 22 }
set_option maxRecDepth 100000 in
set_option maxHeartbeats 4000000 in
theorem M_X12_is (l : Launch) (b : Nat) (D : va_G) (z : Nat → Nat) (nx : Nat) {h : qH} {a0 : Nat} {a1 : Int32} {a2 : Int32} {r : Int32} (hF : F_X12_is h a0 a1 a2 = some r) : Me l b D z yX12_is cX12_is 3 (some .boolean) rm_X12_is [.ref a0, .int a1, .int a2] h nx (qE (some (.int r)) h nx) := by
  refine Me.of (by decide +kernel) (Nat.le_of_ble_eq_true rfl) ?_
  show Go l b D z yX12_is cX12_is 3 (some .boolean) rm_X12_is (qE (some (.int r)) h nx) 0 [(0, .ref a0), (1, .int a1), (2, .int a2)] [] h nx 0 0
  unfold F_X12_is at hF
  refine g_iload_n 2 dX12_is_0 rfl ?_
  refine g_iconst dX12_is_1 lt_iconst_0 ?_
  refine g_aload_n 0 dX12_is_2 rfl ?_
  obtain ⟨x1, e2, hF⟩ := q_bind hF
  refine g_getfR fl_X12_23 e2 dX12_is_3 ?_
  refine g_iload_n 1 dX12_is_6 rfl ?_
  obtain ⟨x3, e4, hF⟩ := q_bind hF
  refine g_iald e4 dX12_is_7 ?_
  refine g_iconst dX12_is_8 lt_iconst_1 ?_
  refine g_isub dX12_is_9 ?_
  obtain ⟨x5, e6, hF⟩ := q_bind hF
  refine g_callSr0 qm_X12_in wd_1623 wd_1624 (M_X12_in l b D z nx e6) (As := [.int a2, .int (0 : Int32), .int (x3 - (1 : Int32))]) rfl rfl (Nat.le_of_ble_eq_true rfl) ⟨(Nat.le_of_ble_eq_true rfl), (Nat.le_of_ble_eq_true rfl)⟩ ⟨rfl, rfl⟩ ⟨(Nat.le_of_ble_eq_true rfl), (Nat.le_of_ble_eq_true rfl)⟩ dX12_is_10 ?_
  obtain ⟨u7, e8, hF⟩ := q_bind hF
  cases hF
  exact g_zret dX12_is_13 rfl (q_z_spec e8).2.1 ⟨rfl, rfl, rfl⟩ (Nat.le_of_ble_eq_true rfl) (Nat.le_of_ble_eq_true rfl)
def rm_X12_four : Room := { frames := 0, cells := 0, slots := 0, locals := 0 }
set_option maxRecDepth 100000 in
set_option maxHeartbeats 4000000 in
theorem B_X12_four_3 (l : Launch) (b : Nat) (D : va_G) (z : Nat → Nat) {Φ : Option Value → qH → Nat → Prop} {nx : Nat} {a0 : Nat} {a1 : Int32} {a2 : Int32} {h : qH} {o : (Int32 × qH) ⊕ qH} (hF : b_X12_four_3 a0 a1 a2 h = some o) (hback : ∀ (b2 : Int32) (bh : qH), o = .inl (b2, bh) → Go l b D z yX12_four cX12_four 3 none rm_X12_four Φ 3 [(0, .ref a0), (1, .int a1), (2, .int b2)] [] bh nx 0 0) (hx0 : ∀  (bh : qH), o = .inr bh → Go l b D z yX12_four cX12_four 3 none rm_X12_four Φ 38 [] [] bh nx 0 0) : Go l b D z yX12_four cX12_four 3 none rm_X12_four Φ 3 [(0, .ref a0), (1, .int a1), (2, .int a2)] [] h nx 0 0 := by
  unfold b_X12_four_3 at hF
  refine g_iload_n 2 dX12_four_3 rfl ?_
  refine g_if_lt 38 dX12_four_4 (by decide) (fun c1 => ?_) (fun c1 => ?_)
  · replace hF := q_t c1 hF
    cases hF
    refine g_sub [] rfl ?_
    exact hx0 _ rfl
  · replace hF := q_f c1 hF
    refine g_aload_n 0 dX12_four_7 rfl ?_
    obtain ⟨x2, e3, hF⟩ := q_bind hF
    refine g_getfR fl_X12_7 e3 dX12_four_8 ?_
    refine g_aload_n 0 dX12_four_11 rfl ?_
    obtain ⟨x4, e5, hF⟩ := q_bind hF
    refine g_getfR fl_X12_13 e5 dX12_four_12 ?_
    refine g_iconst dX12_four_15 lt_iconst_0 ?_
    obtain ⟨x6, e7, hF⟩ := q_bind hF
    refine g_iald e7 dX12_four_16 ?_
    refine g_iload_n 1 dX12_four_17 rfl ?_
    refine g_iload_n 2 dX12_four_18 rfl ?_
    refine g_ishr dX12_four_19 ?_
    refine g_i2b dX12_four_20 ?_
    obtain ⟨h8, e9, hF⟩ := q_bind hF
    refine g_bast e9 dX12_four_21 ?_
    refine g_aload_n 0 dX12_four_22 rfl ?_
    obtain ⟨x10, e11, hF⟩ := q_bind hF
    refine g_getfR fl_X12_13 e11 dX12_four_23 ?_
    refine g_iconst dX12_four_26 lt_iconst_0 ?_
    refine g_dup2 dX12_four_27 rfl rfl ?_
    obtain ⟨x12, e13, hF⟩ := q_bind hF
    refine g_iald e13 dX12_four_28 ?_
    refine g_iconst dX12_four_29 lt_iconst_1 ?_
    refine g_iadd dX12_four_30 ?_
    obtain ⟨h14, e15, hF⟩ := q_bind hF
    refine g_iast e15 dX12_four_31 ?_
    refine g_iinc [(2, .int (a2 + (-8))), (0, .ref a0), (1, .int a1)] 2 dX12_four_32 rfl (congrArg (a2 + ·) lt_iconst_m8) (Nat.le_of_ble_eq_true rfl) rfl ?_
    refine g_goto 3 dX12_four_35 (by decide) ?_
    cases hF
    refine g_sub [1, 2, 0] rfl ?_
    exact hback _ _ rfl
set_option maxRecDepth 100000 in
set_option maxHeartbeats 4000000 in
theorem L_X12_four_3 (l : Launch) (b : Nat) (D : va_G) (z : Nat → Nat) {Φ : Option Value → qH → Nat → Prop} {nx : Nat} {a0 : Nat} {a1 : Int32} : ∀ (n : Nat) (a2 : Int32) (h : qH) (e : qH), q_lp (s_X12_four_3 a0 a1) n (a2, h) = some e → (∀  (bh : qH), e = bh → Go l b D z yX12_four cX12_four 3 none rm_X12_four Φ 38 [] [] bh nx 0 0) → Go l b D z yX12_four cX12_four 3 none rm_X12_four Φ 3 [(0, .ref a0), (1, .int a1), (2, .int a2)] [] h nx 0 0 := by
  intro n
  induction n with
  | zero => intro a2 h e he; cases (show none = some e from he)
  | succ n ih =>
    intro a2 h e he hx0
    obtain ⟨o, ho, h1, h2⟩ := q_lp_succ he
    exact B_X12_four_3 l b D z (show b_X12_four_3 a0 a1 a2 h = some o from ho) (fun b2 bh hb => ih _ _ e (h1 _ hb) hx0) (fun p0 hr => hx0 p0 (h2 _ hr).symm)
set_option maxRecDepth 100000 in
set_option maxHeartbeats 4000000 in
theorem M_X12_four (l : Launch) (b : Nat) (D : va_G) (z : Nat → Nat) (nx : Nat) {h : qH} {a0 : Nat} {a1 : Int32} {r : qH} (hF : F_X12_four h a0 a1 = some r) : Me l b D z yX12_four cX12_four 3 none rm_X12_four [.ref a0, .int a1] h nx (qE none r nx) := by
  refine Me.of (by decide +kernel) (Nat.le_of_ble_eq_true rfl) ?_
  show Go l b D z yX12_four cX12_four 3 none rm_X12_four (qE none r nx) 0 [(0, .ref a0), (1, .int a1)] [] h nx 0 0
  unfold F_X12_four at hF
  refine g_bipush dX12_four_0 lt_bipush_24 ?_
  refine g_istore_n [(2, .int (24 : Int32)), (0, .ref a0), (1, .int a1)] dX12_four_2 (Nat.le_of_ble_eq_true rfl) rfl ?_
  obtain ⟨e1, w2, hF⟩ := q_bind hF
  refine g_sub [1, 2, 0] rfl ?_
  refine L_X12_four_3 l b D z q_N (24 : Int32) h e1 w2 ?_
  · intro h3 w4
    replace w4 := w4.symm
    subst w4
    cases hF
    exact g_vret dX12_four_38 rfl ⟨rfl, rfl, rfl⟩ (Nat.le_of_ble_eq_true rfl) (Nat.le_of_ble_eq_true rfl)
def rm_X12_feed : Room := { frames := 1, cells := 0, slots := 0, locals := 22 }
set_option maxRecDepth 100000 in
set_option maxHeartbeats 4000000 in
theorem M_X12_feed (l : Launch) (b : Nat) (D : va_G) (z : Nat → Nat) (nx : Nat) {h : qH} {a0 : Nat} {a1 : Int32} {a2 : Int32} {a3 : Int32} {a4 : Int32} {a5 : Int32} {r : Int32 × qH} (hF : F_X12_feed h a0 a1 a2 a3 a4 a5 = some r) : Me l b D z yX12_feed cX12_feed 6 (some .int) rm_X12_feed [.ref a0, .int a1, .int a2, .int a3, .int a4, .int a5] h nx (qE (some (.int r.1)) r.2 nx) := by
  refine Me.of (by decide +kernel) (Nat.le_of_ble_eq_true rfl) ?_
  show Go l b D z yX12_feed cX12_feed 6 (some .int) rm_X12_feed (qE (some (.int r.1)) r.2 nx) 0 [(0, .ref a0), (1, .int a1), (2, .int a2), (3, .int a3), (4, .int a4), (5, .int a5)] [] h nx 0 0
  unfold F_X12_feed at hF
  refine g_aload_n 0 dX12_feed_0 rfl ?_
  refine g_iconst dX12_feed_1 lt_iconst_0 ?_
  obtain ⟨h1, e2, hF⟩ := q_bind hF
  refine g_putf fl_X12_91 e2 rfl rfl dX12_feed_2 ?_
  refine g_aload_n 0 dX12_feed_5 rfl ?_
  obtain ⟨x3, e4, hF⟩ := q_bind hF
  refine g_getfR fl_X12_13 e4 dX12_feed_6 ?_
  refine g_iconst dX12_feed_9 lt_iconst_0 ?_
  obtain ⟨x5, e6, hF⟩ := q_bind hF
  refine g_iald e6 dX12_feed_10 ?_
  refine g_bipush dX12_feed_11 lt_bipush_20 ?_
  refine g_iadd dX12_feed_13 ?_
  refine g_sipush dX12_feed_14 lt_sipush_600 ?_
  refine g_icmp_le 22 dX12_feed_17 (by decide) (fun c7 => ?_) (fun c7 => ?_)
  · replace hF := q_t c7 hF
    refine g_aload_n 0 dX12_feed_22 rfl ?_
    refine g_iload_n 1 dX12_feed_23 rfl ?_
    obtain ⟨u8, e9, hF⟩ := q_bind hF
    obtain ⟨x10, e11, hF⟩ := q_bind hF
    refine g_callVv0 (ci := 12) (q := (RX12, TX12, 49)) qm_X12_four wd_1615 wd_1617 wd_76 rfl e9 (M_X12_four l b D z nx e11) (As := [.int a1]) rfl rfl (Nat.le_of_ble_eq_true rfl) ⟨(Nat.le_of_ble_eq_true rfl), (Nat.le_of_ble_eq_true rfl)⟩ ⟨rfl, rfl⟩ ⟨(Nat.le_of_ble_eq_true rfl), (Nat.le_of_ble_eq_true rfl)⟩ dX12_feed_24 ?_
    refine g_aload_n 0 dX12_feed_27 rfl ?_
    refine g_iload_n 2 dX12_feed_28 rfl ?_
    obtain ⟨u12, e13, hF⟩ := q_bind hF
    obtain ⟨x14, e15, hF⟩ := q_bind hF
    refine g_callVv0 (ci := 12) (q := (RX12, TX12, 49)) qm_X12_four wd_1615 wd_1617 wd_76 rfl e13 (M_X12_four l b D z nx e15) (As := [.int a2]) rfl rfl (Nat.le_of_ble_eq_true rfl) ⟨(Nat.le_of_ble_eq_true rfl), (Nat.le_of_ble_eq_true rfl)⟩ ⟨rfl, rfl⟩ ⟨(Nat.le_of_ble_eq_true rfl), (Nat.le_of_ble_eq_true rfl)⟩ dX12_feed_29 ?_
    refine g_aload_n 0 dX12_feed_32 rfl ?_
    refine g_iload_n 3 dX12_feed_33 rfl ?_
    obtain ⟨u16, e17, hF⟩ := q_bind hF
    obtain ⟨x18, e19, hF⟩ := q_bind hF
    refine g_callVv0 (ci := 12) (q := (RX12, TX12, 49)) qm_X12_four wd_1615 wd_1617 wd_76 rfl e17 (M_X12_four l b D z nx e19) (As := [.int a3]) rfl rfl (Nat.le_of_ble_eq_true rfl) ⟨(Nat.le_of_ble_eq_true rfl), (Nat.le_of_ble_eq_true rfl)⟩ ⟨rfl, rfl⟩ ⟨(Nat.le_of_ble_eq_true rfl), (Nat.le_of_ble_eq_true rfl)⟩ dX12_feed_34 ?_
    refine g_aload_n 0 dX12_feed_37 rfl ?_
    refine g_iload 4 dX12_feed_38 rfl ?_
    obtain ⟨u20, e21, hF⟩ := q_bind hF
    obtain ⟨x22, e23, hF⟩ := q_bind hF
    refine g_callVv0 (ci := 12) (q := (RX12, TX12, 49)) qm_X12_four wd_1615 wd_1617 wd_76 rfl e21 (M_X12_four l b D z nx e23) (As := [.int a4]) rfl rfl (Nat.le_of_ble_eq_true rfl) ⟨(Nat.le_of_ble_eq_true rfl), (Nat.le_of_ble_eq_true rfl)⟩ ⟨rfl, rfl⟩ ⟨(Nat.le_of_ble_eq_true rfl), (Nat.le_of_ble_eq_true rfl)⟩ dX12_feed_40 ?_
    refine g_aload_n 0 dX12_feed_43 rfl ?_
    refine g_iload 5 dX12_feed_44 rfl ?_
    obtain ⟨u24, e25, hF⟩ := q_bind hF
    obtain ⟨x26, e27, hF⟩ := q_bind hF
    refine g_callVv0 (ci := 12) (q := (RX12, TX12, 49)) qm_X12_four wd_1615 wd_1617 wd_76 rfl e25 (M_X12_four l b D z nx e27) (As := [.int a5]) rfl rfl (Nat.le_of_ble_eq_true rfl) ⟨(Nat.le_of_ble_eq_true rfl), (Nat.le_of_ble_eq_true rfl)⟩ ⟨rfl, rfl⟩ ⟨(Nat.le_of_ble_eq_true rfl), (Nat.le_of_ble_eq_true rfl)⟩ dX12_feed_46 ?_
    refine g_aload_n 0 dX12_feed_49 rfl ?_
    obtain ⟨x28, e29, hF⟩ := q_bind hF
    refine g_getfR fl_X12_13 e29 dX12_feed_50 ?_
    refine g_iconst dX12_feed_53 lt_iconst_0 ?_
    obtain ⟨x30, e31, hF⟩ := q_bind hF
    refine g_iald e31 dX12_feed_54 ?_
    cases hF
    exact g_iret dX12_feed_55 rfl ⟨rfl, rfl, rfl⟩ (Nat.le_of_ble_eq_true rfl) (Nat.le_of_ble_eq_true rfl)
  · replace hF := q_f c7 hF
    refine g_iconst dX12_feed_20 lt_iconst_m1 ?_
    cases hF
    exact g_iret dX12_feed_21 rfl ⟨rfl, rfl, rfl⟩ (Nat.le_of_ble_eq_true rfl) (Nat.le_of_ble_eq_true rfl)
def rm_X12_end : Room := { frames := 1, cells := 0, slots := 0, locals := 22 }
set_option maxRecDepth 100000 in
set_option maxHeartbeats 4000000 in
theorem M_X12_end (l : Launch) (b : Nat) (D : va_G) (z : Nat → Nat) (nx : Nat) {h : qH} {a0 : Nat} {a1 : Int32} {r : Int32 × qH} (hF : F_X12_end h a0 a1 = some r) : Me l b D z yX12_end cX12_end 2 (some .int) rm_X12_end [.ref a0, .int a1] h nx (qE (some (.int r.1)) r.2 nx) := by
  refine Me.of (by decide +kernel) (Nat.le_of_ble_eq_true rfl) ?_
  show Go l b D z yX12_end cX12_end 2 (some .int) rm_X12_end (qE (some (.int r.1)) r.2 nx) 0 [(0, .ref a0), (1, .int a1)] [] h nx 0 0
  unfold F_X12_end at hF
  refine g_aload_n 0 dX12_end_0 rfl ?_
  refine g_iconst dX12_end_1 lt_iconst_0 ?_
  obtain ⟨h1, e2, hF⟩ := q_bind hF
  refine g_putf fl_X12_91 e2 rfl rfl dX12_end_2 ?_
  refine g_iload_n 1 dX12_end_5 rfl ?_
  refine g_iconst dX12_end_6 lt_iconst_0 ?_
  refine g_aload_n 0 dX12_end_7 rfl ?_
  obtain ⟨x3, e4, hF⟩ := q_bind hF
  refine g_getfR fl_X12_13 e4 dX12_end_8 ?_
  refine g_iconst dX12_end_11 lt_iconst_0 ?_
  obtain ⟨x5, e6, hF⟩ := q_bind hF
  refine g_iald e6 dX12_end_12 ?_
  obtain ⟨x7, e8, hF⟩ := q_bind hF
  refine g_callSr0 qm_X12_in wd_1623 wd_1624 (M_X12_in l b D z nx e8) (As := [.int a1, .int (0 : Int32), .int x5]) rfl rfl (Nat.le_of_ble_eq_true rfl) ⟨(Nat.le_of_ble_eq_true rfl), (Nat.le_of_ble_eq_true rfl)⟩ ⟨rfl, rfl⟩ ⟨(Nat.le_of_ble_eq_true rfl), (Nat.le_of_ble_eq_true rfl)⟩ dX12_end_13 ?_
  refine g_if_ne 21 dX12_end_16 (by decide) (fun c9 => ?_) (fun c9 => ?_)
  · replace hF := q_f c9 hF
    refine g_aload_n 0 dX12_end_21 rfl ?_
    obtain ⟨x10, e11, hF⟩ := q_bind hF
    refine g_getfR fl_X12_13 e11 dX12_end_22 ?_
    refine g_iconst dX12_end_25 lt_iconst_0 ?_
    refine g_iload_n 1 dX12_end_26 rfl ?_
    obtain ⟨h12, e13, hF⟩ := q_bind hF
    refine g_iast e13 dX12_end_27 ?_
    refine g_iload_n 1 dX12_end_28 rfl ?_
    cases hF
    exact g_iret dX12_end_29 rfl ⟨rfl, rfl, rfl⟩ (Nat.le_of_ble_eq_true rfl) (Nat.le_of_ble_eq_true rfl)
  · replace hF := q_t c9 hF
    refine g_iconst dX12_end_19 lt_iconst_m1 ?_
    cases hF
    exact g_iret dX12_end_20 rfl ⟨rfl, rfl, rfl⟩ (Nat.le_of_ble_eq_true rfl) (Nat.le_of_ble_eq_true rfl)
def rm_X12_see : Room := { frames := 0, cells := 0, slots := 0, locals := 0 }
set_option maxRecDepth 100000 in
set_option maxHeartbeats 4000000 in
theorem M_X12_see (l : Launch) (b : Nat) (D : va_G) (z : Nat → Nat) (nx : Nat) {h : qH} {a0 : Nat} {r : Int32} (hF : F_X12_see h a0 = some r) : Me l b D z yX12_see cX12_see 1 (some .int) rm_X12_see [.ref a0] h nx (qE (some (.int r)) h nx) := by
  refine Me.of (by decide +kernel) (Nat.le_of_ble_eq_true rfl) ?_
  show Go l b D z yX12_see cX12_see 1 (some .int) rm_X12_see (qE (some (.int r)) h nx) 0 [(0, .ref a0)] [] h nx 0 0
  unfold F_X12_see at hF
  refine g_aload_n 0 dX12_see_0 rfl ?_
  obtain ⟨x1, e2, hF⟩ := q_bind hF
  refine g_getfI fl_X12_115 e2 dX12_see_1 ?_
  refine g_aload_n 0 dX12_see_4 rfl ?_
  obtain ⟨x3, e4, hF⟩ := q_bind hF
  refine g_getfI fl_X12_118 e4 dX12_see_5 ?_
  refine g_icmp_ge 27 dX12_see_8 (by decide) (fun c5 => ?_) (fun c5 => ?_)
  · replace hF := q_t c5 hF
    refine g_iconst dX12_see_27 lt_iconst_m1 ?_
    cases hF
    exact g_iret dX12_see_28 rfl ⟨rfl, rfl, rfl⟩ (Nat.le_of_ble_eq_true rfl) (Nat.le_of_ble_eq_true rfl)
  · replace hF := q_f c5 hF
    refine g_aload_n 0 dX12_see_11 rfl ?_
    obtain ⟨x6, e7, hF⟩ := q_bind hF
    refine g_getfR fl_X12_7 e7 dX12_see_12 ?_
    refine g_aload_n 0 dX12_see_15 rfl ?_
    obtain ⟨x8, e9, hF⟩ := q_bind hF
    refine g_getfI fl_X12_115 e9 dX12_see_16 ?_
    obtain ⟨x10, e11, hF⟩ := q_bind hF
    refine g_bald e11 dX12_see_19 ?_
    refine g_sipush dX12_see_20 lt_sipush_255 ?_
    refine g_iand dX12_see_23 ?_
    refine g_goto 28 dX12_see_24 (by decide) ?_
    cases hF
    exact g_iret dX12_see_28 rfl ⟨rfl, rfl, rfl⟩ (Nat.le_of_ble_eq_true rfl) (Nat.le_of_ble_eq_true rfl)
def rm_X12_token : Room := { frames := 1, cells := 0, slots := 0, locals := 22 }
set_option maxRecDepth 100000 in
set_option maxHeartbeats 4000000 in
theorem J_X12_token_18 (l : Launch) (b : Nat) (D : va_G) (z : Nat → Nat) {Φ : Option Value → qH → Nat → Prop} {nx : Nat} {h : qH} {a0 : Nat} {o : qH ⊕ qH} (hF : j_X12_token_18 h a0  = some o) (hback : ∀  (bh : qH), o = .inl bh → Go l b D z yX12_token cX12_token 3 none rm_X12_token Φ 0 [(0, .ref a0)] [] bh nx 0 0) (hx0 : ∀  (bh : qH), o = .inr bh → Go l b D z yX12_token cX12_token 3 none rm_X12_token Φ 31 [(0, .ref a0)] [] bh nx 0 0) : Go l b D z yX12_token cX12_token 3 none rm_X12_token Φ 18 [(0, .ref a0)] [] h nx 0 0 := by
  unfold j_X12_token_18 at hF
  refine g_aload_n 0 dX12_token_18 rfl ?_
  refine g_dup dX12_token_19 rfl ?_
  obtain ⟨x1, e2, hF⟩ := q_bind hF
  refine g_getfI fl_X12_115 e2 dX12_token_20 ?_
  refine g_iconst dX12_token_23 lt_iconst_1 ?_
  refine g_iadd dX12_token_24 ?_
  obtain ⟨h3, e4, hF⟩ := q_bind hF
  refine g_putf fl_X12_115 e4 rfl rfl dX12_token_25 ?_
  refine g_goto 0 dX12_token_28 (by decide) ?_
  cases hF
  exact hback _ rfl
set_option maxRecDepth 100000 in
set_option maxHeartbeats 4000000 in
theorem B_X12_token_0 (l : Launch) (b : Nat) (D : va_G) (z : Nat → Nat) {Φ : Option Value → qH → Nat → Prop} {nx : Nat} {a0 : Nat} {h : qH} {o : qH ⊕ qH} (hF : b_X12_token_0 a0  h = some o) (hback : ∀  (bh : qH), o = .inl bh → Go l b D z yX12_token cX12_token 3 none rm_X12_token Φ 0 [(0, .ref a0)] [] bh nx 0 0) (hx0 : ∀  (bh : qH), o = .inr bh → Go l b D z yX12_token cX12_token 3 none rm_X12_token Φ 31 [(0, .ref a0)] [] bh nx 0 0) : Go l b D z yX12_token cX12_token 3 none rm_X12_token Φ 0 [(0, .ref a0)] [] h nx 0 0 := by
  unfold b_X12_token_0 at hF
  refine g_aload_n 0 dX12_token_0 rfl ?_
  obtain ⟨u1, e2, hF⟩ := q_bind hF
  obtain ⟨x3, e4, hF⟩ := q_bind hF
  refine g_callVr0 (ci := 12) (q := (RX12, TX12, 49)) qm_X12_see wd_1646 wd_1648 wd_81 rfl e2 (M_X12_see l b D z nx e4) (As := []) rfl rfl (Nat.le_of_ble_eq_true rfl) ⟨(Nat.le_of_ble_eq_true rfl), (Nat.le_of_ble_eq_true rfl)⟩ ⟨rfl, rfl⟩ ⟨(Nat.le_of_ble_eq_true rfl), (Nat.le_of_ble_eq_true rfl)⟩ dX12_token_1 ?_
  refine g_bipush dX12_token_4 lt_bipush_10 ?_
  refine g_icmp_eq 18 dX12_token_6 (by decide) (fun c5 => ?_) (fun c5 => ?_)
  · replace hF := q_t c5 hF
    exact J_X12_token_18 l b D z hF hback hx0
  · replace hF := q_f c5 hF
    refine g_aload_n 0 dX12_token_9 rfl ?_
    obtain ⟨u6, e7, hF⟩ := q_bind hF
    obtain ⟨x8, e9, hF⟩ := q_bind hF
    refine g_callVr0 (ci := 12) (q := (RX12, TX12, 49)) qm_X12_see wd_1646 wd_1648 wd_81 rfl e7 (M_X12_see l b D z nx e9) (As := []) rfl rfl (Nat.le_of_ble_eq_true rfl) ⟨(Nat.le_of_ble_eq_true rfl), (Nat.le_of_ble_eq_true rfl)⟩ ⟨rfl, rfl⟩ ⟨(Nat.le_of_ble_eq_true rfl), (Nat.le_of_ble_eq_true rfl)⟩ dX12_token_10 ?_
    refine g_bipush dX12_token_13 lt_bipush_32 ?_
    refine g_icmp_ne 31 dX12_token_15 (by decide) (fun c10 => ?_) (fun c10 => ?_)
    · replace hF := q_f c10 hF
      cases hF
      exact hx0 _ rfl
    · replace hF := q_t c10 hF
      exact J_X12_token_18 l b D z hF hback hx0
set_option maxRecDepth 100000 in
set_option maxHeartbeats 4000000 in
theorem L_X12_token_0 (l : Launch) (b : Nat) (D : va_G) (z : Nat → Nat) {Φ : Option Value → qH → Nat → Prop} {nx : Nat} {a0 : Nat} : ∀ (n : Nat) (h : qH) (e : qH), q_lp (s_X12_token_0 a0) n h = some e → (∀  (bh : qH), e = bh → Go l b D z yX12_token cX12_token 3 none rm_X12_token Φ 31 [(0, .ref a0)] [] bh nx 0 0) → Go l b D z yX12_token cX12_token 3 none rm_X12_token Φ 0 [(0, .ref a0)] [] h nx 0 0 := by
  intro n
  induction n with
  | zero => intro  h e he; cases (show none = some e from he)
  | succ n ih =>
    intro  h e he hx0
    obtain ⟨o, ho, h1, h2⟩ := q_lp_succ he
    exact B_X12_token_0 l b D z (show b_X12_token_0 a0  h = some o from ho) (fun bh hb => ih _ e (h1 _ hb) hx0) (fun p0 hr => hx0 p0 (h2 _ hr).symm)
set_option maxRecDepth 100000 in
set_option maxHeartbeats 4000000 in
theorem J_X12_token_205 (l : Launch) (b : Nat) (D : va_G) (z : Nat → Nat) {Φ : Option Value → qH → Nat → Prop} {nx : Nat} {h : qH} {a0 : Nat} {a2 : Int32} {t0 : Int32} {t1 : Nat} {o : (Int32 × qH) ⊕ ((Int32 × qH))} (hF : j_X12_token_205 h a0 a2 t0 t1 = some o) (hback : ∀ (b2 : Int32) (bh : qH), o = .inl (b2, bh) → Go l b D z yX12_token cX12_token 3 none rm_X12_token Φ 163 [(0, .ref a0), (2, .int b2)] [] bh nx 0 0) (hx0 : ∀ (b2 : Int32) (bh : qH), o = .inr (b2, bh) → Go l b D z yX12_token cX12_token 3 none rm_X12_token Φ 224 [(0, .ref a0), (2, .int b2)] [] bh nx 0 0) : Go l b D z yX12_token cX12_token 3 none rm_X12_token Φ 205 [(0, .ref a0), (2, .int a2)] [.int t0, .ref t1] h nx 0 0 := by
  unfold j_X12_token_205 at hF
  obtain ⟨h1, e2, hF⟩ := q_bind hF
  refine g_putf fl_X12_135 e2 rfl rfl dX12_token_205 ?_
  refine g_aload_n 0 dX12_token_208 rfl ?_
  refine g_dup dX12_token_209 rfl ?_
  obtain ⟨x3, e4, hF⟩ := q_bind hF
  refine g_getfI fl_X12_115 e4 dX12_token_210 ?_
  refine g_iconst dX12_token_213 lt_iconst_1 ?_
  refine g_iadd dX12_token_214 ?_
  obtain ⟨h5, e6, hF⟩ := q_bind hF
  refine g_putf fl_X12_115 e6 rfl rfl dX12_token_215 ?_
  refine g_iinc [(2, .int (a2 + 1)), (0, .ref a0)] 1 dX12_token_218 rfl (congrArg (a2 + ·) lt_iconst_1) (Nat.le_of_ble_eq_true rfl) rfl ?_
  refine g_goto 163 dX12_token_221 (by decide) ?_
  cases hF
  refine g_sub [1, 0] rfl ?_
  exact hback _ _ rfl
set_option maxRecDepth 100000 in
set_option maxHeartbeats 4000000 in
theorem J_X12_token_205_2 (l : Launch) (b : Nat) (D : va_G) (z : Nat → Nat) {Φ : Option Value → qH → Nat → Prop} {nx : Nat} {h : qH} {a0 : Nat} {a2 : Int32} {t0 : Int32} {t1 : Nat} {o : (Int32 × qH) ⊕ ((Int32 × qH))} (hF : j_X12_token_205_2 h a0 a2 t0 t1 = some o) (hback : ∀ (b2 : Int32) (bh : qH), o = .inl (b2, bh) → Go l b D z yX12_token cX12_token 3 none rm_X12_token Φ 163 [(0, .ref a0), (2, .int b2)] [] bh nx 0 0) (hx0 : ∀ (b2 : Int32) (bh : qH), o = .inr (b2, bh) → Go l b D z yX12_token cX12_token 3 none rm_X12_token Φ 224 [(0, .ref a0), (2, .int b2)] [] bh nx 0 0) : Go l b D z yX12_token cX12_token 3 none rm_X12_token Φ 205 [(0, .ref a0), (2, .int a2)] [.int t0, .ref t1] h nx 0 0 := by
  unfold j_X12_token_205_2 at hF
  obtain ⟨h1, e2, hF⟩ := q_bind hF
  refine g_putf fl_X12_135 e2 rfl rfl dX12_token_205 ?_
  refine g_aload_n 0 dX12_token_208 rfl ?_
  refine g_dup dX12_token_209 rfl ?_
  obtain ⟨x3, e4, hF⟩ := q_bind hF
  refine g_getfI fl_X12_115 e4 dX12_token_210 ?_
  refine g_iconst dX12_token_213 lt_iconst_1 ?_
  refine g_iadd dX12_token_214 ?_
  obtain ⟨h5, e6, hF⟩ := q_bind hF
  refine g_putf fl_X12_115 e6 rfl rfl dX12_token_215 ?_
  refine g_iinc [(2, .int (a2 + 1)), (0, .ref a0)] 1 dX12_token_218 rfl (congrArg (a2 + ·) lt_iconst_1) (Nat.le_of_ble_eq_true rfl) rfl ?_
  refine g_goto 163 dX12_token_221 (by decide) ?_
  cases hF
  refine g_sub [1, 0] rfl ?_
  exact hback _ _ rfl
set_option maxRecDepth 100000 in
set_option maxHeartbeats 4000000 in
theorem B_X12_token_163 (l : Launch) (b : Nat) (D : va_G) (z : Nat → Nat) {Φ : Option Value → qH → Nat → Prop} {nx : Nat} {a0 : Nat} {a2 : Int32} {h : qH} {o : (Int32 × qH) ⊕ ((Int32 × qH))} (hF : b_X12_token_163 a0 a2 h = some o) (hback : ∀ (b2 : Int32) (bh : qH), o = .inl (b2, bh) → Go l b D z yX12_token cX12_token 3 none rm_X12_token Φ 163 [(0, .ref a0), (2, .int b2)] [] bh nx 0 0) (hx0 : ∀ (b2 : Int32) (bh : qH), o = .inr (b2, bh) → Go l b D z yX12_token cX12_token 3 none rm_X12_token Φ 224 [(0, .ref a0), (2, .int b2)] [] bh nx 0 0) : Go l b D z yX12_token cX12_token 3 none rm_X12_token Φ 163 [(0, .ref a0), (2, .int a2)] [] h nx 0 0 := by
  unfold b_X12_token_163 at hF
  refine g_aload_n 0 dX12_token_163 rfl ?_
  obtain ⟨u1, e2, hF⟩ := q_bind hF
  obtain ⟨x3, e4, hF⟩ := q_bind hF
  refine g_callVr0 (ci := 12) (q := (RX12, TX12, 49)) qm_X12_see wd_1646 wd_1648 wd_81 rfl e2 (M_X12_see l b D z nx e4) (As := []) rfl rfl (Nat.le_of_ble_eq_true rfl) ⟨(Nat.le_of_ble_eq_true rfl), (Nat.le_of_ble_eq_true rfl)⟩ ⟨rfl, rfl⟩ ⟨(Nat.le_of_ble_eq_true rfl), (Nat.le_of_ble_eq_true rfl)⟩ dX12_token_164 ?_
  refine g_bipush dX12_token_167 lt_bipush_48 ?_
  refine g_bipush dX12_token_169 lt_bipush_57 ?_
  obtain ⟨x5, e6, hF⟩ := q_bind hF
  refine g_callSr0 qm_X12_in wd_1623 wd_1624 (M_X12_in l b D z nx e6) (As := [.int x3, .int (48 : Int32), .int (57 : Int32)]) rfl rfl (Nat.le_of_ble_eq_true rfl) ⟨(Nat.le_of_ble_eq_true rfl), (Nat.le_of_ble_eq_true rfl)⟩ ⟨rfl, rfl⟩ ⟨(Nat.le_of_ble_eq_true rfl), (Nat.le_of_ble_eq_true rfl)⟩ dX12_token_171 ?_
  refine g_if_eq 224 dX12_token_174 (by decide) (fun c7 => ?_) (fun c7 => ?_)
  · replace hF := q_t c7 hF
    cases hF
    exact hx0 _ _ rfl
  · replace hF := q_f c7 hF
    refine g_aload_n 0 dX12_token_177 rfl ?_
    refine g_iload_n 1 dX12_token_178 rfl ?_
    refine g_iconst dX12_token_179 lt_iconst_2 ?_
    refine g_icmp_ge 201 dX12_token_180 (by decide) (fun c8 => ?_) (fun c8 => ?_)
    · replace hF := q_t c8 hF
      refine g_aload_n 0 dX12_token_201 rfl ?_
      obtain ⟨x9, e10, hF⟩ := q_bind hF
      refine g_getfI fl_X12_135 e10 dX12_token_202 ?_
      exact J_X12_token_205 l b D z hF hback hx0
    · replace hF := q_f c8 hF
      refine g_bipush dX12_token_183 lt_bipush_10 ?_
      refine g_aload_n 0 dX12_token_185 rfl ?_
      obtain ⟨x11, e12, hF⟩ := q_bind hF
      refine g_getfI fl_X12_135 e12 dX12_token_186 ?_
      refine g_imul dX12_token_189 ?_
      refine g_aload_n 0 dX12_token_190 rfl ?_
      obtain ⟨u13, e14, hF⟩ := q_bind hF
      obtain ⟨x15, e16, hF⟩ := q_bind hF
      refine g_callVr0 (ci := 12) (q := (RX12, TX12, 49)) qm_X12_see wd_1646 wd_1648 wd_81 rfl e14 (M_X12_see l b D z nx e16) (As := []) rfl rfl (Nat.le_of_ble_eq_true rfl) ⟨(Nat.le_of_ble_eq_true rfl), (Nat.le_of_ble_eq_true rfl)⟩ ⟨rfl, rfl⟩ ⟨(Nat.le_of_ble_eq_true rfl), (Nat.le_of_ble_eq_true rfl)⟩ dX12_token_191 ?_
      refine g_iadd dX12_token_194 ?_
      refine g_bipush dX12_token_195 lt_bipush_48 ?_
      refine g_isub dX12_token_197 ?_
      refine g_goto 205 dX12_token_198 (by decide) ?_
      exact J_X12_token_205_2 l b D z hF hback hx0
set_option maxRecDepth 100000 in
set_option maxHeartbeats 4000000 in
theorem L_X12_token_163 (l : Launch) (b : Nat) (D : va_G) (z : Nat → Nat) {Φ : Option Value → qH → Nat → Prop} {nx : Nat} {a0 : Nat} : ∀ (n : Nat) (a2 : Int32) (h : qH) (e : (Int32 × qH)), q_lp (s_X12_token_163 a0) n (a2, h) = some e → (∀ (b2 : Int32) (bh : qH), e = (b2, bh) → Go l b D z yX12_token cX12_token 3 none rm_X12_token Φ 224 [(0, .ref a0), (2, .int b2)] [] bh nx 0 0) → Go l b D z yX12_token cX12_token 3 none rm_X12_token Φ 163 [(0, .ref a0), (2, .int a2)] [] h nx 0 0 := by
  intro n
  induction n with
  | zero => intro a2 h e he; cases (show none = some e from he)
  | succ n ih =>
    intro a2 h e he hx0
    obtain ⟨o, ho, h1, h2⟩ := q_lp_succ he
    exact B_X12_token_163 l b D z (show b_X12_token_163 a0 a2 h = some o from ho) (fun b2 bh hb => ih _ _ e (h1 _ hb) hx0) (fun p0 p1 hr => hx0 p0 p1 (h2 _ hr).symm)
set_option maxRecDepth 100000 in
set_option maxHeartbeats 4000000 in
theorem B_X12_token_74 (l : Launch) (b : Nat) (D : va_G) (z : Nat → Nat) {Φ : Option Value → qH → Nat → Prop} {nx : Nat} {a0 : Nat} {a2 : Int32} {h : qH} {o : (Int32 × qH) ⊕ ((Int32 × qH))} (hF : b_X12_token_74 a0 a2 h = some o) (hback : ∀ (b2 : Int32) (bh : qH), o = .inl (b2, bh) → Go l b D z yX12_token cX12_token 3 none rm_X12_token Φ 74 [(0, .ref a0), (2, .int b2)] [] bh nx 0 0) (hx0 : ∀ (b2 : Int32) (bh : qH), o = .inr (b2, bh) → Go l b D z yX12_token cX12_token 3 none rm_X12_token Φ 121 [(0, .ref a0), (2, .int b2)] [] bh nx 0 0) : Go l b D z yX12_token cX12_token 3 none rm_X12_token Φ 74 [(0, .ref a0), (2, .int a2)] [] h nx 0 0 := by
  unfold b_X12_token_74 at hF
  refine g_aload_n 0 dX12_token_74 rfl ?_
  obtain ⟨u1, e2, hF⟩ := q_bind hF
  obtain ⟨x3, e4, hF⟩ := q_bind hF
  refine g_callVr0 (ci := 12) (q := (RX12, TX12, 49)) qm_X12_see wd_1646 wd_1648 wd_81 rfl e2 (M_X12_see l b D z nx e4) (As := []) rfl rfl (Nat.le_of_ble_eq_true rfl) ⟨(Nat.le_of_ble_eq_true rfl), (Nat.le_of_ble_eq_true rfl)⟩ ⟨rfl, rfl⟩ ⟨(Nat.le_of_ble_eq_true rfl), (Nat.le_of_ble_eq_true rfl)⟩ dX12_token_75 ?_
  refine g_bipush dX12_token_78 lt_bipush_97 ?_
  refine g_bipush dX12_token_80 lt_bipush_122 ?_
  obtain ⟨x5, e6, hF⟩ := q_bind hF
  refine g_callSr0 qm_X12_in wd_1623 wd_1624 (M_X12_in l b D z nx e6) (As := [.int x3, .int (97 : Int32), .int (122 : Int32)]) rfl rfl (Nat.le_of_ble_eq_true rfl) ⟨(Nat.le_of_ble_eq_true rfl), (Nat.le_of_ble_eq_true rfl)⟩ ⟨rfl, rfl⟩ ⟨(Nat.le_of_ble_eq_true rfl), (Nat.le_of_ble_eq_true rfl)⟩ dX12_token_82 ?_
  refine g_if_eq 121 dX12_token_85 (by decide) (fun c7 => ?_) (fun c7 => ?_)
  · replace hF := q_t c7 hF
    cases hF
    exact hx0 _ _ rfl
  · replace hF := q_f c7 hF
    refine g_aload_n 0 dX12_token_88 rfl ?_
    refine g_aload_n 0 dX12_token_89 rfl ?_
    obtain ⟨x8, e9, hF⟩ := q_bind hF
    refine g_getfL fl_X12_128 e9 dX12_token_90 ?_
    refine g_bipush dX12_token_93 lt_bipush_8 ?_
    refine g_lshl dX12_token_95 ?_
    refine g_aload_n 0 dX12_token_96 rfl ?_
    obtain ⟨u10, e11, hF⟩ := q_bind hF
    obtain ⟨x12, e13, hF⟩ := q_bind hF
    refine g_callVr0 (ci := 12) (q := (RX12, TX12, 49)) qm_X12_see wd_1646 wd_1648 wd_81 rfl e11 (M_X12_see l b D z nx e13) (As := []) rfl rfl (Nat.le_of_ble_eq_true rfl) ⟨(Nat.le_of_ble_eq_true rfl), (Nat.le_of_ble_eq_true rfl)⟩ ⟨rfl, rfl⟩ ⟨(Nat.le_of_ble_eq_true rfl), (Nat.le_of_ble_eq_true rfl)⟩ dX12_token_97 ?_
    refine g_i2l dX12_token_100 ?_
    refine g_lor dX12_token_101 ?_
    obtain ⟨h14, e15, hF⟩ := q_bind hF
    refine g_putf fl_X12_128 e15 rfl rfl dX12_token_102 ?_
    refine g_aload_n 0 dX12_token_105 rfl ?_
    refine g_dup dX12_token_106 rfl ?_
    obtain ⟨x16, e17, hF⟩ := q_bind hF
    refine g_getfI fl_X12_115 e17 dX12_token_107 ?_
    refine g_iconst dX12_token_110 lt_iconst_1 ?_
    refine g_iadd dX12_token_111 ?_
    obtain ⟨h18, e19, hF⟩ := q_bind hF
    refine g_putf fl_X12_115 e19 rfl rfl dX12_token_112 ?_
    refine g_iinc [(2, .int (a2 + 1)), (0, .ref a0)] 1 dX12_token_115 rfl (congrArg (a2 + ·) lt_iconst_1) (Nat.le_of_ble_eq_true rfl) rfl ?_
    refine g_goto 74 dX12_token_118 (by decide) ?_
    cases hF
    refine g_sub [1, 0] rfl ?_
    exact hback _ _ rfl
set_option maxRecDepth 100000 in
set_option maxHeartbeats 4000000 in
theorem L_X12_token_74 (l : Launch) (b : Nat) (D : va_G) (z : Nat → Nat) {Φ : Option Value → qH → Nat → Prop} {nx : Nat} {a0 : Nat} : ∀ (n : Nat) (a2 : Int32) (h : qH) (e : (Int32 × qH)), q_lp (s_X12_token_74 a0) n (a2, h) = some e → (∀ (b2 : Int32) (bh : qH), e = (b2, bh) → Go l b D z yX12_token cX12_token 3 none rm_X12_token Φ 121 [(0, .ref a0), (2, .int b2)] [] bh nx 0 0) → Go l b D z yX12_token cX12_token 3 none rm_X12_token Φ 74 [(0, .ref a0), (2, .int a2)] [] h nx 0 0 := by
  intro n
  induction n with
  | zero => intro a2 h e he; cases (show none = some e from he)
  | succ n ih =>
    intro a2 h e he hx0
    obtain ⟨o, ho, h1, h2⟩ := q_lp_succ he
    exact B_X12_token_74 l b D z (show b_X12_token_74 a0 a2 h = some o from ho) (fun b2 bh hb => ih _ _ e (h1 _ hb) hx0) (fun p0 p1 hr => hx0 p0 p1 (h2 _ hr).symm)
set_option maxRecDepth 100000 in
set_option maxHeartbeats 4000000 in
theorem M_X12_token (l : Launch) (b : Nat) (D : va_G) (z : Nat → Nat) (nx : Nat) {h : qH} {a0 : Nat} {r : qH} (hF : F_X12_token h a0 = some r) : Me l b D z yX12_token cX12_token 3 none rm_X12_token [.ref a0] h nx (qE none r nx) := by
  refine Me.of (by decide +kernel) (Nat.le_of_ble_eq_true rfl) ?_
  show Go l b D z yX12_token cX12_token 3 none rm_X12_token (qE none r nx) 0 [(0, .ref a0)] [] h nx 0 0
  unfold F_X12_token at hF
  obtain ⟨e1, w2, hF⟩ := q_bind hF
  refine L_X12_token_0 l b D z q_N h e1 w2 ?_
  · intro h3 w4
    replace w4 := w4.symm
    subst w4
    refine g_aload_n 0 dX12_token_31 rfl ?_
    refine g_aload_n 0 dX12_token_32 rfl ?_
    obtain ⟨x5, e6, hF⟩ := q_bind hF
    refine g_getfI fl_X12_115 e6 dX12_token_33 ?_
    obtain ⟨h7, e8, hF⟩ := q_bind hF
    refine g_putf fl_X12_125 e8 rfl rfl dX12_token_36 ?_
    refine g_aload_n 0 dX12_token_39 rfl ?_
    obtain ⟨u9, e10, hF⟩ := q_bind hF
    obtain ⟨x11, e12, hF⟩ := q_bind hF
    refine g_callVr0 (ci := 12) (q := (RX12, TX12, 49)) qm_X12_see wd_1646 wd_1648 wd_81 rfl e10 (M_X12_see l b D z nx e12) (As := []) rfl rfl (Nat.le_of_ble_eq_true rfl) ⟨(Nat.le_of_ble_eq_true rfl), (Nat.le_of_ble_eq_true rfl)⟩ ⟨rfl, rfl⟩ ⟨(Nat.le_of_ble_eq_true rfl), (Nat.le_of_ble_eq_true rfl)⟩ dX12_token_40 ?_
    refine g_istore_n [(1, .int x11), (0, .ref a0)] dX12_token_43 (Nat.le_of_ble_eq_true rfl) rfl ?_
    refine g_aload_n 1 dX12_token_44 rfl ?_
    refine g_lconst (v := 0) dX12_token_45 (by decide +kernel) ?_
    obtain ⟨h13, e14, hF⟩ := q_bind hF
    refine g_putf fl_X12_128 e14 rfl rfl dX12_token_46 ?_
    refine g_iconst dX12_token_49 lt_iconst_0 ?_
    refine g_istore_n [(2, .int (0 : Int32)), (1, .int x11), (0, .ref a0)] dX12_token_50 (Nat.le_of_ble_eq_true rfl) rfl ?_
    refine g_iload_n 1 dX12_token_51 rfl ?_
    refine g_if_ge 63 dX12_token_52 (by decide) (fun c15 => ?_) (fun c15 => ?_)
    · replace hF := q_t c15 hF
      refine g_iload_n 1 dX12_token_63 rfl ?_
      refine g_bipush dX12_token_64 lt_bipush_97 ?_
      refine g_bipush dX12_token_66 lt_bipush_122 ?_
      obtain ⟨x16, e17, hF⟩ := q_bind hF
      refine g_callSr0 qm_X12_in wd_1623 wd_1624 (M_X12_in l b D z nx e17) (As := [.int x11, .int (97 : Int32), .int (122 : Int32)]) rfl rfl (Nat.le_of_ble_eq_true rfl) ⟨(Nat.le_of_ble_eq_true rfl), (Nat.le_of_ble_eq_true rfl)⟩ ⟨rfl, rfl⟩ ⟨(Nat.le_of_ble_eq_true rfl), (Nat.le_of_ble_eq_true rfl)⟩ dX12_token_68 ?_
      refine g_if_eq 147 dX12_token_71 (by decide) (fun c18 => ?_) (fun c18 => ?_)
      · replace hF := q_t c18 hF
        refine g_iload_n 1 dX12_token_147 rfl ?_
        refine g_bipush dX12_token_148 lt_bipush_48 ?_
        refine g_bipush dX12_token_150 lt_bipush_57 ?_
        obtain ⟨x19, e20, hF⟩ := q_bind hF
        refine g_callSr0 qm_X12_in wd_1623 wd_1624 (M_X12_in l b D z nx e20) (As := [.int x11, .int (48 : Int32), .int (57 : Int32)]) rfl rfl (Nat.le_of_ble_eq_true rfl) ⟨(Nat.le_of_ble_eq_true rfl), (Nat.le_of_ble_eq_true rfl)⟩ ⟨rfl, rfl⟩ ⟨(Nat.le_of_ble_eq_true rfl), (Nat.le_of_ble_eq_true rfl)⟩ dX12_token_152 ?_
        refine g_if_eq 241 dX12_token_155 (by decide) (fun c21 => ?_) (fun c21 => ?_)
        · replace hF := q_t c21 hF
          refine g_aload_n 2 dX12_token_241 rfl ?_
          refine g_dup dX12_token_242 rfl ?_
          obtain ⟨x22, e23, hF⟩ := q_bind hF
          refine g_getfI fl_X12_115 e23 dX12_token_243 ?_
          refine g_iconst dX12_token_246 lt_iconst_1 ?_
          refine g_iadd dX12_token_247 ?_
          obtain ⟨h24, e25, hF⟩ := q_bind hF
          refine g_putf fl_X12_115 e25 rfl rfl dX12_token_248 ?_
          refine g_aload_n 2 dX12_token_251 rfl ?_
          refine g_iload_n 1 dX12_token_252 rfl ?_
          refine g_bipush dX12_token_253 lt_bipush_59 ?_
          refine g_icmp_ne 262 dX12_token_255 (by decide) (fun c26 => ?_) (fun c26 => ?_)
          · replace hF := q_f c26 hF
            refine g_iconst dX12_token_262 lt_iconst_1 ?_
            obtain ⟨h27, e28, hF⟩ := q_bind hF
            refine g_putf fl_X12_132 e28 rfl rfl dX12_token_263 ?_
            cases hF
            exact g_vret dX12_token_266 rfl ⟨rfl, rfl, rfl⟩ (Nat.le_of_ble_eq_true rfl) (Nat.le_of_ble_eq_true rfl)
          · replace hF := q_t c26 hF
            refine g_iconst dX12_token_258 lt_iconst_4 ?_
            refine g_goto 263 dX12_token_259 (by decide) ?_
            obtain ⟨h29, e30, hF⟩ := q_bind hF
            refine g_putf fl_X12_132 e30 rfl rfl dX12_token_263 ?_
            cases hF
            exact g_vret dX12_token_266 rfl ⟨rfl, rfl, rfl⟩ (Nat.le_of_ble_eq_true rfl) (Nat.le_of_ble_eq_true rfl)
        · replace hF := q_f c21 hF
          refine g_aload_n 2 dX12_token_158 rfl ?_
          refine g_iconst dX12_token_159 lt_iconst_0 ?_
          obtain ⟨h31, e32, hF⟩ := q_bind hF
          refine g_putf fl_X12_135 e32 rfl rfl dX12_token_160 ?_
          obtain ⟨e33, w34, hF⟩ := q_bind hF
          refine g_sub [2, 0] rfl ?_
          refine L_X12_token_163 l b D z q_N (0 : Int32) h31 e33 w34 ?_
          · intro o35 h36 w37
            replace w37 := w37.symm
            subst w37
            dsimp only at hF
            refine g_aload_n 0 dX12_token_224 rfl ?_
            refine g_iload_n 1 dX12_token_225 rfl ?_
            refine g_iconst dX12_token_226 lt_iconst_2 ?_
            refine g_icmp_le 234 dX12_token_227 (by decide) (fun c38 => ?_) (fun c38 => ?_)
            · replace hF := q_t c38 hF
              refine g_iconst dX12_token_234 lt_iconst_3 ?_
              obtain ⟨h39, e40, hF⟩ := q_bind hF
              refine g_putf fl_X12_132 e40 rfl rfl dX12_token_235 ?_
              refine g_goto 266 dX12_token_238 (by decide) ?_
              cases hF
              exact g_vret dX12_token_266 rfl ⟨rfl, rfl, rfl⟩ (Nat.le_of_ble_eq_true rfl) (Nat.le_of_ble_eq_true rfl)
            · replace hF := q_f c38 hF
              refine g_iconst dX12_token_230 lt_iconst_1 ?_
              refine g_goto 235 dX12_token_231 (by decide) ?_
              obtain ⟨h41, e42, hF⟩ := q_bind hF
              refine g_putf fl_X12_132 e42 rfl rfl dX12_token_235 ?_
              refine g_goto 266 dX12_token_238 (by decide) ?_
              cases hF
              exact g_vret dX12_token_266 rfl ⟨rfl, rfl, rfl⟩ (Nat.le_of_ble_eq_true rfl) (Nat.le_of_ble_eq_true rfl)
      · replace hF := q_f c18 hF
        obtain ⟨e44, w45, hF⟩ := q_bind hF
        refine g_sub [2, 0] rfl ?_
        refine L_X12_token_74 l b D z q_N (0 : Int32) h13 e44 w45 ?_
        · intro o46 h47 w48
          replace w48 := w48.symm
          subst w48
          dsimp only at hF
          refine g_aload_n 0 dX12_token_121 rfl ?_
          refine g_iload_n 1 dX12_token_122 rfl ?_
          refine g_bipush dX12_token_123 lt_bipush_8 ?_
          refine g_icmp_le 132 dX12_token_125 (by decide) (fun c49 => ?_) (fun c49 => ?_)
          · replace hF := q_t c49 hF
            refine g_aload_n 0 dX12_token_132 rfl ?_
            obtain ⟨x50, e51, hF⟩ := q_bind hF
            refine g_getfL fl_X12_128 e51 dX12_token_133 ?_
            obtain ⟨h52, e53, hF⟩ := q_bind hF
            refine g_putf fl_X12_128 e53 rfl rfl dX12_token_136 ?_
            refine g_aload_n 0 dX12_token_139 rfl ?_
            refine g_iconst dX12_token_140 lt_iconst_2 ?_
            obtain ⟨h54, e55, hF⟩ := q_bind hF
            refine g_putf fl_X12_132 e55 rfl rfl dX12_token_141 ?_
            refine g_goto 266 dX12_token_144 (by decide) ?_
            cases hF
            exact g_vret dX12_token_266 rfl ⟨rfl, rfl, rfl⟩ (Nat.le_of_ble_eq_true rfl) (Nat.le_of_ble_eq_true rfl)
          · replace hF := q_f c49 hF
            refine g_lconst (v := 0) dX12_token_128 (by decide +kernel) ?_
            refine g_goto 136 dX12_token_129 (by decide) ?_
            obtain ⟨h56, e57, hF⟩ := q_bind hF
            refine g_putf fl_X12_128 e57 rfl rfl dX12_token_136 ?_
            refine g_aload_n 0 dX12_token_139 rfl ?_
            refine g_iconst dX12_token_140 lt_iconst_2 ?_
            obtain ⟨h58, e59, hF⟩ := q_bind hF
            refine g_putf fl_X12_132 e59 rfl rfl dX12_token_141 ?_
            refine g_goto 266 dX12_token_144 (by decide) ?_
            cases hF
            exact g_vret dX12_token_266 rfl ⟨rfl, rfl, rfl⟩ (Nat.le_of_ble_eq_true rfl) (Nat.le_of_ble_eq_true rfl)
    · replace hF := q_f c15 hF
      refine g_aload_n 2 dX12_token_55 rfl ?_
      refine g_iconst dX12_token_56 lt_iconst_0 ?_
      obtain ⟨h61, e62, hF⟩ := q_bind hF
      refine g_putf fl_X12_132 e62 rfl rfl dX12_token_57 ?_
      refine g_goto 266 dX12_token_60 (by decide) ?_
      cases hF
      exact g_vret dX12_token_266 rfl ⟨rfl, rfl, rfl⟩ (Nat.le_of_ble_eq_true rfl) (Nat.le_of_ble_eq_true rfl)
def rm_X12_fails : Room := { frames := 0, cells := 0, slots := 0, locals := 0 }
set_option maxRecDepth 100000 in
set_option maxHeartbeats 4000000 in
theorem M_X12_fails (l : Launch) (b : Nat) (D : va_G) (z : Nat → Nat) (nx : Nat) {h : qH} {a0 : Nat} {r : Int32 × qH} (hF : F_X12_fails h a0 = some r) : Me l b D z yX12_fails cX12_fails 1 (some .boolean) rm_X12_fails [.ref a0] h nx (qE (some (.int r.1)) r.2 nx) := by
  refine Me.of (by decide +kernel) (Nat.le_of_ble_eq_true rfl) ?_
  show Go l b D z yX12_fails cX12_fails 1 (some .boolean) rm_X12_fails (qE (some (.int r.1)) r.2 nx) 0 [(0, .ref a0)] [] h nx 0 0
  unfold F_X12_fails at hF
  refine g_aload_n 0 dX12_fails_0 rfl ?_
  refine g_aload_n 0 dX12_fails_1 rfl ?_
  obtain ⟨x1, e2, hF⟩ := q_bind hF
  refine g_getfI fl_X12_125 e2 dX12_fails_2 ?_
  obtain ⟨h3, e4, hF⟩ := q_bind hF
  refine g_putf fl_X12_138 e4 rfl rfl dX12_fails_5 ?_
  refine g_iconst dX12_fails_8 lt_iconst_0 ?_
  cases hF
  exact g_zret dX12_fails_9 rfl zn_0 ⟨rfl, rfl, rfl⟩ (Nat.le_of_ble_eq_true rfl) (Nat.le_of_ble_eq_true rfl)
def rm_X12_later : Room := { frames := 0, cells := 0, slots := 0, locals := 0 }
set_option maxRecDepth 100000 in
set_option maxHeartbeats 4000000 in
theorem M_X12_later (l : Launch) (b : Nat) (D : va_G) (z : Nat → Nat) (nx : Nat) {h : qH} {a0 : Nat} {a1 : Int32} {a2 : Int32} {r : qH} (hF : F_X12_later h a0 a1 a2 = some r) : Me l b D z yX12_later cX12_later 3 none rm_X12_later [.ref a0, .int a1, .int a2] h nx (qE none r nx) := by
  refine Me.of (by decide +kernel) (Nat.le_of_ble_eq_true rfl) ?_
  show Go l b D z yX12_later cX12_later 3 none rm_X12_later (qE none r nx) 0 [(0, .ref a0), (1, .int a1), (2, .int a2)] [] h nx 0 0
  unfold F_X12_later at hF
  refine g_aload_n 0 dX12_later_0 rfl ?_
  obtain ⟨x1, e2, hF⟩ := q_bind hF
  refine g_getfI fl_X12_141 e2 dX12_later_1 ?_
  refine g_if_eq 31 dX12_later_4 (by decide) (fun c3 => ?_) (fun c3 => ?_)
  · replace hF := q_t c3 hF
    refine g_aload_n 0 dX12_later_31 rfl ?_
    refine g_iload_n 1 dX12_later_32 rfl ?_
    obtain ⟨h4, e5, hF⟩ := q_bind hF
    refine g_putf fl_X12_141 e5 rfl rfl dX12_later_33 ?_
    refine g_aload_n 0 dX12_later_36 rfl ?_
    refine g_iload_n 2 dX12_later_37 rfl ?_
    obtain ⟨h6, e7, hF⟩ := q_bind hF
    refine g_putf fl_X12_144 e7 rfl rfl dX12_later_38 ?_
    cases hF
    exact g_vret dX12_later_41 rfl ⟨rfl, rfl, rfl⟩ (Nat.le_of_ble_eq_true rfl) (Nat.le_of_ble_eq_true rfl)
  · replace hF := q_f c3 hF
    refine g_iload_n 2 dX12_later_7 rfl ?_
    refine g_aload_n 0 dX12_later_8 rfl ?_
    obtain ⟨x8, e9, hF⟩ := q_bind hF
    refine g_getfI fl_X12_144 e9 dX12_later_9 ?_
    refine g_icmp_lt 31 dX12_later_12 (by decide) (fun c10 => ?_) (fun c10 => ?_)
    · replace hF := q_t c10 hF
      refine g_aload_n 0 dX12_later_31 rfl ?_
      refine g_iload_n 1 dX12_later_32 rfl ?_
      obtain ⟨h11, e12, hF⟩ := q_bind hF
      refine g_putf fl_X12_141 e12 rfl rfl dX12_later_33 ?_
      refine g_aload_n 0 dX12_later_36 rfl ?_
      refine g_iload_n 2 dX12_later_37 rfl ?_
      obtain ⟨h13, e14, hF⟩ := q_bind hF
      refine g_putf fl_X12_144 e14 rfl rfl dX12_later_38 ?_
      cases hF
      exact g_vret dX12_later_41 rfl ⟨rfl, rfl, rfl⟩ (Nat.le_of_ble_eq_true rfl) (Nat.le_of_ble_eq_true rfl)
    · replace hF := q_f c10 hF
      refine g_iload_n 2 dX12_later_15 rfl ?_
      refine g_aload_n 0 dX12_later_16 rfl ?_
      obtain ⟨x15, e16, hF⟩ := q_bind hF
      refine g_getfI fl_X12_144 e16 dX12_later_17 ?_
      refine g_icmp_ne 41 dX12_later_20 (by decide) (fun c17 => ?_) (fun c17 => ?_)
      · replace hF := q_f c17 hF
        cases hF
        exact g_vret dX12_later_41 rfl ⟨rfl, rfl, rfl⟩ (Nat.le_of_ble_eq_true rfl) (Nat.le_of_ble_eq_true rfl)
      · replace hF := q_t c17 hF
        refine g_iload_n 1 dX12_later_23 rfl ?_
        refine g_aload_n 0 dX12_later_24 rfl ?_
        obtain ⟨x18, e19, hF⟩ := q_bind hF
        refine g_getfI fl_X12_141 e19 dX12_later_25 ?_
        refine g_icmp_ge 41 dX12_later_28 (by decide) (fun c20 => ?_) (fun c20 => ?_)
        · replace hF := q_t c20 hF
          cases hF
          exact g_vret dX12_later_41 rfl ⟨rfl, rfl, rfl⟩ (Nat.le_of_ble_eq_true rfl) (Nat.le_of_ble_eq_true rfl)
        · replace hF := q_f c20 hF
          refine g_aload_n 0 dX12_later_31 rfl ?_
          refine g_iload_n 1 dX12_later_32 rfl ?_
          obtain ⟨h21, e22, hF⟩ := q_bind hF
          refine g_putf fl_X12_141 e22 rfl rfl dX12_later_33 ?_
          refine g_aload_n 0 dX12_later_36 rfl ?_
          refine g_iload_n 2 dX12_later_37 rfl ?_
          obtain ⟨h23, e24, hF⟩ := q_bind hF
          refine g_putf fl_X12_144 e24 rfl rfl dX12_later_38 ?_
          cases hF
          exact g_vret dX12_later_41 rfl ⟨rfl, rfl, rfl⟩ (Nat.le_of_ble_eq_true rfl) (Nat.le_of_ble_eq_true rfl)
def rm_X12_take : Room := { frames := 2, cells := 0, slots := 0, locals := 44 }
set_option maxRecDepth 100000 in
set_option maxHeartbeats 4000000 in
theorem M_X12_take (l : Launch) (b : Nat) (D : va_G) (z : Nat → Nat) (nx : Nat) {h : qH} {a0 : Nat} {a1 : Int32} {a2 : Int32} {a3 : Int32} {r : Int32 × qH} (hF : F_X12_take h a0 a1 a2 a3 = some r) : Me l b D z yX12_take cX12_take 4 (some .boolean) rm_X12_take [.ref a0, .int a1, .int a2, .int a3] h nx (qE (some (.int r.1)) r.2 nx) := by
  refine Me.of (by decide +kernel) (Nat.le_of_ble_eq_true rfl) ?_
  show Go l b D z yX12_take cX12_take 4 (some .boolean) rm_X12_take (qE (some (.int r.1)) r.2 nx) 0 [(0, .ref a0), (1, .int a1), (2, .int a2), (3, .int a3)] [] h nx 0 0
  unfold F_X12_take at hF
  refine g_aload_n 0 dX12_take_0 rfl ?_
  obtain ⟨x1, e2, hF⟩ := q_bind hF
  refine g_getfI fl_X12_132 e2 dX12_take_1 ?_
  refine g_iconst dX12_take_4 lt_iconst_3 ?_
  refine g_icmp_eq 13 dX12_take_5 (by decide) (fun c3 => ?_) (fun c3 => ?_)
  · replace hF := q_t c3 hF
    refine g_aload_n 0 dX12_take_13 rfl ?_
    obtain ⟨x4, e5, hF⟩ := q_bind hF
    refine g_getfR fl_X12_41 e5 dX12_take_14 ?_
    refine g_iload_n 1 dX12_take_17 rfl ?_
    refine g_aload_n 0 dX12_take_18 rfl ?_
    obtain ⟨x6, e7, hF⟩ := q_bind hF
    refine g_getfI fl_X12_135 e7 dX12_take_19 ?_
    obtain ⟨h8, e9, hF⟩ := q_bind hF
    refine g_iast e9 dX12_take_22 ?_
    refine g_aload_n 0 dX12_take_23 rfl ?_
    obtain ⟨x10, e11, hF⟩ := q_bind hF
    refine g_getfI fl_X12_135 e11 dX12_take_24 ?_
    refine g_iload_n 2 dX12_take_27 rfl ?_
    refine g_iload_n 3 dX12_take_28 rfl ?_
    obtain ⟨x12, e13, hF⟩ := q_bind hF
    refine g_callSr0 qm_X12_in wd_1623 wd_1624 (M_X12_in l b D z nx e13) (As := [.int x10, .int a2, .int a3]) rfl rfl (Nat.le_of_ble_eq_true rfl) ⟨(Nat.le_of_ble_eq_true rfl), (Nat.le_of_ble_eq_true rfl)⟩ ⟨rfl, rfl⟩ ⟨(Nat.le_of_ble_eq_true rfl), (Nat.le_of_ble_eq_true rfl)⟩ dX12_take_29 ?_
    refine g_if_ne 49 dX12_take_32 (by decide) (fun c14 => ?_) (fun c14 => ?_)
    · replace hF := q_f c14 hF
      refine g_aload_n 0 dX12_take_49 rfl ?_
      obtain ⟨u15, e16, hF⟩ := q_bind hF
      obtain ⟨x17, e18, hF⟩ := q_bind hF
      refine g_callVv0 (ci := 12) (q := (RX12, TX12, 49)) qm_X12_token wd_1642 wd_1644 wd_80 rfl e16 (M_X12_token l b D z nx e18) (As := []) rfl rfl (Nat.le_of_ble_eq_true rfl) ⟨(Nat.le_of_ble_eq_true rfl), (Nat.le_of_ble_eq_true rfl)⟩ ⟨rfl, rfl⟩ ⟨(Nat.le_of_ble_eq_true rfl), (Nat.le_of_ble_eq_true rfl)⟩ dX12_take_50 ?_
      refine g_iconst dX12_take_53 lt_iconst_1 ?_
      cases hF
      exact g_zret dX12_take_54 rfl zn_1 ⟨rfl, rfl, rfl⟩ (Nat.le_of_ble_eq_true rfl) (Nat.le_of_ble_eq_true rfl)
    · replace hF := q_t c14 hF
      refine g_aload_n 0 dX12_take_35 rfl ?_
      refine g_iconst dX12_take_36 lt_iconst_2 ?_
      refine g_aload_n 0 dX12_take_37 rfl ?_
      obtain ⟨x19, e20, hF⟩ := q_bind hF
      refine g_getfI fl_X12_125 e20 dX12_take_38 ?_
      obtain ⟨u21, e22, hF⟩ := q_bind hF
      obtain ⟨x23, e24, hF⟩ := q_bind hF
      refine g_callVv0 (ci := 12) (q := (RX12, TX12, 49)) qm_X12_later wd_1676 wd_1678 wd_87 rfl e22 (M_X12_later l b D z nx e24) (As := [.int (2 : Int32), .int x19]) rfl rfl (Nat.le_of_ble_eq_true rfl) ⟨(Nat.le_of_ble_eq_true rfl), (Nat.le_of_ble_eq_true rfl)⟩ ⟨rfl, rfl⟩ ⟨(Nat.le_of_ble_eq_true rfl), (Nat.le_of_ble_eq_true rfl)⟩ dX12_take_41 ?_
      refine g_aload_n 0 dX12_take_44 rfl ?_
      refine g_iconst dX12_take_45 lt_iconst_0 ?_
      obtain ⟨h25, e26, hF⟩ := q_bind hF
      refine g_putf fl_X12_155 e26 zn_0 zf_0 dX12_take_46 ?_
      refine g_aload_n 0 dX12_take_49 rfl ?_
      obtain ⟨u27, e28, hF⟩ := q_bind hF
      obtain ⟨x29, e30, hF⟩ := q_bind hF
      refine g_callVv0 (ci := 12) (q := (RX12, TX12, 49)) qm_X12_token wd_1642 wd_1644 wd_80 rfl e28 (M_X12_token l b D z nx e30) (As := []) rfl rfl (Nat.le_of_ble_eq_true rfl) ⟨(Nat.le_of_ble_eq_true rfl), (Nat.le_of_ble_eq_true rfl)⟩ ⟨rfl, rfl⟩ ⟨(Nat.le_of_ble_eq_true rfl), (Nat.le_of_ble_eq_true rfl)⟩ dX12_take_50 ?_
      refine g_iconst dX12_take_53 lt_iconst_1 ?_
      cases hF
      exact g_zret dX12_take_54 rfl zn_1 ⟨rfl, rfl, rfl⟩ (Nat.le_of_ble_eq_true rfl) (Nat.le_of_ble_eq_true rfl)
  · replace hF := q_f c3 hF
    refine g_aload_n 0 dX12_take_8 rfl ?_
    obtain ⟨u31, e32, hF⟩ := q_bind hF
    obtain ⟨x33, e34, hF⟩ := q_bind hF
    refine g_callVr0 (ci := 12) (q := (RX12, TX12, 49)) qm_X12_fails wd_1668 wd_1670 wd_85 rfl e32 (M_X12_fails l b D z nx e34) (As := []) rfl rfl (Nat.le_of_ble_eq_true rfl) ⟨(Nat.le_of_ble_eq_true rfl), (Nat.le_of_ble_eq_true rfl)⟩ ⟨rfl, rfl⟩ ⟨(Nat.le_of_ble_eq_true rfl), (Nat.le_of_ble_eq_true rfl)⟩ dX12_take_9 ?_
    obtain ⟨u35, e36, hF⟩ := q_bind hF
    cases hF
    exact g_zret dX12_take_12 rfl (q_z_spec e36).2.1 ⟨rfl, rfl, rfl⟩ (Nat.le_of_ble_eq_true rfl) (Nat.le_of_ble_eq_true rfl)
def rm_X12_takeFar : Room := { frames := 3, cells := 0, slots := 0, locals := 67 }
set_option maxRecDepth 100000 in
set_option maxHeartbeats 4000000 in
theorem M_X12_takeFar (l : Launch) (b : Nat) (D : va_G) (z : Nat → Nat) (nx : Nat) {h : qH} {a0 : Nat} {a1 : Int32} {a2 : Int32} {a3 : Int32} {r : Int32 × qH} (hF : F_X12_takeFar h a0 a1 a2 a3 = some r) : Me l b D z yX12_takeFar cX12_takeFar 4 (some .boolean) rm_X12_takeFar [.ref a0, .int a1, .int a2, .int a3] h nx (qE (some (.int r.1)) r.2 nx) := by
  refine Me.of (by decide +kernel) (Nat.le_of_ble_eq_true rfl) ?_
  show Go l b D z yX12_takeFar cX12_takeFar 4 (some .boolean) rm_X12_takeFar (qE (some (.int r.1)) r.2 nx) 0 [(0, .ref a0), (1, .int a1), (2, .int a2), (3, .int a3)] [] h nx 0 0
  unfold F_X12_takeFar at hF
  refine g_aload_n 0 dX12_takeFar_0 rfl ?_
  refine g_iload_n 1 dX12_takeFar_1 rfl ?_
  refine g_iconst dX12_takeFar_2 lt_iconst_0 ?_
  refine g_iload_n 2 dX12_takeFar_3 rfl ?_
  obtain ⟨u1, e2, hF⟩ := q_bind hF
  obtain ⟨x3, e4, hF⟩ := q_bind hF
  refine g_callVr0 (ci := 12) (q := (RX12, TX12, 49)) qm_X12_take wd_1688 wd_1690 wd_90 rfl e2 (M_X12_take l b D z nx e4) (As := [.int a1, .int (0 : Int32), .int a2]) rfl rfl (Nat.le_of_ble_eq_true rfl) ⟨(Nat.le_of_ble_eq_true rfl), (Nat.le_of_ble_eq_true rfl)⟩ ⟨rfl, rfl⟩ ⟨(Nat.le_of_ble_eq_true rfl), (Nat.le_of_ble_eq_true rfl)⟩ dX12_takeFar_4 ?_
  refine g_if_ne 12 dX12_takeFar_7 (by decide) (fun c5 => ?_) (fun c5 => ?_)
  · replace hF := q_f c5 hF
    refine g_aload_n 0 dX12_takeFar_12 rfl ?_
    refine g_aload_n 0 dX12_takeFar_13 rfl ?_
    obtain ⟨x6, e7, hF⟩ := q_bind hF
    refine g_getfI fl_X12_165 e7 dX12_takeFar_14 ?_
    refine g_aload_n 0 dX12_takeFar_17 rfl ?_
    obtain ⟨x8, e9, hF⟩ := q_bind hF
    refine g_getfR fl_X12_41 e9 dX12_takeFar_18 ?_
    refine g_iload_n 1 dX12_takeFar_21 rfl ?_
    obtain ⟨x10, e11, hF⟩ := q_bind hF
    refine g_iald e11 dX12_takeFar_22 ?_
    refine g_iload_n 3 dX12_takeFar_23 rfl ?_
    refine g_iadd dX12_takeFar_24 ?_
    obtain ⟨x12, e13, hF⟩ := q_bind hF
    refine g_callSr0 qm_X12_greater wd_1692 wd_1693 (M_X12_greater l b D z nx e13) (As := [.int x6, .int (x10 + a3)]) rfl rfl (Nat.le_of_ble_eq_true rfl) ⟨(Nat.le_of_ble_eq_true rfl), (Nat.le_of_ble_eq_true rfl)⟩ ⟨rfl, rfl⟩ ⟨(Nat.le_of_ble_eq_true rfl), (Nat.le_of_ble_eq_true rfl)⟩ dX12_takeFar_25 ?_
    obtain ⟨h14, e15, hF⟩ := q_bind hF
    refine g_putf fl_X12_165 e15 rfl rfl dX12_takeFar_28 ?_
    refine g_iconst dX12_takeFar_31 lt_iconst_1 ?_
    cases hF
    exact g_zret dX12_takeFar_32 rfl zn_1 ⟨rfl, rfl, rfl⟩ (Nat.le_of_ble_eq_true rfl) (Nat.le_of_ble_eq_true rfl)
  · replace hF := q_t c5 hF
    refine g_iconst dX12_takeFar_10 lt_iconst_0 ?_
    cases hF
    exact g_zret dX12_takeFar_11 rfl zn_0 ⟨rfl, rfl, rfl⟩ (Nat.le_of_ble_eq_true rfl) (Nat.le_of_ble_eq_true rfl)
def rm_X12_full : Room := { frames := 1, cells := 0, slots := 0, locals := 22 }
set_option maxRecDepth 100000 in
set_option maxHeartbeats 4000000 in
theorem M_X12_full (l : Launch) (b : Nat) (D : va_G) (z : Nat → Nat) (nx : Nat) {h : qH} {a0 : Nat} {a1 : Int32} {a2 : Int32} {a3 : Int32} {r : qH} (hF : F_X12_full h a0 a1 a2 a3 = some r) : Me l b D z yX12_full cX12_full 4 none rm_X12_full [.ref a0, .int a1, .int a2, .int a3] h nx (qE none r nx) := by
  refine Me.of (by decide +kernel) (Nat.le_of_ble_eq_true rfl) ?_
  show Go l b D z yX12_full cX12_full 4 none rm_X12_full (qE none r nx) 0 [(0, .ref a0), (1, .int a1), (2, .int a2), (3, .int a3)] [] h nx 0 0
  unfold F_X12_full at hF
  refine g_aload_n 0 dX12_full_0 rfl ?_
  obtain ⟨x1, e2, hF⟩ := q_bind hF
  refine g_getfR fl_X12_38 e2 dX12_full_1 ?_
  refine g_iload_n 1 dX12_full_4 rfl ?_
  obtain ⟨x3, e4, hF⟩ := q_bind hF
  refine g_iald e4 dX12_full_5 ?_
  refine g_iload_n 2 dX12_full_6 rfl ?_
  refine g_icmp_ne 16 dX12_full_7 (by decide) (fun c5 => ?_) (fun c5 => ?_)
  · replace hF := q_f c5 hF
    cases hF
    exact g_vret dX12_full_16 rfl ⟨rfl, rfl, rfl⟩ (Nat.le_of_ble_eq_true rfl) (Nat.le_of_ble_eq_true rfl)
  · replace hF := q_t c5 hF
    refine g_aload_n 0 dX12_full_10 rfl ?_
    refine g_iconst dX12_full_11 lt_iconst_3 ?_
    refine g_iload_n 3 dX12_full_12 rfl ?_
    obtain ⟨u6, e7, hF⟩ := q_bind hF
    obtain ⟨x8, e9, hF⟩ := q_bind hF
    refine g_callVv0 (ci := 12) (q := (RX12, TX12, 49)) qm_X12_later wd_1676 wd_1678 wd_87 rfl e7 (M_X12_later l b D z nx e9) (As := [.int (3 : Int32), .int a3]) rfl rfl (Nat.le_of_ble_eq_true rfl) ⟨(Nat.le_of_ble_eq_true rfl), (Nat.le_of_ble_eq_true rfl)⟩ ⟨rfl, rfl⟩ ⟨(Nat.le_of_ble_eq_true rfl), (Nat.le_of_ble_eq_true rfl)⟩ dX12_full_13 ?_
    cases hF
    exact g_vret dX12_full_16 rfl ⟨rfl, rfl, rfl⟩ (Nat.le_of_ble_eq_true rfl) (Nat.le_of_ble_eq_true rfl)
def rm_X12_lineLine : Room := { frames := 4, cells := 0, slots := 0, locals := 90 }
set_option maxRecDepth 100000 in
set_option maxHeartbeats 4000000 in
theorem B_X12_lineLine_60 (l : Launch) (b : Nat) (D : va_G) (z : Nat → Nat) {Φ : Option Value → qH → Nat → Prop} {nx : Nat} {a0 : Nat} {a1 : Int32} {a2 : Int32} {h : qH} {o : (Int32 × qH) ⊕ qH} (hF : b_X12_lineLine_60 a0 a1 a2 h = some o) (hback : ∀ (b2 : Int32) (bh : qH), o = .inl (b2, bh) → Go l b D z yX12_lineLine cX12_lineLine 3 (some .boolean) rm_X12_lineLine Φ 60 [(0, .ref a0), (1, .int a1), (2, .int b2)] [] bh nx 0 0) (hx0 : ∀  (bh : qH), o = .inr bh → Go l b D z yX12_lineLine cX12_lineLine 3 (some .boolean) rm_X12_lineLine Φ 90 [(0, .ref a0)] [] bh nx 0 0) : Go l b D z yX12_lineLine cX12_lineLine 3 (some .boolean) rm_X12_lineLine Φ 60 [(0, .ref a0), (1, .int a1), (2, .int a2)] [] h nx 0 0 := by
  unfold b_X12_lineLine_60 at hF
  refine g_iload_n 2 dX12_lineLine_60 rfl ?_
  refine g_iconst dX12_lineLine_61 lt_iconst_4 ?_
  refine g_icmp_ge 90 dX12_lineLine_62 (by decide) (fun c1 => ?_) (fun c1 => ?_)
  · replace hF := q_t c1 hF
    cases hF
    refine g_sub [0] rfl ?_
    exact hx0 _ rfl
  · replace hF := q_f c1 hF
    refine g_aload_n 0 dX12_lineLine_65 rfl ?_
    obtain ⟨x2, e3, hF⟩ := q_bind hF
    refine g_getfR fl_X12_38 e3 dX12_lineLine_66 ?_
    refine g_iconst dX12_lineLine_69 lt_iconst_4 ?_
    refine g_bipush dX12_lineLine_70 lt_bipush_20 ?_
    refine g_iload_n 2 dX12_lineLine_72 rfl ?_
    refine g_imul dX12_lineLine_73 ?_
    refine g_iadd dX12_lineLine_74 ?_
    refine g_iload_n 1 dX12_lineLine_75 rfl ?_
    refine g_iadd dX12_lineLine_76 ?_
    refine g_aload_n 0 dX12_lineLine_77 rfl ?_
    obtain ⟨x4, e5, hF⟩ := q_bind hF
    refine g_getfR fl_X12_41 e5 dX12_lineLine_78 ?_
    refine g_iload_n 2 dX12_lineLine_81 rfl ?_
    obtain ⟨x6, e7, hF⟩ := q_bind hF
    refine g_iald e7 dX12_lineLine_82 ?_
    obtain ⟨h8, e9, hF⟩ := q_bind hF
    refine g_iast e9 dX12_lineLine_83 ?_
    refine g_iinc [(2, .int (a2 + 1)), (0, .ref a0), (1, .int a1)] 2 dX12_lineLine_84 rfl (congrArg (a2 + ·) lt_iconst_1) (Nat.le_of_ble_eq_true rfl) rfl ?_
    refine g_goto 60 dX12_lineLine_87 (by decide) ?_
    cases hF
    refine g_sub [1, 2, 0] rfl ?_
    exact hback _ _ rfl
set_option maxRecDepth 100000 in
set_option maxHeartbeats 4000000 in
theorem L_X12_lineLine_60 (l : Launch) (b : Nat) (D : va_G) (z : Nat → Nat) {Φ : Option Value → qH → Nat → Prop} {nx : Nat} {a0 : Nat} {a1 : Int32} : ∀ (n : Nat) (a2 : Int32) (h : qH) (e : qH), q_lp (s_X12_lineLine_60 a0 a1) n (a2, h) = some e → (∀  (bh : qH), e = bh → Go l b D z yX12_lineLine cX12_lineLine 3 (some .boolean) rm_X12_lineLine Φ 90 [(0, .ref a0)] [] bh nx 0 0) → Go l b D z yX12_lineLine cX12_lineLine 3 (some .boolean) rm_X12_lineLine Φ 60 [(0, .ref a0), (1, .int a1), (2, .int a2)] [] h nx 0 0 := by
  intro n
  induction n with
  | zero => intro a2 h e he; cases (show none = some e from he)
  | succ n ih =>
    intro a2 h e he hx0
    obtain ⟨o, ho, h1, h2⟩ := q_lp_succ he
    exact B_X12_lineLine_60 l b D z (show b_X12_lineLine_60 a0 a1 a2 h = some o from ho) (fun b2 bh hb => ih _ _ e (h1 _ hb) hx0) (fun p0 hr => hx0 p0 (h2 _ hr).symm)
set_option maxRecDepth 100000 in
set_option maxHeartbeats 4000000 in
theorem M_X12_lineLine (l : Launch) (b : Nat) (D : va_G) (z : Nat → Nat) (nx : Nat) {h : qH} {a0 : Nat} {r : Int32 × qH} (hF : F_X12_lineLine h a0 = some r) : Me l b D z yX12_lineLine cX12_lineLine 3 (some .boolean) rm_X12_lineLine [.ref a0] h nx (qE (some (.int r.1)) r.2 nx) := by
  refine Me.of (by decide +kernel) (Nat.le_of_ble_eq_true rfl) ?_
  show Go l b D z yX12_lineLine cX12_lineLine 3 (some .boolean) rm_X12_lineLine (qE (some (.int r.1)) r.2 nx) 0 [(0, .ref a0)] [] h nx 0 0
  unfold F_X12_lineLine at hF
  refine g_aload_n 0 dX12_lineLine_0 rfl ?_
  refine g_iconst dX12_lineLine_1 lt_iconst_0 ?_
  refine g_bipush dX12_lineLine_2 lt_bipush_19 ?_
  refine g_iconst dX12_lineLine_4 lt_iconst_0 ?_
  obtain ⟨u1, e2, hF⟩ := q_bind hF
  obtain ⟨x3, e4, hF⟩ := q_bind hF
  refine g_callVr0 (ci := 12) (q := (RX12, TX12, 49)) qm_X12_takeFar wd_1684 wd_1686 wd_89 rfl e2 (M_X12_takeFar l b D z nx e4) (As := [.int (0 : Int32), .int (19 : Int32), .int (0 : Int32)]) rfl rfl (Nat.le_of_ble_eq_true rfl) ⟨(Nat.le_of_ble_eq_true rfl), (Nat.le_of_ble_eq_true rfl)⟩ ⟨rfl, rfl⟩ ⟨(Nat.le_of_ble_eq_true rfl), (Nat.le_of_ble_eq_true rfl)⟩ dX12_lineLine_5 ?_
  refine g_if_eq 43 dX12_lineLine_8 (by decide) (fun c5 => ?_) (fun c5 => ?_)
  · replace hF := q_t c5 hF
    refine g_iconst dX12_lineLine_43 lt_iconst_0 ?_
    cases hF
    exact g_zret dX12_lineLine_44 rfl zn_0 ⟨rfl, rfl, rfl⟩ (Nat.le_of_ble_eq_true rfl) (Nat.le_of_ble_eq_true rfl)
  · replace hF := q_f c5 hF
    refine g_aload_n 0 dX12_lineLine_11 rfl ?_
    refine g_iconst dX12_lineLine_12 lt_iconst_1 ?_
    refine g_iconst dX12_lineLine_13 lt_iconst_0 ?_
    refine g_iconst dX12_lineLine_14 lt_iconst_5 ?_
    obtain ⟨u6, e7, hF⟩ := q_bind hF
    obtain ⟨x8, e9, hF⟩ := q_bind hF
    refine g_callVr0 (ci := 12) (q := (RX12, TX12, 49)) qm_X12_take wd_1688 wd_1690 wd_90 rfl e7 (M_X12_take l b D z nx e9) (As := [.int (1 : Int32), .int (0 : Int32), .int (5 : Int32)]) rfl rfl (Nat.le_of_ble_eq_true rfl) ⟨(Nat.le_of_ble_eq_true rfl), (Nat.le_of_ble_eq_true rfl)⟩ ⟨rfl, rfl⟩ ⟨(Nat.le_of_ble_eq_true rfl), (Nat.le_of_ble_eq_true rfl)⟩ dX12_lineLine_15 ?_
    refine g_if_eq 43 dX12_lineLine_18 (by decide) (fun c10 => ?_) (fun c10 => ?_)
    · replace hF := q_t c10 hF
      refine g_iconst dX12_lineLine_43 lt_iconst_0 ?_
      cases hF
      exact g_zret dX12_lineLine_44 rfl zn_0 ⟨rfl, rfl, rfl⟩ (Nat.le_of_ble_eq_true rfl) (Nat.le_of_ble_eq_true rfl)
    · replace hF := q_f c10 hF
      refine g_aload_n 0 dX12_lineLine_21 rfl ?_
      refine g_iconst dX12_lineLine_22 lt_iconst_2 ?_
      refine g_iconst dX12_lineLine_23 lt_iconst_0 ?_
      refine g_bipush dX12_lineLine_24 lt_bipush_9 ?_
      obtain ⟨u11, e12, hF⟩ := q_bind hF
      obtain ⟨x13, e14, hF⟩ := q_bind hF
      refine g_callVr0 (ci := 12) (q := (RX12, TX12, 49)) qm_X12_take wd_1688 wd_1690 wd_90 rfl e12 (M_X12_take l b D z nx e14) (As := [.int (2 : Int32), .int (0 : Int32), .int (9 : Int32)]) rfl rfl (Nat.le_of_ble_eq_true rfl) ⟨(Nat.le_of_ble_eq_true rfl), (Nat.le_of_ble_eq_true rfl)⟩ ⟨rfl, rfl⟩ ⟨(Nat.le_of_ble_eq_true rfl), (Nat.le_of_ble_eq_true rfl)⟩ dX12_lineLine_26 ?_
      refine g_if_eq 43 dX12_lineLine_29 (by decide) (fun c15 => ?_) (fun c15 => ?_)
      · replace hF := q_t c15 hF
        refine g_iconst dX12_lineLine_43 lt_iconst_0 ?_
        cases hF
        exact g_zret dX12_lineLine_44 rfl zn_0 ⟨rfl, rfl, rfl⟩ (Nat.le_of_ble_eq_true rfl) (Nat.le_of_ble_eq_true rfl)
      · replace hF := q_f c15 hF
        refine g_aload_n 0 dX12_lineLine_32 rfl ?_
        refine g_iconst dX12_lineLine_33 lt_iconst_3 ?_
        refine g_iconst dX12_lineLine_34 lt_iconst_0 ?_
        refine g_bipush dX12_lineLine_35 lt_bipush_9 ?_
        obtain ⟨u16, e17, hF⟩ := q_bind hF
        obtain ⟨x18, e19, hF⟩ := q_bind hF
        refine g_callVr0 (ci := 12) (q := (RX12, TX12, 49)) qm_X12_take wd_1688 wd_1690 wd_90 rfl e17 (M_X12_take l b D z nx e19) (As := [.int (3 : Int32), .int (0 : Int32), .int (9 : Int32)]) rfl rfl (Nat.le_of_ble_eq_true rfl) ⟨(Nat.le_of_ble_eq_true rfl), (Nat.le_of_ble_eq_true rfl)⟩ ⟨rfl, rfl⟩ ⟨(Nat.le_of_ble_eq_true rfl), (Nat.le_of_ble_eq_true rfl)⟩ dX12_lineLine_37 ?_
        refine g_if_ne 45 dX12_lineLine_40 (by decide) (fun c20 => ?_) (fun c20 => ?_)
        · replace hF := q_f c20 hF
          refine g_aload_n 0 dX12_lineLine_45 rfl ?_
          obtain ⟨x21, e22, hF⟩ := q_bind hF
          refine g_getfR fl_X12_38 e22 dX12_lineLine_46 ?_
          refine g_iconst dX12_lineLine_49 lt_iconst_0 ?_
          obtain ⟨x23, e24, hF⟩ := q_bind hF
          refine g_iald e24 dX12_lineLine_50 ?_
          refine g_istore_n [(1, .int x23), (0, .ref a0)] dX12_lineLine_51 (Nat.le_of_ble_eq_true rfl) rfl ?_
          refine g_iload_n 0 dX12_lineLine_52 rfl ?_
          refine g_bipush dX12_lineLine_53 lt_bipush_20 ?_
          refine g_icmp_ge 100 dX12_lineLine_55 (by decide) (fun c25 => ?_) (fun c25 => ?_)
          · replace hF := q_t c25 hF
            refine g_iconst dX12_lineLine_100 lt_iconst_1 ?_
            cases hF
            exact g_zret dX12_lineLine_101 rfl zn_1 ⟨rfl, rfl, rfl⟩ (Nat.le_of_ble_eq_true rfl) (Nat.le_of_ble_eq_true rfl)
          · replace hF := q_f c25 hF
            refine g_iconst dX12_lineLine_58 lt_iconst_0 ?_
            refine g_istore_n [(2, .int (0 : Int32)), (1, .int x23), (0, .ref a0)] dX12_lineLine_59 (Nat.le_of_ble_eq_true rfl) rfl ?_
            obtain ⟨e26, w27, hF⟩ := q_bind hF
            refine g_sub [2, 1, 0] rfl ?_
            refine L_X12_lineLine_60 l b D z q_N (0 : Int32) x18.2 e26 w27 ?_
            · intro h28 w29
              replace w29 := w29.symm
              subst w29
              refine g_aload_n 0 dX12_lineLine_90 rfl ?_
              obtain ⟨x30, e31, hF⟩ := q_bind hF
              refine g_getfR fl_X12_38 e31 dX12_lineLine_91 ?_
              refine g_iconst dX12_lineLine_94 lt_iconst_0 ?_
              refine g_dup2 dX12_lineLine_95 rfl rfl ?_
              obtain ⟨x32, e33, hF⟩ := q_bind hF
              refine g_iald e33 dX12_lineLine_96 ?_
              refine g_iconst dX12_lineLine_97 lt_iconst_1 ?_
              refine g_iadd dX12_lineLine_98 ?_
              obtain ⟨h34, e35, hF⟩ := q_bind hF
              refine g_iast e35 dX12_lineLine_99 ?_
              refine g_iconst dX12_lineLine_100 lt_iconst_1 ?_
              cases hF
              exact g_zret dX12_lineLine_101 rfl zn_1 ⟨rfl, rfl, rfl⟩ (Nat.le_of_ble_eq_true rfl) (Nat.le_of_ble_eq_true rfl)
        · replace hF := q_t c20 hF
          refine g_iconst dX12_lineLine_43 lt_iconst_0 ?_
          cases hF
          exact g_zret dX12_lineLine_44 rfl zn_0 ⟨rfl, rfl, rfl⟩ (Nat.le_of_ble_eq_true rfl) (Nat.le_of_ble_eq_true rfl)
def rm_X12_backLine : Room := { frames := 4, cells := 0, slots := 0, locals := 90 }
set_option maxRecDepth 100000 in
set_option maxHeartbeats 4000000 in
theorem M_X12_backLine (l : Launch) (b : Nat) (D : va_G) (z : Nat → Nat) (nx : Nat) {h : qH} {a0 : Nat} {r : Int32 × qH} (hF : F_X12_backLine h a0 = some r) : Me l b D z yX12_backLine cX12_backLine 2 (some .boolean) rm_X12_backLine [.ref a0] h nx (qE (some (.int r.1)) r.2 nx) := by
  refine Me.of (by decide +kernel) (Nat.le_of_ble_eq_true rfl) ?_
  show Go l b D z yX12_backLine cX12_backLine 2 (some .boolean) rm_X12_backLine (qE (some (.int r.1)) r.2 nx) 0 [(0, .ref a0)] [] h nx 0 0
  unfold F_X12_backLine at hF
  refine g_aload_n 0 dX12_backLine_0 rfl ?_
  refine g_iconst dX12_backLine_1 lt_iconst_0 ?_
  refine g_bipush dX12_backLine_2 lt_bipush_19 ?_
  refine g_iconst dX12_backLine_4 lt_iconst_0 ?_
  obtain ⟨u1, e2, hF⟩ := q_bind hF
  obtain ⟨x3, e4, hF⟩ := q_bind hF
  refine g_callVr0 (ci := 12) (q := (RX12, TX12, 49)) qm_X12_takeFar wd_1684 wd_1686 wd_89 rfl e2 (M_X12_takeFar l b D z nx e4) (As := [.int (0 : Int32), .int (19 : Int32), .int (0 : Int32)]) rfl rfl (Nat.le_of_ble_eq_true rfl) ⟨(Nat.le_of_ble_eq_true rfl), (Nat.le_of_ble_eq_true rfl)⟩ ⟨rfl, rfl⟩ ⟨(Nat.le_of_ble_eq_true rfl), (Nat.le_of_ble_eq_true rfl)⟩ dX12_backLine_5 ?_
  refine g_if_eq 22 dX12_backLine_8 (by decide) (fun c5 => ?_) (fun c5 => ?_)
  · replace hF := q_t c5 hF
    refine g_iconst dX12_backLine_22 lt_iconst_0 ?_
    cases hF
    exact g_zret dX12_backLine_23 rfl zn_0 ⟨rfl, rfl, rfl⟩ (Nat.le_of_ble_eq_true rfl) (Nat.le_of_ble_eq_true rfl)
  · replace hF := q_f c5 hF
    refine g_aload_n 0 dX12_backLine_11 rfl ?_
    refine g_iconst dX12_backLine_12 lt_iconst_1 ?_
    refine g_bipush dX12_backLine_13 lt_bipush_19 ?_
    refine g_iconst dX12_backLine_15 lt_iconst_0 ?_
    obtain ⟨u6, e7, hF⟩ := q_bind hF
    obtain ⟨x8, e9, hF⟩ := q_bind hF
    refine g_callVr0 (ci := 12) (q := (RX12, TX12, 49)) qm_X12_takeFar wd_1684 wd_1686 wd_89 rfl e7 (M_X12_takeFar l b D z nx e9) (As := [.int (1 : Int32), .int (19 : Int32), .int (0 : Int32)]) rfl rfl (Nat.le_of_ble_eq_true rfl) ⟨(Nat.le_of_ble_eq_true rfl), (Nat.le_of_ble_eq_true rfl)⟩ ⟨rfl, rfl⟩ ⟨(Nat.le_of_ble_eq_true rfl), (Nat.le_of_ble_eq_true rfl)⟩ dX12_backLine_16 ?_
    refine g_if_ne 24 dX12_backLine_19 (by decide) (fun c10 => ?_) (fun c10 => ?_)
    · replace hF := q_f c10 hF
      refine g_aload_n 0 dX12_backLine_24 rfl ?_
      obtain ⟨x11, e12, hF⟩ := q_bind hF
      refine g_getfR fl_X12_38 e12 dX12_backLine_25 ?_
      refine g_iconst dX12_backLine_28 lt_iconst_1 ?_
      obtain ⟨x13, e14, hF⟩ := q_bind hF
      refine g_iald e14 dX12_backLine_29 ?_
      refine g_istore_n [(1, .int x13), (0, .ref a0)] dX12_backLine_30 (Nat.le_of_ble_eq_true rfl) rfl ?_
      refine g_iload_n 0 dX12_backLine_31 rfl ?_
      refine g_bipush dX12_backLine_32 lt_bipush_8 ?_
      refine g_icmp_ge 77 dX12_backLine_34 (by decide) (fun c15 => ?_) (fun c15 => ?_)
      · replace hF := q_t c15 hF
        refine g_iconst dX12_backLine_77 lt_iconst_1 ?_
        cases hF
        exact g_zret dX12_backLine_78 rfl zn_1 ⟨rfl, rfl, rfl⟩ (Nat.le_of_ble_eq_true rfl) (Nat.le_of_ble_eq_true rfl)
      · replace hF := q_f c15 hF
        refine g_aload_n 1 dX12_backLine_37 rfl ?_
        obtain ⟨x16, e17, hF⟩ := q_bind hF
        refine g_getfR fl_X12_38 e17 dX12_backLine_38 ?_
        refine g_bipush dX12_backLine_41 lt_bipush_84 ?_
        refine g_iload_n 0 dX12_backLine_43 rfl ?_
        refine g_iadd dX12_backLine_44 ?_
        refine g_aload_n 1 dX12_backLine_45 rfl ?_
        obtain ⟨x18, e19, hF⟩ := q_bind hF
        refine g_getfR fl_X12_41 e19 dX12_backLine_46 ?_
        refine g_iconst dX12_backLine_49 lt_iconst_0 ?_
        obtain ⟨x20, e21, hF⟩ := q_bind hF
        refine g_iald e21 dX12_backLine_50 ?_
        obtain ⟨h22, e23, hF⟩ := q_bind hF
        refine g_iast e23 dX12_backLine_51 ?_
        refine g_aload_n 1 dX12_backLine_52 rfl ?_
        obtain ⟨x24, e25, hF⟩ := q_bind hF
        refine g_getfR fl_X12_38 e25 dX12_backLine_53 ?_
        refine g_bipush dX12_backLine_56 lt_bipush_92 ?_
        refine g_iload_n 0 dX12_backLine_58 rfl ?_
        refine g_iadd dX12_backLine_59 ?_
        refine g_aload_n 1 dX12_backLine_60 rfl ?_
        obtain ⟨x26, e27, hF⟩ := q_bind hF
        refine g_getfR fl_X12_41 e27 dX12_backLine_61 ?_
        refine g_iconst dX12_backLine_64 lt_iconst_1 ?_
        obtain ⟨x28, e29, hF⟩ := q_bind hF
        refine g_iald e29 dX12_backLine_65 ?_
        obtain ⟨h30, e31, hF⟩ := q_bind hF
        refine g_iast e31 dX12_backLine_66 ?_
        refine g_aload_n 1 dX12_backLine_67 rfl ?_
        obtain ⟨x32, e33, hF⟩ := q_bind hF
        refine g_getfR fl_X12_38 e33 dX12_backLine_68 ?_
        refine g_iconst dX12_backLine_71 lt_iconst_1 ?_
        refine g_dup2 dX12_backLine_72 rfl rfl ?_
        obtain ⟨x34, e35, hF⟩ := q_bind hF
        refine g_iald e35 dX12_backLine_73 ?_
        refine g_iconst dX12_backLine_74 lt_iconst_1 ?_
        refine g_iadd dX12_backLine_75 ?_
        obtain ⟨h36, e37, hF⟩ := q_bind hF
        refine g_iast e37 dX12_backLine_76 ?_
        refine g_iconst dX12_backLine_77 lt_iconst_1 ?_
        cases hF
        exact g_zret dX12_backLine_78 rfl zn_1 ⟨rfl, rfl, rfl⟩ (Nat.le_of_ble_eq_true rfl) (Nat.le_of_ble_eq_true rfl)
    · replace hF := q_t c10 hF
      refine g_iconst dX12_backLine_22 lt_iconst_0 ?_
      cases hF
      exact g_zret dX12_backLine_23 rfl zn_0 ⟨rfl, rfl, rfl⟩ (Nat.le_of_ble_eq_true rfl) (Nat.le_of_ble_eq_true rfl)
def rm_X12_ownLine : Room := { frames := 3, cells := 0, slots := 0, locals := 67 }
set_option maxRecDepth 100000 in
set_option maxHeartbeats 4000000 in
theorem J_X12_ownLine_31 (l : Launch) (b : Nat) (D : va_G) (z : Nat → Nat) {nx : Nat} {h : qH} {a0 : Nat} {a1 : Int64} {t0 : Int32} {t1 : Int32} {t2 : Nat} {r : Int32 × qH} (hF : j_X12_ownLine_31 h a0 a1 t0 t1 t2 = some r) : Go l b D z yX12_ownLine cX12_ownLine 3 (some .boolean) rm_X12_ownLine (qE (some (.int r.1)) r.2 nx) 31 [(0, .ref a0), (1, .long a1)] [.int t0, .int t1, .ref t2] h nx 0 0 := by
  unfold j_X12_ownLine_31 at hF
  refine g_bipush dX12_ownLine_31 lt_bipush_9 ?_
  obtain ⟨u1, e2, hF⟩ := q_bind hF
  obtain ⟨x3, e4, hF⟩ := q_bind hF
  refine g_callVr0 (ci := 12) (q := (RX12, TX12, 49)) qm_X12_take wd_1688 wd_1690 wd_90 rfl e2 (M_X12_take l b D z nx e4) (As := [.int t1, .int t0, .int (9 : Int32)]) rfl rfl (Nat.le_of_ble_eq_true rfl) ⟨(Nat.le_of_ble_eq_true rfl), (Nat.le_of_ble_eq_true rfl)⟩ ⟨rfl, rfl⟩ ⟨(Nat.le_of_ble_eq_true rfl), (Nat.le_of_ble_eq_true rfl)⟩ dX12_ownLine_33 ?_
  refine g_if_ne 41 dX12_ownLine_36 (by decide) (fun c5 => ?_) (fun c5 => ?_)
  · replace hF := q_f c5 hF
    refine g_aload_n 0 dX12_ownLine_41 rfl ?_
    obtain ⟨x6, e7, hF⟩ := q_bind hF
    refine g_getfR fl_X12_38 e7 dX12_ownLine_42 ?_
    refine g_lload_n 1 dX12_ownLine_45 rfl ?_
    refine g_ldc2 dX12_ownLine_46 wd_1666 ?_
    refine g_lcmp dX12_ownLine_49 ?_
    refine g_if_ne 57 dX12_ownLine_50 (by decide) (fun c8 => ?_) (fun c8 => ?_)
    · replace hF := q_f c8 hF
      refine g_iconst dX12_ownLine_57 lt_iconst_3 ?_
      refine g_aload_n 0 dX12_ownLine_58 rfl ?_
      obtain ⟨x9, e10, hF⟩ := q_bind hF
      refine g_getfR fl_X12_41 e10 dX12_ownLine_59 ?_
      refine g_iconst dX12_ownLine_62 lt_iconst_0 ?_
      obtain ⟨x11, e12, hF⟩ := q_bind hF
      refine g_iald e12 dX12_ownLine_63 ?_
      obtain ⟨h13, e14, hF⟩ := q_bind hF
      refine g_iast e14 dX12_ownLine_64 ?_
      refine g_iconst dX12_ownLine_65 lt_iconst_1 ?_
      cases hF
      exact g_zret dX12_ownLine_66 rfl zn_1 ⟨rfl, rfl, rfl⟩ (Nat.le_of_ble_eq_true rfl) (Nat.le_of_ble_eq_true rfl)
    · replace hF := q_t c8 hF
      refine g_iconst dX12_ownLine_53 lt_iconst_2 ?_
      refine g_goto 58 dX12_ownLine_54 (by decide) ?_
      refine g_aload_n 0 dX12_ownLine_58 rfl ?_
      obtain ⟨x15, e16, hF⟩ := q_bind hF
      refine g_getfR fl_X12_41 e16 dX12_ownLine_59 ?_
      refine g_iconst dX12_ownLine_62 lt_iconst_0 ?_
      obtain ⟨x17, e18, hF⟩ := q_bind hF
      refine g_iald e18 dX12_ownLine_63 ?_
      obtain ⟨h19, e20, hF⟩ := q_bind hF
      refine g_iast e20 dX12_ownLine_64 ?_
      refine g_iconst dX12_ownLine_65 lt_iconst_1 ?_
      cases hF
      exact g_zret dX12_ownLine_66 rfl zn_1 ⟨rfl, rfl, rfl⟩ (Nat.le_of_ble_eq_true rfl) (Nat.le_of_ble_eq_true rfl)
  · replace hF := q_t c5 hF
    refine g_iconst dX12_ownLine_39 lt_iconst_0 ?_
    cases hF
    exact g_zret dX12_ownLine_40 rfl zn_0 ⟨rfl, rfl, rfl⟩ (Nat.le_of_ble_eq_true rfl) (Nat.le_of_ble_eq_true rfl)
set_option maxRecDepth 100000 in
set_option maxHeartbeats 4000000 in
theorem J_X12_ownLine_16 (l : Launch) (b : Nat) (D : va_G) (z : Nat → Nat) {nx : Nat} {h : qH} {a0 : Nat} {a1 : Int64} {r : Int32 × qH} (hF : j_X12_ownLine_16 h a0 a1  = some r) : Go l b D z yX12_ownLine cX12_ownLine 3 (some .boolean) rm_X12_ownLine (qE (some (.int r.1)) r.2 nx) 16 [(0, .ref a0), (1, .long a1)] [] h nx 0 0 := by
  unfold j_X12_ownLine_16 at hF
  refine g_aload_n 0 dX12_ownLine_16 rfl ?_
  refine g_iconst dX12_ownLine_17 lt_iconst_0 ?_
  refine g_lload_n 1 dX12_ownLine_18 rfl ?_
  refine g_ldc2 dX12_ownLine_19 wd_1666 ?_
  refine g_lcmp dX12_ownLine_22 ?_
  refine g_if_ne 30 dX12_ownLine_23 (by decide) (fun c1 => ?_) (fun c1 => ?_)
  · replace hF := q_f c1 hF
    refine g_iconst dX12_ownLine_30 lt_iconst_1 ?_
    exact J_X12_ownLine_31 l b D z hF
  · replace hF := q_t c1 hF
    refine g_iconst dX12_ownLine_26 lt_iconst_0 ?_
    refine g_goto 31 dX12_ownLine_27 (by decide) ?_
    exact J_X12_ownLine_31 l b D z hF
set_option maxRecDepth 100000 in
set_option maxHeartbeats 4000000 in
theorem J_X12_ownLine_124 (l : Launch) (b : Nat) (D : va_G) (z : Nat → Nat) {nx : Nat} {h : qH} {a0 : Nat} {a1 : Int64} {t0 : Int32} {t1 : Nat} {r : Int32 × qH} (hF : j_X12_ownLine_124 h a0 a1 t0 t1 = some r) : Go l b D z yX12_ownLine cX12_ownLine 3 (some .boolean) rm_X12_ownLine (qE (some (.int r.1)) r.2 nx) 124 [(0, .ref a0), (1, .long a1)] [.int t0, .ref t1] h nx 0 0 := by
  unfold j_X12_ownLine_124 at hF
  refine g_aload_n 0 dX12_ownLine_124 rfl ?_
  obtain ⟨x1, e2, hF⟩ := q_bind hF
  refine g_getfR fl_X12_41 e2 dX12_ownLine_125 ?_
  refine g_iconst dX12_ownLine_128 lt_iconst_0 ?_
  obtain ⟨x3, e4, hF⟩ := q_bind hF
  refine g_iald e4 dX12_ownLine_129 ?_
  refine g_iadd dX12_ownLine_130 ?_
  refine g_lload_n 1 dX12_ownLine_131 rfl ?_
  refine g_ldc2 dX12_ownLine_132 wd_1663 ?_
  refine g_lcmp dX12_ownLine_135 ?_
  refine g_if_ne 148 dX12_ownLine_136 (by decide) (fun c5 => ?_) (fun c5 => ?_)
  · replace hF := q_f c5 hF
    refine g_iconst dX12_ownLine_148 lt_iconst_1 ?_
    obtain ⟨h6, e7, hF⟩ := q_bind hF
    refine g_iast e7 dX12_ownLine_149 ?_
    refine g_iconst dX12_ownLine_150 lt_iconst_1 ?_
    cases hF
    exact g_zret dX12_ownLine_151 rfl zn_1 ⟨rfl, rfl, rfl⟩ (Nat.le_of_ble_eq_true rfl) (Nat.le_of_ble_eq_true rfl)
  · replace hF := q_t c5 hF
    refine g_aload_n 0 dX12_ownLine_139 rfl ?_
    obtain ⟨x8, e9, hF⟩ := q_bind hF
    refine g_getfR fl_X12_41 e9 dX12_ownLine_140 ?_
    refine g_iconst dX12_ownLine_143 lt_iconst_1 ?_
    obtain ⟨x10, e11, hF⟩ := q_bind hF
    refine g_iald e11 dX12_ownLine_144 ?_
    refine g_goto 149 dX12_ownLine_145 (by decide) ?_
    obtain ⟨h12, e13, hF⟩ := q_bind hF
    refine g_iast e13 dX12_ownLine_149 ?_
    refine g_iconst dX12_ownLine_150 lt_iconst_1 ?_
    cases hF
    exact g_zret dX12_ownLine_151 rfl zn_1 ⟨rfl, rfl, rfl⟩ (Nat.le_of_ble_eq_true rfl) (Nat.le_of_ble_eq_true rfl)
set_option maxRecDepth 100000 in
set_option maxHeartbeats 4000000 in
theorem J_X12_ownLine_98 (l : Launch) (b : Nat) (D : va_G) (z : Nat → Nat) {nx : Nat} {h : qH} {a0 : Nat} {a1 : Int64} {r : Int32 × qH} (hF : j_X12_ownLine_98 h a0 a1  = some r) : Go l b D z yX12_ownLine cX12_ownLine 3 (some .boolean) rm_X12_ownLine (qE (some (.int r.1)) r.2 nx) 98 [(0, .ref a0), (1, .long a1)] [] h nx 0 0 := by
  unfold j_X12_ownLine_98 at hF
  refine g_aload_n 0 dX12_ownLine_98 rfl ?_
  obtain ⟨x1, e2, hF⟩ := q_bind hF
  refine g_getfI fl_X12_155 e2 dX12_ownLine_99 ?_
  refine g_if_eq 150 dX12_ownLine_102 (by decide) (fun c3 => ?_) (fun c3 => ?_)
  · replace hF := q_t c3 hF
    refine g_iconst dX12_ownLine_150 lt_iconst_1 ?_
    cases hF
    exact g_zret dX12_ownLine_151 rfl zn_1 ⟨rfl, rfl, rfl⟩ (Nat.le_of_ble_eq_true rfl) (Nat.le_of_ble_eq_true rfl)
  · replace hF := q_f c3 hF
    refine g_aload_n 0 dX12_ownLine_105 rfl ?_
    obtain ⟨x4, e5, hF⟩ := q_bind hF
    refine g_getfR fl_X12_38 e5 dX12_ownLine_106 ?_
    refine g_lload_n 1 dX12_ownLine_109 rfl ?_
    refine g_ldc2 dX12_ownLine_110 wd_1663 ?_
    refine g_lcmp dX12_ownLine_113 ?_
    refine g_if_ne 122 dX12_ownLine_114 (by decide) (fun c6 => ?_) (fun c6 => ?_)
    · replace hF := q_f c6 hF
      refine g_bipush dX12_ownLine_122 lt_bipush_106 ?_
      exact J_X12_ownLine_124 l b D z hF
    · replace hF := q_t c6 hF
      refine g_bipush dX12_ownLine_117 lt_bipush_100 ?_
      refine g_goto 124 dX12_ownLine_119 (by decide) ?_
      exact J_X12_ownLine_124 l b D z hF
set_option maxRecDepth 100000 in
set_option maxHeartbeats 4000000 in
theorem M_X12_ownLine (l : Launch) (b : Nat) (D : va_G) (z : Nat → Nat) (nx : Nat) {h : qH} {a0 : Nat} {a1 : Int64} {r : Int32 × qH} (hF : F_X12_ownLine h a0 a1 = some r) : Me l b D z yX12_ownLine cX12_ownLine 3 (some .boolean) rm_X12_ownLine [.ref a0, .long a1] h nx (qE (some (.int r.1)) r.2 nx) := by
  refine Me.of (by decide +kernel) (Nat.le_of_ble_eq_true rfl) ?_
  show Go l b D z yX12_ownLine cX12_ownLine 3 (some .boolean) rm_X12_ownLine (qE (some (.int r.1)) r.2 nx) 0 [(0, .ref a0), (1, .long a1)] [] h nx 0 0
  unfold F_X12_ownLine at hF
  refine g_lload_n 1 dX12_ownLine_0 rfl ?_
  refine g_ldc2 dX12_ownLine_1 wd_1666 ?_
  refine g_lcmp dX12_ownLine_4 ?_
  refine g_if_eq 16 dX12_ownLine_5 (by decide) (fun c1 => ?_) (fun c1 => ?_)
  · replace hF := q_t c1 hF
    exact J_X12_ownLine_16 l b D z hF
  · replace hF := q_f c1 hF
    refine g_lload_n 1 dX12_ownLine_8 rfl ?_
    refine g_ldc2 dX12_ownLine_9 wd_1667 ?_
    refine g_lcmp dX12_ownLine_12 ?_
    refine g_if_ne 67 dX12_ownLine_13 (by decide) (fun c2 => ?_) (fun c2 => ?_)
    · replace hF := q_f c2 hF
      refine g_aload_n 0 dX12_ownLine_67 rfl ?_
      refine g_iconst dX12_ownLine_68 lt_iconst_0 ?_
      refine g_iconst dX12_ownLine_69 lt_iconst_0 ?_
      refine g_iconst dX12_ownLine_70 lt_iconst_5 ?_
      obtain ⟨u3, e4, hF⟩ := q_bind hF
      obtain ⟨x5, e6, hF⟩ := q_bind hF
      refine g_callVr0 (ci := 12) (q := (RX12, TX12, 49)) qm_X12_take wd_1688 wd_1690 wd_90 rfl e4 (M_X12_take l b D z nx e6) (As := [.int (0 : Int32), .int (0 : Int32), .int (5 : Int32)]) rfl rfl (Nat.le_of_ble_eq_true rfl) ⟨(Nat.le_of_ble_eq_true rfl), (Nat.le_of_ble_eq_true rfl)⟩ ⟨rfl, rfl⟩ ⟨(Nat.le_of_ble_eq_true rfl), (Nat.le_of_ble_eq_true rfl)⟩ dX12_ownLine_71 ?_
      refine g_if_eq 96 dX12_ownLine_74 (by decide) (fun c7 => ?_) (fun c7 => ?_)
      · replace hF := q_t c7 hF
        refine g_iconst dX12_ownLine_96 lt_iconst_0 ?_
        cases hF
        exact g_zret dX12_ownLine_97 rfl zn_0 ⟨rfl, rfl, rfl⟩ (Nat.le_of_ble_eq_true rfl) (Nat.le_of_ble_eq_true rfl)
      · replace hF := q_f c7 hF
        refine g_lload_n 1 dX12_ownLine_77 rfl ?_
        refine g_ldc2 dX12_ownLine_78 wd_1663 ?_
        refine g_lcmp dX12_ownLine_81 ?_
        refine g_if_ne 98 dX12_ownLine_82 (by decide) (fun c8 => ?_) (fun c8 => ?_)
        · replace hF := q_f c8 hF
          exact J_X12_ownLine_98 l b D z hF
        · replace hF := q_t c8 hF
          refine g_aload_n 0 dX12_ownLine_85 rfl ?_
          refine g_iconst dX12_ownLine_86 lt_iconst_1 ?_
          refine g_iconst dX12_ownLine_87 lt_iconst_0 ?_
          refine g_bipush dX12_ownLine_88 lt_bipush_10 ?_
          obtain ⟨u9, e10, hF⟩ := q_bind hF
          obtain ⟨x11, e12, hF⟩ := q_bind hF
          refine g_callVr0 (ci := 12) (q := (RX12, TX12, 49)) qm_X12_take wd_1688 wd_1690 wd_90 rfl e10 (M_X12_take l b D z nx e12) (As := [.int (1 : Int32), .int (0 : Int32), .int (10 : Int32)]) rfl rfl (Nat.le_of_ble_eq_true rfl) ⟨(Nat.le_of_ble_eq_true rfl), (Nat.le_of_ble_eq_true rfl)⟩ ⟨rfl, rfl⟩ ⟨(Nat.le_of_ble_eq_true rfl), (Nat.le_of_ble_eq_true rfl)⟩ dX12_ownLine_90 ?_
          refine g_if_ne 98 dX12_ownLine_93 (by decide) (fun c13 => ?_) (fun c13 => ?_)
          · replace hF := q_f c13 hF
            exact J_X12_ownLine_98 l b D z hF
          · replace hF := q_t c13 hF
            refine g_iconst dX12_ownLine_96 lt_iconst_0 ?_
            cases hF
            exact g_zret dX12_ownLine_97 rfl zn_0 ⟨rfl, rfl, rfl⟩ (Nat.le_of_ble_eq_true rfl) (Nat.le_of_ble_eq_true rfl)
    · replace hF := q_t c2 hF
      exact J_X12_ownLine_16 l b D z hF
def rm_X12_bookLine : Room := { frames := 5, cells := 0, slots := 0, locals := 112 }
set_option maxRecDepth 100000 in
set_option maxHeartbeats 4000000 in
theorem J_X12_bookLine_102 (l : Launch) (b : Nat) (D : va_G) (z : Nat → Nat) {nx : Nat} {h : qH} {a0 : Nat} {a1 : Int64} {r : Int32 × qH} (hF : j_X12_bookLine_102 h a0 a1  = some r) : Go l b D z yX12_bookLine cX12_bookLine 4 (some .boolean) rm_X12_bookLine (qE (some (.int r.1)) r.2 nx) 102 [(0, .ref a0), (1, .long a1)] [] h nx 0 0 := by
  unfold j_X12_bookLine_102 at hF
  refine g_aload_n 0 dX12_bookLine_102 rfl ?_
  obtain ⟨u1, e2, hF⟩ := q_bind hF
  obtain ⟨x3, e4, hF⟩ := q_bind hF
  refine g_callVv0 (ci := 12) (q := (RX12, TX12, 49)) qm_X12_token wd_1642 wd_1644 wd_80 rfl e2 (M_X12_token l b D z nx e4) (As := []) rfl rfl (Nat.le_of_ble_eq_true rfl) ⟨(Nat.le_of_ble_eq_true rfl), (Nat.le_of_ble_eq_true rfl)⟩ ⟨rfl, rfl⟩ ⟨(Nat.le_of_ble_eq_true rfl), (Nat.le_of_ble_eq_true rfl)⟩ dX12_bookLine_103 ?_
  refine g_lload_n 1 dX12_bookLine_106 rfl ?_
  refine g_ldc2 dX12_bookLine_107 wd_1662 ?_
  refine g_lcmp dX12_bookLine_110 ?_
  refine g_if_ne 121 dX12_bookLine_111 (by decide) (fun c5 => ?_) (fun c5 => ?_)
  · replace hF := q_f c5 hF
    refine g_lload_n 1 dX12_bookLine_121 rfl ?_
    refine g_ldc2 dX12_bookLine_122 wd_1664 ?_
    refine g_lcmp dX12_bookLine_125 ?_
    refine g_if_ne 136 dX12_bookLine_126 (by decide) (fun c6 => ?_) (fun c6 => ?_)
    · replace hF := q_f c6 hF
      refine g_aload_n 0 dX12_bookLine_136 rfl ?_
      refine g_lload_n 1 dX12_bookLine_137 rfl ?_
      obtain ⟨u7, e8, hF⟩ := q_bind hF
      obtain ⟨x9, e10, hF⟩ := q_bind hF
      refine g_callVr0 (ci := 12) (q := (RX12, TX12, 49)) qm_X12_ownLine wd_1699 wd_1701 wd_92 rfl e8 (M_X12_ownLine l b D z nx e10) (As := [.long a1]) rfl rfl (Nat.le_of_ble_eq_true rfl) ⟨(Nat.le_of_ble_eq_true rfl), (Nat.le_of_ble_eq_true rfl)⟩ ⟨rfl, rfl⟩ ⟨(Nat.le_of_ble_eq_true rfl), (Nat.le_of_ble_eq_true rfl)⟩ dX12_bookLine_138 ?_
      obtain ⟨u11, e12, hF⟩ := q_bind hF
      cases hF
      exact g_zret dX12_bookLine_141 rfl (q_z_spec e12).2.1 ⟨rfl, rfl, rfl⟩ (Nat.le_of_ble_eq_true rfl) (Nat.le_of_ble_eq_true rfl)
    · replace hF := q_t c6 hF
      refine g_aload_n 0 dX12_bookLine_129 rfl ?_
      obtain ⟨u13, e14, hF⟩ := q_bind hF
      obtain ⟨x15, e16, hF⟩ := q_bind hF
      refine g_callVr0 (ci := 12) (q := (RX12, TX12, 49)) qm_X12_backLine wd_1695 wd_1697 wd_91 rfl e14 (M_X12_backLine l b D z nx e16) (As := []) rfl rfl (Nat.le_of_ble_eq_true rfl) ⟨(Nat.le_of_ble_eq_true rfl), (Nat.le_of_ble_eq_true rfl)⟩ ⟨rfl, rfl⟩ ⟨(Nat.le_of_ble_eq_true rfl), (Nat.le_of_ble_eq_true rfl)⟩ dX12_bookLine_130 ?_
      refine g_goto 141 dX12_bookLine_133 (by decide) ?_
      obtain ⟨u17, e18, hF⟩ := q_bind hF
      cases hF
      exact g_zret dX12_bookLine_141 rfl (q_z_spec e18).2.1 ⟨rfl, rfl, rfl⟩ (Nat.le_of_ble_eq_true rfl) (Nat.le_of_ble_eq_true rfl)
  · replace hF := q_t c5 hF
    refine g_aload_n 0 dX12_bookLine_114 rfl ?_
    obtain ⟨u19, e20, hF⟩ := q_bind hF
    obtain ⟨x21, e22, hF⟩ := q_bind hF
    refine g_callVr0 (ci := 12) (q := (RX12, TX12, 49)) qm_X12_lineLine wd_1680 wd_1682 wd_88 rfl e20 (M_X12_lineLine l b D z nx e22) (As := []) rfl rfl (Nat.le_of_ble_eq_true rfl) ⟨(Nat.le_of_ble_eq_true rfl), (Nat.le_of_ble_eq_true rfl)⟩ ⟨rfl, rfl⟩ ⟨(Nat.le_of_ble_eq_true rfl), (Nat.le_of_ble_eq_true rfl)⟩ dX12_bookLine_115 ?_
    refine g_goto 141 dX12_bookLine_118 (by decide) ?_
    obtain ⟨u23, e24, hF⟩ := q_bind hF
    cases hF
    exact g_zret dX12_bookLine_141 rfl (q_z_spec e24).2.1 ⟨rfl, rfl, rfl⟩ (Nat.le_of_ble_eq_true rfl) (Nat.le_of_ble_eq_true rfl)
set_option maxRecDepth 100000 in
set_option maxHeartbeats 4000000 in
theorem J_X12_bookLine_98 (l : Launch) (b : Nat) (D : va_G) (z : Nat → Nat) {nx : Nat} {h : qH} {a0 : Nat} {a1 : Int64} {a3 : Int32} {t0 : Int32} {t1 : Int32} {t2 : Nat} {r : Int32 × qH} (hF : j_X12_bookLine_98 h a0 a1 a3 t0 t1 t2 = some r) : Go l b D z yX12_bookLine cX12_bookLine 4 (some .boolean) rm_X12_bookLine (qE (some (.int r.1)) r.2 nx) 98 [(0, .ref a0), (1, .long a1), (3, .int a3)] [.int t0, .int t1, .ref t2] h nx 0 0 := by
  unfold j_X12_bookLine_98 at hF
  refine g_iload_n 2 dX12_bookLine_98 rfl ?_
  obtain ⟨u1, e2, hF⟩ := q_bind hF
  obtain ⟨x3, e4, hF⟩ := q_bind hF
  refine g_callVv0 (ci := 12) (q := (RX12, TX12, 49)) qm_X12_full wd_1672 wd_1674 wd_86 rfl e2 (M_X12_full l b D z nx e4) (As := [.int t1, .int t0, .int a3]) rfl rfl (Nat.le_of_ble_eq_true rfl) ⟨(Nat.le_of_ble_eq_true rfl), (Nat.le_of_ble_eq_true rfl)⟩ ⟨rfl, rfl⟩ ⟨(Nat.le_of_ble_eq_true rfl), (Nat.le_of_ble_eq_true rfl)⟩ dX12_bookLine_99 ?_
  refine g_sub [0, 1] rfl ?_
  exact J_X12_bookLine_102 l b D z hF
set_option maxRecDepth 100000 in
set_option maxHeartbeats 4000000 in
theorem J_X12_bookLine_83 (l : Launch) (b : Nat) (D : va_G) (z : Nat → Nat) {nx : Nat} {h : qH} {a0 : Nat} {a1 : Int64} {a3 : Int32} {t0 : Int32} {t1 : Nat} {r : Int32 × qH} (hF : j_X12_bookLine_83 h a0 a1 a3 t0 t1 = some r) : Go l b D z yX12_bookLine cX12_bookLine 4 (some .boolean) rm_X12_bookLine (qE (some (.int r.1)) r.2 nx) 83 [(0, .ref a0), (1, .long a1), (3, .int a3)] [.int t0, .ref t1] h nx 0 0 := by
  unfold j_X12_bookLine_83 at hF
  refine g_lload_n 1 dX12_bookLine_83 rfl ?_
  refine g_ldc2 dX12_bookLine_84 wd_1662 ?_
  refine g_lcmp dX12_bookLine_87 ?_
  refine g_if_ne 96 dX12_bookLine_88 (by decide) (fun c1 => ?_) (fun c1 => ?_)
  · replace hF := q_f c1 hF
    refine g_bipush dX12_bookLine_96 lt_bipush_8 ?_
    exact J_X12_bookLine_98 l b D z hF
  · replace hF := q_t c1 hF
    refine g_bipush dX12_bookLine_91 lt_bipush_20 ?_
    refine g_goto 98 dX12_bookLine_93 (by decide) ?_
    exact J_X12_bookLine_98 l b D z hF
set_option maxRecDepth 100000 in
set_option maxHeartbeats 4000000 in
theorem J_X12_bookLine_69 (l : Launch) (b : Nat) (D : va_G) (z : Nat → Nat) {nx : Nat} {h : qH} {a0 : Nat} {a1 : Int64} {a3 : Int32} {r : Int32 × qH} (hF : j_X12_bookLine_69 h a0 a1 a3  = some r) : Go l b D z yX12_bookLine cX12_bookLine 4 (some .boolean) rm_X12_bookLine (qE (some (.int r.1)) r.2 nx) 69 [(0, .ref a0), (1, .long a1), (3, .int a3)] [] h nx 0 0 := by
  unfold j_X12_bookLine_69 at hF
  refine g_aload_n 0 dX12_bookLine_69 rfl ?_
  refine g_lload_n 1 dX12_bookLine_70 rfl ?_
  refine g_ldc2 dX12_bookLine_71 wd_1662 ?_
  refine g_lcmp dX12_bookLine_74 ?_
  refine g_if_ne 82 dX12_bookLine_75 (by decide) (fun c1 => ?_) (fun c1 => ?_)
  · replace hF := q_f c1 hF
    refine g_iconst dX12_bookLine_82 lt_iconst_1 ?_
    exact J_X12_bookLine_83 l b D z hF
  · replace hF := q_t c1 hF
    refine g_iconst dX12_bookLine_78 lt_iconst_0 ?_
    refine g_goto 83 dX12_bookLine_79 (by decide) ?_
    exact J_X12_bookLine_83 l b D z hF
set_option maxRecDepth 100000 in
set_option maxHeartbeats 4000000 in
theorem J_X12_bookLine_53 (l : Launch) (b : Nat) (D : va_G) (z : Nat → Nat) {nx : Nat} {h : qH} {a0 : Nat} {a1 : Int64} {a3 : Int32} {r : Int32 × qH} (hF : j_X12_bookLine_53 h a0 a1 a3  = some r) : Go l b D z yX12_bookLine cX12_bookLine 4 (some .boolean) rm_X12_bookLine (qE (some (.int r.1)) r.2 nx) 53 [(0, .ref a0), (1, .long a1), (3, .int a3)] [] h nx 0 0 := by
  unfold j_X12_bookLine_53 at hF
  refine g_lload_n 1 dX12_bookLine_53 rfl ?_
  refine g_ldc2 dX12_bookLine_54 wd_1662 ?_
  refine g_lcmp dX12_bookLine_57 ?_
  refine g_if_eq 69 dX12_bookLine_58 (by decide) (fun c1 => ?_) (fun c1 => ?_)
  · replace hF := q_t c1 hF
    exact J_X12_bookLine_69 l b D z hF
  · replace hF := q_f c1 hF
    refine g_lload_n 1 dX12_bookLine_61 rfl ?_
    refine g_ldc2 dX12_bookLine_62 wd_1664 ?_
    refine g_lcmp dX12_bookLine_65 ?_
    refine g_if_ne 102 dX12_bookLine_66 (by decide) (fun c2 => ?_) (fun c2 => ?_)
    · replace hF := q_f c2 hF
      refine g_sub [0, 1] rfl ?_
      exact J_X12_bookLine_102 l b D z hF
    · replace hF := q_t c2 hF
      exact J_X12_bookLine_69 l b D z hF
set_option maxRecDepth 100000 in
set_option maxHeartbeats 4000000 in
theorem M_X12_bookLine (l : Launch) (b : Nat) (D : va_G) (z : Nat → Nat) (nx : Nat) {h : qH} {a0 : Nat} {a1 : Int64} {a3 : Int32} {r : Int32 × qH} (hF : F_X12_bookLine h a0 a1 a3 = some r) : Me l b D z yX12_bookLine cX12_bookLine 4 (some .boolean) rm_X12_bookLine [.ref a0, .long a1, .int a3] h nx (qE (some (.int r.1)) r.2 nx) := by
  refine Me.of (by decide +kernel) (Nat.le_of_ble_eq_true rfl) ?_
  show Go l b D z yX12_bookLine cX12_bookLine 4 (some .boolean) rm_X12_bookLine (qE (some (.int r.1)) r.2 nx) 0 [(0, .ref a0), (1, .long a1), (3, .int a3)] [] h nx 0 0
  unfold F_X12_bookLine at hF
  refine g_lload_n 1 dX12_bookLine_0 rfl ?_
  refine g_ldc2 dX12_bookLine_1 wd_1662 ?_
  refine g_lcmp dX12_bookLine_4 ?_
  refine g_if_eq 53 dX12_bookLine_5 (by decide) (fun c1 => ?_) (fun c1 => ?_)
  · replace hF := q_t c1 hF
    exact J_X12_bookLine_53 l b D z hF
  · replace hF := q_f c1 hF
    refine g_lload_n 1 dX12_bookLine_8 rfl ?_
    refine g_ldc2 dX12_bookLine_9 wd_1663 ?_
    refine g_lcmp dX12_bookLine_12 ?_
    refine g_if_eq 53 dX12_bookLine_13 (by decide) (fun c2 => ?_) (fun c2 => ?_)
    · replace hF := q_t c2 hF
      exact J_X12_bookLine_53 l b D z hF
    · replace hF := q_f c2 hF
      refine g_lload_n 1 dX12_bookLine_16 rfl ?_
      refine g_ldc2 dX12_bookLine_17 wd_1664 ?_
      refine g_lcmp dX12_bookLine_20 ?_
      refine g_if_eq 53 dX12_bookLine_21 (by decide) (fun c3 => ?_) (fun c3 => ?_)
      · replace hF := q_t c3 hF
        exact J_X12_bookLine_53 l b D z hF
      · replace hF := q_f c3 hF
        refine g_lload_n 1 dX12_bookLine_24 rfl ?_
        refine g_ldc2 dX12_bookLine_25 wd_1665 ?_
        refine g_lcmp dX12_bookLine_28 ?_
        refine g_if_eq 53 dX12_bookLine_29 (by decide) (fun c4 => ?_) (fun c4 => ?_)
        · replace hF := q_t c4 hF
          exact J_X12_bookLine_53 l b D z hF
        · replace hF := q_f c4 hF
          refine g_lload_n 1 dX12_bookLine_32 rfl ?_
          refine g_ldc2 dX12_bookLine_33 wd_1666 ?_
          refine g_lcmp dX12_bookLine_36 ?_
          refine g_if_eq 53 dX12_bookLine_37 (by decide) (fun c5 => ?_) (fun c5 => ?_)
          · replace hF := q_t c5 hF
            exact J_X12_bookLine_53 l b D z hF
          · replace hF := q_f c5 hF
            refine g_lload_n 1 dX12_bookLine_40 rfl ?_
            refine g_ldc2 dX12_bookLine_41 wd_1667 ?_
            refine g_lcmp dX12_bookLine_44 ?_
            refine g_if_eq 53 dX12_bookLine_45 (by decide) (fun c6 => ?_) (fun c6 => ?_)
            · replace hF := q_t c6 hF
              exact J_X12_bookLine_53 l b D z hF
            · replace hF := q_f c6 hF
              refine g_aload_n 0 dX12_bookLine_48 rfl ?_
              obtain ⟨u7, e8, hF⟩ := q_bind hF
              obtain ⟨x9, e10, hF⟩ := q_bind hF
              refine g_callVr0 (ci := 12) (q := (RX12, TX12, 49)) qm_X12_fails wd_1668 wd_1670 wd_85 rfl e8 (M_X12_fails l b D z nx e10) (As := []) rfl rfl (Nat.le_of_ble_eq_true rfl) ⟨(Nat.le_of_ble_eq_true rfl), (Nat.le_of_ble_eq_true rfl)⟩ ⟨rfl, rfl⟩ ⟨(Nat.le_of_ble_eq_true rfl), (Nat.le_of_ble_eq_true rfl)⟩ dX12_bookLine_49 ?_
              obtain ⟨u11, e12, hF⟩ := q_bind hF
              cases hF
              exact g_zret dX12_bookLine_52 rfl (q_z_spec e12).2.1 ⟨rfl, rfl, rfl⟩ (Nat.le_of_ble_eq_true rfl) (Nat.le_of_ble_eq_true rfl)
