def rm_X8_show : Room := { frames := 2, cells := 0, slots := 0, locals := 43 }
set_option maxRecDepth 100000 in
set_option maxHeartbeats 4000000 in
theorem J_X8_show_44 (l : Launch) (b : Nat) (D : va_G) (z : Nat → Nat) {nx : Nat} {h : qH} {a0 : Nat} {a1 : Nat} {a2 : Int32} {r : Int32} (hF : j_X8_show_44 h a0 a1 a2  = some r) : Go l b D z yX8_show cX8_show 3 (some .int) rm_X8_show (qE (some (.int r)) h nx) 44 [(0, .ref a0), (1, .ref a1), (2, .int a2)] [] h nx 0 0 := by
  unfold j_X8_show_44 at hF
  refine g_iload_n 2 dX8_show_44 rfl ?_
  by_cases c1 : a2 = 0
  · replace hF := q_t c1 hF
    refine g_tabIn (off := 55) 100 dX8_show_45 (by rw [c1]; decide) (by rw [c1]; decide) (by rw [c1]; decide) (by decide) ?_
    refine g_aload_n 0 dX8_show_100 rfl ?_
    obtain ⟨x2, e3, hF⟩ := q_bind hF
    refine g_getfI fl_X8_18 e3 dX8_show_101 ?_
    cases hF
    exact g_iret dX8_show_104 rfl ⟨rfl, rfl, rfl⟩ (Nat.le_of_ble_eq_true rfl) (Nat.le_of_ble_eq_true rfl)
  replace hF := q_f c1 hF
  by_cases c4 : a2 = 1
  · replace hF := q_t c4 hF
    refine g_tabIn (off := 60) 105 dX8_show_45 (by rw [c4]; decide) (by rw [c4]; decide) (by rw [c4]; decide) (by decide) ?_
    refine g_aload_n 0 dX8_show_105 rfl ?_
    obtain ⟨x5, e6, hF⟩ := q_bind hF
    refine g_getfI fl_X8_22 e6 dX8_show_106 ?_
    cases hF
    exact g_iret dX8_show_109 rfl ⟨rfl, rfl, rfl⟩ (Nat.le_of_ble_eq_true rfl) (Nat.le_of_ble_eq_true rfl)
  replace hF := q_f c4 hF
  by_cases c7 : a2 = 2
  · replace hF := q_t c7 hF
    refine g_tabIn (off := 65) 110 dX8_show_45 (by rw [c7]; decide) (by rw [c7]; decide) (by rw [c7]; decide) (by decide) ?_
    refine g_aload_n 0 dX8_show_110 rfl ?_
    refine g_aload_n 1 dX8_show_111 rfl ?_
    obtain ⟨u8, e9, hF⟩ := q_bind hF
    obtain ⟨x10, e11, hF⟩ := q_bind hF
    refine g_callVr0 (ci := 8) (q := (RX8, TX8, 11)) qm_X8_due wd_923 wd_925 wd_27 rfl e9 (M_X8_due l b D z nx e11) (As := [.ref a1]) rfl rfl (Nat.le_of_ble_eq_true rfl) ⟨(Nat.le_of_ble_eq_true rfl), (Nat.le_of_ble_eq_true rfl)⟩ ⟨rfl, rfl⟩ ⟨(Nat.le_of_ble_eq_true rfl), (Nat.le_of_ble_eq_true rfl)⟩ dX8_show_112 ?_
    cases hF
    exact g_iret dX8_show_115 rfl ⟨rfl, rfl, rfl⟩ (Nat.le_of_ble_eq_true rfl) (Nat.le_of_ble_eq_true rfl)
  replace hF := q_f c7 hF
  by_cases c12 : a2 = 3
  · replace hF := q_t c12 hF
    refine g_tabIn (off := 71) 116 dX8_show_45 (by rw [c12]; decide) (by rw [c12]; decide) (by rw [c12]; decide) (by decide) ?_
    refine g_aload_n 0 dX8_show_116 rfl ?_
    obtain ⟨x13, e14, hF⟩ := q_bind hF
    refine g_getfI fl_X8_25 e14 dX8_show_117 ?_
    cases hF
    exact g_iret dX8_show_120 rfl ⟨rfl, rfl, rfl⟩ (Nat.le_of_ble_eq_true rfl) (Nat.le_of_ble_eq_true rfl)
  replace hF := q_f c12 hF
  by_cases c15 : a2 = 4
  · replace hF := q_t c15 hF
    refine g_tabIn (off := 76) 121 dX8_show_45 (by rw [c15]; decide) (by rw [c15]; decide) (by rw [c15]; decide) (by decide) ?_
    refine g_aload_n 0 dX8_show_121 rfl ?_
    obtain ⟨x16, e17, hF⟩ := q_bind hF
    refine g_getfI fl_X8_28 e17 dX8_show_122 ?_
    cases hF
    exact g_iret dX8_show_125 rfl ⟨rfl, rfl, rfl⟩ (Nat.le_of_ble_eq_true rfl) (Nat.le_of_ble_eq_true rfl)
  replace hF := q_f c15 hF
  by_cases c18 : a2 = 5
  · replace hF := q_t c18 hF
    refine g_tabIn (off := 81) 126 dX8_show_45 (by rw [c18]; decide) (by rw [c18]; decide) (by rw [c18]; decide) (by decide) ?_
    refine g_aload_n 0 dX8_show_126 rfl ?_
    obtain ⟨x19, e20, hF⟩ := q_bind hF
    refine g_getfI fl_X8_31 e20 dX8_show_127 ?_
    cases hF
    exact g_iret dX8_show_130 rfl ⟨rfl, rfl, rfl⟩ (Nat.le_of_ble_eq_true rfl) (Nat.le_of_ble_eq_true rfl)
  replace hF := q_f c18 hF
  by_cases c21 : a2 = 6
  · replace hF := q_t c21 hF
    refine g_tabIn (off := 86) 131 dX8_show_45 (by rw [c21]; decide) (by rw [c21]; decide) (by rw [c21]; decide) (by decide) ?_
    refine g_aload_n 0 dX8_show_131 rfl ?_
    refine g_aload_n 1 dX8_show_132 rfl ?_
    obtain ⟨u22, e23, hF⟩ := q_bind hF
    obtain ⟨x24, e25, hF⟩ := q_bind hF
    refine g_callVr0 (ci := 8) (q := (RX8, TX8, 11)) qm_X8_fines wd_971 wd_973 wd_34 rfl e23 (M_X8_fines l b D z nx e25) (As := [.ref a1]) rfl rfl (Nat.le_of_ble_eq_true rfl) ⟨(Nat.le_of_ble_eq_true rfl), (Nat.le_of_ble_eq_true rfl)⟩ ⟨rfl, rfl⟩ ⟨(Nat.le_of_ble_eq_true rfl), (Nat.le_of_ble_eq_true rfl)⟩ dX8_show_133 ?_
    cases hF
    exact g_iret dX8_show_136 rfl ⟨rfl, rfl, rfl⟩ (Nat.le_of_ble_eq_true rfl) (Nat.le_of_ble_eq_true rfl)
  replace hF := q_f c21 hF
  by_cases c26 : a2 = 7
  · replace hF := q_t c26 hF
    refine g_tabIn (off := 92) 137 dX8_show_45 (by rw [c26]; decide) (by rw [c26]; decide) (by rw [c26]; decide) (by decide) ?_
    refine g_aload_n 0 dX8_show_137 rfl ?_
    obtain ⟨x27, e28, hF⟩ := q_bind hF
    refine g_getfI fl_X8_34 e28 dX8_show_138 ?_
    cases hF
    exact g_iret dX8_show_141 rfl ⟨rfl, rfl, rfl⟩ (Nat.le_of_ble_eq_true rfl) (Nat.le_of_ble_eq_true rfl)
  replace hF := q_f c26 hF
  by_cases c29 : a2 = 8
  · replace hF := q_t c29 hF
    refine g_tabIn (off := 97) 142 dX8_show_45 (by rw [c29]; decide) (by rw [c29]; decide) (by rw [c29]; decide) (by decide) ?_
    refine g_aload_n 0 dX8_show_142 rfl ?_
    obtain ⟨x30, e31, hF⟩ := q_bind hF
    refine g_getfI fl_X8_37 e31 dX8_show_143 ?_
    cases hF
    exact g_iret dX8_show_146 rfl ⟨rfl, rfl, rfl⟩ (Nat.le_of_ble_eq_true rfl) (Nat.le_of_ble_eq_true rfl)
  replace hF := q_f c29 hF
  by_cases c32 : a2 = 9
  · replace hF := q_t c32 hF
    refine g_tabIn (off := 102) 147 dX8_show_45 (by rw [c32]; decide) (by rw [c32]; decide) (by rw [c32]; decide) (by decide) ?_
    refine g_aload_n 0 dX8_show_147 rfl ?_
    obtain ⟨x33, e34, hF⟩ := q_bind hF
    refine g_getfI fl_X8_40 e34 dX8_show_148 ?_
    cases hF
    exact g_iret dX8_show_151 rfl ⟨rfl, rfl, rfl⟩ (Nat.le_of_ble_eq_true rfl) (Nat.le_of_ble_eq_true rfl)
  replace hF := q_f c32 hF
  refine g_tabOut 152 dX8_show_45 ?_ (by decide) ?_
  · have t0 := lv_neT (a := 0) c1 (by decide); have t1 := lv_neT (a := 1) c4 (by decide); have t2 := lv_neT (a := 2) c7 (by decide); have t3 := lv_neT (a := 3) c12 (by decide); have t4 := lv_neT (a := 4) c15 (by decide); have t5 := lv_neT (a := 5) c18 (by decide); have t6 := lv_neT (a := 6) c21 (by decide); have t7 := lv_neT (a := 7) c26 (by decide); have t8 := lv_neT (a := 8) c29 (by decide); have t9 := lv_neT (a := 9) c32 (by decide); omega
  refine g_bipush dX8_show_152 lt_bipush_m2 ?_
  cases hF
  exact g_iret dX8_show_154 rfl ⟨rfl, rfl, rfl⟩ (Nat.le_of_ble_eq_true rfl) (Nat.le_of_ble_eq_true rfl)
set_option maxRecDepth 100000 in
set_option maxHeartbeats 4000000 in
theorem J_X8_show_22 (l : Launch) (b : Nat) (D : va_G) (z : Nat → Nat) {nx : Nat} {h : qH} {a0 : Nat} {a1 : Nat} {a2 : Int32} {r : Int32} (hF : j_X8_show_22 h a0 a1 a2  = some r) : Go l b D z yX8_show cX8_show 3 (some .int) rm_X8_show (qE (some (.int r)) h nx) 22 [(0, .ref a0), (1, .ref a1), (2, .int a2)] [] h nx 0 0 := by
  unfold j_X8_show_22 at hF
  refine g_iload_n 2 dX8_show_22 rfl ?_
  refine g_bipush dX8_show_23 lt_bipush_20 ?_
  refine g_icmp_lt 44 dX8_show_25 (by decide) (fun c1 => ?_) (fun c1 => ?_)
  · replace hF := q_t c1 hF
    exact J_X8_show_44 l b D z hF
  · replace hF := q_f c1 hF
    refine g_iload_n 2 dX8_show_28 rfl ?_
    refine g_bipush dX8_show_29 lt_bipush_26 ?_
    refine g_icmp_ge 44 dX8_show_31 (by decide) (fun c2 => ?_) (fun c2 => ?_)
    · replace hF := q_t c2 hF
      exact J_X8_show_44 l b D z hF
    · replace hF := q_f c2 hF
      refine g_aload_n 0 dX8_show_34 rfl ?_
      obtain ⟨x3, e4, hF⟩ := q_bind hF
      refine g_getfR fl_X8_15 e4 dX8_show_35 ?_
      refine g_iload_n 2 dX8_show_38 rfl ?_
      refine g_bipush dX8_show_39 lt_bipush_20 ?_
      refine g_isub dX8_show_41 ?_
      obtain ⟨x5, e6, hF⟩ := q_bind hF
      refine g_iald e6 dX8_show_42 ?_
      cases hF
      exact g_iret dX8_show_43 rfl ⟨rfl, rfl, rfl⟩ (Nat.le_of_ble_eq_true rfl) (Nat.le_of_ble_eq_true rfl)
set_option maxRecDepth 100000 in
set_option maxHeartbeats 4000000 in
theorem M_X8_show (l : Launch) (b : Nat) (D : va_G) (z : Nat → Nat) (nx : Nat) {h : qH} {a0 : Nat} {a1 : Nat} {a2 : Int32} {r : Int32} (hF : F_X8_show h a0 a1 a2 = some r) : Me l b D z yX8_show cX8_show 3 (some .int) rm_X8_show [.ref a0, .ref a1, .int a2] h nx (qE (some (.int r)) h nx) := by
  refine Me.of (by decide +kernel) (Nat.le_of_ble_eq_true rfl) ?_
  show Go l b D z yX8_show cX8_show 3 (some .int) rm_X8_show (qE (some (.int r)) h nx) 0 [(0, .ref a0), (1, .ref a1), (2, .int a2)] [] h nx 0 0
  unfold F_X8_show at hF
  refine g_iload_n 2 dX8_show_0 rfl ?_
  refine g_bipush dX8_show_1 lt_bipush_10 ?_
  refine g_icmp_lt 22 dX8_show_3 (by decide) (fun c1 => ?_) (fun c1 => ?_)
  · replace hF := q_t c1 hF
    exact J_X8_show_22 l b D z hF
  · replace hF := q_f c1 hF
    refine g_iload_n 2 dX8_show_6 rfl ?_
    refine g_bipush dX8_show_7 lt_bipush_16 ?_
    refine g_icmp_ge 22 dX8_show_9 (by decide) (fun c2 => ?_) (fun c2 => ?_)
    · replace hF := q_t c2 hF
      exact J_X8_show_22 l b D z hF
    · replace hF := q_f c2 hF
      refine g_aload_n 0 dX8_show_12 rfl ?_
      obtain ⟨x3, e4, hF⟩ := q_bind hF
      refine g_getfR fl_X8_9 e4 dX8_show_13 ?_
      refine g_iload_n 2 dX8_show_16 rfl ?_
      refine g_bipush dX8_show_17 lt_bipush_10 ?_
      refine g_isub dX8_show_19 ?_
      obtain ⟨x5, e6, hF⟩ := q_bind hF
      refine g_iald e6 dX8_show_20 ?_
      cases hF
      exact g_iret dX8_show_21 rfl ⟨rfl, rfl, rfl⟩ (Nat.le_of_ble_eq_true rfl) (Nat.le_of_ble_eq_true rfl)
def rm_X10_init : Room := { frames := 1, cells := 4, slots := 36, locals := 20 }
theorem rmc_X10_init : rm_X10_init.cells = 4 := rfl
theorem rms_X10_init : rm_X10_init.slots = 36 := rfl
set_option maxRecDepth 100000 in
set_option maxHeartbeats 4000000 in
theorem M_X10_init (l : Launch) (b : Nat) (D : va_G) (z : Nat → Nat) (nx : Nat) {h : qH} {a0 : Nat} {r : qH × Nat} (hF : F_X10_init h nx a0 = some r) : Me l b D z yX10_init cX10_init 1 none rm_X10_init [.ref a0] h nx (qE none r.1 r.2) := by
  refine Me.of (by decide +kernel) (Nat.le_of_ble_eq_true rfl) ?_
  show Go l b D z yX10_init cX10_init 1 none rm_X10_init (qE none r.1 r.2) 0 [(0, .ref a0)] [] h nx 0 0
  unfold F_X10_init at hF
  refine g_aload_n 0 dX10_init_0 rfl ?_
  refine g_obj wd_303 wd_190 wd_191 (Nat.le_of_ble_eq_true rfl) (Nat.le_of_ble_eq_true rfl) dX10_init_1 ?_
  refine g_aload_n 0 dX10_init_4 rfl ?_
  refine g_bipush dX10_init_5 lt_bipush_9 ?_
  refine g_newi (N := 9) wd_266 (by decide) (by decide) (Nat.le_of_ble_eq_true rfl) (Nat.le_of_ble_eq_true rfl) (Nat.le_of_ble_eq_true rfl) dX10_init_7 ?_
  obtain ⟨h1, e2, hF⟩ := q_bind hF
  refine g_putF fl_X10_11 e2 rfl rfl rfl (fun q hq => by cases hq; rfl) dX10_init_9 ?_
  refine g_aload_n 0 dX10_init_12 rfl ?_
  refine g_bipush dX10_init_13 lt_bipush_9 ?_
  refine g_newi (N := 9) wd_266 (by decide) (by decide) (Nat.le_of_ble_eq_true rfl) (Nat.le_of_ble_eq_true rfl) (Nat.le_of_ble_eq_true rfl) dX10_init_15 ?_
  obtain ⟨h3, e4, hF⟩ := q_bind hF
  refine g_putF fl_X10_15 e4 rfl rfl rfl (fun q hq => by cases hq; rfl) dX10_init_17 ?_
  refine g_aload_n 0 dX10_init_20 rfl ?_
  refine g_bipush dX10_init_21 lt_bipush_9 ?_
  refine g_newi (N := 9) wd_266 (by decide) (by decide) (Nat.le_of_ble_eq_true rfl) (Nat.le_of_ble_eq_true rfl) (Nat.le_of_ble_eq_true rfl) dX10_init_23 ?_
  obtain ⟨h5, e6, hF⟩ := q_bind hF
  refine g_putF fl_X10_18 e6 rfl rfl rfl (fun q hq => by cases hq; rfl) dX10_init_25 ?_
  refine g_aload_n 0 dX10_init_28 rfl ?_
  refine g_bipush dX10_init_29 lt_bipush_9 ?_
  refine g_newi (N := 9) wd_266 (by decide) (by decide) (Nat.le_of_ble_eq_true rfl) (Nat.le_of_ble_eq_true rfl) (Nat.le_of_ble_eq_true rfl) dX10_init_31 ?_
  obtain ⟨h7, e8, hF⟩ := q_bind hF
  refine g_putF fl_X10_21 e8 rfl rfl rfl (fun q hq => by cases hq; rfl) dX10_init_33 ?_
  cases hF
  exact g_vret dX10_init_36 rfl ⟨rfl, rfl, rfl⟩ (Nat.le_of_ble_eq_true rfl) (Nat.le_of_ble_eq_true rfl)
def rm_X9_init : Room := { frames := 2, cells := 72, slots := 2715, locals := 40 }
theorem rmc_X9_init : rm_X9_init.cells = 72 := rfl
theorem rms_X9_init : rm_X9_init.slots = 2715 := rfl
set_option maxRecDepth 100000 in
set_option maxHeartbeats 4000000 in
theorem B_X9_init_59 (l : Launch) (b : Nat) (D : va_G) (z : Nat → Nat) (k j : Nat) {Φ : Option Value → qH → Nat → Prop} {a0 : Nat} {a1 : Int32} {h : qH} {nx : Nat} {o : (Int32 × qH × Nat) ⊕ ((qH × Nat))} (hF : b_X9_init_59 a0 a1 h nx = some o) (hk0 : k + 22 ≤ 72) (hj0 : j + 701 ≤ 2715) (hback : ∀ (b1 : Int32) (bh : qH) (bn : Nat), o = .inl (b1, bh, bn) → Go l b D z yX9_init cX9_init 2 none rm_X9_init Φ 59 [(0, .ref a0), (1, .int b1)] [] bh bn (k + 22) (j + 701)) (hx0 : ∀  (bh : qH) (bn : Nat), o = .inr (bh, bn) → Go l b D z yX9_init cX9_init 2 none rm_X9_init Φ 122 [] [] bh bn (k + 22) (j + 701)) : Go l b D z yX9_init cX9_init 2 none rm_X9_init Φ 59 [(0, .ref a0), (1, .int a1)] [] h nx k j := by
  unfold b_X9_init_59 at hF
  refine g_iload_n 1 dX9_init_59 rfl ?_
  refine g_iconst dX9_init_60 lt_iconst_2 ?_
  refine g_icmp_ge 122 dX9_init_61 (by decide) (fun c1 => ?_) (fun c1 => ?_)
  · replace hF := q_t c1 hF
    cases hF
    refine g_widen (k1 := k + 22) (j1 := j + 701) (by (try simp only [rmc_X9_init, rms_X9_init, rmc_X0_init, rms_X0_init, rmc_X1_init, rms_X1_init, rmc_X3_init, rms_X3_init, rmc_X10_init, rms_X10_init]); omega) (by (try simp only [rmc_X9_init, rms_X9_init, rmc_X0_init, rms_X0_init, rmc_X1_init, rms_X1_init, rmc_X3_init, rms_X3_init, rmc_X10_init, rms_X10_init]); omega) ?_
    refine g_sub [] rfl ?_
    exact hx0 _ _ rfl
  · replace hF := q_f c1 hF
    refine g_aload_n 0 dX9_init_64 rfl ?_
    obtain ⟨x2, e3, hF⟩ := q_bind hF
    refine g_getfR fl_X9_21 e3 dX9_init_65 ?_
    refine g_iload_n 1 dX9_init_68 rfl ?_
    refine g_new (ci := 0) (q := (RX0, TX0, 15)) rfl tyX0 tyX0_ok (fs := df_X0) df_X0_ok wd_198 wd_206 wd_166 (by (try simp only [rmc_X9_init, rms_X9_init, rmc_X0_init, rms_X0_init, rmc_X1_init, rms_X1_init, rmc_X3_init, rms_X3_init, rmc_X10_init, rms_X10_init]); omega) (by (try simp only [rmc_X9_init, rms_X9_init, rmc_X0_init, rms_X0_init, rmc_X1_init, rms_X1_init, rmc_X3_init, rms_X3_init, rmc_X10_init, rms_X10_init]); omega) dX9_init_69 ?_
    refine g_dup dX9_init_72 rfl ?_
    obtain ⟨x4, e5, hF⟩ := q_bind hF
    refine g_callINvA qm_X0_init (by decide +kernel) wd_208 rfl (M_X0_init l b D z (nx + 1) e5) (As := []) rfl rfl (Nat.le_of_ble_eq_true rfl) ⟨(Nat.le_of_ble_eq_true rfl), (Nat.le_of_ble_eq_true rfl)⟩ ⟨(by (try simp only [rmc_X9_init, rms_X9_init, rmc_X0_init, rms_X0_init, rmc_X1_init, rms_X1_init, rmc_X3_init, rms_X3_init, rmc_X10_init, rms_X10_init]); omega), (by (try simp only [rmc_X9_init, rms_X9_init, rmc_X0_init, rms_X0_init, rmc_X1_init, rms_X1_init, rmc_X3_init, rms_X3_init, rmc_X10_init, rms_X10_init]); omega)⟩ dX9_init_73 ?_
    obtain ⟨h6, e7, hF⟩ := q_bind hF
    refine g_aast (r := (RX0, TX0, 15)) rfl rfl e7 dX9_init_76 ?_
    refine g_aload_n 0 dX9_init_77 rfl ?_
    obtain ⟨x8, e9, hF⟩ := q_bind hF
    refine g_getfR fl_X9_27 e9 dX9_init_78 ?_
    refine g_iload_n 1 dX9_init_81 rfl ?_
    refine g_new (ci := 1) (q := (RX1, TX1, 3)) rfl tyX1 tyX1_ok (fs := df_X1) df_X1_ok wd_200 wd_267 wd_167 (by (try simp only [rmc_X9_init, rms_X9_init, rmc_X0_init, rms_X0_init, rmc_X1_init, rms_X1_init, rmc_X3_init, rms_X3_init, rmc_X10_init, rms_X10_init]); omega) (by (try simp only [rmc_X9_init, rms_X9_init, rmc_X0_init, rms_X0_init, rmc_X1_init, rms_X1_init, rmc_X3_init, rms_X3_init, rmc_X10_init, rms_X10_init]); omega) dX9_init_82 ?_
    refine g_dup dX9_init_85 rfl ?_
    obtain ⟨x10, e11, hF⟩ := q_bind hF
    refine g_callINvA qm_X1_init (by decide +kernel) wd_269 rfl (M_X1_init l b D z (x4.2 + 1) e11) (As := []) rfl rfl (Nat.le_of_ble_eq_true rfl) ⟨(Nat.le_of_ble_eq_true rfl), (Nat.le_of_ble_eq_true rfl)⟩ ⟨(by (try simp only [rmc_X9_init, rms_X9_init, rmc_X0_init, rms_X0_init, rmc_X1_init, rms_X1_init, rmc_X3_init, rms_X3_init, rmc_X10_init, rms_X10_init]); omega), (by (try simp only [rmc_X9_init, rms_X9_init, rmc_X0_init, rms_X0_init, rmc_X1_init, rms_X1_init, rmc_X3_init, rms_X3_init, rmc_X10_init, rms_X10_init]); omega)⟩ dX9_init_86 ?_
    obtain ⟨h12, e13, hF⟩ := q_bind hF
    refine g_aast (r := (RX1, TX1, 3)) rfl rfl e13 dX9_init_89 ?_
    refine g_aload_n 0 dX9_init_90 rfl ?_
    obtain ⟨x14, e15, hF⟩ := q_bind hF
    refine g_getfR fl_X9_33 e15 dX9_init_91 ?_
    refine g_iload_n 1 dX9_init_94 rfl ?_
    refine g_new (ci := 3) (q := (RX3, TX3, 2)) rfl tyX3 tyX3_ok (fs := df_X3) df_X3_ok wd_202 wd_285 wd_168 (by (try simp only [rmc_X9_init, rms_X9_init, rmc_X0_init, rms_X0_init, rmc_X1_init, rms_X1_init, rmc_X3_init, rms_X3_init, rmc_X10_init, rms_X10_init]); omega) (by (try simp only [rmc_X9_init, rms_X9_init, rmc_X0_init, rms_X0_init, rmc_X1_init, rms_X1_init, rmc_X3_init, rms_X3_init, rmc_X10_init, rms_X10_init]); omega) dX9_init_95 ?_
    refine g_dup dX9_init_98 rfl ?_
    obtain ⟨x16, e17, hF⟩ := q_bind hF
    refine g_callINvA qm_X3_init (by decide +kernel) wd_287 rfl (M_X3_init l b D z (x10.2 + 1) e17) (As := []) rfl rfl (Nat.le_of_ble_eq_true rfl) ⟨(Nat.le_of_ble_eq_true rfl), (Nat.le_of_ble_eq_true rfl)⟩ ⟨(by (try simp only [rmc_X9_init, rms_X9_init, rmc_X0_init, rms_X0_init, rmc_X1_init, rms_X1_init, rmc_X3_init, rms_X3_init, rmc_X10_init, rms_X10_init]); omega), (by (try simp only [rmc_X9_init, rms_X9_init, rmc_X0_init, rms_X0_init, rmc_X1_init, rms_X1_init, rmc_X3_init, rms_X3_init, rmc_X10_init, rms_X10_init]); omega)⟩ dX9_init_99 ?_
    obtain ⟨h18, e19, hF⟩ := q_bind hF
    refine g_aast (r := (RX3, TX3, 2)) rfl rfl e19 dX9_init_102 ?_
    refine g_aload_n 0 dX9_init_103 rfl ?_
    obtain ⟨x20, e21, hF⟩ := q_bind hF
    refine g_getfR fl_X9_39 e21 dX9_init_104 ?_
    refine g_iload_n 1 dX9_init_107 rfl ?_
    refine g_new (ci := 10) (q := (RX10, TX10, 5)) rfl tyX10 tyX10_ok (fs := df_X10) df_X10_ok wd_204 wd_299 wd_169 (by (try simp only [rmc_X9_init, rms_X9_init, rmc_X0_init, rms_X0_init, rmc_X1_init, rms_X1_init, rmc_X3_init, rms_X3_init, rmc_X10_init, rms_X10_init]); omega) (by (try simp only [rmc_X9_init, rms_X9_init, rmc_X0_init, rms_X0_init, rmc_X1_init, rms_X1_init, rmc_X3_init, rms_X3_init, rmc_X10_init, rms_X10_init]); omega) dX9_init_108 ?_
    refine g_dup dX9_init_111 rfl ?_
    obtain ⟨x22, e23, hF⟩ := q_bind hF
    refine g_callINvA qm_X10_init (by decide +kernel) wd_301 rfl (M_X10_init l b D z (x16.2 + 1) e23) (As := []) rfl rfl (Nat.le_of_ble_eq_true rfl) ⟨(Nat.le_of_ble_eq_true rfl), (Nat.le_of_ble_eq_true rfl)⟩ ⟨(by (try simp only [rmc_X9_init, rms_X9_init, rmc_X0_init, rms_X0_init, rmc_X1_init, rms_X1_init, rmc_X3_init, rms_X3_init, rmc_X10_init, rms_X10_init]); omega), (by (try simp only [rmc_X9_init, rms_X9_init, rmc_X0_init, rms_X0_init, rmc_X1_init, rms_X1_init, rmc_X3_init, rms_X3_init, rmc_X10_init, rms_X10_init]); omega)⟩ dX9_init_112 ?_
    obtain ⟨h24, e25, hF⟩ := q_bind hF
    refine g_aast (r := (RX10, TX10, 5)) rfl rfl e25 dX9_init_115 ?_
    refine g_iinc [(1, .int (a1 + 1)), (0, .ref a0)] 1 dX9_init_116 rfl (congrArg (a1 + ·) lt_iconst_1) (Nat.le_of_ble_eq_true rfl) rfl ?_
    refine g_goto 59 dX9_init_119 (by decide) ?_
    cases hF
    refine g_widen (k1 := k + 22) (j1 := j + 701) (by (try simp only [rmc_X9_init, rms_X9_init, rmc_X0_init, rms_X0_init, rmc_X1_init, rms_X1_init, rmc_X3_init, rms_X3_init, rmc_X10_init, rms_X10_init]); omega) (by (try simp only [rmc_X9_init, rms_X9_init, rmc_X0_init, rms_X0_init, rmc_X1_init, rms_X1_init, rmc_X3_init, rms_X3_init, rmc_X10_init, rms_X10_init]); omega) ?_
    refine g_sub [1, 0] rfl ?_
    exact hback _ _ _ rfl
set_option maxRecDepth 100000 in
set_option maxHeartbeats 4000000 in
theorem L_X9_init_59 (l : Launch) (b : Nat) (D : va_G) (z : Nat → Nat) {Φ : Option Value → qH → Nat → Prop} {a0 : Nat} : ∀ (n k j KE JE : Nat) (a1 : Int32) (h : qH) (nx : Nat) (e : (qH × Nat)), q_lp (s_X9_init_59 a0) n (a1, h, nx) = some e → k + n * 22 ≤ KE → j + n * 701 ≤ JE → KE ≤ 72 → JE ≤ 2715 → (∀  (bh : qH) (bn : Nat), e = (bh, bn) → Go l b D z yX9_init cX9_init 2 none rm_X9_init Φ 122 [] [] bh bn KE JE) → Go l b D z yX9_init cX9_init 2 none rm_X9_init Φ 59 [(0, .ref a0), (1, .int a1)] [] h nx k j := by
  intro n
  induction n with
  | zero => intro k j KE JE a1 h nx e he; cases (show none = some e from he)
  | succ n ih =>
    intro k j KE JE a1 h nx e he q1 q2 q3 q4 hx0
    obtain ⟨o, ho, h1, h2⟩ := q_lp_succ he
    have hm1 : (n + 1) * 22 = n * 22 + 22 := Nat.succ_mul n 22
    have hm2 : (n + 1) * 701 = n * 701 + 701 := Nat.succ_mul n 701
    exact B_X9_init_59 l b D z k j (show b_X9_init_59 a0 a1 h nx = some o from ho) (by omega) (by omega) (fun b1 bh bn hb => ih _ _ KE JE _ _ _ e (h1 _ hb) (by omega) (by omega) q3 q4 hx0) (fun p0 p1 hr => g_widen (by omega) (by omega) (hx0 p0 p1 (h2 _ hr).symm))
set_option maxRecDepth 100000 in
set_option maxHeartbeats 4000000 in
theorem M_X9_init (l : Launch) (b : Nat) (D : va_G) (z : Nat → Nat) (nx : Nat) {h : qH} {a0 : Nat} {r : qH × Nat} (hF : F_X9_init h nx a0 = some r) : Me l b D z yX9_init cX9_init 2 none rm_X9_init [.ref a0] h nx (qE none r.1 r.2) := by
  refine Me.of (by decide +kernel) (Nat.le_of_ble_eq_true rfl) ?_
  show Go l b D z yX9_init cX9_init 2 none rm_X9_init (qE none r.1 r.2) 0 [(0, .ref a0)] [] h nx 0 0
  unfold F_X9_init at hF
  refine g_aload_n 0 dX9_init_0 rfl ?_
  refine g_obj wd_197 wd_190 wd_191 (Nat.le_of_ble_eq_true rfl) (Nat.le_of_ble_eq_true rfl) dX9_init_1 ?_
  refine g_aload_n 0 dX9_init_4 rfl ?_
  refine g_sipush dX9_init_5 lt_sipush_600 ?_
  refine g_newb (N := 600) wd_265 (by decide) (by decide) (Nat.le_of_ble_eq_true rfl) (Nat.le_of_ble_eq_true rfl) (Nat.le_of_ble_eq_true rfl) dX9_init_8 ?_
  obtain ⟨h1, e2, hF⟩ := q_bind hF
  refine g_putF fl_X9_11 e2 rfl rfl rfl (fun q hq => by cases hq; rfl) dX9_init_10 ?_
  refine g_aload_n 0 dX9_init_13 rfl ?_
  refine g_iconst dX9_init_14 lt_iconst_4 ?_
  refine g_newi (N := 4) wd_266 (by decide) (by decide) (Nat.le_of_ble_eq_true rfl) (Nat.le_of_ble_eq_true rfl) (Nat.le_of_ble_eq_true rfl) dX9_init_15 ?_
  obtain ⟨h3, e4, hF⟩ := q_bind hF
  refine g_putF fl_X9_15 e4 rfl rfl rfl (fun q hq => by cases hq; rfl) dX9_init_17 ?_
  refine g_aload_n 0 dX9_init_20 rfl ?_
  refine g_iconst dX9_init_21 lt_iconst_2 ?_
  refine g_newq (C := RX0) (N := 2) (by decide +kernel) wd_198 (by decide) (by decide) (Nat.le_of_ble_eq_true rfl) (Nat.le_of_ble_eq_true rfl) (Nat.le_of_ble_eq_true rfl) dX9_init_22 ?_
  obtain ⟨h5, e6, hF⟩ := q_bind hF
  refine g_putF fl_X9_21 e6 rfl rfl rfl (fun q hq => by cases hq; rfl) dX9_init_25 ?_
  refine g_aload_n 0 dX9_init_28 rfl ?_
  refine g_iconst dX9_init_29 lt_iconst_2 ?_
  refine g_newq (C := RX1) (N := 2) (by decide +kernel) wd_200 (by decide) (by decide) (Nat.le_of_ble_eq_true rfl) (Nat.le_of_ble_eq_true rfl) (Nat.le_of_ble_eq_true rfl) dX9_init_30 ?_
  obtain ⟨h7, e8, hF⟩ := q_bind hF
  refine g_putF fl_X9_27 e8 rfl rfl rfl (fun q hq => by cases hq; rfl) dX9_init_33 ?_
  refine g_aload_n 0 dX9_init_36 rfl ?_
  refine g_iconst dX9_init_37 lt_iconst_2 ?_
  refine g_newq (C := RX3) (N := 2) (by decide +kernel) wd_202 (by decide) (by decide) (Nat.le_of_ble_eq_true rfl) (Nat.le_of_ble_eq_true rfl) (Nat.le_of_ble_eq_true rfl) dX9_init_38 ?_
  obtain ⟨h9, e10, hF⟩ := q_bind hF
  refine g_putF fl_X9_33 e10 rfl rfl rfl (fun q hq => by cases hq; rfl) dX9_init_41 ?_
  refine g_aload_n 0 dX9_init_44 rfl ?_
  refine g_iconst dX9_init_45 lt_iconst_2 ?_
  refine g_newq (C := RX10) (N := 2) (by decide +kernel) wd_204 (by decide) (by decide) (Nat.le_of_ble_eq_true rfl) (Nat.le_of_ble_eq_true rfl) (Nat.le_of_ble_eq_true rfl) dX9_init_46 ?_
  obtain ⟨h11, e12, hF⟩ := q_bind hF
  refine g_putF fl_X9_39 e12 rfl rfl rfl (fun q hq => by cases hq; rfl) dX9_init_49 ?_
  refine g_aload_n 0 dX9_init_52 rfl ?_
  refine g_iconst dX9_init_53 lt_iconst_m1 ?_
  obtain ⟨h13, e14, hF⟩ := q_bind hF
  refine g_putf fl_X9_43 e14 rfl rfl dX9_init_54 ?_
  refine g_iconst dX9_init_57 lt_iconst_0 ?_
  refine g_istore_n [(1, .int (0 : Int32)), (0, .ref a0)] dX9_init_58 (Nat.le_of_ble_eq_true rfl) rfl ?_
  obtain ⟨e15, w16, hF⟩ := q_bind hF
  refine g_sub [1, 0] rfl ?_
  refine L_X9_init_59 l b D z 3 (6) (612) 72 2715 (0 : Int32) h13 ((((((nx + 1) + 1) + 1) + 1) + 1) + 1) e15 w16 (by decide) (by decide) (by decide) (by decide) ?_
  · intro h17 n18 w19
    replace w19 := w19.symm
    subst w19
    dsimp only at hF
    cases hF
    exact g_vret dX9_init_122 rfl ⟨rfl, rfl, rfl⟩ (Nat.le_of_ble_eq_true rfl) (Nat.le_of_ble_eq_true rfl)
def rm_X9_addNumber : Room := { frames := 0, cells := 0, slots := 0, locals := 0 }
set_option maxRecDepth 100000 in
set_option maxHeartbeats 4000000 in
theorem B_X9_addNumber_3 (l : Launch) (b : Nat) (D : va_G) (z : Nat → Nat) {Φ : Option Value → qH → Nat → Prop} {nx : Nat} {a0 : Nat} {a1 : Int32} {a2 : Int32} {h : qH} {o : (Int32 × qH) ⊕ qH} (hF : b_X9_addNumber_3 a0 a1 a2 h = some o) (hback : ∀ (b2 : Int32) (bh : qH), o = .inl (b2, bh) → Go l b D z yX9_addNumber cX9_addNumber 3 none rm_X9_addNumber Φ 3 [(0, .ref a0), (1, .int a1), (2, .int b2)] [] bh nx 0 0) (hx0 : ∀  (bh : qH), o = .inr bh → Go l b D z yX9_addNumber cX9_addNumber 3 none rm_X9_addNumber Φ 46 [] [] bh nx 0 0) : Go l b D z yX9_addNumber cX9_addNumber 3 none rm_X9_addNumber Φ 3 [(0, .ref a0), (1, .int a1), (2, .int a2)] [] h nx 0 0 := by
  unfold b_X9_addNumber_3 at hF
  refine g_iload_n 2 dX9_addNumber_3 rfl ?_
  refine g_if_lt 46 dX9_addNumber_4 (by decide) (fun c1 => ?_) (fun c1 => ?_)
  · replace hF := q_t c1 hF
    cases hF
    refine g_sub [] rfl ?_
    exact hx0 _ rfl
  · replace hF := q_f c1 hF
    refine g_aload_n 0 dX9_addNumber_7 rfl ?_
    obtain ⟨x2, e3, hF⟩ := q_bind hF
    refine g_getfI fl_X9_51 e3 dX9_addNumber_8 ?_
    refine g_sipush dX9_addNumber_11 lt_sipush_600 ?_
    refine g_icmp_ge 46 dX9_addNumber_14 (by decide) (fun c4 => ?_) (fun c4 => ?_)
    · replace hF := q_t c4 hF
      cases hF
      refine g_sub [] rfl ?_
      exact hx0 _ rfl
    · replace hF := q_f c4 hF
      refine g_aload_n 0 dX9_addNumber_17 rfl ?_
      obtain ⟨x5, e6, hF⟩ := q_bind hF
      refine g_getfR fl_X9_11 e6 dX9_addNumber_18 ?_
      refine g_aload_n 0 dX9_addNumber_21 rfl ?_
      obtain ⟨x7, e8, hF⟩ := q_bind hF
      refine g_getfI fl_X9_51 e8 dX9_addNumber_22 ?_
      refine g_iload_n 1 dX9_addNumber_25 rfl ?_
      refine g_iload_n 2 dX9_addNumber_26 rfl ?_
      refine g_iushr dX9_addNumber_27 ?_
      refine g_i2b dX9_addNumber_28 ?_
      obtain ⟨h9, e10, hF⟩ := q_bind hF
      refine g_bast e10 dX9_addNumber_29 ?_
      refine g_aload_n 0 dX9_addNumber_30 rfl ?_
      refine g_dup dX9_addNumber_31 rfl ?_
      obtain ⟨x11, e12, hF⟩ := q_bind hF
      refine g_getfI fl_X9_51 e12 dX9_addNumber_32 ?_
      refine g_iconst dX9_addNumber_35 lt_iconst_1 ?_
      refine g_iadd dX9_addNumber_36 ?_
      obtain ⟨h13, e14, hF⟩ := q_bind hF
      refine g_putf fl_X9_51 e14 rfl rfl dX9_addNumber_37 ?_
      refine g_iinc [(2, .int (a2 + (-8))), (0, .ref a0), (1, .int a1)] 2 dX9_addNumber_40 rfl (congrArg (a2 + ·) lt_iconst_m8) (Nat.le_of_ble_eq_true rfl) rfl ?_
      refine g_goto 3 dX9_addNumber_43 (by decide) ?_
      cases hF
      refine g_sub [1, 2, 0] rfl ?_
      exact hback _ _ rfl
set_option maxRecDepth 100000 in
set_option maxHeartbeats 4000000 in
theorem L_X9_addNumber_3 (l : Launch) (b : Nat) (D : va_G) (z : Nat → Nat) {Φ : Option Value → qH → Nat → Prop} {nx : Nat} {a0 : Nat} {a1 : Int32} : ∀ (n : Nat) (a2 : Int32) (h : qH) (e : qH), q_lp (s_X9_addNumber_3 a0 a1) n (a2, h) = some e → (∀  (bh : qH), e = bh → Go l b D z yX9_addNumber cX9_addNumber 3 none rm_X9_addNumber Φ 46 [] [] bh nx 0 0) → Go l b D z yX9_addNumber cX9_addNumber 3 none rm_X9_addNumber Φ 3 [(0, .ref a0), (1, .int a1), (2, .int a2)] [] h nx 0 0 := by
  intro n
  induction n with
  | zero => intro a2 h e he; cases (show none = some e from he)
  | succ n ih =>
    intro a2 h e he hx0
    obtain ⟨o, ho, h1, h2⟩ := q_lp_succ he
    exact B_X9_addNumber_3 l b D z (show b_X9_addNumber_3 a0 a1 a2 h = some o from ho) (fun b2 bh hb => ih _ _ e (h1 _ hb) hx0) (fun p0 hr => hx0 p0 (h2 _ hr).symm)
set_option maxRecDepth 100000 in
set_option maxHeartbeats 4000000 in
theorem M_X9_addNumber (l : Launch) (b : Nat) (D : va_G) (z : Nat → Nat) (nx : Nat) {h : qH} {a0 : Nat} {a1 : Int32} {r : qH} (hF : F_X9_addNumber h a0 a1 = some r) : Me l b D z yX9_addNumber cX9_addNumber 3 none rm_X9_addNumber [.ref a0, .int a1] h nx (qE none r nx) := by
  refine Me.of (by decide +kernel) (Nat.le_of_ble_eq_true rfl) ?_
  show Go l b D z yX9_addNumber cX9_addNumber 3 none rm_X9_addNumber (qE none r nx) 0 [(0, .ref a0), (1, .int a1)] [] h nx 0 0
  unfold F_X9_addNumber at hF
  refine g_bipush dX9_addNumber_0 lt_bipush_24 ?_
  refine g_istore_n [(2, .int (24 : Int32)), (0, .ref a0), (1, .int a1)] dX9_addNumber_2 (Nat.le_of_ble_eq_true rfl) rfl ?_
  obtain ⟨e1, w2, hF⟩ := q_bind hF
  refine g_sub [1, 2, 0] rfl ?_
  refine L_X9_addNumber_3 l b D z q_N (24 : Int32) h e1 w2 ?_
  · intro h3 w4
    replace w4 := w4.symm
    subst w4
    cases hF
    exact g_vret dX9_addNumber_46 rfl ⟨rfl, rfl, rfl⟩ (Nat.le_of_ble_eq_true rfl) (Nat.le_of_ble_eq_true rfl)
def rm_X9_howMany : Room := { frames := 0, cells := 0, slots := 0, locals := 0 }
set_option maxRecDepth 100000 in
set_option maxHeartbeats 4000000 in
theorem M_X9_howMany (l : Launch) (b : Nat) (D : va_G) (z : Nat → Nat) (nx : Nat) {h : qH} {a0 : Nat} {a1 : Int32} {r : Int32} (hF : F_X9_howMany h a0 a1 = some r) : Me l b D z yX9_howMany cX9_howMany 2 (some .int) rm_X9_howMany [.ref a0, .int a1] h nx (qE (some (.int r)) h nx) := by
  refine Me.of (by decide +kernel) (Nat.le_of_ble_eq_true rfl) ?_
  show Go l b D z yX9_howMany cX9_howMany 2 (some .int) rm_X9_howMany (qE (some (.int r)) h nx) 0 [(0, .ref a0), (1, .int a1)] [] h nx 0 0
  unfold F_X9_howMany at hF
  refine g_iload_n 1 dX9_howMany_0 rfl ?_
  refine g_if_lt 18 dX9_howMany_1 (by decide) (fun c1 => ?_) (fun c1 => ?_)
  · replace hF := q_t c1 hF
    refine g_bipush dX9_howMany_18 lt_bipush_m2 ?_
    cases hF
    exact g_iret dX9_howMany_20 rfl ⟨rfl, rfl, rfl⟩ (Nat.le_of_ble_eq_true rfl) (Nat.le_of_ble_eq_true rfl)
  · replace hF := q_f c1 hF
    refine g_iload_n 1 dX9_howMany_4 rfl ?_
    refine g_iconst dX9_howMany_5 lt_iconst_4 ?_
    refine g_icmp_ge 18 dX9_howMany_6 (by decide) (fun c2 => ?_) (fun c2 => ?_)
    · replace hF := q_t c2 hF
      refine g_bipush dX9_howMany_18 lt_bipush_m2 ?_
      cases hF
      exact g_iret dX9_howMany_20 rfl ⟨rfl, rfl, rfl⟩ (Nat.le_of_ble_eq_true rfl) (Nat.le_of_ble_eq_true rfl)
    · replace hF := q_f c2 hF
      refine g_aload_n 0 dX9_howMany_9 rfl ?_
      obtain ⟨x3, e4, hF⟩ := q_bind hF
      refine g_getfR fl_X9_15 e4 dX9_howMany_10 ?_
      refine g_iload_n 1 dX9_howMany_13 rfl ?_
      obtain ⟨x5, e6, hF⟩ := q_bind hF
      refine g_iald e6 dX9_howMany_14 ?_
      refine g_goto 20 dX9_howMany_15 (by decide) ?_
      cases hF
      exact g_iret dX9_howMany_20 rfl ⟨rfl, rfl, rfl⟩ (Nat.le_of_ble_eq_true rfl) (Nat.le_of_ble_eq_true rfl)
def rm_X9_addOne : Room := { frames := 0, cells := 0, slots := 0, locals := 0 }
set_option maxRecDepth 100000 in
set_option maxHeartbeats 4000000 in
theorem M_X9_addOne (l : Launch) (b : Nat) (D : va_G) (z : Nat → Nat) (nx : Nat) {h : qH} {a0 : Nat} {a1 : Int32} {r : qH} (hF : F_X9_addOne h a0 a1 = some r) : Me l b D z yX9_addOne cX9_addOne 2 none rm_X9_addOne [.ref a0, .int a1] h nx (qE none r nx) := by
  refine Me.of (by decide +kernel) (Nat.le_of_ble_eq_true rfl) ?_
  show Go l b D z yX9_addOne cX9_addOne 2 none rm_X9_addOne (qE none r nx) 0 [(0, .ref a0), (1, .int a1)] [] h nx 0 0
  unfold F_X9_addOne at hF
  refine g_iload_n 1 dX9_addOne_0 rfl ?_
  refine g_if_lt 29 dX9_addOne_1 (by decide) (fun c1 => ?_) (fun c1 => ?_)
  · replace hF := q_t c1 hF
    cases hF
    exact g_vret dX9_addOne_29 rfl ⟨rfl, rfl, rfl⟩ (Nat.le_of_ble_eq_true rfl) (Nat.le_of_ble_eq_true rfl)
  · replace hF := q_f c1 hF
    refine g_iload_n 1 dX9_addOne_4 rfl ?_
    refine g_iconst dX9_addOne_5 lt_iconst_4 ?_
    refine g_icmp_ge 29 dX9_addOne_6 (by decide) (fun c2 => ?_) (fun c2 => ?_)
    · replace hF := q_t c2 hF
      cases hF
      exact g_vret dX9_addOne_29 rfl ⟨rfl, rfl, rfl⟩ (Nat.le_of_ble_eq_true rfl) (Nat.le_of_ble_eq_true rfl)
    · replace hF := q_f c2 hF
      refine g_aload_n 0 dX9_addOne_9 rfl ?_
      obtain ⟨x3, e4, hF⟩ := q_bind hF
      refine g_getfR fl_X9_15 e4 dX9_addOne_10 ?_
      refine g_iload_n 1 dX9_addOne_13 rfl ?_
      obtain ⟨x5, e6, hF⟩ := q_bind hF
      refine g_iald e6 dX9_addOne_14 ?_
      refine g_iconst dX9_addOne_15 lt_iconst_2 ?_
      refine g_icmp_ge 29 dX9_addOne_16 (by decide) (fun c7 => ?_) (fun c7 => ?_)
      · replace hF := q_t c7 hF
        cases hF
        exact g_vret dX9_addOne_29 rfl ⟨rfl, rfl, rfl⟩ (Nat.le_of_ble_eq_true rfl) (Nat.le_of_ble_eq_true rfl)
      · replace hF := q_f c7 hF
        refine g_aload_n 0 dX9_addOne_19 rfl ?_
        obtain ⟨x8, e9, hF⟩ := q_bind hF
        refine g_getfR fl_X9_15 e9 dX9_addOne_20 ?_
        refine g_iload_n 1 dX9_addOne_23 rfl ?_
        refine g_dup2 dX9_addOne_24 rfl rfl ?_
        obtain ⟨x10, e11, hF⟩ := q_bind hF
        refine g_iald e11 dX9_addOne_25 ?_
        refine g_iconst dX9_addOne_26 lt_iconst_1 ?_
        refine g_iadd dX9_addOne_27 ?_
        obtain ⟨h12, e13, hF⟩ := q_bind hF
        refine g_iast e13 dX9_addOne_28 ?_
        cases hF
        exact g_vret dX9_addOne_29 rfl ⟨rfl, rfl, rfl⟩ (Nat.le_of_ble_eq_true rfl) (Nat.le_of_ble_eq_true rfl)
def rm_X10_copy : Room := { frames := 1, cells := 0, slots := 0, locals := 40 }
set_option maxRecDepth 100000 in
set_option maxHeartbeats 4000000 in
theorem M_X10_copy (l : Launch) (b : Nat) (D : va_G) (z : Nat → Nat) (nx : Nat) {h : qH} {a0 : Nat} {a1 : Nat} {r : qH} (hF : F_X10_copy h a0 a1 = some r) : Me l b D z yX10_copy cX10_copy 2 none rm_X10_copy [.ref a0, .ref a1] h nx (qE none r nx) := by
  refine Me.of (by decide +kernel) (Nat.le_of_ble_eq_true rfl) ?_
  show Go l b D z yX10_copy cX10_copy 2 none rm_X10_copy (qE none r nx) 0 [(0, .ref a0), (1, .ref a1)] [] h nx 0 0
  unfold F_X10_copy at hF
  refine g_aload_n 1 dX10_copy_0 rfl ?_
  obtain ⟨x1, e2, hF⟩ := q_bind hF
  refine g_getfR fl_X10_11 e2 dX10_copy_1 ?_
  refine g_iconst dX10_copy_4 lt_iconst_0 ?_
  refine g_aload_n 0 dX10_copy_5 rfl ?_
  obtain ⟨x3, e4, hF⟩ := q_bind hF
  refine g_getfR fl_X10_11 e4 dX10_copy_6 ?_
  refine g_iconst dX10_copy_9 lt_iconst_0 ?_
  refine g_bipush dX10_copy_10 lt_bipush_9 ?_
  obtain ⟨h5, e6, hF⟩ := q_bind hF
  refine g_copyI rfl e6 wd_1451 wd_1028 wd_1027 wd_182 (Nat.le_of_ble_eq_true rfl) (Nat.le_of_ble_eq_true rfl) dX10_copy_12 ?_
  refine g_aload_n 1 dX10_copy_15 rfl ?_
  obtain ⟨x7, e8, hF⟩ := q_bind hF
  refine g_getfR fl_X10_15 e8 dX10_copy_16 ?_
  refine g_iconst dX10_copy_19 lt_iconst_0 ?_
  refine g_aload_n 0 dX10_copy_20 rfl ?_
  obtain ⟨x9, e10, hF⟩ := q_bind hF
  refine g_getfR fl_X10_15 e10 dX10_copy_21 ?_
  refine g_iconst dX10_copy_24 lt_iconst_0 ?_
  refine g_bipush dX10_copy_25 lt_bipush_9 ?_
  obtain ⟨h11, e12, hF⟩ := q_bind hF
  refine g_copyI rfl e12 wd_1451 wd_1028 wd_1027 wd_182 (Nat.le_of_ble_eq_true rfl) (Nat.le_of_ble_eq_true rfl) dX10_copy_27 ?_
  refine g_aload_n 1 dX10_copy_30 rfl ?_
  obtain ⟨x13, e14, hF⟩ := q_bind hF
  refine g_getfR fl_X10_18 e14 dX10_copy_31 ?_
  refine g_iconst dX10_copy_34 lt_iconst_0 ?_
  refine g_aload_n 0 dX10_copy_35 rfl ?_
  obtain ⟨x15, e16, hF⟩ := q_bind hF
  refine g_getfR fl_X10_18 e16 dX10_copy_36 ?_
  refine g_iconst dX10_copy_39 lt_iconst_0 ?_
  refine g_bipush dX10_copy_40 lt_bipush_9 ?_
  obtain ⟨h17, e18, hF⟩ := q_bind hF
  refine g_copyI rfl e18 wd_1451 wd_1028 wd_1027 wd_182 (Nat.le_of_ble_eq_true rfl) (Nat.le_of_ble_eq_true rfl) dX10_copy_42 ?_
  refine g_aload_n 0 dX10_copy_45 rfl ?_
  refine g_aload_n 1 dX10_copy_46 rfl ?_
  obtain ⟨x19, e20, hF⟩ := q_bind hF
  refine g_getfI fl_X10_24 e20 dX10_copy_47 ?_
  obtain ⟨h21, e22, hF⟩ := q_bind hF
  refine g_putf fl_X10_24 e22 rfl rfl dX10_copy_50 ?_
  cases hF
  exact g_vret dX10_copy_53 rfl ⟨rfl, rfl, rfl⟩ (Nat.le_of_ble_eq_true rfl) (Nat.le_of_ble_eq_true rfl)
def rm_X9_copy : Room := { frames := 2, cells := 0, slots := 0, locals := 61 }
set_option maxRecDepth 100000 in
set_option maxHeartbeats 4000000 in
theorem B_X9_copy_56 (l : Launch) (b : Nat) (D : va_G) (z : Nat → Nat) {Φ : Option Value → qH → Nat → Prop} {nx : Nat} {a0 : Nat} {a1 : Nat} {a2 : Int32} {h : qH} {o : (Int32 × qH) ⊕ qH} (hF : b_X9_copy_56 a0 a1 a2 h = some o) (hback : ∀ (b2 : Int32) (bh : qH), o = .inl (b2, bh) → Go l b D z yX9_copy cX9_copy 3 none rm_X9_copy Φ 56 [(0, .ref a0), (1, .ref a1), (2, .int b2)] [] bh nx 0 0) (hx0 : ∀  (bh : qH), o = .inr bh → Go l b D z yX9_copy cX9_copy 3 none rm_X9_copy Φ 127 [] [] bh nx 0 0) : Go l b D z yX9_copy cX9_copy 3 none rm_X9_copy Φ 56 [(0, .ref a0), (1, .ref a1), (2, .int a2)] [] h nx 0 0 := by
  unfold b_X9_copy_56 at hF
  refine g_iload_n 2 dX9_copy_56 rfl ?_
  refine g_iconst dX9_copy_57 lt_iconst_2 ?_
  refine g_icmp_ge 127 dX9_copy_58 (by decide) (fun c1 => ?_) (fun c1 => ?_)
  · replace hF := q_t c1 hF
    cases hF
    refine g_sub [] rfl ?_
    exact hx0 _ rfl
  · replace hF := q_f c1 hF
    refine g_aload_n 0 dX9_copy_61 rfl ?_
    obtain ⟨x2, e3, hF⟩ := q_bind hF
    refine g_getfR fl_X9_21 e3 dX9_copy_62 ?_
    refine g_iload_n 2 dX9_copy_65 rfl ?_
    obtain ⟨x4, e5, hF⟩ := q_bind hF
    refine g_aald e5 dX9_copy_66 ?_
    rcases x4 with _ | x11
    · replace hF := q_en hF
      refine g_aload_n 1 dX9_copy_67 rfl ?_
      obtain ⟨x6, e7, hF⟩ := q_bind hF
      refine g_getfR fl_X9_21 e7 dX9_copy_68 ?_
      refine g_iload_n 2 dX9_copy_71 rfl ?_
      obtain ⟨x8, e9, hF⟩ := q_bind hF
      refine g_aald e9 dX9_copy_72 ?_
      rcases x8 with _ | x10
      · replace hF := q_en hF
        cases hF
      · replace hF := q_es hF
        cases hF
    · replace hF := q_es hF
      refine g_aload_n 1 dX9_copy_67 rfl ?_
      obtain ⟨x12, e13, hF⟩ := q_bind hF
      refine g_getfR fl_X9_21 e13 dX9_copy_68 ?_
      refine g_iload_n 2 dX9_copy_71 rfl ?_
      obtain ⟨x14, e15, hF⟩ := q_bind hF
      refine g_aald e15 dX9_copy_72 ?_
      rcases x14 with _ | x16
      · replace hF := q_en hF
        cases hF
      · replace hF := q_es hF
        obtain ⟨u17, e18, hF⟩ := q_bind hF
        obtain ⟨x19, e20, hF⟩ := q_bind hF
        refine g_callVv0 (ci := 0) (q := (RX0, TX0, 15)) qm_X0_copy wd_1432 wd_1433 wd_1434 rfl e18 (M_X0_copy l b D z nx e20) (As := [.ref x16]) rfl rfl (Nat.le_of_ble_eq_true rfl) ⟨(Nat.le_of_ble_eq_true rfl), (Nat.le_of_ble_eq_true rfl)⟩ ⟨rfl, rfl⟩ ⟨(Nat.le_of_ble_eq_true rfl), (Nat.le_of_ble_eq_true rfl)⟩ dX9_copy_73 ?_
        refine g_aload_n 0 dX9_copy_76 rfl ?_
        obtain ⟨x21, e22, hF⟩ := q_bind hF
        refine g_getfR fl_X9_27 e22 dX9_copy_77 ?_
        refine g_iload_n 2 dX9_copy_80 rfl ?_
        obtain ⟨x23, e24, hF⟩ := q_bind hF
        refine g_aald e24 dX9_copy_81 ?_
        rcases x23 with _ | x30
        · replace hF := q_en hF
          refine g_aload_n 1 dX9_copy_82 rfl ?_
          obtain ⟨x25, e26, hF⟩ := q_bind hF
          refine g_getfR fl_X9_27 e26 dX9_copy_83 ?_
          refine g_iload_n 2 dX9_copy_86 rfl ?_
          obtain ⟨x27, e28, hF⟩ := q_bind hF
          refine g_aald e28 dX9_copy_87 ?_
          rcases x27 with _ | x29
          · replace hF := q_en hF
            cases hF
          · replace hF := q_es hF
            cases hF
        · replace hF := q_es hF
          refine g_aload_n 1 dX9_copy_82 rfl ?_
          obtain ⟨x31, e32, hF⟩ := q_bind hF
          refine g_getfR fl_X9_27 e32 dX9_copy_83 ?_
          refine g_iload_n 2 dX9_copy_86 rfl ?_
          obtain ⟨x33, e34, hF⟩ := q_bind hF
          refine g_aald e34 dX9_copy_87 ?_
          rcases x33 with _ | x35
          · replace hF := q_en hF
            cases hF
          · replace hF := q_es hF
            obtain ⟨u36, e37, hF⟩ := q_bind hF
            obtain ⟨x38, e39, hF⟩ := q_bind hF
            refine g_callVv0 (ci := 1) (q := (RX1, TX1, 3)) qm_X1_copy wd_1437 wd_1438 wd_1439 rfl e37 (M_X1_copy l b D z nx e39) (As := [.ref x35]) rfl rfl (Nat.le_of_ble_eq_true rfl) ⟨(Nat.le_of_ble_eq_true rfl), (Nat.le_of_ble_eq_true rfl)⟩ ⟨rfl, rfl⟩ ⟨(Nat.le_of_ble_eq_true rfl), (Nat.le_of_ble_eq_true rfl)⟩ dX9_copy_88 ?_
            refine g_aload_n 0 dX9_copy_91 rfl ?_
            obtain ⟨x40, e41, hF⟩ := q_bind hF
            refine g_getfR fl_X9_33 e41 dX9_copy_92 ?_
            refine g_iload_n 2 dX9_copy_95 rfl ?_
            obtain ⟨x42, e43, hF⟩ := q_bind hF
            refine g_aald e43 dX9_copy_96 ?_
            rcases x42 with _ | x49
            · replace hF := q_en hF
              refine g_aload_n 1 dX9_copy_97 rfl ?_
              obtain ⟨x44, e45, hF⟩ := q_bind hF
              refine g_getfR fl_X9_33 e45 dX9_copy_98 ?_
              refine g_iload_n 2 dX9_copy_101 rfl ?_
              obtain ⟨x46, e47, hF⟩ := q_bind hF
              refine g_aald e47 dX9_copy_102 ?_
              rcases x46 with _ | x48
              · replace hF := q_en hF
                cases hF
              · replace hF := q_es hF
                cases hF
            · replace hF := q_es hF
              refine g_aload_n 1 dX9_copy_97 rfl ?_
              obtain ⟨x50, e51, hF⟩ := q_bind hF
              refine g_getfR fl_X9_33 e51 dX9_copy_98 ?_
              refine g_iload_n 2 dX9_copy_101 rfl ?_
              obtain ⟨x52, e53, hF⟩ := q_bind hF
              refine g_aald e53 dX9_copy_102 ?_
              rcases x52 with _ | x54
              · replace hF := q_en hF
                cases hF
              · replace hF := q_es hF
                obtain ⟨u55, e56, hF⟩ := q_bind hF
                obtain ⟨x57, e58, hF⟩ := q_bind hF
                refine g_callVv0 (ci := 3) (q := (RX3, TX3, 2)) qm_X3_copy wd_1442 wd_1443 wd_1444 rfl e56 (M_X3_copy l b D z nx e58) (As := [.ref x54]) rfl rfl (Nat.le_of_ble_eq_true rfl) ⟨(Nat.le_of_ble_eq_true rfl), (Nat.le_of_ble_eq_true rfl)⟩ ⟨rfl, rfl⟩ ⟨(Nat.le_of_ble_eq_true rfl), (Nat.le_of_ble_eq_true rfl)⟩ dX9_copy_103 ?_
                refine g_aload_n 0 dX9_copy_106 rfl ?_
                obtain ⟨x59, e60, hF⟩ := q_bind hF
                refine g_getfR fl_X9_39 e60 dX9_copy_107 ?_
                refine g_iload_n 2 dX9_copy_110 rfl ?_
                obtain ⟨x61, e62, hF⟩ := q_bind hF
                refine g_aald e62 dX9_copy_111 ?_
                rcases x61 with _ | x68
                · replace hF := q_en hF
                  refine g_aload_n 1 dX9_copy_112 rfl ?_
                  obtain ⟨x63, e64, hF⟩ := q_bind hF
                  refine g_getfR fl_X9_39 e64 dX9_copy_113 ?_
                  refine g_iload_n 2 dX9_copy_116 rfl ?_
                  obtain ⟨x65, e66, hF⟩ := q_bind hF
                  refine g_aald e66 dX9_copy_117 ?_
                  rcases x65 with _ | x67
                  · replace hF := q_en hF
                    cases hF
                  · replace hF := q_es hF
                    cases hF
                · replace hF := q_es hF
                  refine g_aload_n 1 dX9_copy_112 rfl ?_
                  obtain ⟨x69, e70, hF⟩ := q_bind hF
                  refine g_getfR fl_X9_39 e70 dX9_copy_113 ?_
                  refine g_iload_n 2 dX9_copy_116 rfl ?_
                  obtain ⟨x71, e72, hF⟩ := q_bind hF
                  refine g_aald e72 dX9_copy_117 ?_
                  rcases x71 with _ | x73
                  · replace hF := q_en hF
                    cases hF
                  · replace hF := q_es hF
                    obtain ⟨u74, e75, hF⟩ := q_bind hF
                    obtain ⟨x76, e77, hF⟩ := q_bind hF
                    refine g_callVv0 (ci := 10) (q := (RX10, TX10, 5)) qm_X10_copy wd_1447 wd_1448 wd_1449 rfl e75 (M_X10_copy l b D z nx e77) (As := [.ref x73]) rfl rfl (Nat.le_of_ble_eq_true rfl) ⟨(Nat.le_of_ble_eq_true rfl), (Nat.le_of_ble_eq_true rfl)⟩ ⟨rfl, rfl⟩ ⟨(Nat.le_of_ble_eq_true rfl), (Nat.le_of_ble_eq_true rfl)⟩ dX9_copy_118 ?_
                    refine g_iinc [(2, .int (a2 + 1)), (0, .ref a0), (1, .ref a1)] 2 dX9_copy_121 rfl (congrArg (a2 + ·) lt_iconst_1) (Nat.le_of_ble_eq_true rfl) rfl ?_
                    refine g_goto 56 dX9_copy_124 (by decide) ?_
                    cases hF
                    refine g_sub [1, 2, 0] rfl ?_
                    exact hback _ _ rfl
set_option maxRecDepth 100000 in
set_option maxHeartbeats 4000000 in
theorem L_X9_copy_56 (l : Launch) (b : Nat) (D : va_G) (z : Nat → Nat) {Φ : Option Value → qH → Nat → Prop} {nx : Nat} {a0 : Nat} {a1 : Nat} : ∀ (n : Nat) (a2 : Int32) (h : qH) (e : qH), q_lp (s_X9_copy_56 a0 a1) n (a2, h) = some e → (∀  (bh : qH), e = bh → Go l b D z yX9_copy cX9_copy 3 none rm_X9_copy Φ 127 [] [] bh nx 0 0) → Go l b D z yX9_copy cX9_copy 3 none rm_X9_copy Φ 56 [(0, .ref a0), (1, .ref a1), (2, .int a2)] [] h nx 0 0 := by
  intro n
  induction n with
  | zero => intro a2 h e he; cases (show none = some e from he)
  | succ n ih =>
    intro a2 h e he hx0
    obtain ⟨o, ho, h1, h2⟩ := q_lp_succ he
    exact B_X9_copy_56 l b D z (show b_X9_copy_56 a0 a1 a2 h = some o from ho) (fun b2 bh hb => ih _ _ e (h1 _ hb) hx0) (fun p0 hr => hx0 p0 (h2 _ hr).symm)
set_option maxRecDepth 100000 in
set_option maxHeartbeats 4000000 in
theorem M_X9_copy (l : Launch) (b : Nat) (D : va_G) (z : Nat → Nat) (nx : Nat) {h : qH} {a0 : Nat} {a1 : Nat} {r : qH} (hF : F_X9_copy h a0 a1 = some r) : Me l b D z yX9_copy cX9_copy 3 none rm_X9_copy [.ref a0, .ref a1] h nx (qE none r nx) := by
  refine Me.of (by decide +kernel) (Nat.le_of_ble_eq_true rfl) ?_
  show Go l b D z yX9_copy cX9_copy 3 none rm_X9_copy (qE none r nx) 0 [(0, .ref a0), (1, .ref a1)] [] h nx 0 0
  unfold F_X9_copy at hF
  refine g_aload_n 1 dX9_copy_0 rfl ?_
  obtain ⟨x1, e2, hF⟩ := q_bind hF
  refine g_getfR fl_X9_11 e2 dX9_copy_1 ?_
  refine g_iconst dX9_copy_4 lt_iconst_0 ?_
  refine g_aload_n 0 dX9_copy_5 rfl ?_
  obtain ⟨x3, e4, hF⟩ := q_bind hF
  refine g_getfR fl_X9_11 e4 dX9_copy_6 ?_
  refine g_iconst dX9_copy_9 lt_iconst_0 ?_
  refine g_sipush dX9_copy_10 lt_sipush_600 ?_
  obtain ⟨h5, e6, hF⟩ := q_bind hF
  refine g_copyI rfl e6 wd_1431 wd_1028 wd_1027 wd_182 (Nat.le_of_ble_eq_true rfl) (Nat.le_of_ble_eq_true rfl) dX9_copy_13 ?_
  refine g_aload_n 1 dX9_copy_16 rfl ?_
  obtain ⟨x7, e8, hF⟩ := q_bind hF
  refine g_getfR fl_X9_15 e8 dX9_copy_17 ?_
  refine g_iconst dX9_copy_20 lt_iconst_0 ?_
  refine g_aload_n 0 dX9_copy_21 rfl ?_
  obtain ⟨x9, e10, hF⟩ := q_bind hF
  refine g_getfR fl_X9_15 e10 dX9_copy_22 ?_
  refine g_iconst dX9_copy_25 lt_iconst_0 ?_
  refine g_iconst dX9_copy_26 lt_iconst_4 ?_
  obtain ⟨h11, e12, hF⟩ := q_bind hF
  refine g_copyI rfl e12 wd_1431 wd_1028 wd_1027 wd_182 (Nat.le_of_ble_eq_true rfl) (Nat.le_of_ble_eq_true rfl) dX9_copy_27 ?_
  refine g_aload_n 0 dX9_copy_30 rfl ?_
  refine g_aload_n 1 dX9_copy_31 rfl ?_
  obtain ⟨x13, e14, hF⟩ := q_bind hF
  refine g_getfI fl_X9_51 e14 dX9_copy_32 ?_
  obtain ⟨h15, e16, hF⟩ := q_bind hF
  refine g_putf fl_X9_51 e16 rfl rfl dX9_copy_35 ?_
  refine g_aload_n 0 dX9_copy_38 rfl ?_
  refine g_aload_n 1 dX9_copy_39 rfl ?_
  obtain ⟨x17, e18, hF⟩ := q_bind hF
  refine g_getfI fl_X9_60 e18 dX9_copy_40 ?_
  obtain ⟨h19, e20, hF⟩ := q_bind hF
  refine g_putf fl_X9_60 e20 rfl rfl dX9_copy_43 ?_
  refine g_aload_n 0 dX9_copy_46 rfl ?_
  refine g_aload_n 1 dX9_copy_47 rfl ?_
  obtain ⟨x21, e22, hF⟩ := q_bind hF
  refine g_getfI fl_X9_43 e22 dX9_copy_48 ?_
  obtain ⟨h23, e24, hF⟩ := q_bind hF
  refine g_putf fl_X9_43 e24 rfl rfl dX9_copy_51 ?_
  refine g_iconst dX9_copy_54 lt_iconst_0 ?_
  refine g_istore_n [(2, .int (0 : Int32)), (0, .ref a0), (1, .ref a1)] dX9_copy_55 (Nat.le_of_ble_eq_true rfl) rfl ?_
  obtain ⟨e25, w26, hF⟩ := q_bind hF
  refine g_sub [1, 2, 0] rfl ?_
  refine L_X9_copy_56 l b D z q_N (0 : Int32) h23 e25 w26 ?_
  · intro h27 w28
    replace w28 := w28.symm
    subst w28
    cases hF
    exact g_vret dX9_copy_127 rfl ⟨rfl, rfl, rfl⟩ (Nat.le_of_ble_eq_true rfl) (Nat.le_of_ble_eq_true rfl)
def rm_X10_has : Room := { frames := 0, cells := 0, slots := 0, locals := 0 }
set_option maxRecDepth 100000 in
set_option maxHeartbeats 4000000 in
theorem M_X10_has (l : Launch) (b : Nat) (D : va_G) (z : Nat → Nat) (nx : Nat) {h : qH} {a0 : Nat} {a1 : Int32} {r : Int32} (hF : F_X10_has h a0 a1 = some r) : Me l b D z yX10_has cX10_has 2 (some .boolean) rm_X10_has [.ref a0, .int a1] h nx (qE (some (.int r)) h nx) := by
  refine Me.of (by decide +kernel) (Nat.le_of_ble_eq_true rfl) ?_
  show Go l b D z yX10_has cX10_has 2 (some .boolean) rm_X10_has (qE (some (.int r)) h nx) 0 [(0, .ref a0), (1, .int a1)] [] h nx 0 0
  unfold F_X10_has at hF
  refine g_iload_n 1 dX10_has_0 rfl ?_
  refine g_if_lt 22 dX10_has_1 (by decide) (fun c1 => ?_) (fun c1 => ?_)
  · replace hF := q_t c1 hF
    refine g_iconst dX10_has_22 lt_iconst_0 ?_
    cases hF
    exact g_zret dX10_has_23 rfl zn_0 ⟨rfl, rfl, rfl⟩ (Nat.le_of_ble_eq_true rfl) (Nat.le_of_ble_eq_true rfl)
  · replace hF := q_f c1 hF
    refine g_iload_n 1 dX10_has_4 rfl ?_
    refine g_aload_n 0 dX10_has_5 rfl ?_
    obtain ⟨x2, e3, hF⟩ := q_bind hF
    refine g_getfI fl_X10_24 e3 dX10_has_6 ?_
    refine g_icmp_ge 22 dX10_has_9 (by decide) (fun c4 => ?_) (fun c4 => ?_)
    · replace hF := q_t c4 hF
      refine g_iconst dX10_has_22 lt_iconst_0 ?_
      cases hF
      exact g_zret dX10_has_23 rfl zn_0 ⟨rfl, rfl, rfl⟩ (Nat.le_of_ble_eq_true rfl) (Nat.le_of_ble_eq_true rfl)
    · replace hF := q_f c4 hF
      refine g_iload_n 1 dX10_has_12 rfl ?_
      refine g_bipush dX10_has_13 lt_bipush_9 ?_
      refine g_icmp_ge 22 dX10_has_15 (by decide) (fun c5 => ?_) (fun c5 => ?_)
      · replace hF := q_t c5 hF
        refine g_iconst dX10_has_22 lt_iconst_0 ?_
        cases hF
        exact g_zret dX10_has_23 rfl zn_0 ⟨rfl, rfl, rfl⟩ (Nat.le_of_ble_eq_true rfl) (Nat.le_of_ble_eq_true rfl)
      · replace hF := q_f c5 hF
        refine g_iconst dX10_has_18 lt_iconst_1 ?_
        refine g_goto 23 dX10_has_19 (by decide) ?_
        cases hF
        exact g_zret dX10_has_23 rfl zn_1 ⟨rfl, rfl, rfl⟩ (Nat.le_of_ble_eq_true rfl) (Nat.le_of_ble_eq_true rfl)
def rm_X10_wallsBetween : Room := { frames := 1, cells := 0, slots := 0, locals := 21 }
set_option maxRecDepth 100000 in
set_option maxHeartbeats 4000000 in
theorem B_X10_wallsBetween_5 (l : Launch) (b : Nat) (D : va_G) (z : Nat → Nat) {Φ : Option Value → qH → Nat → Prop} {nx : Nat} {h : qH} {a0 : Nat} {a2 : Int32} {a3 : Int32} {a4 : Int32} {o : (Int32 × Int32) ⊕ Int32} (hF : b_X10_wallsBetween_5 h a0 a2 a3 a4 = some o) (hback : ∀ (b3 : Int32) (b4 : Int32), o = .inl (b3, b4) → Go l b D z yX10_wallsBetween cX10_wallsBetween 5 (some .int) rm_X10_wallsBetween Φ 5 [(0, .ref a0), (2, .int a2), (3, .int b3), (4, .int b4)] [] h nx 0 0) (hx0 : ∀ (b3 : Int32), o = .inr b3 → Go l b D z yX10_wallsBetween cX10_wallsBetween 5 (some .int) rm_X10_wallsBetween Φ 40 [(3, .int b3)] [] h nx 0 0) : Go l b D z yX10_wallsBetween cX10_wallsBetween 5 (some .int) rm_X10_wallsBetween Φ 5 [(0, .ref a0), (2, .int a2), (3, .int a3), (4, .int a4)] [] h nx 0 0 := by
  unfold b_X10_wallsBetween_5 at hF
  refine g_iload 3 dX10_wallsBetween_5 rfl ?_
  refine g_iload_n 1 dX10_wallsBetween_7 rfl ?_
  refine g_icmp_ge 40 dX10_wallsBetween_8 (by decide) (fun c1 => ?_) (fun c1 => ?_)
  · replace hF := q_t c1 hF
    cases hF
    refine g_sub [2] rfl ?_
    exact hx0 _ rfl
  · replace hF := q_f c1 hF
    refine g_iload_n 2 dX10_wallsBetween_11 rfl ?_
    refine g_aload_n 0 dX10_wallsBetween_12 rfl ?_
    refine g_iload 3 dX10_wallsBetween_13 rfl ?_
    obtain ⟨u2, e3, hF⟩ := q_bind hF
    obtain ⟨x4, e5, hF⟩ := q_bind hF
    refine g_callVr0 (ci := 10) (q := (RX10, TX10, 5)) qm_X10_has wd_1256 wd_1258 wd_62 rfl e3 (M_X10_has l b D z nx e5) (As := [.int a4]) rfl rfl (Nat.le_of_ble_eq_true rfl) ⟨(Nat.le_of_ble_eq_true rfl), (Nat.le_of_ble_eq_true rfl)⟩ ⟨rfl, rfl⟩ ⟨(Nat.le_of_ble_eq_true rfl), (Nat.le_of_ble_eq_true rfl)⟩ dX10_wallsBetween_15 ?_
    refine g_if_eq 31 dX10_wallsBetween_18 (by decide) (fun c6 => ?_) (fun c6 => ?_)
    · replace hF := q_t c6 hF
      refine g_iconst dX10_wallsBetween_31 lt_iconst_0 ?_
      refine g_iadd dX10_wallsBetween_32 ?_
      refine g_istore_n [(3, .int (a3 + (0 : Int32))), (0, .ref a0), (2, .int a2), (4, .int a4)] dX10_wallsBetween_33 (Nat.le_of_ble_eq_true rfl) rfl ?_
      refine g_iinc [(4, .int (a4 + 1)), (3, .int (a3 + (0 : Int32))), (0, .ref a0), (2, .int a2)] 3 dX10_wallsBetween_34 rfl (congrArg (a4 + ·) lt_iconst_1) (Nat.le_of_ble_eq_true rfl) rfl ?_
      refine g_goto 5 dX10_wallsBetween_37 (by decide) ?_
      cases hF
      refine g_sub [2, 3, 1, 0] rfl ?_
      exact hback _ _ rfl
    · replace hF := q_f c6 hF
      refine g_aload_n 0 dX10_wallsBetween_21 rfl ?_
      obtain ⟨x7, e8, hF⟩ := q_bind hF
      refine g_getfR fl_X10_11 e8 dX10_wallsBetween_22 ?_
      refine g_iload 3 dX10_wallsBetween_25 rfl ?_
      obtain ⟨x9, e10, hF⟩ := q_bind hF
      refine g_iald e10 dX10_wallsBetween_27 ?_
      refine g_goto 32 dX10_wallsBetween_28 (by decide) ?_
      refine g_iadd dX10_wallsBetween_32 ?_
      refine g_istore_n [(3, .int (a3 + x9)), (0, .ref a0), (2, .int a2), (4, .int a4)] dX10_wallsBetween_33 (Nat.le_of_ble_eq_true rfl) rfl ?_
      refine g_iinc [(4, .int (a4 + 1)), (3, .int (a3 + x9)), (0, .ref a0), (2, .int a2)] 3 dX10_wallsBetween_34 rfl (congrArg (a4 + ·) lt_iconst_1) (Nat.le_of_ble_eq_true rfl) rfl ?_
      refine g_goto 5 dX10_wallsBetween_37 (by decide) ?_
      cases hF
      refine g_sub [2, 3, 1, 0] rfl ?_
      exact hback _ _ rfl
set_option maxRecDepth 100000 in
set_option maxHeartbeats 4000000 in
theorem L_X10_wallsBetween_5 (l : Launch) (b : Nat) (D : va_G) (z : Nat → Nat) {Φ : Option Value → qH → Nat → Prop} {nx : Nat} {h : qH} {a0 : Nat} {a2 : Int32} : ∀ (n : Nat) (a3 : Int32) (a4 : Int32) (e : Int32), q_lp (s_X10_wallsBetween_5 h a0 a2) n (a3, a4) = some e → (∀ (b3 : Int32), e = b3 → Go l b D z yX10_wallsBetween cX10_wallsBetween 5 (some .int) rm_X10_wallsBetween Φ 40 [(3, .int b3)] [] h nx 0 0) → Go l b D z yX10_wallsBetween cX10_wallsBetween 5 (some .int) rm_X10_wallsBetween Φ 5 [(0, .ref a0), (2, .int a2), (3, .int a3), (4, .int a4)] [] h nx 0 0 := by
  intro n
  induction n with
  | zero => intro a3 a4 e he; cases (show none = some e from he)
  | succ n ih =>
    intro a3 a4 e he hx0
    obtain ⟨o, ho, h1, h2⟩ := q_lp_succ he
    exact B_X10_wallsBetween_5 l b D z (show b_X10_wallsBetween_5 h a0 a2 a3 a4 = some o from ho) (fun b3 b4 hb => ih _ _ e (h1 _ hb) hx0) (fun p0 hr => hx0 p0 (h2 _ hr).symm)
set_option maxRecDepth 100000 in
set_option maxHeartbeats 4000000 in
theorem M_X10_wallsBetween (l : Launch) (b : Nat) (D : va_G) (z : Nat → Nat) (nx : Nat) {h : qH} {a0 : Nat} {a1 : Int32} {a2 : Int32} {r : Int32} (hF : F_X10_wallsBetween h a0 a1 a2 = some r) : Me l b D z yX10_wallsBetween cX10_wallsBetween 5 (some .int) rm_X10_wallsBetween [.ref a0, .int a1, .int a2] h nx (qE (some (.int r)) h nx) := by
  refine Me.of (by decide +kernel) (Nat.le_of_ble_eq_true rfl) ?_
  show Go l b D z yX10_wallsBetween cX10_wallsBetween 5 (some .int) rm_X10_wallsBetween (qE (some (.int r)) h nx) 0 [(0, .ref a0), (1, .int a1), (2, .int a2)] [] h nx 0 0
  unfold F_X10_wallsBetween at hF
  refine g_iconst dX10_wallsBetween_0 lt_iconst_0 ?_
  refine g_istore_n [(3, .int (0 : Int32)), (0, .ref a0), (1, .int a1), (2, .int a2)] dX10_wallsBetween_1 (Nat.le_of_ble_eq_true rfl) rfl ?_
  refine g_iload_n 2 dX10_wallsBetween_2 rfl ?_
  refine g_istore [(4, .int a1), (3, .int (0 : Int32)), (0, .ref a0), (1, .int a1), (2, .int a2)] dX10_wallsBetween_3 (Nat.le_of_ble_eq_true rfl) rfl ?_
  obtain ⟨e1, w2, hF⟩ := q_bind hF
  refine g_sub [2, 4, 1, 0] rfl ?_
  refine L_X10_wallsBetween_5 l b D z q_N (0 : Int32) a1 e1 w2 ?_
  · intro o3 w4
    replace w4 := w4.symm
    subst w4
    refine g_iload_n 0 dX10_wallsBetween_40 rfl ?_
    cases hF
    exact g_iret dX10_wallsBetween_41 rfl ⟨rfl, rfl, rfl⟩ (Nat.le_of_ble_eq_true rfl) (Nat.le_of_ble_eq_true rfl)
def rm_X10_loudOf : Room := { frames := 1, cells := 0, slots := 0, locals := 21 }
set_option maxRecDepth 100000 in
set_option maxHeartbeats 4000000 in
theorem M_X10_loudOf (l : Launch) (b : Nat) (D : va_G) (z : Nat → Nat) (nx : Nat) {h : qH} {a0 : Nat} {a1 : Int32} {r : Int32} (hF : F_X10_loudOf h a0 a1 = some r) : Me l b D z yX10_loudOf cX10_loudOf 2 (some .int) rm_X10_loudOf [.ref a0, .int a1] h nx (qE (some (.int r)) h nx) := by
  refine Me.of (by decide +kernel) (Nat.le_of_ble_eq_true rfl) ?_
  show Go l b D z yX10_loudOf cX10_loudOf 2 (some .int) rm_X10_loudOf (qE (some (.int r)) h nx) 0 [(0, .ref a0), (1, .int a1)] [] h nx 0 0
  unfold F_X10_loudOf at hF
  refine g_aload_n 0 dX10_loudOf_0 rfl ?_
  refine g_iload_n 1 dX10_loudOf_1 rfl ?_
  obtain ⟨u1, e2, hF⟩ := q_bind hF
  obtain ⟨x3, e4, hF⟩ := q_bind hF
  refine g_callVr0 (ci := 10) (q := (RX10, TX10, 5)) qm_X10_has wd_1256 wd_1258 wd_62 rfl e2 (M_X10_has l b D z nx e4) (As := [.int a1]) rfl rfl (Nat.le_of_ble_eq_true rfl) ⟨(Nat.le_of_ble_eq_true rfl), (Nat.le_of_ble_eq_true rfl)⟩ ⟨rfl, rfl⟩ ⟨(Nat.le_of_ble_eq_true rfl), (Nat.le_of_ble_eq_true rfl)⟩ dX10_loudOf_2 ?_
  refine g_if_eq 17 dX10_loudOf_5 (by decide) (fun c5 => ?_) (fun c5 => ?_)
  · replace hF := q_t c5 hF
    refine g_iconst dX10_loudOf_17 lt_iconst_0 ?_
    cases hF
    exact g_iret dX10_loudOf_18 rfl ⟨rfl, rfl, rfl⟩ (Nat.le_of_ble_eq_true rfl) (Nat.le_of_ble_eq_true rfl)
  · replace hF := q_f c5 hF
    refine g_aload_n 0 dX10_loudOf_8 rfl ?_
    obtain ⟨x6, e7, hF⟩ := q_bind hF
    refine g_getfR fl_X10_18 e7 dX10_loudOf_9 ?_
    refine g_iload_n 1 dX10_loudOf_12 rfl ?_
    obtain ⟨x8, e9, hF⟩ := q_bind hF
    refine g_iald e9 dX10_loudOf_13 ?_
    refine g_goto 18 dX10_loudOf_14 (by decide) ?_
    cases hF
    exact g_iret dX10_loudOf_18 rfl ⟨rfl, rfl, rfl⟩ (Nat.le_of_ble_eq_true rfl) (Nat.le_of_ble_eq_true rfl)
def rm_X10_whereHeard : Room := { frames := 2, cells := 0, slots := 0, locals := 45 }
set_option maxRecDepth 100000 in
set_option maxHeartbeats 4000000 in
theorem B_X10_whereHeard_4 (l : Launch) (b : Nat) (D : va_G) (z : Nat → Nat) {Φ : Option Value → qH → Nat → Prop} {nx : Nat} {h : qH} {a0 : Nat} {a1 : Int32} {a2 : Int32} {a3 : Int32} {o : (Int32 × Int32) ⊕ Int32} (hF : b_X10_whereHeard_4 h a0 a1 a2 a3 = some o) (hback : ∀ (b2 : Int32) (b3 : Int32), o = .inl (b2, b3) → Go l b D z yX10_whereHeard cX10_whereHeard 4 (some .int) rm_X10_whereHeard Φ 4 [(0, .ref a0), (1, .int a1), (2, .int b2), (3, .int b3)] [] h nx 0 0) (hx0 : ∀ (b2 : Int32), o = .inr b2 → Go l b D z yX10_whereHeard cX10_whereHeard 4 (some .int) rm_X10_whereHeard Φ 46 [(2, .int b2)] [] h nx 0 0) : Go l b D z yX10_whereHeard cX10_whereHeard 4 (some .int) rm_X10_whereHeard Φ 4 [(0, .ref a0), (1, .int a1), (2, .int a2), (3, .int a3)] [] h nx 0 0 := by
  unfold b_X10_whereHeard_4 at hF
  refine g_iload_n 3 dX10_whereHeard_4 rfl ?_
  refine g_aload_n 0 dX10_whereHeard_5 rfl ?_
  obtain ⟨x1, e2, hF⟩ := q_bind hF
  refine g_getfI fl_X10_24 e2 dX10_whereHeard_6 ?_
  refine g_icmp_ge 46 dX10_whereHeard_9 (by decide) (fun c3 => ?_) (fun c3 => ?_)
  · replace hF := q_t c3 hF
    cases hF
    refine g_sub [2] rfl ?_
    exact hx0 _ rfl
  · replace hF := q_f c3 hF
    refine g_aload_n 0 dX10_whereHeard_12 rfl ?_
    refine g_iload_n 1 dX10_whereHeard_13 rfl ?_
    refine g_iload_n 3 dX10_whereHeard_14 rfl ?_
    obtain ⟨x4, e5, hF⟩ := q_bind hF
    refine g_callSr0 qm_J9_min_7cf53 wd_1250 wd_1008 (M_J9_min_7cf53 l b D z nx e5) (As := [.int a1, .int a3]) rfl rfl (Nat.le_of_ble_eq_true rfl) ⟨(Nat.le_of_ble_eq_true rfl), (Nat.le_of_ble_eq_true rfl)⟩ ⟨rfl, rfl⟩ ⟨(Nat.le_of_ble_eq_true rfl), (Nat.le_of_ble_eq_true rfl)⟩ dX10_whereHeard_15 ?_
    refine g_iload_n 1 dX10_whereHeard_18 rfl ?_
    refine g_iload_n 3 dX10_whereHeard_19 rfl ?_
    obtain ⟨x6, e7, hF⟩ := q_bind hF
    refine g_callSr0 qm_J9_max_7cf53 wd_1251 wd_721 (M_J9_max_7cf53 l b D z nx e7) (As := [.int a1, .int a3]) rfl rfl (Nat.le_of_ble_eq_true rfl) ⟨(Nat.le_of_ble_eq_true rfl), (Nat.le_of_ble_eq_true rfl)⟩ ⟨rfl, rfl⟩ ⟨(Nat.le_of_ble_eq_true rfl), (Nat.le_of_ble_eq_true rfl)⟩ dX10_whereHeard_20 ?_
    obtain ⟨u8, e9, hF⟩ := q_bind hF
    obtain ⟨x10, e11, hF⟩ := q_bind hF
    refine g_callVr0 (ci := 10) (q := (RX10, TX10, 5)) qm_X10_wallsBetween wd_1252 wd_1254 wd_61 rfl e9 (M_X10_wallsBetween l b D z nx e11) (As := [.int x4, .int x6]) rfl rfl (Nat.le_of_ble_eq_true rfl) ⟨(Nat.le_of_ble_eq_true rfl), (Nat.le_of_ble_eq_true rfl)⟩ ⟨rfl, rfl⟩ ⟨(Nat.le_of_ble_eq_true rfl), (Nat.le_of_ble_eq_true rfl)⟩ dX10_whereHeard_23 ?_
    refine g_aload_n 0 dX10_whereHeard_26 rfl ?_
    refine g_iload_n 1 dX10_whereHeard_27 rfl ?_
    obtain ⟨u12, e13, hF⟩ := q_bind hF
    obtain ⟨x14, e15, hF⟩ := q_bind hF
    refine g_callVr0 (ci := 10) (q := (RX10, TX10, 5)) qm_X10_loudOf wd_1260 wd_1262 wd_63 rfl e13 (M_X10_loudOf l b D z nx e15) (As := [.int a1]) rfl rfl (Nat.le_of_ble_eq_true rfl) ⟨(Nat.le_of_ble_eq_true rfl), (Nat.le_of_ble_eq_true rfl)⟩ ⟨rfl, rfl⟩ ⟨(Nat.le_of_ble_eq_true rfl), (Nat.le_of_ble_eq_true rfl)⟩ dX10_whereHeard_28 ?_
    refine g_icmp_ge 40 dX10_whereHeard_31 (by decide) (fun c16 => ?_) (fun c16 => ?_)
    · replace hF := q_t c16 hF
      refine g_iinc [(3, .int (a3 + 1)), (0, .ref a0), (1, .int a1), (2, .int a2)] 3 dX10_whereHeard_40 rfl (congrArg (a3 + ·) lt_iconst_1) (Nat.le_of_ble_eq_true rfl) rfl ?_
      refine g_goto 4 dX10_whereHeard_43 (by decide) ?_
      cases hF
      refine g_sub [1, 2, 3, 0] rfl ?_
      exact hback _ _ rfl
    · replace hF := q_f c16 hF
      refine g_iload_n 2 dX10_whereHeard_34 rfl ?_
      refine g_iconst dX10_whereHeard_35 lt_iconst_1 ?_
      refine g_iload_n 3 dX10_whereHeard_36 rfl ?_
      refine g_ishl dX10_whereHeard_37 ?_
      refine g_ior dX10_whereHeard_38 ?_
      refine g_istore_n [(2, .int (a2 ||| (q_shl (1 : Int32) a3))), (0, .ref a0), (1, .int a1), (3, .int a3)] dX10_whereHeard_39 (Nat.le_of_ble_eq_true rfl) rfl ?_
      refine g_iinc [(3, .int (a3 + 1)), (2, .int (a2 ||| (q_shl (1 : Int32) a3))), (0, .ref a0), (1, .int a1)] 3 dX10_whereHeard_40 rfl (congrArg (a3 + ·) lt_iconst_1) (Nat.le_of_ble_eq_true rfl) rfl ?_
      refine g_goto 4 dX10_whereHeard_43 (by decide) ?_
      cases hF
      refine g_sub [2, 3, 1, 0] rfl ?_
      exact hback _ _ rfl
set_option maxRecDepth 100000 in
set_option maxHeartbeats 4000000 in
theorem L_X10_whereHeard_4 (l : Launch) (b : Nat) (D : va_G) (z : Nat → Nat) {Φ : Option Value → qH → Nat → Prop} {nx : Nat} {h : qH} {a0 : Nat} {a1 : Int32} : ∀ (n : Nat) (a2 : Int32) (a3 : Int32) (e : Int32), q_lp (s_X10_whereHeard_4 h a0 a1) n (a2, a3) = some e → (∀ (b2 : Int32), e = b2 → Go l b D z yX10_whereHeard cX10_whereHeard 4 (some .int) rm_X10_whereHeard Φ 46 [(2, .int b2)] [] h nx 0 0) → Go l b D z yX10_whereHeard cX10_whereHeard 4 (some .int) rm_X10_whereHeard Φ 4 [(0, .ref a0), (1, .int a1), (2, .int a2), (3, .int a3)] [] h nx 0 0 := by
  intro n
  induction n with
  | zero => intro a2 a3 e he; cases (show none = some e from he)
  | succ n ih =>
    intro a2 a3 e he hx0
    obtain ⟨o, ho, h1, h2⟩ := q_lp_succ he
    exact B_X10_whereHeard_4 l b D z (show b_X10_whereHeard_4 h a0 a1 a2 a3 = some o from ho) (fun b2 b3 hb => ih _ _ e (h1 _ hb) hx0) (fun p0 hr => hx0 p0 (h2 _ hr).symm)
set_option maxRecDepth 100000 in
set_option maxHeartbeats 4000000 in
theorem M_X10_whereHeard (l : Launch) (b : Nat) (D : va_G) (z : Nat → Nat) (nx : Nat) {h : qH} {a0 : Nat} {a1 : Int32} {r : Int32} (hF : F_X10_whereHeard h a0 a1 = some r) : Me l b D z yX10_whereHeard cX10_whereHeard 4 (some .int) rm_X10_whereHeard [.ref a0, .int a1] h nx (qE (some (.int r)) h nx) := by
  refine Me.of (by decide +kernel) (Nat.le_of_ble_eq_true rfl) ?_
  show Go l b D z yX10_whereHeard cX10_whereHeard 4 (some .int) rm_X10_whereHeard (qE (some (.int r)) h nx) 0 [(0, .ref a0), (1, .int a1)] [] h nx 0 0
  unfold F_X10_whereHeard at hF
  refine g_iconst dX10_whereHeard_0 lt_iconst_0 ?_
  refine g_istore_n [(2, .int (0 : Int32)), (0, .ref a0), (1, .int a1)] dX10_whereHeard_1 (Nat.le_of_ble_eq_true rfl) rfl ?_
  refine g_iconst dX10_whereHeard_2 lt_iconst_0 ?_
  refine g_istore_n [(3, .int (0 : Int32)), (2, .int (0 : Int32)), (0, .ref a0), (1, .int a1)] dX10_whereHeard_3 (Nat.le_of_ble_eq_true rfl) rfl ?_
  obtain ⟨e1, w2, hF⟩ := q_bind hF
  refine g_sub [2, 3, 1, 0] rfl ?_
  refine L_X10_whereHeard_4 l b D z q_N (0 : Int32) (0 : Int32) e1 w2 ?_
  · intro o3 w4
    replace w4 := w4.symm
    subst w4
    refine g_iload_n 0 dX10_whereHeard_46 rfl ?_
    cases hF
    exact g_iret dX10_whereHeard_47 rfl ⟨rfl, rfl, rfl⟩ (Nat.le_of_ble_eq_true rfl) (Nat.le_of_ble_eq_true rfl)
def rm_X10_othersHeardIn : Room := { frames := 3, cells := 0, slots := 0, locals := 68 }
set_option maxRecDepth 100000 in
set_option maxHeartbeats 4000000 in
theorem B_X10_othersHeardIn_4 (l : Launch) (b : Nat) (D : va_G) (z : Nat → Nat) {Φ : Option Value → qH → Nat → Prop} {nx : Nat} {h : qH} {a0 : Nat} {a1 : Int32} {a2 : Int32} {a3 : Int32} {o : (Int32 × Int32) ⊕ Int32} (hF : b_X10_othersHeardIn_4 h a0 a1 a2 a3 = some o) (hback : ∀ (b2 : Int32) (b3 : Int32), o = .inl (b2, b3) → Go l b D z yX10_othersHeardIn cX10_othersHeardIn 4 (some .int) rm_X10_othersHeardIn Φ 4 [(0, .ref a0), (1, .int a1), (2, .int b2), (3, .int b3)] [] h nx 0 0) (hx0 : ∀ (b2 : Int32), o = .inr b2 → Go l b D z yX10_othersHeardIn cX10_othersHeardIn 4 (some .int) rm_X10_othersHeardIn Φ 39 [(2, .int b2)] [] h nx 0 0) : Go l b D z yX10_othersHeardIn cX10_othersHeardIn 4 (some .int) rm_X10_othersHeardIn Φ 4 [(0, .ref a0), (1, .int a1), (2, .int a2), (3, .int a3)] [] h nx 0 0 := by
  unfold b_X10_othersHeardIn_4 at hF
  refine g_iload_n 3 dX10_othersHeardIn_4 rfl ?_
  refine g_aload_n 0 dX10_othersHeardIn_5 rfl ?_
  obtain ⟨x1, e2, hF⟩ := q_bind hF
  refine g_getfI fl_X10_24 e2 dX10_othersHeardIn_6 ?_
  refine g_icmp_ge 39 dX10_othersHeardIn_9 (by decide) (fun c3 => ?_) (fun c3 => ?_)
  · replace hF := q_t c3 hF
    cases hF
    refine g_sub [2] rfl ?_
    exact hx0 _ rfl
  · replace hF := q_f c3 hF
    refine g_iload_n 3 dX10_othersHeardIn_12 rfl ?_
    refine g_iload_n 1 dX10_othersHeardIn_13 rfl ?_
    refine g_icmp_eq 33 dX10_othersHeardIn_14 (by decide) (fun c4 => ?_) (fun c4 => ?_)
    · replace hF := q_t c4 hF
      refine g_iinc [(3, .int (a3 + 1)), (0, .ref a0), (1, .int a1), (2, .int a2)] 3 dX10_othersHeardIn_33 rfl (congrArg (a3 + ·) lt_iconst_1) (Nat.le_of_ble_eq_true rfl) rfl ?_
      refine g_goto 4 dX10_othersHeardIn_36 (by decide) ?_
      cases hF
      refine g_sub [1, 2, 3, 0] rfl ?_
      exact hback _ _ rfl
    · replace hF := q_f c4 hF
      refine g_aload_n 0 dX10_othersHeardIn_17 rfl ?_
      refine g_iload_n 3 dX10_othersHeardIn_18 rfl ?_
      obtain ⟨u5, e6, hF⟩ := q_bind hF
      obtain ⟨x7, e8, hF⟩ := q_bind hF
      refine g_callVr0 (ci := 10) (q := (RX10, TX10, 5)) qm_X10_whereHeard wd_1246 wd_1248 wd_60 rfl e6 (M_X10_whereHeard l b D z nx e8) (As := [.int a3]) rfl rfl (Nat.le_of_ble_eq_true rfl) ⟨(Nat.le_of_ble_eq_true rfl), (Nat.le_of_ble_eq_true rfl)⟩ ⟨rfl, rfl⟩ ⟨(Nat.le_of_ble_eq_true rfl), (Nat.le_of_ble_eq_true rfl)⟩ dX10_othersHeardIn_19 ?_
      refine g_iload_n 1 dX10_othersHeardIn_22 rfl ?_
      refine g_ishr dX10_othersHeardIn_23 ?_
      refine g_iconst dX10_othersHeardIn_24 lt_iconst_1 ?_
      refine g_iand dX10_othersHeardIn_25 ?_
      refine g_iconst dX10_othersHeardIn_26 lt_iconst_1 ?_
      refine g_icmp_ne 33 dX10_othersHeardIn_27 (by decide) (fun c9 => ?_) (fun c9 => ?_)
      · replace hF := q_f c9 hF
        refine g_iinc [(3, .int (a3 + 1)), (0, .ref a0), (1, .int a1), (2, .int a2)] 3 dX10_othersHeardIn_33 rfl (congrArg (a3 + ·) lt_iconst_1) (Nat.le_of_ble_eq_true rfl) rfl ?_
        refine g_goto 4 dX10_othersHeardIn_36 (by decide) ?_
        cases hF
        refine g_sub [1, 2, 3, 0] rfl ?_
        exact hback _ _ rfl
      · replace hF := q_t c9 hF
        refine g_iinc [(2, .int (a2 + 1)), (0, .ref a0), (1, .int a1), (3, .int a3)] 2 dX10_othersHeardIn_30 rfl (congrArg (a2 + ·) lt_iconst_1) (Nat.le_of_ble_eq_true rfl) rfl ?_
        refine g_iinc [(3, .int (a3 + 1)), (2, .int (a2 + 1)), (0, .ref a0), (1, .int a1)] 3 dX10_othersHeardIn_33 rfl (congrArg (a3 + ·) lt_iconst_1) (Nat.le_of_ble_eq_true rfl) rfl ?_
        refine g_goto 4 dX10_othersHeardIn_36 (by decide) ?_
        cases hF
        refine g_sub [2, 3, 1, 0] rfl ?_
        exact hback _ _ rfl
set_option maxRecDepth 100000 in
set_option maxHeartbeats 4000000 in
theorem L_X10_othersHeardIn_4 (l : Launch) (b : Nat) (D : va_G) (z : Nat → Nat) {Φ : Option Value → qH → Nat → Prop} {nx : Nat} {h : qH} {a0 : Nat} {a1 : Int32} : ∀ (n : Nat) (a2 : Int32) (a3 : Int32) (e : Int32), q_lp (s_X10_othersHeardIn_4 h a0 a1) n (a2, a3) = some e → (∀ (b2 : Int32), e = b2 → Go l b D z yX10_othersHeardIn cX10_othersHeardIn 4 (some .int) rm_X10_othersHeardIn Φ 39 [(2, .int b2)] [] h nx 0 0) → Go l b D z yX10_othersHeardIn cX10_othersHeardIn 4 (some .int) rm_X10_othersHeardIn Φ 4 [(0, .ref a0), (1, .int a1), (2, .int a2), (3, .int a3)] [] h nx 0 0 := by
  intro n
  induction n with
  | zero => intro a2 a3 e he; cases (show none = some e from he)
  | succ n ih =>
    intro a2 a3 e he hx0
    obtain ⟨o, ho, h1, h2⟩ := q_lp_succ he
    exact B_X10_othersHeardIn_4 l b D z (show b_X10_othersHeardIn_4 h a0 a1 a2 a3 = some o from ho) (fun b2 b3 hb => ih _ _ e (h1 _ hb) hx0) (fun p0 hr => hx0 p0 (h2 _ hr).symm)
set_option maxRecDepth 100000 in
set_option maxHeartbeats 4000000 in
theorem M_X10_othersHeardIn (l : Launch) (b : Nat) (D : va_G) (z : Nat → Nat) (nx : Nat) {h : qH} {a0 : Nat} {a1 : Int32} {r : Int32} (hF : F_X10_othersHeardIn h a0 a1 = some r) : Me l b D z yX10_othersHeardIn cX10_othersHeardIn 4 (some .int) rm_X10_othersHeardIn [.ref a0, .int a1] h nx (qE (some (.int r)) h nx) := by
  refine Me.of (by decide +kernel) (Nat.le_of_ble_eq_true rfl) ?_
  show Go l b D z yX10_othersHeardIn cX10_othersHeardIn 4 (some .int) rm_X10_othersHeardIn (qE (some (.int r)) h nx) 0 [(0, .ref a0), (1, .int a1)] [] h nx 0 0
  unfold F_X10_othersHeardIn at hF
  refine g_iconst dX10_othersHeardIn_0 lt_iconst_0 ?_
  refine g_istore_n [(2, .int (0 : Int32)), (0, .ref a0), (1, .int a1)] dX10_othersHeardIn_1 (Nat.le_of_ble_eq_true rfl) rfl ?_
  refine g_iconst dX10_othersHeardIn_2 lt_iconst_0 ?_
  refine g_istore_n [(3, .int (0 : Int32)), (2, .int (0 : Int32)), (0, .ref a0), (1, .int a1)] dX10_othersHeardIn_3 (Nat.le_of_ble_eq_true rfl) rfl ?_
  obtain ⟨e1, w2, hF⟩ := q_bind hF
  refine g_sub [2, 3, 1, 0] rfl ?_
  refine L_X10_othersHeardIn_4 l b D z q_N (0 : Int32) (0 : Int32) e1 w2 ?_
  · intro o3 w4
    replace w4 := w4.symm
    subst w4
    refine g_iload_n 0 dX10_othersHeardIn_39 rfl ?_
    cases hF
    exact g_iret dX10_othersHeardIn_40 rfl ⟨rfl, rfl, rfl⟩ (Nat.le_of_ble_eq_true rfl) (Nat.le_of_ble_eq_true rfl)
def rm_X10_bestToListen : Room := { frames := 4, cells := 0, slots := 0, locals := 91 }
set_option maxRecDepth 100000 in
set_option maxHeartbeats 4000000 in
theorem B_X10_bestToListen_10 (l : Launch) (b : Nat) (D : va_G) (z : Nat → Nat) {Φ : Option Value → qH → Nat → Prop} {nx : Nat} {h : qH} {a0 : Nat} {a1 : Int32} {a2 : Int32} {a3 : Int32} {o : (Int32 × Int32 × Int32) ⊕ Int32} (hF : b_X10_bestToListen_10 h a0 a1 a2 a3 = some o) (hback : ∀ (b1 : Int32) (b2 : Int32) (b3 : Int32), o = .inl (b1, b2, b3) → Go l b D z yX10_bestToListen cX10_bestToListen 5 (some .int) rm_X10_bestToListen Φ 10 [(0, .ref a0), (1, .int b1), (2, .int b2), (3, .int b3)] [] h nx 0 0) (hx0 : ∀ (b1 : Int32), o = .inr b1 → Go l b D z yX10_bestToListen cX10_bestToListen 5 (some .int) rm_X10_bestToListen Φ 42 [(1, .int b1)] [] h nx 0 0) : Go l b D z yX10_bestToListen cX10_bestToListen 5 (some .int) rm_X10_bestToListen Φ 10 [(0, .ref a0), (1, .int a1), (2, .int a2), (3, .int a3)] [] h nx 0 0 := by
  unfold b_X10_bestToListen_10 at hF
  refine g_iload_n 3 dX10_bestToListen_10 rfl ?_
  refine g_aload_n 0 dX10_bestToListen_11 rfl ?_
  obtain ⟨x1, e2, hF⟩ := q_bind hF
  refine g_getfI fl_X10_24 e2 dX10_bestToListen_12 ?_
  refine g_icmp_ge 42 dX10_bestToListen_15 (by decide) (fun c3 => ?_) (fun c3 => ?_)
  · replace hF := q_t c3 hF
    cases hF
    refine g_sub [1] rfl ?_
    exact hx0 _ rfl
  · replace hF := q_f c3 hF
    refine g_aload_n 0 dX10_bestToListen_18 rfl ?_
    refine g_iload_n 3 dX10_bestToListen_19 rfl ?_
    obtain ⟨u4, e5, hF⟩ := q_bind hF
    obtain ⟨x6, e7, hF⟩ := q_bind hF
    refine g_callVr0 (ci := 10) (q := (RX10, TX10, 5)) qm_X10_othersHeardIn wd_1242 wd_1244 wd_59 rfl e5 (M_X10_othersHeardIn l b D z nx e7) (As := [.int a3]) rfl rfl (Nat.le_of_ble_eq_true rfl) ⟨(Nat.le_of_ble_eq_true rfl), (Nat.le_of_ble_eq_true rfl)⟩ ⟨rfl, rfl⟩ ⟨(Nat.le_of_ble_eq_true rfl), (Nat.le_of_ble_eq_true rfl)⟩ dX10_bestToListen_20 ?_
    refine g_istore [(4, .int x6), (0, .ref a0), (1, .int a1), (2, .int a2), (3, .int a3)] dX10_bestToListen_23 (Nat.le_of_ble_eq_true rfl) rfl ?_
    refine g_iload 0 dX10_bestToListen_25 rfl ?_
    refine g_iload_n 3 dX10_bestToListen_27 rfl ?_
    refine g_icmp_le 36 dX10_bestToListen_28 (by decide) (fun c8 => ?_) (fun c8 => ?_)
    · replace hF := q_t c8 hF
      refine g_iinc [(3, .int (a3 + 1)), (4, .int x6), (0, .ref a0), (1, .int a1), (2, .int a2)] 4 dX10_bestToListen_36 rfl (congrArg (a3 + ·) lt_iconst_1) (Nat.le_of_ble_eq_true rfl) rfl ?_
      refine g_goto 10 dX10_bestToListen_39 (by decide) ?_
      cases hF
      refine g_sub [2, 3, 4, 0] rfl ?_
      exact hback _ _ _ rfl
    · replace hF := q_f c8 hF
      refine g_iload 0 dX10_bestToListen_31 rfl ?_
      refine g_istore_n [(2, .int x6), (4, .int x6), (0, .ref a0), (1, .int a1), (3, .int a3)] dX10_bestToListen_33 (Nat.le_of_ble_eq_true rfl) rfl ?_
      refine g_iload_n 4 dX10_bestToListen_34 rfl ?_
      refine g_istore_n [(1, .int a3), (2, .int x6), (4, .int x6), (0, .ref a0), (3, .int a3)] dX10_bestToListen_35 (Nat.le_of_ble_eq_true rfl) rfl ?_
      refine g_iinc [(3, .int (a3 + 1)), (1, .int a3), (2, .int x6), (4, .int x6), (0, .ref a0)] 4 dX10_bestToListen_36 rfl (congrArg (a3 + ·) lt_iconst_1) (Nat.le_of_ble_eq_true rfl) rfl ?_
      refine g_goto 10 dX10_bestToListen_39 (by decide) ?_
      cases hF
      refine g_sub [4, 1, 2, 0] rfl ?_
      exact hback _ _ _ rfl
set_option maxRecDepth 100000 in
set_option maxHeartbeats 4000000 in
theorem L_X10_bestToListen_10 (l : Launch) (b : Nat) (D : va_G) (z : Nat → Nat) {Φ : Option Value → qH → Nat → Prop} {nx : Nat} {h : qH} {a0 : Nat} : ∀ (n : Nat) (a1 : Int32) (a2 : Int32) (a3 : Int32) (e : Int32), q_lp (s_X10_bestToListen_10 h a0) n (a1, a2, a3) = some e → (∀ (b1 : Int32), e = b1 → Go l b D z yX10_bestToListen cX10_bestToListen 5 (some .int) rm_X10_bestToListen Φ 42 [(1, .int b1)] [] h nx 0 0) → Go l b D z yX10_bestToListen cX10_bestToListen 5 (some .int) rm_X10_bestToListen Φ 10 [(0, .ref a0), (1, .int a1), (2, .int a2), (3, .int a3)] [] h nx 0 0 := by
  intro n
  induction n with
  | zero => intro a1 a2 a3 e he; cases (show none = some e from he)
  | succ n ih =>
    intro a1 a2 a3 e he hx0
    obtain ⟨o, ho, h1, h2⟩ := q_lp_succ he
    exact B_X10_bestToListen_10 l b D z (show b_X10_bestToListen_10 h a0 a1 a2 a3 = some o from ho) (fun b1 b2 b3 hb => ih _ _ _ e (h1 _ hb) hx0) (fun p0 hr => hx0 p0 (h2 _ hr).symm)
set_option maxRecDepth 100000 in
set_option maxHeartbeats 4000000 in
theorem M_X10_bestToListen (l : Launch) (b : Nat) (D : va_G) (z : Nat → Nat) (nx : Nat) {h : qH} {a0 : Nat} {r : Int32} (hF : F_X10_bestToListen h a0 = some r) : Me l b D z yX10_bestToListen cX10_bestToListen 5 (some .int) rm_X10_bestToListen [.ref a0] h nx (qE (some (.int r)) h nx) := by
  refine Me.of (by decide +kernel) (Nat.le_of_ble_eq_true rfl) ?_
  show Go l b D z yX10_bestToListen cX10_bestToListen 5 (some .int) rm_X10_bestToListen (qE (some (.int r)) h nx) 0 [(0, .ref a0)] [] h nx 0 0
  unfold F_X10_bestToListen at hF
  refine g_iconst dX10_bestToListen_0 lt_iconst_0 ?_
  refine g_istore_n [(1, .int (0 : Int32)), (0, .ref a0)] dX10_bestToListen_1 (Nat.le_of_ble_eq_true rfl) rfl ?_
  refine g_aload_n 1 dX10_bestToListen_2 rfl ?_
  refine g_iconst dX10_bestToListen_3 lt_iconst_0 ?_
  obtain ⟨u1, e2, hF⟩ := q_bind hF
  obtain ⟨x3, e4, hF⟩ := q_bind hF
  refine g_callVr0 (ci := 10) (q := (RX10, TX10, 5)) qm_X10_othersHeardIn wd_1242 wd_1244 wd_59 rfl e2 (M_X10_othersHeardIn l b D z nx e4) (As := [.int (0 : Int32)]) rfl rfl (Nat.le_of_ble_eq_true rfl) ⟨(Nat.le_of_ble_eq_true rfl), (Nat.le_of_ble_eq_true rfl)⟩ ⟨rfl, rfl⟩ ⟨(Nat.le_of_ble_eq_true rfl), (Nat.le_of_ble_eq_true rfl)⟩ dX10_bestToListen_4 ?_
  refine g_istore_n [(2, .int x3), (1, .int (0 : Int32)), (0, .ref a0)] dX10_bestToListen_7 (Nat.le_of_ble_eq_true rfl) rfl ?_
  refine g_iconst dX10_bestToListen_8 lt_iconst_1 ?_
  refine g_istore_n [(3, .int (1 : Int32)), (2, .int x3), (1, .int (0 : Int32)), (0, .ref a0)] dX10_bestToListen_9 (Nat.le_of_ble_eq_true rfl) rfl ?_
  obtain ⟨e5, w6, hF⟩ := q_bind hF
  refine g_sub [3, 2, 1, 0] rfl ?_
  refine L_X10_bestToListen_10 l b D z q_N (0 : Int32) x3 (1 : Int32) e5 w6 ?_
  · intro o7 w8
    replace w8 := w8.symm
    subst w8
    refine g_iload_n 0 dX10_bestToListen_42 rfl ?_
    cases hF
    exact g_iret dX10_bestToListen_43 rfl ⟨rfl, rfl, rfl⟩ (Nat.le_of_ble_eq_true rfl) (Nat.le_of_ble_eq_true rfl)
def rm_X10_allHeardBy : Room := { frames := 0, cells := 0, slots := 0, locals := 0 }
set_option maxRecDepth 100000 in
set_option maxHeartbeats 4000000 in
theorem J_X10_allHeardBy_30 (l : Launch) (b : Nat) (D : va_G) (z : Nat → Nat) {Φ : Option Value → qH → Nat → Prop} {nx : Nat} {h : qH} {a0 : Nat} {a1 : Int32} {a2 : Int32} {t0 : Int32} {o : Int32 ⊕ (Unit ⊕ Unit)} (hF : j_X10_allHeardBy_30 h a0 a1 a2 t0 = some o) (hback : ∀ (b2 : Int32), o = .inl b2 → Go l b D z yX10_allHeardBy cX10_allHeardBy 4 (some .boolean) rm_X10_allHeardBy Φ 2 [(0, .ref a0), (1, .int a1), (2, .int b2)] [] h nx 0 0) (hx0 : o = .inr (.inl ()) → Go l b D z yX10_allHeardBy cX10_allHeardBy 4 (some .boolean) rm_X10_allHeardBy Φ 55 [] [] h nx 0 0) (hx1 : o = .inr (.inr ()) → Go l b D z yX10_allHeardBy cX10_allHeardBy 4 (some .boolean) rm_X10_allHeardBy Φ 63 [] [] h nx 0 0) : Go l b D z yX10_allHeardBy cX10_allHeardBy 4 (some .boolean) rm_X10_allHeardBy Φ 30 [(0, .ref a0), (1, .int a1), (2, .int a2)] [.int t0] h nx 0 0 := by
  unfold j_X10_allHeardBy_30 at hF
  refine g_istore_n [(3, .int t0), (0, .ref a0), (1, .int a1), (2, .int a2)] dX10_allHeardBy_30 (Nat.le_of_ble_eq_true rfl) rfl ?_
  refine g_iload_n 0 dX10_allHeardBy_31 rfl ?_
  refine g_if_ne 57 dX10_allHeardBy_32 (by decide) (fun c1 => ?_) (fun c1 => ?_)
  · replace hF := q_f c1 hF
    refine g_iinc [(2, .int (a2 + 1)), (3, .int t0), (0, .ref a0), (1, .int a1)] 3 dX10_allHeardBy_57 rfl (congrArg (a2 + ·) lt_iconst_1) (Nat.le_of_ble_eq_true rfl) rfl ?_
    refine g_goto 2 dX10_allHeardBy_60 (by decide) ?_
    cases hF
    refine g_sub [2, 3, 0] rfl ?_
    exact hback _ rfl
  · replace hF := q_t c1 hF
    refine g_aload_n 1 dX10_allHeardBy_35 rfl ?_
    obtain ⟨x2, e3, hF⟩ := q_bind hF
    refine g_getfR fl_X10_18 e3 dX10_allHeardBy_36 ?_
    refine g_iload_n 3 dX10_allHeardBy_39 rfl ?_
    obtain ⟨x4, e5, hF⟩ := q_bind hF
    refine g_iald e5 dX10_allHeardBy_40 ?_
    refine g_if_eq 57 dX10_allHeardBy_41 (by decide) (fun c6 => ?_) (fun c6 => ?_)
    · replace hF := q_t c6 hF
      refine g_iinc [(2, .int (a2 + 1)), (3, .int t0), (0, .ref a0), (1, .int a1)] 3 dX10_allHeardBy_57 rfl (congrArg (a2 + ·) lt_iconst_1) (Nat.le_of_ble_eq_true rfl) rfl ?_
      refine g_goto 2 dX10_allHeardBy_60 (by decide) ?_
      cases hF
      refine g_sub [2, 3, 0] rfl ?_
      exact hback _ rfl
    · replace hF := q_f c6 hF
      refine g_aload_n 1 dX10_allHeardBy_44 rfl ?_
      obtain ⟨x7, e8, hF⟩ := q_bind hF
      refine g_getfR fl_X10_21 e8 dX10_allHeardBy_45 ?_
      refine g_iload_n 3 dX10_allHeardBy_48 rfl ?_
      obtain ⟨x9, e10, hF⟩ := q_bind hF
      refine g_iald e10 dX10_allHeardBy_49 ?_
      refine g_iload_n 2 dX10_allHeardBy_50 rfl ?_
      refine g_iand dX10_allHeardBy_51 ?_
      refine g_if_ne 57 dX10_allHeardBy_52 (by decide) (fun c11 => ?_) (fun c11 => ?_)
      · replace hF := q_f c11 hF
        refine g_iinc [(2, .int (a2 + 1)), (3, .int t0), (0, .ref a0), (1, .int a1)] 3 dX10_allHeardBy_57 rfl (congrArg (a2 + ·) lt_iconst_1) (Nat.le_of_ble_eq_true rfl) rfl ?_
        refine g_goto 2 dX10_allHeardBy_60 (by decide) ?_
        cases hF
        refine g_sub [2, 3, 0] rfl ?_
        exact hback _ rfl
      · replace hF := q_t c11 hF
        cases hF
        refine g_sub [] rfl ?_
        exact hx0  rfl
set_option maxRecDepth 100000 in
set_option maxHeartbeats 4000000 in
theorem B_X10_allHeardBy_2 (l : Launch) (b : Nat) (D : va_G) (z : Nat → Nat) {Φ : Option Value → qH → Nat → Prop} {nx : Nat} {h : qH} {a0 : Nat} {a1 : Int32} {a2 : Int32} {o : Int32 ⊕ (Unit ⊕ Unit)} (hF : b_X10_allHeardBy_2 h a0 a1 a2 = some o) (hback : ∀ (b2 : Int32), o = .inl b2 → Go l b D z yX10_allHeardBy cX10_allHeardBy 4 (some .boolean) rm_X10_allHeardBy Φ 2 [(0, .ref a0), (1, .int a1), (2, .int b2)] [] h nx 0 0) (hx0 : o = .inr (.inl ()) → Go l b D z yX10_allHeardBy cX10_allHeardBy 4 (some .boolean) rm_X10_allHeardBy Φ 55 [] [] h nx 0 0) (hx1 : o = .inr (.inr ()) → Go l b D z yX10_allHeardBy cX10_allHeardBy 4 (some .boolean) rm_X10_allHeardBy Φ 63 [] [] h nx 0 0) : Go l b D z yX10_allHeardBy cX10_allHeardBy 4 (some .boolean) rm_X10_allHeardBy Φ 2 [(0, .ref a0), (1, .int a1), (2, .int a2)] [] h nx 0 0 := by
  unfold b_X10_allHeardBy_2 at hF
  refine g_iload_n 2 dX10_allHeardBy_2 rfl ?_
  refine g_aload_n 0 dX10_allHeardBy_3 rfl ?_
  obtain ⟨x1, e2, hF⟩ := q_bind hF
  refine g_getfI fl_X10_24 e2 dX10_allHeardBy_4 ?_
  refine g_icmp_ge 63 dX10_allHeardBy_7 (by decide) (fun c3 => ?_) (fun c3 => ?_)
  · replace hF := q_t c3 hF
    cases hF
    refine g_sub [] rfl ?_
    exact hx1  rfl
  · replace hF := q_f c3 hF
    refine g_iload_n 2 dX10_allHeardBy_10 rfl ?_
    refine g_bipush dX10_allHeardBy_11 lt_bipush_9 ?_
    refine g_icmp_ge 63 dX10_allHeardBy_13 (by decide) (fun c4 => ?_) (fun c4 => ?_)
    · replace hF := q_t c4 hF
      cases hF
      refine g_sub [] rfl ?_
      exact hx1  rfl
    · replace hF := q_f c4 hF
      refine g_iload_n 1 dX10_allHeardBy_16 rfl ?_
      refine g_iload_n 2 dX10_allHeardBy_17 rfl ?_
      refine g_ishr dX10_allHeardBy_18 ?_
      refine g_iconst dX10_allHeardBy_19 lt_iconst_1 ?_
      refine g_iand dX10_allHeardBy_20 ?_
      refine g_iconst dX10_allHeardBy_21 lt_iconst_1 ?_
      refine g_icmp_ne 29 dX10_allHeardBy_22 (by decide) (fun c5 => ?_) (fun c5 => ?_)
      · replace hF := q_f c5 hF
        refine g_iconst dX10_allHeardBy_29 lt_iconst_0 ?_
        exact J_X10_allHeardBy_30 l b D z hF hback hx0 hx1
      · replace hF := q_t c5 hF
        refine g_iconst dX10_allHeardBy_25 lt_iconst_1 ?_
        refine g_goto 30 dX10_allHeardBy_26 (by decide) ?_
        exact J_X10_allHeardBy_30 l b D z hF hback hx0 hx1
set_option maxRecDepth 100000 in
set_option maxHeartbeats 4000000 in
theorem L_X10_allHeardBy_2 (l : Launch) (b : Nat) (D : va_G) (z : Nat → Nat) {Φ : Option Value → qH → Nat → Prop} {nx : Nat} {h : qH} {a0 : Nat} {a1 : Int32} : ∀ (n : Nat) (a2 : Int32) (e : Unit ⊕ Unit), q_lp (s_X10_allHeardBy_2 h a0 a1) n a2 = some e → (e = (.inl ()) → Go l b D z yX10_allHeardBy cX10_allHeardBy 4 (some .boolean) rm_X10_allHeardBy Φ 55 [] [] h nx 0 0) → (e = (.inr ()) → Go l b D z yX10_allHeardBy cX10_allHeardBy 4 (some .boolean) rm_X10_allHeardBy Φ 63 [] [] h nx 0 0) → Go l b D z yX10_allHeardBy cX10_allHeardBy 4 (some .boolean) rm_X10_allHeardBy Φ 2 [(0, .ref a0), (1, .int a1), (2, .int a2)] [] h nx 0 0 := by
  intro n
  induction n with
  | zero => intro a2 e he; cases (show none = some e from he)
  | succ n ih =>
    intro a2 e he hx0 hx1
    obtain ⟨o, ho, h1, h2⟩ := q_lp_succ he
    exact B_X10_allHeardBy_2 l b D z (show b_X10_allHeardBy_2 h a0 a1 a2 = some o from ho) (fun b2 hb => ih _ e (h1 _ hb) hx0 hx1) (fun  hr => hx0  (h2 _ hr).symm) (fun  hr => hx1  (h2 _ hr).symm)
set_option maxRecDepth 100000 in
set_option maxHeartbeats 4000000 in
theorem M_X10_allHeardBy (l : Launch) (b : Nat) (D : va_G) (z : Nat → Nat) (nx : Nat) {h : qH} {a0 : Nat} {a1 : Int32} {r : Int32} (hF : F_X10_allHeardBy h a0 a1 = some r) : Me l b D z yX10_allHeardBy cX10_allHeardBy 4 (some .boolean) rm_X10_allHeardBy [.ref a0, .int a1] h nx (qE (some (.int r)) h nx) := by
  refine Me.of (by decide +kernel) (Nat.le_of_ble_eq_true rfl) ?_
  show Go l b D z yX10_allHeardBy cX10_allHeardBy 4 (some .boolean) rm_X10_allHeardBy (qE (some (.int r)) h nx) 0 [(0, .ref a0), (1, .int a1)] [] h nx 0 0
  unfold F_X10_allHeardBy at hF
  refine g_iconst dX10_allHeardBy_0 lt_iconst_0 ?_
  refine g_istore_n [(2, .int (0 : Int32)), (0, .ref a0), (1, .int a1)] dX10_allHeardBy_1 (Nat.le_of_ble_eq_true rfl) rfl ?_
  obtain ⟨e1, w2, hF⟩ := q_bind hF
  refine g_sub [1, 2, 0] rfl ?_
  refine L_X10_allHeardBy_2 l b D z q_N (0 : Int32) e1 w2 ?_ ?_
  · intro  w3
    replace w3 := w3.symm
    subst w3
    replace hF := q_sl hF
    refine g_iconst dX10_allHeardBy_55 lt_iconst_0 ?_
    cases hF
    exact g_zret dX10_allHeardBy_56 rfl zn_0 ⟨rfl, rfl, rfl⟩ (Nat.le_of_ble_eq_true rfl) (Nat.le_of_ble_eq_true rfl)
  · intro  w5
    replace w5 := w5.symm
    subst w5
    replace hF := q_sr hF
    refine g_iconst dX10_allHeardBy_63 lt_iconst_1 ?_
    cases hF
    exact g_zret dX10_allHeardBy_64 rfl zn_1 ⟨rfl, rfl, rfl⟩ (Nat.le_of_ble_eq_true rfl) (Nat.le_of_ble_eq_true rfl)
def rm_X10_fewestGuards : Room := { frames := 3, cells := 0, slots := 0, locals := 68 }
set_option maxRecDepth 100000 in
set_option maxHeartbeats 4000000 in
theorem B_X10_fewestGuards_2 (l : Launch) (b : Nat) (D : va_G) (z : Nat → Nat) {Φ : Option Value → qH → Nat → Prop} {nx : Nat} {a0 : Nat} {a1 : Int32} {h : qH} {o : (Int32 × qH) ⊕ qH} (hF : b_X10_fewestGuards_2 a0 a1 h = some o) (hback : ∀ (b1 : Int32) (bh : qH), o = .inl (b1, bh) → Go l b D z yX10_fewestGuards cX10_fewestGuards 4 (some .int) rm_X10_fewestGuards Φ 2 [(0, .ref a0), (1, .int b1)] [] bh nx 0 0) (hx0 : ∀  (bh : qH), o = .inr bh → Go l b D z yX10_fewestGuards cX10_fewestGuards 4 (some .int) rm_X10_fewestGuards Φ 33 [(0, .ref a0)] [] bh nx 0 0) : Go l b D z yX10_fewestGuards cX10_fewestGuards 4 (some .int) rm_X10_fewestGuards Φ 2 [(0, .ref a0), (1, .int a1)] [] h nx 0 0 := by
  unfold b_X10_fewestGuards_2 at hF
  refine g_iload_n 1 dX10_fewestGuards_2 rfl ?_
  refine g_aload_n 0 dX10_fewestGuards_3 rfl ?_
  obtain ⟨x1, e2, hF⟩ := q_bind hF
  refine g_getfI fl_X10_24 e2 dX10_fewestGuards_4 ?_
  refine g_icmp_ge 33 dX10_fewestGuards_7 (by decide) (fun c3 => ?_) (fun c3 => ?_)
  · replace hF := q_t c3 hF
    cases hF
    refine g_sub [0] rfl ?_
    exact hx0 _ rfl
  · replace hF := q_f c3 hF
    refine g_iload_n 1 dX10_fewestGuards_10 rfl ?_
    refine g_bipush dX10_fewestGuards_11 lt_bipush_9 ?_
    refine g_icmp_ge 33 dX10_fewestGuards_13 (by decide) (fun c4 => ?_) (fun c4 => ?_)
    · replace hF := q_t c4 hF
      cases hF
      refine g_sub [0] rfl ?_
      exact hx0 _ rfl
    · replace hF := q_f c4 hF
      refine g_aload_n 0 dX10_fewestGuards_16 rfl ?_
      obtain ⟨x5, e6, hF⟩ := q_bind hF
      refine g_getfR fl_X10_21 e6 dX10_fewestGuards_17 ?_
      refine g_iload_n 1 dX10_fewestGuards_20 rfl ?_
      refine g_aload_n 0 dX10_fewestGuards_21 rfl ?_
      refine g_iload_n 1 dX10_fewestGuards_22 rfl ?_
      obtain ⟨u7, e8, hF⟩ := q_bind hF
      obtain ⟨x9, e10, hF⟩ := q_bind hF
      refine g_callVr0 (ci := 10) (q := (RX10, TX10, 5)) qm_X10_whereHeard wd_1246 wd_1248 wd_60 rfl e8 (M_X10_whereHeard l b D z nx e10) (As := [.int a1]) rfl rfl (Nat.le_of_ble_eq_true rfl) ⟨(Nat.le_of_ble_eq_true rfl), (Nat.le_of_ble_eq_true rfl)⟩ ⟨rfl, rfl⟩ ⟨(Nat.le_of_ble_eq_true rfl), (Nat.le_of_ble_eq_true rfl)⟩ dX10_fewestGuards_23 ?_
      obtain ⟨h11, e12, hF⟩ := q_bind hF
      refine g_iast e12 dX10_fewestGuards_26 ?_
      refine g_iinc [(1, .int (a1 + 1)), (0, .ref a0)] 1 dX10_fewestGuards_27 rfl (congrArg (a1 + ·) lt_iconst_1) (Nat.le_of_ble_eq_true rfl) rfl ?_
      refine g_goto 2 dX10_fewestGuards_30 (by decide) ?_
      cases hF
      refine g_sub [1, 0] rfl ?_
      exact hback _ _ rfl
set_option maxRecDepth 100000 in
set_option maxHeartbeats 4000000 in
theorem L_X10_fewestGuards_2 (l : Launch) (b : Nat) (D : va_G) (z : Nat → Nat) {Φ : Option Value → qH → Nat → Prop} {nx : Nat} {a0 : Nat} : ∀ (n : Nat) (a1 : Int32) (h : qH) (e : qH), q_lp (s_X10_fewestGuards_2 a0) n (a1, h) = some e → (∀  (bh : qH), e = bh → Go l b D z yX10_fewestGuards cX10_fewestGuards 4 (some .int) rm_X10_fewestGuards Φ 33 [(0, .ref a0)] [] bh nx 0 0) → Go l b D z yX10_fewestGuards cX10_fewestGuards 4 (some .int) rm_X10_fewestGuards Φ 2 [(0, .ref a0), (1, .int a1)] [] h nx 0 0 := by
  intro n
  induction n with
  | zero => intro a1 h e he; cases (show none = some e from he)
  | succ n ih =>
    intro a1 h e he hx0
    obtain ⟨o, ho, h1, h2⟩ := q_lp_succ he
    exact B_X10_fewestGuards_2 l b D z (show b_X10_fewestGuards_2 a0 a1 h = some o from ho) (fun b1 bh hb => ih _ _ e (h1 _ hb) hx0) (fun p0 hr => hx0 p0 (h2 _ hr).symm)
set_option maxRecDepth 100000 in
set_option maxHeartbeats 4000000 in
theorem B_X10_fewestGuards_46 (l : Launch) (b : Nat) (D : va_G) (z : Nat → Nat) {Φ : Option Value → qH → Nat → Prop} {nx : Nat} {h : qH} {a0 : Nat} {a1 : Int32} {a2 : Int32} {a3 : Int32} {o : (Int32 × Int32) ⊕ Int32} (hF : b_X10_fewestGuards_46 h a0 a1 a2 a3 = some o) (hback : ∀ (b2 : Int32) (b3 : Int32), o = .inl (b2, b3) → Go l b D z yX10_fewestGuards cX10_fewestGuards 4 (some .int) rm_X10_fewestGuards Φ 46 [(0, .ref a0), (1, .int a1), (2, .int b2), (3, .int b3)] [] h nx 0 0) (hx0 : ∀ (b2 : Int32), o = .inr b2 → Go l b D z yX10_fewestGuards cX10_fewestGuards 4 (some .int) rm_X10_fewestGuards Φ 78 [(2, .int b2)] [] h nx 0 0) : Go l b D z yX10_fewestGuards cX10_fewestGuards 4 (some .int) rm_X10_fewestGuards Φ 46 [(0, .ref a0), (1, .int a1), (2, .int a2), (3, .int a3)] [] h nx 0 0 := by
  unfold b_X10_fewestGuards_46 at hF
  refine g_iload_n 3 dX10_fewestGuards_46 rfl ?_
  refine g_iload_n 1 dX10_fewestGuards_47 rfl ?_
  refine g_icmp_ge 78 dX10_fewestGuards_48 (by decide) (fun c1 => ?_) (fun c1 => ?_)
  · replace hF := q_t c1 hF
    cases hF
    refine g_sub [2] rfl ?_
    exact hx0 _ rfl
  · replace hF := q_f c1 hF
    refine g_iload_n 3 dX10_fewestGuards_51 rfl ?_
    obtain ⟨x2, e3, hF⟩ := q_bind hF
    refine g_callSr0 qm_J6_bitCount_0f7a4 wd_1268 wd_1269 (M_J6_bitCount_0f7a4 l b D z nx e3) (As := [.int a3]) rfl rfl (Nat.le_of_ble_eq_true rfl) ⟨(Nat.le_of_ble_eq_true rfl), (Nat.le_of_ble_eq_true rfl)⟩ ⟨rfl, rfl⟩ ⟨(Nat.le_of_ble_eq_true rfl), (Nat.le_of_ble_eq_true rfl)⟩ dX10_fewestGuards_52 ?_
    refine g_iload_n 2 dX10_fewestGuards_55 rfl ?_
    obtain ⟨x4, e5, hF⟩ := q_bind hF
    refine g_callSr0 qm_J6_bitCount_0f7a4 wd_1268 wd_1269 (M_J6_bitCount_0f7a4 l b D z nx e5) (As := [.int a2]) rfl rfl (Nat.le_of_ble_eq_true rfl) ⟨(Nat.le_of_ble_eq_true rfl), (Nat.le_of_ble_eq_true rfl)⟩ ⟨rfl, rfl⟩ ⟨(Nat.le_of_ble_eq_true rfl), (Nat.le_of_ble_eq_true rfl)⟩ dX10_fewestGuards_56 ?_
    refine g_icmp_ge 72 dX10_fewestGuards_59 (by decide) (fun c6 => ?_) (fun c6 => ?_)
    · replace hF := q_t c6 hF
      refine g_iinc [(3, .int (a3 + 1)), (0, .ref a0), (1, .int a1), (2, .int a2)] 3 dX10_fewestGuards_72 rfl (congrArg (a3 + ·) lt_iconst_1) (Nat.le_of_ble_eq_true rfl) rfl ?_
      refine g_goto 46 dX10_fewestGuards_75 (by decide) ?_
      cases hF
      refine g_sub [1, 2, 3, 0] rfl ?_
      exact hback _ _ rfl
    · replace hF := q_f c6 hF
      refine g_aload_n 0 dX10_fewestGuards_62 rfl ?_
      refine g_iload_n 3 dX10_fewestGuards_63 rfl ?_
      obtain ⟨u7, e8, hF⟩ := q_bind hF
      obtain ⟨x9, e10, hF⟩ := q_bind hF
      refine g_callVr0 (ci := 10) (q := (RX10, TX10, 5)) qm_X10_allHeardBy wd_1274 wd_1276 wd_65 rfl e8 (M_X10_allHeardBy l b D z nx e10) (As := [.int a3]) rfl rfl (Nat.le_of_ble_eq_true rfl) ⟨(Nat.le_of_ble_eq_true rfl), (Nat.le_of_ble_eq_true rfl)⟩ ⟨rfl, rfl⟩ ⟨(Nat.le_of_ble_eq_true rfl), (Nat.le_of_ble_eq_true rfl)⟩ dX10_fewestGuards_64 ?_
      refine g_if_eq 72 dX10_fewestGuards_67 (by decide) (fun c11 => ?_) (fun c11 => ?_)
      · replace hF := q_t c11 hF
        refine g_iinc [(3, .int (a3 + 1)), (0, .ref a0), (1, .int a1), (2, .int a2)] 3 dX10_fewestGuards_72 rfl (congrArg (a3 + ·) lt_iconst_1) (Nat.le_of_ble_eq_true rfl) rfl ?_
        refine g_goto 46 dX10_fewestGuards_75 (by decide) ?_
        cases hF
        refine g_sub [1, 2, 3, 0] rfl ?_
        exact hback _ _ rfl
      · replace hF := q_f c11 hF
        refine g_iload_n 3 dX10_fewestGuards_70 rfl ?_
        refine g_istore_n [(2, .int a3), (0, .ref a0), (1, .int a1), (3, .int a3)] dX10_fewestGuards_71 (Nat.le_of_ble_eq_true rfl) rfl ?_
        refine g_iinc [(3, .int (a3 + 1)), (2, .int a3), (0, .ref a0), (1, .int a1)] 3 dX10_fewestGuards_72 rfl (congrArg (a3 + ·) lt_iconst_1) (Nat.le_of_ble_eq_true rfl) rfl ?_
        refine g_goto 46 dX10_fewestGuards_75 (by decide) ?_
        cases hF
        refine g_sub [2, 3, 1, 0] rfl ?_
        exact hback _ _ rfl
set_option maxRecDepth 100000 in
set_option maxHeartbeats 4000000 in
theorem L_X10_fewestGuards_46 (l : Launch) (b : Nat) (D : va_G) (z : Nat → Nat) {Φ : Option Value → qH → Nat → Prop} {nx : Nat} {h : qH} {a0 : Nat} {a1 : Int32} : ∀ (n : Nat) (a2 : Int32) (a3 : Int32) (e : Int32), q_lp (s_X10_fewestGuards_46 h a0 a1) n (a2, a3) = some e → (∀ (b2 : Int32), e = b2 → Go l b D z yX10_fewestGuards cX10_fewestGuards 4 (some .int) rm_X10_fewestGuards Φ 78 [(2, .int b2)] [] h nx 0 0) → Go l b D z yX10_fewestGuards cX10_fewestGuards 4 (some .int) rm_X10_fewestGuards Φ 46 [(0, .ref a0), (1, .int a1), (2, .int a2), (3, .int a3)] [] h nx 0 0 := by
  intro n
  induction n with
  | zero => intro a2 a3 e he; cases (show none = some e from he)
  | succ n ih =>
    intro a2 a3 e he hx0
    obtain ⟨o, ho, h1, h2⟩ := q_lp_succ he
    exact B_X10_fewestGuards_46 l b D z (show b_X10_fewestGuards_46 h a0 a1 a2 a3 = some o from ho) (fun b2 b3 hb => ih _ _ e (h1 _ hb) hx0) (fun p0 hr => hx0 p0 (h2 _ hr).symm)
set_option maxRecDepth 100000 in
set_option maxHeartbeats 4000000 in
theorem J_X10_fewestGuards_33 (l : Launch) (b : Nat) (D : va_G) (z : Nat → Nat) {nx : Nat} {h : qH} {a0 : Nat} {r : Int32 × qH} (hF : j_X10_fewestGuards_33 h a0  = some r) : Go l b D z yX10_fewestGuards cX10_fewestGuards 4 (some .int) rm_X10_fewestGuards (qE (some (.int r.1)) r.2 nx) 33 [(0, .ref a0)] [] h nx 0 0 := by
  unfold j_X10_fewestGuards_33 at hF
  refine g_iconst dX10_fewestGuards_33 lt_iconst_1 ?_
  refine g_aload_n 0 dX10_fewestGuards_34 rfl ?_
  obtain ⟨x1, e2, hF⟩ := q_bind hF
  refine g_getfI fl_X10_24 e2 dX10_fewestGuards_35 ?_
  refine g_ishl dX10_fewestGuards_38 ?_
  refine g_iconst dX10_fewestGuards_39 lt_iconst_1 ?_
  refine g_isub dX10_fewestGuards_40 ?_
  refine g_istore_n [(1, .int ((q_shl (1 : Int32) x1) - (1 : Int32))), (0, .ref a0)] dX10_fewestGuards_41 (Nat.le_of_ble_eq_true rfl) rfl ?_
  refine g_iload_n 0 dX10_fewestGuards_42 rfl ?_
  refine g_istore_n [(2, .int ((q_shl (1 : Int32) x1) - (1 : Int32))), (1, .int ((q_shl (1 : Int32) x1) - (1 : Int32))), (0, .ref a0)] dX10_fewestGuards_43 (Nat.le_of_ble_eq_true rfl) rfl ?_
  refine g_iconst dX10_fewestGuards_44 lt_iconst_0 ?_
  refine g_istore_n [(3, .int (0 : Int32)), (2, .int ((q_shl (1 : Int32) x1) - (1 : Int32))), (1, .int ((q_shl (1 : Int32) x1) - (1 : Int32))), (0, .ref a0)] dX10_fewestGuards_45 (Nat.le_of_ble_eq_true rfl) rfl ?_
  obtain ⟨e3, w4, hF⟩ := q_bind hF
  refine g_sub [3, 2, 1, 0] rfl ?_
  refine L_X10_fewestGuards_46 l b D z q_N ((q_shl (1 : Int32) x1) - (1 : Int32)) (0 : Int32) e3 w4 ?_
  · intro o5 w6
    replace w6 := w6.symm
    subst w6
    refine g_iload_n 0 dX10_fewestGuards_78 rfl ?_
    cases hF
    exact g_iret dX10_fewestGuards_79 rfl ⟨rfl, rfl, rfl⟩ (Nat.le_of_ble_eq_true rfl) (Nat.le_of_ble_eq_true rfl)
set_option maxRecDepth 100000 in
set_option maxHeartbeats 4000000 in
theorem M_X10_fewestGuards (l : Launch) (b : Nat) (D : va_G) (z : Nat → Nat) (nx : Nat) {h : qH} {a0 : Nat} {r : Int32 × qH} (hF : F_X10_fewestGuards h a0 = some r) : Me l b D z yX10_fewestGuards cX10_fewestGuards 4 (some .int) rm_X10_fewestGuards [.ref a0] h nx (qE (some (.int r.1)) r.2 nx) := by
  refine Me.of (by decide +kernel) (Nat.le_of_ble_eq_true rfl) ?_
  show Go l b D z yX10_fewestGuards cX10_fewestGuards 4 (some .int) rm_X10_fewestGuards (qE (some (.int r.1)) r.2 nx) 0 [(0, .ref a0)] [] h nx 0 0
  unfold F_X10_fewestGuards at hF
  refine g_iconst dX10_fewestGuards_0 lt_iconst_0 ?_
  refine g_istore_n [(1, .int (0 : Int32)), (0, .ref a0)] dX10_fewestGuards_1 (Nat.le_of_ble_eq_true rfl) rfl ?_
  obtain ⟨e1, w2, hF⟩ := q_bind hF
  refine g_sub [1, 0] rfl ?_
  refine L_X10_fewestGuards_2 l b D z q_N (0 : Int32) h e1 w2 ?_
  · intro h3 w4
    replace w4 := w4.symm
    subst w4
    exact J_X10_fewestGuards_33 l b D z hF
def rm_X10_wrongCouples : Room := { frames := 0, cells := 0, slots := 0, locals := 0 }
set_option maxRecDepth 100000 in
set_option maxHeartbeats 4000000 in
theorem J_X10_wrongCouples_59 (l : Launch) (b : Nat) (D : va_G) (z : Nat → Nat) {Φ : Option Value → qH → Nat → Prop} {nx : Nat} {h : qH} {a0 : Nat} {a1 : Int32} {a2 : Int32} {t0 : Int32} {o : (Int32 × Int32) ⊕ Int32} (hF : j_X10_wrongCouples_59 h a0 a1 a2 t0 = some o) (hback : ∀ (b1 : Int32) (b2 : Int32), o = .inl (b1, b2) → Go l b D z yX10_wrongCouples cX10_wrongCouples 4 (some .int) rm_X10_wrongCouples Φ 4 [(0, .ref a0), (1, .int b1), (2, .int b2)] [] h nx 0 0) (hx0 : ∀ (b1 : Int32), o = .inr b1 → Go l b D z yX10_wrongCouples cX10_wrongCouples 4 (some .int) rm_X10_wrongCouples Φ 90 [(1, .int b1)] [] h nx 0 0) : Go l b D z yX10_wrongCouples cX10_wrongCouples 4 (some .int) rm_X10_wrongCouples Φ 59 [(0, .ref a0), (1, .int a1), (2, .int a2)] [.int t0] h nx 0 0 := by
  unfold j_X10_wrongCouples_59 at hF
  refine g_istore_n [(3, .int t0), (0, .ref a0), (1, .int a1), (2, .int a2)] dX10_wrongCouples_59 (Nat.le_of_ble_eq_true rfl) rfl ?_
  refine g_aload_n 1 dX10_wrongCouples_60 rfl ?_
  obtain ⟨x1, e2, hF⟩ := q_bind hF
  refine g_getfR fl_X10_15 e2 dX10_wrongCouples_61 ?_
  refine g_iload_n 3 dX10_wrongCouples_64 rfl ?_
  obtain ⟨x3, e4, hF⟩ := q_bind hF
  refine g_iald e4 dX10_wrongCouples_65 ?_
  refine g_aload_n 1 dX10_wrongCouples_66 rfl ?_
  obtain ⟨x5, e6, hF⟩ := q_bind hF
  refine g_getfR fl_X10_15 e6 dX10_wrongCouples_67 ?_
  refine g_iload_n 3 dX10_wrongCouples_70 rfl ?_
  refine g_iconst dX10_wrongCouples_71 lt_iconst_1 ?_
  refine g_iadd dX10_wrongCouples_72 ?_
  obtain ⟨x7, e8, hF⟩ := q_bind hF
  refine g_iald e8 dX10_wrongCouples_73 ?_
  refine g_icmp_eq 84 dX10_wrongCouples_74 (by decide) (fun c9 => ?_) (fun c9 => ?_)
  · replace hF := q_t c9 hF
    refine g_iinc [(2, .int (a2 + 1)), (3, .int t0), (0, .ref a0), (1, .int a1)] 3 dX10_wrongCouples_84 rfl (congrArg (a2 + ·) lt_iconst_1) (Nat.le_of_ble_eq_true rfl) rfl ?_
    refine g_goto 4 dX10_wrongCouples_87 (by decide) ?_
    cases hF
    refine g_sub [2, 3, 0] rfl ?_
    exact hback _ _ rfl
  · replace hF := q_f c9 hF
    refine g_iload_n 0 dX10_wrongCouples_77 rfl ?_
    refine g_if_eq 84 dX10_wrongCouples_78 (by decide) (fun c10 => ?_) (fun c10 => ?_)
    · replace hF := q_t c10 hF
      refine g_iinc [(2, .int (a2 + 1)), (3, .int t0), (0, .ref a0), (1, .int a1)] 3 dX10_wrongCouples_84 rfl (congrArg (a2 + ·) lt_iconst_1) (Nat.le_of_ble_eq_true rfl) rfl ?_
      refine g_goto 4 dX10_wrongCouples_87 (by decide) ?_
      cases hF
      refine g_sub [2, 3, 0] rfl ?_
      exact hback _ _ rfl
    · replace hF := q_f c10 hF
      refine g_iinc [(1, .int (a1 + 1)), (3, .int t0), (0, .ref a0), (2, .int a2)] 2 dX10_wrongCouples_81 rfl (congrArg (a1 + ·) lt_iconst_1) (Nat.le_of_ble_eq_true rfl) rfl ?_
      refine g_iinc [(2, .int (a2 + 1)), (1, .int (a1 + 1)), (3, .int t0), (0, .ref a0)] 3 dX10_wrongCouples_84 rfl (congrArg (a2 + ·) lt_iconst_1) (Nat.le_of_ble_eq_true rfl) rfl ?_
      refine g_goto 4 dX10_wrongCouples_87 (by decide) ?_
      cases hF
      refine g_sub [3, 1, 0] rfl ?_
      exact hback _ _ rfl
set_option maxRecDepth 100000 in
set_option maxHeartbeats 4000000 in
theorem J_X10_wrongCouples_58 (l : Launch) (b : Nat) (D : va_G) (z : Nat → Nat) {Φ : Option Value → qH → Nat → Prop} {nx : Nat} {h : qH} {a0 : Nat} {a1 : Int32} {a2 : Int32} {o : (Int32 × Int32) ⊕ Int32} (hF : j_X10_wrongCouples_58 h a0 a1 a2  = some o) (hback : ∀ (b1 : Int32) (b2 : Int32), o = .inl (b1, b2) → Go l b D z yX10_wrongCouples cX10_wrongCouples 4 (some .int) rm_X10_wrongCouples Φ 4 [(0, .ref a0), (1, .int b1), (2, .int b2)] [] h nx 0 0) (hx0 : ∀ (b1 : Int32), o = .inr b1 → Go l b D z yX10_wrongCouples cX10_wrongCouples 4 (some .int) rm_X10_wrongCouples Φ 90 [(1, .int b1)] [] h nx 0 0) : Go l b D z yX10_wrongCouples cX10_wrongCouples 4 (some .int) rm_X10_wrongCouples Φ 58 [(0, .ref a0), (1, .int a1), (2, .int a2)] [] h nx 0 0 := by
  unfold j_X10_wrongCouples_58 at hF
  refine g_iconst dX10_wrongCouples_58 lt_iconst_0 ?_
  exact J_X10_wrongCouples_59 l b D z hF hback hx0
set_option maxRecDepth 100000 in
set_option maxHeartbeats 4000000 in
theorem B_X10_wrongCouples_4 (l : Launch) (b : Nat) (D : va_G) (z : Nat → Nat) {Φ : Option Value → qH → Nat → Prop} {nx : Nat} {h : qH} {a0 : Nat} {a1 : Int32} {a2 : Int32} {o : (Int32 × Int32) ⊕ Int32} (hF : b_X10_wrongCouples_4 h a0 a1 a2 = some o) (hback : ∀ (b1 : Int32) (b2 : Int32), o = .inl (b1, b2) → Go l b D z yX10_wrongCouples cX10_wrongCouples 4 (some .int) rm_X10_wrongCouples Φ 4 [(0, .ref a0), (1, .int b1), (2, .int b2)] [] h nx 0 0) (hx0 : ∀ (b1 : Int32), o = .inr b1 → Go l b D z yX10_wrongCouples cX10_wrongCouples 4 (some .int) rm_X10_wrongCouples Φ 90 [(1, .int b1)] [] h nx 0 0) : Go l b D z yX10_wrongCouples cX10_wrongCouples 4 (some .int) rm_X10_wrongCouples Φ 4 [(0, .ref a0), (1, .int a1), (2, .int a2)] [] h nx 0 0 := by
  unfold b_X10_wrongCouples_4 at hF
  refine g_iload_n 2 dX10_wrongCouples_4 rfl ?_
  refine g_iconst dX10_wrongCouples_5 lt_iconst_1 ?_
  refine g_iadd dX10_wrongCouples_6 ?_
  refine g_aload_n 0 dX10_wrongCouples_7 rfl ?_
  obtain ⟨x1, e2, hF⟩ := q_bind hF
  refine g_getfI fl_X10_24 e2 dX10_wrongCouples_8 ?_
  refine g_icmp_ge 90 dX10_wrongCouples_11 (by decide) (fun c3 => ?_) (fun c3 => ?_)
  · replace hF := q_t c3 hF
    cases hF
    refine g_sub [1] rfl ?_
    exact hx0 _ rfl
  · replace hF := q_f c3 hF
    refine g_iload_n 2 dX10_wrongCouples_14 rfl ?_
    refine g_iconst dX10_wrongCouples_15 lt_iconst_1 ?_
    refine g_iadd dX10_wrongCouples_16 ?_
    refine g_bipush dX10_wrongCouples_17 lt_bipush_9 ?_
    refine g_icmp_ge 90 dX10_wrongCouples_19 (by decide) (fun c4 => ?_) (fun c4 => ?_)
    · replace hF := q_t c4 hF
      cases hF
      refine g_sub [1] rfl ?_
      exact hx0 _ rfl
    · replace hF := q_f c4 hF
      refine g_aload_n 0 dX10_wrongCouples_22 rfl ?_
      obtain ⟨x5, e6, hF⟩ := q_bind hF
      refine g_getfR fl_X10_11 e6 dX10_wrongCouples_23 ?_
      refine g_iload_n 2 dX10_wrongCouples_26 rfl ?_
      obtain ⟨x7, e8, hF⟩ := q_bind hF
      refine g_iald e8 dX10_wrongCouples_27 ?_
      refine g_aload_n 0 dX10_wrongCouples_28 rfl ?_
      obtain ⟨x9, e10, hF⟩ := q_bind hF
      refine g_getfR fl_X10_18 e10 dX10_wrongCouples_29 ?_
      refine g_iload_n 2 dX10_wrongCouples_32 rfl ?_
      obtain ⟨x11, e12, hF⟩ := q_bind hF
      refine g_iald e12 dX10_wrongCouples_33 ?_
      refine g_icmp_ge 58 dX10_wrongCouples_34 (by decide) (fun c13 => ?_) (fun c13 => ?_)
      · replace hF := q_t c13 hF
        exact J_X10_wrongCouples_58 l b D z hF hback hx0
      · replace hF := q_f c13 hF
        refine g_aload_n 0 dX10_wrongCouples_37 rfl ?_
        obtain ⟨x14, e15, hF⟩ := q_bind hF
        refine g_getfR fl_X10_11 e15 dX10_wrongCouples_38 ?_
        refine g_iload_n 2 dX10_wrongCouples_41 rfl ?_
        obtain ⟨x16, e17, hF⟩ := q_bind hF
        refine g_iald e17 dX10_wrongCouples_42 ?_
        refine g_aload_n 0 dX10_wrongCouples_43 rfl ?_
        obtain ⟨x18, e19, hF⟩ := q_bind hF
        refine g_getfR fl_X10_18 e19 dX10_wrongCouples_44 ?_
        refine g_iload_n 2 dX10_wrongCouples_47 rfl ?_
        refine g_iconst dX10_wrongCouples_48 lt_iconst_1 ?_
        refine g_iadd dX10_wrongCouples_49 ?_
        obtain ⟨x20, e21, hF⟩ := q_bind hF
        refine g_iald e21 dX10_wrongCouples_50 ?_
        refine g_icmp_ge 58 dX10_wrongCouples_51 (by decide) (fun c22 => ?_) (fun c22 => ?_)
        · replace hF := q_t c22 hF
          exact J_X10_wrongCouples_58 l b D z hF hback hx0
        · replace hF := q_f c22 hF
          refine g_iconst dX10_wrongCouples_54 lt_iconst_1 ?_
          refine g_goto 59 dX10_wrongCouples_55 (by decide) ?_
          exact J_X10_wrongCouples_59 l b D z hF hback hx0
set_option maxRecDepth 100000 in
set_option maxHeartbeats 4000000 in
theorem L_X10_wrongCouples_4 (l : Launch) (b : Nat) (D : va_G) (z : Nat → Nat) {Φ : Option Value → qH → Nat → Prop} {nx : Nat} {h : qH} {a0 : Nat} : ∀ (n : Nat) (a1 : Int32) (a2 : Int32) (e : Int32), q_lp (s_X10_wrongCouples_4 h a0) n (a1, a2) = some e → (∀ (b1 : Int32), e = b1 → Go l b D z yX10_wrongCouples cX10_wrongCouples 4 (some .int) rm_X10_wrongCouples Φ 90 [(1, .int b1)] [] h nx 0 0) → Go l b D z yX10_wrongCouples cX10_wrongCouples 4 (some .int) rm_X10_wrongCouples Φ 4 [(0, .ref a0), (1, .int a1), (2, .int a2)] [] h nx 0 0 := by
  intro n
  induction n with
  | zero => intro a1 a2 e he; cases (show none = some e from he)
  | succ n ih =>
    intro a1 a2 e he hx0
    obtain ⟨o, ho, h1, h2⟩ := q_lp_succ he
    exact B_X10_wrongCouples_4 l b D z (show b_X10_wrongCouples_4 h a0 a1 a2 = some o from ho) (fun b1 b2 hb => ih _ _ e (h1 _ hb) hx0) (fun p0 hr => hx0 p0 (h2 _ hr).symm)
set_option maxRecDepth 100000 in
set_option maxHeartbeats 4000000 in
theorem M_X10_wrongCouples (l : Launch) (b : Nat) (D : va_G) (z : Nat → Nat) (nx : Nat) {h : qH} {a0 : Nat} {r : Int32} (hF : F_X10_wrongCouples h a0 = some r) : Me l b D z yX10_wrongCouples cX10_wrongCouples 4 (some .int) rm_X10_wrongCouples [.ref a0] h nx (qE (some (.int r)) h nx) := by
  refine Me.of (by decide +kernel) (Nat.le_of_ble_eq_true rfl) ?_
  show Go l b D z yX10_wrongCouples cX10_wrongCouples 4 (some .int) rm_X10_wrongCouples (qE (some (.int r)) h nx) 0 [(0, .ref a0)] [] h nx 0 0
  unfold F_X10_wrongCouples at hF
  refine g_iconst dX10_wrongCouples_0 lt_iconst_0 ?_
  refine g_istore_n [(1, .int (0 : Int32)), (0, .ref a0)] dX10_wrongCouples_1 (Nat.le_of_ble_eq_true rfl) rfl ?_
  refine g_iconst dX10_wrongCouples_2 lt_iconst_0 ?_
  refine g_istore_n [(2, .int (0 : Int32)), (1, .int (0 : Int32)), (0, .ref a0)] dX10_wrongCouples_3 (Nat.le_of_ble_eq_true rfl) rfl ?_
  obtain ⟨e1, w2, hF⟩ := q_bind hF
  refine g_sub [2, 1, 0] rfl ?_
  refine L_X10_wrongCouples_4 l b D z q_N (0 : Int32) (0 : Int32) e1 w2 ?_
  · intro o3 w4
    replace w4 := w4.symm
    subst w4
    refine g_iload_n 0 dX10_wrongCouples_90 rfl ?_
    cases hF
    exact g_iret dX10_wrongCouples_91 rfl ⟨rfl, rfl, rfl⟩ (Nat.le_of_ble_eq_true rfl) (Nat.le_of_ble_eq_true rfl)
def rm_X10_hushing : Room := { frames := 1, cells := 0, slots := 0, locals := 21 }
set_option maxRecDepth 100000 in
set_option maxHeartbeats 4000000 in
theorem B_X10_hushing_4 (l : Launch) (b : Nat) (D : va_G) (z : Nat → Nat) {Φ : Option Value → qH → Nat → Prop} {nx : Nat} {h : qH} {a0 : Nat} {a1 : Int32} {a2 : Int32} {o : (Int32 × Int32) ⊕ Int32} (hF : b_X10_hushing_4 h a0 a1 a2 = some o) (hback : ∀ (b1 : Int32) (b2 : Int32), o = .inl (b1, b2) → Go l b D z yX10_hushing cX10_hushing 3 (some .int) rm_X10_hushing Φ 4 [(0, .ref a0), (1, .int b1), (2, .int b2)] [] h nx 0 0) (hx0 : ∀ (b1 : Int32), o = .inr b1 → Go l b D z yX10_hushing cX10_hushing 3 (some .int) rm_X10_hushing Φ 57 [(1, .int b1)] [] h nx 0 0) : Go l b D z yX10_hushing cX10_hushing 3 (some .int) rm_X10_hushing Φ 4 [(0, .ref a0), (1, .int a1), (2, .int a2)] [] h nx 0 0 := by
  unfold b_X10_hushing_4 at hF
  refine g_iload_n 2 dX10_hushing_4 rfl ?_
  refine g_iconst dX10_hushing_5 lt_iconst_1 ?_
  refine g_iadd dX10_hushing_6 ?_
  refine g_aload_n 0 dX10_hushing_7 rfl ?_
  obtain ⟨x1, e2, hF⟩ := q_bind hF
  refine g_getfI fl_X10_24 e2 dX10_hushing_8 ?_
  refine g_icmp_ge 57 dX10_hushing_11 (by decide) (fun c3 => ?_) (fun c3 => ?_)
  · replace hF := q_t c3 hF
    cases hF
    refine g_sub [1] rfl ?_
    exact hx0 _ rfl
  · replace hF := q_f c3 hF
    refine g_iload_n 2 dX10_hushing_14 rfl ?_
    refine g_iconst dX10_hushing_15 lt_iconst_1 ?_
    refine g_iadd dX10_hushing_16 ?_
    refine g_bipush dX10_hushing_17 lt_bipush_9 ?_
    refine g_icmp_ge 57 dX10_hushing_19 (by decide) (fun c4 => ?_) (fun c4 => ?_)
    · replace hF := q_t c4 hF
      cases hF
      refine g_sub [1] rfl ?_
      exact hx0 _ rfl
    · replace hF := q_f c4 hF
      refine g_iload_n 1 dX10_hushing_22 rfl ?_
      refine g_aload_n 0 dX10_hushing_23 rfl ?_
      obtain ⟨x5, e6, hF⟩ := q_bind hF
      refine g_getfR fl_X10_18 e6 dX10_hushing_24 ?_
      refine g_iload_n 2 dX10_hushing_27 rfl ?_
      obtain ⟨x7, e8, hF⟩ := q_bind hF
      refine g_iald e8 dX10_hushing_28 ?_
      refine g_aload_n 0 dX10_hushing_29 rfl ?_
      obtain ⟨x9, e10, hF⟩ := q_bind hF
      refine g_getfR fl_X10_18 e10 dX10_hushing_30 ?_
      refine g_iload_n 2 dX10_hushing_33 rfl ?_
      refine g_iconst dX10_hushing_34 lt_iconst_1 ?_
      refine g_iadd dX10_hushing_35 ?_
      obtain ⟨x11, e12, hF⟩ := q_bind hF
      refine g_iald e12 dX10_hushing_36 ?_
      obtain ⟨x13, e14, hF⟩ := q_bind hF
      refine g_callSr0 qm_J9_max_7cf53 wd_1251 wd_721 (M_J9_max_7cf53 l b D z nx e14) (As := [.int x7, .int x11]) rfl rfl (Nat.le_of_ble_eq_true rfl) ⟨(Nat.le_of_ble_eq_true rfl), (Nat.le_of_ble_eq_true rfl)⟩ ⟨rfl, rfl⟩ ⟨(Nat.le_of_ble_eq_true rfl), (Nat.le_of_ble_eq_true rfl)⟩ dX10_hushing_37 ?_
      refine g_aload_n 0 dX10_hushing_40 rfl ?_
      obtain ⟨x15, e16, hF⟩ := q_bind hF
      refine g_getfR fl_X10_11 e16 dX10_hushing_41 ?_
      refine g_iload_n 2 dX10_hushing_44 rfl ?_
      obtain ⟨x17, e18, hF⟩ := q_bind hF
      refine g_iald e18 dX10_hushing_45 ?_
      refine g_isub dX10_hushing_46 ?_
      obtain ⟨x19, e20, hF⟩ := q_bind hF
      refine g_callSr0 qm_J9_max_7cf53 wd_1251 wd_721 (M_J9_max_7cf53 l b D z nx e20) (As := [.int a1, .int (x13 - x17)]) rfl rfl (Nat.le_of_ble_eq_true rfl) ⟨(Nat.le_of_ble_eq_true rfl), (Nat.le_of_ble_eq_true rfl)⟩ ⟨rfl, rfl⟩ ⟨(Nat.le_of_ble_eq_true rfl), (Nat.le_of_ble_eq_true rfl)⟩ dX10_hushing_47 ?_
      refine g_istore_n [(1, .int x19), (0, .ref a0), (2, .int a2)] dX10_hushing_50 (Nat.le_of_ble_eq_true rfl) rfl ?_
      refine g_iinc [(2, .int (a2 + 1)), (1, .int x19), (0, .ref a0)] 2 dX10_hushing_51 rfl (congrArg (a2 + ·) lt_iconst_1) (Nat.le_of_ble_eq_true rfl) rfl ?_
      refine g_goto 4 dX10_hushing_54 (by decide) ?_
      cases hF
      refine g_sub [2, 1, 0] rfl ?_
      exact hback _ _ rfl
set_option maxRecDepth 100000 in
set_option maxHeartbeats 4000000 in
theorem L_X10_hushing_4 (l : Launch) (b : Nat) (D : va_G) (z : Nat → Nat) {Φ : Option Value → qH → Nat → Prop} {nx : Nat} {h : qH} {a0 : Nat} : ∀ (n : Nat) (a1 : Int32) (a2 : Int32) (e : Int32), q_lp (s_X10_hushing_4 h a0) n (a1, a2) = some e → (∀ (b1 : Int32), e = b1 → Go l b D z yX10_hushing cX10_hushing 3 (some .int) rm_X10_hushing Φ 57 [(1, .int b1)] [] h nx 0 0) → Go l b D z yX10_hushing cX10_hushing 3 (some .int) rm_X10_hushing Φ 4 [(0, .ref a0), (1, .int a1), (2, .int a2)] [] h nx 0 0 := by
  intro n
  induction n with
  | zero => intro a1 a2 e he; cases (show none = some e from he)
  | succ n ih =>
    intro a1 a2 e he hx0
    obtain ⟨o, ho, h1, h2⟩ := q_lp_succ he
    exact B_X10_hushing_4 l b D z (show b_X10_hushing_4 h a0 a1 a2 = some o from ho) (fun b1 b2 hb => ih _ _ e (h1 _ hb) hx0) (fun p0 hr => hx0 p0 (h2 _ hr).symm)
set_option maxRecDepth 100000 in
set_option maxHeartbeats 4000000 in
theorem M_X10_hushing (l : Launch) (b : Nat) (D : va_G) (z : Nat → Nat) (nx : Nat) {h : qH} {a0 : Nat} {r : Int32} (hF : F_X10_hushing h a0 = some r) : Me l b D z yX10_hushing cX10_hushing 3 (some .int) rm_X10_hushing [.ref a0] h nx (qE (some (.int r)) h nx) := by
  refine Me.of (by decide +kernel) (Nat.le_of_ble_eq_true rfl) ?_
  show Go l b D z yX10_hushing cX10_hushing 3 (some .int) rm_X10_hushing (qE (some (.int r)) h nx) 0 [(0, .ref a0)] [] h nx 0 0
  unfold F_X10_hushing at hF
  refine g_iconst dX10_hushing_0 lt_iconst_0 ?_
  refine g_istore_n [(1, .int (0 : Int32)), (0, .ref a0)] dX10_hushing_1 (Nat.le_of_ble_eq_true rfl) rfl ?_
  refine g_iconst dX10_hushing_2 lt_iconst_0 ?_
  refine g_istore_n [(2, .int (0 : Int32)), (1, .int (0 : Int32)), (0, .ref a0)] dX10_hushing_3 (Nat.le_of_ble_eq_true rfl) rfl ?_
  obtain ⟨e1, w2, hF⟩ := q_bind hF
  refine g_sub [2, 1, 0] rfl ?_
  refine L_X10_hushing_4 l b D z q_N (0 : Int32) (0 : Int32) e1 w2 ?_
  · intro o3 w4
    replace w4 := w4.symm
    subst w4
    refine g_iload_n 0 dX10_hushing_57 rfl ?_
    cases hF
    exact g_iret dX10_hushing_58 rfl ⟨rfl, rfl, rfl⟩ (Nat.le_of_ble_eq_true rfl) (Nat.le_of_ble_eq_true rfl)
def rm_X10_showHouse : Room := { frames := 3, cells := 0, slots := 0, locals := 68 }
set_option maxRecDepth 100000 in
set_option maxHeartbeats 4000000 in
theorem M_X10_showHouse (l : Launch) (b : Nat) (D : va_G) (z : Nat → Nat) (nx : Nat) {h : qH} {a0 : Nat} {a1 : Int32} {a2 : Int32} {r : Int32} (hF : F_X10_showHouse h a0 a1 a2 = some r) : Me l b D z yX10_showHouse cX10_showHouse 3 (some .int) rm_X10_showHouse [.ref a0, .int a1, .int a2] h nx (qE (some (.int r)) h nx) := by
  refine Me.of (by decide +kernel) (Nat.le_of_ble_eq_true rfl) ?_
  show Go l b D z yX10_showHouse cX10_showHouse 3 (some .int) rm_X10_showHouse (qE (some (.int r)) h nx) 0 [(0, .ref a0), (1, .int a1), (2, .int a2)] [] h nx 0 0
  unfold F_X10_showHouse at hF
  refine g_aload_n 0 dX10_showHouse_0 rfl ?_
  refine g_iload_n 2 dX10_showHouse_1 rfl ?_
  obtain ⟨u1, e2, hF⟩ := q_bind hF
  obtain ⟨x3, e4, hF⟩ := q_bind hF
  refine g_callVr0 (ci := 10) (q := (RX10, TX10, 5)) qm_X10_has wd_1256 wd_1258 wd_62 rfl e2 (M_X10_has l b D z nx e4) (As := [.int a2]) rfl rfl (Nat.le_of_ble_eq_true rfl) ⟨(Nat.le_of_ble_eq_true rfl), (Nat.le_of_ble_eq_true rfl)⟩ ⟨rfl, rfl⟩ ⟨(Nat.le_of_ble_eq_true rfl), (Nat.le_of_ble_eq_true rfl)⟩ dX10_showHouse_2 ?_
  refine g_if_ne 10 dX10_showHouse_5 (by decide) (fun c5 => ?_) (fun c5 => ?_)
  · replace hF := q_f c5 hF
    refine g_iload_n 1 dX10_showHouse_10 rfl ?_
    by_cases c6 : a1 = 1
    · replace hF := q_t c6 hF
      refine g_tabIn (off := 25) 36 dX10_showHouse_11 (by rw [c6]; decide) (by rw [c6]; decide) (by rw [c6]; decide) (by decide) ?_
      refine g_aload_n 0 dX10_showHouse_36 rfl ?_
      refine g_iload_n 2 dX10_showHouse_37 rfl ?_
      refine g_iconst dX10_showHouse_38 lt_iconst_1 ?_
      refine g_iadd dX10_showHouse_39 ?_
      obtain ⟨u7, e8, hF⟩ := q_bind hF
      obtain ⟨x9, e10, hF⟩ := q_bind hF
      refine g_callVr0 (ci := 10) (q := (RX10, TX10, 5)) qm_X10_has wd_1256 wd_1258 wd_62 rfl e8 (M_X10_has l b D z nx e10) (As := [.int (a2 + (1 : Int32))]) rfl rfl (Nat.le_of_ble_eq_true rfl) ⟨(Nat.le_of_ble_eq_true rfl), (Nat.le_of_ble_eq_true rfl)⟩ ⟨rfl, rfl⟩ ⟨(Nat.le_of_ble_eq_true rfl), (Nat.le_of_ble_eq_true rfl)⟩ dX10_showHouse_40 ?_
      refine g_if_eq 55 dX10_showHouse_43 (by decide) (fun c11 => ?_) (fun c11 => ?_)
      · replace hF := q_t c11 hF
        refine g_iconst dX10_showHouse_55 lt_iconst_m1 ?_
        cases hF
        exact g_iret dX10_showHouse_56 rfl ⟨rfl, rfl, rfl⟩ (Nat.le_of_ble_eq_true rfl) (Nat.le_of_ble_eq_true rfl)
      · replace hF := q_f c11 hF
        refine g_aload_n 0 dX10_showHouse_46 rfl ?_
        obtain ⟨x12, e13, hF⟩ := q_bind hF
        refine g_getfR fl_X10_11 e13 dX10_showHouse_47 ?_
        refine g_iload_n 2 dX10_showHouse_50 rfl ?_
        obtain ⟨x14, e15, hF⟩ := q_bind hF
        refine g_iald e15 dX10_showHouse_51 ?_
        refine g_goto 56 dX10_showHouse_52 (by decide) ?_
        cases hF
        exact g_iret dX10_showHouse_56 rfl ⟨rfl, rfl, rfl⟩ (Nat.le_of_ble_eq_true rfl) (Nat.le_of_ble_eq_true rfl)
    replace hF := q_f c6 hF
    by_cases c16 : a1 = 2
    · replace hF := q_t c16 hF
      refine g_tabIn (off := 46) 57 dX10_showHouse_11 (by rw [c16]; decide) (by rw [c16]; decide) (by rw [c16]; decide) (by decide) ?_
      refine g_aload_n 0 dX10_showHouse_57 rfl ?_
      obtain ⟨x17, e18, hF⟩ := q_bind hF
      refine g_getfR fl_X10_15 e18 dX10_showHouse_58 ?_
      refine g_iload_n 2 dX10_showHouse_61 rfl ?_
      obtain ⟨x19, e20, hF⟩ := q_bind hF
      refine g_iald e20 dX10_showHouse_62 ?_
      cases hF
      exact g_iret dX10_showHouse_63 rfl ⟨rfl, rfl, rfl⟩ (Nat.le_of_ble_eq_true rfl) (Nat.le_of_ble_eq_true rfl)
    replace hF := q_f c16 hF
    by_cases c21 : a1 = 3
    · replace hF := q_t c21 hF
      refine g_tabIn (off := 53) 64 dX10_showHouse_11 (by rw [c21]; decide) (by rw [c21]; decide) (by rw [c21]; decide) (by decide) ?_
      refine g_aload_n 0 dX10_showHouse_64 rfl ?_
      obtain ⟨x22, e23, hF⟩ := q_bind hF
      refine g_getfR fl_X10_18 e23 dX10_showHouse_65 ?_
      refine g_iload_n 2 dX10_showHouse_68 rfl ?_
      obtain ⟨x24, e25, hF⟩ := q_bind hF
      refine g_iald e25 dX10_showHouse_69 ?_
      cases hF
      exact g_iret dX10_showHouse_70 rfl ⟨rfl, rfl, rfl⟩ (Nat.le_of_ble_eq_true rfl) (Nat.le_of_ble_eq_true rfl)
    replace hF := q_f c21 hF
    refine g_tabOut 71 dX10_showHouse_11 ?_ (by decide) ?_
    · have t0 := lv_neT (a := 1) c6 (by decide); have t1 := lv_neT (a := 2) c16 (by decide); have t2 := lv_neT (a := 3) c21 (by decide); omega
    refine g_aload_n 0 dX10_showHouse_71 rfl ?_
    refine g_iload_n 2 dX10_showHouse_72 rfl ?_
    obtain ⟨u26, e27, hF⟩ := q_bind hF
    obtain ⟨x28, e29, hF⟩ := q_bind hF
    refine g_callVr0 (ci := 10) (q := (RX10, TX10, 5)) qm_X10_whereHeard wd_1246 wd_1248 wd_60 rfl e27 (M_X10_whereHeard l b D z nx e29) (As := [.int a2]) rfl rfl (Nat.le_of_ble_eq_true rfl) ⟨(Nat.le_of_ble_eq_true rfl), (Nat.le_of_ble_eq_true rfl)⟩ ⟨rfl, rfl⟩ ⟨(Nat.le_of_ble_eq_true rfl), (Nat.le_of_ble_eq_true rfl)⟩ dX10_showHouse_73 ?_
    cases hF
    exact g_iret dX10_showHouse_76 rfl ⟨rfl, rfl, rfl⟩ (Nat.le_of_ble_eq_true rfl) (Nat.le_of_ble_eq_true rfl)
  · replace hF := q_t c5 hF
    refine g_iconst dX10_showHouse_8 lt_iconst_m1 ?_
    cases hF
    exact g_iret dX10_showHouse_9 rfl ⟨rfl, rfl, rfl⟩ (Nat.le_of_ble_eq_true rfl) (Nat.le_of_ble_eq_true rfl)
def rm_X10_show : Room := { frames := 5, cells := 0, slots := 0, locals := 115 }
set_option maxRecDepth 100000 in
set_option maxHeartbeats 4000000 in
theorem M_X10_show (l : Launch) (b : Nat) (D : va_G) (z : Nat → Nat) (nx : Nat) {h : qH} {a0 : Nat} {a1 : Int32} {r : Int32 × qH} (hF : F_X10_show h a0 a1 = some r) : Me l b D z yX10_show cX10_show 2 (some .int) rm_X10_show [.ref a0, .int a1] h nx (qE (some (.int r.1)) r.2 nx) := by
  refine Me.of (by decide +kernel) (Nat.le_of_ble_eq_true rfl) ?_
  show Go l b D z yX10_show cX10_show 2 (some .int) rm_X10_show (qE (some (.int r.1)) r.2 nx) 0 [(0, .ref a0), (1, .int a1)] [] h nx 0 0
  unfold F_X10_show at hF
  refine g_iload_n 1 dX10_show_0 rfl ?_
  by_cases c1 : a1 = 0
  · replace hF := q_t c1 hF
    refine g_tabIn (off := 39) 40 dX10_show_1 (by rw [c1]; decide) (by rw [c1]; decide) (by rw [c1]; decide) (by decide) ?_
    refine g_aload_n 0 dX10_show_40 rfl ?_
    obtain ⟨x2, e3, hF⟩ := q_bind hF
    refine g_getfI fl_X10_24 e3 dX10_show_41 ?_
    cases hF
    exact g_iret dX10_show_44 rfl ⟨rfl, rfl, rfl⟩ (Nat.le_of_ble_eq_true rfl) (Nat.le_of_ble_eq_true rfl)
  replace hF := q_f c1 hF
  by_cases c4 : a1 = 1
  · replace hF := q_t c4 hF
    refine g_tabIn (off := 44) 45 dX10_show_1 (by rw [c4]; decide) (by rw [c4]; decide) (by rw [c4]; decide) (by decide) ?_
    refine g_aload_n 0 dX10_show_45 rfl ?_
    obtain ⟨u5, e6, hF⟩ := q_bind hF
    obtain ⟨x7, e8, hF⟩ := q_bind hF
    refine g_callVr0 (ci := 10) (q := (RX10, TX10, 5)) qm_X10_bestToListen wd_1238 wd_1240 wd_58 rfl e6 (M_X10_bestToListen l b D z nx e8) (As := []) rfl rfl (Nat.le_of_ble_eq_true rfl) ⟨(Nat.le_of_ble_eq_true rfl), (Nat.le_of_ble_eq_true rfl)⟩ ⟨rfl, rfl⟩ ⟨(Nat.le_of_ble_eq_true rfl), (Nat.le_of_ble_eq_true rfl)⟩ dX10_show_46 ?_
    cases hF
    exact g_iret dX10_show_49 rfl ⟨rfl, rfl, rfl⟩ (Nat.le_of_ble_eq_true rfl) (Nat.le_of_ble_eq_true rfl)
  replace hF := q_f c4 hF
  by_cases c9 : a1 = 2
  · replace hF := q_t c9 hF
    refine g_tabIn (off := 49) 50 dX10_show_1 (by rw [c9]; decide) (by rw [c9]; decide) (by rw [c9]; decide) (by decide) ?_
    refine g_aload_n 0 dX10_show_50 rfl ?_
    refine g_aload_n 0 dX10_show_51 rfl ?_
    obtain ⟨u10, e11, hF⟩ := q_bind hF
    obtain ⟨x12, e13, hF⟩ := q_bind hF
    refine g_callVr0 (ci := 10) (q := (RX10, TX10, 5)) qm_X10_bestToListen wd_1238 wd_1240 wd_58 rfl e11 (M_X10_bestToListen l b D z nx e13) (As := []) rfl rfl (Nat.le_of_ble_eq_true rfl) ⟨(Nat.le_of_ble_eq_true rfl), (Nat.le_of_ble_eq_true rfl)⟩ ⟨rfl, rfl⟩ ⟨(Nat.le_of_ble_eq_true rfl), (Nat.le_of_ble_eq_true rfl)⟩ dX10_show_52 ?_
    obtain ⟨u14, e15, hF⟩ := q_bind hF
    obtain ⟨x16, e17, hF⟩ := q_bind hF
    refine g_callVr0 (ci := 10) (q := (RX10, TX10, 5)) qm_X10_othersHeardIn wd_1242 wd_1244 wd_59 rfl e15 (M_X10_othersHeardIn l b D z nx e17) (As := [.int x12]) rfl rfl (Nat.le_of_ble_eq_true rfl) ⟨(Nat.le_of_ble_eq_true rfl), (Nat.le_of_ble_eq_true rfl)⟩ ⟨rfl, rfl⟩ ⟨(Nat.le_of_ble_eq_true rfl), (Nat.le_of_ble_eq_true rfl)⟩ dX10_show_55 ?_
    cases hF
    exact g_iret dX10_show_58 rfl ⟨rfl, rfl, rfl⟩ (Nat.le_of_ble_eq_true rfl) (Nat.le_of_ble_eq_true rfl)
  replace hF := q_f c9 hF
  by_cases c18 : a1 = 3
  · replace hF := q_t c18 hF
    refine g_tabIn (off := 58) 59 dX10_show_1 (by rw [c18]; decide) (by rw [c18]; decide) (by rw [c18]; decide) (by decide) ?_
    refine g_aload_n 0 dX10_show_59 rfl ?_
    obtain ⟨u19, e20, hF⟩ := q_bind hF
    obtain ⟨x21, e22, hF⟩ := q_bind hF
    refine g_callVr0 (ci := 10) (q := (RX10, TX10, 5)) qm_X10_fewestGuards wd_1264 wd_1266 wd_64 rfl e20 (M_X10_fewestGuards l b D z nx e22) (As := []) rfl rfl (Nat.le_of_ble_eq_true rfl) ⟨(Nat.le_of_ble_eq_true rfl), (Nat.le_of_ble_eq_true rfl)⟩ ⟨rfl, rfl⟩ ⟨(Nat.le_of_ble_eq_true rfl), (Nat.le_of_ble_eq_true rfl)⟩ dX10_show_60 ?_
    cases hF
    exact g_iret dX10_show_63 rfl ⟨rfl, rfl, rfl⟩ (Nat.le_of_ble_eq_true rfl) (Nat.le_of_ble_eq_true rfl)
  replace hF := q_f c18 hF
  by_cases c23 : a1 = 4
  · replace hF := q_t c23 hF
    refine g_tabIn (off := 63) 64 dX10_show_1 (by rw [c23]; decide) (by rw [c23]; decide) (by rw [c23]; decide) (by decide) ?_
    refine g_aload_n 0 dX10_show_64 rfl ?_
    obtain ⟨u24, e25, hF⟩ := q_bind hF
    obtain ⟨x26, e27, hF⟩ := q_bind hF
    refine g_callVr0 (ci := 10) (q := (RX10, TX10, 5)) qm_X10_wrongCouples wd_1278 wd_1280 wd_66 rfl e25 (M_X10_wrongCouples l b D z nx e27) (As := []) rfl rfl (Nat.le_of_ble_eq_true rfl) ⟨(Nat.le_of_ble_eq_true rfl), (Nat.le_of_ble_eq_true rfl)⟩ ⟨rfl, rfl⟩ ⟨(Nat.le_of_ble_eq_true rfl), (Nat.le_of_ble_eq_true rfl)⟩ dX10_show_65 ?_
    cases hF
    exact g_iret dX10_show_68 rfl ⟨rfl, rfl, rfl⟩ (Nat.le_of_ble_eq_true rfl) (Nat.le_of_ble_eq_true rfl)
  replace hF := q_f c23 hF
  by_cases c28 : a1 = 5
  · replace hF := q_t c28 hF
    refine g_tabIn (off := 68) 69 dX10_show_1 (by rw [c28]; decide) (by rw [c28]; decide) (by rw [c28]; decide) (by decide) ?_
    refine g_aload_n 0 dX10_show_69 rfl ?_
    obtain ⟨u29, e30, hF⟩ := q_bind hF
    obtain ⟨x31, e32, hF⟩ := q_bind hF
    refine g_callVr0 (ci := 10) (q := (RX10, TX10, 5)) qm_X10_hushing wd_1282 wd_1284 wd_67 rfl e30 (M_X10_hushing l b D z nx e32) (As := []) rfl rfl (Nat.le_of_ble_eq_true rfl) ⟨(Nat.le_of_ble_eq_true rfl), (Nat.le_of_ble_eq_true rfl)⟩ ⟨rfl, rfl⟩ ⟨(Nat.le_of_ble_eq_true rfl), (Nat.le_of_ble_eq_true rfl)⟩ dX10_show_70 ?_
    cases hF
    exact g_iret dX10_show_73 rfl ⟨rfl, rfl, rfl⟩ (Nat.le_of_ble_eq_true rfl) (Nat.le_of_ble_eq_true rfl)
  replace hF := q_f c28 hF
  refine g_tabOut 74 dX10_show_1 ?_ (by decide) ?_
  · have t0 := lv_neT (a := 0) c1 (by decide); have t1 := lv_neT (a := 1) c4 (by decide); have t2 := lv_neT (a := 2) c9 (by decide); have t3 := lv_neT (a := 3) c18 (by decide); have t4 := lv_neT (a := 4) c23 (by decide); have t5 := lv_neT (a := 5) c28 (by decide); omega
  refine g_iload_n 1 dX10_show_74 rfl ?_
  refine g_bipush dX10_show_75 lt_bipush_10 ?_
  refine g_icmp_lt 101 dX10_show_77 (by decide) (fun c33 => ?_) (fun c33 => ?_)
  · replace hF := q_t c33 hF
    refine g_iconst dX10_show_101 lt_iconst_m1 ?_
    cases hF
    exact g_iret dX10_show_102 rfl ⟨rfl, rfl, rfl⟩ (Nat.le_of_ble_eq_true rfl) (Nat.le_of_ble_eq_true rfl)
  · replace hF := q_f c33 hF
    refine g_iload_n 1 dX10_show_80 rfl ?_
    refine g_bipush dX10_show_81 lt_bipush_50 ?_
    refine g_icmp_ge 101 dX10_show_83 (by decide) (fun c34 => ?_) (fun c34 => ?_)
    · replace hF := q_t c34 hF
      refine g_iconst dX10_show_101 lt_iconst_m1 ?_
      cases hF
      exact g_iret dX10_show_102 rfl ⟨rfl, rfl, rfl⟩ (Nat.le_of_ble_eq_true rfl) (Nat.le_of_ble_eq_true rfl)
    · replace hF := q_f c34 hF
      refine g_aload_n 0 dX10_show_86 rfl ?_
      refine g_iload_n 1 dX10_show_87 rfl ?_
      refine g_bipush dX10_show_88 lt_bipush_10 ?_
      refine g_idiv dX10_show_90 (by decide) ?_
      refine g_iload_n 1 dX10_show_91 rfl ?_
      refine g_bipush dX10_show_92 lt_bipush_10 ?_
      refine g_irem dX10_show_94 (by decide) ?_
      obtain ⟨u35, e36, hF⟩ := q_bind hF
      obtain ⟨x37, e38, hF⟩ := q_bind hF
      refine g_callVr0 (ci := 10) (q := (RX10, TX10, 5)) qm_X10_showHouse wd_1286 wd_1288 wd_68 rfl e36 (M_X10_showHouse l b D z nx e38) (As := [.int (a1 / (10 : Int32)), .int (q_rem a1 (10 : Int32))]) rfl rfl (Nat.le_of_ble_eq_true rfl) ⟨(Nat.le_of_ble_eq_true rfl), (Nat.le_of_ble_eq_true rfl)⟩ ⟨rfl, rfl⟩ ⟨(Nat.le_of_ble_eq_true rfl), (Nat.le_of_ble_eq_true rfl)⟩ dX10_show_95 ?_
      refine g_goto 102 dX10_show_98 (by decide) ?_
      cases hF
      exact g_iret dX10_show_102 rfl ⟨rfl, rfl, rfl⟩ (Nat.le_of_ble_eq_true rfl) (Nat.le_of_ble_eq_true rfl)
def rm_X11_init : Room := { frames := 3, cells := 101, slots := 6425, locals := 61 }
theorem rmc_X11_init : rm_X11_init.cells = 101 := rfl
theorem rms_X11_init : rm_X11_init.slots = 6425 := rfl
set_option maxRecDepth 100000 in
set_option maxHeartbeats 4000000 in
theorem M_X11_init (l : Launch) (b : Nat) (D : va_G) (z : Nat → Nat) (nx : Nat) {h : qH} {a0 : Nat} {r : qH × Nat} (hF : F_X11_init h nx a0 = some r) : Me l b D z yX11_init cX11_init 1 none rm_X11_init [.ref a0] h nx (qE none r.1 r.2) := by
  refine Me.of (by decide +kernel) (Nat.le_of_ble_eq_true rfl) ?_
  show Go l b D z yX11_init cX11_init 1 none rm_X11_init (qE none r.1 r.2) 0 [(0, .ref a0)] [] h nx 0 0
  unfold F_X11_init at hF
  refine g_aload_n 0 dX11_init_0 rfl ?_
  refine g_obj wd_189 wd_190 wd_191 (Nat.le_of_ble_eq_true rfl) (Nat.le_of_ble_eq_true rfl) dX11_init_1 ?_
  refine g_aload_n 0 dX11_init_4 rfl ?_
  refine g_new (ci := 9) (q := (RX9, TX9, 9)) rfl tyX9 tyX9_ok (fs := df_X9) df_X9_ok wd_192 wd_193 wd_165 (Nat.le_of_ble_eq_true rfl) (Nat.le_of_ble_eq_true rfl) dX11_init_5 ?_
  refine g_dup dX11_init_8 rfl ?_
  obtain ⟨x1, e2, hF⟩ := q_bind hF
  refine g_callIvA qm_X9_init wd_194 wd_195 rfl (M_X9_init l b D z (nx + 1) e2) (As := []) rfl rfl (Nat.le_of_ble_eq_true rfl) ⟨(Nat.le_of_ble_eq_true rfl), (Nat.le_of_ble_eq_true rfl)⟩ ⟨(Nat.le_of_ble_eq_true rfl), (Nat.le_of_ble_eq_true rfl)⟩ dX11_init_9 ?_
  obtain ⟨h3, e4, hF⟩ := q_bind hF
  refine g_putF fl_X11_10 e4 rfl rfl rfl (fun q hq => by cases hq; rfl) dX11_init_12 ?_
  refine g_aload_n 0 dX11_init_15 rfl ?_
  refine g_iconst dX11_init_16 lt_iconst_3 ?_
  refine g_newq (C := RX9) (N := 3) (by decide +kernel) wd_192 (by decide) (by decide) (Nat.le_of_ble_eq_true rfl) (Nat.le_of_ble_eq_true rfl) (Nat.le_of_ble_eq_true rfl) dX11_init_17 ?_
  obtain ⟨h5, e6, hF⟩ := q_bind hF
  refine g_putF fl_X11_16 e6 rfl rfl rfl (fun q hq => by cases hq; rfl) dX11_init_20 ?_
  refine g_aload_n 0 dX11_init_23 rfl ?_
  refine g_new (ci := 7) (q := (RX7, TX7, 6)) rfl tyX7 tyX7_ok (fs := df_X7) df_X7_ok wd_354 wd_355 wd_170 (Nat.le_of_ble_eq_true rfl) (Nat.le_of_ble_eq_true rfl) dX11_init_24 ?_
  refine g_dup dX11_init_27 rfl ?_
  obtain ⟨x7, e8, hF⟩ := q_bind hF
  refine g_callINvA qm_X7_init (by decide +kernel) wd_357 rfl (M_X7_init l b D z ((x1.2 + 1) + 1) e8) (As := []) rfl rfl (Nat.le_of_ble_eq_true rfl) ⟨(Nat.le_of_ble_eq_true rfl), (Nat.le_of_ble_eq_true rfl)⟩ ⟨(Nat.le_of_ble_eq_true rfl), (Nat.le_of_ble_eq_true rfl)⟩ dX11_init_28 ?_
  obtain ⟨h9, e10, hF⟩ := q_bind hF
  refine g_putF fl_X11_23 e10 rfl rfl rfl (fun q hq => by cases hq; rfl) dX11_init_31 ?_
  refine g_aload_n 0 dX11_init_34 rfl ?_
  refine g_new (ci := 8) (q := (RX8, TX8, 11)) rfl tyX8 tyX8_ok (fs := df_X8) df_X8_ok wd_381 wd_382 wd_171 (Nat.le_of_ble_eq_true rfl) (Nat.le_of_ble_eq_true rfl) dX11_init_35 ?_
  refine g_dup dX11_init_38 rfl ?_
  obtain ⟨x11, e12, hF⟩ := q_bind hF
  refine g_callINvA qm_X8_init (by decide +kernel) wd_384 rfl (M_X8_init l b D z (x7.2 + 1) e12) (As := []) rfl rfl (Nat.le_of_ble_eq_true rfl) ⟨(Nat.le_of_ble_eq_true rfl), (Nat.le_of_ble_eq_true rfl)⟩ ⟨(Nat.le_of_ble_eq_true rfl), (Nat.le_of_ble_eq_true rfl)⟩ dX11_init_39 ?_
  obtain ⟨h13, e14, hF⟩ := q_bind hF
  refine g_putF fl_X11_30 e14 rfl rfl rfl (fun q hq => by cases hq; rfl) dX11_init_42 ?_
  refine g_aload_n 0 dX11_init_45 rfl ?_
  refine g_new (ci := 6) (q := (RX6, TX6, 7)) rfl tyX6 tyX6_ok (fs := df_X6) df_X6_ok wd_421 wd_422 wd_172 (Nat.le_of_ble_eq_true rfl) (Nat.le_of_ble_eq_true rfl) dX11_init_46 ?_
  refine g_dup dX11_init_49 rfl ?_
  obtain ⟨x15, e16, hF⟩ := q_bind hF
  refine g_callINvA qm_X6_init (by decide +kernel) wd_424 rfl (M_X6_init l b D z (x11.2 + 1) e16) (As := []) rfl rfl (Nat.le_of_ble_eq_true rfl) ⟨(Nat.le_of_ble_eq_true rfl), (Nat.le_of_ble_eq_true rfl)⟩ ⟨(Nat.le_of_ble_eq_true rfl), (Nat.le_of_ble_eq_true rfl)⟩ dX11_init_50 ?_
  obtain ⟨h17, e18, hF⟩ := q_bind hF
  refine g_putF fl_X11_37 e18 rfl rfl rfl (fun q hq => by cases hq; rfl) dX11_init_53 ?_
  refine g_aload_n 0 dX11_init_56 rfl ?_
  refine g_new (ci := 5) (q := (RX5, TX5, 4)) rfl tyX5 tyX5_ok (fs := df_X5) df_X5_ok wd_450 wd_451 wd_173 (Nat.le_of_ble_eq_true rfl) (Nat.le_of_ble_eq_true rfl) dX11_init_57 ?_
  refine g_dup dX11_init_60 rfl ?_
  obtain ⟨x19, e20, hF⟩ := q_bind hF
  refine g_callINvA qm_X5_init (by decide +kernel) wd_453 rfl (M_X5_init l b D z (x15.2 + 1) e20) (As := []) rfl rfl (Nat.le_of_ble_eq_true rfl) ⟨(Nat.le_of_ble_eq_true rfl), (Nat.le_of_ble_eq_true rfl)⟩ ⟨(Nat.le_of_ble_eq_true rfl), (Nat.le_of_ble_eq_true rfl)⟩ dX11_init_61 ?_
  obtain ⟨h21, e22, hF⟩ := q_bind hF
  refine g_putF fl_X11_44 e22 rfl rfl rfl (fun q hq => by cases hq; rfl) dX11_init_64 ?_
  refine g_aload_n 0 dX11_init_67 rfl ?_
  refine g_new (ci := 4) (q := (RX4, TX4, 7)) rfl tyX4 tyX4_ok (fs := df_X4) df_X4_ok wd_471 wd_472 wd_174 (Nat.le_of_ble_eq_true rfl) (Nat.le_of_ble_eq_true rfl) dX11_init_68 ?_
  refine g_dup dX11_init_71 rfl ?_
  obtain ⟨x23, e24, hF⟩ := q_bind hF
  refine g_callINvA qm_X4_init (by decide +kernel) wd_474 rfl (M_X4_init l b D z (x19.2 + 1) e24) (As := []) rfl rfl (Nat.le_of_ble_eq_true rfl) ⟨(Nat.le_of_ble_eq_true rfl), (Nat.le_of_ble_eq_true rfl)⟩ ⟨(Nat.le_of_ble_eq_true rfl), (Nat.le_of_ble_eq_true rfl)⟩ dX11_init_72 ?_
  obtain ⟨h25, e26, hF⟩ := q_bind hF
  refine g_putF fl_X11_51 e26 rfl rfl rfl (fun q hq => by cases hq; rfl) dX11_init_75 ?_
  refine g_aload_n 0 dX11_init_78 rfl ?_
  refine g_new (ci := 2) (q := (RX2, TX2, 3)) rfl tyX2 tyX2_ok (fs := df_X2) df_X2_ok wd_500 wd_501 wd_175 (Nat.le_of_ble_eq_true rfl) (Nat.le_of_ble_eq_true rfl) dX11_init_79 ?_
  refine g_dup dX11_init_82 rfl ?_
  obtain ⟨x27, e28, hF⟩ := q_bind hF
  refine g_callINvA qm_X2_init (by decide +kernel) wd_503 rfl (M_X2_init l b D z (x23.2 + 1) e28) (As := []) rfl rfl (Nat.le_of_ble_eq_true rfl) ⟨(Nat.le_of_ble_eq_true rfl), (Nat.le_of_ble_eq_true rfl)⟩ ⟨(Nat.le_of_ble_eq_true rfl), (Nat.le_of_ble_eq_true rfl)⟩ dX11_init_83 ?_
  obtain ⟨h29, e30, hF⟩ := q_bind hF
  refine g_putF fl_X11_58 e30 rfl rfl rfl (fun q hq => by cases hq; rfl) dX11_init_86 ?_
  cases hF
  exact g_vret dX11_init_89 rfl ⟨rfl, rfl, rfl⟩ (Nat.le_of_ble_eq_true rfl) (Nat.le_of_ble_eq_true rfl)
def rm_X11_feed : Room := { frames := 1, cells := 0, slots := 0, locals := 22 }
set_option maxRecDepth 100000 in
set_option maxHeartbeats 4000000 in
theorem M_X11_feed (l : Launch) (b : Nat) (D : va_G) (z : Nat → Nat) (nx : Nat) {h : qH} {a0 : Nat} {a1 : Int32} {a2 : Int32} {a3 : Int32} {a4 : Int32} {a5 : Int32} {r : Int32 × qH} (hF : F_X11_feed h a0 a1 a2 a3 a4 a5 = some r) : Me l b D z yX11_feed cX11_feed 6 (some .int) rm_X11_feed [.ref a0, .int a1, .int a2, .int a3, .int a4, .int a5] h nx (qE (some (.int r.1)) r.2 nx) := by
  refine Me.of (by decide +kernel) (Nat.le_of_ble_eq_true rfl) ?_
  show Go l b D z yX11_feed cX11_feed 6 (some .int) rm_X11_feed (qE (some (.int r.1)) r.2 nx) 0 [(0, .ref a0), (1, .int a1), (2, .int a2), (3, .int a3), (4, .int a4), (5, .int a5)] [] h nx 0 0
  unfold F_X11_feed at hF
  refine g_aload_n 0 dX11_feed_0 rfl ?_
  obtain ⟨x1, e2, hF⟩ := q_bind hF
  refine g_getfR fl_X11_10 e2 dX11_feed_1 ?_
  obtain ⟨x3, e4, hF⟩ := q_bind hF
  refine g_getfI fl_X11_62 e4 dX11_feed_4 ?_
  refine g_bipush dX11_feed_7 lt_bipush_20 ?_
  refine g_iadd dX11_feed_9 ?_
  refine g_sipush dX11_feed_10 lt_sipush_600 ?_
  refine g_icmp_le 18 dX11_feed_13 (by decide) (fun c5 => ?_) (fun c5 => ?_)
  · replace hF := q_t c5 hF
    refine g_aload_n 0 dX11_feed_18 rfl ?_
    obtain ⟨x6, e7, hF⟩ := q_bind hF
    refine g_getfR fl_X11_10 e7 dX11_feed_19 ?_
    refine g_iload_n 1 dX11_feed_22 rfl ?_
    obtain ⟨u8, e9, hF⟩ := q_bind hF
    obtain ⟨x10, e11, hF⟩ := q_bind hF
    refine g_callVv0 (ci := 9) (q := (RX9, TX9, 9)) qm_X9_addNumber wd_545 wd_546 wd_547 rfl e9 (M_X9_addNumber l b D z nx e11) (As := [.int a1]) rfl rfl (Nat.le_of_ble_eq_true rfl) ⟨(Nat.le_of_ble_eq_true rfl), (Nat.le_of_ble_eq_true rfl)⟩ ⟨rfl, rfl⟩ ⟨(Nat.le_of_ble_eq_true rfl), (Nat.le_of_ble_eq_true rfl)⟩ dX11_feed_23 ?_
    refine g_aload_n 0 dX11_feed_26 rfl ?_
    obtain ⟨x12, e13, hF⟩ := q_bind hF
    refine g_getfR fl_X11_10 e13 dX11_feed_27 ?_
    refine g_iload_n 2 dX11_feed_30 rfl ?_
    obtain ⟨u14, e15, hF⟩ := q_bind hF
    obtain ⟨x16, e17, hF⟩ := q_bind hF
    refine g_callVv0 (ci := 9) (q := (RX9, TX9, 9)) qm_X9_addNumber wd_545 wd_546 wd_547 rfl e15 (M_X9_addNumber l b D z nx e17) (As := [.int a2]) rfl rfl (Nat.le_of_ble_eq_true rfl) ⟨(Nat.le_of_ble_eq_true rfl), (Nat.le_of_ble_eq_true rfl)⟩ ⟨rfl, rfl⟩ ⟨(Nat.le_of_ble_eq_true rfl), (Nat.le_of_ble_eq_true rfl)⟩ dX11_feed_31 ?_
    refine g_aload_n 0 dX11_feed_34 rfl ?_
    obtain ⟨x18, e19, hF⟩ := q_bind hF
    refine g_getfR fl_X11_10 e19 dX11_feed_35 ?_
    refine g_iload_n 3 dX11_feed_38 rfl ?_
    obtain ⟨u20, e21, hF⟩ := q_bind hF
    obtain ⟨x22, e23, hF⟩ := q_bind hF
    refine g_callVv0 (ci := 9) (q := (RX9, TX9, 9)) qm_X9_addNumber wd_545 wd_546 wd_547 rfl e21 (M_X9_addNumber l b D z nx e23) (As := [.int a3]) rfl rfl (Nat.le_of_ble_eq_true rfl) ⟨(Nat.le_of_ble_eq_true rfl), (Nat.le_of_ble_eq_true rfl)⟩ ⟨rfl, rfl⟩ ⟨(Nat.le_of_ble_eq_true rfl), (Nat.le_of_ble_eq_true rfl)⟩ dX11_feed_39 ?_
    refine g_aload_n 0 dX11_feed_42 rfl ?_
    obtain ⟨x24, e25, hF⟩ := q_bind hF
    refine g_getfR fl_X11_10 e25 dX11_feed_43 ?_
    refine g_iload 4 dX11_feed_46 rfl ?_
    obtain ⟨u26, e27, hF⟩ := q_bind hF
    obtain ⟨x28, e29, hF⟩ := q_bind hF
    refine g_callVv0 (ci := 9) (q := (RX9, TX9, 9)) qm_X9_addNumber wd_545 wd_546 wd_547 rfl e27 (M_X9_addNumber l b D z nx e29) (As := [.int a4]) rfl rfl (Nat.le_of_ble_eq_true rfl) ⟨(Nat.le_of_ble_eq_true rfl), (Nat.le_of_ble_eq_true rfl)⟩ ⟨rfl, rfl⟩ ⟨(Nat.le_of_ble_eq_true rfl), (Nat.le_of_ble_eq_true rfl)⟩ dX11_feed_48 ?_
    refine g_aload_n 0 dX11_feed_51 rfl ?_
    obtain ⟨x30, e31, hF⟩ := q_bind hF
    refine g_getfR fl_X11_10 e31 dX11_feed_52 ?_
    refine g_iload 5 dX11_feed_55 rfl ?_
    obtain ⟨u32, e33, hF⟩ := q_bind hF
    obtain ⟨x34, e35, hF⟩ := q_bind hF
    refine g_callVv0 (ci := 9) (q := (RX9, TX9, 9)) qm_X9_addNumber wd_545 wd_546 wd_547 rfl e33 (M_X9_addNumber l b D z nx e35) (As := [.int a5]) rfl rfl (Nat.le_of_ble_eq_true rfl) ⟨(Nat.le_of_ble_eq_true rfl), (Nat.le_of_ble_eq_true rfl)⟩ ⟨rfl, rfl⟩ ⟨(Nat.le_of_ble_eq_true rfl), (Nat.le_of_ble_eq_true rfl)⟩ dX11_feed_57 ?_
    refine g_aload_n 0 dX11_feed_60 rfl ?_
    obtain ⟨x36, e37, hF⟩ := q_bind hF
    refine g_getfR fl_X11_10 e37 dX11_feed_61 ?_
    obtain ⟨x38, e39, hF⟩ := q_bind hF
    refine g_getfI fl_X11_62 e39 dX11_feed_64 ?_
    cases hF
    exact g_iret dX11_feed_67 rfl ⟨rfl, rfl, rfl⟩ (Nat.le_of_ble_eq_true rfl) (Nat.le_of_ble_eq_true rfl)
  · replace hF := q_f c5 hF
    refine g_iconst dX11_feed_16 lt_iconst_m1 ?_
    cases hF
    exact g_iret dX11_feed_17 rfl ⟨rfl, rfl, rfl⟩ (Nat.le_of_ble_eq_true rfl) (Nat.le_of_ble_eq_true rfl)
def rm_X11_end : Room := { frames := 0, cells := 0, slots := 0, locals := 0 }
set_option maxRecDepth 100000 in
set_option maxHeartbeats 4000000 in
theorem M_X11_end (l : Launch) (b : Nat) (D : va_G) (z : Nat → Nat) (nx : Nat) {h : qH} {a0 : Nat} {a1 : Int32} {r : Int32 × qH} (hF : F_X11_end h a0 a1 = some r) : Me l b D z yX11_end cX11_end 2 (some .int) rm_X11_end [.ref a0, .int a1] h nx (qE (some (.int r.1)) r.2 nx) := by
  refine Me.of (by decide +kernel) (Nat.le_of_ble_eq_true rfl) ?_
  show Go l b D z yX11_end cX11_end 2 (some .int) rm_X11_end (qE (some (.int r.1)) r.2 nx) 0 [(0, .ref a0), (1, .int a1)] [] h nx 0 0
  unfold F_X11_end at hF
  refine g_iload_n 1 dX11_end_0 rfl ?_
  refine g_if_lt 15 dX11_end_1 (by decide) (fun c1 => ?_) (fun c1 => ?_)
  · replace hF := q_t c1 hF
    refine g_iconst dX11_end_15 lt_iconst_m1 ?_
    cases hF
    exact g_iret dX11_end_16 rfl ⟨rfl, rfl, rfl⟩ (Nat.le_of_ble_eq_true rfl) (Nat.le_of_ble_eq_true rfl)
  · replace hF := q_f c1 hF
    refine g_iload_n 1 dX11_end_4 rfl ?_
    refine g_aload_n 0 dX11_end_5 rfl ?_
    obtain ⟨x2, e3, hF⟩ := q_bind hF
    refine g_getfR fl_X11_10 e3 dX11_end_6 ?_
    obtain ⟨x4, e5, hF⟩ := q_bind hF
    refine g_getfI fl_X11_62 e5 dX11_end_9 ?_
    refine g_icmp_le 17 dX11_end_12 (by decide) (fun c6 => ?_) (fun c6 => ?_)
    · replace hF := q_t c6 hF
      refine g_aload_n 0 dX11_end_17 rfl ?_
      obtain ⟨x7, e8, hF⟩ := q_bind hF
      refine g_getfR fl_X11_10 e8 dX11_end_18 ?_
      refine g_iload_n 1 dX11_end_21 rfl ?_
      obtain ⟨h9, e10, hF⟩ := q_bind hF
      refine g_putf fl_X11_62 e10 rfl rfl dX11_end_22 ?_
      refine g_iload_n 1 dX11_end_25 rfl ?_
      cases hF
      exact g_iret dX11_end_26 rfl ⟨rfl, rfl, rfl⟩ (Nat.le_of_ble_eq_true rfl) (Nat.le_of_ble_eq_true rfl)
    · replace hF := q_f c6 hF
      refine g_iconst dX11_end_15 lt_iconst_m1 ?_
      cases hF
      exact g_iret dX11_end_16 rfl ⟨rfl, rfl, rfl⟩ (Nat.le_of_ble_eq_true rfl) (Nat.le_of_ble_eq_true rfl)
