def rm_X11_text : Room := { frames := 9, cells := 0, slots := 0, locals := 233 }
set_option maxRecDepth 100000 in
set_option maxHeartbeats 4000000 in
theorem J_X11_text_162 (l : Launch) (b : Nat) (D : va_G) (z : Nat → Nat) {nx : Nat} {h : qH} {a0 : Nat} {a1 : Int32} {t0 : Int32} {r : Int32 × qH} (hF : j_X11_text_162 z h a0 a1 t0 = some r) : Go l b D z yX11_text cX11_text 6 (some .int) rm_X11_text (qE (some (.int r.1)) r.2 nx) 162 [(0, .ref a0), (1, .int a1)] [.int t0] h nx 0 0 := by
  unfold j_X11_text_162 at hF
  refine g_istore [(5, .int t0), (0, .ref a0), (1, .int a1)] dX11_text_162 (Nat.le_of_ble_eq_true rfl) rfl ?_
  refine g_aload_n 1 dX11_text_164 rfl ?_
  obtain ⟨x1, e2, hF⟩ := q_bind hF
  refine g_getfR fl_X11_23 e2 dX11_text_165 ?_
  refine g_aload_n 1 dX11_text_168 rfl ?_
  obtain ⟨x3, e4, hF⟩ := q_bind hF
  refine g_getfR fl_X11_10 e4 dX11_text_169 ?_
  refine g_iload_n 2 dX11_text_172 rfl ?_
  refine g_iload 0 dX11_text_173 rfl ?_
  obtain ⟨u5, e6, hF⟩ := q_bind hF
  obtain ⟨x7, e8, hF⟩ := q_bind hF
  refine g_callVv0 (ci := 7) (q := (RX7, TX7, 6)) qm_X7_fill wd_731 wd_732 wd_733 rfl e6 (M_X7_fill l b D z nx e8) (As := [.ref x3, .int a1, .int t0]) rfl rfl (Nat.le_of_ble_eq_true rfl) ⟨(Nat.le_of_ble_eq_true rfl), (Nat.le_of_ble_eq_true rfl)⟩ ⟨rfl, rfl⟩ ⟨(Nat.le_of_ble_eq_true rfl), (Nat.le_of_ble_eq_true rfl)⟩ dX11_text_175 ?_
  refine g_iload 0 dX11_text_178 rfl ?_
  cases hF
  exact g_iret dX11_text_180 rfl ⟨rfl, rfl, rfl⟩ (Nat.le_of_ble_eq_true rfl) (Nat.le_of_ble_eq_true rfl)
set_option maxRecDepth 100000 in
set_option maxHeartbeats 4000000 in
theorem J_X11_text_162_4 (l : Launch) (b : Nat) (D : va_G) (z : Nat → Nat) {nx : Nat} {h : qH} {a0 : Nat} {a1 : Int32} {t0 : Int32} {r : Int32 × qH} (hF : j_X11_text_162_4 z h a0 a1 t0 = some r) : Go l b D z yX11_text cX11_text 6 (some .int) rm_X11_text (qE (some (.int r.1)) r.2 nx) 162 [(0, .ref a0), (1, .int a1)] [.int t0] h nx 0 0 := by
  unfold j_X11_text_162_4 at hF
  refine g_istore [(5, .int t0), (0, .ref a0), (1, .int a1)] dX11_text_162 (Nat.le_of_ble_eq_true rfl) rfl ?_
  refine g_aload_n 1 dX11_text_164 rfl ?_
  obtain ⟨x1, e2, hF⟩ := q_bind hF
  refine g_getfR fl_X11_23 e2 dX11_text_165 ?_
  refine g_aload_n 1 dX11_text_168 rfl ?_
  obtain ⟨x3, e4, hF⟩ := q_bind hF
  refine g_getfR fl_X11_10 e4 dX11_text_169 ?_
  refine g_iload_n 2 dX11_text_172 rfl ?_
  refine g_iload 0 dX11_text_173 rfl ?_
  obtain ⟨u5, e6, hF⟩ := q_bind hF
  obtain ⟨x7, e8, hF⟩ := q_bind hF
  refine g_callVv0 (ci := 7) (q := (RX7, TX7, 6)) qm_X7_fill wd_731 wd_732 wd_733 rfl e6 (M_X7_fill l b D z nx e8) (As := [.ref x3, .int a1, .int t0]) rfl rfl (Nat.le_of_ble_eq_true rfl) ⟨(Nat.le_of_ble_eq_true rfl), (Nat.le_of_ble_eq_true rfl)⟩ ⟨rfl, rfl⟩ ⟨(Nat.le_of_ble_eq_true rfl), (Nat.le_of_ble_eq_true rfl)⟩ dX11_text_175 ?_
  refine g_iload 0 dX11_text_178 rfl ?_
  cases hF
  exact g_iret dX11_text_180 rfl ⟨rfl, rfl, rfl⟩ (Nat.le_of_ble_eq_true rfl) (Nat.le_of_ble_eq_true rfl)
set_option maxRecDepth 100000 in
set_option maxHeartbeats 4000000 in
theorem J_X11_text_152 (l : Launch) (b : Nat) (D : va_G) (z : Nat → Nat) {nx : Nat} {h : qH} {a0 : Nat} {a1 : Int32} {a2 : Int32} {a3 : Int32} {r : Int32 × qH} (hF : j_X11_text_152 z h a0 a1 a2 a3  = some r) : Go l b D z yX11_text cX11_text 6 (some .int) rm_X11_text (qE (some (.int r.1)) r.2 nx) 152 [(0, .ref a0), (1, .int a1), (2, .int a2), (3, .int a3)] [] h nx 0 0 := by
  unfold j_X11_text_152 at hF
  refine g_iload_n 2 dX11_text_152 rfl ?_
  refine g_iconst dX11_text_153 lt_iconst_m1 ?_
  refine g_icmp_ne 161 dX11_text_154 (by decide) (fun c1 => ?_) (fun c1 => ?_)
  · replace hF := q_f c1 hF
    refine g_iload_n 2 dX11_text_161 rfl ?_
    refine g_sub [0, 1] rfl ?_
    exact J_X11_text_162 l b D z hF
  · replace hF := q_t c1 hF
    refine g_iload_n 3 dX11_text_157 rfl ?_
    refine g_goto 162 dX11_text_158 (by decide) ?_
    refine g_sub [0, 1] rfl ?_
    exact J_X11_text_162_4 l b D z hF
set_option maxRecDepth 100000 in
set_option maxHeartbeats 4000000 in
theorem J_X11_text_45 (l : Launch) (b : Nat) (D : va_G) (z : Nat → Nat) {nx : Nat} {h : qH} {a0 : Nat} {a1 : Int32} {a2 : Int32} {a3 : Int32} {t0 : Int32} {r : Int32 × qH} (hF : j_X11_text_45 z h a0 a1 a2 a3 t0 = some r) : Go l b D z yX11_text cX11_text 6 (some .int) rm_X11_text (qE (some (.int r.1)) r.2 nx) 45 [(0, .ref a0), (1, .int a1), (2, .int a2), (3, .int a3)] [.int t0] h nx 0 0 := by
  unfold j_X11_text_45 at hF
  refine g_istore [(4, .int t0), (0, .ref a0), (1, .int a1), (2, .int a2), (3, .int a3)] dX11_text_45 (Nat.le_of_ble_eq_true rfl) rfl ?_
  refine g_iload 0 dX11_text_47 rfl ?_
  refine g_if_ne 79 dX11_text_49 (by decide) (fun c1 => ?_) (fun c1 => ?_)
  · replace hF := q_f c1 hF
    refine g_aload_n 1 dX11_text_79 rfl ?_
    obtain ⟨x2, e3, hF⟩ := q_bind hF
    refine g_getfR fl_X11_23 e3 dX11_text_80 ?_
    refine g_aload_n 1 dX11_text_83 rfl ?_
    obtain ⟨x4, e5, hF⟩ := q_bind hF
    refine g_getfR fl_X11_10 e5 dX11_text_84 ?_
    refine g_iload_n 2 dX11_text_87 rfl ?_
    obtain ⟨u6, e7, hF⟩ := q_bind hF
    obtain ⟨x8, e9, hF⟩ := q_bind hF
    refine g_callVv0 (ci := 7) (q := (RX7, TX7, 6)) qm_X7_read wd_561 wd_562 wd_563 rfl e7 (M_X7_read l b D z nx e9) (As := [.ref x4, .int a1]) rfl rfl (Nat.le_of_ble_eq_true rfl) ⟨(Nat.le_of_ble_eq_true rfl), (Nat.le_of_ble_eq_true rfl)⟩ ⟨rfl, rfl⟩ ⟨(Nat.le_of_ble_eq_true rfl), (Nat.le_of_ble_eq_true rfl)⟩ dX11_text_88 ?_
    refine g_aload_n 1 dX11_text_91 rfl ?_
    obtain ⟨x10, e11, hF⟩ := q_bind hF
    refine g_getfR fl_X11_10 e11 dX11_text_92 ?_
    refine g_iconst dX11_text_95 lt_iconst_0 ?_
    obtain ⟨h12, e13, hF⟩ := q_bind hF
    refine g_putf fl_X11_62 e13 rfl rfl dX11_text_96 ?_
    refine g_aload_n 1 dX11_text_99 rfl ?_
    obtain ⟨x14, e15, hF⟩ := q_bind hF
    refine g_getfR fl_X11_10 e15 dX11_text_100 ?_
    refine g_aload_n 1 dX11_text_103 rfl ?_
    obtain ⟨x16, e17, hF⟩ := q_bind hF
    refine g_getfR fl_X11_23 e17 dX11_text_104 ?_
    obtain ⟨x18, e19, hF⟩ := q_bind hF
    refine g_getfI fl_X11_84 e19 dX11_text_107 ?_
    obtain ⟨h20, e21, hF⟩ := q_bind hF
    refine g_putf fl_X11_74 e21 rfl rfl dX11_text_110 ?_
    refine g_aload_n 1 dX11_text_113 rfl ?_
    obtain ⟨x22, e23, hF⟩ := q_bind hF
    refine g_getfR fl_X11_10 e23 dX11_text_114 ?_
    refine g_aload_n 1 dX11_text_117 rfl ?_
    obtain ⟨x24, e25, hF⟩ := q_bind hF
    refine g_getfR fl_X11_23 e25 dX11_text_118 ?_
    obtain ⟨x26, e27, hF⟩ := q_bind hF
    refine g_getfI fl_X11_85 e27 dX11_text_121 ?_
    obtain ⟨h28, e29, hF⟩ := q_bind hF
    refine g_putf fl_X11_77 e29 rfl rfl dX11_text_124 ?_
    refine g_aload_n 1 dX11_text_127 rfl ?_
    obtain ⟨x30, e31, hF⟩ := q_bind hF
    refine g_getfR fl_X11_23 e31 dX11_text_128 ?_
    obtain ⟨x32, e33, hF⟩ := q_bind hF
    refine g_getfI fl_X11_84 e33 dX11_text_131 ?_
    refine g_if_eq 139 dX11_text_134 (by decide) (fun c34 => ?_) (fun c34 => ?_)
    · replace hF := q_t c34 hF
      refine g_iload_n 3 dX11_text_139 rfl ?_
      refine g_iconst dX11_text_140 lt_iconst_m1 ?_
      refine g_icmp_ne 152 dX11_text_141 (by decide) (fun c35 => ?_) (fun c35 => ?_)
      · replace hF := q_f c35 hF
        refine g_sub [1, 2, 3, 4] rfl ?_
        exact J_X11_text_152 l b D z hF
      · replace hF := q_t c35 hF
        refine g_aload_n 1 dX11_text_144 rfl ?_
        obtain ⟨x36, e37, hF⟩ := q_bind hF
        refine g_getfR fl_X11_10 e37 dX11_text_145 ?_
        refine g_iload_n 2 dX11_text_148 rfl ?_
        obtain ⟨u38, e39, hF⟩ := q_bind hF
        obtain ⟨x40, e41, hF⟩ := q_bind hF
        refine g_callVv0 (ci := 9) (q := (RX9, TX9, 9)) qm_X9_addOne wd_727 wd_728 wd_729 rfl e39 (M_X9_addOne l b D z nx e41) (As := [.int a1]) rfl rfl (Nat.le_of_ble_eq_true rfl) ⟨(Nat.le_of_ble_eq_true rfl), (Nat.le_of_ble_eq_true rfl)⟩ ⟨rfl, rfl⟩ ⟨(Nat.le_of_ble_eq_true rfl), (Nat.le_of_ble_eq_true rfl)⟩ dX11_text_149 ?_
        refine g_sub [1, 2, 3, 4] rfl ?_
        exact J_X11_text_152 l b D z hF
    · replace hF := q_f c34 hF
      refine g_iconst dX11_text_137 lt_iconst_m1 ?_
      cases hF
      exact g_iret dX11_text_138 rfl ⟨rfl, rfl, rfl⟩ (Nat.le_of_ble_eq_true rfl) (Nat.le_of_ble_eq_true rfl)
  · replace hF := q_t c1 hF
    refine g_aload_n 1 dX11_text_52 rfl ?_
    obtain ⟨x42, e43, hF⟩ := q_bind hF
    refine g_getfR fl_X11_10 e43 dX11_text_53 ?_
    refine g_iconst dX11_text_56 lt_iconst_0 ?_
    obtain ⟨h44, e45, hF⟩ := q_bind hF
    refine g_putf fl_X11_62 e45 rfl rfl dX11_text_57 ?_
    refine g_aload_n 1 dX11_text_60 rfl ?_
    obtain ⟨x46, e47, hF⟩ := q_bind hF
    refine g_getfR fl_X11_10 e47 dX11_text_61 ?_
    refine g_iconst dX11_text_64 lt_iconst_0 ?_
    obtain ⟨h48, e49, hF⟩ := q_bind hF
    refine g_putf fl_X11_74 e49 rfl rfl dX11_text_65 ?_
    refine g_aload_n 1 dX11_text_68 rfl ?_
    obtain ⟨x50, e51, hF⟩ := q_bind hF
    refine g_getfR fl_X11_10 e51 dX11_text_69 ?_
    refine g_iconst dX11_text_72 lt_iconst_m1 ?_
    obtain ⟨h52, e53, hF⟩ := q_bind hF
    refine g_putf fl_X11_77 e53 rfl rfl dX11_text_73 ?_
    refine g_bipush dX11_text_76 lt_bipush_m2 ?_
    cases hF
    exact g_iret dX11_text_78 rfl ⟨rfl, rfl, rfl⟩ (Nat.le_of_ble_eq_true rfl) (Nat.le_of_ble_eq_true rfl)
set_option maxRecDepth 100000 in
set_option maxHeartbeats 4000000 in
theorem J_X11_text_44 (l : Launch) (b : Nat) (D : va_G) (z : Nat → Nat) {nx : Nat} {h : qH} {a0 : Nat} {a1 : Int32} {a2 : Int32} {a3 : Int32} {r : Int32 × qH} (hF : j_X11_text_44 z h a0 a1 a2 a3  = some r) : Go l b D z yX11_text cX11_text 6 (some .int) rm_X11_text (qE (some (.int r.1)) r.2 nx) 44 [(0, .ref a0), (1, .int a1), (2, .int a2), (3, .int a3)] [] h nx 0 0 := by
  unfold j_X11_text_44 at hF
  refine g_iconst dX11_text_44 lt_iconst_0 ?_
  exact J_X11_text_45 l b D z hF
set_option maxRecDepth 100000 in
set_option maxHeartbeats 4000000 in
theorem J_X11_text_27 (l : Launch) (b : Nat) (D : va_G) (z : Nat → Nat) {nx : Nat} {h : qH} {a0 : Nat} {a1 : Int32} {a2 : Int32} {a3 : Int32} {r : Int32 × qH} (hF : j_X11_text_27 z h a0 a1 a2 a3  = some r) : Go l b D z yX11_text cX11_text 6 (some .int) rm_X11_text (qE (some (.int r.1)) r.2 nx) 27 [(0, .ref a0), (1, .int a1), (2, .int a2), (3, .int a3)] [] h nx 0 0 := by
  unfold j_X11_text_27 at hF
  refine g_iconst dX11_text_27 lt_iconst_0 ?_
  refine g_goto 45 dX11_text_28 (by decide) ?_
  exact J_X11_text_45 l b D z hF
set_option maxRecDepth 100000 in
set_option maxHeartbeats 4000000 in
theorem M_X11_text (l : Launch) (b : Nat) (D : va_G) (z : Nat → Nat) (nx : Nat) {h : qH} {a0 : Nat} {a1 : Int32} {a2 : Int32} {r : Int32 × qH} (hF : F_X11_text z h a0 a1 a2 = some r) : Me l b D z yX11_text cX11_text 6 (some .int) rm_X11_text [.ref a0, .int a1, .int a2] h nx (qE (some (.int r.1)) r.2 nx) := by
  refine Me.of (by decide +kernel) (Nat.le_of_ble_eq_true rfl) ?_
  show Go l b D z yX11_text cX11_text 6 (some .int) rm_X11_text (qE (some (.int r.1)) r.2 nx) 0 [(0, .ref a0), (1, .int a1), (2, .int a2)] [] h nx 0 0
  unfold F_X11_text at hF
  refine g_aload_n 0 dX11_text_0 rfl ?_
  obtain ⟨x1, e2, hF⟩ := q_bind hF
  refine g_getfR fl_X11_10 e2 dX11_text_1 ?_
  refine g_iload_n 1 dX11_text_4 rfl ?_
  obtain ⟨u3, e4, hF⟩ := q_bind hF
  obtain ⟨x5, e6, hF⟩ := q_bind hF
  refine g_callVr0 (ci := 9) (q := (RX9, TX9, 9)) qm_X9_howMany wd_557 wd_558 wd_559 rfl e4 (M_X9_howMany l b D z nx e6) (As := [.int a1]) rfl rfl (Nat.le_of_ble_eq_true rfl) ⟨(Nat.le_of_ble_eq_true rfl), (Nat.le_of_ble_eq_true rfl)⟩ ⟨rfl, rfl⟩ ⟨(Nat.le_of_ble_eq_true rfl), (Nat.le_of_ble_eq_true rfl)⟩ dX11_text_5 ?_
  refine g_istore_n [(3, .int x5), (0, .ref a0), (1, .int a1), (2, .int a2)] dX11_text_8 (Nat.le_of_ble_eq_true rfl) rfl ?_
  refine g_iload_n 3 dX11_text_9 rfl ?_
  refine g_iconst dX11_text_10 lt_iconst_m1 ?_
  refine g_icmp_ne 31 dX11_text_11 (by decide) (fun c7 => ?_) (fun c7 => ?_)
  · replace hF := q_f c7 hF
    refine g_iload_n 3 dX11_text_31 rfl ?_
    refine g_if_lt 44 dX11_text_32 (by decide) (fun c8 => ?_) (fun c8 => ?_)
    · replace hF := q_t c8 hF
      refine g_sub [1, 2, 3, 0] rfl ?_
      exact J_X11_text_44 l b D z hF
    · replace hF := q_f c8 hF
      refine g_iload_n 3 dX11_text_35 rfl ?_
      refine g_iload_n 0 dX11_text_36 rfl ?_
      refine g_icmp_ge 44 dX11_text_37 (by decide) (fun c9 => ?_) (fun c9 => ?_)
      · replace hF := q_t c9 hF
        refine g_sub [1, 2, 3, 0] rfl ?_
        exact J_X11_text_44 l b D z hF
      · replace hF := q_f c9 hF
        refine g_iconst dX11_text_40 lt_iconst_1 ?_
        refine g_goto 45 dX11_text_41 (by decide) ?_
        refine g_sub [1, 2, 3, 0] rfl ?_
        exact J_X11_text_45 l b D z hF
  · replace hF := q_t c7 hF
    refine g_iload_n 0 dX11_text_14 rfl ?_
    refine g_if_lt 27 dX11_text_15 (by decide) (fun c10 => ?_) (fun c10 => ?_)
    · replace hF := q_t c10 hF
      refine g_sub [1, 2, 3, 0] rfl ?_
      exact J_X11_text_27 l b D z hF
    · replace hF := q_f c10 hF
      refine g_iload_n 0 dX11_text_18 rfl ?_
      refine g_iconst dX11_text_19 lt_iconst_2 ?_
      refine g_icmp_ge 27 dX11_text_20 (by decide) (fun c11 => ?_) (fun c11 => ?_)
      · replace hF := q_t c11 hF
        refine g_sub [1, 2, 3, 0] rfl ?_
        exact J_X11_text_27 l b D z hF
      · replace hF := q_f c11 hF
        refine g_iconst dX11_text_23 lt_iconst_1 ?_
        refine g_goto 45 dX11_text_24 (by decide) ?_
        refine g_sub [1, 2, 3, 0] rfl ?_
        exact J_X11_text_45 l b D z hF
def rm_X11_fault : Room := { frames := 0, cells := 0, slots := 0, locals := 0 }
set_option maxRecDepth 100000 in
set_option maxHeartbeats 4000000 in
theorem M_X11_fault (l : Launch) (b : Nat) (D : va_G) (z : Nat → Nat) (nx : Nat) {h : qH} {a0 : Nat} {a1 : Int32} {r : Int32} (hF : F_X11_fault h a0 a1 = some r) : Me l b D z yX11_fault cX11_fault 2 (some .int) rm_X11_fault [.ref a0, .int a1] h nx (qE (some (.int r)) h nx) := by
  refine Me.of (by decide +kernel) (Nat.le_of_ble_eq_true rfl) ?_
  show Go l b D z yX11_fault cX11_fault 2 (some .int) rm_X11_fault (qE (some (.int r)) h nx) 0 [(0, .ref a0), (1, .int a1)] [] h nx 0 0
  unfold F_X11_fault at hF
  refine g_iload_n 1 dX11_fault_0 rfl ?_
  refine g_if_ne 12 dX11_fault_1 (by decide) (fun c1 => ?_) (fun c1 => ?_)
  · replace hF := q_f c1 hF
    refine g_iload_n 1 dX11_fault_12 rfl ?_
    refine g_iconst dX11_fault_13 lt_iconst_1 ?_
    refine g_icmp_ne 27 dX11_fault_14 (by decide) (fun c2 => ?_) (fun c2 => ?_)
    · replace hF := q_f c2 hF
      refine g_iconst dX11_fault_27 lt_iconst_m1 ?_
      cases hF
      exact g_iret dX11_fault_28 rfl ⟨rfl, rfl, rfl⟩ (Nat.le_of_ble_eq_true rfl) (Nat.le_of_ble_eq_true rfl)
    · replace hF := q_t c2 hF
      refine g_aload_n 0 dX11_fault_17 rfl ?_
      obtain ⟨x3, e4, hF⟩ := q_bind hF
      refine g_getfR fl_X11_10 e4 dX11_fault_18 ?_
      obtain ⟨x5, e6, hF⟩ := q_bind hF
      refine g_getfI fl_X11_77 e6 dX11_fault_21 ?_
      refine g_goto 28 dX11_fault_24 (by decide) ?_
      cases hF
      exact g_iret dX11_fault_28 rfl ⟨rfl, rfl, rfl⟩ (Nat.le_of_ble_eq_true rfl) (Nat.le_of_ble_eq_true rfl)
  · replace hF := q_t c1 hF
    refine g_aload_n 0 dX11_fault_4 rfl ?_
    obtain ⟨x7, e8, hF⟩ := q_bind hF
    refine g_getfR fl_X11_10 e8 dX11_fault_5 ?_
    obtain ⟨x9, e10, hF⟩ := q_bind hF
    refine g_getfI fl_X11_74 e10 dX11_fault_8 ?_
    cases hF
    exact g_iret dX11_fault_11 rfl ⟨rfl, rfl, rfl⟩ (Nat.le_of_ble_eq_true rfl) (Nat.le_of_ble_eq_true rfl)
def rm_X11_book : Room := { frames := 4, cells := 0, slots := 0, locals := 86 }
set_option maxRecDepth 100000 in
set_option maxHeartbeats 4000000 in
theorem M_X11_book (l : Launch) (b : Nat) (D : va_G) (z : Nat → Nat) (nx : Nat) {h : qH} {a0 : Nat} {a1 : Int32} {a2 : Int32} {r : Int32} (hF : F_X11_book h a0 a1 a2 = some r) : Me l b D z yX11_book cX11_book 4 (some .int) rm_X11_book [.ref a0, .int a1, .int a2] h nx (qE (some (.int r)) h nx) := by
  refine Me.of (by decide +kernel) (Nat.le_of_ble_eq_true rfl) ?_
  show Go l b D z yX11_book cX11_book 4 (some .int) rm_X11_book (qE (some (.int r)) h nx) 0 [(0, .ref a0), (1, .int a1), (2, .int a2)] [] h nx 0 0
  unfold F_X11_book at hF
  refine g_aload_n 0 dX11_book_0 rfl ?_
  obtain ⟨x1, e2, hF⟩ := q_bind hF
  refine g_getfR fl_X11_10 e2 dX11_book_1 ?_
  refine g_iload_n 1 dX11_book_4 rfl ?_
  obtain ⟨u3, e4, hF⟩ := q_bind hF
  obtain ⟨x5, e6, hF⟩ := q_bind hF
  refine g_callVr0 (ci := 9) (q := (RX9, TX9, 9)) qm_X9_bookAt wd_858 wd_736 wd_737 rfl e4 (M_X9_bookAt l b D z nx e6) (As := [.int a1]) rfl rfl (Nat.le_of_ble_eq_true rfl) ⟨(Nat.le_of_ble_eq_true rfl), (Nat.le_of_ble_eq_true rfl)⟩ ⟨rfl, rfl⟩ ⟨(Nat.le_of_ble_eq_true rfl), (Nat.le_of_ble_eq_true rfl)⟩ dX11_book_5 ?_
  rcases x5 with _ | x8
  · replace hF := q_en hF
    refine g_astore_nN [(3, .null), (0, .ref a0), (1, .int a1), (2, .int a2)] dX11_book_8 (Nat.le_of_ble_eq_true rfl) rfl ?_
    refine g_aload_nN 0 dX11_book_9 rfl ?_
    refine g_ifnonnullN dX11_book_10 ?_
    refine g_bipush dX11_book_13 lt_bipush_m2 ?_
    refine g_goto 23 dX11_book_15 (by decide) ?_
    cases hF
    exact g_iret dX11_book_23 rfl ⟨rfl, rfl, rfl⟩ (Nat.le_of_ble_eq_true rfl) (Nat.le_of_ble_eq_true rfl)
  · replace hF := q_es hF
    refine g_astore_n [(3, .ref x8), (0, .ref a0), (1, .int a1), (2, .int a2)] dX11_book_8 (Nat.le_of_ble_eq_true rfl) rfl ?_
    refine g_aload_n 0 dX11_book_9 rfl ?_
    refine g_ifnonnullR 18 dX11_book_10 (by decide) ?_
    refine g_aload_n 0 dX11_book_18 rfl ?_
    refine g_iload_n 3 dX11_book_19 rfl ?_
    obtain ⟨u9, e10, hF⟩ := q_bind hF
    obtain ⟨x11, e12, hF⟩ := q_bind hF
    refine g_callVr0 (ci := 0) (q := (RX0, TX0, 15)) qm_X0_show wd_859 wd_860 wd_861 rfl e10 (M_X0_show l b D z nx e12) (As := [.int a2]) rfl rfl (Nat.le_of_ble_eq_true rfl) ⟨(Nat.le_of_ble_eq_true rfl), (Nat.le_of_ble_eq_true rfl)⟩ ⟨rfl, rfl⟩ ⟨(Nat.le_of_ble_eq_true rfl), (Nat.le_of_ble_eq_true rfl)⟩ dX11_book_20 ?_
    cases hF
    exact g_iret dX11_book_23 rfl ⟨rfl, rfl, rfl⟩ (Nat.le_of_ble_eq_true rfl) (Nat.le_of_ble_eq_true rfl)
def rm_X11_follower : Room := { frames := 1, cells := 0, slots := 0, locals := 22 }
set_option maxRecDepth 100000 in
set_option maxHeartbeats 4000000 in
theorem M_X11_follower (l : Launch) (b : Nat) (D : va_G) (z : Nat → Nat) (nx : Nat) {h : qH} {a0 : Nat} {a1 : Int32} {a2 : Int32} {a3 : Int32} {r : Int32} (hF : F_X11_follower h a0 a1 a2 a3 = some r) : Me l b D z yX11_follower cX11_follower 5 (some .int) rm_X11_follower [.ref a0, .int a1, .int a2, .int a3] h nx (qE (some (.int r)) h nx) := by
  refine Me.of (by decide +kernel) (Nat.le_of_ble_eq_true rfl) ?_
  show Go l b D z yX11_follower cX11_follower 5 (some .int) rm_X11_follower (qE (some (.int r)) h nx) 0 [(0, .ref a0), (1, .int a1), (2, .int a2), (3, .int a3)] [] h nx 0 0
  unfold F_X11_follower at hF
  refine g_aload_n 0 dX11_follower_0 rfl ?_
  obtain ⟨x1, e2, hF⟩ := q_bind hF
  refine g_getfR fl_X11_10 e2 dX11_follower_1 ?_
  refine g_iload_n 1 dX11_follower_4 rfl ?_
  obtain ⟨u3, e4, hF⟩ := q_bind hF
  obtain ⟨x5, e6, hF⟩ := q_bind hF
  refine g_callVr0 (ci := 9) (q := (RX9, TX9, 9)) qm_X9_bookAt wd_858 wd_736 wd_737 rfl e4 (M_X9_bookAt l b D z nx e6) (As := [.int a1]) rfl rfl (Nat.le_of_ble_eq_true rfl) ⟨(Nat.le_of_ble_eq_true rfl), (Nat.le_of_ble_eq_true rfl)⟩ ⟨rfl, rfl⟩ ⟨(Nat.le_of_ble_eq_true rfl), (Nat.le_of_ble_eq_true rfl)⟩ dX11_follower_5 ?_
  rcases x5 with _ | x8
  · replace hF := q_en hF
    refine g_astoreN [(4, .null), (0, .ref a0), (1, .int a1), (2, .int a2), (3, .int a3)] dX11_follower_8 (Nat.le_of_ble_eq_true rfl) rfl ?_
    refine g_aloadN 0 dX11_follower_10 rfl ?_
    refine g_ifnonnullN dX11_follower_12 ?_
    refine g_iconst dX11_follower_15 lt_iconst_m1 ?_
    refine g_goto 26 dX11_follower_16 (by decide) ?_
    cases hF
    exact g_iret dX11_follower_26 rfl ⟨rfl, rfl, rfl⟩ (Nat.le_of_ble_eq_true rfl) (Nat.le_of_ble_eq_true rfl)
  · replace hF := q_es hF
    refine g_astore [(4, .ref x8), (0, .ref a0), (1, .int a1), (2, .int a2), (3, .int a3)] dX11_follower_8 (Nat.le_of_ble_eq_true rfl) rfl ?_
    refine g_aload 0 dX11_follower_10 rfl ?_
    refine g_ifnonnullR 19 dX11_follower_12 (by decide) ?_
    refine g_aload 0 dX11_follower_19 rfl ?_
    refine g_iload_n 3 dX11_follower_21 rfl ?_
    refine g_iload_n 4 dX11_follower_22 rfl ?_
    obtain ⟨u9, e10, hF⟩ := q_bind hF
    obtain ⟨x11, e12, hF⟩ := q_bind hF
    refine g_callVr0 (ci := 0) (q := (RX0, TX0, 15)) qm_X0_following wd_879 wd_795 wd_796 rfl e10 (M_X0_following l b D z nx e12) (As := [.int a2, .int a3]) rfl rfl (Nat.le_of_ble_eq_true rfl) ⟨(Nat.le_of_ble_eq_true rfl), (Nat.le_of_ble_eq_true rfl)⟩ ⟨rfl, rfl⟩ ⟨(Nat.le_of_ble_eq_true rfl), (Nat.le_of_ble_eq_true rfl)⟩ dX11_follower_23 ?_
    cases hF
    exact g_iret dX11_follower_26 rfl ⟨rfl, rfl, rfl⟩ (Nat.le_of_ble_eq_true rfl) (Nat.le_of_ble_eq_true rfl)
def rm_X11_deed : Room := { frames := 3, cells := 0, slots := 0, locals := 64 }
set_option maxRecDepth 100000 in
set_option maxHeartbeats 4000000 in
theorem M_X11_deed (l : Launch) (b : Nat) (D : va_G) (z : Nat → Nat) (nx : Nat) {h : qH} {a0 : Nat} {a1 : Int32} {a2 : Int32} {a3 : Int32} {r : Int32} (hF : F_X11_deed h a0 a1 a2 a3 = some r) : Me l b D z yX11_deed cX11_deed 5 (some .int) rm_X11_deed [.ref a0, .int a1, .int a2, .int a3] h nx (qE (some (.int r)) h nx) := by
  refine Me.of (by decide +kernel) (Nat.le_of_ble_eq_true rfl) ?_
  show Go l b D z yX11_deed cX11_deed 5 (some .int) rm_X11_deed (qE (some (.int r)) h nx) 0 [(0, .ref a0), (1, .int a1), (2, .int a2), (3, .int a3)] [] h nx 0 0
  unfold F_X11_deed at hF
  refine g_aload_n 0 dX11_deed_0 rfl ?_
  obtain ⟨x1, e2, hF⟩ := q_bind hF
  refine g_getfR fl_X11_10 e2 dX11_deed_1 ?_
  refine g_iload_n 1 dX11_deed_4 rfl ?_
  obtain ⟨u3, e4, hF⟩ := q_bind hF
  obtain ⟨x5, e6, hF⟩ := q_bind hF
  refine g_callVr0 (ci := 9) (q := (RX9, TX9, 9)) qm_X9_eveningAt wd_884 wd_799 wd_800 rfl e4 (M_X9_eveningAt l b D z nx e6) (As := [.int a1]) rfl rfl (Nat.le_of_ble_eq_true rfl) ⟨(Nat.le_of_ble_eq_true rfl), (Nat.le_of_ble_eq_true rfl)⟩ ⟨rfl, rfl⟩ ⟨(Nat.le_of_ble_eq_true rfl), (Nat.le_of_ble_eq_true rfl)⟩ dX11_deed_5 ?_
  rcases x5 with _ | x8
  · replace hF := q_en hF
    refine g_astoreN [(4, .null), (0, .ref a0), (1, .int a1), (2, .int a2), (3, .int a3)] dX11_deed_8 (Nat.le_of_ble_eq_true rfl) rfl ?_
    refine g_aloadN 0 dX11_deed_10 rfl ?_
    refine g_ifnonnullN dX11_deed_12 ?_
    refine g_bipush dX11_deed_15 lt_bipush_m2 ?_
    refine g_goto 27 dX11_deed_17 (by decide) ?_
    cases hF
    exact g_iret dX11_deed_27 rfl ⟨rfl, rfl, rfl⟩ (Nat.le_of_ble_eq_true rfl) (Nat.le_of_ble_eq_true rfl)
  · replace hF := q_es hF
    refine g_astore [(4, .ref x8), (0, .ref a0), (1, .int a1), (2, .int a2), (3, .int a3)] dX11_deed_8 (Nat.le_of_ble_eq_true rfl) rfl ?_
    refine g_aload 0 dX11_deed_10 rfl ?_
    refine g_ifnonnullR 20 dX11_deed_12 (by decide) ?_
    refine g_aload 0 dX11_deed_20 rfl ?_
    refine g_iload_n 3 dX11_deed_22 rfl ?_
    refine g_iload_n 4 dX11_deed_23 rfl ?_
    obtain ⟨u9, e10, hF⟩ := q_bind hF
    obtain ⟨x11, e12, hF⟩ := q_bind hF
    refine g_callVr0 (ci := 1) (q := (RX1, TX1, 3)) qm_X1_show wd_885 wd_886 wd_887 rfl e10 (M_X1_show l b D z nx e12) (As := [.int a2, .int a3]) rfl rfl (Nat.le_of_ble_eq_true rfl) ⟨(Nat.le_of_ble_eq_true rfl), (Nat.le_of_ble_eq_true rfl)⟩ ⟨rfl, rfl⟩ ⟨(Nat.le_of_ble_eq_true rfl), (Nat.le_of_ble_eq_true rfl)⟩ dX11_deed_24 ?_
    cases hF
    exact g_iret dX11_deed_27 rfl ⟨rfl, rfl, rfl⟩ (Nat.le_of_ble_eq_true rfl) (Nat.le_of_ble_eq_true rfl)
def rm_X11_till : Room := { frames := 5, cells := 0, slots := 0, locals := 116 }
set_option maxRecDepth 100000 in
set_option maxHeartbeats 4000000 in
theorem M_X11_till (l : Launch) (b : Nat) (D : va_G) (z : Nat → Nat) (nx : Nat) {h : qH} {a0 : Nat} {a1 : Int32} {a2 : Int32} {r : Int32 × qH} (hF : F_X11_till h a0 a1 a2 = some r) : Me l b D z yX11_till cX11_till 5 (some .int) rm_X11_till [.ref a0, .int a1, .int a2] h nx (qE (some (.int r.1)) r.2 nx) := by
  refine Me.of (by decide +kernel) (Nat.le_of_ble_eq_true rfl) ?_
  show Go l b D z yX11_till cX11_till 5 (some .int) rm_X11_till (qE (some (.int r.1)) r.2 nx) 0 [(0, .ref a0), (1, .int a1), (2, .int a2)] [] h nx 0 0
  unfold F_X11_till at hF
  refine g_aload_n 0 dX11_till_0 rfl ?_
  obtain ⟨x1, e2, hF⟩ := q_bind hF
  refine g_getfR fl_X11_10 e2 dX11_till_1 ?_
  refine g_iload_n 1 dX11_till_4 rfl ?_
  obtain ⟨u3, e4, hF⟩ := q_bind hF
  obtain ⟨x5, e6, hF⟩ := q_bind hF
  refine g_callVr0 (ci := 9) (q := (RX9, TX9, 9)) qm_X9_bookAt wd_858 wd_736 wd_737 rfl e4 (M_X9_bookAt l b D z nx e6) (As := [.int a1]) rfl rfl (Nat.le_of_ble_eq_true rfl) ⟨(Nat.le_of_ble_eq_true rfl), (Nat.le_of_ble_eq_true rfl)⟩ ⟨rfl, rfl⟩ ⟨(Nat.le_of_ble_eq_true rfl), (Nat.le_of_ble_eq_true rfl)⟩ dX11_till_5 ?_
  rcases x5 with _ | x16
  · replace hF := q_en hF
    refine g_astore_nN [(3, .null), (0, .ref a0), (1, .int a1), (2, .int a2)] dX11_till_8 (Nat.le_of_ble_eq_true rfl) rfl ?_
    refine g_aload_n 1 dX11_till_9 rfl ?_
    obtain ⟨x8, e9, hF⟩ := q_bind hF
    refine g_getfR fl_X11_10 e9 dX11_till_10 ?_
    refine g_iload_n 3 dX11_till_13 rfl ?_
    obtain ⟨u10, e11, hF⟩ := q_bind hF
    obtain ⟨x12, e13, hF⟩ := q_bind hF
    refine g_callVr0 (ci := 9) (q := (RX9, TX9, 9)) qm_X9_eveningAt wd_884 wd_799 wd_800 rfl e11 (M_X9_eveningAt l b D z nx e13) (As := [.int a2]) rfl rfl (Nat.le_of_ble_eq_true rfl) ⟨(Nat.le_of_ble_eq_true rfl), (Nat.le_of_ble_eq_true rfl)⟩ ⟨rfl, rfl⟩ ⟨(Nat.le_of_ble_eq_true rfl), (Nat.le_of_ble_eq_true rfl)⟩ dX11_till_14 ?_
    rcases x12 with _ | x15
    · replace hF := q_en hF
      refine g_astoreN [(4, .null), (3, .null), (0, .ref a0), (1, .int a1), (2, .int a2)] dX11_till_17 (Nat.le_of_ble_eq_true rfl) rfl ?_
      refine g_aload_nN 1 dX11_till_19 rfl ?_
      refine g_ifnullN 28 dX11_till_20 (by decide) ?_
      refine g_iconst dX11_till_28 lt_iconst_m1 ?_
      cases hF
      exact g_iret dX11_till_29 rfl ⟨rfl, rfl, rfl⟩ (Nat.le_of_ble_eq_true rfl) (Nat.le_of_ble_eq_true rfl)
    · replace hF := q_es hF
      refine g_astore [(4, .ref x15), (3, .null), (0, .ref a0), (1, .int a1), (2, .int a2)] dX11_till_17 (Nat.le_of_ble_eq_true rfl) rfl ?_
      refine g_aload_nN 1 dX11_till_19 rfl ?_
      refine g_ifnullN 28 dX11_till_20 (by decide) ?_
      refine g_iconst dX11_till_28 lt_iconst_m1 ?_
      cases hF
      exact g_iret dX11_till_29 rfl ⟨rfl, rfl, rfl⟩ (Nat.le_of_ble_eq_true rfl) (Nat.le_of_ble_eq_true rfl)
  · replace hF := q_es hF
    refine g_astore_n [(3, .ref x16), (0, .ref a0), (1, .int a1), (2, .int a2)] dX11_till_8 (Nat.le_of_ble_eq_true rfl) rfl ?_
    refine g_aload_n 1 dX11_till_9 rfl ?_
    obtain ⟨x17, e18, hF⟩ := q_bind hF
    refine g_getfR fl_X11_10 e18 dX11_till_10 ?_
    refine g_iload_n 3 dX11_till_13 rfl ?_
    obtain ⟨u19, e20, hF⟩ := q_bind hF
    obtain ⟨x21, e22, hF⟩ := q_bind hF
    refine g_callVr0 (ci := 9) (q := (RX9, TX9, 9)) qm_X9_eveningAt wd_884 wd_799 wd_800 rfl e20 (M_X9_eveningAt l b D z nx e22) (As := [.int a2]) rfl rfl (Nat.le_of_ble_eq_true rfl) ⟨(Nat.le_of_ble_eq_true rfl), (Nat.le_of_ble_eq_true rfl)⟩ ⟨rfl, rfl⟩ ⟨(Nat.le_of_ble_eq_true rfl), (Nat.le_of_ble_eq_true rfl)⟩ dX11_till_14 ?_
    rcases x21 with _ | x24
    · replace hF := q_en hF
      refine g_astoreN [(4, .null), (3, .ref x16), (0, .ref a0), (1, .int a1), (2, .int a2)] dX11_till_17 (Nat.le_of_ble_eq_true rfl) rfl ?_
      refine g_aload_n 1 dX11_till_19 rfl ?_
      refine g_ifnullR dX11_till_20 ?_
      refine g_aloadN 0 dX11_till_23 rfl ?_
      refine g_ifnonnullN dX11_till_25 ?_
      refine g_iconst dX11_till_28 lt_iconst_m1 ?_
      cases hF
      exact g_iret dX11_till_29 rfl ⟨rfl, rfl, rfl⟩ (Nat.le_of_ble_eq_true rfl) (Nat.le_of_ble_eq_true rfl)
    · replace hF := q_es hF
      refine g_astore [(4, .ref x24), (3, .ref x16), (0, .ref a0), (1, .int a1), (2, .int a2)] dX11_till_17 (Nat.le_of_ble_eq_true rfl) rfl ?_
      refine g_aload_n 1 dX11_till_19 rfl ?_
      refine g_ifnullR dX11_till_20 ?_
      refine g_aload 0 dX11_till_23 rfl ?_
      refine g_ifnonnullR 30 dX11_till_25 (by decide) ?_
      refine g_aload_n 2 dX11_till_30 rfl ?_
      obtain ⟨x25, e26, hF⟩ := q_bind hF
      refine g_getfR fl_X11_30 e26 dX11_till_31 ?_
      refine g_aload_n 1 dX11_till_34 rfl ?_
      refine g_aload 0 dX11_till_35 rfl ?_
      refine g_aload 0 dX11_till_37 rfl ?_
      obtain ⟨x27, e28, hF⟩ := q_bind hF
      refine g_getfI fl_X11_114 e28 dX11_till_39 ?_
      obtain ⟨u29, e30, hF⟩ := q_bind hF
      obtain ⟨x31, e32, hF⟩ := q_bind hF
      refine g_callVr0 (ci := 8) (q := (RX8, TX8, 11)) qm_X8_play wd_905 wd_906 wd_907 rfl e30 (M_X8_play l b D z nx e32) (As := [.ref x16, .ref x24, .int x27]) rfl rfl (Nat.le_of_ble_eq_true rfl) ⟨(Nat.le_of_ble_eq_true rfl), (Nat.le_of_ble_eq_true rfl)⟩ ⟨rfl, rfl⟩ ⟨(Nat.le_of_ble_eq_true rfl), (Nat.le_of_ble_eq_true rfl)⟩ dX11_till_42 ?_
      cases hF
      exact g_iret dX11_till_45 rfl ⟨rfl, rfl, rfl⟩ (Nat.le_of_ble_eq_true rfl) (Nat.le_of_ble_eq_true rfl)
def rm_X11_state : Room := { frames := 5, cells := 0, slots := 0, locals := 116 }
set_option maxRecDepth 100000 in
set_option maxHeartbeats 4000000 in
theorem M_X11_state (l : Launch) (b : Nat) (D : va_G) (z : Nat → Nat) (nx : Nat) {h : qH} {a0 : Nat} {a1 : Int32} {a2 : Int32} {a3 : Int32} {a4 : Int32} {r : Int32 × qH} (hF : F_X11_state h a0 a1 a2 a3 a4 = some r) : Me l b D z yX11_state cX11_state 7 (some .int) rm_X11_state [.ref a0, .int a1, .int a2, .int a3, .int a4] h nx (qE (some (.int r.1)) r.2 nx) := by
  refine Me.of (by decide +kernel) (Nat.le_of_ble_eq_true rfl) ?_
  show Go l b D z yX11_state cX11_state 7 (some .int) rm_X11_state (qE (some (.int r.1)) r.2 nx) 0 [(0, .ref a0), (1, .int a1), (2, .int a2), (3, .int a3), (4, .int a4)] [] h nx 0 0
  unfold F_X11_state at hF
  refine g_aload_n 0 dX11_state_0 rfl ?_
  obtain ⟨x1, e2, hF⟩ := q_bind hF
  refine g_getfR fl_X11_10 e2 dX11_state_1 ?_
  refine g_iload_n 1 dX11_state_4 rfl ?_
  obtain ⟨u3, e4, hF⟩ := q_bind hF
  obtain ⟨x5, e6, hF⟩ := q_bind hF
  refine g_callVr0 (ci := 9) (q := (RX9, TX9, 9)) qm_X9_bookAt wd_858 wd_736 wd_737 rfl e4 (M_X9_bookAt l b D z nx e6) (As := [.int a1]) rfl rfl (Nat.le_of_ble_eq_true rfl) ⟨(Nat.le_of_ble_eq_true rfl), (Nat.le_of_ble_eq_true rfl)⟩ ⟨rfl, rfl⟩ ⟨(Nat.le_of_ble_eq_true rfl), (Nat.le_of_ble_eq_true rfl)⟩ dX11_state_5 ?_
  rcases x5 with _ | x16
  · replace hF := q_en hF
    refine g_astoreN [(5, .null), (0, .ref a0), (1, .int a1), (2, .int a2), (3, .int a3), (4, .int a4)] dX11_state_8 (Nat.le_of_ble_eq_true rfl) rfl ?_
    refine g_aload_n 1 dX11_state_10 rfl ?_
    obtain ⟨x8, e9, hF⟩ := q_bind hF
    refine g_getfR fl_X11_10 e9 dX11_state_11 ?_
    refine g_iload_n 3 dX11_state_14 rfl ?_
    obtain ⟨u10, e11, hF⟩ := q_bind hF
    obtain ⟨x12, e13, hF⟩ := q_bind hF
    refine g_callVr0 (ci := 9) (q := (RX9, TX9, 9)) qm_X9_eveningAt wd_884 wd_799 wd_800 rfl e11 (M_X9_eveningAt l b D z nx e13) (As := [.int a2]) rfl rfl (Nat.le_of_ble_eq_true rfl) ⟨(Nat.le_of_ble_eq_true rfl), (Nat.le_of_ble_eq_true rfl)⟩ ⟨rfl, rfl⟩ ⟨(Nat.le_of_ble_eq_true rfl), (Nat.le_of_ble_eq_true rfl)⟩ dX11_state_15 ?_
    rcases x12 with _ | x15
    · replace hF := q_en hF
      refine g_astoreN [(6, .null), (5, .null), (0, .ref a0), (1, .int a1), (2, .int a2), (3, .int a3), (4, .int a4)] dX11_state_18 (Nat.le_of_ble_eq_true rfl) rfl ?_
      refine g_aloadN 1 dX11_state_20 rfl ?_
      refine g_ifnullN 43 dX11_state_22 (by decide) ?_
      refine g_bipush dX11_state_43 lt_bipush_m2 ?_
      cases hF
      exact g_iret dX11_state_45 rfl ⟨rfl, rfl, rfl⟩ (Nat.le_of_ble_eq_true rfl) (Nat.le_of_ble_eq_true rfl)
    · replace hF := q_es hF
      refine g_astore [(6, .ref x15), (5, .null), (0, .ref a0), (1, .int a1), (2, .int a2), (3, .int a3), (4, .int a4)] dX11_state_18 (Nat.le_of_ble_eq_true rfl) rfl ?_
      refine g_aloadN 1 dX11_state_20 rfl ?_
      refine g_ifnullN 43 dX11_state_22 (by decide) ?_
      refine g_bipush dX11_state_43 lt_bipush_m2 ?_
      cases hF
      exact g_iret dX11_state_45 rfl ⟨rfl, rfl, rfl⟩ (Nat.le_of_ble_eq_true rfl) (Nat.le_of_ble_eq_true rfl)
  · replace hF := q_es hF
    refine g_astore [(5, .ref x16), (0, .ref a0), (1, .int a1), (2, .int a2), (3, .int a3), (4, .int a4)] dX11_state_8 (Nat.le_of_ble_eq_true rfl) rfl ?_
    refine g_aload_n 1 dX11_state_10 rfl ?_
    obtain ⟨x17, e18, hF⟩ := q_bind hF
    refine g_getfR fl_X11_10 e18 dX11_state_11 ?_
    refine g_iload_n 3 dX11_state_14 rfl ?_
    obtain ⟨u19, e20, hF⟩ := q_bind hF
    obtain ⟨x21, e22, hF⟩ := q_bind hF
    refine g_callVr0 (ci := 9) (q := (RX9, TX9, 9)) qm_X9_eveningAt wd_884 wd_799 wd_800 rfl e20 (M_X9_eveningAt l b D z nx e22) (As := [.int a2]) rfl rfl (Nat.le_of_ble_eq_true rfl) ⟨(Nat.le_of_ble_eq_true rfl), (Nat.le_of_ble_eq_true rfl)⟩ ⟨rfl, rfl⟩ ⟨(Nat.le_of_ble_eq_true rfl), (Nat.le_of_ble_eq_true rfl)⟩ dX11_state_15 ?_
    rcases x21 with _ | x24
    · replace hF := q_en hF
      refine g_astoreN [(6, .null), (5, .ref x16), (0, .ref a0), (1, .int a1), (2, .int a2), (3, .int a3), (4, .int a4)] dX11_state_18 (Nat.le_of_ble_eq_true rfl) rfl ?_
      refine g_aload 1 dX11_state_20 rfl ?_
      refine g_ifnullR dX11_state_22 ?_
      refine g_aloadN 0 dX11_state_25 rfl ?_
      refine g_ifnullN 43 dX11_state_27 (by decide) ?_
      refine g_bipush dX11_state_43 lt_bipush_m2 ?_
      cases hF
      exact g_iret dX11_state_45 rfl ⟨rfl, rfl, rfl⟩ (Nat.le_of_ble_eq_true rfl) (Nat.le_of_ble_eq_true rfl)
    · replace hF := q_es hF
      refine g_astore [(6, .ref x24), (5, .ref x16), (0, .ref a0), (1, .int a1), (2, .int a2), (3, .int a3), (4, .int a4)] dX11_state_18 (Nat.le_of_ble_eq_true rfl) rfl ?_
      refine g_aload 1 dX11_state_20 rfl ?_
      refine g_ifnullR dX11_state_22 ?_
      refine g_aload 0 dX11_state_25 rfl ?_
      refine g_ifnullR dX11_state_27 ?_
      refine g_iload_n 5 dX11_state_30 rfl ?_
      refine g_if_lt 43 dX11_state_31 (by decide) (fun c25 => ?_) (fun c25 => ?_)
      · replace hF := q_t c25 hF
        refine g_bipush dX11_state_43 lt_bipush_m2 ?_
        cases hF
        exact g_iret dX11_state_45 rfl ⟨rfl, rfl, rfl⟩ (Nat.le_of_ble_eq_true rfl) (Nat.le_of_ble_eq_true rfl)
      · replace hF := q_f c25 hF
        refine g_iload_n 5 dX11_state_34 rfl ?_
        refine g_aload 0 dX11_state_35 rfl ?_
        obtain ⟨x26, e27, hF⟩ := q_bind hF
        refine g_getfI fl_X11_114 e27 dX11_state_37 ?_
        refine g_icmp_le 46 dX11_state_40 (by decide) (fun c28 => ?_) (fun c28 => ?_)
        · replace hF := q_t c28 hF
          refine g_aload_n 2 dX11_state_46 rfl ?_
          obtain ⟨x29, e30, hF⟩ := q_bind hF
          refine g_getfR fl_X11_30 e30 dX11_state_47 ?_
          refine g_aload 1 dX11_state_50 rfl ?_
          refine g_aload 0 dX11_state_52 rfl ?_
          refine g_iload_n 5 dX11_state_54 rfl ?_
          obtain ⟨u31, e32, hF⟩ := q_bind hF
          obtain ⟨x33, e34, hF⟩ := q_bind hF
          refine g_callVr0 (ci := 8) (q := (RX8, TX8, 11)) qm_X8_play wd_905 wd_906 wd_907 rfl e32 (M_X8_play l b D z nx e34) (As := [.ref x16, .ref x24, .int a3]) rfl rfl (Nat.le_of_ble_eq_true rfl) ⟨(Nat.le_of_ble_eq_true rfl), (Nat.le_of_ble_eq_true rfl)⟩ ⟨rfl, rfl⟩ ⟨(Nat.le_of_ble_eq_true rfl), (Nat.le_of_ble_eq_true rfl)⟩ dX11_state_55 ?_
          refine g_iload_n 5 dX11_state_58 rfl ?_
          refine g_icmp_ge 65 dX11_state_59 (by decide) (fun c35 => ?_) (fun c35 => ?_)
          · replace hF := q_t c35 hF
            refine g_aload_n 2 dX11_state_65 rfl ?_
            obtain ⟨x36, e37, hF⟩ := q_bind hF
            refine g_getfR fl_X11_30 e37 dX11_state_66 ?_
            refine g_aload 1 dX11_state_69 rfl ?_
            refine g_iload 6 dX11_state_71 rfl ?_
            obtain ⟨u38, e39, hF⟩ := q_bind hF
            obtain ⟨x40, e41, hF⟩ := q_bind hF
            refine g_callVr0 (ci := 8) (q := (RX8, TX8, 11)) qm_X8_show wd_967 wd_968 wd_969 rfl e39 (M_X8_show l b D z nx e41) (As := [.ref x16, .int a4]) rfl rfl (Nat.le_of_ble_eq_true rfl) ⟨(Nat.le_of_ble_eq_true rfl), (Nat.le_of_ble_eq_true rfl)⟩ ⟨rfl, rfl⟩ ⟨(Nat.le_of_ble_eq_true rfl), (Nat.le_of_ble_eq_true rfl)⟩ dX11_state_73 ?_
            cases hF
            exact g_iret dX11_state_76 rfl ⟨rfl, rfl, rfl⟩ (Nat.le_of_ble_eq_true rfl) (Nat.le_of_ble_eq_true rfl)
          · replace hF := q_f c35 hF
            refine g_bipush dX11_state_62 lt_bipush_m2 ?_
            cases hF
            exact g_iret dX11_state_64 rfl ⟨rfl, rfl, rfl⟩ (Nat.le_of_ble_eq_true rfl) (Nat.le_of_ble_eq_true rfl)
        · replace hF := q_f c28 hF
          refine g_bipush dX11_state_43 lt_bipush_m2 ?_
          cases hF
          exact g_iret dX11_state_45 rfl ⟨rfl, rfl, rfl⟩ (Nat.le_of_ble_eq_true rfl) (Nat.le_of_ble_eq_true rfl)
def rm_X11_isScene : Room := { frames := 0, cells := 0, slots := 0, locals := 0 }
set_option maxRecDepth 100000 in
set_option maxHeartbeats 4000000 in
theorem M_X11_isScene (l : Launch) (b : Nat) (D : va_G) (z : Nat → Nat) (nx : Nat) {h : qH} {a0 : Int32} {r : Int32} (hF : F_X11_isScene h a0 = some r) : Me l b D z yX11_isScene cX11_isScene 1 (some .boolean) rm_X11_isScene [.int a0] h nx (qE (some (.int r)) h nx) := by
  refine Me.of (by decide +kernel) (Nat.le_of_ble_eq_true rfl) ?_
  show Go l b D z yX11_isScene cX11_isScene 1 (some .boolean) rm_X11_isScene (qE (some (.int r)) h nx) 0 [(0, .int a0)] [] h nx 0 0
  unfold F_X11_isScene at hF
  refine g_iload_n 0 dX11_isScene_0 rfl ?_
  refine g_if_lt 14 dX11_isScene_1 (by decide) (fun c1 => ?_) (fun c1 => ?_)
  · replace hF := q_t c1 hF
    refine g_iconst dX11_isScene_14 lt_iconst_0 ?_
    cases hF
    exact g_zret dX11_isScene_15 rfl zn_0 ⟨rfl, rfl, rfl⟩ (Nat.le_of_ble_eq_true rfl) (Nat.le_of_ble_eq_true rfl)
  · replace hF := q_f c1 hF
    refine g_iload_n 0 dX11_isScene_4 rfl ?_
    refine g_bipush dX11_isScene_5 lt_bipush_10 ?_
    refine g_icmp_ge 14 dX11_isScene_7 (by decide) (fun c2 => ?_) (fun c2 => ?_)
    · replace hF := q_t c2 hF
      refine g_iconst dX11_isScene_14 lt_iconst_0 ?_
      cases hF
      exact g_zret dX11_isScene_15 rfl zn_0 ⟨rfl, rfl, rfl⟩ (Nat.le_of_ble_eq_true rfl) (Nat.le_of_ble_eq_true rfl)
    · replace hF := q_f c2 hF
      refine g_iconst dX11_isScene_10 lt_iconst_1 ?_
      refine g_goto 15 dX11_isScene_11 (by decide) ?_
      cases hF
      exact g_zret dX11_isScene_15 rfl zn_1 ⟨rfl, rfl, rfl⟩ (Nat.le_of_ble_eq_true rfl) (Nat.le_of_ble_eq_true rfl)
def rm_X11_avoid : Room := { frames := 5, cells := 0, slots := 0, locals := 116 }
set_option maxRecDepth 100000 in
set_option maxHeartbeats 4000000 in
theorem M_X11_avoid (l : Launch) (b : Nat) (D : va_G) (z : Nat → Nat) (nx : Nat) {h : qH} {a0 : Nat} {a1 : Int32} {a2 : Int32} {a3 : Int32} {a4 : Int32} {r : Int32 × qH} (hF : F_X11_avoid h a0 a1 a2 a3 a4 = some r) : Me l b D z yX11_avoid cX11_avoid 7 (some .int) rm_X11_avoid [.ref a0, .int a1, .int a2, .int a3, .int a4] h nx (qE (some (.int r.1)) r.2 nx) := by
  refine Me.of (by decide +kernel) (Nat.le_of_ble_eq_true rfl) ?_
  show Go l b D z yX11_avoid cX11_avoid 7 (some .int) rm_X11_avoid (qE (some (.int r.1)) r.2 nx) 0 [(0, .ref a0), (1, .int a1), (2, .int a2), (3, .int a3), (4, .int a4)] [] h nx 0 0
  unfold F_X11_avoid at hF
  refine g_aload_n 0 dX11_avoid_0 rfl ?_
  obtain ⟨x1, e2, hF⟩ := q_bind hF
  refine g_getfR fl_X11_10 e2 dX11_avoid_1 ?_
  refine g_iload_n 1 dX11_avoid_4 rfl ?_
  obtain ⟨u3, e4, hF⟩ := q_bind hF
  obtain ⟨x5, e6, hF⟩ := q_bind hF
  refine g_callVr0 (ci := 9) (q := (RX9, TX9, 9)) qm_X9_bookAt wd_858 wd_736 wd_737 rfl e4 (M_X9_bookAt l b D z nx e6) (As := [.int a1]) rfl rfl (Nat.le_of_ble_eq_true rfl) ⟨(Nat.le_of_ble_eq_true rfl), (Nat.le_of_ble_eq_true rfl)⟩ ⟨rfl, rfl⟩ ⟨(Nat.le_of_ble_eq_true rfl), (Nat.le_of_ble_eq_true rfl)⟩ dX11_avoid_5 ?_
  rcases x5 with _ | x8
  · replace hF := q_en hF
    refine g_astoreN [(5, .null), (0, .ref a0), (1, .int a1), (2, .int a2), (3, .int a3), (4, .int a4)] dX11_avoid_8 (Nat.le_of_ble_eq_true rfl) rfl ?_
    refine g_aloadN 0 dX11_avoid_10 rfl ?_
    refine g_ifnullN 39 dX11_avoid_12 (by decide) ?_
    refine g_iconst dX11_avoid_39 lt_iconst_m1 ?_
    cases hF
    exact g_iret dX11_avoid_40 rfl ⟨rfl, rfl, rfl⟩ (Nat.le_of_ble_eq_true rfl) (Nat.le_of_ble_eq_true rfl)
  · replace hF := q_es hF
    refine g_astore [(5, .ref x8), (0, .ref a0), (1, .int a1), (2, .int a2), (3, .int a3), (4, .int a4)] dX11_avoid_8 (Nat.le_of_ble_eq_true rfl) rfl ?_
    refine g_aload 0 dX11_avoid_10 rfl ?_
    refine g_ifnullR dX11_avoid_12 ?_
    refine g_iload_n 3 dX11_avoid_15 rfl ?_
    obtain ⟨x9, e10, hF⟩ := q_bind hF
    refine g_callSr0 qm_X11_isScene wd_980 wd_981 (M_X11_isScene l b D z nx e10) (As := [.int a2]) rfl rfl (Nat.le_of_ble_eq_true rfl) ⟨(Nat.le_of_ble_eq_true rfl), (Nat.le_of_ble_eq_true rfl)⟩ ⟨rfl, rfl⟩ ⟨(Nat.le_of_ble_eq_true rfl), (Nat.le_of_ble_eq_true rfl)⟩ dX11_avoid_16 ?_
    refine g_if_eq 39 dX11_avoid_19 (by decide) (fun c11 => ?_) (fun c11 => ?_)
    · replace hF := q_t c11 hF
      refine g_iconst dX11_avoid_39 lt_iconst_m1 ?_
      cases hF
      exact g_iret dX11_avoid_40 rfl ⟨rfl, rfl, rfl⟩ (Nat.le_of_ble_eq_true rfl) (Nat.le_of_ble_eq_true rfl)
    · replace hF := q_f c11 hF
      refine g_iload_n 4 dX11_avoid_22 rfl ?_
      refine g_iconst dX11_avoid_23 lt_iconst_1 ?_
      refine g_icmp_lt 39 dX11_avoid_24 (by decide) (fun c12 => ?_) (fun c12 => ?_)
      · replace hF := q_t c12 hF
        refine g_iconst dX11_avoid_39 lt_iconst_m1 ?_
        cases hF
        exact g_iret dX11_avoid_40 rfl ⟨rfl, rfl, rfl⟩ (Nat.le_of_ble_eq_true rfl) (Nat.le_of_ble_eq_true rfl)
      · replace hF := q_f c12 hF
        refine g_iload_n 4 dX11_avoid_27 rfl ?_
        refine g_bipush dX11_avoid_28 lt_bipush_20 ?_
        refine g_icmp_gt 39 dX11_avoid_30 (by decide) (fun c13 => ?_) (fun c13 => ?_)
        · replace hF := q_t c13 hF
          refine g_iconst dX11_avoid_39 lt_iconst_m1 ?_
          cases hF
          exact g_iret dX11_avoid_40 rfl ⟨rfl, rfl, rfl⟩ (Nat.le_of_ble_eq_true rfl) (Nat.le_of_ble_eq_true rfl)
        · replace hF := q_f c13 hF
          refine g_iload 5 dX11_avoid_33 rfl ?_
          refine g_iconst dX11_avoid_35 lt_iconst_m1 ?_
          refine g_icmp_ge 41 dX11_avoid_36 (by decide) (fun c14 => ?_) (fun c14 => ?_)
          · replace hF := q_t c14 hF
            refine g_aload_n 1 dX11_avoid_41 rfl ?_
            obtain ⟨x15, e16, hF⟩ := q_bind hF
            refine g_getfR fl_X11_37 e16 dX11_avoid_42 ?_
            refine g_aload 0 dX11_avoid_45 rfl ?_
            refine g_iload_n 3 dX11_avoid_47 rfl ?_
            refine g_iload_n 4 dX11_avoid_48 rfl ?_
            obtain ⟨u17, e18, hF⟩ := q_bind hF
            obtain ⟨x19, e20, hF⟩ := q_bind hF
            refine g_callVr0 (ci := 6) (q := (RX6, TX6, 7)) qm_X6_fewestWithout wd_983 wd_984 wd_985 rfl e18 (M_X6_fewestWithout l b D z nx e20) (As := [.ref x8, .int a2, .int a3]) rfl rfl (Nat.le_of_ble_eq_true rfl) ⟨(Nat.le_of_ble_eq_true rfl), (Nat.le_of_ble_eq_true rfl)⟩ ⟨rfl, rfl⟩ ⟨(Nat.le_of_ble_eq_true rfl), (Nat.le_of_ble_eq_true rfl)⟩ dX11_avoid_49 ?_
            refine g_istore [(6, .int x19.1), (5, .ref x8), (0, .ref a0), (1, .int a1), (2, .int a2), (3, .int a3), (4, .int a4)] dX11_avoid_52 (Nat.le_of_ble_eq_true rfl) rfl ?_
            refine g_iload 6 dX11_avoid_54 rfl ?_
            refine g_iconst dX11_avoid_56 lt_iconst_m1 ?_
            refine g_icmp_eq 66 dX11_avoid_57 (by decide) (fun c21 => ?_) (fun c21 => ?_)
            · replace hF := q_t c21 hF
              refine g_iload 0 dX11_avoid_66 rfl ?_
              cases hF
              exact g_iret dX11_avoid_68 rfl ⟨rfl, rfl, rfl⟩ (Nat.le_of_ble_eq_true rfl) (Nat.le_of_ble_eq_true rfl)
            · replace hF := q_f c21 hF
              refine g_iload 0 dX11_avoid_60 rfl ?_
              refine g_iconst dX11_avoid_62 lt_iconst_m1 ?_
              refine g_icmp_ne 69 dX11_avoid_63 (by decide) (fun c22 => ?_) (fun c22 => ?_)
              · replace hF := q_f c22 hF
                refine g_aload_n 2 dX11_avoid_69 rfl ?_
                obtain ⟨x23, e24, hF⟩ := q_bind hF
                refine g_getfR fl_X11_37 e24 dX11_avoid_70 ?_
                refine g_aload 1 dX11_avoid_73 rfl ?_
                refine g_iload_n 5 dX11_avoid_75 rfl ?_
                refine g_iload 6 dX11_avoid_76 rfl ?_
                obtain ⟨u25, e26, hF⟩ := q_bind hF
                obtain ⟨x27, e28, hF⟩ := q_bind hF
                refine g_callVr0 (ci := 6) (q := (RX6, TX6, 7)) qm_X6_lineWithout wd_1010 wd_1011 wd_1012 rfl e26 (M_X6_lineWithout l b D z nx e28) (As := [.ref x8, .int a3, .int a4]) rfl rfl (Nat.le_of_ble_eq_true rfl) ⟨(Nat.le_of_ble_eq_true rfl), (Nat.le_of_ble_eq_true rfl)⟩ ⟨rfl, rfl⟩ ⟨(Nat.le_of_ble_eq_true rfl), (Nat.le_of_ble_eq_true rfl)⟩ dX11_avoid_78 ?_
                cases hF
                exact g_iret dX11_avoid_81 rfl ⟨rfl, rfl, rfl⟩ (Nat.le_of_ble_eq_true rfl) (Nat.le_of_ble_eq_true rfl)
              · replace hF := q_t c22 hF
                refine g_iload 0 dX11_avoid_66 rfl ?_
                cases hF
                exact g_iret dX11_avoid_68 rfl ⟨rfl, rfl, rfl⟩ (Nat.le_of_ble_eq_true rfl) (Nat.le_of_ble_eq_true rfl)
          · replace hF := q_f c14 hF
            refine g_iconst dX11_avoid_39 lt_iconst_m1 ?_
            cases hF
            exact g_iret dX11_avoid_40 rfl ⟨rfl, rfl, rfl⟩ (Nat.le_of_ble_eq_true rfl) (Nat.le_of_ble_eq_true rfl)
def rm_X11_soonest : Room := { frames := 5, cells := 0, slots := 0, locals := 114 }
set_option maxRecDepth 100000 in
set_option maxHeartbeats 4000000 in
theorem M_X11_soonest (l : Launch) (b : Nat) (D : va_G) (z : Nat → Nat) (nx : Nat) {h : qH} {a0 : Nat} {a1 : Int32} {a2 : Int32} {a3 : Int32} {r : Int32 × qH} (hF : F_X11_soonest h a0 a1 a2 a3 = some r) : Me l b D z yX11_soonest cX11_soonest 5 (some .int) rm_X11_soonest [.ref a0, .int a1, .int a2, .int a3] h nx (qE (some (.int r.1)) r.2 nx) := by
  refine Me.of (by decide +kernel) (Nat.le_of_ble_eq_true rfl) ?_
  show Go l b D z yX11_soonest cX11_soonest 5 (some .int) rm_X11_soonest (qE (some (.int r.1)) r.2 nx) 0 [(0, .ref a0), (1, .int a1), (2, .int a2), (3, .int a3)] [] h nx 0 0
  unfold F_X11_soonest at hF
  refine g_aload_n 0 dX11_soonest_0 rfl ?_
  obtain ⟨x1, e2, hF⟩ := q_bind hF
  refine g_getfR fl_X11_10 e2 dX11_soonest_1 ?_
  refine g_iload_n 1 dX11_soonest_4 rfl ?_
  obtain ⟨u3, e4, hF⟩ := q_bind hF
  obtain ⟨x5, e6, hF⟩ := q_bind hF
  refine g_callVr0 (ci := 9) (q := (RX9, TX9, 9)) qm_X9_bookAt wd_858 wd_736 wd_737 rfl e4 (M_X9_bookAt l b D z nx e6) (As := [.int a1]) rfl rfl (Nat.le_of_ble_eq_true rfl) ⟨(Nat.le_of_ble_eq_true rfl), (Nat.le_of_ble_eq_true rfl)⟩ ⟨rfl, rfl⟩ ⟨(Nat.le_of_ble_eq_true rfl), (Nat.le_of_ble_eq_true rfl)⟩ dX11_soonest_5 ?_
  rcases x5 with _ | x8
  · replace hF := q_en hF
    refine g_astoreN [(4, .null), (0, .ref a0), (1, .int a1), (2, .int a2), (3, .int a3)] dX11_soonest_8 (Nat.le_of_ble_eq_true rfl) rfl ?_
    refine g_aloadN 0 dX11_soonest_10 rfl ?_
    refine g_ifnullN 32 dX11_soonest_12 (by decide) ?_
    refine g_iconst dX11_soonest_32 lt_iconst_m1 ?_
    cases hF
    exact g_iret dX11_soonest_33 rfl ⟨rfl, rfl, rfl⟩ (Nat.le_of_ble_eq_true rfl) (Nat.le_of_ble_eq_true rfl)
  · replace hF := q_es hF
    refine g_astore [(4, .ref x8), (0, .ref a0), (1, .int a1), (2, .int a2), (3, .int a3)] dX11_soonest_8 (Nat.le_of_ble_eq_true rfl) rfl ?_
    refine g_aload 0 dX11_soonest_10 rfl ?_
    refine g_ifnullR dX11_soonest_12 ?_
    refine g_iload_n 3 dX11_soonest_15 rfl ?_
    obtain ⟨x9, e10, hF⟩ := q_bind hF
    refine g_callSr0 qm_X11_isScene wd_980 wd_981 (M_X11_isScene l b D z nx e10) (As := [.int a2]) rfl rfl (Nat.le_of_ble_eq_true rfl) ⟨(Nat.le_of_ble_eq_true rfl), (Nat.le_of_ble_eq_true rfl)⟩ ⟨rfl, rfl⟩ ⟨(Nat.le_of_ble_eq_true rfl), (Nat.le_of_ble_eq_true rfl)⟩ dX11_soonest_16 ?_
    refine g_if_eq 32 dX11_soonest_19 (by decide) (fun c11 => ?_) (fun c11 => ?_)
    · replace hF := q_t c11 hF
      refine g_iconst dX11_soonest_32 lt_iconst_m1 ?_
      cases hF
      exact g_iret dX11_soonest_33 rfl ⟨rfl, rfl, rfl⟩ (Nat.le_of_ble_eq_true rfl) (Nat.le_of_ble_eq_true rfl)
    · replace hF := q_f c11 hF
      refine g_iload_n 4 dX11_soonest_22 rfl ?_
      refine g_if_lt 32 dX11_soonest_23 (by decide) (fun c12 => ?_) (fun c12 => ?_)
      · replace hF := q_t c12 hF
        refine g_iconst dX11_soonest_32 lt_iconst_m1 ?_
        cases hF
        exact g_iret dX11_soonest_33 rfl ⟨rfl, rfl, rfl⟩ (Nat.le_of_ble_eq_true rfl) (Nat.le_of_ble_eq_true rfl)
      · replace hF := q_f c12 hF
        refine g_iload_n 4 dX11_soonest_26 rfl ?_
        refine g_bipush dX11_soonest_27 lt_bipush_9 ?_
        refine g_icmp_le 34 dX11_soonest_29 (by decide) (fun c13 => ?_) (fun c13 => ?_)
        · replace hF := q_t c13 hF
          refine g_aload_n 1 dX11_soonest_34 rfl ?_
          obtain ⟨x14, e15, hF⟩ := q_bind hF
          refine g_getfR fl_X11_37 e15 dX11_soonest_35 ?_
          refine g_aload 0 dX11_soonest_38 rfl ?_
          refine g_iload_n 3 dX11_soonest_40 rfl ?_
          refine g_iload_n 4 dX11_soonest_41 rfl ?_
          obtain ⟨u16, e17, hF⟩ := q_bind hF
          obtain ⟨x18, e19, hF⟩ := q_bind hF
          refine g_callVr0 (ci := 6) (q := (RX6, TX6, 7)) qm_X6_linesUpTo wd_1018 wd_1019 wd_1020 rfl e17 (M_X6_linesUpTo l b D z nx e19) (As := [.ref x8, .int a2, .int a3]) rfl rfl (Nat.le_of_ble_eq_true rfl) ⟨(Nat.le_of_ble_eq_true rfl), (Nat.le_of_ble_eq_true rfl)⟩ ⟨rfl, rfl⟩ ⟨(Nat.le_of_ble_eq_true rfl), (Nat.le_of_ble_eq_true rfl)⟩ dX11_soonest_42 ?_
          cases hF
          exact g_iret dX11_soonest_45 rfl ⟨rfl, rfl, rfl⟩ (Nat.le_of_ble_eq_true rfl) (Nat.le_of_ble_eq_true rfl)
        · replace hF := q_f c13 hF
          refine g_iconst dX11_soonest_32 lt_iconst_m1 ?_
          cases hF
          exact g_iret dX11_soonest_33 rfl ⟨rfl, rfl, rfl⟩ (Nat.le_of_ble_eq_true rfl) (Nat.le_of_ble_eq_true rfl)
def rm_X11_together : Room := { frames := 4, cells := 0, slots := 0, locals := 96 }
set_option maxRecDepth 100000 in
set_option maxHeartbeats 4000000 in
theorem M_X11_together (l : Launch) (b : Nat) (D : va_G) (z : Nat → Nat) (nx : Nat) {h : qH} {a0 : Nat} {a1 : Int32} {a2 : Int32} {a3 : Int32} {r : Int32 × qH} (hF : F_X11_together h a0 a1 a2 a3 = some r) : Me l b D z yX11_together cX11_together 5 (some .int) rm_X11_together [.ref a0, .int a1, .int a2, .int a3] h nx (qE (some (.int r.1)) r.2 nx) := by
  refine Me.of (by decide +kernel) (Nat.le_of_ble_eq_true rfl) ?_
  show Go l b D z yX11_together cX11_together 5 (some .int) rm_X11_together (qE (some (.int r.1)) r.2 nx) 0 [(0, .ref a0), (1, .int a1), (2, .int a2), (3, .int a3)] [] h nx 0 0
  unfold F_X11_together at hF
  refine g_aload_n 0 dX11_together_0 rfl ?_
  obtain ⟨x1, e2, hF⟩ := q_bind hF
  refine g_getfR fl_X11_10 e2 dX11_together_1 ?_
  refine g_iload_n 1 dX11_together_4 rfl ?_
  obtain ⟨u3, e4, hF⟩ := q_bind hF
  obtain ⟨x5, e6, hF⟩ := q_bind hF
  refine g_callVr0 (ci := 9) (q := (RX9, TX9, 9)) qm_X9_bookAt wd_858 wd_736 wd_737 rfl e4 (M_X9_bookAt l b D z nx e6) (As := [.int a1]) rfl rfl (Nat.le_of_ble_eq_true rfl) ⟨(Nat.le_of_ble_eq_true rfl), (Nat.le_of_ble_eq_true rfl)⟩ ⟨rfl, rfl⟩ ⟨(Nat.le_of_ble_eq_true rfl), (Nat.le_of_ble_eq_true rfl)⟩ dX11_together_5 ?_
  rcases x5 with _ | x8
  · replace hF := q_en hF
    refine g_astoreN [(4, .null), (0, .ref a0), (1, .int a1), (2, .int a2), (3, .int a3)] dX11_together_8 (Nat.le_of_ble_eq_true rfl) rfl ?_
    refine g_aloadN 0 dX11_together_10 rfl ?_
    refine g_ifnullN 29 dX11_together_12 (by decide) ?_
    refine g_iconst dX11_together_29 lt_iconst_m1 ?_
    cases hF
    exact g_iret dX11_together_30 rfl ⟨rfl, rfl, rfl⟩ (Nat.le_of_ble_eq_true rfl) (Nat.le_of_ble_eq_true rfl)
  · replace hF := q_es hF
    refine g_astore [(4, .ref x8), (0, .ref a0), (1, .int a1), (2, .int a2), (3, .int a3)] dX11_together_8 (Nat.le_of_ble_eq_true rfl) rfl ?_
    refine g_aload 0 dX11_together_10 rfl ?_
    refine g_ifnullR dX11_together_12 ?_
    refine g_iload_n 3 dX11_together_15 rfl ?_
    obtain ⟨x9, e10, hF⟩ := q_bind hF
    refine g_callSr0 qm_X11_isPerson wd_1033 wd_760 (M_X11_isPerson l b D z nx e10) (As := [.int a2]) rfl rfl (Nat.le_of_ble_eq_true rfl) ⟨(Nat.le_of_ble_eq_true rfl), (Nat.le_of_ble_eq_true rfl)⟩ ⟨rfl, rfl⟩ ⟨(Nat.le_of_ble_eq_true rfl), (Nat.le_of_ble_eq_true rfl)⟩ dX11_together_16 ?_
    refine g_if_eq 29 dX11_together_19 (by decide) (fun c11 => ?_) (fun c11 => ?_)
    · replace hF := q_t c11 hF
      refine g_iconst dX11_together_29 lt_iconst_m1 ?_
      cases hF
      exact g_iret dX11_together_30 rfl ⟨rfl, rfl, rfl⟩ (Nat.le_of_ble_eq_true rfl) (Nat.le_of_ble_eq_true rfl)
    · replace hF := q_f c11 hF
      refine g_iload_n 4 dX11_together_22 rfl ?_
      obtain ⟨x12, e13, hF⟩ := q_bind hF
      refine g_callSr0 qm_X11_isPerson wd_1033 wd_760 (M_X11_isPerson l b D z nx e13) (As := [.int a3]) rfl rfl (Nat.le_of_ble_eq_true rfl) ⟨(Nat.le_of_ble_eq_true rfl), (Nat.le_of_ble_eq_true rfl)⟩ ⟨rfl, rfl⟩ ⟨(Nat.le_of_ble_eq_true rfl), (Nat.le_of_ble_eq_true rfl)⟩ dX11_together_23 ?_
      refine g_if_ne 31 dX11_together_26 (by decide) (fun c14 => ?_) (fun c14 => ?_)
      · replace hF := q_f c14 hF
        refine g_aload_n 1 dX11_together_31 rfl ?_
        obtain ⟨x15, e16, hF⟩ := q_bind hF
        refine g_getfR fl_X11_37 e16 dX11_together_32 ?_
        refine g_aload 0 dX11_together_35 rfl ?_
        refine g_iload_n 3 dX11_together_37 rfl ?_
        refine g_iload_n 4 dX11_together_38 rfl ?_
        obtain ⟨u17, e18, hF⟩ := q_bind hF
        obtain ⟨x19, e20, hF⟩ := q_bind hF
        refine g_callVr0 (ci := 6) (q := (RX6, TX6, 7)) qm_X6_linesUntilBoth wd_1034 wd_1035 wd_1036 rfl e18 (M_X6_linesUntilBoth l b D z nx e20) (As := [.ref x8, .int a2, .int a3]) rfl rfl (Nat.le_of_ble_eq_true rfl) ⟨(Nat.le_of_ble_eq_true rfl), (Nat.le_of_ble_eq_true rfl)⟩ ⟨rfl, rfl⟩ ⟨(Nat.le_of_ble_eq_true rfl), (Nat.le_of_ble_eq_true rfl)⟩ dX11_together_39 ?_
        cases hF
        exact g_iret dX11_together_42 rfl ⟨rfl, rfl, rfl⟩ (Nat.le_of_ble_eq_true rfl) (Nat.le_of_ble_eq_true rfl)
      · replace hF := q_t c14 hF
        refine g_iconst dX11_together_29 lt_iconst_m1 ?_
        cases hF
        exact g_iret dX11_together_30 rfl ⟨rfl, rfl, rfl⟩ (Nat.le_of_ble_eq_true rfl) (Nat.le_of_ble_eq_true rfl)
def rm_X11_comes : Room := { frames := 5, cells := 0, slots := 0, locals := 118 }
set_option maxRecDepth 100000 in
set_option maxHeartbeats 4000000 in
theorem M_X11_comes (l : Launch) (b : Nat) (D : va_G) (z : Nat → Nat) (nx : Nat) {h : qH} {a0 : Nat} {a1 : Int32} {a2 : Int32} {a3 : Int32} {a4 : Int32} {a5 : Int32} {r : Int64 × qH} (hF : F_X11_comes h a0 a1 a2 a3 a4 a5 = some r) : Me l b D z yX11_comes cX11_comes 7 (some .long) rm_X11_comes [.ref a0, .int a1, .int a2, .int a3, .int a4, .int a5] h nx (qE (some (.long r.1)) r.2 nx) := by
  refine Me.of (by decide +kernel) (Nat.le_of_ble_eq_true rfl) ?_
  show Go l b D z yX11_comes cX11_comes 7 (some .long) rm_X11_comes (qE (some (.long r.1)) r.2 nx) 0 [(0, .ref a0), (1, .int a1), (2, .int a2), (3, .int a3), (4, .int a4), (5, .int a5)] [] h nx 0 0
  unfold F_X11_comes at hF
  refine g_aload_n 0 dX11_comes_0 rfl ?_
  obtain ⟨x1, e2, hF⟩ := q_bind hF
  refine g_getfR fl_X11_10 e2 dX11_comes_1 ?_
  refine g_iload_n 1 dX11_comes_4 rfl ?_
  obtain ⟨u3, e4, hF⟩ := q_bind hF
  obtain ⟨x5, e6, hF⟩ := q_bind hF
  refine g_callVr0 (ci := 9) (q := (RX9, TX9, 9)) qm_X9_bookAt wd_858 wd_736 wd_737 rfl e4 (M_X9_bookAt l b D z nx e6) (As := [.int a1]) rfl rfl (Nat.le_of_ble_eq_true rfl) ⟨(Nat.le_of_ble_eq_true rfl), (Nat.le_of_ble_eq_true rfl)⟩ ⟨rfl, rfl⟩ ⟨(Nat.le_of_ble_eq_true rfl), (Nat.le_of_ble_eq_true rfl)⟩ dX11_comes_5 ?_
  rcases x5 with _ | x8
  · replace hF := q_en hF
    refine g_astoreN [(6, .null), (0, .ref a0), (1, .int a1), (2, .int a2), (3, .int a3), (4, .int a4), (5, .int a5)] dX11_comes_8 (Nat.le_of_ble_eq_true rfl) rfl ?_
    refine g_aloadN 0 dX11_comes_10 rfl ?_
    refine g_ifnullN 33 dX11_comes_12 (by decide) ?_
    refine g_ldc2 dX11_comes_33 wd_1050 ?_
    cases hF
    exact g_lret dX11_comes_36 rfl ⟨rfl, rfl, rfl⟩ (Nat.le_of_ble_eq_true rfl) (Nat.le_of_ble_eq_true rfl)
  · replace hF := q_es hF
    refine g_astore [(6, .ref x8), (0, .ref a0), (1, .int a1), (2, .int a2), (3, .int a3), (4, .int a4), (5, .int a5)] dX11_comes_8 (Nat.le_of_ble_eq_true rfl) rfl ?_
    refine g_aload 0 dX11_comes_10 rfl ?_
    refine g_ifnullR dX11_comes_12 ?_
    refine g_iload_n 3 dX11_comes_15 rfl ?_
    obtain ⟨x9, e10, hF⟩ := q_bind hF
    refine g_callSr0 qm_X11_isScene wd_980 wd_981 (M_X11_isScene l b D z nx e10) (As := [.int a2]) rfl rfl (Nat.le_of_ble_eq_true rfl) ⟨(Nat.le_of_ble_eq_true rfl), (Nat.le_of_ble_eq_true rfl)⟩ ⟨rfl, rfl⟩ ⟨(Nat.le_of_ble_eq_true rfl), (Nat.le_of_ble_eq_true rfl)⟩ dX11_comes_16 ?_
    refine g_if_eq 33 dX11_comes_19 (by decide) (fun c11 => ?_) (fun c11 => ?_)
    · replace hF := q_t c11 hF
      refine g_ldc2 dX11_comes_33 wd_1050 ?_
      cases hF
      exact g_lret dX11_comes_36 rfl ⟨rfl, rfl, rfl⟩ (Nat.le_of_ble_eq_true rfl) (Nat.le_of_ble_eq_true rfl)
    · replace hF := q_f c11 hF
      refine g_iload_n 4 dX11_comes_22 rfl ?_
      refine g_iconst dX11_comes_23 lt_iconst_1 ?_
      refine g_icmp_lt 33 dX11_comes_24 (by decide) (fun c12 => ?_) (fun c12 => ?_)
      · replace hF := q_t c12 hF
        refine g_ldc2 dX11_comes_33 wd_1050 ?_
        cases hF
        exact g_lret dX11_comes_36 rfl ⟨rfl, rfl, rfl⟩ (Nat.le_of_ble_eq_true rfl) (Nat.le_of_ble_eq_true rfl)
      · replace hF := q_f c12 hF
        refine g_iload_n 4 dX11_comes_27 rfl ?_
        refine g_bipush dX11_comes_28 lt_bipush_9 ?_
        refine g_icmp_le 37 dX11_comes_30 (by decide) (fun c13 => ?_) (fun c13 => ?_)
        · replace hF := q_t c13 hF
          refine g_aload_n 1 dX11_comes_37 rfl ?_
          obtain ⟨x14, e15, hF⟩ := q_bind hF
          refine g_getfR fl_X11_44 e15 dX11_comes_38 ?_
          refine g_aload 0 dX11_comes_41 rfl ?_
          refine g_iload_n 3 dX11_comes_43 rfl ?_
          refine g_iload_n 4 dX11_comes_44 rfl ?_
          refine g_iload 5 dX11_comes_45 rfl ?_
          obtain ⟨u16, e17, hF⟩ := q_bind hF
          obtain ⟨x18, e19, hF⟩ := q_bind hF
          refine g_callVv0 (ci := 5) (q := (RX5, TX5, 4)) qm_X5_gather wd_1051 wd_1052 wd_1053 rfl e17 (M_X5_gather l b D z nx e19) (As := [.ref x8, .int a2, .int a3, .int a4]) rfl rfl (Nat.le_of_ble_eq_true rfl) ⟨(Nat.le_of_ble_eq_true rfl), (Nat.le_of_ble_eq_true rfl)⟩ ⟨rfl, rfl⟩ ⟨(Nat.le_of_ble_eq_true rfl), (Nat.le_of_ble_eq_true rfl)⟩ dX11_comes_47 ?_
          refine g_iload 6 dX11_comes_50 rfl ?_
          refine g_if_eq 65 dX11_comes_52 (by decide) (fun c20 => ?_) (fun c20 => ?_)
          · replace hF := q_t c20 hF
            refine g_aload_n 1 dX11_comes_65 rfl ?_
            obtain ⟨x21, e22, hF⟩ := q_bind hF
            refine g_getfR fl_X11_44 e22 dX11_comes_66 ?_
            obtain ⟨x23, e24, hF⟩ := q_bind hF
            refine g_getfL fl_X11_154 e24 dX11_comes_69 ?_
            cases hF
            exact g_lret dX11_comes_72 rfl ⟨rfl, rfl, rfl⟩ (Nat.le_of_ble_eq_true rfl) (Nat.le_of_ble_eq_true rfl)
          · replace hF := q_f c20 hF
            refine g_aload_n 1 dX11_comes_55 rfl ?_
            obtain ⟨x25, e26, hF⟩ := q_bind hF
            refine g_getfR fl_X11_44 e26 dX11_comes_56 ?_
            obtain ⟨x27, e28, hF⟩ := q_bind hF
            refine g_getfL fl_X11_150 e28 dX11_comes_59 ?_
            refine g_goto 72 dX11_comes_62 (by decide) ?_
            cases hF
            exact g_lret dX11_comes_72 rfl ⟨rfl, rfl, rfl⟩ (Nat.le_of_ble_eq_true rfl) (Nat.le_of_ble_eq_true rfl)
        · replace hF := q_f c13 hF
          refine g_ldc2 dX11_comes_33 wd_1050 ?_
          cases hF
          exact g_lret dX11_comes_36 rfl ⟨rfl, rfl, rfl⟩ (Nat.le_of_ble_eq_true rfl) (Nat.le_of_ble_eq_true rfl)
def rm_X11_harm : Room := { frames := 5, cells := 0, slots := 0, locals := 118 }
set_option maxRecDepth 100000 in
set_option maxHeartbeats 4000000 in
theorem M_X11_harm (l : Launch) (b : Nat) (D : va_G) (z : Nat → Nat) (nx : Nat) {h : qH} {a0 : Nat} {a1 : Int32} {a2 : Int32} {a3 : Int32} {a4 : Int32} {r : Int64 × qH} (hF : F_X11_harm h a0 a1 a2 a3 a4 = some r) : Me l b D z yX11_harm cX11_harm 6 (some .long) rm_X11_harm [.ref a0, .int a1, .int a2, .int a3, .int a4] h nx (qE (some (.long r.1)) r.2 nx) := by
  refine Me.of (by decide +kernel) (Nat.le_of_ble_eq_true rfl) ?_
  show Go l b D z yX11_harm cX11_harm 6 (some .long) rm_X11_harm (qE (some (.long r.1)) r.2 nx) 0 [(0, .ref a0), (1, .int a1), (2, .int a2), (3, .int a3), (4, .int a4)] [] h nx 0 0
  unfold F_X11_harm at hF
  refine g_aload_n 0 dX11_harm_0 rfl ?_
  obtain ⟨x1, e2, hF⟩ := q_bind hF
  refine g_getfR fl_X11_10 e2 dX11_harm_1 ?_
  refine g_iload_n 1 dX11_harm_4 rfl ?_
  obtain ⟨u3, e4, hF⟩ := q_bind hF
  obtain ⟨x5, e6, hF⟩ := q_bind hF
  refine g_callVr0 (ci := 9) (q := (RX9, TX9, 9)) qm_X9_bookAt wd_858 wd_736 wd_737 rfl e4 (M_X9_bookAt l b D z nx e6) (As := [.int a1]) rfl rfl (Nat.le_of_ble_eq_true rfl) ⟨(Nat.le_of_ble_eq_true rfl), (Nat.le_of_ble_eq_true rfl)⟩ ⟨rfl, rfl⟩ ⟨(Nat.le_of_ble_eq_true rfl), (Nat.le_of_ble_eq_true rfl)⟩ dX11_harm_5 ?_
  rcases x5 with _ | x8
  · replace hF := q_en hF
    refine g_astoreN [(5, .null), (0, .ref a0), (1, .int a1), (2, .int a2), (3, .int a3), (4, .int a4)] dX11_harm_8 (Nat.le_of_ble_eq_true rfl) rfl ?_
    refine g_aloadN 0 dX11_harm_10 rfl ?_
    refine g_ifnullN 26 dX11_harm_12 (by decide) ?_
    refine g_ldc2 dX11_harm_26 wd_1050 ?_
    cases hF
    exact g_lret dX11_harm_29 rfl ⟨rfl, rfl, rfl⟩ (Nat.le_of_ble_eq_true rfl) (Nat.le_of_ble_eq_true rfl)
  · replace hF := q_es hF
    refine g_astore [(5, .ref x8), (0, .ref a0), (1, .int a1), (2, .int a2), (3, .int a3), (4, .int a4)] dX11_harm_8 (Nat.le_of_ble_eq_true rfl) rfl ?_
    refine g_aload 0 dX11_harm_10 rfl ?_
    refine g_ifnullR dX11_harm_12 ?_
    refine g_iload_n 3 dX11_harm_15 rfl ?_
    refine g_iconst dX11_harm_16 lt_iconst_1 ?_
    refine g_icmp_lt 26 dX11_harm_17 (by decide) (fun c9 => ?_) (fun c9 => ?_)
    · replace hF := q_t c9 hF
      refine g_ldc2 dX11_harm_26 wd_1050 ?_
      cases hF
      exact g_lret dX11_harm_29 rfl ⟨rfl, rfl, rfl⟩ (Nat.le_of_ble_eq_true rfl) (Nat.le_of_ble_eq_true rfl)
    · replace hF := q_f c9 hF
      refine g_iload_n 3 dX11_harm_20 rfl ?_
      refine g_bipush dX11_harm_21 lt_bipush_9 ?_
      refine g_icmp_le 30 dX11_harm_23 (by decide) (fun c10 => ?_) (fun c10 => ?_)
      · replace hF := q_t c10 hF
        refine g_aload_n 1 dX11_harm_30 rfl ?_
        obtain ⟨x11, e12, hF⟩ := q_bind hF
        refine g_getfR fl_X11_44 e12 dX11_harm_31 ?_
        refine g_aload 0 dX11_harm_34 rfl ?_
        refine g_iconst dX11_harm_36 lt_iconst_m1 ?_
        refine g_iload_n 3 dX11_harm_37 rfl ?_
        refine g_iload_n 4 dX11_harm_38 rfl ?_
        obtain ⟨u13, e14, hF⟩ := q_bind hF
        obtain ⟨x15, e16, hF⟩ := q_bind hF
        refine g_callVv0 (ci := 5) (q := (RX5, TX5, 4)) qm_X5_gather wd_1051 wd_1052 wd_1053 rfl e14 (M_X5_gather l b D z nx e16) (As := [.ref x8, .int (-1 : Int32), .int a2, .int a3]) rfl rfl (Nat.le_of_ble_eq_true rfl) ⟨(Nat.le_of_ble_eq_true rfl), (Nat.le_of_ble_eq_true rfl)⟩ ⟨rfl, rfl⟩ ⟨(Nat.le_of_ble_eq_true rfl), (Nat.le_of_ble_eq_true rfl)⟩ dX11_harm_39 ?_
        refine g_iload 5 dX11_harm_42 rfl ?_
        refine g_if_eq 57 dX11_harm_44 (by decide) (fun c17 => ?_) (fun c17 => ?_)
        · replace hF := q_t c17 hF
          refine g_aload_n 1 dX11_harm_57 rfl ?_
          obtain ⟨x18, e19, hF⟩ := q_bind hF
          refine g_getfR fl_X11_44 e19 dX11_harm_58 ?_
          obtain ⟨x20, e21, hF⟩ := q_bind hF
          refine g_getfL fl_X11_154 e21 dX11_harm_61 ?_
          cases hF
          exact g_lret dX11_harm_64 rfl ⟨rfl, rfl, rfl⟩ (Nat.le_of_ble_eq_true rfl) (Nat.le_of_ble_eq_true rfl)
        · replace hF := q_f c17 hF
          refine g_aload_n 1 dX11_harm_47 rfl ?_
          obtain ⟨x22, e23, hF⟩ := q_bind hF
          refine g_getfR fl_X11_44 e23 dX11_harm_48 ?_
          obtain ⟨x24, e25, hF⟩ := q_bind hF
          refine g_getfL fl_X11_150 e25 dX11_harm_51 ?_
          refine g_goto 64 dX11_harm_54 (by decide) ?_
          cases hF
          exact g_lret dX11_harm_64 rfl ⟨rfl, rfl, rfl⟩ (Nat.le_of_ble_eq_true rfl) (Nat.le_of_ble_eq_true rfl)
      · replace hF := q_f c10 hF
        refine g_ldc2 dX11_harm_26 wd_1050 ?_
        cases hF
        exact g_lret dX11_harm_29 rfl ⟨rfl, rfl, rfl⟩ (Nat.le_of_ble_eq_true rfl) (Nat.le_of_ble_eq_true rfl)
def rm_X11_loop : Room := { frames := 4, cells := 0, slots := 0, locals := 90 }
set_option maxRecDepth 100000 in
set_option maxHeartbeats 4000000 in
theorem M_X11_loop (l : Launch) (b : Nat) (D : va_G) (z : Nat → Nat) (nx : Nat) {h : qH} {a0 : Nat} {a1 : Int32} {a2 : Int32} {r : Int32} (hF : F_X11_loop h a0 a1 a2 = some r) : Me l b D z yX11_loop cX11_loop 4 (some .int) rm_X11_loop [.ref a0, .int a1, .int a2] h nx (qE (some (.int r)) h nx) := by
  refine Me.of (by decide +kernel) (Nat.le_of_ble_eq_true rfl) ?_
  show Go l b D z yX11_loop cX11_loop 4 (some .int) rm_X11_loop (qE (some (.int r)) h nx) 0 [(0, .ref a0), (1, .int a1), (2, .int a2)] [] h nx 0 0
  unfold F_X11_loop at hF
  refine g_aload_n 0 dX11_loop_0 rfl ?_
  obtain ⟨x1, e2, hF⟩ := q_bind hF
  refine g_getfR fl_X11_10 e2 dX11_loop_1 ?_
  refine g_iload_n 1 dX11_loop_4 rfl ?_
  obtain ⟨u3, e4, hF⟩ := q_bind hF
  obtain ⟨x5, e6, hF⟩ := q_bind hF
  refine g_callVr0 (ci := 9) (q := (RX9, TX9, 9)) qm_X9_bookAt wd_858 wd_736 wd_737 rfl e4 (M_X9_bookAt l b D z nx e6) (As := [.int a1]) rfl rfl (Nat.le_of_ble_eq_true rfl) ⟨(Nat.le_of_ble_eq_true rfl), (Nat.le_of_ble_eq_true rfl)⟩ ⟨rfl, rfl⟩ ⟨(Nat.le_of_ble_eq_true rfl), (Nat.le_of_ble_eq_true rfl)⟩ dX11_loop_5 ?_
  rcases x5 with _ | x8
  · replace hF := q_en hF
    refine g_astore_nN [(3, .null), (0, .ref a0), (1, .int a1), (2, .int a2)] dX11_loop_8 (Nat.le_of_ble_eq_true rfl) rfl ?_
    refine g_aload_nN 0 dX11_loop_9 rfl ?_
    refine g_ifnonnullN dX11_loop_10 ?_
    refine g_iconst dX11_loop_13 lt_iconst_m1 ?_
    cases hF
    exact g_iret dX11_loop_14 rfl ⟨rfl, rfl, rfl⟩ (Nat.le_of_ble_eq_true rfl) (Nat.le_of_ble_eq_true rfl)
  · replace hF := q_es hF
    refine g_astore_n [(3, .ref x8), (0, .ref a0), (1, .int a1), (2, .int a2)] dX11_loop_8 (Nat.le_of_ble_eq_true rfl) rfl ?_
    refine g_aload_n 0 dX11_loop_9 rfl ?_
    refine g_ifnonnullR 15 dX11_loop_10 (by decide) ?_
    refine g_iload_n 3 dX11_loop_15 rfl ?_
    refine g_if_eq 27 dX11_loop_16 (by decide) (fun c9 => ?_) (fun c9 => ?_)
    · replace hF := q_t c9 hF
      refine g_aload_n 0 dX11_loop_27 rfl ?_
      obtain ⟨u10, e11, hF⟩ := q_bind hF
      obtain ⟨x12, e13, hF⟩ := q_bind hF
      refine g_callVr0 (ci := 0) (q := (RX0, TX0, 15)) qm_X0_lengthOfLoop wd_1099 wd_1100 wd_1101 rfl e11 (M_X0_lengthOfLoop l b D z nx e13) (As := []) rfl rfl (Nat.le_of_ble_eq_true rfl) ⟨(Nat.le_of_ble_eq_true rfl), (Nat.le_of_ble_eq_true rfl)⟩ ⟨rfl, rfl⟩ ⟨(Nat.le_of_ble_eq_true rfl), (Nat.le_of_ble_eq_true rfl)⟩ dX11_loop_28 ?_
      cases hF
      exact g_iret dX11_loop_31 rfl ⟨rfl, rfl, rfl⟩ (Nat.le_of_ble_eq_true rfl) (Nat.le_of_ble_eq_true rfl)
    · replace hF := q_f c9 hF
      refine g_aload_n 0 dX11_loop_19 rfl ?_
      refine g_iconst dX11_loop_20 lt_iconst_m1 ?_
      obtain ⟨u14, e15, hF⟩ := q_bind hF
      obtain ⟨x16, e17, hF⟩ := q_bind hF
      refine g_callVr0 (ci := 0) (q := (RX0, TX0, 15)) qm_X0_lengthWithout wd_1091 wd_1092 wd_1093 rfl e15 (M_X0_lengthWithout l b D z nx e17) (As := [.int (-1 : Int32)]) rfl rfl (Nat.le_of_ble_eq_true rfl) ⟨(Nat.le_of_ble_eq_true rfl), (Nat.le_of_ble_eq_true rfl)⟩ ⟨rfl, rfl⟩ ⟨(Nat.le_of_ble_eq_true rfl), (Nat.le_of_ble_eq_true rfl)⟩ dX11_loop_21 ?_
      refine g_goto 31 dX11_loop_24 (by decide) ?_
      cases hF
      exact g_iret dX11_loop_31 rfl ⟨rfl, rfl, rfl⟩ (Nat.le_of_ble_eq_true rfl) (Nat.le_of_ble_eq_true rfl)
def rm_X11_merged : Room := { frames := 4, cells := 0, slots := 0, locals := 95 }
set_option maxRecDepth 100000 in
set_option maxHeartbeats 4000000 in
theorem M_X11_merged (l : Launch) (b : Nat) (D : va_G) (z : Nat → Nat) (nx : Nat) {h : qH} {a0 : Nat} {a1 : Int32} {a2 : Int32} {a3 : Int32} {a4 : Int32} {r : Int32 × qH} (hF : F_X11_merged h a0 a1 a2 a3 a4 = some r) : Me l b D z yX11_merged cX11_merged 7 (some .int) rm_X11_merged [.ref a0, .int a1, .int a2, .int a3, .int a4] h nx (qE (some (.int r.1)) r.2 nx) := by
  refine Me.of (by decide +kernel) (Nat.le_of_ble_eq_true rfl) ?_
  show Go l b D z yX11_merged cX11_merged 7 (some .int) rm_X11_merged (qE (some (.int r.1)) r.2 nx) 0 [(0, .ref a0), (1, .int a1), (2, .int a2), (3, .int a3), (4, .int a4)] [] h nx 0 0
  unfold F_X11_merged at hF
  refine g_aload_n 0 dX11_merged_0 rfl ?_
  obtain ⟨x1, e2, hF⟩ := q_bind hF
  refine g_getfR fl_X11_10 e2 dX11_merged_1 ?_
  refine g_iload_n 1 dX11_merged_4 rfl ?_
  obtain ⟨u3, e4, hF⟩ := q_bind hF
  obtain ⟨x5, e6, hF⟩ := q_bind hF
  refine g_callVr0 (ci := 9) (q := (RX9, TX9, 9)) qm_X9_bookAt wd_858 wd_736 wd_737 rfl e4 (M_X9_bookAt l b D z nx e6) (As := [.int a1]) rfl rfl (Nat.le_of_ble_eq_true rfl) ⟨(Nat.le_of_ble_eq_true rfl), (Nat.le_of_ble_eq_true rfl)⟩ ⟨rfl, rfl⟩ ⟨(Nat.le_of_ble_eq_true rfl), (Nat.le_of_ble_eq_true rfl)⟩ dX11_merged_5 ?_
  rcases x5 with _ | x16
  · replace hF := q_en hF
    refine g_astoreN [(5, .null), (0, .ref a0), (1, .int a1), (2, .int a2), (3, .int a3), (4, .int a4)] dX11_merged_8 (Nat.le_of_ble_eq_true rfl) rfl ?_
    refine g_aload_n 1 dX11_merged_10 rfl ?_
    obtain ⟨x8, e9, hF⟩ := q_bind hF
    refine g_getfR fl_X11_10 e9 dX11_merged_11 ?_
    refine g_iload_n 3 dX11_merged_14 rfl ?_
    obtain ⟨u10, e11, hF⟩ := q_bind hF
    obtain ⟨x12, e13, hF⟩ := q_bind hF
    refine g_callVr0 (ci := 9) (q := (RX9, TX9, 9)) qm_X9_bookAt wd_858 wd_736 wd_737 rfl e11 (M_X9_bookAt l b D z nx e13) (As := [.int a2]) rfl rfl (Nat.le_of_ble_eq_true rfl) ⟨(Nat.le_of_ble_eq_true rfl), (Nat.le_of_ble_eq_true rfl)⟩ ⟨rfl, rfl⟩ ⟨(Nat.le_of_ble_eq_true rfl), (Nat.le_of_ble_eq_true rfl)⟩ dX11_merged_15 ?_
    rcases x12 with _ | x15
    · replace hF := q_en hF
      refine g_astoreN [(6, .null), (5, .null), (0, .ref a0), (1, .int a1), (2, .int a2), (3, .int a3), (4, .int a4)] dX11_merged_18 (Nat.le_of_ble_eq_true rfl) rfl ?_
      refine g_aloadN 1 dX11_merged_20 rfl ?_
      refine g_ifnullN 41 dX11_merged_22 (by decide) ?_
      refine g_iconst dX11_merged_41 lt_iconst_m1 ?_
      cases hF
      exact g_iret dX11_merged_42 rfl ⟨rfl, rfl, rfl⟩ (Nat.le_of_ble_eq_true rfl) (Nat.le_of_ble_eq_true rfl)
    · replace hF := q_es hF
      refine g_astore [(6, .ref x15), (5, .null), (0, .ref a0), (1, .int a1), (2, .int a2), (3, .int a3), (4, .int a4)] dX11_merged_18 (Nat.le_of_ble_eq_true rfl) rfl ?_
      refine g_aloadN 1 dX11_merged_20 rfl ?_
      refine g_ifnullN 41 dX11_merged_22 (by decide) ?_
      refine g_iconst dX11_merged_41 lt_iconst_m1 ?_
      cases hF
      exact g_iret dX11_merged_42 rfl ⟨rfl, rfl, rfl⟩ (Nat.le_of_ble_eq_true rfl) (Nat.le_of_ble_eq_true rfl)
  · replace hF := q_es hF
    refine g_astore [(5, .ref x16), (0, .ref a0), (1, .int a1), (2, .int a2), (3, .int a3), (4, .int a4)] dX11_merged_8 (Nat.le_of_ble_eq_true rfl) rfl ?_
    refine g_aload_n 1 dX11_merged_10 rfl ?_
    obtain ⟨x17, e18, hF⟩ := q_bind hF
    refine g_getfR fl_X11_10 e18 dX11_merged_11 ?_
    refine g_iload_n 3 dX11_merged_14 rfl ?_
    obtain ⟨u19, e20, hF⟩ := q_bind hF
    obtain ⟨x21, e22, hF⟩ := q_bind hF
    refine g_callVr0 (ci := 9) (q := (RX9, TX9, 9)) qm_X9_bookAt wd_858 wd_736 wd_737 rfl e20 (M_X9_bookAt l b D z nx e22) (As := [.int a2]) rfl rfl (Nat.le_of_ble_eq_true rfl) ⟨(Nat.le_of_ble_eq_true rfl), (Nat.le_of_ble_eq_true rfl)⟩ ⟨rfl, rfl⟩ ⟨(Nat.le_of_ble_eq_true rfl), (Nat.le_of_ble_eq_true rfl)⟩ dX11_merged_15 ?_
    rcases x21 with _ | x24
    · replace hF := q_en hF
      refine g_astoreN [(6, .null), (5, .ref x16), (0, .ref a0), (1, .int a1), (2, .int a2), (3, .int a3), (4, .int a4)] dX11_merged_18 (Nat.le_of_ble_eq_true rfl) rfl ?_
      refine g_aload 1 dX11_merged_20 rfl ?_
      refine g_ifnullR dX11_merged_22 ?_
      refine g_aloadN 0 dX11_merged_25 rfl ?_
      refine g_ifnullN 41 dX11_merged_27 (by decide) ?_
      refine g_iconst dX11_merged_41 lt_iconst_m1 ?_
      cases hF
      exact g_iret dX11_merged_42 rfl ⟨rfl, rfl, rfl⟩ (Nat.le_of_ble_eq_true rfl) (Nat.le_of_ble_eq_true rfl)
    · replace hF := q_es hF
      refine g_astore [(6, .ref x24), (5, .ref x16), (0, .ref a0), (1, .int a1), (2, .int a2), (3, .int a3), (4, .int a4)] dX11_merged_18 (Nat.le_of_ble_eq_true rfl) rfl ?_
      refine g_aload 1 dX11_merged_20 rfl ?_
      refine g_ifnullR dX11_merged_22 ?_
      refine g_aload 0 dX11_merged_25 rfl ?_
      refine g_ifnullR dX11_merged_27 ?_
      refine g_iload_n 5 dX11_merged_30 rfl ?_
      refine g_iconst dX11_merged_31 lt_iconst_1 ?_
      refine g_icmp_lt 41 dX11_merged_32 (by decide) (fun c25 => ?_) (fun c25 => ?_)
      · replace hF := q_t c25 hF
        refine g_iconst dX11_merged_41 lt_iconst_m1 ?_
        cases hF
        exact g_iret dX11_merged_42 rfl ⟨rfl, rfl, rfl⟩ (Nat.le_of_ble_eq_true rfl) (Nat.le_of_ble_eq_true rfl)
      · replace hF := q_f c25 hF
        refine g_iload_n 5 dX11_merged_35 rfl ?_
        refine g_bipush dX11_merged_36 lt_bipush_12 ?_
        refine g_icmp_le 43 dX11_merged_38 (by decide) (fun c26 => ?_) (fun c26 => ?_)
        · replace hF := q_t c26 hF
          refine g_aload_n 2 dX11_merged_43 rfl ?_
          obtain ⟨x27, e28, hF⟩ := q_bind hF
          refine g_getfR fl_X11_51 e28 dX11_merged_44 ?_
          refine g_aload 1 dX11_merged_47 rfl ?_
          refine g_aload 0 dX11_merged_49 rfl ?_
          refine g_iload_n 5 dX11_merged_51 rfl ?_
          obtain ⟨u29, e30, hF⟩ := q_bind hF
          obtain ⟨x31, e32, hF⟩ := q_bind hF
          refine g_callVv0 (ci := 4) (q := (RX4, TX4, 7)) qm_X4_merge wd_1107 wd_1108 wd_1109 rfl e30 (M_X4_merge l b D z nx e32) (As := [.ref x16, .ref x24, .int a3]) rfl rfl (Nat.le_of_ble_eq_true rfl) ⟨(Nat.le_of_ble_eq_true rfl), (Nat.le_of_ble_eq_true rfl)⟩ ⟨rfl, rfl⟩ ⟨(Nat.le_of_ble_eq_true rfl), (Nat.le_of_ble_eq_true rfl)⟩ dX11_merged_52 ?_
          refine g_iload 6 dX11_merged_55 rfl ?_
          refine g_bipush dX11_merged_57 lt_bipush_m2 ?_
          refine g_icmp_ne 70 dX11_merged_59 (by decide) (fun c33 => ?_) (fun c33 => ?_)
          · replace hF := q_f c33 hF
            refine g_iload 6 dX11_merged_70 rfl ?_
            refine g_iconst dX11_merged_72 lt_iconst_m1 ?_
            refine g_icmp_ne 86 dX11_merged_73 (by decide) (fun c34 => ?_) (fun c34 => ?_)
            · replace hF := q_f c34 hF
              refine g_aload_n 2 dX11_merged_86 rfl ?_
              obtain ⟨x35, e36, hF⟩ := q_bind hF
              refine g_getfR fl_X11_51 e36 dX11_merged_87 ?_
              refine g_iload 6 dX11_merged_90 rfl ?_
              obtain ⟨u37, e38, hF⟩ := q_bind hF
              obtain ⟨x39, e40, hF⟩ := q_bind hF
              refine g_callVr0 (ci := 4) (q := (RX4, TX4, 7)) qm_X4_person wd_1143 wd_1144 wd_1145 rfl e38 (M_X4_person l b D z nx e40) (As := [.int a4]) rfl rfl (Nat.le_of_ble_eq_true rfl) ⟨(Nat.le_of_ble_eq_true rfl), (Nat.le_of_ble_eq_true rfl)⟩ ⟨rfl, rfl⟩ ⟨(Nat.le_of_ble_eq_true rfl), (Nat.le_of_ble_eq_true rfl)⟩ dX11_merged_92 ?_
              cases hF
              exact g_iret dX11_merged_95 rfl ⟨rfl, rfl, rfl⟩ (Nat.le_of_ble_eq_true rfl) (Nat.le_of_ble_eq_true rfl)
            · replace hF := q_t c34 hF
              refine g_aload_n 2 dX11_merged_76 rfl ?_
              obtain ⟨x41, e42, hF⟩ := q_bind hF
              refine g_getfR fl_X11_51 e42 dX11_merged_77 ?_
              obtain ⟨x43, e44, hF⟩ := q_bind hF
              refine g_getfI fl_X11_171 e44 dX11_merged_80 ?_
              refine g_goto 95 dX11_merged_83 (by decide) ?_
              cases hF
              exact g_iret dX11_merged_95 rfl ⟨rfl, rfl, rfl⟩ (Nat.le_of_ble_eq_true rfl) (Nat.le_of_ble_eq_true rfl)
          · replace hF := q_t c33 hF
            refine g_aload_n 2 dX11_merged_62 rfl ?_
            obtain ⟨x45, e46, hF⟩ := q_bind hF
            refine g_getfR fl_X11_51 e46 dX11_merged_63 ?_
            obtain ⟨u47, e48, hF⟩ := q_bind hF
            obtain ⟨x49, e50, hF⟩ := q_bind hF
            refine g_callVr0 (ci := 4) (q := (RX4, TX4, 7)) qm_X4_common wd_1139 wd_1140 wd_1141 rfl e48 (M_X4_common l b D z nx e50) (As := []) rfl rfl (Nat.le_of_ble_eq_true rfl) ⟨(Nat.le_of_ble_eq_true rfl), (Nat.le_of_ble_eq_true rfl)⟩ ⟨rfl, rfl⟩ ⟨(Nat.le_of_ble_eq_true rfl), (Nat.le_of_ble_eq_true rfl)⟩ dX11_merged_66 ?_
            cases hF
            exact g_iret dX11_merged_69 rfl ⟨rfl, rfl, rfl⟩ (Nat.le_of_ble_eq_true rfl) (Nat.le_of_ble_eq_true rfl)
        · replace hF := q_f c26 hF
          refine g_iconst dX11_merged_41 lt_iconst_m1 ?_
          cases hF
          exact g_iret dX11_merged_42 rfl ⟨rfl, rfl, rfl⟩ (Nat.le_of_ble_eq_true rfl) (Nat.le_of_ble_eq_true rfl)
def rm_X11_voice : Room := { frames := 2, cells := 0, slots := 0, locals := 42 }
set_option maxRecDepth 100000 in
set_option maxHeartbeats 4000000 in
theorem M_X11_voice (l : Launch) (b : Nat) (D : va_G) (z : Nat → Nat) (nx : Nat) {h : qH} {a0 : Nat} {a1 : Int32} {a2 : Int32} {r : Int32} (hF : F_X11_voice h a0 a1 a2 = some r) : Me l b D z yX11_voice cX11_voice 4 (some .int) rm_X11_voice [.ref a0, .int a1, .int a2] h nx (qE (some (.int r)) h nx) := by
  refine Me.of (by decide +kernel) (Nat.le_of_ble_eq_true rfl) ?_
  show Go l b D z yX11_voice cX11_voice 4 (some .int) rm_X11_voice (qE (some (.int r)) h nx) 0 [(0, .ref a0), (1, .int a1), (2, .int a2)] [] h nx 0 0
  unfold F_X11_voice at hF
  refine g_aload_n 0 dX11_voice_0 rfl ?_
  obtain ⟨x1, e2, hF⟩ := q_bind hF
  refine g_getfR fl_X11_10 e2 dX11_voice_1 ?_
  refine g_iload_n 1 dX11_voice_4 rfl ?_
  obtain ⟨u3, e4, hF⟩ := q_bind hF
  obtain ⟨x5, e6, hF⟩ := q_bind hF
  refine g_callVr0 (ci := 9) (q := (RX9, TX9, 9)) qm_X9_logAt wd_1151 wd_811 wd_812 rfl e4 (M_X9_logAt l b D z nx e6) (As := [.int a1]) rfl rfl (Nat.le_of_ble_eq_true rfl) ⟨(Nat.le_of_ble_eq_true rfl), (Nat.le_of_ble_eq_true rfl)⟩ ⟨rfl, rfl⟩ ⟨(Nat.le_of_ble_eq_true rfl), (Nat.le_of_ble_eq_true rfl)⟩ dX11_voice_5 ?_
  rcases x5 with _ | x8
  · replace hF := q_en hF
    refine g_astore_nN [(3, .null), (0, .ref a0), (1, .int a1), (2, .int a2)] dX11_voice_8 (Nat.le_of_ble_eq_true rfl) rfl ?_
    refine g_aload_nN 0 dX11_voice_9 rfl ?_
    refine g_ifnonnullN dX11_voice_10 ?_
    refine g_iconst dX11_voice_13 lt_iconst_m1 ?_
    refine g_goto 22 dX11_voice_14 (by decide) ?_
    cases hF
    exact g_iret dX11_voice_22 rfl ⟨rfl, rfl, rfl⟩ (Nat.le_of_ble_eq_true rfl) (Nat.le_of_ble_eq_true rfl)
  · replace hF := q_es hF
    refine g_astore_n [(3, .ref x8), (0, .ref a0), (1, .int a1), (2, .int a2)] dX11_voice_8 (Nat.le_of_ble_eq_true rfl) rfl ?_
    refine g_aload_n 0 dX11_voice_9 rfl ?_
    refine g_ifnonnullR 17 dX11_voice_10 (by decide) ?_
    refine g_aload_n 0 dX11_voice_17 rfl ?_
    refine g_iload_n 3 dX11_voice_18 rfl ?_
    obtain ⟨u9, e10, hF⟩ := q_bind hF
    obtain ⟨x11, e12, hF⟩ := q_bind hF
    refine g_callVr0 (ci := 3) (q := (RX3, TX3, 2)) qm_X3_show wd_1152 wd_1153 wd_1154 rfl e10 (M_X3_show l b D z nx e12) (As := [.int a2]) rfl rfl (Nat.le_of_ble_eq_true rfl) ⟨(Nat.le_of_ble_eq_true rfl), (Nat.le_of_ble_eq_true rfl)⟩ ⟨rfl, rfl⟩ ⟨(Nat.le_of_ble_eq_true rfl), (Nat.le_of_ble_eq_true rfl)⟩ dX11_voice_19 ?_
    cases hF
    exact g_iret dX11_voice_22 rfl ⟨rfl, rfl, rfl⟩ (Nat.le_of_ble_eq_true rfl) (Nat.le_of_ble_eq_true rfl)
def rm_X11_fits : Room := { frames := 6, cells := 0, slots := 0, locals := 144 }
set_option maxRecDepth 100000 in
set_option maxHeartbeats 4000000 in
theorem M_X11_fits (l : Launch) (b : Nat) (D : va_G) (z : Nat → Nat) (nx : Nat) {h : qH} {a0 : Nat} {a1 : Int32} {a2 : Int32} {a3 : Int32} {r : Int64 × qH} (hF : F_X11_fits h a0 a1 a2 a3 = some r) : Me l b D z yX11_fits cX11_fits 6 (some .long) rm_X11_fits [.ref a0, .int a1, .int a2, .int a3] h nx (qE (some (.long r.1)) r.2 nx) := by
  refine Me.of (by decide +kernel) (Nat.le_of_ble_eq_true rfl) ?_
  show Go l b D z yX11_fits cX11_fits 6 (some .long) rm_X11_fits (qE (some (.long r.1)) r.2 nx) 0 [(0, .ref a0), (1, .int a1), (2, .int a2), (3, .int a3)] [] h nx 0 0
  unfold F_X11_fits at hF
  refine g_aload_n 0 dX11_fits_0 rfl ?_
  obtain ⟨x1, e2, hF⟩ := q_bind hF
  refine g_getfR fl_X11_10 e2 dX11_fits_1 ?_
  refine g_iload_n 1 dX11_fits_4 rfl ?_
  obtain ⟨u3, e4, hF⟩ := q_bind hF
  obtain ⟨x5, e6, hF⟩ := q_bind hF
  refine g_callVr0 (ci := 9) (q := (RX9, TX9, 9)) qm_X9_bookAt wd_858 wd_736 wd_737 rfl e4 (M_X9_bookAt l b D z nx e6) (As := [.int a1]) rfl rfl (Nat.le_of_ble_eq_true rfl) ⟨(Nat.le_of_ble_eq_true rfl), (Nat.le_of_ble_eq_true rfl)⟩ ⟨rfl, rfl⟩ ⟨(Nat.le_of_ble_eq_true rfl), (Nat.le_of_ble_eq_true rfl)⟩ dX11_fits_5 ?_
  rcases x5 with _ | x16
  · replace hF := q_en hF
    refine g_astoreN [(4, .null), (0, .ref a0), (1, .int a1), (2, .int a2), (3, .int a3)] dX11_fits_8 (Nat.le_of_ble_eq_true rfl) rfl ?_
    refine g_aload_n 1 dX11_fits_10 rfl ?_
    obtain ⟨x8, e9, hF⟩ := q_bind hF
    refine g_getfR fl_X11_10 e9 dX11_fits_11 ?_
    refine g_iload_n 3 dX11_fits_14 rfl ?_
    obtain ⟨u10, e11, hF⟩ := q_bind hF
    obtain ⟨x12, e13, hF⟩ := q_bind hF
    refine g_callVr0 (ci := 9) (q := (RX9, TX9, 9)) qm_X9_logAt wd_1151 wd_811 wd_812 rfl e11 (M_X9_logAt l b D z nx e13) (As := [.int a2]) rfl rfl (Nat.le_of_ble_eq_true rfl) ⟨(Nat.le_of_ble_eq_true rfl), (Nat.le_of_ble_eq_true rfl)⟩ ⟨rfl, rfl⟩ ⟨(Nat.le_of_ble_eq_true rfl), (Nat.le_of_ble_eq_true rfl)⟩ dX11_fits_15 ?_
    rcases x12 with _ | x15
    · replace hF := q_en hF
      refine g_astoreN [(5, .null), (4, .null), (0, .ref a0), (1, .int a1), (2, .int a2), (3, .int a3)] dX11_fits_18 (Nat.le_of_ble_eq_true rfl) rfl ?_
      refine g_aloadN 1 dX11_fits_20 rfl ?_
      refine g_ifnullN 30 dX11_fits_22 (by decide) ?_
      refine g_ldc2 dX11_fits_30 wd_1164 ?_
      cases hF
      exact g_lret dX11_fits_33 rfl ⟨rfl, rfl, rfl⟩ (Nat.le_of_ble_eq_true rfl) (Nat.le_of_ble_eq_true rfl)
    · replace hF := q_es hF
      refine g_astore [(5, .ref x15), (4, .null), (0, .ref a0), (1, .int a1), (2, .int a2), (3, .int a3)] dX11_fits_18 (Nat.le_of_ble_eq_true rfl) rfl ?_
      refine g_aloadN 1 dX11_fits_20 rfl ?_
      refine g_ifnullN 30 dX11_fits_22 (by decide) ?_
      refine g_ldc2 dX11_fits_30 wd_1164 ?_
      cases hF
      exact g_lret dX11_fits_33 rfl ⟨rfl, rfl, rfl⟩ (Nat.le_of_ble_eq_true rfl) (Nat.le_of_ble_eq_true rfl)
  · replace hF := q_es hF
    refine g_astore [(4, .ref x16), (0, .ref a0), (1, .int a1), (2, .int a2), (3, .int a3)] dX11_fits_8 (Nat.le_of_ble_eq_true rfl) rfl ?_
    refine g_aload_n 1 dX11_fits_10 rfl ?_
    obtain ⟨x17, e18, hF⟩ := q_bind hF
    refine g_getfR fl_X11_10 e18 dX11_fits_11 ?_
    refine g_iload_n 3 dX11_fits_14 rfl ?_
    obtain ⟨u19, e20, hF⟩ := q_bind hF
    obtain ⟨x21, e22, hF⟩ := q_bind hF
    refine g_callVr0 (ci := 9) (q := (RX9, TX9, 9)) qm_X9_logAt wd_1151 wd_811 wd_812 rfl e20 (M_X9_logAt l b D z nx e22) (As := [.int a2]) rfl rfl (Nat.le_of_ble_eq_true rfl) ⟨(Nat.le_of_ble_eq_true rfl), (Nat.le_of_ble_eq_true rfl)⟩ ⟨rfl, rfl⟩ ⟨(Nat.le_of_ble_eq_true rfl), (Nat.le_of_ble_eq_true rfl)⟩ dX11_fits_15 ?_
    rcases x21 with _ | x24
    · replace hF := q_en hF
      refine g_astoreN [(5, .null), (4, .ref x16), (0, .ref a0), (1, .int a1), (2, .int a2), (3, .int a3)] dX11_fits_18 (Nat.le_of_ble_eq_true rfl) rfl ?_
      refine g_aload 1 dX11_fits_20 rfl ?_
      refine g_ifnullR dX11_fits_22 ?_
      refine g_aloadN 0 dX11_fits_25 rfl ?_
      refine g_ifnonnullN dX11_fits_27 ?_
      refine g_ldc2 dX11_fits_30 wd_1164 ?_
      cases hF
      exact g_lret dX11_fits_33 rfl ⟨rfl, rfl, rfl⟩ (Nat.le_of_ble_eq_true rfl) (Nat.le_of_ble_eq_true rfl)
    · replace hF := q_es hF
      refine g_astore [(5, .ref x24), (4, .ref x16), (0, .ref a0), (1, .int a1), (2, .int a2), (3, .int a3)] dX11_fits_18 (Nat.le_of_ble_eq_true rfl) rfl ?_
      refine g_aload 1 dX11_fits_20 rfl ?_
      refine g_ifnullR dX11_fits_22 ?_
      refine g_aload 0 dX11_fits_25 rfl ?_
      refine g_ifnonnullR 34 dX11_fits_27 (by decide) ?_
      refine g_aload_n 2 dX11_fits_34 rfl ?_
      obtain ⟨x25, e26, hF⟩ := q_bind hF
      refine g_getfR fl_X11_58 e26 dX11_fits_35 ?_
      refine g_aload 1 dX11_fits_38 rfl ?_
      refine g_aload 0 dX11_fits_40 rfl ?_
      refine g_iload_n 5 dX11_fits_42 rfl ?_
      obtain ⟨u27, e28, hF⟩ := q_bind hF
      obtain ⟨x29, e30, hF⟩ := q_bind hF
      refine g_callVr0 (ci := 2) (q := (RX2, TX2, 3)) qm_X2_show wd_1165 wd_1166 wd_1167 rfl e28 (M_X2_show l b D z nx e30) (As := [.ref x16, .ref x24, .int a3]) rfl rfl (Nat.le_of_ble_eq_true rfl) ⟨(Nat.le_of_ble_eq_true rfl), (Nat.le_of_ble_eq_true rfl)⟩ ⟨rfl, rfl⟩ ⟨(Nat.le_of_ble_eq_true rfl), (Nat.le_of_ble_eq_true rfl)⟩ dX11_fits_43 ?_
      cases hF
      exact g_lret dX11_fits_46 rfl ⟨rfl, rfl, rfl⟩ (Nat.le_of_ble_eq_true rfl) (Nat.le_of_ble_eq_true rfl)
def rm_X11_town : Room := { frames := 6, cells := 0, slots := 0, locals := 136 }
set_option maxRecDepth 100000 in
set_option maxHeartbeats 4000000 in
theorem M_X11_town (l : Launch) (b : Nat) (D : va_G) (z : Nat → Nat) (nx : Nat) {h : qH} {a0 : Nat} {a1 : Int32} {a2 : Int32} {r : Int32 × qH} (hF : F_X11_town h a0 a1 a2 = some r) : Me l b D z yX11_town cX11_town 4 (some .int) rm_X11_town [.ref a0, .int a1, .int a2] h nx (qE (some (.int r.1)) r.2 nx) := by
  refine Me.of (by decide +kernel) (Nat.le_of_ble_eq_true rfl) ?_
  show Go l b D z yX11_town cX11_town 4 (some .int) rm_X11_town (qE (some (.int r.1)) r.2 nx) 0 [(0, .ref a0), (1, .int a1), (2, .int a2)] [] h nx 0 0
  unfold F_X11_town at hF
  refine g_aload_n 0 dX11_town_0 rfl ?_
  obtain ⟨x1, e2, hF⟩ := q_bind hF
  refine g_getfR fl_X11_10 e2 dX11_town_1 ?_
  refine g_iload_n 1 dX11_town_4 rfl ?_
  obtain ⟨u3, e4, hF⟩ := q_bind hF
  obtain ⟨x5, e6, hF⟩ := q_bind hF
  refine g_callVr0 (ci := 9) (q := (RX9, TX9, 9)) qm_X9_townAt wd_1233 wd_823 wd_824 rfl e4 (M_X9_townAt l b D z nx e6) (As := [.int a1]) rfl rfl (Nat.le_of_ble_eq_true rfl) ⟨(Nat.le_of_ble_eq_true rfl), (Nat.le_of_ble_eq_true rfl)⟩ ⟨rfl, rfl⟩ ⟨(Nat.le_of_ble_eq_true rfl), (Nat.le_of_ble_eq_true rfl)⟩ dX11_town_5 ?_
  rcases x5 with _ | x8
  · replace hF := q_en hF
    refine g_astore_nN [(3, .null), (0, .ref a0), (1, .int a1), (2, .int a2)] dX11_town_8 (Nat.le_of_ble_eq_true rfl) rfl ?_
    refine g_aload_nN 0 dX11_town_9 rfl ?_
    refine g_ifnonnullN dX11_town_10 ?_
    refine g_iconst dX11_town_13 lt_iconst_m1 ?_
    refine g_goto 22 dX11_town_14 (by decide) ?_
    cases hF
    exact g_iret dX11_town_22 rfl ⟨rfl, rfl, rfl⟩ (Nat.le_of_ble_eq_true rfl) (Nat.le_of_ble_eq_true rfl)
  · replace hF := q_es hF
    refine g_astore_n [(3, .ref x8), (0, .ref a0), (1, .int a1), (2, .int a2)] dX11_town_8 (Nat.le_of_ble_eq_true rfl) rfl ?_
    refine g_aload_n 0 dX11_town_9 rfl ?_
    refine g_ifnonnullR 17 dX11_town_10 (by decide) ?_
    refine g_aload_n 0 dX11_town_17 rfl ?_
    refine g_iload_n 3 dX11_town_18 rfl ?_
    obtain ⟨u9, e10, hF⟩ := q_bind hF
    obtain ⟨x11, e12, hF⟩ := q_bind hF
    refine g_callVr0 (ci := 10) (q := (RX10, TX10, 5)) qm_X10_show wd_1234 wd_1235 wd_1236 rfl e10 (M_X10_show l b D z nx e12) (As := [.int a2]) rfl rfl (Nat.le_of_ble_eq_true rfl) ⟨(Nat.le_of_ble_eq_true rfl), (Nat.le_of_ble_eq_true rfl)⟩ ⟨rfl, rfl⟩ ⟨(Nat.le_of_ble_eq_true rfl), (Nat.le_of_ble_eq_true rfl)⟩ dX11_town_19 ?_
    cases hF
    exact g_iret dX11_town_22 rfl ⟨rfl, rfl, rfl⟩ (Nat.le_of_ble_eq_true rfl) (Nat.le_of_ble_eq_true rfl)
def rm_X11_drawn : Room := { frames := 6, cells := 0, slots := 0, locals := 139 }
set_option maxRecDepth 100000 in
set_option maxHeartbeats 4000000 in
theorem M_X11_drawn (l : Launch) (b : Nat) (D : va_G) (z : Nat → Nat) (nx : Nat) {h : qH} {a0 : Nat} {a1 : Int32} {a2 : Int32} {a3 : Int32} {a4 : Int32} {r : Int32 × qH} (hF : F_X11_drawn h a0 a1 a2 a3 a4 = some r) : Me l b D z yX11_drawn cX11_drawn 6 (some .int) rm_X11_drawn [.ref a0, .int a1, .int a2, .int a3, .int a4] h nx (qE (some (.int r.1)) r.2 nx) := by
  refine Me.of (by decide +kernel) (Nat.le_of_ble_eq_true rfl) ?_
  show Go l b D z yX11_drawn cX11_drawn 6 (some .int) rm_X11_drawn (qE (some (.int r.1)) r.2 nx) 0 [(0, .ref a0), (1, .int a1), (2, .int a2), (3, .int a3), (4, .int a4)] [] h nx 0 0
  unfold F_X11_drawn at hF
  refine g_aload_n 0 dX11_drawn_0 rfl ?_
  obtain ⟨x1, e2, hF⟩ := q_bind hF
  refine g_getfR fl_X11_10 e2 dX11_drawn_1 ?_
  refine g_iload_n 1 dX11_drawn_4 rfl ?_
  obtain ⟨u3, e4, hF⟩ := q_bind hF
  obtain ⟨x5, e6, hF⟩ := q_bind hF
  refine g_callVr0 (ci := 9) (q := (RX9, TX9, 9)) qm_X9_bookAt wd_858 wd_736 wd_737 rfl e4 (M_X9_bookAt l b D z nx e6) (As := [.int a1]) rfl rfl (Nat.le_of_ble_eq_true rfl) ⟨(Nat.le_of_ble_eq_true rfl), (Nat.le_of_ble_eq_true rfl)⟩ ⟨rfl, rfl⟩ ⟨(Nat.le_of_ble_eq_true rfl), (Nat.le_of_ble_eq_true rfl)⟩ dX11_drawn_5 ?_
  rcases x5 with _ | x8
  · replace hF := q_en hF
    refine g_astoreN [(5, .null), (0, .ref a0), (1, .int a1), (2, .int a2), (3, .int a3), (4, .int a4)] dX11_drawn_8 (Nat.le_of_ble_eq_true rfl) rfl ?_
    refine g_aloadN 0 dX11_drawn_10 rfl ?_
    refine g_ifnullN 33 dX11_drawn_12 (by decide) ?_
    refine g_bipush dX11_drawn_33 lt_bipush_m2 ?_
    cases hF
    exact g_iret dX11_drawn_35 rfl ⟨rfl, rfl, rfl⟩ (Nat.le_of_ble_eq_true rfl) (Nat.le_of_ble_eq_true rfl)
  · replace hF := q_es hF
    refine g_astore [(5, .ref x8), (0, .ref a0), (1, .int a1), (2, .int a2), (3, .int a3), (4, .int a4)] dX11_drawn_8 (Nat.le_of_ble_eq_true rfl) rfl ?_
    refine g_aload 0 dX11_drawn_10 rfl ?_
    refine g_ifnullR dX11_drawn_12 ?_
    refine g_aload 0 dX11_drawn_15 rfl ?_
    obtain ⟨x9, e10, hF⟩ := q_bind hF
    refine g_getfI fl_X11_196 e10 dX11_drawn_17 ?_
    refine g_if_eq 33 dX11_drawn_20 (by decide) (fun c11 => ?_) (fun c11 => ?_)
    · replace hF := q_t c11 hF
      refine g_bipush dX11_drawn_33 lt_bipush_m2 ?_
      cases hF
      exact g_iret dX11_drawn_35 rfl ⟨rfl, rfl, rfl⟩ (Nat.le_of_ble_eq_true rfl) (Nat.le_of_ble_eq_true rfl)
    · replace hF := q_f c11 hF
      refine g_iload_n 4 dX11_drawn_23 rfl ?_
      refine g_if_lt 33 dX11_drawn_24 (by decide) (fun c12 => ?_) (fun c12 => ?_)
      · replace hF := q_t c12 hF
        refine g_bipush dX11_drawn_33 lt_bipush_m2 ?_
        cases hF
        exact g_iret dX11_drawn_35 rfl ⟨rfl, rfl, rfl⟩ (Nat.le_of_ble_eq_true rfl) (Nat.le_of_ble_eq_true rfl)
      · replace hF := q_f c12 hF
        refine g_iload_n 4 dX11_drawn_27 rfl ?_
        refine g_bipush dX11_drawn_28 lt_bipush_60 ?_
        refine g_icmp_le 36 dX11_drawn_30 (by decide) (fun c13 => ?_) (fun c13 => ?_)
        · replace hF := q_t c13 hF
          refine g_aload_n 1 dX11_drawn_36 rfl ?_
          obtain ⟨x14, e15, hF⟩ := q_bind hF
          refine g_getfR fl_X11_30 e15 dX11_drawn_37 ?_
          refine g_aload 0 dX11_drawn_40 rfl ?_
          refine g_iload_n 3 dX11_drawn_42 rfl ?_
          refine g_iload_n 4 dX11_drawn_43 rfl ?_
          obtain ⟨u16, e17, hF⟩ := q_bind hF
          obtain ⟨x18, e19, hF⟩ := q_bind hF
          refine g_callVv0 (ci := 8) (q := (RX8, TX8, 11)) qm_X8_playDrawn wd_1294 wd_1295 wd_1296 rfl e17 (M_X8_playDrawn l b D z nx e19) (As := [.ref x8, .int a2, .int a3]) rfl rfl (Nat.le_of_ble_eq_true rfl) ⟨(Nat.le_of_ble_eq_true rfl), (Nat.le_of_ble_eq_true rfl)⟩ ⟨rfl, rfl⟩ ⟨(Nat.le_of_ble_eq_true rfl), (Nat.le_of_ble_eq_true rfl)⟩ dX11_drawn_44 ?_
          refine g_aload_n 1 dX11_drawn_47 rfl ?_
          obtain ⟨x20, e21, hF⟩ := q_bind hF
          refine g_getfR fl_X11_30 e21 dX11_drawn_48 ?_
          refine g_aload 0 dX11_drawn_51 rfl ?_
          refine g_iload 5 dX11_drawn_53 rfl ?_
          obtain ⟨u22, e23, hF⟩ := q_bind hF
          obtain ⟨x24, e25, hF⟩ := q_bind hF
          refine g_callVr0 (ci := 8) (q := (RX8, TX8, 11)) qm_X8_show wd_967 wd_968 wd_969 rfl e23 (M_X8_show l b D z nx e25) (As := [.ref x8, .int a4]) rfl rfl (Nat.le_of_ble_eq_true rfl) ⟨(Nat.le_of_ble_eq_true rfl), (Nat.le_of_ble_eq_true rfl)⟩ ⟨rfl, rfl⟩ ⟨(Nat.le_of_ble_eq_true rfl), (Nat.le_of_ble_eq_true rfl)⟩ dX11_drawn_55 ?_
          cases hF
          exact g_iret dX11_drawn_58 rfl ⟨rfl, rfl, rfl⟩ (Nat.le_of_ble_eq_true rfl) (Nat.le_of_ble_eq_true rfl)
        · replace hF := q_f c13 hF
          refine g_bipush dX11_drawn_33 lt_bipush_m2 ?_
          cases hF
          exact g_iret dX11_drawn_35 rfl ⟨rfl, rfl, rfl⟩ (Nat.le_of_ble_eq_true rfl) (Nat.le_of_ble_eq_true rfl)
def rm_X11_bar : Room := { frames := 4, cells := 0, slots := 0, locals := 99 }
set_option maxRecDepth 100000 in
set_option maxHeartbeats 4000000 in
theorem M_X11_bar (l : Launch) (b : Nat) (D : va_G) (z : Nat → Nat) (nx : Nat) {h : qH} {a0 : Nat} {a1 : Int32} {a2 : Int32} {r : Int32} (hF : F_X11_bar h a0 a1 a2 = some r) : Me l b D z yX11_bar cX11_bar 4 (some .int) rm_X11_bar [.ref a0, .int a1, .int a2] h nx (qE (some (.int r)) h nx) := by
  refine Me.of (by decide +kernel) (Nat.le_of_ble_eq_true rfl) ?_
  show Go l b D z yX11_bar cX11_bar 4 (some .int) rm_X11_bar (qE (some (.int r)) h nx) 0 [(0, .ref a0), (1, .int a1), (2, .int a2)] [] h nx 0 0
  unfold F_X11_bar at hF
  refine g_aload_n 0 dX11_bar_0 rfl ?_
  obtain ⟨x1, e2, hF⟩ := q_bind hF
  refine g_getfR fl_X11_10 e2 dX11_bar_1 ?_
  refine g_iload_n 1 dX11_bar_4 rfl ?_
  obtain ⟨u3, e4, hF⟩ := q_bind hF
  obtain ⟨x5, e6, hF⟩ := q_bind hF
  refine g_callVr0 (ci := 9) (q := (RX9, TX9, 9)) qm_X9_bookAt wd_858 wd_736 wd_737 rfl e4 (M_X9_bookAt l b D z nx e6) (As := [.int a1]) rfl rfl (Nat.le_of_ble_eq_true rfl) ⟨(Nat.le_of_ble_eq_true rfl), (Nat.le_of_ble_eq_true rfl)⟩ ⟨rfl, rfl⟩ ⟨(Nat.le_of_ble_eq_true rfl), (Nat.le_of_ble_eq_true rfl)⟩ dX11_bar_5 ?_
  rcases x5 with _ | x8
  · replace hF := q_en hF
    refine g_astore_nN [(3, .null), (0, .ref a0), (1, .int a1), (2, .int a2)] dX11_bar_8 (Nat.le_of_ble_eq_true rfl) rfl ?_
    refine g_aload_nN 0 dX11_bar_9 rfl ?_
    refine g_ifnullN 20 dX11_bar_10 (by decide) ?_
    refine g_iconst dX11_bar_20 lt_iconst_m1 ?_
    refine g_goto 33 dX11_bar_21 (by decide) ?_
    cases hF
    exact g_iret dX11_bar_33 rfl ⟨rfl, rfl, rfl⟩ (Nat.le_of_ble_eq_true rfl) (Nat.le_of_ble_eq_true rfl)
  · replace hF := q_es hF
    refine g_astore_n [(3, .ref x8), (0, .ref a0), (1, .int a1), (2, .int a2)] dX11_bar_8 (Nat.le_of_ble_eq_true rfl) rfl ?_
    refine g_aload_n 0 dX11_bar_9 rfl ?_
    refine g_ifnullR dX11_bar_10 ?_
    refine g_iload_n 3 dX11_bar_13 rfl ?_
    obtain ⟨x9, e10, hF⟩ := q_bind hF
    refine g_callSr0 qm_X11_isScene wd_980 wd_981 (M_X11_isScene l b D z nx e10) (As := [.int a2]) rfl rfl (Nat.le_of_ble_eq_true rfl) ⟨(Nat.le_of_ble_eq_true rfl), (Nat.le_of_ble_eq_true rfl)⟩ ⟨rfl, rfl⟩ ⟨(Nat.le_of_ble_eq_true rfl), (Nat.le_of_ble_eq_true rfl)⟩ dX11_bar_14 ?_
    refine g_if_ne 24 dX11_bar_17 (by decide) (fun c11 => ?_) (fun c11 => ?_)
    · replace hF := q_f c11 hF
      refine g_aload_n 1 dX11_bar_24 rfl ?_
      obtain ⟨x12, e13, hF⟩ := q_bind hF
      refine g_getfR fl_X11_37 e13 dX11_bar_25 ?_
      refine g_aload_n 0 dX11_bar_28 rfl ?_
      refine g_iload_n 3 dX11_bar_29 rfl ?_
      obtain ⟨u14, e15, hF⟩ := q_bind hF
      obtain ⟨x16, e17, hF⟩ := q_bind hF
      refine g_callVr0 (ci := 6) (q := (RX6, TX6, 7)) qm_X6_fewestOut wd_1316 wd_1317 wd_1318 rfl e15 (M_X6_fewestOut l b D z nx e17) (As := [.ref x8, .int a2]) rfl rfl (Nat.le_of_ble_eq_true rfl) ⟨(Nat.le_of_ble_eq_true rfl), (Nat.le_of_ble_eq_true rfl)⟩ ⟨rfl, rfl⟩ ⟨(Nat.le_of_ble_eq_true rfl), (Nat.le_of_ble_eq_true rfl)⟩ dX11_bar_30 ?_
      cases hF
      exact g_iret dX11_bar_33 rfl ⟨rfl, rfl, rfl⟩ (Nat.le_of_ble_eq_true rfl) (Nat.le_of_ble_eq_true rfl)
    · replace hF := q_t c11 hF
      refine g_iconst dX11_bar_20 lt_iconst_m1 ?_
      refine g_goto 33 dX11_bar_21 (by decide) ?_
      cases hF
      exact g_iret dX11_bar_33 rfl ⟨rfl, rfl, rfl⟩ (Nat.le_of_ble_eq_true rfl) (Nat.le_of_ble_eq_true rfl)
def rm_X11_must : Room := { frames := 4, cells := 0, slots := 0, locals := 99 }
set_option maxRecDepth 100000 in
set_option maxHeartbeats 4000000 in
theorem M_X11_must (l : Launch) (b : Nat) (D : va_G) (z : Nat → Nat) (nx : Nat) {h : qH} {a0 : Nat} {a1 : Int32} {a2 : Int32} {r : Int32} (hF : F_X11_must h a0 a1 a2 = some r) : Me l b D z yX11_must cX11_must 4 (some .int) rm_X11_must [.ref a0, .int a1, .int a2] h nx (qE (some (.int r)) h nx) := by
  refine Me.of (by decide +kernel) (Nat.le_of_ble_eq_true rfl) ?_
  show Go l b D z yX11_must cX11_must 4 (some .int) rm_X11_must (qE (some (.int r)) h nx) 0 [(0, .ref a0), (1, .int a1), (2, .int a2)] [] h nx 0 0
  unfold F_X11_must at hF
  refine g_aload_n 0 dX11_must_0 rfl ?_
  obtain ⟨x1, e2, hF⟩ := q_bind hF
  refine g_getfR fl_X11_10 e2 dX11_must_1 ?_
  refine g_iload_n 1 dX11_must_4 rfl ?_
  obtain ⟨u3, e4, hF⟩ := q_bind hF
  obtain ⟨x5, e6, hF⟩ := q_bind hF
  refine g_callVr0 (ci := 9) (q := (RX9, TX9, 9)) qm_X9_bookAt wd_858 wd_736 wd_737 rfl e4 (M_X9_bookAt l b D z nx e6) (As := [.int a1]) rfl rfl (Nat.le_of_ble_eq_true rfl) ⟨(Nat.le_of_ble_eq_true rfl), (Nat.le_of_ble_eq_true rfl)⟩ ⟨rfl, rfl⟩ ⟨(Nat.le_of_ble_eq_true rfl), (Nat.le_of_ble_eq_true rfl)⟩ dX11_must_5 ?_
  rcases x5 with _ | x8
  · replace hF := q_en hF
    refine g_astore_nN [(3, .null), (0, .ref a0), (1, .int a1), (2, .int a2)] dX11_must_8 (Nat.le_of_ble_eq_true rfl) rfl ?_
    refine g_aload_nN 0 dX11_must_9 rfl ?_
    refine g_ifnullN 20 dX11_must_10 (by decide) ?_
    refine g_iconst dX11_must_20 lt_iconst_m1 ?_
    refine g_goto 33 dX11_must_21 (by decide) ?_
    cases hF
    exact g_iret dX11_must_33 rfl ⟨rfl, rfl, rfl⟩ (Nat.le_of_ble_eq_true rfl) (Nat.le_of_ble_eq_true rfl)
  · replace hF := q_es hF
    refine g_astore_n [(3, .ref x8), (0, .ref a0), (1, .int a1), (2, .int a2)] dX11_must_8 (Nat.le_of_ble_eq_true rfl) rfl ?_
    refine g_aload_n 0 dX11_must_9 rfl ?_
    refine g_ifnullR dX11_must_10 ?_
    refine g_iload_n 3 dX11_must_13 rfl ?_
    obtain ⟨x9, e10, hF⟩ := q_bind hF
    refine g_callSr0 qm_X11_isScene wd_980 wd_981 (M_X11_isScene l b D z nx e10) (As := [.int a2]) rfl rfl (Nat.le_of_ble_eq_true rfl) ⟨(Nat.le_of_ble_eq_true rfl), (Nat.le_of_ble_eq_true rfl)⟩ ⟨rfl, rfl⟩ ⟨(Nat.le_of_ble_eq_true rfl), (Nat.le_of_ble_eq_true rfl)⟩ dX11_must_14 ?_
    refine g_if_ne 24 dX11_must_17 (by decide) (fun c11 => ?_) (fun c11 => ?_)
    · replace hF := q_f c11 hF
      refine g_aload_n 1 dX11_must_24 rfl ?_
      obtain ⟨x12, e13, hF⟩ := q_bind hF
      refine g_getfR fl_X11_37 e13 dX11_must_25 ?_
      refine g_aload_n 0 dX11_must_28 rfl ?_
      refine g_iload_n 3 dX11_must_29 rfl ?_
      obtain ⟨u14, e15, hF⟩ := q_bind hF
      obtain ⟨x16, e17, hF⟩ := q_bind hF
      refine g_callVr0 (ci := 6) (q := (RX6, TX6, 7)) qm_X6_neededFor wd_1335 wd_1336 wd_1337 rfl e15 (M_X6_neededFor l b D z nx e17) (As := [.ref x8, .int a2]) rfl rfl (Nat.le_of_ble_eq_true rfl) ⟨(Nat.le_of_ble_eq_true rfl), (Nat.le_of_ble_eq_true rfl)⟩ ⟨rfl, rfl⟩ ⟨(Nat.le_of_ble_eq_true rfl), (Nat.le_of_ble_eq_true rfl)⟩ dX11_must_30 ?_
      cases hF
      exact g_iret dX11_must_33 rfl ⟨rfl, rfl, rfl⟩ (Nat.le_of_ble_eq_true rfl) (Nat.le_of_ble_eq_true rfl)
    · replace hF := q_t c11 hF
      refine g_iconst dX11_must_20 lt_iconst_m1 ?_
      refine g_goto 33 dX11_must_21 (by decide) ?_
      cases hF
      exact g_iret dX11_must_33 rfl ⟨rfl, rfl, rfl⟩ (Nat.le_of_ble_eq_true rfl) (Nat.le_of_ble_eq_true rfl)
def rm_X11_ways : Room := { frames := 3, cells := 0, slots := 0, locals := 72 }
set_option maxRecDepth 100000 in
set_option maxHeartbeats 4000000 in
theorem M_X11_ways (l : Launch) (b : Nat) (D : va_G) (z : Nat → Nat) (nx : Nat) {h : qH} {a0 : Nat} {a1 : Int32} {a2 : Int32} {r : Int64 × qH} (hF : F_X11_ways h a0 a1 a2 = some r) : Me l b D z yX11_ways cX11_ways 4 (some .long) rm_X11_ways [.ref a0, .int a1, .int a2] h nx (qE (some (.long r.1)) r.2 nx) := by
  refine Me.of (by decide +kernel) (Nat.le_of_ble_eq_true rfl) ?_
  show Go l b D z yX11_ways cX11_ways 4 (some .long) rm_X11_ways (qE (some (.long r.1)) r.2 nx) 0 [(0, .ref a0), (1, .int a1), (2, .int a2)] [] h nx 0 0
  unfold F_X11_ways at hF
  refine g_aload_n 0 dX11_ways_0 rfl ?_
  obtain ⟨x1, e2, hF⟩ := q_bind hF
  refine g_getfR fl_X11_10 e2 dX11_ways_1 ?_
  refine g_iload_n 1 dX11_ways_4 rfl ?_
  obtain ⟨u3, e4, hF⟩ := q_bind hF
  obtain ⟨x5, e6, hF⟩ := q_bind hF
  refine g_callVr0 (ci := 9) (q := (RX9, TX9, 9)) qm_X9_bookAt wd_858 wd_736 wd_737 rfl e4 (M_X9_bookAt l b D z nx e6) (As := [.int a1]) rfl rfl (Nat.le_of_ble_eq_true rfl) ⟨(Nat.le_of_ble_eq_true rfl), (Nat.le_of_ble_eq_true rfl)⟩ ⟨rfl, rfl⟩ ⟨(Nat.le_of_ble_eq_true rfl), (Nat.le_of_ble_eq_true rfl)⟩ dX11_ways_5 ?_
  rcases x5 with _ | x8
  · replace hF := q_en hF
    refine g_astore_nN [(3, .null), (0, .ref a0), (1, .int a1), (2, .int a2)] dX11_ways_8 (Nat.le_of_ble_eq_true rfl) rfl ?_
    refine g_aload_nN 0 dX11_ways_9 rfl ?_
    refine g_ifnullN 24 dX11_ways_10 (by decide) ?_
    refine g_ldc2 dX11_ways_24 wd_1050 ?_
    refine g_goto 39 dX11_ways_27 (by decide) ?_
    cases hF
    exact g_lret dX11_ways_39 rfl ⟨rfl, rfl, rfl⟩ (Nat.le_of_ble_eq_true rfl) (Nat.le_of_ble_eq_true rfl)
  · replace hF := q_es hF
    refine g_astore_n [(3, .ref x8), (0, .ref a0), (1, .int a1), (2, .int a2)] dX11_ways_8 (Nat.le_of_ble_eq_true rfl) rfl ?_
    refine g_aload_n 0 dX11_ways_9 rfl ?_
    refine g_ifnullR dX11_ways_10 ?_
    refine g_iload_n 3 dX11_ways_13 rfl ?_
    refine g_iconst dX11_ways_14 lt_iconst_1 ?_
    refine g_icmp_lt 24 dX11_ways_15 (by decide) (fun c9 => ?_) (fun c9 => ?_)
    · replace hF := q_t c9 hF
      refine g_ldc2 dX11_ways_24 wd_1050 ?_
      refine g_goto 39 dX11_ways_27 (by decide) ?_
      cases hF
      exact g_lret dX11_ways_39 rfl ⟨rfl, rfl, rfl⟩ (Nat.le_of_ble_eq_true rfl) (Nat.le_of_ble_eq_true rfl)
    · replace hF := q_f c9 hF
      refine g_iload_n 3 dX11_ways_18 rfl ?_
      refine g_bipush dX11_ways_19 lt_bipush_12 ?_
      refine g_icmp_le 30 dX11_ways_21 (by decide) (fun c10 => ?_) (fun c10 => ?_)
      · replace hF := q_t c10 hF
        refine g_aload_n 1 dX11_ways_30 rfl ?_
        obtain ⟨x11, e12, hF⟩ := q_bind hF
        refine g_getfR fl_X11_37 e12 dX11_ways_31 ?_
        refine g_aload_n 0 dX11_ways_34 rfl ?_
        refine g_iload_n 3 dX11_ways_35 rfl ?_
        obtain ⟨u13, e14, hF⟩ := q_bind hF
        obtain ⟨x15, e16, hF⟩ := q_bind hF
        refine g_callVr0 (ci := 6) (q := (RX6, TX6, 7)) qm_X6_howManyWays wd_1343 wd_1344 wd_1345 rfl e14 (M_X6_howManyWays l b D z nx e16) (As := [.ref x8, .int a2]) rfl rfl (Nat.le_of_ble_eq_true rfl) ⟨(Nat.le_of_ble_eq_true rfl), (Nat.le_of_ble_eq_true rfl)⟩ ⟨rfl, rfl⟩ ⟨(Nat.le_of_ble_eq_true rfl), (Nat.le_of_ble_eq_true rfl)⟩ dX11_ways_36 ?_
        cases hF
        exact g_lret dX11_ways_39 rfl ⟨rfl, rfl, rfl⟩ (Nat.le_of_ble_eq_true rfl) (Nat.le_of_ble_eq_true rfl)
      · replace hF := q_f c10 hF
        refine g_ldc2 dX11_ways_24 wd_1050 ?_
        refine g_goto 39 dX11_ways_27 (by decide) ?_
        cases hF
        exact g_lret dX11_ways_39 rfl ⟨rfl, rfl, rfl⟩ (Nat.le_of_ble_eq_true rfl) (Nat.le_of_ble_eq_true rfl)
def rm_X11_worst : Room := { frames := 5, cells := 0, slots := 0, locals := 121 }
set_option maxRecDepth 100000 in
set_option maxHeartbeats 4000000 in
theorem M_X11_worst (l : Launch) (b : Nat) (D : va_G) (z : Nat → Nat) (nx : Nat) {h : qH} {a0 : Nat} {a1 : Int32} {a2 : Int32} {a3 : Int32} {a4 : Int32} {r : Int32 × qH} (hF : F_X11_worst h a0 a1 a2 a3 a4 = some r) : Me l b D z yX11_worst cX11_worst 6 (some .int) rm_X11_worst [.ref a0, .int a1, .int a2, .int a3, .int a4] h nx (qE (some (.int r.1)) r.2 nx) := by
  refine Me.of (by decide +kernel) (Nat.le_of_ble_eq_true rfl) ?_
  show Go l b D z yX11_worst cX11_worst 6 (some .int) rm_X11_worst (qE (some (.int r.1)) r.2 nx) 0 [(0, .ref a0), (1, .int a1), (2, .int a2), (3, .int a3), (4, .int a4)] [] h nx 0 0
  unfold F_X11_worst at hF
  refine g_aload_n 0 dX11_worst_0 rfl ?_
  obtain ⟨x1, e2, hF⟩ := q_bind hF
  refine g_getfR fl_X11_10 e2 dX11_worst_1 ?_
  refine g_iload_n 1 dX11_worst_4 rfl ?_
  obtain ⟨u3, e4, hF⟩ := q_bind hF
  obtain ⟨x5, e6, hF⟩ := q_bind hF
  refine g_callVr0 (ci := 9) (q := (RX9, TX9, 9)) qm_X9_bookAt wd_858 wd_736 wd_737 rfl e4 (M_X9_bookAt l b D z nx e6) (As := [.int a1]) rfl rfl (Nat.le_of_ble_eq_true rfl) ⟨(Nat.le_of_ble_eq_true rfl), (Nat.le_of_ble_eq_true rfl)⟩ ⟨rfl, rfl⟩ ⟨(Nat.le_of_ble_eq_true rfl), (Nat.le_of_ble_eq_true rfl)⟩ dX11_worst_5 ?_
  rcases x5 with _ | x8
  · replace hF := q_en hF
    refine g_astoreN [(5, .null), (0, .ref a0), (1, .int a1), (2, .int a2), (3, .int a3), (4, .int a4)] dX11_worst_8 (Nat.le_of_ble_eq_true rfl) rfl ?_
    refine g_aloadN 0 dX11_worst_10 rfl ?_
    refine g_ifnullN 44 dX11_worst_12 (by decide) ?_
    refine g_iconst dX11_worst_44 lt_iconst_m1 ?_
    cases hF
    exact g_iret dX11_worst_45 rfl ⟨rfl, rfl, rfl⟩ (Nat.le_of_ble_eq_true rfl) (Nat.le_of_ble_eq_true rfl)
  · replace hF := q_es hF
    refine g_astore [(5, .ref x8), (0, .ref a0), (1, .int a1), (2, .int a2), (3, .int a3), (4, .int a4)] dX11_worst_8 (Nat.le_of_ble_eq_true rfl) rfl ?_
    refine g_aload 0 dX11_worst_10 rfl ?_
    refine g_ifnullR dX11_worst_12 ?_
    refine g_aload 0 dX11_worst_15 rfl ?_
    obtain ⟨x9, e10, hF⟩ := q_bind hF
    refine g_getfI fl_X11_196 e10 dX11_worst_17 ?_
    refine g_if_eq 44 dX11_worst_20 (by decide) (fun c11 => ?_) (fun c11 => ?_)
    · replace hF := q_t c11 hF
      refine g_iconst dX11_worst_44 lt_iconst_m1 ?_
      cases hF
      exact g_iret dX11_worst_45 rfl ⟨rfl, rfl, rfl⟩ (Nat.le_of_ble_eq_true rfl) (Nat.le_of_ble_eq_true rfl)
    · replace hF := q_f c11 hF
      refine g_iload_n 3 dX11_worst_23 rfl ?_
      refine g_iconst dX11_worst_24 lt_iconst_1 ?_
      refine g_icmp_lt 44 dX11_worst_25 (by decide) (fun c12 => ?_) (fun c12 => ?_)
      · replace hF := q_t c12 hF
        refine g_iconst dX11_worst_44 lt_iconst_m1 ?_
        cases hF
        exact g_iret dX11_worst_45 rfl ⟨rfl, rfl, rfl⟩ (Nat.le_of_ble_eq_true rfl) (Nat.le_of_ble_eq_true rfl)
      · replace hF := q_f c12 hF
        refine g_iload_n 3 dX11_worst_28 rfl ?_
        refine g_bipush dX11_worst_29 lt_bipush_20 ?_
        refine g_icmp_gt 44 dX11_worst_31 (by decide) (fun c13 => ?_) (fun c13 => ?_)
        · replace hF := q_t c13 hF
          refine g_iconst dX11_worst_44 lt_iconst_m1 ?_
          cases hF
          exact g_iret dX11_worst_45 rfl ⟨rfl, rfl, rfl⟩ (Nat.le_of_ble_eq_true rfl) (Nat.le_of_ble_eq_true rfl)
        · replace hF := q_f c13 hF
          refine g_iload_n 4 dX11_worst_34 rfl ?_
          refine g_if_lt 44 dX11_worst_35 (by decide) (fun c14 => ?_) (fun c14 => ?_)
          · replace hF := q_t c14 hF
            refine g_iconst dX11_worst_44 lt_iconst_m1 ?_
            cases hF
            exact g_iret dX11_worst_45 rfl ⟨rfl, rfl, rfl⟩ (Nat.le_of_ble_eq_true rfl) (Nat.le_of_ble_eq_true rfl)
          · replace hF := q_f c14 hF
            refine g_iload_n 4 dX11_worst_38 rfl ?_
            refine g_bipush dX11_worst_39 lt_bipush_9 ?_
            refine g_icmp_le 46 dX11_worst_41 (by decide) (fun c15 => ?_) (fun c15 => ?_)
            · replace hF := q_t c15 hF
              refine g_aload_n 1 dX11_worst_46 rfl ?_
              obtain ⟨x16, e17, hF⟩ := q_bind hF
              refine g_getfR fl_X11_37 e17 dX11_worst_47 ?_
              refine g_aload 0 dX11_worst_50 rfl ?_
              refine g_iload_n 3 dX11_worst_52 rfl ?_
              refine g_iload_n 4 dX11_worst_53 rfl ?_
              refine g_iload 5 dX11_worst_54 rfl ?_
              obtain ⟨u18, e19, hF⟩ := q_bind hF
              obtain ⟨x20, e21, hF⟩ := q_bind hF
              refine g_callVr0 (ci := 6) (q := (RX6, TX6, 7)) qm_X6_harmOfWay wd_1355 wd_1356 wd_1357 rfl e19 (M_X6_harmOfWay l b D z nx e21) (As := [.ref x8, .int a2, .int a3, .int a4]) rfl rfl (Nat.le_of_ble_eq_true rfl) ⟨(Nat.le_of_ble_eq_true rfl), (Nat.le_of_ble_eq_true rfl)⟩ ⟨rfl, rfl⟩ ⟨(Nat.le_of_ble_eq_true rfl), (Nat.le_of_ble_eq_true rfl)⟩ dX11_worst_56 ?_
              cases hF
              exact g_iret dX11_worst_59 rfl ⟨rfl, rfl, rfl⟩ (Nat.le_of_ble_eq_true rfl) (Nat.le_of_ble_eq_true rfl)
            · replace hF := q_f c15 hF
              refine g_iconst dX11_worst_44 lt_iconst_m1 ?_
              cases hF
              exact g_iret dX11_worst_45 rfl ⟨rfl, rfl, rfl⟩ (Nat.le_of_ble_eq_true rfl) (Nat.le_of_ble_eq_true rfl)
def rm_X11_lost : Room := { frames := 5, cells := 0, slots := 0, locals := 114 }
set_option maxRecDepth 100000 in
set_option maxHeartbeats 4000000 in
theorem M_X11_lost (l : Launch) (b : Nat) (D : va_G) (z : Nat → Nat) (nx : Nat) {h : qH} {a0 : Nat} {a1 : Int32} {a2 : Int32} {r : Int32} (hF : F_X11_lost h a0 a1 a2 = some r) : Me l b D z yX11_lost cX11_lost 5 (some .int) rm_X11_lost [.ref a0, .int a1, .int a2] h nx (qE (some (.int r)) h nx) := by
  refine Me.of (by decide +kernel) (Nat.le_of_ble_eq_true rfl) ?_
  show Go l b D z yX11_lost cX11_lost 5 (some .int) rm_X11_lost (qE (some (.int r)) h nx) 0 [(0, .ref a0), (1, .int a1), (2, .int a2)] [] h nx 0 0
  unfold F_X11_lost at hF
  refine g_aload_n 0 dX11_lost_0 rfl ?_
  obtain ⟨x1, e2, hF⟩ := q_bind hF
  refine g_getfR fl_X11_10 e2 dX11_lost_1 ?_
  refine g_iload_n 1 dX11_lost_4 rfl ?_
  obtain ⟨u3, e4, hF⟩ := q_bind hF
  obtain ⟨x5, e6, hF⟩ := q_bind hF
  refine g_callVr0 (ci := 9) (q := (RX9, TX9, 9)) qm_X9_bookAt wd_858 wd_736 wd_737 rfl e4 (M_X9_bookAt l b D z nx e6) (As := [.int a1]) rfl rfl (Nat.le_of_ble_eq_true rfl) ⟨(Nat.le_of_ble_eq_true rfl), (Nat.le_of_ble_eq_true rfl)⟩ ⟨rfl, rfl⟩ ⟨(Nat.le_of_ble_eq_true rfl), (Nat.le_of_ble_eq_true rfl)⟩ dX11_lost_5 ?_
  rcases x5 with _ | x8
  · replace hF := q_en hF
    refine g_astore_nN [(3, .null), (0, .ref a0), (1, .int a1), (2, .int a2)] dX11_lost_8 (Nat.le_of_ble_eq_true rfl) rfl ?_
    refine g_aload_nN 0 dX11_lost_9 rfl ?_
    refine g_ifnullN 21 dX11_lost_10 (by decide) ?_
    refine g_iconst dX11_lost_21 lt_iconst_m1 ?_
    cases hF
    exact g_iret dX11_lost_22 rfl ⟨rfl, rfl, rfl⟩ (Nat.le_of_ble_eq_true rfl) (Nat.le_of_ble_eq_true rfl)
  · replace hF := q_es hF
    refine g_astore_n [(3, .ref x8), (0, .ref a0), (1, .int a1), (2, .int a2)] dX11_lost_8 (Nat.le_of_ble_eq_true rfl) rfl ?_
    refine g_aload_n 0 dX11_lost_9 rfl ?_
    refine g_ifnullR dX11_lost_10 ?_
    refine g_aload_n 0 dX11_lost_13 rfl ?_
    obtain ⟨x9, e10, hF⟩ := q_bind hF
    refine g_getfI fl_X11_196 e10 dX11_lost_14 ?_
    refine g_iconst dX11_lost_17 lt_iconst_2 ?_
    refine g_icmp_ge 23 dX11_lost_18 (by decide) (fun c11 => ?_) (fun c11 => ?_)
    · replace hF := q_t c11 hF
      refine g_aload_n 0 dX11_lost_23 rfl ?_
      obtain ⟨u12, e13, hF⟩ := q_bind hF
      obtain ⟨x14, e15, hF⟩ := q_bind hF
      refine g_callVr0 (ci := 0) (q := (RX0, TX0, 15)) qm_X0_shortestWithout wd_1368 wd_1369 wd_1370 rfl e13 (M_X0_shortestWithout l b D z nx e15) (As := []) rfl rfl (Nat.le_of_ble_eq_true rfl) ⟨(Nat.le_of_ble_eq_true rfl), (Nat.le_of_ble_eq_true rfl)⟩ ⟨rfl, rfl⟩ ⟨(Nat.le_of_ble_eq_true rfl), (Nat.le_of_ble_eq_true rfl)⟩ dX11_lost_24 ?_
      refine g_istore [(4, .int x14), (3, .ref x8), (0, .ref a0), (1, .int a1), (2, .int a2)] dX11_lost_27 (Nat.le_of_ble_eq_true rfl) rfl ?_
      refine g_iload_n 4 dX11_lost_29 rfl ?_
      refine g_if_eq 42 dX11_lost_30 (by decide) (fun c16 => ?_) (fun c16 => ?_)
      · replace hF := q_t c16 hF
        refine g_iload 0 dX11_lost_42 rfl ?_
        cases hF
        exact g_iret dX11_lost_44 rfl ⟨rfl, rfl, rfl⟩ (Nat.le_of_ble_eq_true rfl) (Nat.le_of_ble_eq_true rfl)
      · replace hF := q_f c16 hF
        refine g_aload_n 1 dX11_lost_33 rfl ?_
        refine g_iload 0 dX11_lost_34 rfl ?_
        obtain ⟨u17, e18, hF⟩ := q_bind hF
        obtain ⟨x19, e20, hF⟩ := q_bind hF
        refine g_callVr0 (ci := 0) (q := (RX0, TX0, 15)) qm_X0_lengthWithout wd_1091 wd_1092 wd_1093 rfl e18 (M_X0_lengthWithout l b D z nx e20) (As := [.int x14]) rfl rfl (Nat.le_of_ble_eq_true rfl) ⟨(Nat.le_of_ble_eq_true rfl), (Nat.le_of_ble_eq_true rfl)⟩ ⟨rfl, rfl⟩ ⟨(Nat.le_of_ble_eq_true rfl), (Nat.le_of_ble_eq_true rfl)⟩ dX11_lost_36 ?_
        refine g_goto 44 dX11_lost_39 (by decide) ?_
        cases hF
        exact g_iret dX11_lost_44 rfl ⟨rfl, rfl, rfl⟩ (Nat.le_of_ble_eq_true rfl) (Nat.le_of_ble_eq_true rfl)
    · replace hF := q_f c11 hF
      refine g_iconst dX11_lost_21 lt_iconst_m1 ?_
      cases hF
      exact g_iret dX11_lost_22 rfl ⟨rfl, rfl, rfl⟩ (Nat.le_of_ble_eq_true rfl) (Nat.le_of_ble_eq_true rfl)
def rm_X11_force : Room := { frames := 3, cells := 0, slots := 0, locals := 75 }
set_option maxRecDepth 100000 in
set_option maxHeartbeats 4000000 in
theorem M_X11_force (l : Launch) (b : Nat) (D : va_G) (z : Nat → Nat) (nx : Nat) {h : qH} {a0 : Nat} {a1 : Int32} {a2 : Int32} {a3 : Int32} {r : Int32 × qH} (hF : F_X11_force h a0 a1 a2 a3 = some r) : Me l b D z yX11_force cX11_force 5 (some .int) rm_X11_force [.ref a0, .int a1, .int a2, .int a3] h nx (qE (some (.int r.1)) r.2 nx) := by
  refine Me.of (by decide +kernel) (Nat.le_of_ble_eq_true rfl) ?_
  show Go l b D z yX11_force cX11_force 5 (some .int) rm_X11_force (qE (some (.int r.1)) r.2 nx) 0 [(0, .ref a0), (1, .int a1), (2, .int a2), (3, .int a3)] [] h nx 0 0
  unfold F_X11_force at hF
  refine g_aload_n 0 dX11_force_0 rfl ?_
  obtain ⟨x1, e2, hF⟩ := q_bind hF
  refine g_getfR fl_X11_10 e2 dX11_force_1 ?_
  refine g_iload_n 1 dX11_force_4 rfl ?_
  obtain ⟨u3, e4, hF⟩ := q_bind hF
  obtain ⟨x5, e6, hF⟩ := q_bind hF
  refine g_callVr0 (ci := 9) (q := (RX9, TX9, 9)) qm_X9_bookAt wd_858 wd_736 wd_737 rfl e4 (M_X9_bookAt l b D z nx e6) (As := [.int a1]) rfl rfl (Nat.le_of_ble_eq_true rfl) ⟨(Nat.le_of_ble_eq_true rfl), (Nat.le_of_ble_eq_true rfl)⟩ ⟨rfl, rfl⟩ ⟨(Nat.le_of_ble_eq_true rfl), (Nat.le_of_ble_eq_true rfl)⟩ dX11_force_5 ?_
  rcases x5 with _ | x8
  · replace hF := q_en hF
    refine g_astoreN [(4, .null), (0, .ref a0), (1, .int a1), (2, .int a2), (3, .int a3)] dX11_force_8 (Nat.le_of_ble_eq_true rfl) rfl ?_
    refine g_aloadN 0 dX11_force_10 rfl ?_
    refine g_ifnullN 32 dX11_force_12 (by decide) ?_
    refine g_iconst dX11_force_32 lt_iconst_m1 ?_
    cases hF
    exact g_iret dX11_force_33 rfl ⟨rfl, rfl, rfl⟩ (Nat.le_of_ble_eq_true rfl) (Nat.le_of_ble_eq_true rfl)
  · replace hF := q_es hF
    refine g_astore [(4, .ref x8), (0, .ref a0), (1, .int a1), (2, .int a2), (3, .int a3)] dX11_force_8 (Nat.le_of_ble_eq_true rfl) rfl ?_
    refine g_aload 0 dX11_force_10 rfl ?_
    refine g_ifnullR dX11_force_12 ?_
    refine g_iload_n 3 dX11_force_15 rfl ?_
    obtain ⟨x9, e10, hF⟩ := q_bind hF
    refine g_callSr0 qm_X11_isScene wd_980 wd_981 (M_X11_isScene l b D z nx e10) (As := [.int a2]) rfl rfl (Nat.le_of_ble_eq_true rfl) ⟨(Nat.le_of_ble_eq_true rfl), (Nat.le_of_ble_eq_true rfl)⟩ ⟨rfl, rfl⟩ ⟨(Nat.le_of_ble_eq_true rfl), (Nat.le_of_ble_eq_true rfl)⟩ dX11_force_16 ?_
    refine g_if_eq 32 dX11_force_19 (by decide) (fun c11 => ?_) (fun c11 => ?_)
    · replace hF := q_t c11 hF
      refine g_iconst dX11_force_32 lt_iconst_m1 ?_
      cases hF
      exact g_iret dX11_force_33 rfl ⟨rfl, rfl, rfl⟩ (Nat.le_of_ble_eq_true rfl) (Nat.le_of_ble_eq_true rfl)
    · replace hF := q_f c11 hF
      refine g_iload_n 4 dX11_force_22 rfl ?_
      refine g_if_lt 32 dX11_force_23 (by decide) (fun c12 => ?_) (fun c12 => ?_)
      · replace hF := q_t c12 hF
        refine g_iconst dX11_force_32 lt_iconst_m1 ?_
        cases hF
        exact g_iret dX11_force_33 rfl ⟨rfl, rfl, rfl⟩ (Nat.le_of_ble_eq_true rfl) (Nat.le_of_ble_eq_true rfl)
      · replace hF := q_f c12 hF
        refine g_iload_n 4 dX11_force_26 rfl ?_
        refine g_bipush dX11_force_27 lt_bipush_64 ?_
        refine g_icmp_lt 34 dX11_force_29 (by decide) (fun c13 => ?_) (fun c13 => ?_)
        · replace hF := q_t c13 hF
          refine g_aload_n 1 dX11_force_34 rfl ?_
          obtain ⟨x14, e15, hF⟩ := q_bind hF
          refine g_getfR fl_X11_37 e15 dX11_force_35 ?_
          refine g_aload 0 dX11_force_38 rfl ?_
          refine g_iload_n 3 dX11_force_40 rfl ?_
          refine g_iload_n 4 dX11_force_41 rfl ?_
          obtain ⟨u16, e17, hF⟩ := q_bind hF
          obtain ⟨x18, e19, hF⟩ := q_bind hF
          refine g_callVr0 (ci := 6) (q := (RX6, TX6, 7)) qm_X6_linesForSure wd_1378 wd_1379 wd_1380 rfl e17 (M_X6_linesForSure l b D z nx e19) (As := [.ref x8, .int a2, .int a3]) rfl rfl (Nat.le_of_ble_eq_true rfl) ⟨(Nat.le_of_ble_eq_true rfl), (Nat.le_of_ble_eq_true rfl)⟩ ⟨rfl, rfl⟩ ⟨(Nat.le_of_ble_eq_true rfl), (Nat.le_of_ble_eq_true rfl)⟩ dX11_force_42 ?_
          cases hF
          exact g_iret dX11_force_45 rfl ⟨rfl, rfl, rfl⟩ (Nat.le_of_ble_eq_true rfl) (Nat.le_of_ble_eq_true rfl)
        · replace hF := q_f c13 hF
          refine g_iconst dX11_force_32 lt_iconst_m1 ?_
          cases hF
          exact g_iret dX11_force_33 rfl ⟨rfl, rfl, rfl⟩ (Nat.le_of_ble_eq_true rfl) (Nat.le_of_ble_eq_true rfl)
def rm_X11_prompts : Room := { frames := 3, cells := 0, slots := 0, locals := 69 }
set_option maxRecDepth 100000 in
set_option maxHeartbeats 4000000 in
theorem M_X11_prompts (l : Launch) (b : Nat) (D : va_G) (z : Nat → Nat) (nx : Nat) {h : qH} {a0 : Nat} {a1 : Int32} {a2 : Int32} {a3 : Int32} {r : Int64 × qH} (hF : F_X11_prompts h a0 a1 a2 a3 = some r) : Me l b D z yX11_prompts cX11_prompts 5 (some .long) rm_X11_prompts [.ref a0, .int a1, .int a2, .int a3] h nx (qE (some (.long r.1)) r.2 nx) := by
  refine Me.of (by decide +kernel) (Nat.le_of_ble_eq_true rfl) ?_
  show Go l b D z yX11_prompts cX11_prompts 5 (some .long) rm_X11_prompts (qE (some (.long r.1)) r.2 nx) 0 [(0, .ref a0), (1, .int a1), (2, .int a2), (3, .int a3)] [] h nx 0 0
  unfold F_X11_prompts at hF
  refine g_aload_n 0 dX11_prompts_0 rfl ?_
  obtain ⟨x1, e2, hF⟩ := q_bind hF
  refine g_getfR fl_X11_10 e2 dX11_prompts_1 ?_
  refine g_iload_n 1 dX11_prompts_4 rfl ?_
  obtain ⟨u3, e4, hF⟩ := q_bind hF
  obtain ⟨x5, e6, hF⟩ := q_bind hF
  refine g_callVr0 (ci := 9) (q := (RX9, TX9, 9)) qm_X9_bookAt wd_858 wd_736 wd_737 rfl e4 (M_X9_bookAt l b D z nx e6) (As := [.int a1]) rfl rfl (Nat.le_of_ble_eq_true rfl) ⟨(Nat.le_of_ble_eq_true rfl), (Nat.le_of_ble_eq_true rfl)⟩ ⟨rfl, rfl⟩ ⟨(Nat.le_of_ble_eq_true rfl), (Nat.le_of_ble_eq_true rfl)⟩ dX11_prompts_5 ?_
  rcases x5 with _ | x8
  · replace hF := q_en hF
    refine g_astoreN [(4, .null), (0, .ref a0), (1, .int a1), (2, .int a2), (3, .int a3)] dX11_prompts_8 (Nat.le_of_ble_eq_true rfl) rfl ?_
    refine g_aloadN 0 dX11_prompts_10 rfl ?_
    refine g_ifnullN 26 dX11_prompts_12 (by decide) ?_
    refine g_ldc2 dX11_prompts_26 wd_1050 ?_
    cases hF
    exact g_lret dX11_prompts_29 rfl ⟨rfl, rfl, rfl⟩ (Nat.le_of_ble_eq_true rfl) (Nat.le_of_ble_eq_true rfl)
  · replace hF := q_es hF
    refine g_astore [(4, .ref x8), (0, .ref a0), (1, .int a1), (2, .int a2), (3, .int a3)] dX11_prompts_8 (Nat.le_of_ble_eq_true rfl) rfl ?_
    refine g_aload 0 dX11_prompts_10 rfl ?_
    refine g_ifnullR dX11_prompts_12 ?_
    refine g_iload_n 3 dX11_prompts_15 rfl ?_
    refine g_iconst dX11_prompts_16 lt_iconst_1 ?_
    refine g_icmp_lt 26 dX11_prompts_17 (by decide) (fun c9 => ?_) (fun c9 => ?_)
    · replace hF := q_t c9 hF
      refine g_ldc2 dX11_prompts_26 wd_1050 ?_
      cases hF
      exact g_lret dX11_prompts_29 rfl ⟨rfl, rfl, rfl⟩ (Nat.le_of_ble_eq_true rfl) (Nat.le_of_ble_eq_true rfl)
    · replace hF := q_f c9 hF
      refine g_iload_n 3 dX11_prompts_20 rfl ?_
      refine g_bipush dX11_prompts_21 lt_bipush_20 ?_
      refine g_icmp_le 30 dX11_prompts_23 (by decide) (fun c10 => ?_) (fun c10 => ?_)
      · replace hF := q_t c10 hF
        refine g_aload_n 1 dX11_prompts_30 rfl ?_
        obtain ⟨x11, e12, hF⟩ := q_bind hF
        refine g_getfR fl_X11_44 e12 dX11_prompts_31 ?_
        refine g_aload 0 dX11_prompts_34 rfl ?_
        refine g_iload_n 3 dX11_prompts_36 rfl ?_
        obtain ⟨u13, e14, hF⟩ := q_bind hF
        obtain ⟨x15, e16, hF⟩ := q_bind hF
        refine g_callVv0 (ci := 5) (q := (RX5, TX5, 4)) qm_X5_driesByNext wd_1390 wd_1391 wd_1392 rfl e14 (M_X5_driesByNext l b D z nx e16) (As := [.ref x8, .int a2]) rfl rfl (Nat.le_of_ble_eq_true rfl) ⟨(Nat.le_of_ble_eq_true rfl), (Nat.le_of_ble_eq_true rfl)⟩ ⟨rfl, rfl⟩ ⟨(Nat.le_of_ble_eq_true rfl), (Nat.le_of_ble_eq_true rfl)⟩ dX11_prompts_37 ?_
        refine g_iload_n 4 dX11_prompts_40 rfl ?_
        refine g_if_eq 54 dX11_prompts_41 (by decide) (fun c17 => ?_) (fun c17 => ?_)
        · replace hF := q_t c17 hF
          refine g_aload_n 1 dX11_prompts_54 rfl ?_
          obtain ⟨x18, e19, hF⟩ := q_bind hF
          refine g_getfR fl_X11_44 e19 dX11_prompts_55 ?_
          obtain ⟨x20, e21, hF⟩ := q_bind hF
          refine g_getfL fl_X11_154 e21 dX11_prompts_58 ?_
          cases hF
          exact g_lret dX11_prompts_61 rfl ⟨rfl, rfl, rfl⟩ (Nat.le_of_ble_eq_true rfl) (Nat.le_of_ble_eq_true rfl)
        · replace hF := q_f c17 hF
          refine g_aload_n 1 dX11_prompts_44 rfl ?_
          obtain ⟨x22, e23, hF⟩ := q_bind hF
          refine g_getfR fl_X11_44 e23 dX11_prompts_45 ?_
          obtain ⟨x24, e25, hF⟩ := q_bind hF
          refine g_getfL fl_X11_150 e25 dX11_prompts_48 ?_
          refine g_goto 61 dX11_prompts_51 (by decide) ?_
          cases hF
          exact g_lret dX11_prompts_61 rfl ⟨rfl, rfl, rfl⟩ (Nat.le_of_ble_eq_true rfl) (Nat.le_of_ble_eq_true rfl)
      · replace hF := q_f c10 hF
        refine g_ldc2 dX11_prompts_26 wd_1050 ?_
        cases hF
        exact g_lret dX11_prompts_29 rfl ⟨rfl, rfl, rfl⟩ (Nat.le_of_ble_eq_true rfl) (Nat.le_of_ble_eq_true rfl)
def rm_X11_parted : Room := { frames := 3, cells := 0, slots := 0, locals := 68 }
set_option maxRecDepth 100000 in
set_option maxHeartbeats 4000000 in
theorem M_X11_parted (l : Launch) (b : Nat) (D : va_G) (z : Nat → Nat) (nx : Nat) {h : qH} {a0 : Nat} {a1 : Int32} {a2 : Int32} {r : Int32} (hF : F_X11_parted h a0 a1 a2 = some r) : Me l b D z yX11_parted cX11_parted 5 (some .int) rm_X11_parted [.ref a0, .int a1, .int a2] h nx (qE (some (.int r)) h nx) := by
  refine Me.of (by decide +kernel) (Nat.le_of_ble_eq_true rfl) ?_
  show Go l b D z yX11_parted cX11_parted 5 (some .int) rm_X11_parted (qE (some (.int r)) h nx) 0 [(0, .ref a0), (1, .int a1), (2, .int a2)] [] h nx 0 0
  unfold F_X11_parted at hF
  refine g_aload_n 0 dX11_parted_0 rfl ?_
  obtain ⟨x1, e2, hF⟩ := q_bind hF
  refine g_getfR fl_X11_10 e2 dX11_parted_1 ?_
  refine g_iload_n 1 dX11_parted_4 rfl ?_
  obtain ⟨u3, e4, hF⟩ := q_bind hF
  obtain ⟨x5, e6, hF⟩ := q_bind hF
  refine g_callVr0 (ci := 9) (q := (RX9, TX9, 9)) qm_X9_bookAt wd_858 wd_736 wd_737 rfl e4 (M_X9_bookAt l b D z nx e6) (As := [.int a1]) rfl rfl (Nat.le_of_ble_eq_true rfl) ⟨(Nat.le_of_ble_eq_true rfl), (Nat.le_of_ble_eq_true rfl)⟩ ⟨rfl, rfl⟩ ⟨(Nat.le_of_ble_eq_true rfl), (Nat.le_of_ble_eq_true rfl)⟩ dX11_parted_5 ?_
  rcases x5 with _ | x16
  · replace hF := q_en hF
    refine g_astore_nN [(3, .null), (0, .ref a0), (1, .int a1), (2, .int a2)] dX11_parted_8 (Nat.le_of_ble_eq_true rfl) rfl ?_
    refine g_aload_n 1 dX11_parted_9 rfl ?_
    obtain ⟨x8, e9, hF⟩ := q_bind hF
    refine g_getfR fl_X11_10 e9 dX11_parted_10 ?_
    refine g_iload_n 3 dX11_parted_13 rfl ?_
    obtain ⟨u10, e11, hF⟩ := q_bind hF
    obtain ⟨x12, e13, hF⟩ := q_bind hF
    refine g_callVr0 (ci := 9) (q := (RX9, TX9, 9)) qm_X9_bookAt wd_858 wd_736 wd_737 rfl e11 (M_X9_bookAt l b D z nx e13) (As := [.int a2]) rfl rfl (Nat.le_of_ble_eq_true rfl) ⟨(Nat.le_of_ble_eq_true rfl), (Nat.le_of_ble_eq_true rfl)⟩ ⟨rfl, rfl⟩ ⟨(Nat.le_of_ble_eq_true rfl), (Nat.le_of_ble_eq_true rfl)⟩ dX11_parted_14 ?_
    rcases x12 with _ | x15
    · replace hF := q_en hF
      refine g_astoreN [(4, .null), (3, .null), (0, .ref a0), (1, .int a1), (2, .int a2)] dX11_parted_17 (Nat.le_of_ble_eq_true rfl) rfl ?_
      refine g_aload_nN 1 dX11_parted_19 rfl ?_
      refine g_ifnullN 28 dX11_parted_20 (by decide) ?_
      refine g_iconst dX11_parted_28 lt_iconst_m1 ?_
      refine g_goto 42 dX11_parted_29 (by decide) ?_
      cases hF
      exact g_iret dX11_parted_42 rfl ⟨rfl, rfl, rfl⟩ (Nat.le_of_ble_eq_true rfl) (Nat.le_of_ble_eq_true rfl)
    · replace hF := q_es hF
      refine g_astore [(4, .ref x15), (3, .null), (0, .ref a0), (1, .int a1), (2, .int a2)] dX11_parted_17 (Nat.le_of_ble_eq_true rfl) rfl ?_
      refine g_aload_nN 1 dX11_parted_19 rfl ?_
      refine g_ifnullN 28 dX11_parted_20 (by decide) ?_
      refine g_iconst dX11_parted_28 lt_iconst_m1 ?_
      refine g_goto 42 dX11_parted_29 (by decide) ?_
      cases hF
      exact g_iret dX11_parted_42 rfl ⟨rfl, rfl, rfl⟩ (Nat.le_of_ble_eq_true rfl) (Nat.le_of_ble_eq_true rfl)
  · replace hF := q_es hF
    refine g_astore_n [(3, .ref x16), (0, .ref a0), (1, .int a1), (2, .int a2)] dX11_parted_8 (Nat.le_of_ble_eq_true rfl) rfl ?_
    refine g_aload_n 1 dX11_parted_9 rfl ?_
    obtain ⟨x17, e18, hF⟩ := q_bind hF
    refine g_getfR fl_X11_10 e18 dX11_parted_10 ?_
    refine g_iload_n 3 dX11_parted_13 rfl ?_
    obtain ⟨u19, e20, hF⟩ := q_bind hF
    obtain ⟨x21, e22, hF⟩ := q_bind hF
    refine g_callVr0 (ci := 9) (q := (RX9, TX9, 9)) qm_X9_bookAt wd_858 wd_736 wd_737 rfl e20 (M_X9_bookAt l b D z nx e22) (As := [.int a2]) rfl rfl (Nat.le_of_ble_eq_true rfl) ⟨(Nat.le_of_ble_eq_true rfl), (Nat.le_of_ble_eq_true rfl)⟩ ⟨rfl, rfl⟩ ⟨(Nat.le_of_ble_eq_true rfl), (Nat.le_of_ble_eq_true rfl)⟩ dX11_parted_14 ?_
    rcases x21 with _ | x24
    · replace hF := q_en hF
      refine g_astoreN [(4, .null), (3, .ref x16), (0, .ref a0), (1, .int a1), (2, .int a2)] dX11_parted_17 (Nat.le_of_ble_eq_true rfl) rfl ?_
      refine g_aload_n 1 dX11_parted_19 rfl ?_
      refine g_ifnullR dX11_parted_20 ?_
      refine g_aloadN 0 dX11_parted_23 rfl ?_
      refine g_ifnonnullN dX11_parted_25 ?_
      refine g_iconst dX11_parted_28 lt_iconst_m1 ?_
      refine g_goto 42 dX11_parted_29 (by decide) ?_
      cases hF
      exact g_iret dX11_parted_42 rfl ⟨rfl, rfl, rfl⟩ (Nat.le_of_ble_eq_true rfl) (Nat.le_of_ble_eq_true rfl)
    · replace hF := q_es hF
      refine g_astore [(4, .ref x24), (3, .ref x16), (0, .ref a0), (1, .int a1), (2, .int a2)] dX11_parted_17 (Nat.le_of_ble_eq_true rfl) rfl ?_
      refine g_aload_n 1 dX11_parted_19 rfl ?_
      refine g_ifnullR dX11_parted_20 ?_
      refine g_aload 0 dX11_parted_23 rfl ?_
      refine g_ifnonnullR 32 dX11_parted_25 (by decide) ?_
      refine g_aload_n 2 dX11_parted_32 rfl ?_
      obtain ⟨x25, e26, hF⟩ := q_bind hF
      refine g_getfR fl_X11_51 e26 dX11_parted_33 ?_
      refine g_aload_n 1 dX11_parted_36 rfl ?_
      refine g_aload 0 dX11_parted_37 rfl ?_
      obtain ⟨u27, e28, hF⟩ := q_bind hF
      obtain ⟨x29, e30, hF⟩ := q_bind hF
      refine g_callVr0 (ci := 4) (q := (RX4, TX4, 7)) qm_X4_firstUnlike wd_1398 wd_1399 wd_1400 rfl e28 (M_X4_firstUnlike l b D z nx e30) (As := [.ref x16, .ref x24]) rfl rfl (Nat.le_of_ble_eq_true rfl) ⟨(Nat.le_of_ble_eq_true rfl), (Nat.le_of_ble_eq_true rfl)⟩ ⟨rfl, rfl⟩ ⟨(Nat.le_of_ble_eq_true rfl), (Nat.le_of_ble_eq_true rfl)⟩ dX11_parted_39 ?_
      cases hF
      exact g_iret dX11_parted_42 rfl ⟨rfl, rfl, rfl⟩ (Nat.le_of_ble_eq_true rfl) (Nat.le_of_ble_eq_true rfl)
def rm_X11_after : Room := { frames := 6, cells := 0, slots := 0, locals := 141 }
set_option maxRecDepth 100000 in
set_option maxHeartbeats 4000000 in
theorem M_X11_after (l : Launch) (b : Nat) (D : va_G) (z : Nat → Nat) (nx : Nat) {h : qH} {a0 : Nat} {a1 : Int32} {a2 : Int32} {a3 : Int32} {r : Int32 × qH} (hF : F_X11_after h a0 a1 a2 a3 = some r) : Me l b D z yX11_after cX11_after 6 (some .int) rm_X11_after [.ref a0, .int a1, .int a2, .int a3] h nx (qE (some (.int r.1)) r.2 nx) := by
  refine Me.of (by decide +kernel) (Nat.le_of_ble_eq_true rfl) ?_
  show Go l b D z yX11_after cX11_after 6 (some .int) rm_X11_after (qE (some (.int r.1)) r.2 nx) 0 [(0, .ref a0), (1, .int a1), (2, .int a2), (3, .int a3)] [] h nx 0 0
  unfold F_X11_after at hF
  refine g_aload_n 0 dX11_after_0 rfl ?_
  obtain ⟨x1, e2, hF⟩ := q_bind hF
  refine g_getfR fl_X11_10 e2 dX11_after_1 ?_
  refine g_iload_n 1 dX11_after_4 rfl ?_
  obtain ⟨u3, e4, hF⟩ := q_bind hF
  obtain ⟨x5, e6, hF⟩ := q_bind hF
  refine g_callVr0 (ci := 9) (q := (RX9, TX9, 9)) qm_X9_bookAt wd_858 wd_736 wd_737 rfl e4 (M_X9_bookAt l b D z nx e6) (As := [.int a1]) rfl rfl (Nat.le_of_ble_eq_true rfl) ⟨(Nat.le_of_ble_eq_true rfl), (Nat.le_of_ble_eq_true rfl)⟩ ⟨rfl, rfl⟩ ⟨(Nat.le_of_ble_eq_true rfl), (Nat.le_of_ble_eq_true rfl)⟩ dX11_after_5 ?_
  rcases x5 with _ | x16
  · replace hF := q_en hF
    refine g_astoreN [(4, .null), (0, .ref a0), (1, .int a1), (2, .int a2), (3, .int a3)] dX11_after_8 (Nat.le_of_ble_eq_true rfl) rfl ?_
    refine g_aload_n 1 dX11_after_10 rfl ?_
    obtain ⟨x8, e9, hF⟩ := q_bind hF
    refine g_getfR fl_X11_10 e9 dX11_after_11 ?_
    refine g_iload_n 3 dX11_after_14 rfl ?_
    obtain ⟨u10, e11, hF⟩ := q_bind hF
    obtain ⟨x12, e13, hF⟩ := q_bind hF
    refine g_callVr0 (ci := 9) (q := (RX9, TX9, 9)) qm_X9_eveningAt wd_884 wd_799 wd_800 rfl e11 (M_X9_eveningAt l b D z nx e13) (As := [.int a2]) rfl rfl (Nat.le_of_ble_eq_true rfl) ⟨(Nat.le_of_ble_eq_true rfl), (Nat.le_of_ble_eq_true rfl)⟩ ⟨rfl, rfl⟩ ⟨(Nat.le_of_ble_eq_true rfl), (Nat.le_of_ble_eq_true rfl)⟩ dX11_after_15 ?_
    rcases x12 with _ | x15
    · replace hF := q_en hF
      refine g_astoreN [(5, .null), (4, .null), (0, .ref a0), (1, .int a1), (2, .int a2), (3, .int a3)] dX11_after_18 (Nat.le_of_ble_eq_true rfl) rfl ?_
      refine g_aloadN 1 dX11_after_20 rfl ?_
      refine g_ifnullN 30 dX11_after_22 (by decide) ?_
      refine g_bipush dX11_after_30 lt_bipush_m2 ?_
      cases hF
      exact g_iret dX11_after_32 rfl ⟨rfl, rfl, rfl⟩ (Nat.le_of_ble_eq_true rfl) (Nat.le_of_ble_eq_true rfl)
    · replace hF := q_es hF
      refine g_astore [(5, .ref x15), (4, .null), (0, .ref a0), (1, .int a1), (2, .int a2), (3, .int a3)] dX11_after_18 (Nat.le_of_ble_eq_true rfl) rfl ?_
      refine g_aloadN 1 dX11_after_20 rfl ?_
      refine g_ifnullN 30 dX11_after_22 (by decide) ?_
      refine g_bipush dX11_after_30 lt_bipush_m2 ?_
      cases hF
      exact g_iret dX11_after_32 rfl ⟨rfl, rfl, rfl⟩ (Nat.le_of_ble_eq_true rfl) (Nat.le_of_ble_eq_true rfl)
  · replace hF := q_es hF
    refine g_astore [(4, .ref x16), (0, .ref a0), (1, .int a1), (2, .int a2), (3, .int a3)] dX11_after_8 (Nat.le_of_ble_eq_true rfl) rfl ?_
    refine g_aload_n 1 dX11_after_10 rfl ?_
    obtain ⟨x17, e18, hF⟩ := q_bind hF
    refine g_getfR fl_X11_10 e18 dX11_after_11 ?_
    refine g_iload_n 3 dX11_after_14 rfl ?_
    obtain ⟨u19, e20, hF⟩ := q_bind hF
    obtain ⟨x21, e22, hF⟩ := q_bind hF
    refine g_callVr0 (ci := 9) (q := (RX9, TX9, 9)) qm_X9_eveningAt wd_884 wd_799 wd_800 rfl e20 (M_X9_eveningAt l b D z nx e22) (As := [.int a2]) rfl rfl (Nat.le_of_ble_eq_true rfl) ⟨(Nat.le_of_ble_eq_true rfl), (Nat.le_of_ble_eq_true rfl)⟩ ⟨rfl, rfl⟩ ⟨(Nat.le_of_ble_eq_true rfl), (Nat.le_of_ble_eq_true rfl)⟩ dX11_after_15 ?_
    rcases x21 with _ | x24
    · replace hF := q_en hF
      refine g_astoreN [(5, .null), (4, .ref x16), (0, .ref a0), (1, .int a1), (2, .int a2), (3, .int a3)] dX11_after_18 (Nat.le_of_ble_eq_true rfl) rfl ?_
      refine g_aload 1 dX11_after_20 rfl ?_
      refine g_ifnullR dX11_after_22 ?_
      refine g_aloadN 0 dX11_after_25 rfl ?_
      refine g_ifnonnullN dX11_after_27 ?_
      refine g_bipush dX11_after_30 lt_bipush_m2 ?_
      cases hF
      exact g_iret dX11_after_32 rfl ⟨rfl, rfl, rfl⟩ (Nat.le_of_ble_eq_true rfl) (Nat.le_of_ble_eq_true rfl)
    · replace hF := q_es hF
      refine g_astore [(5, .ref x24), (4, .ref x16), (0, .ref a0), (1, .int a1), (2, .int a2), (3, .int a3)] dX11_after_18 (Nat.le_of_ble_eq_true rfl) rfl ?_
      refine g_aload 1 dX11_after_20 rfl ?_
      refine g_ifnullR dX11_after_22 ?_
      refine g_aload 0 dX11_after_25 rfl ?_
      refine g_ifnonnullR 33 dX11_after_27 (by decide) ?_
      refine g_iload_n 5 dX11_after_33 rfl ?_
      by_cases c25 : a3 = 0
      · replace hF := q_t c25 hF
        refine g_tabIn (off := 26) 60 dX11_after_34 (by rw [c25]; decide) (by rw [c25]; decide) (by rw [c25]; decide) (by decide) ?_
        refine g_aload_n 2 dX11_after_60 rfl ?_
        obtain ⟨x26, e27, hF⟩ := q_bind hF
        refine g_getfR fl_X11_30 e27 dX11_after_61 ?_
        refine g_aload 1 dX11_after_64 rfl ?_
        refine g_aload 0 dX11_after_66 rfl ?_
        obtain ⟨u28, e29, hF⟩ := q_bind hF
        obtain ⟨x30, e31, hF⟩ := q_bind hF
        refine g_callVr0 (ci := 8) (q := (RX8, TX8, 11)) qm_X8_longestSilence wd_1406 wd_1407 wd_1408 rfl e29 (M_X8_longestSilence l b D z nx e31) (As := [.ref x16, .ref x24]) rfl rfl (Nat.le_of_ble_eq_true rfl) ⟨(Nat.le_of_ble_eq_true rfl), (Nat.le_of_ble_eq_true rfl)⟩ ⟨rfl, rfl⟩ ⟨(Nat.le_of_ble_eq_true rfl), (Nat.le_of_ble_eq_true rfl)⟩ dX11_after_68 ?_
        cases hF
        exact g_iret dX11_after_71 rfl ⟨rfl, rfl, rfl⟩ (Nat.le_of_ble_eq_true rfl) (Nat.le_of_ble_eq_true rfl)
      replace hF := q_f c25 hF
      by_cases c32 : a3 = 1
      · replace hF := q_t c32 hF
        refine g_tabIn (off := 38) 72 dX11_after_34 (by rw [c32]; decide) (by rw [c32]; decide) (by rw [c32]; decide) (by decide) ?_
        refine g_aload_n 2 dX11_after_72 rfl ?_
        obtain ⟨x33, e34, hF⟩ := q_bind hF
        refine g_getfR fl_X11_30 e34 dX11_after_73 ?_
        refine g_aload 1 dX11_after_76 rfl ?_
        refine g_aload 0 dX11_after_78 rfl ?_
        obtain ⟨u35, e36, hF⟩ := q_bind hF
        obtain ⟨x37, e38, hF⟩ := q_bind hF
        refine g_callVr0 (ci := 8) (q := (RX8, TX8, 11)) qm_X8_loudest wd_1410 wd_1411 wd_1412 rfl e36 (M_X8_loudest l b D z nx e38) (As := [.ref x16, .ref x24]) rfl rfl (Nat.le_of_ble_eq_true rfl) ⟨(Nat.le_of_ble_eq_true rfl), (Nat.le_of_ble_eq_true rfl)⟩ ⟨rfl, rfl⟩ ⟨(Nat.le_of_ble_eq_true rfl), (Nat.le_of_ble_eq_true rfl)⟩ dX11_after_80 ?_
        cases hF
        exact g_iret dX11_after_83 rfl ⟨rfl, rfl, rfl⟩ (Nat.le_of_ble_eq_true rfl) (Nat.le_of_ble_eq_true rfl)
      replace hF := q_f c32 hF
      by_cases c39 : a3 = 2
      · replace hF := q_t c39 hF
        refine g_tabIn (off := 50) 84 dX11_after_34 (by rw [c39]; decide) (by rw [c39]; decide) (by rw [c39]; decide) (by decide) ?_
        refine g_aload_n 2 dX11_after_84 rfl ?_
        obtain ⟨x40, e41, hF⟩ := q_bind hF
        refine g_getfR fl_X11_30 e41 dX11_after_85 ?_
        refine g_aload 1 dX11_after_88 rfl ?_
        refine g_aload 0 dX11_after_90 rfl ?_
        obtain ⟨u42, e43, hF⟩ := q_bind hF
        obtain ⟨x44, e45, hF⟩ := q_bind hF
        refine g_callVr0 (ci := 8) (q := (RX8, TX8, 11)) qm_X8_firstFined wd_1415 wd_1416 wd_1417 rfl e43 (M_X8_firstFined l b D z nx e45) (As := [.ref x16, .ref x24]) rfl rfl (Nat.le_of_ble_eq_true rfl) ⟨(Nat.le_of_ble_eq_true rfl), (Nat.le_of_ble_eq_true rfl)⟩ ⟨rfl, rfl⟩ ⟨(Nat.le_of_ble_eq_true rfl), (Nat.le_of_ble_eq_true rfl)⟩ dX11_after_92 ?_
        cases hF
        exact g_iret dX11_after_95 rfl ⟨rfl, rfl, rfl⟩ (Nat.le_of_ble_eq_true rfl) (Nat.le_of_ble_eq_true rfl)
      replace hF := q_f c39 hF
      refine g_tabOut 96 dX11_after_34 ?_ (by decide) ?_
      · have t0 := lv_neT (a := 0) c25 (by decide); have t1 := lv_neT (a := 1) c32 (by decide); have t2 := lv_neT (a := 2) c39 (by decide); omega
      refine g_bipush dX11_after_96 lt_bipush_m2 ?_
      cases hF
      exact g_iret dX11_after_98 rfl ⟨rfl, rfl, rfl⟩ (Nat.le_of_ble_eq_true rfl) (Nat.le_of_ble_eq_true rfl)
def rm_X11_count : Room := { frames := 1, cells := 0, slots := 0, locals := 21 }
set_option maxRecDepth 100000 in
set_option maxHeartbeats 4000000 in
theorem M_X11_count (l : Launch) (b : Nat) (D : va_G) (z : Nat → Nat) (nx : Nat) {h : qH} {a0 : Nat} {a1 : Int32} {r : Int32} (hF : F_X11_count h a0 a1 = some r) : Me l b D z yX11_count cX11_count 2 (some .int) rm_X11_count [.ref a0, .int a1] h nx (qE (some (.int r)) h nx) := by
  refine Me.of (by decide +kernel) (Nat.le_of_ble_eq_true rfl) ?_
  show Go l b D z yX11_count cX11_count 2 (some .int) rm_X11_count (qE (some (.int r)) h nx) 0 [(0, .ref a0), (1, .int a1)] [] h nx 0 0
  unfold F_X11_count at hF
  refine g_aload_n 0 dX11_count_0 rfl ?_
  obtain ⟨x1, e2, hF⟩ := q_bind hF
  refine g_getfR fl_X11_10 e2 dX11_count_1 ?_
  refine g_iload_n 1 dX11_count_4 rfl ?_
  obtain ⟨u3, e4, hF⟩ := q_bind hF
  obtain ⟨x5, e6, hF⟩ := q_bind hF
  refine g_callVr0 (ci := 9) (q := (RX9, TX9, 9)) qm_X9_howMany wd_557 wd_558 wd_559 rfl e4 (M_X9_howMany l b D z nx e6) (As := [.int a1]) rfl rfl (Nat.le_of_ble_eq_true rfl) ⟨(Nat.le_of_ble_eq_true rfl), (Nat.le_of_ble_eq_true rfl)⟩ ⟨rfl, rfl⟩ ⟨(Nat.le_of_ble_eq_true rfl), (Nat.le_of_ble_eq_true rfl)⟩ dX11_count_5 ?_
  cases hF
  exact g_iret dX11_count_8 rfl ⟨rfl, rfl, rfl⟩ (Nat.le_of_ble_eq_true rfl) (Nat.le_of_ble_eq_true rfl)
