def rm_X12_avoid : Room := { frames := 3, cells := 0, slots := 0, locals := 69 }
set_option maxRecDepth 100000 in
set_option maxHeartbeats 4000000 in
theorem J_X12_avoid_84 (l : Launch) (b : Nat) (D : va_G) (z : Nat → Nat) {nx : Nat} {h : qH} {a5 : Int32} {r : Int32 × qH} (hF : j_X12_avoid_84 h a5  = some r) : Go l b D z yX12_avoid cX12_avoid 8 (some .int) rm_X12_avoid (qE (some (.int r.1)) r.2 nx) 84 [(5, .int a5)] [] h nx 0 0 := by
  unfold j_X12_avoid_84 at hF
  refine g_iload 0 dX12_avoid_84 rfl ?_
  refine g_ldcw dX12_avoid_86 wd_1887 ?_
  refine g_icmp_lt 96 dX12_avoid_89 (by decide) (fun c1 => ?_) (fun c1 => ?_)
  · replace hF := q_t c1 hF
    refine g_iload 0 dX12_avoid_96 rfl ?_
    cases hF
    exact g_iret dX12_avoid_98 rfl ⟨rfl, rfl, rfl⟩ (Nat.le_of_ble_eq_true rfl) (Nat.le_of_ble_eq_true rfl)
  · replace hF := q_f c1 hF
    refine g_iconst dX12_avoid_92 lt_iconst_m1 ?_
    refine g_goto 98 dX12_avoid_93 (by decide) ?_
    cases hF
    exact g_iret dX12_avoid_98 rfl ⟨rfl, rfl, rfl⟩ (Nat.le_of_ble_eq_true rfl) (Nat.le_of_ble_eq_true rfl)
set_option maxRecDepth 100000 in
set_option maxHeartbeats 4000000 in
theorem B_X12_avoid_105 (l : Launch) (b : Nat) (D : va_G) (z : Nat → Nat) {Φ : Option Value → qH → Nat → Prop} {nx : Nat} {h : qH} {a0 : Nat} {a3 : Int32} {a4 : Int32} {a6 : Int32} {a7 : Int32} {o : (Int32 × Int32) ⊕ Int32} (hF : b_X12_avoid_105 h a0 a3 a4 a6 a7 = some o) (hback : ∀ (b6 : Int32) (b7 : Int32), o = .inl (b6, b7) → Go l b D z yX12_avoid cX12_avoid 8 (some .int) rm_X12_avoid Φ 105 [(0, .ref a0), (3, .int a3), (4, .int a4), (6, .int b6), (7, .int b7)] [] h nx 0 0) (hx0 : ∀ (b6 : Int32), o = .inr b6 → Go l b D z yX12_avoid cX12_avoid 8 (some .int) rm_X12_avoid Φ 136 [(6, .int b6)] [] h nx 0 0) : Go l b D z yX12_avoid cX12_avoid 8 (some .int) rm_X12_avoid Φ 105 [(0, .ref a0), (3, .int a3), (4, .int a4), (6, .int a6), (7, .int a7)] [] h nx 0 0 := by
  unfold b_X12_avoid_105 at hF
  refine g_iload 4 dX12_avoid_105 rfl ?_
  refine g_iload 2 dX12_avoid_107 rfl ?_
  refine g_icmp_gt 136 dX12_avoid_109 (by decide) (fun c1 => ?_) (fun c1 => ?_)
  · replace hF := q_t c1 hF
    cases hF
    refine g_sub [3] rfl ?_
    exact hx0 _ rfl
  · replace hF := q_f c1 hF
    refine g_iload 3 dX12_avoid_112 rfl ?_
    refine g_iconst dX12_avoid_114 lt_iconst_m1 ?_
    refine g_icmp_eq 136 dX12_avoid_115 (by decide) (fun c2 => ?_) (fun c2 => ?_)
    · replace hF := q_t c2 hF
      cases hF
      refine g_sub [3] rfl ?_
      exact hx0 _ rfl
    · replace hF := q_f c2 hF
      refine g_aload_n 0 dX12_avoid_118 rfl ?_
      refine g_iload 3 dX12_avoid_119 rfl ?_
      refine g_iload_n 1 dX12_avoid_121 rfl ?_
      refine g_iload 4 dX12_avoid_122 rfl ?_
      refine g_isub dX12_avoid_124 ?_
      obtain ⟨u3, e4, hF⟩ := q_bind hF
      obtain ⟨x5, e6, hF⟩ := q_bind hF
      refine g_callVr0 (ci := 12) (q := (RX12, TX12, 49)) qm_X12_bestFollower wd_1898 wd_1900 wd_127 rfl e4 (M_X12_bestFollower l b D z nx e6) (As := [.int a6, .int (a3 - a7)]) rfl rfl (Nat.le_of_ble_eq_true rfl) ⟨(Nat.le_of_ble_eq_true rfl), (Nat.le_of_ble_eq_true rfl)⟩ ⟨rfl, rfl⟩ ⟨(Nat.le_of_ble_eq_true rfl), (Nat.le_of_ble_eq_true rfl)⟩ dX12_avoid_125 ?_
      refine g_istore [(6, .int x5), (0, .ref a0), (3, .int a3), (4, .int a4), (7, .int a7)] dX12_avoid_128 (Nat.le_of_ble_eq_true rfl) rfl ?_
      refine g_iinc [(7, .int (a7 + 1)), (6, .int x5), (0, .ref a0), (3, .int a3), (4, .int a4)] 4 dX12_avoid_130 rfl (congrArg (a7 + ·) lt_iconst_1) (Nat.le_of_ble_eq_true rfl) rfl ?_
      refine g_goto 105 dX12_avoid_133 (by decide) ?_
      cases hF
      refine g_sub [2, 3, 4, 1, 0] rfl ?_
      exact hback _ _ rfl
set_option maxRecDepth 100000 in
set_option maxHeartbeats 4000000 in
theorem L_X12_avoid_105 (l : Launch) (b : Nat) (D : va_G) (z : Nat → Nat) {Φ : Option Value → qH → Nat → Prop} {nx : Nat} {h : qH} {a0 : Nat} {a3 : Int32} {a4 : Int32} : ∀ (n : Nat) (a6 : Int32) (a7 : Int32) (e : Int32), q_lp (s_X12_avoid_105 h a0 a3 a4) n (a6, a7) = some e → (∀ (b6 : Int32), e = b6 → Go l b D z yX12_avoid cX12_avoid 8 (some .int) rm_X12_avoid Φ 136 [(6, .int b6)] [] h nx 0 0) → Go l b D z yX12_avoid cX12_avoid 8 (some .int) rm_X12_avoid Φ 105 [(0, .ref a0), (3, .int a3), (4, .int a4), (6, .int a6), (7, .int a7)] [] h nx 0 0 := by
  intro n
  induction n with
  | zero => intro a6 a7 e he; cases (show none = some e from he)
  | succ n ih =>
    intro a6 a7 e he hx0
    obtain ⟨o, ho, h1, h2⟩ := q_lp_succ he
    exact B_X12_avoid_105 l b D z (show b_X12_avoid_105 h a0 a3 a4 a6 a7 = some o from ho) (fun b6 b7 hb => ih _ _ e (h1 _ hb) hx0) (fun p0 hr => hx0 p0 (h2 _ hr).symm)
set_option maxRecDepth 100000 in
set_option maxHeartbeats 4000000 in
theorem M_X12_avoid (l : Launch) (b : Nat) (D : va_G) (z : Nat → Nat) (nx : Nat) {h : qH} {a0 : Nat} {a1 : Int32} {a2 : Int32} {a3 : Int32} {a4 : Int32} {r : Int32 × qH} (hF : F_X12_avoid h a0 a1 a2 a3 a4 = some r) : Me l b D z yX12_avoid cX12_avoid 8 (some .int) rm_X12_avoid [.ref a0, .int a1, .int a2, .int a3, .int a4] h nx (qE (some (.int r.1)) r.2 nx) := by
  refine Me.of (by decide +kernel) (Nat.le_of_ble_eq_true rfl) ?_
  show Go l b D z yX12_avoid cX12_avoid 8 (some .int) rm_X12_avoid (qE (some (.int r.1)) r.2 nx) 0 [(0, .ref a0), (1, .int a1), (2, .int a2), (3, .int a3), (4, .int a4)] [] h nx 0 0
  unfold F_X12_avoid at hF
  refine g_aload_n 0 dX12_avoid_0 rfl ?_
  refine g_iconst dX12_avoid_1 lt_iconst_0 ?_
  obtain ⟨h1, e2, hF⟩ := q_bind hF
  refine g_putf fl_X12_91 e2 rfl rfl dX12_avoid_2 ?_
  refine g_iload_n 3 dX12_avoid_5 rfl ?_
  refine g_iconst dX12_avoid_6 lt_iconst_1 ?_
  refine g_bipush dX12_avoid_7 lt_bipush_20 ?_
  obtain ⟨x3, e4, hF⟩ := q_bind hF
  refine g_callSr0 qm_X12_in wd_1623 wd_1624 (M_X12_in l b D z nx e4) (As := [.int a3, .int (1 : Int32), .int (20 : Int32)]) rfl rfl (Nat.le_of_ble_eq_true rfl) ⟨(Nat.le_of_ble_eq_true rfl), (Nat.le_of_ble_eq_true rfl)⟩ ⟨rfl, rfl⟩ ⟨(Nat.le_of_ble_eq_true rfl), (Nat.le_of_ble_eq_true rfl)⟩ dX12_avoid_9 ?_
  refine g_if_eq 49 dX12_avoid_12 (by decide) (fun c5 => ?_) (fun c5 => ?_)
  · replace hF := q_t c5 hF
    refine g_iconst dX12_avoid_49 lt_iconst_m1 ?_
    cases hF
    exact g_iret dX12_avoid_50 rfl ⟨rfl, rfl, rfl⟩ (Nat.le_of_ble_eq_true rfl) (Nat.le_of_ble_eq_true rfl)
  · replace hF := q_f c5 hF
    refine g_iload 4 dX12_avoid_15 rfl ?_
    refine g_iconst dX12_avoid_17 lt_iconst_m1 ?_
    refine g_iload_n 3 dX12_avoid_18 rfl ?_
    refine g_iconst dX12_avoid_19 lt_iconst_1 ?_
    refine g_isub dX12_avoid_20 ?_
    obtain ⟨x6, e7, hF⟩ := q_bind hF
    refine g_callSr0 qm_X12_in wd_1623 wd_1624 (M_X12_in l b D z nx e7) (As := [.int a4, .int (-1 : Int32), .int (a3 - (1 : Int32))]) rfl rfl (Nat.le_of_ble_eq_true rfl) ⟨(Nat.le_of_ble_eq_true rfl), (Nat.le_of_ble_eq_true rfl)⟩ ⟨rfl, rfl⟩ ⟨(Nat.le_of_ble_eq_true rfl), (Nat.le_of_ble_eq_true rfl)⟩ dX12_avoid_21 ?_
    refine g_if_eq 49 dX12_avoid_24 (by decide) (fun c8 => ?_) (fun c8 => ?_)
    · replace hF := q_t c8 hF
      refine g_iconst dX12_avoid_49 lt_iconst_m1 ?_
      cases hF
      exact g_iret dX12_avoid_50 rfl ⟨rfl, rfl, rfl⟩ (Nat.le_of_ble_eq_true rfl) (Nat.le_of_ble_eq_true rfl)
    · replace hF := q_f c8 hF
      refine g_iload_n 2 dX12_avoid_27 rfl ?_
      obtain ⟨x9, e10, hF⟩ := q_bind hF
      refine g_callSr0 qm_X12_isScene wd_1880 wd_1881 (M_X12_isScene l b D z nx e10) (As := [.int a2]) rfl rfl (Nat.le_of_ble_eq_true rfl) ⟨(Nat.le_of_ble_eq_true rfl), (Nat.le_of_ble_eq_true rfl)⟩ ⟨rfl, rfl⟩ ⟨(Nat.le_of_ble_eq_true rfl), (Nat.le_of_ble_eq_true rfl)⟩ dX12_avoid_28 ?_
      refine g_if_eq 49 dX12_avoid_31 (by decide) (fun c11 => ?_) (fun c11 => ?_)
      · replace hF := q_t c11 hF
        refine g_iconst dX12_avoid_49 lt_iconst_m1 ?_
        cases hF
        exact g_iret dX12_avoid_50 rfl ⟨rfl, rfl, rfl⟩ (Nat.le_of_ble_eq_true rfl) (Nat.le_of_ble_eq_true rfl)
      · replace hF := q_f c11 hF
        refine g_aload_n 0 dX12_avoid_34 rfl ?_
        refine g_iload_n 1 dX12_avoid_35 rfl ?_
        obtain ⟨u12, e13, hF⟩ := q_bind hF
        obtain ⟨x14, e15, hF⟩ := q_bind hF
        refine g_callVr0 (ci := 12) (q := (RX12, TX12, 49)) qm_X12_hand wd_1750 wd_1752 wd_99 rfl e13 (M_X12_hand l b D z nx e15) (As := [.int a1]) rfl rfl (Nat.le_of_ble_eq_true rfl) ⟨(Nat.le_of_ble_eq_true rfl), (Nat.le_of_ble_eq_true rfl)⟩ ⟨rfl, rfl⟩ ⟨(Nat.le_of_ble_eq_true rfl), (Nat.le_of_ble_eq_true rfl)⟩ dX12_avoid_36 ?_
        refine g_if_eq 49 dX12_avoid_39 (by decide) (fun c16 => ?_) (fun c16 => ?_)
        · replace hF := q_t c16 hF
          refine g_iconst dX12_avoid_49 lt_iconst_m1 ?_
          cases hF
          exact g_iret dX12_avoid_50 rfl ⟨rfl, rfl, rfl⟩ (Nat.le_of_ble_eq_true rfl) (Nat.le_of_ble_eq_true rfl)
        · replace hF := q_f c16 hF
          refine g_aload_n 0 dX12_avoid_42 rfl ?_
          obtain ⟨x17, e18, hF⟩ := q_bind hF
          refine g_getfI fl_X12_276 e18 dX12_avoid_43 ?_
          refine g_if_ne 51 dX12_avoid_46 (by decide) (fun c19 => ?_) (fun c19 => ?_)
          · replace hF := q_f c19 hF
            refine g_aload_n 0 dX12_avoid_51 rfl ?_
            refine g_iload_n 2 dX12_avoid_52 rfl ?_
            refine g_iload_n 3 dX12_avoid_53 rfl ?_
            obtain ⟨u20, e21, hF⟩ := q_bind hF
            obtain ⟨x22, e23, hF⟩ := q_bind hF
            refine g_callVv0 (ci := 12) (q := (RX12, TX12, 49)) qm_X12_findFewest wd_1883 wd_1885 wd_125 rfl e21 (M_X12_findFewest l b D z nx e23) (As := [.int a2, .int a3]) rfl rfl (Nat.le_of_ble_eq_true rfl) ⟨(Nat.le_of_ble_eq_true rfl), (Nat.le_of_ble_eq_true rfl)⟩ ⟨rfl, rfl⟩ ⟨(Nat.le_of_ble_eq_true rfl), (Nat.le_of_ble_eq_true rfl)⟩ dX12_avoid_54 ?_
            refine g_aload_n 0 dX12_avoid_57 rfl ?_
            obtain ⟨x24, e25, hF⟩ := q_bind hF
            refine g_getfR fl_X12_53 e25 dX12_avoid_58 ?_
            refine g_bipush dX12_avoid_61 lt_bipush_20 ?_
            refine g_iload_n 3 dX12_avoid_63 rfl ?_
            refine g_iconst dX12_avoid_64 lt_iconst_1 ?_
            refine g_isub dX12_avoid_65 ?_
            refine g_imul dX12_avoid_66 ?_
            obtain ⟨x26, e27, hF⟩ := q_bind hF
            refine g_iald e27 dX12_avoid_67 ?_
            refine g_istore [(5, .int x26), (0, .ref a0), (1, .int a1), (2, .int a2), (3, .int a3), (4, .int a4)] dX12_avoid_68 (Nat.le_of_ble_eq_true rfl) rfl ?_
            refine g_iload 0 dX12_avoid_70 rfl ?_
            refine g_ldcw dX12_avoid_72 wd_1887 ?_
            refine g_icmp_ge 84 dX12_avoid_75 (by decide) (fun c28 => ?_) (fun c28 => ?_)
            · replace hF := q_t c28 hF
              refine g_sub [0] rfl ?_
              exact J_X12_avoid_84 l b D z hF
            · replace hF := q_f c28 hF
              refine g_iload 5 dX12_avoid_78 rfl ?_
              refine g_iconst dX12_avoid_80 lt_iconst_m1 ?_
              refine g_icmp_ne 99 dX12_avoid_81 (by decide) (fun c29 => ?_) (fun c29 => ?_)
              · replace hF := q_f c29 hF
                refine g_iconst dX12_avoid_99 lt_iconst_0 ?_
                refine g_istore [(6, .int (0 : Int32)), (5, .int x26), (0, .ref a0), (1, .int a1), (2, .int a2), (3, .int a3), (4, .int a4)] dX12_avoid_100 (Nat.le_of_ble_eq_true rfl) rfl ?_
                refine g_iconst dX12_avoid_102 lt_iconst_1 ?_
                refine g_istore [(7, .int (1 : Int32)), (6, .int (0 : Int32)), (5, .int x26), (0, .ref a0), (1, .int a1), (2, .int a2), (3, .int a3), (4, .int a4)] dX12_avoid_103 (Nat.le_of_ble_eq_true rfl) rfl ?_
                obtain ⟨e30, w31, hF⟩ := q_bind hF
                refine g_sub [3, 6, 7, 1, 0] rfl ?_
                refine L_X12_avoid_105 l b D z q_N (0 : Int32) (1 : Int32) e30 w31 ?_
                · intro o32 w33
                  replace w33 := w33.symm
                  subst w33
                  refine g_iload 0 dX12_avoid_136 rfl ?_
                  cases hF
                  exact g_iret dX12_avoid_138 rfl ⟨rfl, rfl, rfl⟩ (Nat.le_of_ble_eq_true rfl) (Nat.le_of_ble_eq_true rfl)
              · replace hF := q_t c29 hF
                refine g_sub [0] rfl ?_
                exact J_X12_avoid_84 l b D z hF
          · replace hF := q_t c19 hF
            refine g_iconst dX12_avoid_49 lt_iconst_m1 ?_
            cases hF
            exact g_iret dX12_avoid_50 rfl ⟨rfl, rfl, rfl⟩ (Nat.le_of_ble_eq_true rfl) (Nat.le_of_ble_eq_true rfl)
def rm_X12_nears : Room := { frames := 0, cells := 0, slots := 0, locals := 0 }
set_option maxRecDepth 100000 in
set_option maxHeartbeats 4000000 in
theorem J_X12_nears_22 (l : Launch) (b : Nat) (D : va_G) (z : Nat → Nat) {nx : Nat} {h : qH} {a0 : Nat} {a1 : Int32} {a2 : Int32} {t0 : Int32} {r : Int32 × qH} (hF : j_X12_nears_22 h a0 a1 a2 t0 = some r) : Go l b D z yX12_nears cX12_nears 4 (some .boolean) rm_X12_nears (qE (some (.int r.1)) r.2 nx) 22 [(0, .ref a0), (1, .int a1), (2, .int a2)] [.int t0] h nx 0 0 := by
  unfold j_X12_nears_22 at hF
  refine g_istore_n [(3, .int t0), (0, .ref a0), (1, .int a1), (2, .int a2)] dX12_nears_22 (Nat.le_of_ble_eq_true rfl) rfl ?_
  refine g_aload_n 1 dX12_nears_23 rfl ?_
  obtain ⟨x1, e2, hF⟩ := q_bind hF
  refine g_getfR fl_X12_56 e2 dX12_nears_24 ?_
  refine g_iload_n 3 dX12_nears_27 rfl ?_
  refine g_iload_n 0 dX12_nears_28 rfl ?_
  refine g_if_eq 43 dX12_nears_29 (by decide) (fun c3 => ?_) (fun c3 => ?_)
  · replace hF := q_t c3 hF
    refine g_aload_n 1 dX12_nears_43 rfl ?_
    obtain ⟨x4, e5, hF⟩ := q_bind hF
    refine g_getfR fl_X12_56 e5 dX12_nears_44 ?_
    refine g_iload_n 3 dX12_nears_47 rfl ?_
    obtain ⟨x6, e7, hF⟩ := q_bind hF
    refine g_iald e7 dX12_nears_48 ?_
    obtain ⟨h8, e9, hF⟩ := q_bind hF
    refine g_iast e9 dX12_nears_49 ?_
    refine g_iload_n 0 dX12_nears_50 rfl ?_
    obtain ⟨u10, e11, hF⟩ := q_bind hF
    cases hF
    exact g_zret dX12_nears_51 rfl (q_z_spec e11).2.1 ⟨rfl, rfl, rfl⟩ (Nat.le_of_ble_eq_true rfl) (Nat.le_of_ble_eq_true rfl)
  · replace hF := q_f c3 hF
    refine g_aload_n 1 dX12_nears_32 rfl ?_
    obtain ⟨x12, e13, hF⟩ := q_bind hF
    refine g_getfR fl_X12_56 e13 dX12_nears_33 ?_
    refine g_iload_n 2 dX12_nears_36 rfl ?_
    obtain ⟨x14, e15, hF⟩ := q_bind hF
    refine g_iald e15 dX12_nears_37 ?_
    refine g_iconst dX12_nears_38 lt_iconst_1 ?_
    refine g_iadd dX12_nears_39 ?_
    refine g_goto 49 dX12_nears_40 (by decide) ?_
    obtain ⟨h16, e17, hF⟩ := q_bind hF
    refine g_iast e17 dX12_nears_49 ?_
    refine g_iload_n 0 dX12_nears_50 rfl ?_
    obtain ⟨u18, e19, hF⟩ := q_bind hF
    cases hF
    exact g_zret dX12_nears_51 rfl (q_z_spec e19).2.1 ⟨rfl, rfl, rfl⟩ (Nat.le_of_ble_eq_true rfl) (Nat.le_of_ble_eq_true rfl)
set_option maxRecDepth 100000 in
set_option maxHeartbeats 4000000 in
theorem M_X12_nears (l : Launch) (b : Nat) (D : va_G) (z : Nat → Nat) (nx : Nat) {h : qH} {a0 : Nat} {a1 : Int32} {a2 : Int32} {r : Int32 × qH} (hF : F_X12_nears h a0 a1 a2 = some r) : Me l b D z yX12_nears cX12_nears 4 (some .boolean) rm_X12_nears [.ref a0, .int a1, .int a2] h nx (qE (some (.int r.1)) r.2 nx) := by
  refine Me.of (by decide +kernel) (Nat.le_of_ble_eq_true rfl) ?_
  show Go l b D z yX12_nears cX12_nears 4 (some .boolean) rm_X12_nears (qE (some (.int r.1)) r.2 nx) 0 [(0, .ref a0), (1, .int a1), (2, .int a2)] [] h nx 0 0
  unfold F_X12_nears at hF
  refine g_aload_n 0 dX12_nears_0 rfl ?_
  obtain ⟨x1, e2, hF⟩ := q_bind hF
  refine g_getfR fl_X12_56 e2 dX12_nears_1 ?_
  refine g_iload_n 1 dX12_nears_4 rfl ?_
  obtain ⟨x3, e4, hF⟩ := q_bind hF
  refine g_iald e4 dX12_nears_5 ?_
  refine g_iconst dX12_nears_6 lt_iconst_1 ?_
  refine g_iadd dX12_nears_7 ?_
  refine g_aload_n 0 dX12_nears_8 rfl ?_
  obtain ⟨x5, e6, hF⟩ := q_bind hF
  refine g_getfR fl_X12_56 e6 dX12_nears_9 ?_
  refine g_iload_n 2 dX12_nears_12 rfl ?_
  obtain ⟨x7, e8, hF⟩ := q_bind hF
  refine g_iald e8 dX12_nears_13 ?_
  refine g_icmp_ge 21 dX12_nears_14 (by decide) (fun c9 => ?_) (fun c9 => ?_)
  · replace hF := q_t c9 hF
    refine g_iconst dX12_nears_21 lt_iconst_0 ?_
    exact J_X12_nears_22 l b D z hF
  · replace hF := q_f c9 hF
    refine g_iconst dX12_nears_17 lt_iconst_1 ?_
    refine g_goto 22 dX12_nears_18 (by decide) ?_
    exact J_X12_nears_22 l b D z hF
def rm_X12_soonest : Room := { frames := 3, cells := 0, slots := 0, locals := 66 }
set_option maxRecDepth 100000 in
set_option maxHeartbeats 4000000 in
theorem B_X12_soonest_42 (l : Launch) (b : Nat) (D : va_G) (z : Nat → Nat) {Φ : Option Value → qH → Nat → Prop} {nx : Nat} {a0 : Nat} {a2 : Int32} {a3 : Int32} {a4 : Int32} {h : qH} {o : (Int32 × qH) ⊕ qH} (hF : b_X12_soonest_42 a0 a2 a3 a4 h = some o) (hback : ∀ (b4 : Int32) (bh : qH), o = .inl (b4, bh) → Go l b D z yX12_soonest cX12_soonest 9 (some .int) rm_X12_soonest Φ 42 [(0, .ref a0), (2, .int a2), (3, .int a3), (4, .int b4)] [] bh nx 0 0) (hx0 : ∀  (bh : qH), o = .inr bh → Go l b D z yX12_soonest cX12_soonest 9 (some .int) rm_X12_soonest Φ 75 [(0, .ref a0), (2, .int a2), (3, .int a3)] [] bh nx 0 0) : Go l b D z yX12_soonest cX12_soonest 9 (some .int) rm_X12_soonest Φ 42 [(0, .ref a0), (2, .int a2), (3, .int a3), (4, .int a4)] [] h nx 0 0 := by
  unfold b_X12_soonest_42 at hF
  refine g_iload 3 dX12_soonest_42 rfl ?_
  refine g_sipush dX12_soonest_44 lt_sipush_200 ?_
  refine g_icmp_ge 75 dX12_soonest_47 (by decide) (fun c1 => ?_) (fun c1 => ?_)
  · replace hF := q_t c1 hF
    cases hF
    refine g_sub [0, 1, 2] rfl ?_
    exact hx0 _ rfl
  · replace hF := q_f c1 hF
    refine g_aload_n 0 dX12_soonest_50 rfl ?_
    obtain ⟨x2, e3, hF⟩ := q_bind hF
    refine g_getfR fl_X12_56 e3 dX12_soonest_51 ?_
    refine g_iload 3 dX12_soonest_54 rfl ?_
    refine g_iload 3 dX12_soonest_56 rfl ?_
    refine g_if_ne 65 dX12_soonest_58 (by decide) (fun c4 => ?_) (fun c4 => ?_)
    · replace hF := q_f c4 hF
      refine g_ldcw dX12_soonest_65 wd_1887 ?_
      obtain ⟨h5, e6, hF⟩ := q_bind hF
      refine g_iast e6 dX12_soonest_68 ?_
      refine g_iinc [(4, .int (a4 + 1)), (0, .ref a0), (2, .int a2), (3, .int a3)] 3 dX12_soonest_69 rfl (congrArg (a4 + ·) lt_iconst_1) (Nat.le_of_ble_eq_true rfl) rfl ?_
      refine g_goto 42 dX12_soonest_72 (by decide) ?_
      cases hF
      refine g_sub [1, 2, 3, 0] rfl ?_
      exact hback _ _ rfl
    · replace hF := q_t c4 hF
      refine g_iconst dX12_soonest_61 lt_iconst_1 ?_
      refine g_goto 68 dX12_soonest_62 (by decide) ?_
      obtain ⟨h7, e8, hF⟩ := q_bind hF
      refine g_iast e8 dX12_soonest_68 ?_
      refine g_iinc [(4, .int (a4 + 1)), (0, .ref a0), (2, .int a2), (3, .int a3)] 3 dX12_soonest_69 rfl (congrArg (a4 + ·) lt_iconst_1) (Nat.le_of_ble_eq_true rfl) rfl ?_
      refine g_goto 42 dX12_soonest_72 (by decide) ?_
      cases hF
      refine g_sub [1, 2, 3, 0] rfl ?_
      exact hback _ _ rfl
set_option maxRecDepth 100000 in
set_option maxHeartbeats 4000000 in
theorem L_X12_soonest_42 (l : Launch) (b : Nat) (D : va_G) (z : Nat → Nat) {Φ : Option Value → qH → Nat → Prop} {nx : Nat} {a0 : Nat} {a2 : Int32} {a3 : Int32} : ∀ (n : Nat) (a4 : Int32) (h : qH) (e : qH), q_lp (s_X12_soonest_42 a0 a2 a3) n (a4, h) = some e → (∀  (bh : qH), e = bh → Go l b D z yX12_soonest cX12_soonest 9 (some .int) rm_X12_soonest Φ 75 [(0, .ref a0), (2, .int a2), (3, .int a3)] [] bh nx 0 0) → Go l b D z yX12_soonest cX12_soonest 9 (some .int) rm_X12_soonest Φ 42 [(0, .ref a0), (2, .int a2), (3, .int a3), (4, .int a4)] [] h nx 0 0 := by
  intro n
  induction n with
  | zero => intro a4 h e he; cases (show none = some e from he)
  | succ n ih =>
    intro a4 h e he hx0
    obtain ⟨o, ho, h1, h2⟩ := q_lp_succ he
    exact B_X12_soonest_42 l b D z (show b_X12_soonest_42 a0 a2 a3 a4 h = some o from ho) (fun b4 bh hb => ih _ _ e (h1 _ hb) hx0) (fun p0 hr => hx0 p0 (h2 _ hr).symm)
set_option maxRecDepth 100000 in
set_option maxHeartbeats 4000000 in
theorem J_X12_soonest_181 (l : Launch) (b : Nat) (D : va_G) (z : Nat → Nat) {Φ : Option Value → qH → Nat → Prop} {nx : Nat} {h : qH} {a0 : Nat} {a2 : Int32} {a3 : Int32} {a4 : Int32} {a5 : Int32} {a6 : Int32} {t0 : Int32} {o : (Int32 × Int32 × qH) ⊕ ((Int32 × qH))} (hF : j_X12_soonest_181 h a0 a2 a3 a4 a5 a6 t0 = some o) (hback : ∀ (b4 : Int32) (b6 : Int32) (bh : qH), o = .inl (b4, b6, bh) → Go l b D z yX12_soonest cX12_soonest 9 (some .int) rm_X12_soonest Φ 103 [(0, .ref a0), (2, .int a2), (3, .int a3), (4, .int b4), (5, .int a5), (6, .int b6)] [] bh nx 0 0) (hx0 : ∀ (b4 : Int32) (bh : qH), o = .inr (b4, bh) → Go l b D z yX12_soonest cX12_soonest 9 (some .int) rm_X12_soonest Φ 206 [(0, .ref a0), (2, .int a2), (3, .int a3), (4, .int b4), (5, .int a5)] [] bh nx 0 0) : Go l b D z yX12_soonest cX12_soonest 9 (some .int) rm_X12_soonest Φ 181 [(0, .ref a0), (2, .int a2), (3, .int a3), (4, .int a4), (5, .int a5), (6, .int a6)] [.int t0] h nx 0 0 := by
  unfold j_X12_soonest_181 at hF
  refine g_istore [(8, .int t0), (0, .ref a0), (2, .int a2), (3, .int a3), (4, .int a4), (5, .int a5), (6, .int a6)] dX12_soonest_181 (Nat.le_of_ble_eq_true rfl) rfl ?_
  refine g_iload 4 dX12_soonest_183 rfl ?_
  refine g_if_ne 193 dX12_soonest_185 (by decide) (fun c1 => ?_) (fun c1 => ?_)
  · replace hF := q_f c1 hF
    refine g_iconst dX12_soonest_193 lt_iconst_1 ?_
    refine g_goto 198 dX12_soonest_194 (by decide) ?_
    refine g_istore [(4, .int (1 : Int32)), (8, .int t0), (0, .ref a0), (2, .int a2), (3, .int a3), (5, .int a5), (6, .int a6)] dX12_soonest_198 (Nat.le_of_ble_eq_true rfl) rfl ?_
    refine g_iinc [(6, .int (a6 + 1)), (4, .int (1 : Int32)), (8, .int t0), (0, .ref a0), (2, .int a2), (3, .int a3), (5, .int a5)] 6 dX12_soonest_200 rfl (congrArg (a6 + ·) lt_iconst_1) (Nat.le_of_ble_eq_true rfl) rfl ?_
    refine g_goto 103 dX12_soonest_203 (by decide) ?_
    cases hF
    refine g_sub [3, 4, 5, 1, 6, 0] rfl ?_
    exact hback _ _ _ rfl
  · replace hF := q_t c1 hF
    refine g_iload 0 dX12_soonest_188 rfl ?_
    refine g_if_eq 197 dX12_soonest_190 (by decide) (fun c2 => ?_) (fun c2 => ?_)
    · replace hF := q_t c2 hF
      refine g_iconst dX12_soonest_197 lt_iconst_0 ?_
      refine g_istore [(4, .int (0 : Int32)), (8, .int t0), (0, .ref a0), (2, .int a2), (3, .int a3), (5, .int a5), (6, .int a6)] dX12_soonest_198 (Nat.le_of_ble_eq_true rfl) rfl ?_
      refine g_iinc [(6, .int (a6 + 1)), (4, .int (0 : Int32)), (8, .int t0), (0, .ref a0), (2, .int a2), (3, .int a3), (5, .int a5)] 6 dX12_soonest_200 rfl (congrArg (a6 + ·) lt_iconst_1) (Nat.le_of_ble_eq_true rfl) rfl ?_
      refine g_goto 103 dX12_soonest_203 (by decide) ?_
      cases hF
      refine g_sub [3, 4, 5, 1, 6, 0] rfl ?_
      exact hback _ _ _ rfl
    · replace hF := q_f c2 hF
      refine g_iconst dX12_soonest_193 lt_iconst_1 ?_
      refine g_goto 198 dX12_soonest_194 (by decide) ?_
      refine g_istore [(4, .int (1 : Int32)), (8, .int t0), (0, .ref a0), (2, .int a2), (3, .int a3), (5, .int a5), (6, .int a6)] dX12_soonest_198 (Nat.le_of_ble_eq_true rfl) rfl ?_
      refine g_iinc [(6, .int (a6 + 1)), (4, .int (1 : Int32)), (8, .int t0), (0, .ref a0), (2, .int a2), (3, .int a3), (5, .int a5)] 6 dX12_soonest_200 rfl (congrArg (a6 + ·) lt_iconst_1) (Nat.le_of_ble_eq_true rfl) rfl ?_
      refine g_goto 103 dX12_soonest_203 (by decide) ?_
      cases hF
      refine g_sub [3, 4, 5, 1, 6, 0] rfl ?_
      exact hback _ _ _ rfl
set_option maxRecDepth 100000 in
set_option maxHeartbeats 4000000 in
theorem J_X12_soonest_180 (l : Launch) (b : Nat) (D : va_G) (z : Nat → Nat) {Φ : Option Value → qH → Nat → Prop} {nx : Nat} {h : qH} {a0 : Nat} {a2 : Int32} {a3 : Int32} {a4 : Int32} {a5 : Int32} {a6 : Int32} {o : (Int32 × Int32 × qH) ⊕ ((Int32 × qH))} (hF : j_X12_soonest_180 h a0 a2 a3 a4 a5 a6  = some o) (hback : ∀ (b4 : Int32) (b6 : Int32) (bh : qH), o = .inl (b4, b6, bh) → Go l b D z yX12_soonest cX12_soonest 9 (some .int) rm_X12_soonest Φ 103 [(0, .ref a0), (2, .int a2), (3, .int a3), (4, .int b4), (5, .int a5), (6, .int b6)] [] bh nx 0 0) (hx0 : ∀ (b4 : Int32) (bh : qH), o = .inr (b4, bh) → Go l b D z yX12_soonest cX12_soonest 9 (some .int) rm_X12_soonest Φ 206 [(0, .ref a0), (2, .int a2), (3, .int a3), (4, .int b4), (5, .int a5)] [] bh nx 0 0) : Go l b D z yX12_soonest cX12_soonest 9 (some .int) rm_X12_soonest Φ 180 [(0, .ref a0), (2, .int a2), (3, .int a3), (4, .int a4), (5, .int a5), (6, .int a6)] [] h nx 0 0 := by
  unfold j_X12_soonest_180 at hF
  refine g_iconst dX12_soonest_180 lt_iconst_0 ?_
  exact J_X12_soonest_181 l b D z hF hback hx0
set_option maxRecDepth 100000 in
set_option maxHeartbeats 4000000 in
theorem B_X12_soonest_103 (l : Launch) (b : Nat) (D : va_G) (z : Nat → Nat) {Φ : Option Value → qH → Nat → Prop} {nx : Nat} {a0 : Nat} {a2 : Int32} {a3 : Int32} {a5 : Int32} {a4 : Int32} {a6 : Int32} {h : qH} {o : (Int32 × Int32 × qH) ⊕ ((Int32 × qH))} (hF : b_X12_soonest_103 a0 a2 a3 a5 a4 a6 h = some o) (hback : ∀ (b4 : Int32) (b6 : Int32) (bh : qH), o = .inl (b4, b6, bh) → Go l b D z yX12_soonest cX12_soonest 9 (some .int) rm_X12_soonest Φ 103 [(0, .ref a0), (2, .int a2), (3, .int a3), (4, .int b4), (5, .int a5), (6, .int b6)] [] bh nx 0 0) (hx0 : ∀ (b4 : Int32) (bh : qH), o = .inr (b4, bh) → Go l b D z yX12_soonest cX12_soonest 9 (some .int) rm_X12_soonest Φ 206 [(0, .ref a0), (2, .int a2), (3, .int a3), (4, .int b4), (5, .int a5)] [] bh nx 0 0) : Go l b D z yX12_soonest cX12_soonest 9 (some .int) rm_X12_soonest Φ 103 [(0, .ref a0), (2, .int a2), (3, .int a3), (4, .int a4), (5, .int a5), (6, .int a6)] [] h nx 0 0 := by
  unfold b_X12_soonest_103 at hF
  refine g_aload_n 0 dX12_soonest_103 rfl ?_
  obtain ⟨x1, e2, hF⟩ := q_bind hF
  refine g_getfR fl_X12_56 e2 dX12_soonest_104 ?_
  refine g_iload 4 dX12_soonest_107 rfl ?_
  obtain ⟨x3, e4, hF⟩ := q_bind hF
  refine g_iald e4 dX12_soonest_109 ?_
  refine g_ldcw dX12_soonest_110 wd_1887 ?_
  refine g_icmp_ge 206 dX12_soonest_113 (by decide) (fun c5 => ?_) (fun c5 => ?_)
  · replace hF := q_t c5 hF
    cases hF
    refine g_sub [0, 1, 2, 3, 4] rfl ?_
    exact hx0 _ _ rfl
  · replace hF := q_f c5 hF
    refine g_iload 5 dX12_soonest_116 rfl ?_
    refine g_aload_n 0 dX12_soonest_118 rfl ?_
    obtain ⟨x6, e7, hF⟩ := q_bind hF
    refine g_getfR fl_X12_47 e7 dX12_soonest_119 ?_
    refine g_iload 4 dX12_soonest_122 rfl ?_
    refine g_bipush dX12_soonest_124 lt_bipush_20 ?_
    refine g_irem dX12_soonest_126 (by decide) ?_
    obtain ⟨x8, e9, hF⟩ := q_bind hF
    refine g_iald e9 dX12_soonest_127 ?_
    refine g_icmp_ge 206 dX12_soonest_128 (by decide) (fun c10 => ?_) (fun c10 => ?_)
    · replace hF := q_t c10 hF
      cases hF
      refine g_sub [0, 1, 2, 3, 4] rfl ?_
      exact hx0 _ _ rfl
    · replace hF := q_f c10 hF
      refine g_iload 4 dX12_soonest_131 rfl ?_
      refine g_bipush dX12_soonest_133 lt_bipush_20 ?_
      refine g_idiv dX12_soonest_135 (by decide) ?_
      refine g_iload 5 dX12_soonest_136 rfl ?_
      obtain ⟨x11, e12, hF⟩ := q_bind hF
      refine g_callSr0 qm_X12_strays wd_1888 wd_1889 (M_X12_strays l b D z nx e12) (As := [.int a6]) rfl rfl (Nat.le_of_ble_eq_true rfl) ⟨(Nat.le_of_ble_eq_true rfl), (Nat.le_of_ble_eq_true rfl)⟩ ⟨rfl, rfl⟩ ⟨(Nat.le_of_ble_eq_true rfl), (Nat.le_of_ble_eq_true rfl)⟩ dX12_soonest_138 ?_
      refine g_iadd dX12_soonest_141 ?_
      refine g_istore [(7, .int ((a5 / (20 : Int32)) + x11)), (0, .ref a0), (2, .int a2), (3, .int a3), (4, .int a4), (5, .int a5), (6, .int a6)] dX12_soonest_142 (Nat.le_of_ble_eq_true rfl) rfl ?_
      refine g_iload 0 dX12_soonest_144 rfl ?_
      refine g_iload_n 3 dX12_soonest_146 rfl ?_
      refine g_icmp_gt 180 dX12_soonest_147 (by decide) (fun c13 => ?_) (fun c13 => ?_)
      · replace hF := q_t c13 hF
        refine g_sub [1, 2, 3, 4, 5, 6] rfl ?_
        exact J_X12_soonest_180 l b D z hF hback hx0
      · replace hF := q_f c13 hF
        refine g_aload_n 1 dX12_soonest_150 rfl ?_
        refine g_iload 5 dX12_soonest_151 rfl ?_
        refine g_bipush dX12_soonest_153 lt_bipush_20 ?_
        refine g_iload 0 dX12_soonest_155 rfl ?_
        refine g_imul dX12_soonest_157 ?_
        refine g_aload_n 1 dX12_soonest_158 rfl ?_
        refine g_iload 5 dX12_soonest_159 rfl ?_
        refine g_bipush dX12_soonest_161 lt_bipush_20 ?_
        refine g_irem dX12_soonest_163 (by decide) ?_
        refine g_iload 6 dX12_soonest_164 rfl ?_
        obtain ⟨u14, e15, hF⟩ := q_bind hF
        obtain ⟨x16, e17, hF⟩ := q_bind hF
        refine g_callVr0 (ci := 12) (q := (RX12, TX12, 49)) qm_X12_behind wd_1773 wd_1775 wd_104 rfl e15 (M_X12_behind l b D z nx e17) (As := [.int (q_rem a5 (20 : Int32)), .int a6]) rfl rfl (Nat.le_of_ble_eq_true rfl) ⟨(Nat.le_of_ble_eq_true rfl), (Nat.le_of_ble_eq_true rfl)⟩ ⟨rfl, rfl⟩ ⟨(Nat.le_of_ble_eq_true rfl), (Nat.le_of_ble_eq_true rfl)⟩ dX12_soonest_166 ?_
        refine g_iadd dX12_soonest_169 ?_
        obtain ⟨u18, e19, hF⟩ := q_bind hF
        obtain ⟨x20, e21, hF⟩ := q_bind hF
        refine g_callVr0 (ci := 12) (q := (RX12, TX12, 49)) qm_X12_nears wd_1906 wd_1908 wd_128 rfl e19 (M_X12_nears l b D z nx e21) (As := [.int a5, .int (((20 : Int32) * ((a5 / (20 : Int32)) + x11)) + x16)]) rfl rfl (Nat.le_of_ble_eq_true rfl) ⟨(Nat.le_of_ble_eq_true rfl), (Nat.le_of_ble_eq_true rfl)⟩ ⟨rfl, rfl⟩ ⟨(Nat.le_of_ble_eq_true rfl), (Nat.le_of_ble_eq_true rfl)⟩ dX12_soonest_170 ?_
        refine g_if_eq 180 dX12_soonest_173 (by decide) (fun c22 => ?_) (fun c22 => ?_)
        · replace hF := q_t c22 hF
          refine g_sub [1, 2, 3, 4, 5, 6] rfl ?_
          exact J_X12_soonest_180 l b D z hF hback hx0
        · replace hF := q_f c22 hF
          refine g_iconst dX12_soonest_176 lt_iconst_1 ?_
          refine g_goto 181 dX12_soonest_177 (by decide) ?_
          refine g_sub [1, 2, 3, 4, 5, 6] rfl ?_
          exact J_X12_soonest_181 l b D z hF hback hx0
set_option maxRecDepth 100000 in
set_option maxHeartbeats 4000000 in
theorem L_X12_soonest_103 (l : Launch) (b : Nat) (D : va_G) (z : Nat → Nat) {Φ : Option Value → qH → Nat → Prop} {nx : Nat} {a0 : Nat} {a2 : Int32} {a3 : Int32} {a5 : Int32} : ∀ (n : Nat) (a4 : Int32) (a6 : Int32) (h : qH) (e : (Int32 × qH)), q_lp (s_X12_soonest_103 a0 a2 a3 a5) n (a4, a6, h) = some e → (∀ (b4 : Int32) (bh : qH), e = (b4, bh) → Go l b D z yX12_soonest cX12_soonest 9 (some .int) rm_X12_soonest Φ 206 [(0, .ref a0), (2, .int a2), (3, .int a3), (4, .int b4), (5, .int a5)] [] bh nx 0 0) → Go l b D z yX12_soonest cX12_soonest 9 (some .int) rm_X12_soonest Φ 103 [(0, .ref a0), (2, .int a2), (3, .int a3), (4, .int a4), (5, .int a5), (6, .int a6)] [] h nx 0 0 := by
  intro n
  induction n with
  | zero => intro a4 a6 h e he; cases (show none = some e from he)
  | succ n ih =>
    intro a4 a6 h e he hx0
    obtain ⟨o, ho, h1, h2⟩ := q_lp_succ he
    exact B_X12_soonest_103 l b D z (show b_X12_soonest_103 a0 a2 a3 a5 a4 a6 h = some o from ho) (fun b4 b6 bh hb => ih _ _ _ e (h1 _ hb) hx0) (fun p0 p1 hr => hx0 p0 p1 (h2 _ hr).symm)
set_option maxRecDepth 100000 in
set_option maxHeartbeats 4000000 in
theorem B_X12_soonest_89 (l : Launch) (b : Nat) (D : va_G) (z : Nat → Nat) {Φ : Option Value → qH → Nat → Prop} {nx : Nat} {a0 : Nat} {a2 : Int32} {a3 : Int32} {a4 : Int32} {a5 : Int32} {h : qH} {o : (Int32 × Int32 × qH) ⊕ ((Int32 × qH))} (hF : b_X12_soonest_89 a0 a2 a3 a4 a5 h = some o) (hback : ∀ (b4 : Int32) (b5 : Int32) (bh : qH), o = .inl (b4, b5, bh) → Go l b D z yX12_soonest cX12_soonest 9 (some .int) rm_X12_soonest Φ 89 [(0, .ref a0), (2, .int a2), (3, .int a3), (4, .int b4), (5, .int b5)] [] bh nx 0 0) (hx0 : ∀ (b4 : Int32) (bh : qH), o = .inr (b4, bh) → Go l b D z yX12_soonest cX12_soonest 9 (some .int) rm_X12_soonest Φ 212 [(0, .ref a0), (2, .int a2), (3, .int a3), (4, .int b4)] [] bh nx 0 0) : Go l b D z yX12_soonest cX12_soonest 9 (some .int) rm_X12_soonest Φ 89 [(0, .ref a0), (2, .int a2), (3, .int a3), (4, .int a4), (5, .int a5)] [] h nx 0 0 := by
  unfold b_X12_soonest_89 at hF
  refine g_iload 4 dX12_soonest_89 rfl ?_
  refine g_bipush dX12_soonest_91 lt_bipush_20 ?_
  refine g_iload_n 2 dX12_soonest_93 rfl ?_
  refine g_iconst dX12_soonest_94 lt_iconst_1 ?_
  refine g_iadd dX12_soonest_95 ?_
  refine g_imul dX12_soonest_96 ?_
  refine g_icmp_ge 212 dX12_soonest_97 (by decide) (fun c1 => ?_) (fun c1 => ?_)
  · replace hF := q_t c1 hF
    cases hF
    refine g_sub [0, 1, 2, 3] rfl ?_
    exact hx0 _ _ rfl
  · replace hF := q_f c1 hF
    refine g_iconst dX12_soonest_100 lt_iconst_0 ?_
    refine g_istore [(6, .int (0 : Int32)), (0, .ref a0), (2, .int a2), (3, .int a3), (4, .int a4), (5, .int a5)] dX12_soonest_101 (Nat.le_of_ble_eq_true rfl) rfl ?_
    obtain ⟨e2, w3, hF⟩ := q_bind hF
    refine g_sub [1, 2, 3, 4, 5, 0] rfl ?_
    refine L_X12_soonest_103 l b D z q_N a4 (0 : Int32) h e2 w3 ?_
    · intro o4 h5 w6
      replace w6 := w6.symm
      subst w6
      dsimp only at hF
      refine g_iinc [(5, .int (a5 + 1)), (0, .ref a0), (2, .int a2), (3, .int a3), (4, .int o4)] 4 dX12_soonest_206 rfl (congrArg (a5 + ·) lt_iconst_1) (Nat.le_of_ble_eq_true rfl) rfl ?_
      refine g_goto 89 dX12_soonest_209 (by decide) ?_
      cases hF
      refine g_sub [1, 2, 3, 4, 0] rfl ?_
      exact hback _ _ _ rfl
set_option maxRecDepth 100000 in
set_option maxHeartbeats 4000000 in
theorem L_X12_soonest_89 (l : Launch) (b : Nat) (D : va_G) (z : Nat → Nat) {Φ : Option Value → qH → Nat → Prop} {nx : Nat} {a0 : Nat} {a2 : Int32} {a3 : Int32} : ∀ (n : Nat) (a4 : Int32) (a5 : Int32) (h : qH) (e : (Int32 × qH)), q_lp (s_X12_soonest_89 a0 a2 a3) n (a4, a5, h) = some e → (∀ (b4 : Int32) (bh : qH), e = (b4, bh) → Go l b D z yX12_soonest cX12_soonest 9 (some .int) rm_X12_soonest Φ 212 [(0, .ref a0), (2, .int a2), (3, .int a3), (4, .int b4)] [] bh nx 0 0) → Go l b D z yX12_soonest cX12_soonest 9 (some .int) rm_X12_soonest Φ 89 [(0, .ref a0), (2, .int a2), (3, .int a3), (4, .int a4), (5, .int a5)] [] h nx 0 0 := by
  intro n
  induction n with
  | zero => intro a4 a5 h e he; cases (show none = some e from he)
  | succ n ih =>
    intro a4 a5 h e he hx0
    obtain ⟨o, ho, h1, h2⟩ := q_lp_succ he
    exact B_X12_soonest_89 l b D z (show b_X12_soonest_89 a0 a2 a3 a4 a5 h = some o from ho) (fun b4 b5 bh hb => ih _ _ _ e (h1 _ hb) hx0) (fun p0 p1 hr => hx0 p0 p1 (h2 _ hr).symm)
set_option maxRecDepth 100000 in
set_option maxHeartbeats 4000000 in
theorem B_X12_soonest_78 (l : Launch) (b : Nat) (D : va_G) (z : Nat → Nat) {Φ : Option Value → qH → Nat → Prop} {nx : Nat} {a0 : Nat} {a2 : Int32} {a3 : Int32} {a4 : Int32} {h : qH} {o : (Int32 × qH) ⊕ qH} (hF : b_X12_soonest_78 a0 a2 a3 a4 h = some o) (hback : ∀ (b4 : Int32) (bh : qH), o = .inl (b4, bh) → Go l b D z yX12_soonest cX12_soonest 9 (some .int) rm_X12_soonest Φ 78 [(0, .ref a0), (2, .int a2), (3, .int a3), (4, .int b4)] [] bh nx 0 0) (hx0 : ∀  (bh : qH), o = .inr bh → Go l b D z yX12_soonest cX12_soonest 9 (some .int) rm_X12_soonest Φ 215 [(0, .ref a0), (2, .int a2), (3, .int a3)] [] bh nx 0 0) : Go l b D z yX12_soonest cX12_soonest 9 (some .int) rm_X12_soonest Φ 78 [(0, .ref a0), (2, .int a2), (3, .int a3), (4, .int a4)] [] h nx 0 0 := by
  unfold b_X12_soonest_78 at hF
  refine g_iload 3 dX12_soonest_78 rfl ?_
  refine g_if_eq 215 dX12_soonest_80 (by decide) (fun c1 => ?_) (fun c1 => ?_)
  · replace hF := q_t c1 hF
    cases hF
    refine g_sub [0, 1, 2] rfl ?_
    exact hx0 _ rfl
  · replace hF := q_f c1 hF
    refine g_iconst dX12_soonest_83 lt_iconst_0 ?_
    refine g_istore [(4, .int (0 : Int32)), (0, .ref a0), (2, .int a2), (3, .int a3)] dX12_soonest_84 (Nat.le_of_ble_eq_true rfl) rfl ?_
    refine g_iconst dX12_soonest_86 lt_iconst_0 ?_
    refine g_istore [(5, .int (0 : Int32)), (4, .int (0 : Int32)), (0, .ref a0), (2, .int a2), (3, .int a3)] dX12_soonest_87 (Nat.le_of_ble_eq_true rfl) rfl ?_
    obtain ⟨e2, w3, hF⟩ := q_bind hF
    refine g_sub [2, 3, 4, 1, 0] rfl ?_
    refine L_X12_soonest_89 l b D z q_N (0 : Int32) (0 : Int32) h e2 w3 ?_
    · intro o4 h5 w6
      replace w6 := w6.symm
      subst w6
      dsimp only at hF
      refine g_goto 78 dX12_soonest_212 (by decide) ?_
      cases hF
      exact hback _ _ rfl
set_option maxRecDepth 100000 in
set_option maxHeartbeats 4000000 in
theorem L_X12_soonest_78 (l : Launch) (b : Nat) (D : va_G) (z : Nat → Nat) {Φ : Option Value → qH → Nat → Prop} {nx : Nat} {a0 : Nat} {a2 : Int32} {a3 : Int32} : ∀ (n : Nat) (a4 : Int32) (h : qH) (e : qH), q_lp (s_X12_soonest_78 a0 a2 a3) n (a4, h) = some e → (∀  (bh : qH), e = bh → Go l b D z yX12_soonest cX12_soonest 9 (some .int) rm_X12_soonest Φ 215 [(0, .ref a0), (2, .int a2), (3, .int a3)] [] bh nx 0 0) → Go l b D z yX12_soonest cX12_soonest 9 (some .int) rm_X12_soonest Φ 78 [(0, .ref a0), (2, .int a2), (3, .int a3), (4, .int a4)] [] h nx 0 0 := by
  intro n
  induction n with
  | zero => intro a4 h e he; cases (show none = some e from he)
  | succ n ih =>
    intro a4 h e he hx0
    obtain ⟨o, ho, h1, h2⟩ := q_lp_succ he
    exact B_X12_soonest_78 l b D z (show b_X12_soonest_78 a0 a2 a3 a4 h = some o from ho) (fun b4 bh hb => ih _ _ e (h1 _ hb) hx0) (fun p0 hr => hx0 p0 (h2 _ hr).symm)
set_option maxRecDepth 100000 in
set_option maxHeartbeats 4000000 in
theorem B_X12_soonest_223 (l : Launch) (b : Nat) (D : va_G) (z : Nat → Nat) {Φ : Option Value → qH → Nat → Prop} {nx : Nat} {h : qH} {a0 : Nat} {a2 : Int32} {a3 : Int32} {a5 : Int32} {a6 : Int32} {o : (Int32 × Int32) ⊕ Int32} (hF : b_X12_soonest_223 h a0 a2 a3 a5 a6 = some o) (hback : ∀ (b5 : Int32) (b6 : Int32), o = .inl (b5, b6) → Go l b D z yX12_soonest cX12_soonest 9 (some .int) rm_X12_soonest Φ 223 [(0, .ref a0), (2, .int a2), (3, .int a3), (5, .int b5), (6, .int b6)] [] h nx 0 0) (hx0 : ∀ (b5 : Int32), o = .inr b5 → Go l b D z yX12_soonest cX12_soonest 9 (some .int) rm_X12_soonest Φ 284 [(5, .int b5)] [] h nx 0 0) : Go l b D z yX12_soonest cX12_soonest 9 (some .int) rm_X12_soonest Φ 223 [(0, .ref a0), (2, .int a2), (3, .int a3), (5, .int a5), (6, .int a6)] [] h nx 0 0 := by
  unfold b_X12_soonest_223 at hF
  refine g_iload 4 dX12_soonest_223 rfl ?_
  refine g_bipush dX12_soonest_225 lt_bipush_20 ?_
  refine g_iload_n 2 dX12_soonest_227 rfl ?_
  refine g_iconst dX12_soonest_228 lt_iconst_1 ?_
  refine g_iadd dX12_soonest_229 ?_
  refine g_imul dX12_soonest_230 ?_
  refine g_icmp_ge 284 dX12_soonest_231 (by decide) (fun c1 => ?_) (fun c1 => ?_)
  · replace hF := q_t c1 hF
    cases hF
    refine g_sub [3] rfl ?_
    exact hx0 _ rfl
  · replace hF := q_f c1 hF
    refine g_iload 4 dX12_soonest_234 rfl ?_
    refine g_bipush dX12_soonest_236 lt_bipush_20 ?_
    refine g_irem dX12_soonest_238 (by decide) ?_
    refine g_aload_n 0 dX12_soonest_239 rfl ?_
    obtain ⟨x2, e3, hF⟩ := q_bind hF
    refine g_getfI fl_X12_276 e3 dX12_soonest_240 ?_
    refine g_icmp_ge 274 dX12_soonest_243 (by decide) (fun c4 => ?_) (fun c4 => ?_)
    · replace hF := q_t c4 hF
      refine g_iload 3 dX12_soonest_274 rfl ?_
      refine g_istore [(5, .int a5), (0, .ref a0), (2, .int a2), (3, .int a3), (6, .int a6)] dX12_soonest_276 (Nat.le_of_ble_eq_true rfl) rfl ?_
      refine g_iinc [(6, .int (a6 + 1)), (5, .int a5), (0, .ref a0), (2, .int a2), (3, .int a3)] 4 dX12_soonest_278 rfl (congrArg (a6 + ·) lt_iconst_1) (Nat.le_of_ble_eq_true rfl) rfl ?_
      refine g_goto 223 dX12_soonest_281 (by decide) ?_
      cases hF
      refine g_sub [2, 3, 4, 1, 0] rfl ?_
      exact hback _ _ rfl
    · replace hF := q_f c4 hF
      refine g_aload_n 0 dX12_soonest_246 rfl ?_
      refine g_iload 4 dX12_soonest_247 rfl ?_
      refine g_bipush dX12_soonest_249 lt_bipush_20 ?_
      refine g_irem dX12_soonest_251 (by decide) ?_
      refine g_iload_n 1 dX12_soonest_252 rfl ?_
      obtain ⟨u5, e6, hF⟩ := q_bind hF
      obtain ⟨x7, e8, hF⟩ := q_bind hF
      refine g_callVr0 (ci := 12) (q := (RX12, TX12, 49)) qm_X12_isOf wd_1894 wd_1896 wd_126 rfl e6 (M_X12_isOf l b D z nx e8) (As := [.int (q_rem a6 (20 : Int32)), .int a2]) rfl rfl (Nat.le_of_ble_eq_true rfl) ⟨(Nat.le_of_ble_eq_true rfl), (Nat.le_of_ble_eq_true rfl)⟩ ⟨rfl, rfl⟩ ⟨(Nat.le_of_ble_eq_true rfl), (Nat.le_of_ble_eq_true rfl)⟩ dX12_soonest_253 ?_
      refine g_if_eq 274 dX12_soonest_256 (by decide) (fun c9 => ?_) (fun c9 => ?_)
      · replace hF := q_t c9 hF
        refine g_iload 3 dX12_soonest_274 rfl ?_
        refine g_istore [(5, .int a5), (0, .ref a0), (2, .int a2), (3, .int a3), (6, .int a6)] dX12_soonest_276 (Nat.le_of_ble_eq_true rfl) rfl ?_
        refine g_iinc [(6, .int (a6 + 1)), (5, .int a5), (0, .ref a0), (2, .int a2), (3, .int a3)] 4 dX12_soonest_278 rfl (congrArg (a6 + ·) lt_iconst_1) (Nat.le_of_ble_eq_true rfl) rfl ?_
        refine g_goto 223 dX12_soonest_281 (by decide) ?_
        cases hF
        refine g_sub [2, 3, 4, 1, 0] rfl ?_
        exact hback _ _ rfl
      · replace hF := q_f c9 hF
        refine g_iload 3 dX12_soonest_259 rfl ?_
        refine g_aload_n 0 dX12_soonest_261 rfl ?_
        obtain ⟨x10, e11, hF⟩ := q_bind hF
        refine g_getfR fl_X12_56 e11 dX12_soonest_262 ?_
        refine g_iload 4 dX12_soonest_265 rfl ?_
        obtain ⟨x12, e13, hF⟩ := q_bind hF
        refine g_iald e13 dX12_soonest_267 ?_
        obtain ⟨x14, e15, hF⟩ := q_bind hF
        refine g_callSr0 qm_X12_lesser wd_1891 wd_1892 (M_X12_lesser l b D z nx e15) (As := [.int a5, .int x12]) rfl rfl (Nat.le_of_ble_eq_true rfl) ⟨(Nat.le_of_ble_eq_true rfl), (Nat.le_of_ble_eq_true rfl)⟩ ⟨rfl, rfl⟩ ⟨(Nat.le_of_ble_eq_true rfl), (Nat.le_of_ble_eq_true rfl)⟩ dX12_soonest_268 ?_
        refine g_goto 276 dX12_soonest_271 (by decide) ?_
        refine g_istore [(5, .int x14), (0, .ref a0), (2, .int a2), (3, .int a3), (6, .int a6)] dX12_soonest_276 (Nat.le_of_ble_eq_true rfl) rfl ?_
        refine g_iinc [(6, .int (a6 + 1)), (5, .int x14), (0, .ref a0), (2, .int a2), (3, .int a3)] 4 dX12_soonest_278 rfl (congrArg (a6 + ·) lt_iconst_1) (Nat.le_of_ble_eq_true rfl) rfl ?_
        refine g_goto 223 dX12_soonest_281 (by decide) ?_
        cases hF
        refine g_sub [2, 3, 4, 1, 0] rfl ?_
        exact hback _ _ rfl
set_option maxRecDepth 100000 in
set_option maxHeartbeats 4000000 in
theorem L_X12_soonest_223 (l : Launch) (b : Nat) (D : va_G) (z : Nat → Nat) {Φ : Option Value → qH → Nat → Prop} {nx : Nat} {h : qH} {a0 : Nat} {a2 : Int32} {a3 : Int32} : ∀ (n : Nat) (a5 : Int32) (a6 : Int32) (e : Int32), q_lp (s_X12_soonest_223 h a0 a2 a3) n (a5, a6) = some e → (∀ (b5 : Int32), e = b5 → Go l b D z yX12_soonest cX12_soonest 9 (some .int) rm_X12_soonest Φ 284 [(5, .int b5)] [] h nx 0 0) → Go l b D z yX12_soonest cX12_soonest 9 (some .int) rm_X12_soonest Φ 223 [(0, .ref a0), (2, .int a2), (3, .int a3), (5, .int a5), (6, .int a6)] [] h nx 0 0 := by
  intro n
  induction n with
  | zero => intro a5 a6 e he; cases (show none = some e from he)
  | succ n ih =>
    intro a5 a6 e he hx0
    obtain ⟨o, ho, h1, h2⟩ := q_lp_succ he
    exact B_X12_soonest_223 l b D z (show b_X12_soonest_223 h a0 a2 a3 a5 a6 = some o from ho) (fun b5 b6 hb => ih _ _ e (h1 _ hb) hx0) (fun p0 hr => hx0 p0 (h2 _ hr).symm)
set_option maxRecDepth 100000 in
set_option maxHeartbeats 4000000 in
theorem M_X12_soonest (l : Launch) (b : Nat) (D : va_G) (z : Nat → Nat) (nx : Nat) {h : qH} {a0 : Nat} {a1 : Int32} {a2 : Int32} {a3 : Int32} {r : Int32 × qH} (hF : F_X12_soonest h a0 a1 a2 a3 = some r) : Me l b D z yX12_soonest cX12_soonest 9 (some .int) rm_X12_soonest [.ref a0, .int a1, .int a2, .int a3] h nx (qE (some (.int r.1)) r.2 nx) := by
  refine Me.of (by decide +kernel) (Nat.le_of_ble_eq_true rfl) ?_
  show Go l b D z yX12_soonest cX12_soonest 9 (some .int) rm_X12_soonest (qE (some (.int r.1)) r.2 nx) 0 [(0, .ref a0), (1, .int a1), (2, .int a2), (3, .int a3)] [] h nx 0 0
  unfold F_X12_soonest at hF
  refine g_aload_n 0 dX12_soonest_0 rfl ?_
  refine g_iconst dX12_soonest_1 lt_iconst_0 ?_
  obtain ⟨h1, e2, hF⟩ := q_bind hF
  refine g_putf fl_X12_91 e2 rfl rfl dX12_soonest_2 ?_
  refine g_iload_n 3 dX12_soonest_5 rfl ?_
  refine g_iconst dX12_soonest_6 lt_iconst_0 ?_
  refine g_bipush dX12_soonest_7 lt_bipush_9 ?_
  obtain ⟨x3, e4, hF⟩ := q_bind hF
  refine g_callSr0 qm_X12_in wd_1623 wd_1624 (M_X12_in l b D z nx e4) (As := [.int a3, .int (0 : Int32), .int (9 : Int32)]) rfl rfl (Nat.le_of_ble_eq_true rfl) ⟨(Nat.le_of_ble_eq_true rfl), (Nat.le_of_ble_eq_true rfl)⟩ ⟨rfl, rfl⟩ ⟨(Nat.le_of_ble_eq_true rfl), (Nat.le_of_ble_eq_true rfl)⟩ dX12_soonest_9 ?_
  refine g_if_eq 37 dX12_soonest_12 (by decide) (fun c5 => ?_) (fun c5 => ?_)
  · replace hF := q_t c5 hF
    refine g_iconst dX12_soonest_37 lt_iconst_m1 ?_
    cases hF
    exact g_iret dX12_soonest_38 rfl ⟨rfl, rfl, rfl⟩ (Nat.le_of_ble_eq_true rfl) (Nat.le_of_ble_eq_true rfl)
  · replace hF := q_f c5 hF
    refine g_iload_n 2 dX12_soonest_15 rfl ?_
    obtain ⟨x6, e7, hF⟩ := q_bind hF
    refine g_callSr0 qm_X12_isScene wd_1880 wd_1881 (M_X12_isScene l b D z nx e7) (As := [.int a2]) rfl rfl (Nat.le_of_ble_eq_true rfl) ⟨(Nat.le_of_ble_eq_true rfl), (Nat.le_of_ble_eq_true rfl)⟩ ⟨rfl, rfl⟩ ⟨(Nat.le_of_ble_eq_true rfl), (Nat.le_of_ble_eq_true rfl)⟩ dX12_soonest_16 ?_
    refine g_if_eq 37 dX12_soonest_19 (by decide) (fun c8 => ?_) (fun c8 => ?_)
    · replace hF := q_t c8 hF
      refine g_iconst dX12_soonest_37 lt_iconst_m1 ?_
      cases hF
      exact g_iret dX12_soonest_38 rfl ⟨rfl, rfl, rfl⟩ (Nat.le_of_ble_eq_true rfl) (Nat.le_of_ble_eq_true rfl)
    · replace hF := q_f c8 hF
      refine g_aload_n 0 dX12_soonest_22 rfl ?_
      refine g_iload_n 1 dX12_soonest_23 rfl ?_
      obtain ⟨u9, e10, hF⟩ := q_bind hF
      obtain ⟨x11, e12, hF⟩ := q_bind hF
      refine g_callVr0 (ci := 12) (q := (RX12, TX12, 49)) qm_X12_hand wd_1750 wd_1752 wd_99 rfl e10 (M_X12_hand l b D z nx e12) (As := [.int a1]) rfl rfl (Nat.le_of_ble_eq_true rfl) ⟨(Nat.le_of_ble_eq_true rfl), (Nat.le_of_ble_eq_true rfl)⟩ ⟨rfl, rfl⟩ ⟨(Nat.le_of_ble_eq_true rfl), (Nat.le_of_ble_eq_true rfl)⟩ dX12_soonest_24 ?_
      refine g_if_eq 37 dX12_soonest_27 (by decide) (fun c13 => ?_) (fun c13 => ?_)
      · replace hF := q_t c13 hF
        refine g_iconst dX12_soonest_37 lt_iconst_m1 ?_
        cases hF
        exact g_iret dX12_soonest_38 rfl ⟨rfl, rfl, rfl⟩ (Nat.le_of_ble_eq_true rfl) (Nat.le_of_ble_eq_true rfl)
      · replace hF := q_f c13 hF
        refine g_aload_n 0 dX12_soonest_30 rfl ?_
        obtain ⟨x14, e15, hF⟩ := q_bind hF
        refine g_getfI fl_X12_276 e15 dX12_soonest_31 ?_
        refine g_if_ne 39 dX12_soonest_34 (by decide) (fun c16 => ?_) (fun c16 => ?_)
        · replace hF := q_f c16 hF
          refine g_iconst dX12_soonest_39 lt_iconst_0 ?_
          refine g_istore [(4, .int (0 : Int32)), (0, .ref a0), (1, .int a1), (2, .int a2), (3, .int a3)] dX12_soonest_40 (Nat.le_of_ble_eq_true rfl) rfl ?_
          obtain ⟨e17, w18, hF⟩ := q_bind hF
          refine g_sub [1, 3, 4, 0] rfl ?_
          refine L_X12_soonest_42 l b D z q_N (0 : Int32) x11.2 e17 w18 ?_
          · intro h19 w20
            replace w20 := w20.symm
            subst w20
            refine g_iconst dX12_soonest_75 lt_iconst_1 ?_
            refine g_istore [(4, .int (1 : Int32)), (0, .ref a0), (2, .int a2), (3, .int a3)] dX12_soonest_76 (Nat.le_of_ble_eq_true rfl) rfl ?_
            obtain ⟨e21, w22, hF⟩ := q_bind hF
            refine g_sub [1, 2, 3, 0] rfl ?_
            refine L_X12_soonest_78 l b D z q_N (1 : Int32) h19 e21 w22 ?_
            · intro h23 w24
              replace w24 := w24.symm
              subst w24
              refine g_ldcw dX12_soonest_215 wd_1887 ?_
              refine g_istore [(5, .int (1000000 : Int32)), (0, .ref a0), (2, .int a2), (3, .int a3)] dX12_soonest_218 (Nat.le_of_ble_eq_true rfl) rfl ?_
              refine g_iconst dX12_soonest_220 lt_iconst_0 ?_
              refine g_istore [(6, .int (0 : Int32)), (5, .int (1000000 : Int32)), (0, .ref a0), (2, .int a2), (3, .int a3)] dX12_soonest_221 (Nat.le_of_ble_eq_true rfl) rfl ?_
              obtain ⟨e25, w26, hF⟩ := q_bind hF
              refine g_sub [2, 3, 4, 1, 0] rfl ?_
              refine L_X12_soonest_223 l b D z q_N (1000000 : Int32) (0 : Int32) e25 w26 ?_
              · intro o27 w28
                replace w28 := w28.symm
                subst w28
                refine g_iload 0 dX12_soonest_284 rfl ?_
                refine g_ldcw dX12_soonest_286 wd_1887 ?_
                refine g_icmp_lt 296 dX12_soonest_289 (by decide) (fun c29 => ?_) (fun c29 => ?_)
                · replace hF := q_t c29 hF
                  refine g_iload 0 dX12_soonest_296 rfl ?_
                  cases hF
                  exact g_iret dX12_soonest_298 rfl ⟨rfl, rfl, rfl⟩ (Nat.le_of_ble_eq_true rfl) (Nat.le_of_ble_eq_true rfl)
                · replace hF := q_f c29 hF
                  refine g_iconst dX12_soonest_292 lt_iconst_m1 ?_
                  refine g_goto 298 dX12_soonest_293 (by decide) ?_
                  cases hF
                  exact g_iret dX12_soonest_298 rfl ⟨rfl, rfl, rfl⟩ (Nat.le_of_ble_eq_true rfl) (Nat.le_of_ble_eq_true rfl)
        · replace hF := q_t c16 hF
          refine g_iconst dX12_soonest_37 lt_iconst_m1 ?_
          cases hF
          exact g_iret dX12_soonest_38 rfl ⟨rfl, rfl, rfl⟩ (Nat.le_of_ble_eq_true rfl) (Nat.le_of_ble_eq_true rfl)
def rm_X12_saidBy : Room := { frames := 2, cells := 0, slots := 0, locals := 42 }
set_option maxRecDepth 100000 in
set_option maxHeartbeats 4000000 in
theorem J_X12_saidBy_15 (l : Launch) (b : Nat) (D : va_G) (z : Nat → Nat) {nx : Nat} {h : qH} {a0 : Nat} {a2 : Int32} {a4 : Int32} {t0 : Int32} {t1 : Int32} {r : Int32} (hF : j_X12_saidBy_15 h a0 a2 a4 t0 t1 = some r) : Go l b D z yX12_saidBy cX12_saidBy 5 (some .int) rm_X12_saidBy (qE (some (.int r)) h nx) 15 [(0, .ref a0), (2, .int a2), (4, .int a4)] [.int t0, .int t1] h nx 0 0 := by
  unfold j_X12_saidBy_15 at hF
  refine g_ior dX12_saidBy_15 ?_
  refine g_aload_n 0 dX12_saidBy_16 rfl ?_
  refine g_iload_n 1 dX12_saidBy_17 rfl ?_
  obtain ⟨u1, e2, hF⟩ := q_bind hF
  obtain ⟨x3, e4, hF⟩ := q_bind hF
  refine g_callVr0 (ci := 12) (q := (RX12, TX12, 49)) qm_X12_who wd_1836 wd_1838 wd_116 rfl e2 (M_X12_who l b D z nx e4) (As := [.int a2]) rfl rfl (Nat.le_of_ble_eq_true rfl) ⟨(Nat.le_of_ble_eq_true rfl), (Nat.le_of_ble_eq_true rfl)⟩ ⟨rfl, rfl⟩ ⟨(Nat.le_of_ble_eq_true rfl), (Nat.le_of_ble_eq_true rfl)⟩ dX12_saidBy_18 ?_
  refine g_iload 2 dX12_saidBy_21 rfl ?_
  refine g_icmp_ne 30 dX12_saidBy_23 (by decide) (fun c5 => ?_) (fun c5 => ?_)
  · replace hF := q_f c5 hF
    refine g_iconst dX12_saidBy_30 lt_iconst_0 ?_
    refine g_ior dX12_saidBy_31 ?_
    cases hF
    exact g_iret dX12_saidBy_32 rfl ⟨rfl, rfl, rfl⟩ (Nat.le_of_ble_eq_true rfl) (Nat.le_of_ble_eq_true rfl)
  · replace hF := q_t c5 hF
    refine g_iconst dX12_saidBy_26 lt_iconst_2 ?_
    refine g_goto 31 dX12_saidBy_27 (by decide) ?_
    refine g_ior dX12_saidBy_31 ?_
    cases hF
    exact g_iret dX12_saidBy_32 rfl ⟨rfl, rfl, rfl⟩ (Nat.le_of_ble_eq_true rfl) (Nat.le_of_ble_eq_true rfl)
set_option maxRecDepth 100000 in
set_option maxHeartbeats 4000000 in
theorem M_X12_saidBy (l : Launch) (b : Nat) (D : va_G) (z : Nat → Nat) (nx : Nat) {h : qH} {a0 : Nat} {a1 : Int32} {a2 : Int32} {a3 : Int32} {a4 : Int32} {r : Int32} (hF : F_X12_saidBy h a0 a1 a2 a3 a4 = some r) : Me l b D z yX12_saidBy cX12_saidBy 5 (some .int) rm_X12_saidBy [.ref a0, .int a1, .int a2, .int a3, .int a4] h nx (qE (some (.int r)) h nx) := by
  refine Me.of (by decide +kernel) (Nat.le_of_ble_eq_true rfl) ?_
  show Go l b D z yX12_saidBy cX12_saidBy 5 (some .int) rm_X12_saidBy (qE (some (.int r)) h nx) 0 [(0, .ref a0), (1, .int a1), (2, .int a2), (3, .int a3), (4, .int a4)] [] h nx 0 0
  unfold F_X12_saidBy at hF
  refine g_iload_n 1 dX12_saidBy_0 rfl ?_
  refine g_aload_n 0 dX12_saidBy_1 rfl ?_
  refine g_iload_n 2 dX12_saidBy_2 rfl ?_
  obtain ⟨u1, e2, hF⟩ := q_bind hF
  obtain ⟨x3, e4, hF⟩ := q_bind hF
  refine g_callVr0 (ci := 12) (q := (RX12, TX12, 49)) qm_X12_who wd_1836 wd_1838 wd_116 rfl e2 (M_X12_who l b D z nx e4) (As := [.int a2]) rfl rfl (Nat.le_of_ble_eq_true rfl) ⟨(Nat.le_of_ble_eq_true rfl), (Nat.le_of_ble_eq_true rfl)⟩ ⟨rfl, rfl⟩ ⟨(Nat.le_of_ble_eq_true rfl), (Nat.le_of_ble_eq_true rfl)⟩ dX12_saidBy_3 ?_
  refine g_iload_n 3 dX12_saidBy_6 rfl ?_
  refine g_icmp_ne 14 dX12_saidBy_7 (by decide) (fun c5 => ?_) (fun c5 => ?_)
  · replace hF := q_f c5 hF
    refine g_iconst dX12_saidBy_14 lt_iconst_0 ?_
    refine g_sub [0, 2, 4] rfl ?_
    exact J_X12_saidBy_15 l b D z hF
  · replace hF := q_t c5 hF
    refine g_iconst dX12_saidBy_10 lt_iconst_1 ?_
    refine g_goto 15 dX12_saidBy_11 (by decide) ?_
    refine g_sub [0, 2, 4] rfl ?_
    exact J_X12_saidBy_15 l b D z hF
def rm_X12_together : Room := { frames := 3, cells := 0, slots := 0, locals := 66 }
set_option maxRecDepth 100000 in
set_option maxHeartbeats 4000000 in
theorem B_X12_together_52 (l : Launch) (b : Nat) (D : va_G) (z : Nat → Nat) {Φ : Option Value → qH → Nat → Prop} {nx : Nat} {a0 : Nat} {a2 : Int32} {a3 : Int32} {a4 : Int32} {a5 : Int32} {h : qH} {o : (Int32 × qH) ⊕ qH} (hF : b_X12_together_52 a0 a2 a3 a4 a5 h = some o) (hback : ∀ (b5 : Int32) (bh : qH), o = .inl (b5, bh) → Go l b D z yX12_together cX12_together 10 (some .int) rm_X12_together Φ 52 [(0, .ref a0), (2, .int a2), (3, .int a3), (4, .int a4), (5, .int b5)] [] bh nx 0 0) (hx0 : ∀  (bh : qH), o = .inr bh → Go l b D z yX12_together cX12_together 10 (some .int) rm_X12_together Φ 87 [(0, .ref a0), (2, .int a2), (3, .int a3)] [] bh nx 0 0) : Go l b D z yX12_together cX12_together 10 (some .int) rm_X12_together Φ 52 [(0, .ref a0), (2, .int a2), (3, .int a3), (4, .int a4), (5, .int a5)] [] h nx 0 0 := by
  unfold b_X12_together_52 at hF
  refine g_iload 4 dX12_together_52 rfl ?_
  refine g_sipush dX12_together_54 lt_sipush_200 ?_
  refine g_icmp_ge 87 dX12_together_57 (by decide) (fun c1 => ?_) (fun c1 => ?_)
  · replace hF := q_t c1 hF
    cases hF
    refine g_sub [0, 1, 2] rfl ?_
    exact hx0 _ rfl
  · replace hF := q_f c1 hF
    refine g_aload_n 0 dX12_together_60 rfl ?_
    obtain ⟨x2, e3, hF⟩ := q_bind hF
    refine g_getfR fl_X12_56 e3 dX12_together_61 ?_
    refine g_iload 4 dX12_together_64 rfl ?_
    refine g_iload 4 dX12_together_66 rfl ?_
    refine g_iload 3 dX12_together_68 rfl ?_
    refine g_icmp_ne 77 dX12_together_70 (by decide) (fun c4 => ?_) (fun c4 => ?_)
    · replace hF := q_f c4 hF
      refine g_ldcw dX12_together_77 wd_1887 ?_
      obtain ⟨h5, e6, hF⟩ := q_bind hF
      refine g_iast e6 dX12_together_80 ?_
      refine g_iinc [(5, .int (a5 + 1)), (0, .ref a0), (2, .int a2), (3, .int a3), (4, .int a4)] 4 dX12_together_81 rfl (congrArg (a5 + ·) lt_iconst_1) (Nat.le_of_ble_eq_true rfl) rfl ?_
      refine g_goto 52 dX12_together_84 (by decide) ?_
      cases hF
      refine g_sub [1, 2, 3, 4, 0] rfl ?_
      exact hback _ _ rfl
    · replace hF := q_t c4 hF
      refine g_iconst dX12_together_73 lt_iconst_1 ?_
      refine g_goto 80 dX12_together_74 (by decide) ?_
      obtain ⟨h7, e8, hF⟩ := q_bind hF
      refine g_iast e8 dX12_together_80 ?_
      refine g_iinc [(5, .int (a5 + 1)), (0, .ref a0), (2, .int a2), (3, .int a3), (4, .int a4)] 4 dX12_together_81 rfl (congrArg (a5 + ·) lt_iconst_1) (Nat.le_of_ble_eq_true rfl) rfl ?_
      refine g_goto 52 dX12_together_84 (by decide) ?_
      cases hF
      refine g_sub [1, 2, 3, 4, 0] rfl ?_
      exact hback _ _ rfl
set_option maxRecDepth 100000 in
set_option maxHeartbeats 4000000 in
theorem L_X12_together_52 (l : Launch) (b : Nat) (D : va_G) (z : Nat → Nat) {Φ : Option Value → qH → Nat → Prop} {nx : Nat} {a0 : Nat} {a2 : Int32} {a3 : Int32} {a4 : Int32} : ∀ (n : Nat) (a5 : Int32) (h : qH) (e : qH), q_lp (s_X12_together_52 a0 a2 a3 a4) n (a5, h) = some e → (∀  (bh : qH), e = bh → Go l b D z yX12_together cX12_together 10 (some .int) rm_X12_together Φ 87 [(0, .ref a0), (2, .int a2), (3, .int a3)] [] bh nx 0 0) → Go l b D z yX12_together cX12_together 10 (some .int) rm_X12_together Φ 52 [(0, .ref a0), (2, .int a2), (3, .int a3), (4, .int a4), (5, .int a5)] [] h nx 0 0 := by
  intro n
  induction n with
  | zero => intro a5 h e he; cases (show none = some e from he)
  | succ n ih =>
    intro a5 h e he hx0
    obtain ⟨o, ho, h1, h2⟩ := q_lp_succ he
    exact B_X12_together_52 l b D z (show b_X12_together_52 a0 a2 a3 a4 a5 h = some o from ho) (fun b5 bh hb => ih _ _ e (h1 _ hb) hx0) (fun p0 hr => hx0 p0 (h2 _ hr).symm)
set_option maxRecDepth 100000 in
set_option maxHeartbeats 4000000 in
theorem B_X12_together_111 (l : Launch) (b : Nat) (D : va_G) (z : Nat → Nat) {Φ : Option Value → qH → Nat → Prop} {nx : Nat} {a0 : Nat} {a2 : Int32} {a3 : Int32} {a6 : Int32} {a5 : Int32} {a7 : Int32} {h : qH} {o : (Int32 × Int32 × qH) ⊕ ((Int32 × qH))} (hF : b_X12_together_111 a0 a2 a3 a6 a5 a7 h = some o) (hback : ∀ (b5 : Int32) (b7 : Int32) (bh : qH), o = .inl (b5, b7, bh) → Go l b D z yX12_together cX12_together 10 (some .int) rm_X12_together Φ 111 [(0, .ref a0), (2, .int a2), (3, .int a3), (5, .int b5), (6, .int a6), (7, .int b7)] [] bh nx 0 0) (hx0 : ∀ (b5 : Int32) (bh : qH), o = .inr (b5, bh) → Go l b D z yX12_together cX12_together 10 (some .int) rm_X12_together Φ 202 [(0, .ref a0), (2, .int a2), (3, .int a3), (5, .int b5), (6, .int a6)] [] bh nx 0 0) : Go l b D z yX12_together cX12_together 10 (some .int) rm_X12_together Φ 111 [(0, .ref a0), (2, .int a2), (3, .int a3), (5, .int a5), (6, .int a6), (7, .int a7)] [] h nx 0 0 := by
  unfold b_X12_together_111 at hF
  refine g_aload_n 0 dX12_together_111 rfl ?_
  obtain ⟨x1, e2, hF⟩ := q_bind hF
  refine g_getfR fl_X12_56 e2 dX12_together_112 ?_
  refine g_iload 4 dX12_together_115 rfl ?_
  obtain ⟨x3, e4, hF⟩ := q_bind hF
  refine g_iald e4 dX12_together_117 ?_
  refine g_ldcw dX12_together_118 wd_1887 ?_
  refine g_icmp_ge 202 dX12_together_121 (by decide) (fun c5 => ?_) (fun c5 => ?_)
  · replace hF := q_t c5 hF
    cases hF
    refine g_sub [0, 1, 2, 3, 4] rfl ?_
    exact hx0 _ _ rfl
  · replace hF := q_f c5 hF
    refine g_iload 5 dX12_together_124 rfl ?_
    refine g_aload_n 0 dX12_together_126 rfl ?_
    obtain ⟨x6, e7, hF⟩ := q_bind hF
    refine g_getfR fl_X12_47 e7 dX12_together_127 ?_
    refine g_iload 4 dX12_together_130 rfl ?_
    refine g_bipush dX12_together_132 lt_bipush_20 ?_
    refine g_irem dX12_together_134 (by decide) ?_
    obtain ⟨x8, e9, hF⟩ := q_bind hF
    refine g_iald e9 dX12_together_135 ?_
    refine g_icmp_ge 202 dX12_together_136 (by decide) (fun c10 => ?_) (fun c10 => ?_)
    · replace hF := q_t c10 hF
      cases hF
      refine g_sub [0, 1, 2, 3, 4] rfl ?_
      exact hx0 _ _ rfl
    · replace hF := q_f c10 hF
      refine g_aload_n 0 dX12_together_139 rfl ?_
      refine g_iload 4 dX12_together_140 rfl ?_
      refine g_bipush dX12_together_142 lt_bipush_20 ?_
      refine g_irem dX12_together_144 (by decide) ?_
      refine g_iload 5 dX12_together_145 rfl ?_
      obtain ⟨u11, e12, hF⟩ := q_bind hF
      obtain ⟨x13, e14, hF⟩ := q_bind hF
      refine g_callVr0 (ci := 12) (q := (RX12, TX12, 49)) qm_X12_behind wd_1773 wd_1775 wd_104 rfl e12 (M_X12_behind l b D z nx e14) (As := [.int (q_rem a6 (20 : Int32)), .int a7]) rfl rfl (Nat.le_of_ble_eq_true rfl) ⟨(Nat.le_of_ble_eq_true rfl), (Nat.le_of_ble_eq_true rfl)⟩ ⟨rfl, rfl⟩ ⟨(Nat.le_of_ble_eq_true rfl), (Nat.le_of_ble_eq_true rfl)⟩ dX12_together_147 ?_
      refine g_istore [(8, .int x13), (0, .ref a0), (2, .int a2), (3, .int a3), (5, .int a5), (6, .int a6), (7, .int a7)] dX12_together_150 (Nat.le_of_ble_eq_true rfl) rfl ?_
      refine g_aload_n 1 dX12_together_152 rfl ?_
      refine g_iload 5 dX12_together_153 rfl ?_
      refine g_bipush dX12_together_155 lt_bipush_20 ?_
      refine g_aload_n 1 dX12_together_157 rfl ?_
      refine g_iload 5 dX12_together_158 rfl ?_
      refine g_bipush dX12_together_160 lt_bipush_20 ?_
      refine g_idiv dX12_together_162 (by decide) ?_
      refine g_iload 0 dX12_together_163 rfl ?_
      refine g_iload_n 2 dX12_together_165 rfl ?_
      refine g_iload_n 3 dX12_together_166 rfl ?_
      obtain ⟨u15, e16, hF⟩ := q_bind hF
      obtain ⟨x17, e18, hF⟩ := q_bind hF
      refine g_callVr0 (ci := 12) (q := (RX12, TX12, 49)) qm_X12_saidBy wd_1914 wd_1916 wd_129 rfl e16 (M_X12_saidBy l b D z nx e18) (As := [.int (a6 / (20 : Int32)), .int x13, .int a2, .int a3]) rfl rfl (Nat.le_of_ble_eq_true rfl) ⟨(Nat.le_of_ble_eq_true rfl), (Nat.le_of_ble_eq_true rfl)⟩ ⟨rfl, rfl⟩ ⟨(Nat.le_of_ble_eq_true rfl), (Nat.le_of_ble_eq_true rfl)⟩ dX12_together_167 ?_
      refine g_imul dX12_together_170 ?_
      refine g_iload 0 dX12_together_171 rfl ?_
      refine g_iadd dX12_together_173 ?_
      obtain ⟨u19, e20, hF⟩ := q_bind hF
      obtain ⟨x21, e22, hF⟩ := q_bind hF
      refine g_callVr0 (ci := 12) (q := (RX12, TX12, 49)) qm_X12_nears wd_1906 wd_1908 wd_128 rfl e20 (M_X12_nears l b D z nx e22) (As := [.int a6, .int (((20 : Int32) * x17) + x13)]) rfl rfl (Nat.le_of_ble_eq_true rfl) ⟨(Nat.le_of_ble_eq_true rfl), (Nat.le_of_ble_eq_true rfl)⟩ ⟨rfl, rfl⟩ ⟨(Nat.le_of_ble_eq_true rfl), (Nat.le_of_ble_eq_true rfl)⟩ dX12_together_174 ?_
      refine g_istore [(9, .int x21.1), (8, .int x13), (0, .ref a0), (2, .int a2), (3, .int a3), (5, .int a5), (6, .int a6), (7, .int a7)] dX12_together_177 (Nat.le_of_ble_eq_true rfl) rfl ?_
      refine g_iload 5 dX12_together_179 rfl ?_
      refine g_if_ne 189 dX12_together_181 (by decide) (fun c23 => ?_) (fun c23 => ?_)
      · replace hF := q_f c23 hF
        refine g_iconst dX12_together_189 lt_iconst_1 ?_
        refine g_goto 194 dX12_together_190 (by decide) ?_
        refine g_istore [(5, .int (1 : Int32)), (9, .int x21.1), (8, .int x13), (0, .ref a0), (2, .int a2), (3, .int a3), (6, .int a6), (7, .int a7)] dX12_together_194 (Nat.le_of_ble_eq_true rfl) rfl ?_
        refine g_iinc [(7, .int (a7 + 1)), (5, .int (1 : Int32)), (9, .int x21.1), (8, .int x13), (0, .ref a0), (2, .int a2), (3, .int a3), (6, .int a6)] 7 dX12_together_196 rfl (congrArg (a7 + ·) lt_iconst_1) (Nat.le_of_ble_eq_true rfl) rfl ?_
        refine g_goto 111 dX12_together_199 (by decide) ?_
        cases hF
        refine g_sub [4, 5, 6, 1, 7, 0] rfl ?_
        exact hback _ _ _ rfl
      · replace hF := q_t c23 hF
        refine g_iload 0 dX12_together_184 rfl ?_
        refine g_if_eq 193 dX12_together_186 (by decide) (fun c24 => ?_) (fun c24 => ?_)
        · replace hF := q_t c24 hF
          refine g_iconst dX12_together_193 lt_iconst_0 ?_
          refine g_istore [(5, .int (0 : Int32)), (9, .int x21.1), (8, .int x13), (0, .ref a0), (2, .int a2), (3, .int a3), (6, .int a6), (7, .int a7)] dX12_together_194 (Nat.le_of_ble_eq_true rfl) rfl ?_
          refine g_iinc [(7, .int (a7 + 1)), (5, .int (0 : Int32)), (9, .int x21.1), (8, .int x13), (0, .ref a0), (2, .int a2), (3, .int a3), (6, .int a6)] 7 dX12_together_196 rfl (congrArg (a7 + ·) lt_iconst_1) (Nat.le_of_ble_eq_true rfl) rfl ?_
          refine g_goto 111 dX12_together_199 (by decide) ?_
          cases hF
          refine g_sub [4, 5, 6, 1, 7, 0] rfl ?_
          exact hback _ _ _ rfl
        · replace hF := q_f c24 hF
          refine g_iconst dX12_together_189 lt_iconst_1 ?_
          refine g_goto 194 dX12_together_190 (by decide) ?_
          refine g_istore [(5, .int (1 : Int32)), (9, .int x21.1), (8, .int x13), (0, .ref a0), (2, .int a2), (3, .int a3), (6, .int a6), (7, .int a7)] dX12_together_194 (Nat.le_of_ble_eq_true rfl) rfl ?_
          refine g_iinc [(7, .int (a7 + 1)), (5, .int (1 : Int32)), (9, .int x21.1), (8, .int x13), (0, .ref a0), (2, .int a2), (3, .int a3), (6, .int a6)] 7 dX12_together_196 rfl (congrArg (a7 + ·) lt_iconst_1) (Nat.le_of_ble_eq_true rfl) rfl ?_
          refine g_goto 111 dX12_together_199 (by decide) ?_
          cases hF
          refine g_sub [4, 5, 6, 1, 7, 0] rfl ?_
          exact hback _ _ _ rfl
set_option maxRecDepth 100000 in
set_option maxHeartbeats 4000000 in
theorem L_X12_together_111 (l : Launch) (b : Nat) (D : va_G) (z : Nat → Nat) {Φ : Option Value → qH → Nat → Prop} {nx : Nat} {a0 : Nat} {a2 : Int32} {a3 : Int32} {a6 : Int32} : ∀ (n : Nat) (a5 : Int32) (a7 : Int32) (h : qH) (e : (Int32 × qH)), q_lp (s_X12_together_111 a0 a2 a3 a6) n (a5, a7, h) = some e → (∀ (b5 : Int32) (bh : qH), e = (b5, bh) → Go l b D z yX12_together cX12_together 10 (some .int) rm_X12_together Φ 202 [(0, .ref a0), (2, .int a2), (3, .int a3), (5, .int b5), (6, .int a6)] [] bh nx 0 0) → Go l b D z yX12_together cX12_together 10 (some .int) rm_X12_together Φ 111 [(0, .ref a0), (2, .int a2), (3, .int a3), (5, .int a5), (6, .int a6), (7, .int a7)] [] h nx 0 0 := by
  intro n
  induction n with
  | zero => intro a5 a7 h e he; cases (show none = some e from he)
  | succ n ih =>
    intro a5 a7 h e he hx0
    obtain ⟨o, ho, h1, h2⟩ := q_lp_succ he
    exact B_X12_together_111 l b D z (show b_X12_together_111 a0 a2 a3 a6 a5 a7 h = some o from ho) (fun b5 b7 bh hb => ih _ _ _ e (h1 _ hb) hx0) (fun p0 p1 hr => hx0 p0 p1 (h2 _ hr).symm)
set_option maxRecDepth 100000 in
set_option maxHeartbeats 4000000 in
theorem B_X12_together_101 (l : Launch) (b : Nat) (D : va_G) (z : Nat → Nat) {Φ : Option Value → qH → Nat → Prop} {nx : Nat} {a0 : Nat} {a2 : Int32} {a3 : Int32} {a5 : Int32} {a6 : Int32} {h : qH} {o : (Int32 × Int32 × qH) ⊕ ((Int32 × qH))} (hF : b_X12_together_101 a0 a2 a3 a5 a6 h = some o) (hback : ∀ (b5 : Int32) (b6 : Int32) (bh : qH), o = .inl (b5, b6, bh) → Go l b D z yX12_together cX12_together 10 (some .int) rm_X12_together Φ 101 [(0, .ref a0), (2, .int a2), (3, .int a3), (5, .int b5), (6, .int b6)] [] bh nx 0 0) (hx0 : ∀ (b5 : Int32) (bh : qH), o = .inr (b5, bh) → Go l b D z yX12_together cX12_together 10 (some .int) rm_X12_together Φ 208 [(0, .ref a0), (2, .int a2), (3, .int a3), (5, .int b5)] [] bh nx 0 0) : Go l b D z yX12_together cX12_together 10 (some .int) rm_X12_together Φ 101 [(0, .ref a0), (2, .int a2), (3, .int a3), (5, .int a5), (6, .int a6)] [] h nx 0 0 := by
  unfold b_X12_together_101 at hF
  refine g_iload 4 dX12_together_101 rfl ?_
  refine g_bipush dX12_together_103 lt_bipush_80 ?_
  refine g_icmp_ge 208 dX12_together_105 (by decide) (fun c1 => ?_) (fun c1 => ?_)
  · replace hF := q_t c1 hF
    cases hF
    refine g_sub [0, 1, 2, 3] rfl ?_
    exact hx0 _ _ rfl
  · replace hF := q_f c1 hF
    refine g_iconst dX12_together_108 lt_iconst_0 ?_
    refine g_istore [(7, .int (0 : Int32)), (0, .ref a0), (2, .int a2), (3, .int a3), (5, .int a5), (6, .int a6)] dX12_together_109 (Nat.le_of_ble_eq_true rfl) rfl ?_
    obtain ⟨e2, w3, hF⟩ := q_bind hF
    refine g_sub [1, 2, 3, 4, 5, 0] rfl ?_
    refine L_X12_together_111 l b D z q_N a5 (0 : Int32) h e2 w3 ?_
    · intro o4 h5 w6
      replace w6 := w6.symm
      subst w6
      dsimp only at hF
      refine g_iinc [(6, .int (a6 + 1)), (0, .ref a0), (2, .int a2), (3, .int a3), (5, .int o4)] 4 dX12_together_202 rfl (congrArg (a6 + ·) lt_iconst_1) (Nat.le_of_ble_eq_true rfl) rfl ?_
      refine g_goto 101 dX12_together_205 (by decide) ?_
      cases hF
      refine g_sub [1, 2, 3, 4, 0] rfl ?_
      exact hback _ _ _ rfl
set_option maxRecDepth 100000 in
set_option maxHeartbeats 4000000 in
theorem L_X12_together_101 (l : Launch) (b : Nat) (D : va_G) (z : Nat → Nat) {Φ : Option Value → qH → Nat → Prop} {nx : Nat} {a0 : Nat} {a2 : Int32} {a3 : Int32} : ∀ (n : Nat) (a5 : Int32) (a6 : Int32) (h : qH) (e : (Int32 × qH)), q_lp (s_X12_together_101 a0 a2 a3) n (a5, a6, h) = some e → (∀ (b5 : Int32) (bh : qH), e = (b5, bh) → Go l b D z yX12_together cX12_together 10 (some .int) rm_X12_together Φ 208 [(0, .ref a0), (2, .int a2), (3, .int a3), (5, .int b5)] [] bh nx 0 0) → Go l b D z yX12_together cX12_together 10 (some .int) rm_X12_together Φ 101 [(0, .ref a0), (2, .int a2), (3, .int a3), (5, .int a5), (6, .int a6)] [] h nx 0 0 := by
  intro n
  induction n with
  | zero => intro a5 a6 h e he; cases (show none = some e from he)
  | succ n ih =>
    intro a5 a6 h e he hx0
    obtain ⟨o, ho, h1, h2⟩ := q_lp_succ he
    exact B_X12_together_101 l b D z (show b_X12_together_101 a0 a2 a3 a5 a6 h = some o from ho) (fun b5 b6 bh hb => ih _ _ _ e (h1 _ hb) hx0) (fun p0 p1 hr => hx0 p0 p1 (h2 _ hr).symm)
set_option maxRecDepth 100000 in
set_option maxHeartbeats 4000000 in
theorem B_X12_together_90 (l : Launch) (b : Nat) (D : va_G) (z : Nat → Nat) {Φ : Option Value → qH → Nat → Prop} {nx : Nat} {a0 : Nat} {a2 : Int32} {a3 : Int32} {a5 : Int32} {h : qH} {o : (Int32 × qH) ⊕ qH} (hF : b_X12_together_90 a0 a2 a3 a5 h = some o) (hback : ∀ (b5 : Int32) (bh : qH), o = .inl (b5, bh) → Go l b D z yX12_together cX12_together 10 (some .int) rm_X12_together Φ 90 [(0, .ref a0), (2, .int a2), (3, .int a3), (5, .int b5)] [] bh nx 0 0) (hx0 : ∀  (bh : qH), o = .inr bh → Go l b D z yX12_together cX12_together 10 (some .int) rm_X12_together Φ 211 [(0, .ref a0)] [] bh nx 0 0) : Go l b D z yX12_together cX12_together 10 (some .int) rm_X12_together Φ 90 [(0, .ref a0), (2, .int a2), (3, .int a3), (5, .int a5)] [] h nx 0 0 := by
  unfold b_X12_together_90 at hF
  refine g_iload 3 dX12_together_90 rfl ?_
  refine g_if_eq 211 dX12_together_92 (by decide) (fun c1 => ?_) (fun c1 => ?_)
  · replace hF := q_t c1 hF
    cases hF
    refine g_sub [0] rfl ?_
    exact hx0 _ rfl
  · replace hF := q_f c1 hF
    refine g_iconst dX12_together_95 lt_iconst_0 ?_
    refine g_istore [(5, .int (0 : Int32)), (0, .ref a0), (2, .int a2), (3, .int a3)] dX12_together_96 (Nat.le_of_ble_eq_true rfl) rfl ?_
    refine g_iconst dX12_together_98 lt_iconst_0 ?_
    refine g_istore [(6, .int (0 : Int32)), (5, .int (0 : Int32)), (0, .ref a0), (2, .int a2), (3, .int a3)] dX12_together_99 (Nat.le_of_ble_eq_true rfl) rfl ?_
    obtain ⟨e2, w3, hF⟩ := q_bind hF
    refine g_sub [2, 3, 4, 1, 0] rfl ?_
    refine L_X12_together_101 l b D z q_N (0 : Int32) (0 : Int32) h e2 w3 ?_
    · intro o4 h5 w6
      replace w6 := w6.symm
      subst w6
      dsimp only at hF
      refine g_goto 90 dX12_together_208 (by decide) ?_
      cases hF
      exact hback _ _ rfl
set_option maxRecDepth 100000 in
set_option maxHeartbeats 4000000 in
theorem L_X12_together_90 (l : Launch) (b : Nat) (D : va_G) (z : Nat → Nat) {Φ : Option Value → qH → Nat → Prop} {nx : Nat} {a0 : Nat} {a2 : Int32} {a3 : Int32} : ∀ (n : Nat) (a5 : Int32) (h : qH) (e : qH), q_lp (s_X12_together_90 a0 a2 a3) n (a5, h) = some e → (∀  (bh : qH), e = bh → Go l b D z yX12_together cX12_together 10 (some .int) rm_X12_together Φ 211 [(0, .ref a0)] [] bh nx 0 0) → Go l b D z yX12_together cX12_together 10 (some .int) rm_X12_together Φ 90 [(0, .ref a0), (2, .int a2), (3, .int a3), (5, .int a5)] [] h nx 0 0 := by
  intro n
  induction n with
  | zero => intro a5 h e he; cases (show none = some e from he)
  | succ n ih =>
    intro a5 h e he hx0
    obtain ⟨o, ho, h1, h2⟩ := q_lp_succ he
    exact B_X12_together_90 l b D z (show b_X12_together_90 a0 a2 a3 a5 h = some o from ho) (fun b5 bh hb => ih _ _ e (h1 _ hb) hx0) (fun p0 hr => hx0 p0 (h2 _ hr).symm)
set_option maxRecDepth 100000 in
set_option maxHeartbeats 4000000 in
theorem B_X12_together_219 (l : Launch) (b : Nat) (D : va_G) (z : Nat → Nat) {Φ : Option Value → qH → Nat → Prop} {nx : Nat} {h : qH} {a0 : Nat} {a6 : Int32} {a7 : Int32} {o : (Int32 × Int32) ⊕ Int32} (hF : b_X12_together_219 h a0 a6 a7 = some o) (hback : ∀ (b6 : Int32) (b7 : Int32), o = .inl (b6, b7) → Go l b D z yX12_together cX12_together 10 (some .int) rm_X12_together Φ 219 [(0, .ref a0), (6, .int b6), (7, .int b7)] [] h nx 0 0) (hx0 : ∀ (b6 : Int32), o = .inr b6 → Go l b D z yX12_together cX12_together 10 (some .int) rm_X12_together Φ 249 [(6, .int b6)] [] h nx 0 0) : Go l b D z yX12_together cX12_together 10 (some .int) rm_X12_together Φ 219 [(0, .ref a0), (6, .int a6), (7, .int a7)] [] h nx 0 0 := by
  unfold b_X12_together_219 at hF
  refine g_iload 2 dX12_together_219 rfl ?_
  refine g_bipush dX12_together_221 lt_bipush_20 ?_
  refine g_icmp_ge 249 dX12_together_223 (by decide) (fun c1 => ?_) (fun c1 => ?_)
  · replace hF := q_t c1 hF
    cases hF
    refine g_sub [1] rfl ?_
    exact hx0 _ rfl
  · replace hF := q_f c1 hF
    refine g_iload 1 dX12_together_226 rfl ?_
    refine g_aload_n 0 dX12_together_228 rfl ?_
    obtain ⟨x2, e3, hF⟩ := q_bind hF
    refine g_getfR fl_X12_56 e3 dX12_together_229 ?_
    refine g_bipush dX12_together_232 lt_bipush_60 ?_
    refine g_iload 2 dX12_together_234 rfl ?_
    refine g_iadd dX12_together_236 ?_
    obtain ⟨x4, e5, hF⟩ := q_bind hF
    refine g_iald e5 dX12_together_237 ?_
    obtain ⟨x6, e7, hF⟩ := q_bind hF
    refine g_callSr0 qm_X12_lesser wd_1891 wd_1892 (M_X12_lesser l b D z nx e7) (As := [.int a6, .int x4]) rfl rfl (Nat.le_of_ble_eq_true rfl) ⟨(Nat.le_of_ble_eq_true rfl), (Nat.le_of_ble_eq_true rfl)⟩ ⟨rfl, rfl⟩ ⟨(Nat.le_of_ble_eq_true rfl), (Nat.le_of_ble_eq_true rfl)⟩ dX12_together_238 ?_
    refine g_istore [(6, .int x6), (0, .ref a0), (7, .int a7)] dX12_together_241 (Nat.le_of_ble_eq_true rfl) rfl ?_
    refine g_iinc [(7, .int (a7 + 1)), (6, .int x6), (0, .ref a0)] 2 dX12_together_243 rfl (congrArg (a7 + ·) lt_iconst_1) (Nat.le_of_ble_eq_true rfl) rfl ?_
    refine g_goto 219 dX12_together_246 (by decide) ?_
    cases hF
    refine g_sub [2, 1, 0] rfl ?_
    exact hback _ _ rfl
set_option maxRecDepth 100000 in
set_option maxHeartbeats 4000000 in
theorem L_X12_together_219 (l : Launch) (b : Nat) (D : va_G) (z : Nat → Nat) {Φ : Option Value → qH → Nat → Prop} {nx : Nat} {h : qH} {a0 : Nat} : ∀ (n : Nat) (a6 : Int32) (a7 : Int32) (e : Int32), q_lp (s_X12_together_219 h a0) n (a6, a7) = some e → (∀ (b6 : Int32), e = b6 → Go l b D z yX12_together cX12_together 10 (some .int) rm_X12_together Φ 249 [(6, .int b6)] [] h nx 0 0) → Go l b D z yX12_together cX12_together 10 (some .int) rm_X12_together Φ 219 [(0, .ref a0), (6, .int a6), (7, .int a7)] [] h nx 0 0 := by
  intro n
  induction n with
  | zero => intro a6 a7 e he; cases (show none = some e from he)
  | succ n ih =>
    intro a6 a7 e he hx0
    obtain ⟨o, ho, h1, h2⟩ := q_lp_succ he
    exact B_X12_together_219 l b D z (show b_X12_together_219 h a0 a6 a7 = some o from ho) (fun b6 b7 hb => ih _ _ e (h1 _ hb) hx0) (fun p0 hr => hx0 p0 (h2 _ hr).symm)
set_option maxRecDepth 100000 in
set_option maxHeartbeats 4000000 in
theorem M_X12_together (l : Launch) (b : Nat) (D : va_G) (z : Nat → Nat) (nx : Nat) {h : qH} {a0 : Nat} {a1 : Int32} {a2 : Int32} {a3 : Int32} {r : Int32 × qH} (hF : F_X12_together h a0 a1 a2 a3 = some r) : Me l b D z yX12_together cX12_together 10 (some .int) rm_X12_together [.ref a0, .int a1, .int a2, .int a3] h nx (qE (some (.int r.1)) r.2 nx) := by
  refine Me.of (by decide +kernel) (Nat.le_of_ble_eq_true rfl) ?_
  show Go l b D z yX12_together cX12_together 10 (some .int) rm_X12_together (qE (some (.int r.1)) r.2 nx) 0 [(0, .ref a0), (1, .int a1), (2, .int a2), (3, .int a3)] [] h nx 0 0
  unfold F_X12_together at hF
  refine g_aload_n 0 dX12_together_0 rfl ?_
  refine g_iconst dX12_together_1 lt_iconst_0 ?_
  obtain ⟨h1, e2, hF⟩ := q_bind hF
  refine g_putf fl_X12_91 e2 rfl rfl dX12_together_2 ?_
  refine g_iload_n 2 dX12_together_5 rfl ?_
  obtain ⟨x3, e4, hF⟩ := q_bind hF
  refine g_callSr0 qm_X12_isPerson wd_1762 wd_1763 (M_X12_isPerson l b D z nx e4) (As := [.int a2]) rfl rfl (Nat.le_of_ble_eq_true rfl) ⟨(Nat.le_of_ble_eq_true rfl), (Nat.le_of_ble_eq_true rfl)⟩ ⟨rfl, rfl⟩ ⟨(Nat.le_of_ble_eq_true rfl), (Nat.le_of_ble_eq_true rfl)⟩ dX12_together_6 ?_
  refine g_if_eq 34 dX12_together_9 (by decide) (fun c5 => ?_) (fun c5 => ?_)
  · replace hF := q_t c5 hF
    refine g_iconst dX12_together_34 lt_iconst_m1 ?_
    cases hF
    exact g_iret dX12_together_35 rfl ⟨rfl, rfl, rfl⟩ (Nat.le_of_ble_eq_true rfl) (Nat.le_of_ble_eq_true rfl)
  · replace hF := q_f c5 hF
    refine g_iload_n 3 dX12_together_12 rfl ?_
    obtain ⟨x6, e7, hF⟩ := q_bind hF
    refine g_callSr0 qm_X12_isPerson wd_1762 wd_1763 (M_X12_isPerson l b D z nx e7) (As := [.int a3]) rfl rfl (Nat.le_of_ble_eq_true rfl) ⟨(Nat.le_of_ble_eq_true rfl), (Nat.le_of_ble_eq_true rfl)⟩ ⟨rfl, rfl⟩ ⟨(Nat.le_of_ble_eq_true rfl), (Nat.le_of_ble_eq_true rfl)⟩ dX12_together_13 ?_
    refine g_if_eq 34 dX12_together_16 (by decide) (fun c8 => ?_) (fun c8 => ?_)
    · replace hF := q_t c8 hF
      refine g_iconst dX12_together_34 lt_iconst_m1 ?_
      cases hF
      exact g_iret dX12_together_35 rfl ⟨rfl, rfl, rfl⟩ (Nat.le_of_ble_eq_true rfl) (Nat.le_of_ble_eq_true rfl)
    · replace hF := q_f c8 hF
      refine g_aload_n 0 dX12_together_19 rfl ?_
      refine g_iload_n 1 dX12_together_20 rfl ?_
      obtain ⟨u9, e10, hF⟩ := q_bind hF
      obtain ⟨x11, e12, hF⟩ := q_bind hF
      refine g_callVr0 (ci := 12) (q := (RX12, TX12, 49)) qm_X12_hand wd_1750 wd_1752 wd_99 rfl e10 (M_X12_hand l b D z nx e12) (As := [.int a1]) rfl rfl (Nat.le_of_ble_eq_true rfl) ⟨(Nat.le_of_ble_eq_true rfl), (Nat.le_of_ble_eq_true rfl)⟩ ⟨rfl, rfl⟩ ⟨(Nat.le_of_ble_eq_true rfl), (Nat.le_of_ble_eq_true rfl)⟩ dX12_together_21 ?_
      refine g_if_eq 34 dX12_together_24 (by decide) (fun c13 => ?_) (fun c13 => ?_)
      · replace hF := q_t c13 hF
        refine g_iconst dX12_together_34 lt_iconst_m1 ?_
        cases hF
        exact g_iret dX12_together_35 rfl ⟨rfl, rfl, rfl⟩ (Nat.le_of_ble_eq_true rfl) (Nat.le_of_ble_eq_true rfl)
      · replace hF := q_f c13 hF
        refine g_aload_n 0 dX12_together_27 rfl ?_
        obtain ⟨x14, e15, hF⟩ := q_bind hF
        refine g_getfI fl_X12_276 e15 dX12_together_28 ?_
        refine g_if_ne 36 dX12_together_31 (by decide) (fun c16 => ?_) (fun c16 => ?_)
        · replace hF := q_f c16 hF
          refine g_bipush dX12_together_36 lt_bipush_20 ?_
          refine g_aload_n 0 dX12_together_38 rfl ?_
          refine g_iconst dX12_together_39 lt_iconst_0 ?_
          refine g_iconst dX12_together_40 lt_iconst_0 ?_
          refine g_iload_n 2 dX12_together_41 rfl ?_
          refine g_iload_n 3 dX12_together_42 rfl ?_
          obtain ⟨u17, e18, hF⟩ := q_bind hF
          obtain ⟨x19, e20, hF⟩ := q_bind hF
          refine g_callVr0 (ci := 12) (q := (RX12, TX12, 49)) qm_X12_saidBy wd_1914 wd_1916 wd_129 rfl e18 (M_X12_saidBy l b D z nx e20) (As := [.int (0 : Int32), .int (0 : Int32), .int a2, .int a3]) rfl rfl (Nat.le_of_ble_eq_true rfl) ⟨(Nat.le_of_ble_eq_true rfl), (Nat.le_of_ble_eq_true rfl)⟩ ⟨rfl, rfl⟩ ⟨(Nat.le_of_ble_eq_true rfl), (Nat.le_of_ble_eq_true rfl)⟩ dX12_together_43 ?_
          refine g_imul dX12_together_46 ?_
          refine g_istore [(4, .int ((20 : Int32) * x19)), (0, .ref a0), (1, .int a1), (2, .int a2), (3, .int a3)] dX12_together_47 (Nat.le_of_ble_eq_true rfl) rfl ?_
          refine g_iconst dX12_together_49 lt_iconst_0 ?_
          refine g_istore [(5, .int (0 : Int32)), (4, .int ((20 : Int32) * x19)), (0, .ref a0), (1, .int a1), (2, .int a2), (3, .int a3)] dX12_together_50 (Nat.le_of_ble_eq_true rfl) rfl ?_
          obtain ⟨e21, w22, hF⟩ := q_bind hF
          refine g_sub [2, 4, 5, 1, 0] rfl ?_
          refine L_X12_together_52 l b D z q_N (0 : Int32) x11.2 e21 w22 ?_
          · intro h23 w24
            replace w24 := w24.symm
            subst w24
            refine g_iconst dX12_together_87 lt_iconst_1 ?_
            refine g_istore [(5, .int (1 : Int32)), (0, .ref a0), (2, .int a2), (3, .int a3)] dX12_together_88 (Nat.le_of_ble_eq_true rfl) rfl ?_
            obtain ⟨e25, w26, hF⟩ := q_bind hF
            refine g_sub [1, 2, 3, 0] rfl ?_
            refine L_X12_together_90 l b D z q_N (1 : Int32) h23 e25 w26 ?_
            · intro h27 w28
              replace w28 := w28.symm
              subst w28
              refine g_ldcw dX12_together_211 wd_1887 ?_
              refine g_istore [(6, .int (1000000 : Int32)), (0, .ref a0)] dX12_together_214 (Nat.le_of_ble_eq_true rfl) rfl ?_
              refine g_iconst dX12_together_216 lt_iconst_0 ?_
              refine g_istore [(7, .int (0 : Int32)), (6, .int (1000000 : Int32)), (0, .ref a0)] dX12_together_217 (Nat.le_of_ble_eq_true rfl) rfl ?_
              obtain ⟨e29, w30, hF⟩ := q_bind hF
              refine g_sub [2, 1, 0] rfl ?_
              refine L_X12_together_219 l b D z q_N (1000000 : Int32) (0 : Int32) e29 w30 ?_
              · intro o31 w32
                replace w32 := w32.symm
                subst w32
                refine g_iload 0 dX12_together_249 rfl ?_
                refine g_ldcw dX12_together_251 wd_1887 ?_
                refine g_icmp_lt 261 dX12_together_254 (by decide) (fun c33 => ?_) (fun c33 => ?_)
                · replace hF := q_t c33 hF
                  refine g_iload 0 dX12_together_261 rfl ?_
                  cases hF
                  exact g_iret dX12_together_263 rfl ⟨rfl, rfl, rfl⟩ (Nat.le_of_ble_eq_true rfl) (Nat.le_of_ble_eq_true rfl)
                · replace hF := q_f c33 hF
                  refine g_iconst dX12_together_257 lt_iconst_m1 ?_
                  refine g_goto 263 dX12_together_258 (by decide) ?_
                  cases hF
                  exact g_iret dX12_together_263 rfl ⟨rfl, rfl, rfl⟩ (Nat.le_of_ble_eq_true rfl) (Nat.le_of_ble_eq_true rfl)
        · replace hF := q_t c16 hF
          refine g_iconst dX12_together_34 lt_iconst_m1 ?_
          cases hF
          exact g_iret dX12_together_35 rfl ⟨rfl, rfl, rfl⟩ (Nat.le_of_ble_eq_true rfl) (Nat.le_of_ble_eq_true rfl)
def rm_X12_tens : Room := { frames := 0, cells := 0, slots := 0, locals := 0 }
set_option maxRecDepth 100000 in
set_option maxHeartbeats 4000000 in
theorem B_X12_tens_4 (l : Launch) (b : Nat) (D : va_G) (z : Nat → Nat) {Φ : Option Value → qH → Nat → Prop} {nx : Nat} {h : qH} {a0 : Int32} {a1 : Int64} {a3 : Int32} {o : (Int64 × Int32) ⊕ Int64} (hF : b_X12_tens_4 h a0 a1 a3 = some o) (hback : ∀ (b1 : Int64) (b3 : Int32), o = .inl (b1, b3) → Go l b D z yX12_tens cX12_tens 4 (some .long) rm_X12_tens Φ 4 [(0, .int a0), (1, .long b1), (3, .int b3)] [] h nx 0 0) (hx0 : ∀ (b1 : Int64), o = .inr b1 → Go l b D z yX12_tens cX12_tens 4 (some .long) rm_X12_tens Φ 21 [(1, .long b1)] [] h nx 0 0) : Go l b D z yX12_tens cX12_tens 4 (some .long) rm_X12_tens Φ 4 [(0, .int a0), (1, .long a1), (3, .int a3)] [] h nx 0 0 := by
  unfold b_X12_tens_4 at hF
  refine g_iload_n 2 dX12_tens_4 rfl ?_
  refine g_iload_n 0 dX12_tens_5 rfl ?_
  refine g_icmp_ge 21 dX12_tens_6 (by decide) (fun c1 => ?_) (fun c1 => ?_)
  · replace hF := q_t c1 hF
    cases hF
    refine g_sub [1] rfl ?_
    exact hx0 _ rfl
  · replace hF := q_f c1 hF
    refine g_lload_n 1 dX12_tens_9 rfl ?_
    refine g_ldc2 dX12_tens_10 wd_1927 ?_
    refine g_lmul dX12_tens_13 ?_
    refine g_lstore_n [(1, .long (a1 * (10 : Int64))), (0, .int a0), (3, .int a3)] dX12_tens_14 (Nat.le_of_ble_eq_true rfl) rfl ?_
    refine g_iinc [(3, .int (a3 + 1)), (1, .long (a1 * (10 : Int64))), (0, .int a0)] 2 dX12_tens_15 rfl (congrArg (a3 + ·) lt_iconst_1) (Nat.le_of_ble_eq_true rfl) rfl ?_
    refine g_goto 4 dX12_tens_18 (by decide) ?_
    cases hF
    refine g_sub [2, 1, 0] rfl ?_
    exact hback _ _ rfl
set_option maxRecDepth 100000 in
set_option maxHeartbeats 4000000 in
theorem L_X12_tens_4 (l : Launch) (b : Nat) (D : va_G) (z : Nat → Nat) {Φ : Option Value → qH → Nat → Prop} {nx : Nat} {h : qH} {a0 : Int32} : ∀ (n : Nat) (a1 : Int64) (a3 : Int32) (e : Int64), q_lp (s_X12_tens_4 h a0) n (a1, a3) = some e → (∀ (b1 : Int64), e = b1 → Go l b D z yX12_tens cX12_tens 4 (some .long) rm_X12_tens Φ 21 [(1, .long b1)] [] h nx 0 0) → Go l b D z yX12_tens cX12_tens 4 (some .long) rm_X12_tens Φ 4 [(0, .int a0), (1, .long a1), (3, .int a3)] [] h nx 0 0 := by
  intro n
  induction n with
  | zero => intro a1 a3 e he; cases (show none = some e from he)
  | succ n ih =>
    intro a1 a3 e he hx0
    obtain ⟨o, ho, h1, h2⟩ := q_lp_succ he
    exact B_X12_tens_4 l b D z (show b_X12_tens_4 h a0 a1 a3 = some o from ho) (fun b1 b3 hb => ih _ _ e (h1 _ hb) hx0) (fun p0 hr => hx0 p0 (h2 _ hr).symm)
set_option maxRecDepth 100000 in
set_option maxHeartbeats 4000000 in
theorem M_X12_tens (l : Launch) (b : Nat) (D : va_G) (z : Nat → Nat) (nx : Nat) {h : qH} {a0 : Int32} {r : Int64} (hF : F_X12_tens h a0 = some r) : Me l b D z yX12_tens cX12_tens 4 (some .long) rm_X12_tens [.int a0] h nx (qE (some (.long r)) h nx) := by
  refine Me.of (by decide +kernel) (Nat.le_of_ble_eq_true rfl) ?_
  show Go l b D z yX12_tens cX12_tens 4 (some .long) rm_X12_tens (qE (some (.long r)) h nx) 0 [(0, .int a0)] [] h nx 0 0
  unfold F_X12_tens at hF
  refine g_lconst (v := 1) dX12_tens_0 (by decide +kernel) ?_
  refine g_lstore_n [(1, .long (1 : Int64)), (0, .int a0)] dX12_tens_1 (Nat.le_of_ble_eq_true rfl) rfl ?_
  refine g_iconst dX12_tens_2 lt_iconst_0 ?_
  refine g_istore_n [(3, .int (0 : Int32)), (1, .long (1 : Int64)), (0, .int a0)] dX12_tens_3 (Nat.le_of_ble_eq_true rfl) rfl ?_
  obtain ⟨e1, w2, hF⟩ := q_bind hF
  refine g_sub [2, 1, 0] rfl ?_
  refine L_X12_tens_4 l b D z q_N (1 : Int64) (0 : Int32) e1 w2 ?_
  · intro o3 w4
    replace w4 := w4.symm
    subst w4
    refine g_lload_n 0 dX12_tens_21 rfl ?_
    cases hF
    exact g_lret dX12_tens_22 rfl ⟨rfl, rfl, rfl⟩ (Nat.le_of_ble_eq_true rfl) (Nat.le_of_ble_eq_true rfl)
def rm_X12_oneMore : Room := { frames := 2, cells := 0, slots := 0, locals := 42 }
set_option maxRecDepth 100000 in
set_option maxHeartbeats 4000000 in
theorem B_X12_oneMore_2 (l : Launch) (b : Nat) (D : va_G) (z : Nat → Nat) {Φ : Option Value → qH → Nat → Prop} {nx : Nat} {a0 : Nat} {a1 : Int32} {a2 : Int32} {a3 : Int32} {h : qH} {o : (Int32 × qH) ⊕ qH} (hF : b_X12_oneMore_2 a0 a1 a2 a3 h = some o) (hback : ∀ (b3 : Int32) (bh : qH), o = .inl (b3, bh) → Go l b D z yX12_oneMore cX12_oneMore 7 none rm_X12_oneMore Φ 2 [(0, .ref a0), (1, .int a1), (2, .int a2), (3, .int b3)] [] bh nx 0 0) (hx0 : ∀  (bh : qH), o = .inr bh → Go l b D z yX12_oneMore cX12_oneMore 7 none rm_X12_oneMore Φ 21 [(0, .ref a0), (1, .int a1), (2, .int a2)] [] bh nx 0 0) : Go l b D z yX12_oneMore cX12_oneMore 7 none rm_X12_oneMore Φ 2 [(0, .ref a0), (1, .int a1), (2, .int a2), (3, .int a3)] [] h nx 0 0 := by
  unfold b_X12_oneMore_2 at hF
  refine g_iload_n 3 dX12_oneMore_2 rfl ?_
  refine g_bipush dX12_oneMore_3 lt_bipush_20 ?_
  refine g_icmp_ge 21 dX12_oneMore_5 (by decide) (fun c1 => ?_) (fun c1 => ?_)
  · replace hF := q_t c1 hF
    cases hF
    refine g_sub [0, 1, 2] rfl ?_
    exact hx0 _ rfl
  · replace hF := q_f c1 hF
    refine g_aload_n 0 dX12_oneMore_8 rfl ?_
    obtain ⟨x2, e3, hF⟩ := q_bind hF
    refine g_getfR fl_X12_63 e3 dX12_oneMore_9 ?_
    refine g_iload_n 3 dX12_oneMore_12 rfl ?_
    refine g_lconst (v := 0) dX12_oneMore_13 (by decide +kernel) ?_
    obtain ⟨h4, e5, hF⟩ := q_bind hF
    refine g_last e5 dX12_oneMore_14 ?_
    refine g_iinc [(3, .int (a3 + 1)), (0, .ref a0), (1, .int a1), (2, .int a2)] 3 dX12_oneMore_15 rfl (congrArg (a3 + ·) lt_iconst_1) (Nat.le_of_ble_eq_true rfl) rfl ?_
    refine g_goto 2 dX12_oneMore_18 (by decide) ?_
    cases hF
    refine g_sub [1, 2, 3, 0] rfl ?_
    exact hback _ _ rfl
set_option maxRecDepth 100000 in
set_option maxHeartbeats 4000000 in
theorem L_X12_oneMore_2 (l : Launch) (b : Nat) (D : va_G) (z : Nat → Nat) {Φ : Option Value → qH → Nat → Prop} {nx : Nat} {a0 : Nat} {a1 : Int32} {a2 : Int32} : ∀ (n : Nat) (a3 : Int32) (h : qH) (e : qH), q_lp (s_X12_oneMore_2 a0 a1 a2) n (a3, h) = some e → (∀  (bh : qH), e = bh → Go l b D z yX12_oneMore cX12_oneMore 7 none rm_X12_oneMore Φ 21 [(0, .ref a0), (1, .int a1), (2, .int a2)] [] bh nx 0 0) → Go l b D z yX12_oneMore cX12_oneMore 7 none rm_X12_oneMore Φ 2 [(0, .ref a0), (1, .int a1), (2, .int a2), (3, .int a3)] [] h nx 0 0 := by
  intro n
  induction n with
  | zero => intro a3 h e he; cases (show none = some e from he)
  | succ n ih =>
    intro a3 h e he hx0
    obtain ⟨o, ho, h1, h2⟩ := q_lp_succ he
    exact B_X12_oneMore_2 l b D z (show b_X12_oneMore_2 a0 a1 a2 a3 h = some o from ho) (fun b3 bh hb => ih _ _ e (h1 _ hb) hx0) (fun p0 hr => hx0 p0 (h2 _ hr).symm)
set_option maxRecDepth 100000 in
set_option maxHeartbeats 4000000 in
theorem J_X12_oneMore_143 (l : Launch) (b : Nat) (D : va_G) (z : Nat → Nat) {Φ : Option Value → qH → Nat → Prop} {nx : Nat} {h : qH} {a0 : Nat} {a1 : Int32} {a2 : Int32} {a3 : Int32} {a5 : Int32} {a6 : Int32} {o : (Int32 × qH) ⊕ qH} (hF : j_X12_oneMore_143 h a0 a1 a2 a3 a5 a6  = some o) (hback : ∀ (b3 : Int32) (bh : qH), o = .inl (b3, bh) → Go l b D z yX12_oneMore cX12_oneMore 7 none rm_X12_oneMore Φ 59 [(0, .ref a0), (1, .int a1), (2, .int a2), (3, .int b3)] [] bh nx 0 0) (hx0 : ∀  (bh : qH), o = .inr bh → Go l b D z yX12_oneMore cX12_oneMore 7 none rm_X12_oneMore Φ 175 [(0, .ref a0)] [] bh nx 0 0) : Go l b D z yX12_oneMore cX12_oneMore 7 none rm_X12_oneMore Φ 143 [(0, .ref a0), (1, .int a1), (2, .int a2), (3, .int a3), (5, .int a5), (6, .int a6)] [] h nx 0 0 := by
  unfold j_X12_oneMore_143 at hF
  refine g_iload 4 dX12_oneMore_143 rfl ?_
  refine g_iconst dX12_oneMore_145 lt_iconst_m1 ?_
  refine g_icmp_eq 169 dX12_oneMore_146 (by decide) (fun c1 => ?_) (fun c1 => ?_)
  · replace hF := q_t c1 hF
    refine g_iinc [(3, .int (a3 + 1)), (0, .ref a0), (1, .int a1), (2, .int a2), (5, .int a5), (6, .int a6)] 3 dX12_oneMore_169 rfl (congrArg (a3 + ·) lt_iconst_1) (Nat.le_of_ble_eq_true rfl) rfl ?_
    refine g_goto 59 dX12_oneMore_172 (by decide) ?_
    cases hF
    refine g_sub [1, 2, 3, 0] rfl ?_
    exact hback _ _ rfl
  · replace hF := q_f c1 hF
    refine g_aload_n 0 dX12_oneMore_149 rfl ?_
    obtain ⟨x2, e3, hF⟩ := q_bind hF
    refine g_getfR fl_X12_63 e3 dX12_oneMore_150 ?_
    refine g_iload 4 dX12_oneMore_153 rfl ?_
    refine g_dup2 dX12_oneMore_155 rfl rfl ?_
    obtain ⟨x4, e5, hF⟩ := q_bind hF
    refine g_lald e5 dX12_oneMore_156 ?_
    refine g_aload_n 0 dX12_oneMore_157 rfl ?_
    obtain ⟨x6, e7, hF⟩ := q_bind hF
    refine g_getfR fl_X12_59 e7 dX12_oneMore_158 ?_
    refine g_iload_n 3 dX12_oneMore_161 rfl ?_
    obtain ⟨x8, e9, hF⟩ := q_bind hF
    refine g_lald e9 dX12_oneMore_162 ?_
    refine g_iload 5 dX12_oneMore_163 rfl ?_
    refine g_i2l dX12_oneMore_165 ?_
    refine g_lmul dX12_oneMore_166 ?_
    refine g_ladd dX12_oneMore_167 ?_
    obtain ⟨h10, e11, hF⟩ := q_bind hF
    refine g_last e11 dX12_oneMore_168 ?_
    refine g_iinc [(3, .int (a3 + 1)), (0, .ref a0), (1, .int a1), (2, .int a2), (5, .int a5), (6, .int a6)] 3 dX12_oneMore_169 rfl (congrArg (a3 + ·) lt_iconst_1) (Nat.le_of_ble_eq_true rfl) rfl ?_
    refine g_goto 59 dX12_oneMore_172 (by decide) ?_
    cases hF
    refine g_sub [1, 2, 3, 0] rfl ?_
    exact hback _ _ rfl
set_option maxRecDepth 100000 in
set_option maxHeartbeats 4000000 in
theorem J_X12_oneMore_112 (l : Launch) (b : Nat) (D : va_G) (z : Nat → Nat) {Φ : Option Value → qH → Nat → Prop} {nx : Nat} {h : qH} {a0 : Nat} {a1 : Int32} {a2 : Int32} {a3 : Int32} {a4 : Int32} {a5 : Int32} {t0 : Int32} {o : (Int32 × qH) ⊕ qH} (hF : j_X12_oneMore_112 h a0 a1 a2 a3 a4 a5 t0 = some o) (hback : ∀ (b3 : Int32) (bh : qH), o = .inl (b3, bh) → Go l b D z yX12_oneMore cX12_oneMore 7 none rm_X12_oneMore Φ 59 [(0, .ref a0), (1, .int a1), (2, .int a2), (3, .int b3)] [] bh nx 0 0) (hx0 : ∀  (bh : qH), o = .inr bh → Go l b D z yX12_oneMore cX12_oneMore 7 none rm_X12_oneMore Φ 175 [(0, .ref a0)] [] bh nx 0 0) : Go l b D z yX12_oneMore cX12_oneMore 7 none rm_X12_oneMore Φ 112 [(0, .ref a0), (1, .int a1), (2, .int a2), (3, .int a3), (4, .int a4), (5, .int a5)] [.int t0] h nx 0 0 := by
  unfold j_X12_oneMore_112 at hF
  refine g_istore [(6, .int t0), (0, .ref a0), (1, .int a1), (2, .int a2), (3, .int a3), (4, .int a4), (5, .int a5)] dX12_oneMore_112 (Nat.le_of_ble_eq_true rfl) rfl ?_
  refine g_iload 5 dX12_oneMore_114 rfl ?_
  refine g_iconst dX12_oneMore_116 lt_iconst_m1 ?_
  refine g_icmp_eq 143 dX12_oneMore_117 (by decide) (fun c1 => ?_) (fun c1 => ?_)
  · replace hF := q_t c1 hF
    refine g_sub [1, 2, 3, 4, 6, 0] rfl ?_
    exact J_X12_oneMore_143 l b D z hF hback hx0
  · replace hF := q_f c1 hF
    refine g_aload_n 1 dX12_oneMore_120 rfl ?_
    obtain ⟨x2, e3, hF⟩ := q_bind hF
    refine g_getfR fl_X12_63 e3 dX12_oneMore_121 ?_
    refine g_iload 5 dX12_oneMore_124 rfl ?_
    refine g_dup2 dX12_oneMore_126 rfl rfl ?_
    obtain ⟨x4, e5, hF⟩ := q_bind hF
    refine g_lald e5 dX12_oneMore_127 ?_
    refine g_aload_n 1 dX12_oneMore_128 rfl ?_
    obtain ⟨x6, e7, hF⟩ := q_bind hF
    refine g_getfR fl_X12_59 e7 dX12_oneMore_129 ?_
    refine g_iload_n 4 dX12_oneMore_132 rfl ?_
    obtain ⟨x8, e9, hF⟩ := q_bind hF
    refine g_lald e9 dX12_oneMore_133 ?_
    refine g_bipush dX12_oneMore_134 lt_bipush_10 ?_
    refine g_iload 0 dX12_oneMore_136 rfl ?_
    refine g_isub dX12_oneMore_138 ?_
    refine g_i2l dX12_oneMore_139 ?_
    refine g_lmul dX12_oneMore_140 ?_
    refine g_ladd dX12_oneMore_141 ?_
    obtain ⟨h10, e11, hF⟩ := q_bind hF
    refine g_last e11 dX12_oneMore_142 ?_
    refine g_sub [1, 2, 3, 4, 6, 0] rfl ?_
    exact J_X12_oneMore_143 l b D z hF hback hx0
set_option maxRecDepth 100000 in
set_option maxHeartbeats 4000000 in
theorem J_X12_oneMore_95 (l : Launch) (b : Nat) (D : va_G) (z : Nat → Nat) {Φ : Option Value → qH → Nat → Prop} {nx : Nat} {h : qH} {a0 : Nat} {a1 : Int32} {a2 : Int32} {a3 : Int32} {a4 : Int32} {a5 : Int32} {o : (Int32 × qH) ⊕ qH} (hF : j_X12_oneMore_95 h a0 a1 a2 a3 a4 a5  = some o) (hback : ∀ (b3 : Int32) (bh : qH), o = .inl (b3, bh) → Go l b D z yX12_oneMore cX12_oneMore 7 none rm_X12_oneMore Φ 59 [(0, .ref a0), (1, .int a1), (2, .int a2), (3, .int b3)] [] bh nx 0 0) (hx0 : ∀  (bh : qH), o = .inr bh → Go l b D z yX12_oneMore cX12_oneMore 7 none rm_X12_oneMore Φ 175 [(0, .ref a0)] [] bh nx 0 0) : Go l b D z yX12_oneMore cX12_oneMore 7 none rm_X12_oneMore Φ 95 [(0, .ref a0), (1, .int a1), (2, .int a2), (3, .int a3), (4, .int a4), (5, .int a5)] [] h nx 0 0 := by
  unfold j_X12_oneMore_95 at hF
  refine g_iconst dX12_oneMore_95 lt_iconst_0 ?_
  refine g_goto 112 dX12_oneMore_96 (by decide) ?_
  exact J_X12_oneMore_112 l b D z hF hback hx0
set_option maxRecDepth 100000 in
set_option maxHeartbeats 4000000 in
theorem B_X12_oneMore_59 (l : Launch) (b : Nat) (D : va_G) (z : Nat → Nat) {Φ : Option Value → qH → Nat → Prop} {nx : Nat} {a0 : Nat} {a1 : Int32} {a2 : Int32} {a3 : Int32} {h : qH} {o : (Int32 × qH) ⊕ qH} (hF : b_X12_oneMore_59 a0 a1 a2 a3 h = some o) (hback : ∀ (b3 : Int32) (bh : qH), o = .inl (b3, bh) → Go l b D z yX12_oneMore cX12_oneMore 7 none rm_X12_oneMore Φ 59 [(0, .ref a0), (1, .int a1), (2, .int a2), (3, .int b3)] [] bh nx 0 0) (hx0 : ∀  (bh : qH), o = .inr bh → Go l b D z yX12_oneMore cX12_oneMore 7 none rm_X12_oneMore Φ 175 [(0, .ref a0)] [] bh nx 0 0) : Go l b D z yX12_oneMore cX12_oneMore 7 none rm_X12_oneMore Φ 59 [(0, .ref a0), (1, .int a1), (2, .int a2), (3, .int a3)] [] h nx 0 0 := by
  unfold b_X12_oneMore_59 at hF
  refine g_iload_n 3 dX12_oneMore_59 rfl ?_
  refine g_bipush dX12_oneMore_60 lt_bipush_20 ?_
  refine g_icmp_ge 175 dX12_oneMore_62 (by decide) (fun c1 => ?_) (fun c1 => ?_)
  · replace hF := q_t c1 hF
    cases hF
    refine g_sub [0] rfl ?_
    exact hx0 _ rfl
  · replace hF := q_f c1 hF
    refine g_iload_n 1 dX12_oneMore_65 rfl ?_
    refine g_if_le 175 dX12_oneMore_66 (by decide) (fun c2 => ?_) (fun c2 => ?_)
    · replace hF := q_t c2 hF
      cases hF
      refine g_sub [0] rfl ?_
      exact hx0 _ rfl
    · replace hF := q_f c2 hF
      refine g_aload_n 0 dX12_oneMore_69 rfl ?_
      refine g_iload_n 3 dX12_oneMore_70 rfl ?_
      refine g_iconst dX12_oneMore_71 lt_iconst_0 ?_
      obtain ⟨u3, e4, hF⟩ := q_bind hF
      obtain ⟨x5, e6, hF⟩ := q_bind hF
      refine g_callVr0 (ci := 12) (q := (RX12, TX12, 49)) qm_X12_behind wd_1773 wd_1775 wd_104 rfl e4 (M_X12_behind l b D z nx e6) (As := [.int a3, .int (0 : Int32)]) rfl rfl (Nat.le_of_ble_eq_true rfl) ⟨(Nat.le_of_ble_eq_true rfl), (Nat.le_of_ble_eq_true rfl)⟩ ⟨rfl, rfl⟩ ⟨(Nat.le_of_ble_eq_true rfl), (Nat.le_of_ble_eq_true rfl)⟩ dX12_oneMore_72 ?_
      refine g_istore [(4, .int x5), (0, .ref a0), (1, .int a1), (2, .int a2), (3, .int a3)] dX12_oneMore_75 (Nat.le_of_ble_eq_true rfl) rfl ?_
      refine g_aload_n 1 dX12_oneMore_77 rfl ?_
      refine g_iload_n 4 dX12_oneMore_78 rfl ?_
      refine g_iconst dX12_oneMore_79 lt_iconst_1 ?_
      obtain ⟨u7, e8, hF⟩ := q_bind hF
      obtain ⟨x9, e10, hF⟩ := q_bind hF
      refine g_callVr0 (ci := 12) (q := (RX12, TX12, 49)) qm_X12_behind wd_1773 wd_1775 wd_104 rfl e8 (M_X12_behind l b D z nx e10) (As := [.int a3, .int (1 : Int32)]) rfl rfl (Nat.le_of_ble_eq_true rfl) ⟨(Nat.le_of_ble_eq_true rfl), (Nat.le_of_ble_eq_true rfl)⟩ ⟨rfl, rfl⟩ ⟨(Nat.le_of_ble_eq_true rfl), (Nat.le_of_ble_eq_true rfl)⟩ dX12_oneMore_80 ?_
      refine g_istore [(5, .int x9), (4, .int x5), (0, .ref a0), (1, .int a1), (2, .int a2), (3, .int a3)] dX12_oneMore_83 (Nat.le_of_ble_eq_true rfl) rfl ?_
      refine g_iload 1 dX12_oneMore_85 rfl ?_
      refine g_iconst dX12_oneMore_87 lt_iconst_m1 ?_
      refine g_icmp_eq 95 dX12_oneMore_88 (by decide) (fun c11 => ?_) (fun c11 => ?_)
      · replace hF := q_t c11 hF
        refine g_sub [2, 3, 4, 5, 1, 0] rfl ?_
        exact J_X12_oneMore_95 l b D z hF hback hx0
      · replace hF := q_f c11 hF
        refine g_iload_n 4 dX12_oneMore_91 rfl ?_
        refine g_if_eq 99 dX12_oneMore_92 (by decide) (fun c12 => ?_) (fun c12 => ?_)
        · replace hF := q_t c12 hF
          refine g_aload_n 2 dX12_oneMore_99 rfl ?_
          refine g_bipush dX12_oneMore_100 lt_bipush_100 ?_
          refine g_aload_n 2 dX12_oneMore_102 rfl ?_
          refine g_iload 1 dX12_oneMore_103 rfl ?_
          obtain ⟨u13, e14, hF⟩ := q_bind hF
          obtain ⟨x15, e16, hF⟩ := q_bind hF
          refine g_callVr0 (ci := 12) (q := (RX12, TX12, 49)) qm_X12_who wd_1836 wd_1838 wd_116 rfl e14 (M_X12_who l b D z nx e16) (As := [.int x5]) rfl rfl (Nat.le_of_ble_eq_true rfl) ⟨(Nat.le_of_ble_eq_true rfl), (Nat.le_of_ble_eq_true rfl)⟩ ⟨rfl, rfl⟩ ⟨(Nat.le_of_ble_eq_true rfl), (Nat.le_of_ble_eq_true rfl)⟩ dX12_oneMore_105 ?_
          refine g_iadd dX12_oneMore_108 ?_
          obtain ⟨u17, e18, hF⟩ := q_bind hF
          obtain ⟨x19, e20, hF⟩ := q_bind hF
          refine g_callVr0 (ci := 12) (q := (RX12, TX12, 49)) qm_X12_of wd_1754 wd_1756 wd_100 rfl e18 (M_X12_of l b D z nx e20) (As := [.int ((100 : Int32) + x15)]) rfl rfl (Nat.le_of_ble_eq_true rfl) ⟨(Nat.le_of_ble_eq_true rfl), (Nat.le_of_ble_eq_true rfl)⟩ ⟨rfl, rfl⟩ ⟨(Nat.le_of_ble_eq_true rfl), (Nat.le_of_ble_eq_true rfl)⟩ dX12_oneMore_109 ?_
          refine g_sub [2, 3, 4, 5, 1, 0] rfl ?_
          exact J_X12_oneMore_112 l b D z hF hback hx0
        · replace hF := q_f c12 hF
          refine g_sub [2, 3, 4, 5, 1, 0] rfl ?_
          exact J_X12_oneMore_95 l b D z hF hback hx0
set_option maxRecDepth 100000 in
set_option maxHeartbeats 4000000 in
theorem L_X12_oneMore_59 (l : Launch) (b : Nat) (D : va_G) (z : Nat → Nat) {Φ : Option Value → qH → Nat → Prop} {nx : Nat} {a0 : Nat} {a1 : Int32} {a2 : Int32} : ∀ (n : Nat) (a3 : Int32) (h : qH) (e : qH), q_lp (s_X12_oneMore_59 a0 a1 a2) n (a3, h) = some e → (∀  (bh : qH), e = bh → Go l b D z yX12_oneMore cX12_oneMore 7 none rm_X12_oneMore Φ 175 [(0, .ref a0)] [] bh nx 0 0) → Go l b D z yX12_oneMore cX12_oneMore 7 none rm_X12_oneMore Φ 59 [(0, .ref a0), (1, .int a1), (2, .int a2), (3, .int a3)] [] h nx 0 0 := by
  intro n
  induction n with
  | zero => intro a3 h e he; cases (show none = some e from he)
  | succ n ih =>
    intro a3 h e he hx0
    obtain ⟨o, ho, h1, h2⟩ := q_lp_succ he
    exact B_X12_oneMore_59 l b D z (show b_X12_oneMore_59 a0 a1 a2 a3 h = some o from ho) (fun b3 bh hb => ih _ _ e (h1 _ hb) hx0) (fun p0 hr => hx0 p0 (h2 _ hr).symm)
set_option maxRecDepth 100000 in
set_option maxHeartbeats 4000000 in
theorem B_X12_oneMore_177 (l : Launch) (b : Nat) (D : va_G) (z : Nat → Nat) {Φ : Option Value → qH → Nat → Prop} {nx : Nat} {a0 : Nat} {a3 : Int32} {h : qH} {o : (Int32 × qH) ⊕ qH} (hF : b_X12_oneMore_177 a0 a3 h = some o) (hback : ∀ (b3 : Int32) (bh : qH), o = .inl (b3, bh) → Go l b D z yX12_oneMore cX12_oneMore 7 none rm_X12_oneMore Φ 177 [(0, .ref a0), (3, .int b3)] [] bh nx 0 0) (hx0 : ∀  (bh : qH), o = .inr bh → Go l b D z yX12_oneMore cX12_oneMore 7 none rm_X12_oneMore Φ 201 [] [] bh nx 0 0) : Go l b D z yX12_oneMore cX12_oneMore 7 none rm_X12_oneMore Φ 177 [(0, .ref a0), (3, .int a3)] [] h nx 0 0 := by
  unfold b_X12_oneMore_177 at hF
  refine g_iload_n 1 dX12_oneMore_177 rfl ?_
  refine g_bipush dX12_oneMore_178 lt_bipush_20 ?_
  refine g_icmp_ge 201 dX12_oneMore_180 (by decide) (fun c1 => ?_) (fun c1 => ?_)
  · replace hF := q_t c1 hF
    cases hF
    refine g_sub [] rfl ?_
    exact hx0 _ rfl
  · replace hF := q_f c1 hF
    refine g_aload_n 0 dX12_oneMore_183 rfl ?_
    obtain ⟨x2, e3, hF⟩ := q_bind hF
    refine g_getfR fl_X12_59 e3 dX12_oneMore_184 ?_
    refine g_iload_n 1 dX12_oneMore_187 rfl ?_
    refine g_aload_n 0 dX12_oneMore_188 rfl ?_
    obtain ⟨x4, e5, hF⟩ := q_bind hF
    refine g_getfR fl_X12_63 e5 dX12_oneMore_189 ?_
    refine g_iload_n 1 dX12_oneMore_192 rfl ?_
    obtain ⟨x6, e7, hF⟩ := q_bind hF
    refine g_lald e7 dX12_oneMore_193 ?_
    obtain ⟨h8, e9, hF⟩ := q_bind hF
    refine g_last e9 dX12_oneMore_194 ?_
    refine g_iinc [(3, .int (a3 + 1)), (0, .ref a0)] 1 dX12_oneMore_195 rfl (congrArg (a3 + ·) lt_iconst_1) (Nat.le_of_ble_eq_true rfl) rfl ?_
    refine g_goto 177 dX12_oneMore_198 (by decide) ?_
    cases hF
    refine g_sub [1, 0] rfl ?_
    exact hback _ _ rfl
set_option maxRecDepth 100000 in
set_option maxHeartbeats 4000000 in
theorem L_X12_oneMore_177 (l : Launch) (b : Nat) (D : va_G) (z : Nat → Nat) {Φ : Option Value → qH → Nat → Prop} {nx : Nat} {a0 : Nat} : ∀ (n : Nat) (a3 : Int32) (h : qH) (e : qH), q_lp (s_X12_oneMore_177 a0) n (a3, h) = some e → (∀  (bh : qH), e = bh → Go l b D z yX12_oneMore cX12_oneMore 7 none rm_X12_oneMore Φ 201 [] [] bh nx 0 0) → Go l b D z yX12_oneMore cX12_oneMore 7 none rm_X12_oneMore Φ 177 [(0, .ref a0), (3, .int a3)] [] h nx 0 0 := by
  intro n
  induction n with
  | zero => intro a3 h e he; cases (show none = some e from he)
  | succ n ih =>
    intro a3 h e he hx0
    obtain ⟨o, ho, h1, h2⟩ := q_lp_succ he
    exact B_X12_oneMore_177 l b D z (show b_X12_oneMore_177 a0 a3 h = some o from ho) (fun b3 bh hb => ih _ _ e (h1 _ hb) hx0) (fun p0 hr => hx0 p0 (h2 _ hr).symm)
set_option maxRecDepth 100000 in
set_option maxHeartbeats 4000000 in
theorem J_X12_oneMore_175 (l : Launch) (b : Nat) (D : va_G) (z : Nat → Nat) {nx : Nat} {h : qH} {a0 : Nat} {r : qH} (hF : j_X12_oneMore_175 h a0  = some r) : Go l b D z yX12_oneMore cX12_oneMore 7 none rm_X12_oneMore (qE none r nx) 175 [(0, .ref a0)] [] h nx 0 0 := by
  unfold j_X12_oneMore_175 at hF
  refine g_iconst dX12_oneMore_175 lt_iconst_0 ?_
  refine g_istore_n [(3, .int (0 : Int32)), (0, .ref a0)] dX12_oneMore_176 (Nat.le_of_ble_eq_true rfl) rfl ?_
  obtain ⟨e1, w2, hF⟩ := q_bind hF
  refine g_sub [1, 0] rfl ?_
  refine L_X12_oneMore_177 l b D z q_N (0 : Int32) h e1 w2 ?_
  · intro h3 w4
    replace w4 := w4.symm
    subst w4
    cases hF
    exact g_vret dX12_oneMore_201 rfl ⟨rfl, rfl, rfl⟩ (Nat.le_of_ble_eq_true rfl) (Nat.le_of_ble_eq_true rfl)
set_option maxRecDepth 100000 in
set_option maxHeartbeats 4000000 in
theorem J_X12_oneMore_57 (l : Launch) (b : Nat) (D : va_G) (z : Nat → Nat) {nx : Nat} {h : qH} {a0 : Nat} {a1 : Int32} {a2 : Int32} {r : qH} (hF : j_X12_oneMore_57 h a0 a1 a2  = some r) : Go l b D z yX12_oneMore cX12_oneMore 7 none rm_X12_oneMore (qE none r nx) 57 [(0, .ref a0), (1, .int a1), (2, .int a2)] [] h nx 0 0 := by
  unfold j_X12_oneMore_57 at hF
  refine g_iconst dX12_oneMore_57 lt_iconst_0 ?_
  refine g_istore_n [(3, .int (0 : Int32)), (0, .ref a0), (1, .int a1), (2, .int a2)] dX12_oneMore_58 (Nat.le_of_ble_eq_true rfl) rfl ?_
  obtain ⟨e1, w2, hF⟩ := q_bind hF
  refine g_sub [1, 2, 3, 0] rfl ?_
  refine L_X12_oneMore_59 l b D z q_N (0 : Int32) h e1 w2 ?_
  · intro h3 w4
    replace w4 := w4.symm
    subst w4
    exact J_X12_oneMore_175 l b D z hF
set_option maxRecDepth 100000 in
set_option maxHeartbeats 4000000 in
theorem J_X12_oneMore_56 (l : Launch) (b : Nat) (D : va_G) (z : Nat → Nat) {nx : Nat} {h : qH} {a0 : Nat} {a1 : Int32} {a2 : Int32} {t0 : Int64} {t1 : Int32} {t2 : Nat} {r : qH} (hF : j_X12_oneMore_56 h a0 a1 a2 t0 t1 t2 = some r) : Go l b D z yX12_oneMore cX12_oneMore 7 none rm_X12_oneMore (qE none r nx) 56 [(0, .ref a0), (1, .int a1), (2, .int a2)] [.long t0, .int t1, .ref t2] h nx 0 0 := by
  unfold j_X12_oneMore_56 at hF
  obtain ⟨h1, e2, hF⟩ := q_bind hF
  refine g_last e2 dX12_oneMore_56 ?_
  exact J_X12_oneMore_57 l b D z hF
set_option maxRecDepth 100000 in
set_option maxHeartbeats 4000000 in
theorem M_X12_oneMore (l : Launch) (b : Nat) (D : va_G) (z : Nat → Nat) (nx : Nat) {h : qH} {a0 : Nat} {a1 : Int32} {a2 : Int32} {r : qH} (hF : F_X12_oneMore h a0 a1 a2 = some r) : Me l b D z yX12_oneMore cX12_oneMore 7 none rm_X12_oneMore [.ref a0, .int a1, .int a2] h nx (qE none r nx) := by
  refine Me.of (by decide +kernel) (Nat.le_of_ble_eq_true rfl) ?_
  show Go l b D z yX12_oneMore cX12_oneMore 7 none rm_X12_oneMore (qE none r nx) 0 [(0, .ref a0), (1, .int a1), (2, .int a2)] [] h nx 0 0
  unfold F_X12_oneMore at hF
  refine g_iconst dX12_oneMore_0 lt_iconst_0 ?_
  refine g_istore_n [(3, .int (0 : Int32)), (0, .ref a0), (1, .int a1), (2, .int a2)] dX12_oneMore_1 (Nat.le_of_ble_eq_true rfl) rfl ?_
  obtain ⟨e1, w2, hF⟩ := q_bind hF
  refine g_sub [1, 2, 3, 0] rfl ?_
  refine L_X12_oneMore_2 l b D z q_N (0 : Int32) h e1 w2 ?_
  · intro h3 w4
    replace w4 := w4.symm
    subst w4
    refine g_iload_n 1 dX12_oneMore_21 rfl ?_
    refine g_if_ne 57 dX12_oneMore_22 (by decide) (fun c5 => ?_) (fun c5 => ?_)
    · replace hF := q_f c5 hF
      exact J_X12_oneMore_57 l b D z hF
    · replace hF := q_t c5 hF
      refine g_aload_n 0 dX12_oneMore_25 rfl ?_
      obtain ⟨x6, e7, hF⟩ := q_bind hF
      refine g_getfR fl_X12_63 e7 dX12_oneMore_26 ?_
      refine g_iconst dX12_oneMore_29 lt_iconst_0 ?_
      refine g_iload_n 2 dX12_oneMore_30 rfl ?_
      refine g_if_eq 40 dX12_oneMore_31 (by decide) (fun c8 => ?_) (fun c8 => ?_)
      · replace hF := q_t c8 hF
        refine g_bipush dX12_oneMore_40 lt_bipush_10 ?_
        refine g_aload_n 0 dX12_oneMore_42 rfl ?_
        refine g_bipush dX12_oneMore_43 lt_bipush_100 ?_
        refine g_aload_n 0 dX12_oneMore_45 rfl ?_
        refine g_iconst dX12_oneMore_46 lt_iconst_0 ?_
        obtain ⟨u9, e10, hF⟩ := q_bind hF
        obtain ⟨x11, e12, hF⟩ := q_bind hF
        refine g_callVr0 (ci := 12) (q := (RX12, TX12, 49)) qm_X12_who wd_1836 wd_1838 wd_116 rfl e10 (M_X12_who l b D z nx e12) (As := [.int (0 : Int32)]) rfl rfl (Nat.le_of_ble_eq_true rfl) ⟨(Nat.le_of_ble_eq_true rfl), (Nat.le_of_ble_eq_true rfl)⟩ ⟨rfl, rfl⟩ ⟨(Nat.le_of_ble_eq_true rfl), (Nat.le_of_ble_eq_true rfl)⟩ dX12_oneMore_47 ?_
        refine g_iadd dX12_oneMore_50 ?_
        obtain ⟨u13, e14, hF⟩ := q_bind hF
        obtain ⟨x15, e16, hF⟩ := q_bind hF
        refine g_callVr0 (ci := 12) (q := (RX12, TX12, 49)) qm_X12_of wd_1754 wd_1756 wd_100 rfl e14 (M_X12_of l b D z nx e16) (As := [.int ((100 : Int32) + x11)]) rfl rfl (Nat.le_of_ble_eq_true rfl) ⟨(Nat.le_of_ble_eq_true rfl), (Nat.le_of_ble_eq_true rfl)⟩ ⟨rfl, rfl⟩ ⟨(Nat.le_of_ble_eq_true rfl), (Nat.le_of_ble_eq_true rfl)⟩ dX12_oneMore_51 ?_
        refine g_isub dX12_oneMore_54 ?_
        refine g_i2l dX12_oneMore_55 ?_
        exact J_X12_oneMore_56 l b D z hF
      · replace hF := q_f c8 hF
        refine g_ldc2 dX12_oneMore_34 wd_1927 ?_
        refine g_goto 56 dX12_oneMore_37 (by decide) ?_
        exact J_X12_oneMore_56 l b D z hF
def rm_X12_comes : Room := { frames := 3, cells := 0, slots := 0, locals := 68 }
set_option maxRecDepth 100000 in
set_option maxHeartbeats 4000000 in
theorem B_X12_comes_64 (l : Launch) (b : Nat) (D : va_G) (z : Nat → Nat) {Φ : Option Value → qH → Nat → Prop} {nx : Nat} {a0 : Nat} {a2 : Int32} {a3 : Int32} {a4 : Int32} {a5 : Int32} {a8 : Int32} {a6 : Int64} {a9 : Int32} {h : qH} {o : (Int64 × Int32 × qH) ⊕ ((Int64 × qH))} (hF : b_X12_comes_64 a0 a2 a3 a4 a5 a8 a6 a9 h = some o) (hback : ∀ (b6 : Int64) (b9 : Int32) (bh : qH), o = .inl (b6, b9, bh) → Go l b D z yX12_comes cX12_comes 10 (some .long) rm_X12_comes Φ 64 [(0, .ref a0), (2, .int a2), (3, .int a3), (4, .int a4), (5, .int a5), (6, .long b6), (8, .int a8), (9, .int b9)] [] bh nx 0 0) (hx0 : ∀ (b6 : Int64) (bh : qH), o = .inr (b6, bh) → Go l b D z yX12_comes cX12_comes 10 (some .long) rm_X12_comes Φ 119 [(0, .ref a0), (2, .int a2), (3, .int a3), (4, .int a4), (5, .int a5), (6, .long b6), (8, .int a8)] [] bh nx 0 0) : Go l b D z yX12_comes cX12_comes 10 (some .long) rm_X12_comes Φ 64 [(0, .ref a0), (2, .int a2), (3, .int a3), (4, .int a4), (5, .int a5), (6, .long a6), (8, .int a8), (9, .int a9)] [] h nx 0 0 := by
  unfold b_X12_comes_64 at hF
  refine g_iload 7 dX12_comes_64 rfl ?_
  refine g_aload_n 0 dX12_comes_66 rfl ?_
  obtain ⟨x1, e2, hF⟩ := q_bind hF
  refine g_getfI fl_X12_276 e2 dX12_comes_67 ?_
  refine g_icmp_ge 119 dX12_comes_70 (by decide) (fun c3 => ?_) (fun c3 => ?_)
  · replace hF := q_t c3 hF
    cases hF
    refine g_sub [0, 1, 2, 3, 4, 5, 6] rfl ?_
    exact hx0 _ _ rfl
  · replace hF := q_f c3 hF
    refine g_aload_n 0 dX12_comes_73 rfl ?_
    refine g_iload 7 dX12_comes_74 rfl ?_
    refine g_iload_n 1 dX12_comes_76 rfl ?_
    obtain ⟨u4, e5, hF⟩ := q_bind hF
    obtain ⟨x6, e7, hF⟩ := q_bind hF
    refine g_callVr0 (ci := 12) (q := (RX12, TX12, 49)) qm_X12_isOf wd_1894 wd_1896 wd_126 rfl e5 (M_X12_isOf l b D z nx e7) (As := [.int a9, .int a2]) rfl rfl (Nat.le_of_ble_eq_true rfl) ⟨(Nat.le_of_ble_eq_true rfl), (Nat.le_of_ble_eq_true rfl)⟩ ⟨rfl, rfl⟩ ⟨(Nat.le_of_ble_eq_true rfl), (Nat.le_of_ble_eq_true rfl)⟩ dX12_comes_77 ?_
    refine g_if_eq 113 dX12_comes_80 (by decide) (fun c8 => ?_) (fun c8 => ?_)
    · replace hF := q_t c8 hF
      refine g_iinc [(9, .int (a9 + 1)), (0, .ref a0), (2, .int a2), (3, .int a3), (4, .int a4), (5, .int a5), (6, .long a6), (8, .int a8)] 7 dX12_comes_113 rfl (congrArg (a9 + ·) lt_iconst_1) (Nat.le_of_ble_eq_true rfl) rfl ?_
      refine g_goto 64 dX12_comes_116 (by decide) ?_
      cases hF
      refine g_sub [1, 2, 3, 4, 5, 6, 7, 0] rfl ?_
      exact hback _ _ _ rfl
    · replace hF := q_f c8 hF
      refine g_lload 5 dX12_comes_83 rfl ?_
      refine g_aload_n 0 dX12_comes_85 rfl ?_
      obtain ⟨x9, e10, hF⟩ := q_bind hF
      refine g_getfR fl_X12_59 e10 dX12_comes_86 ?_
      refine g_iload 7 dX12_comes_89 rfl ?_
      obtain ⟨x11, e12, hF⟩ := q_bind hF
      refine g_lald e12 dX12_comes_91 ?_
      refine g_iload_n 2 dX12_comes_92 rfl ?_
      refine g_iconst dX12_comes_93 lt_iconst_1 ?_
      refine g_isub dX12_comes_94 ?_
      refine g_iload 6 dX12_comes_95 rfl ?_
      refine g_isub dX12_comes_97 ?_
      obtain ⟨x13, e14, hF⟩ := q_bind hF
      refine g_callSr0 qm_X12_tens wd_1928 wd_1929 (M_X12_tens l b D z nx e14) (As := [.int ((a3 - (1 : Int32)) - a8)]) rfl rfl (Nat.le_of_ble_eq_true rfl) ⟨(Nat.le_of_ble_eq_true rfl), (Nat.le_of_ble_eq_true rfl)⟩ ⟨rfl, rfl⟩ ⟨(Nat.le_of_ble_eq_true rfl), (Nat.le_of_ble_eq_true rfl)⟩ dX12_comes_98 ?_
      refine g_lmul dX12_comes_101 ?_
      refine g_ladd dX12_comes_102 ?_
      refine g_lstore [(6, .long (a6 + (x11 * x13))), (0, .ref a0), (2, .int a2), (3, .int a3), (4, .int a4), (5, .int a5), (8, .int a8), (9, .int a9)] dX12_comes_103 (Nat.le_of_ble_eq_true rfl) rfl ?_
      refine g_aload_n 1 dX12_comes_105 rfl ?_
      obtain ⟨x15, e16, hF⟩ := q_bind hF
      refine g_getfR fl_X12_59 e16 dX12_comes_106 ?_
      refine g_iload 7 dX12_comes_109 rfl ?_
      refine g_lconst (v := 0) dX12_comes_111 (by decide +kernel) ?_
      obtain ⟨h17, e18, hF⟩ := q_bind hF
      refine g_last e18 dX12_comes_112 ?_
      refine g_iinc [(9, .int (a9 + 1)), (6, .long (a6 + (x11 * x13))), (0, .ref a0), (2, .int a2), (3, .int a3), (4, .int a4), (5, .int a5), (8, .int a8)] 7 dX12_comes_113 rfl (congrArg (a9 + ·) lt_iconst_1) (Nat.le_of_ble_eq_true rfl) rfl ?_
      refine g_goto 64 dX12_comes_116 (by decide) ?_
      cases hF
      refine g_sub [2, 3, 4, 5, 6, 1, 7, 0] rfl ?_
      exact hback _ _ _ rfl
set_option maxRecDepth 100000 in
set_option maxHeartbeats 4000000 in
theorem L_X12_comes_64 (l : Launch) (b : Nat) (D : va_G) (z : Nat → Nat) {Φ : Option Value → qH → Nat → Prop} {nx : Nat} {a0 : Nat} {a2 : Int32} {a3 : Int32} {a4 : Int32} {a5 : Int32} {a8 : Int32} : ∀ (n : Nat) (a6 : Int64) (a9 : Int32) (h : qH) (e : (Int64 × qH)), q_lp (s_X12_comes_64 a0 a2 a3 a4 a5 a8) n (a6, a9, h) = some e → (∀ (b6 : Int64) (bh : qH), e = (b6, bh) → Go l b D z yX12_comes cX12_comes 10 (some .long) rm_X12_comes Φ 119 [(0, .ref a0), (2, .int a2), (3, .int a3), (4, .int a4), (5, .int a5), (6, .long b6), (8, .int a8)] [] bh nx 0 0) → Go l b D z yX12_comes cX12_comes 10 (some .long) rm_X12_comes Φ 64 [(0, .ref a0), (2, .int a2), (3, .int a3), (4, .int a4), (5, .int a5), (6, .long a6), (8, .int a8), (9, .int a9)] [] h nx 0 0 := by
  intro n
  induction n with
  | zero => intro a6 a9 h e he; cases (show none = some e from he)
  | succ n ih =>
    intro a6 a9 h e he hx0
    obtain ⟨o, ho, h1, h2⟩ := q_lp_succ he
    exact B_X12_comes_64 l b D z (show b_X12_comes_64 a0 a2 a3 a4 a5 a8 a6 a9 h = some o from ho) (fun b6 b9 bh hb => ih _ _ _ e (h1 _ hb) hx0) (fun p0 p1 hr => hx0 p0 p1 (h2 _ hr).symm)
set_option maxRecDepth 100000 in
set_option maxHeartbeats 4000000 in
theorem B_X12_comes_40 (l : Launch) (b : Nat) (D : va_G) (z : Nat → Nat) {Φ : Option Value → qH → Nat → Prop} {nx : Nat} {a0 : Nat} {a2 : Int32} {a3 : Int32} {a4 : Int32} {a5 : Int32} {a6 : Int64} {a8 : Int32} {h : qH} {o : (Int64 × Int32 × qH) ⊕ ((Int64 × qH))} (hF : b_X12_comes_40 a0 a2 a3 a4 a5 a6 a8 h = some o) (hback : ∀ (b6 : Int64) (b8 : Int32) (bh : qH), o = .inl (b6, b8, bh) → Go l b D z yX12_comes cX12_comes 10 (some .long) rm_X12_comes Φ 40 [(0, .ref a0), (2, .int a2), (3, .int a3), (4, .int a4), (5, .int a5), (6, .long b6), (8, .int b8)] [] bh nx 0 0) (hx0 : ∀ (b6 : Int64) (bh : qH), o = .inr (b6, bh) → Go l b D z yX12_comes cX12_comes 10 (some .long) rm_X12_comes Φ 125 [(3, .int a3), (5, .int a5), (6, .long b6)] [] bh nx 0 0) : Go l b D z yX12_comes cX12_comes 10 (some .long) rm_X12_comes Φ 40 [(0, .ref a0), (2, .int a2), (3, .int a3), (4, .int a4), (5, .int a5), (6, .long a6), (8, .int a8)] [] h nx 0 0 := by
  unfold b_X12_comes_40 at hF
  refine g_iload 6 dX12_comes_40 rfl ?_
  refine g_iload_n 2 dX12_comes_42 rfl ?_
  refine g_icmp_ge 125 dX12_comes_43 (by decide) (fun c1 => ?_) (fun c1 => ?_)
  · replace hF := q_t c1 hF
    cases hF
    refine g_sub [2, 4, 5] rfl ?_
    exact hx0 _ _ rfl
  · replace hF := q_f c1 hF
    refine g_aload_n 0 dX12_comes_46 rfl ?_
    obtain ⟨x2, e3, hF⟩ := q_bind hF
    refine g_getfI fl_X12_276 e3 dX12_comes_47 ?_
    refine g_if_le 125 dX12_comes_50 (by decide) (fun c4 => ?_) (fun c4 => ?_)
    · replace hF := q_t c4 hF
      cases hF
      refine g_sub [2, 4, 5] rfl ?_
      exact hx0 _ _ rfl
    · replace hF := q_f c4 hF
      refine g_aload_n 0 dX12_comes_53 rfl ?_
      refine g_iload 6 dX12_comes_54 rfl ?_
      refine g_iload 3 dX12_comes_56 rfl ?_
      obtain ⟨u5, e6, hF⟩ := q_bind hF
      obtain ⟨x7, e8, hF⟩ := q_bind hF
      refine g_callVv0 (ci := 12) (q := (RX12, TX12, 49)) qm_X12_oneMore wd_1923 wd_1925 wd_130 rfl e6 (M_X12_oneMore l b D z nx e8) (As := [.int a8, .int a4]) rfl rfl (Nat.le_of_ble_eq_true rfl) ⟨(Nat.le_of_ble_eq_true rfl), (Nat.le_of_ble_eq_true rfl)⟩ ⟨rfl, rfl⟩ ⟨(Nat.le_of_ble_eq_true rfl), (Nat.le_of_ble_eq_true rfl)⟩ dX12_comes_58 ?_
      refine g_iconst dX12_comes_61 lt_iconst_0 ?_
      refine g_istore [(9, .int (0 : Int32)), (0, .ref a0), (2, .int a2), (3, .int a3), (4, .int a4), (5, .int a5), (6, .long a6), (8, .int a8)] dX12_comes_62 (Nat.le_of_ble_eq_true rfl) rfl ?_
      obtain ⟨e9, w10, hF⟩ := q_bind hF
      refine g_sub [1, 2, 3, 4, 5, 6, 7, 0] rfl ?_
      refine L_X12_comes_64 l b D z q_N a6 (0 : Int32) x7 e9 w10 ?_
      · intro o11 h12 w13
        replace w13 := w13.symm
        subst w13
        dsimp only at hF
        refine g_iinc [(8, .int (a8 + 1)), (0, .ref a0), (2, .int a2), (3, .int a3), (4, .int a4), (5, .int a5), (6, .long o11)] 6 dX12_comes_119 rfl (congrArg (a8 + ·) lt_iconst_1) (Nat.le_of_ble_eq_true rfl) rfl ?_
        refine g_goto 40 dX12_comes_122 (by decide) ?_
        cases hF
        refine g_sub [1, 2, 3, 4, 5, 6, 0] rfl ?_
        exact hback _ _ _ rfl
set_option maxRecDepth 100000 in
set_option maxHeartbeats 4000000 in
theorem L_X12_comes_40 (l : Launch) (b : Nat) (D : va_G) (z : Nat → Nat) {Φ : Option Value → qH → Nat → Prop} {nx : Nat} {a0 : Nat} {a2 : Int32} {a3 : Int32} {a4 : Int32} {a5 : Int32} : ∀ (n : Nat) (a6 : Int64) (a8 : Int32) (h : qH) (e : (Int64 × qH)), q_lp (s_X12_comes_40 a0 a2 a3 a4 a5) n (a6, a8, h) = some e → (∀ (b6 : Int64) (bh : qH), e = (b6, bh) → Go l b D z yX12_comes cX12_comes 10 (some .long) rm_X12_comes Φ 125 [(3, .int a3), (5, .int a5), (6, .long b6)] [] bh nx 0 0) → Go l b D z yX12_comes cX12_comes 10 (some .long) rm_X12_comes Φ 40 [(0, .ref a0), (2, .int a2), (3, .int a3), (4, .int a4), (5, .int a5), (6, .long a6), (8, .int a8)] [] h nx 0 0 := by
  intro n
  induction n with
  | zero => intro a6 a8 h e he; cases (show none = some e from he)
  | succ n ih =>
    intro a6 a8 h e he hx0
    obtain ⟨o, ho, h1, h2⟩ := q_lp_succ he
    exact B_X12_comes_40 l b D z (show b_X12_comes_40 a0 a2 a3 a4 a5 a6 a8 h = some o from ho) (fun b6 b8 bh hb => ih _ _ _ e (h1 _ hb) hx0) (fun p0 p1 hr => hx0 p0 p1 (h2 _ hr).symm)
set_option maxRecDepth 100000 in
set_option maxHeartbeats 4000000 in
theorem M_X12_comes (l : Launch) (b : Nat) (D : va_G) (z : Nat → Nat) (nx : Nat) {h : qH} {a0 : Nat} {a1 : Int32} {a2 : Int32} {a3 : Int32} {a4 : Int32} {a5 : Int32} {r : Int64 × qH} (hF : F_X12_comes h a0 a1 a2 a3 a4 a5 = some r) : Me l b D z yX12_comes cX12_comes 10 (some .long) rm_X12_comes [.ref a0, .int a1, .int a2, .int a3, .int a4, .int a5] h nx (qE (some (.long r.1)) r.2 nx) := by
  refine Me.of (by decide +kernel) (Nat.le_of_ble_eq_true rfl) ?_
  show Go l b D z yX12_comes cX12_comes 10 (some .long) rm_X12_comes (qE (some (.long r.1)) r.2 nx) 0 [(0, .ref a0), (1, .int a1), (2, .int a2), (3, .int a3), (4, .int a4), (5, .int a5)] [] h nx 0 0
  unfold F_X12_comes at hF
  refine g_aload_n 0 dX12_comes_0 rfl ?_
  refine g_iconst dX12_comes_1 lt_iconst_0 ?_
  obtain ⟨h1, e2, hF⟩ := q_bind hF
  refine g_putf fl_X12_91 e2 rfl rfl dX12_comes_2 ?_
  refine g_iload_n 3 dX12_comes_5 rfl ?_
  refine g_iconst dX12_comes_6 lt_iconst_1 ?_
  refine g_bipush dX12_comes_7 lt_bipush_9 ?_
  obtain ⟨x3, e4, hF⟩ := q_bind hF
  refine g_callSr0 qm_X12_in wd_1623 wd_1624 (M_X12_in l b D z nx e4) (As := [.int a3, .int (1 : Int32), .int (9 : Int32)]) rfl rfl (Nat.le_of_ble_eq_true rfl) ⟨(Nat.le_of_ble_eq_true rfl), (Nat.le_of_ble_eq_true rfl)⟩ ⟨rfl, rfl⟩ ⟨(Nat.le_of_ble_eq_true rfl), (Nat.le_of_ble_eq_true rfl)⟩ dX12_comes_9 ?_
  refine g_if_eq 30 dX12_comes_12 (by decide) (fun c5 => ?_) (fun c5 => ?_)
  · replace hF := q_t c5 hF
    refine g_ldc2 dX12_comes_30 wd_1922 ?_
    cases hF
    exact g_lret dX12_comes_33 rfl ⟨rfl, rfl, rfl⟩ (Nat.le_of_ble_eq_true rfl) (Nat.le_of_ble_eq_true rfl)
  · replace hF := q_f c5 hF
    refine g_iload_n 2 dX12_comes_15 rfl ?_
    obtain ⟨x6, e7, hF⟩ := q_bind hF
    refine g_callSr0 qm_X12_isScene wd_1880 wd_1881 (M_X12_isScene l b D z nx e7) (As := [.int a2]) rfl rfl (Nat.le_of_ble_eq_true rfl) ⟨(Nat.le_of_ble_eq_true rfl), (Nat.le_of_ble_eq_true rfl)⟩ ⟨rfl, rfl⟩ ⟨(Nat.le_of_ble_eq_true rfl), (Nat.le_of_ble_eq_true rfl)⟩ dX12_comes_16 ?_
    refine g_if_eq 30 dX12_comes_19 (by decide) (fun c8 => ?_) (fun c8 => ?_)
    · replace hF := q_t c8 hF
      refine g_ldc2 dX12_comes_30 wd_1922 ?_
      cases hF
      exact g_lret dX12_comes_33 rfl ⟨rfl, rfl, rfl⟩ (Nat.le_of_ble_eq_true rfl) (Nat.le_of_ble_eq_true rfl)
    · replace hF := q_f c8 hF
      refine g_aload_n 0 dX12_comes_22 rfl ?_
      refine g_iload_n 1 dX12_comes_23 rfl ?_
      obtain ⟨u9, e10, hF⟩ := q_bind hF
      obtain ⟨x11, e12, hF⟩ := q_bind hF
      refine g_callVr0 (ci := 12) (q := (RX12, TX12, 49)) qm_X12_hand wd_1750 wd_1752 wd_99 rfl e10 (M_X12_hand l b D z nx e12) (As := [.int a1]) rfl rfl (Nat.le_of_ble_eq_true rfl) ⟨(Nat.le_of_ble_eq_true rfl), (Nat.le_of_ble_eq_true rfl)⟩ ⟨rfl, rfl⟩ ⟨(Nat.le_of_ble_eq_true rfl), (Nat.le_of_ble_eq_true rfl)⟩ dX12_comes_24 ?_
      refine g_if_ne 34 dX12_comes_27 (by decide) (fun c13 => ?_) (fun c13 => ?_)
      · replace hF := q_f c13 hF
        refine g_lconst (v := 0) dX12_comes_34 (by decide +kernel) ?_
        refine g_lstore [(6, .long (0 : Int64)), (0, .ref a0), (1, .int a1), (2, .int a2), (3, .int a3), (4, .int a4), (5, .int a5)] dX12_comes_35 (Nat.le_of_ble_eq_true rfl) rfl ?_
        refine g_iconst dX12_comes_37 lt_iconst_0 ?_
        refine g_istore [(8, .int (0 : Int32)), (6, .long (0 : Int64)), (0, .ref a0), (1, .int a1), (2, .int a2), (3, .int a3), (4, .int a4), (5, .int a5)] dX12_comes_38 (Nat.le_of_ble_eq_true rfl) rfl ?_
        obtain ⟨e14, w15, hF⟩ := q_bind hF
        refine g_sub [2, 4, 5, 6, 7, 1, 0] rfl ?_
        refine L_X12_comes_40 l b D z q_N (0 : Int64) (0 : Int32) x11.2 e14 w15 ?_
        · intro o16 h17 w18
          replace w18 := w18.symm
          subst w18
          dsimp only at hF
          refine g_lload 2 dX12_comes_125 rfl ?_
          refine g_iload_n 0 dX12_comes_127 rfl ?_
          obtain ⟨x19, e20, hF⟩ := q_bind hF
          refine g_callSr0 qm_X12_tens wd_1928 wd_1929 (M_X12_tens l b D z nx e20) (As := [.int a3]) rfl rfl (Nat.le_of_ble_eq_true rfl) ⟨(Nat.le_of_ble_eq_true rfl), (Nat.le_of_ble_eq_true rfl)⟩ ⟨rfl, rfl⟩ ⟨(Nat.le_of_ble_eq_true rfl), (Nat.le_of_ble_eq_true rfl)⟩ dX12_comes_128 ?_
          refine g_iload 1 dX12_comes_131 rfl ?_
          obtain ⟨x21, e22, hF⟩ := q_bind hF
          refine g_callSr0 qm_X12_part wd_1931 wd_1932 (M_X12_part l b D z nx e22) (As := [.long o16, .long x19, .int a5]) rfl rfl (Nat.le_of_ble_eq_true rfl) ⟨(Nat.le_of_ble_eq_true rfl), (Nat.le_of_ble_eq_true rfl)⟩ ⟨rfl, rfl⟩ ⟨(Nat.le_of_ble_eq_true rfl), (Nat.le_of_ble_eq_true rfl)⟩ dX12_comes_133 ?_
          cases hF
          exact g_lret dX12_comes_136 rfl ⟨rfl, rfl, rfl⟩ (Nat.le_of_ble_eq_true rfl) (Nat.le_of_ble_eq_true rfl)
      · replace hF := q_t c13 hF
        refine g_ldc2 dX12_comes_30 wd_1922 ?_
        cases hF
        exact g_lret dX12_comes_33 rfl ⟨rfl, rfl, rfl⟩ (Nat.le_of_ble_eq_true rfl) (Nat.le_of_ble_eq_true rfl)
def rm_X12_harm : Room := { frames := 3, cells := 0, slots := 0, locals := 68 }
set_option maxRecDepth 100000 in
set_option maxHeartbeats 4000000 in
theorem B_X12_harm_56 (l : Launch) (b : Nat) (D : va_G) (z : Nat → Nat) {Φ : Option Value → qH → Nat → Prop} {nx : Nat} {h : qH} {a0 : Nat} {a2 : Int32} {a3 : Int32} {a4 : Int32} {a7 : Int32} {a5 : Int64} {a8 : Int32} {o : (Int64 × Int32) ⊕ Int64} (hF : b_X12_harm_56 h a0 a2 a3 a4 a7 a5 a8 = some o) (hback : ∀ (b5 : Int64) (b8 : Int32), o = .inl (b5, b8) → Go l b D z yX12_harm cX12_harm 9 (some .long) rm_X12_harm Φ 56 [(0, .ref a0), (2, .int a2), (3, .int a3), (4, .int a4), (5, .long b5), (7, .int a7), (8, .int b8)] [] h nx 0 0) (hx0 : ∀ (b5 : Int64), o = .inr b5 → Go l b D z yX12_harm cX12_harm 9 (some .long) rm_X12_harm Φ 101 [(0, .ref a0), (2, .int a2), (3, .int a3), (4, .int a4), (5, .long b5), (7, .int a7)] [] h nx 0 0) : Go l b D z yX12_harm cX12_harm 9 (some .long) rm_X12_harm Φ 56 [(0, .ref a0), (2, .int a2), (3, .int a3), (4, .int a4), (5, .long a5), (7, .int a7), (8, .int a8)] [] h nx 0 0 := by
  unfold b_X12_harm_56 at hF
  refine g_iload 6 dX12_harm_56 rfl ?_
  refine g_aload_n 0 dX12_harm_58 rfl ?_
  obtain ⟨x1, e2, hF⟩ := q_bind hF
  refine g_getfI fl_X12_276 e2 dX12_harm_59 ?_
  refine g_icmp_ge 101 dX12_harm_62 (by decide) (fun c3 => ?_) (fun c3 => ?_)
  · replace hF := q_t c3 hF
    cases hF
    refine g_sub [0, 1, 2, 3, 4, 5] rfl ?_
    exact hx0 _ rfl
  · replace hF := q_f c3 hF
    refine g_lload 4 dX12_harm_65 rfl ?_
    refine g_aload_n 0 dX12_harm_67 rfl ?_
    obtain ⟨x4, e5, hF⟩ := q_bind hF
    refine g_getfR fl_X12_59 e5 dX12_harm_68 ?_
    refine g_iload 6 dX12_harm_71 rfl ?_
    obtain ⟨x6, e7, hF⟩ := q_bind hF
    refine g_lald e7 dX12_harm_73 ?_
    refine g_aload_n 0 dX12_harm_74 rfl ?_
    refine g_iload 6 dX12_harm_75 rfl ?_
    obtain ⟨u8, e9, hF⟩ := q_bind hF
    obtain ⟨x10, e11, hF⟩ := q_bind hF
    refine g_callVr0 (ci := 12) (q := (RX12, TX12, 49)) qm_X12_harmOf wd_1844 wd_1846 wd_118 rfl e9 (M_X12_harmOf l b D z nx e11) (As := [.int a8]) rfl rfl (Nat.le_of_ble_eq_true rfl) ⟨(Nat.le_of_ble_eq_true rfl), (Nat.le_of_ble_eq_true rfl)⟩ ⟨rfl, rfl⟩ ⟨(Nat.le_of_ble_eq_true rfl), (Nat.le_of_ble_eq_true rfl)⟩ dX12_harm_77 ?_
    refine g_i2l dX12_harm_80 ?_
    refine g_lmul dX12_harm_81 ?_
    refine g_iload_n 1 dX12_harm_82 rfl ?_
    refine g_iconst dX12_harm_83 lt_iconst_1 ?_
    refine g_isub dX12_harm_84 ?_
    refine g_iload 5 dX12_harm_85 rfl ?_
    refine g_isub dX12_harm_87 ?_
    obtain ⟨x12, e13, hF⟩ := q_bind hF
    refine g_callSr0 qm_X12_tens wd_1928 wd_1929 (M_X12_tens l b D z nx e13) (As := [.int ((a2 - (1 : Int32)) - a7)]) rfl rfl (Nat.le_of_ble_eq_true rfl) ⟨(Nat.le_of_ble_eq_true rfl), (Nat.le_of_ble_eq_true rfl)⟩ ⟨rfl, rfl⟩ ⟨(Nat.le_of_ble_eq_true rfl), (Nat.le_of_ble_eq_true rfl)⟩ dX12_harm_88 ?_
    refine g_lmul dX12_harm_91 ?_
    refine g_ladd dX12_harm_92 ?_
    refine g_lstore [(5, .long (a5 + ((x6 * x10.toInt64) * x12))), (0, .ref a0), (2, .int a2), (3, .int a3), (4, .int a4), (7, .int a7), (8, .int a8)] dX12_harm_93 (Nat.le_of_ble_eq_true rfl) rfl ?_
    refine g_iinc [(8, .int (a8 + 1)), (5, .long (a5 + ((x6 * x10.toInt64) * x12))), (0, .ref a0), (2, .int a2), (3, .int a3), (4, .int a4), (7, .int a7)] 6 dX12_harm_95 rfl (congrArg (a8 + ·) lt_iconst_1) (Nat.le_of_ble_eq_true rfl) rfl ?_
    refine g_goto 56 dX12_harm_98 (by decide) ?_
    cases hF
    refine g_sub [2, 3, 4, 5, 1, 6, 0] rfl ?_
    exact hback _ _ rfl
set_option maxRecDepth 100000 in
set_option maxHeartbeats 4000000 in
theorem L_X12_harm_56 (l : Launch) (b : Nat) (D : va_G) (z : Nat → Nat) {Φ : Option Value → qH → Nat → Prop} {nx : Nat} {h : qH} {a0 : Nat} {a2 : Int32} {a3 : Int32} {a4 : Int32} {a7 : Int32} : ∀ (n : Nat) (a5 : Int64) (a8 : Int32) (e : Int64), q_lp (s_X12_harm_56 h a0 a2 a3 a4 a7) n (a5, a8) = some e → (∀ (b5 : Int64), e = b5 → Go l b D z yX12_harm cX12_harm 9 (some .long) rm_X12_harm Φ 101 [(0, .ref a0), (2, .int a2), (3, .int a3), (4, .int a4), (5, .long b5), (7, .int a7)] [] h nx 0 0) → Go l b D z yX12_harm cX12_harm 9 (some .long) rm_X12_harm Φ 56 [(0, .ref a0), (2, .int a2), (3, .int a3), (4, .int a4), (5, .long a5), (7, .int a7), (8, .int a8)] [] h nx 0 0 := by
  intro n
  induction n with
  | zero => intro a5 a8 e he; cases (show none = some e from he)
  | succ n ih =>
    intro a5 a8 e he hx0
    obtain ⟨o, ho, h1, h2⟩ := q_lp_succ he
    exact B_X12_harm_56 l b D z (show b_X12_harm_56 h a0 a2 a3 a4 a7 a5 a8 = some o from ho) (fun b5 b8 hb => ih _ _ e (h1 _ hb) hx0) (fun p0 hr => hx0 p0 (h2 _ hr).symm)
set_option maxRecDepth 100000 in
set_option maxHeartbeats 4000000 in
theorem B_X12_harm_33 (l : Launch) (b : Nat) (D : va_G) (z : Nat → Nat) {Φ : Option Value → qH → Nat → Prop} {nx : Nat} {a0 : Nat} {a2 : Int32} {a3 : Int32} {a4 : Int32} {a5 : Int64} {a7 : Int32} {h : qH} {o : (Int64 × Int32 × qH) ⊕ ((Int64 × qH))} (hF : b_X12_harm_33 a0 a2 a3 a4 a5 a7 h = some o) (hback : ∀ (b5 : Int64) (b7 : Int32) (bh : qH), o = .inl (b5, b7, bh) → Go l b D z yX12_harm cX12_harm 9 (some .long) rm_X12_harm Φ 33 [(0, .ref a0), (2, .int a2), (3, .int a3), (4, .int a4), (5, .long b5), (7, .int b7)] [] bh nx 0 0) (hx0 : ∀ (b5 : Int64) (bh : qH), o = .inr (b5, bh) → Go l b D z yX12_harm cX12_harm 9 (some .long) rm_X12_harm Φ 107 [(2, .int a2), (4, .int a4), (5, .long b5)] [] bh nx 0 0) : Go l b D z yX12_harm cX12_harm 9 (some .long) rm_X12_harm Φ 33 [(0, .ref a0), (2, .int a2), (3, .int a3), (4, .int a4), (5, .long a5), (7, .int a7)] [] h nx 0 0 := by
  unfold b_X12_harm_33 at hF
  refine g_iload 5 dX12_harm_33 rfl ?_
  refine g_iload_n 1 dX12_harm_35 rfl ?_
  refine g_icmp_ge 107 dX12_harm_36 (by decide) (fun c1 => ?_) (fun c1 => ?_)
  · replace hF := q_t c1 hF
    cases hF
    refine g_sub [1, 3, 4] rfl ?_
    exact hx0 _ _ rfl
  · replace hF := q_f c1 hF
    refine g_aload_n 0 dX12_harm_39 rfl ?_
    obtain ⟨x2, e3, hF⟩ := q_bind hF
    refine g_getfI fl_X12_276 e3 dX12_harm_40 ?_
    refine g_if_le 107 dX12_harm_43 (by decide) (fun c4 => ?_) (fun c4 => ?_)
    · replace hF := q_t c4 hF
      cases hF
      refine g_sub [1, 3, 4] rfl ?_
      exact hx0 _ _ rfl
    · replace hF := q_f c4 hF
      refine g_aload_n 0 dX12_harm_46 rfl ?_
      refine g_iload 5 dX12_harm_47 rfl ?_
      refine g_iload_n 2 dX12_harm_49 rfl ?_
      obtain ⟨u5, e6, hF⟩ := q_bind hF
      obtain ⟨x7, e8, hF⟩ := q_bind hF
      refine g_callVv0 (ci := 12) (q := (RX12, TX12, 49)) qm_X12_oneMore wd_1923 wd_1925 wd_130 rfl e6 (M_X12_oneMore l b D z nx e8) (As := [.int a7, .int a3]) rfl rfl (Nat.le_of_ble_eq_true rfl) ⟨(Nat.le_of_ble_eq_true rfl), (Nat.le_of_ble_eq_true rfl)⟩ ⟨rfl, rfl⟩ ⟨(Nat.le_of_ble_eq_true rfl), (Nat.le_of_ble_eq_true rfl)⟩ dX12_harm_50 ?_
      refine g_iconst dX12_harm_53 lt_iconst_0 ?_
      refine g_istore [(8, .int (0 : Int32)), (0, .ref a0), (2, .int a2), (3, .int a3), (4, .int a4), (5, .long a5), (7, .int a7)] dX12_harm_54 (Nat.le_of_ble_eq_true rfl) rfl ?_
      obtain ⟨e9, w10, hF⟩ := q_bind hF
      refine g_sub [1, 2, 3, 4, 5, 6, 0] rfl ?_
      refine L_X12_harm_56 l b D z q_N a5 (0 : Int32) e9 w10 ?_
      · intro o11 w12
        replace w12 := w12.symm
        subst w12
        refine g_iinc [(7, .int (a7 + 1)), (0, .ref a0), (2, .int a2), (3, .int a3), (4, .int a4), (5, .long o11)] 5 dX12_harm_101 rfl (congrArg (a7 + ·) lt_iconst_1) (Nat.le_of_ble_eq_true rfl) rfl ?_
        refine g_goto 33 dX12_harm_104 (by decide) ?_
        cases hF
        refine g_sub [1, 2, 3, 4, 5, 0] rfl ?_
        exact hback _ _ _ rfl
set_option maxRecDepth 100000 in
set_option maxHeartbeats 4000000 in
theorem L_X12_harm_33 (l : Launch) (b : Nat) (D : va_G) (z : Nat → Nat) {Φ : Option Value → qH → Nat → Prop} {nx : Nat} {a0 : Nat} {a2 : Int32} {a3 : Int32} {a4 : Int32} : ∀ (n : Nat) (a5 : Int64) (a7 : Int32) (h : qH) (e : (Int64 × qH)), q_lp (s_X12_harm_33 a0 a2 a3 a4) n (a5, a7, h) = some e → (∀ (b5 : Int64) (bh : qH), e = (b5, bh) → Go l b D z yX12_harm cX12_harm 9 (some .long) rm_X12_harm Φ 107 [(2, .int a2), (4, .int a4), (5, .long b5)] [] bh nx 0 0) → Go l b D z yX12_harm cX12_harm 9 (some .long) rm_X12_harm Φ 33 [(0, .ref a0), (2, .int a2), (3, .int a3), (4, .int a4), (5, .long a5), (7, .int a7)] [] h nx 0 0 := by
  intro n
  induction n with
  | zero => intro a5 a7 h e he; cases (show none = some e from he)
  | succ n ih =>
    intro a5 a7 h e he hx0
    obtain ⟨o, ho, h1, h2⟩ := q_lp_succ he
    exact B_X12_harm_33 l b D z (show b_X12_harm_33 a0 a2 a3 a4 a5 a7 h = some o from ho) (fun b5 b7 bh hb => ih _ _ _ e (h1 _ hb) hx0) (fun p0 p1 hr => hx0 p0 p1 (h2 _ hr).symm)
set_option maxRecDepth 100000 in
set_option maxHeartbeats 4000000 in
theorem M_X12_harm (l : Launch) (b : Nat) (D : va_G) (z : Nat → Nat) (nx : Nat) {h : qH} {a0 : Nat} {a1 : Int32} {a2 : Int32} {a3 : Int32} {a4 : Int32} {r : Int64 × qH} (hF : F_X12_harm h a0 a1 a2 a3 a4 = some r) : Me l b D z yX12_harm cX12_harm 9 (some .long) rm_X12_harm [.ref a0, .int a1, .int a2, .int a3, .int a4] h nx (qE (some (.long r.1)) r.2 nx) := by
  refine Me.of (by decide +kernel) (Nat.le_of_ble_eq_true rfl) ?_
  show Go l b D z yX12_harm cX12_harm 9 (some .long) rm_X12_harm (qE (some (.long r.1)) r.2 nx) 0 [(0, .ref a0), (1, .int a1), (2, .int a2), (3, .int a3), (4, .int a4)] [] h nx 0 0
  unfold F_X12_harm at hF
  refine g_aload_n 0 dX12_harm_0 rfl ?_
  refine g_iconst dX12_harm_1 lt_iconst_0 ?_
  obtain ⟨h1, e2, hF⟩ := q_bind hF
  refine g_putf fl_X12_91 e2 rfl rfl dX12_harm_2 ?_
  refine g_iload_n 2 dX12_harm_5 rfl ?_
  refine g_iconst dX12_harm_6 lt_iconst_1 ?_
  refine g_bipush dX12_harm_7 lt_bipush_9 ?_
  obtain ⟨x3, e4, hF⟩ := q_bind hF
  refine g_callSr0 qm_X12_in wd_1623 wd_1624 (M_X12_in l b D z nx e4) (As := [.int a2, .int (1 : Int32), .int (9 : Int32)]) rfl rfl (Nat.le_of_ble_eq_true rfl) ⟨(Nat.le_of_ble_eq_true rfl), (Nat.le_of_ble_eq_true rfl)⟩ ⟨rfl, rfl⟩ ⟨(Nat.le_of_ble_eq_true rfl), (Nat.le_of_ble_eq_true rfl)⟩ dX12_harm_9 ?_
  refine g_if_eq 23 dX12_harm_12 (by decide) (fun c5 => ?_) (fun c5 => ?_)
  · replace hF := q_t c5 hF
    refine g_ldc2 dX12_harm_23 wd_1922 ?_
    cases hF
    exact g_lret dX12_harm_26 rfl ⟨rfl, rfl, rfl⟩ (Nat.le_of_ble_eq_true rfl) (Nat.le_of_ble_eq_true rfl)
  · replace hF := q_f c5 hF
    refine g_aload_n 0 dX12_harm_15 rfl ?_
    refine g_iload_n 1 dX12_harm_16 rfl ?_
    obtain ⟨u6, e7, hF⟩ := q_bind hF
    obtain ⟨x8, e9, hF⟩ := q_bind hF
    refine g_callVr0 (ci := 12) (q := (RX12, TX12, 49)) qm_X12_hand wd_1750 wd_1752 wd_99 rfl e7 (M_X12_hand l b D z nx e9) (As := [.int a1]) rfl rfl (Nat.le_of_ble_eq_true rfl) ⟨(Nat.le_of_ble_eq_true rfl), (Nat.le_of_ble_eq_true rfl)⟩ ⟨rfl, rfl⟩ ⟨(Nat.le_of_ble_eq_true rfl), (Nat.le_of_ble_eq_true rfl)⟩ dX12_harm_17 ?_
    refine g_if_ne 27 dX12_harm_20 (by decide) (fun c10 => ?_) (fun c10 => ?_)
    · replace hF := q_f c10 hF
      refine g_lconst (v := 0) dX12_harm_27 (by decide +kernel) ?_
      refine g_lstore [(5, .long (0 : Int64)), (0, .ref a0), (1, .int a1), (2, .int a2), (3, .int a3), (4, .int a4)] dX12_harm_28 (Nat.le_of_ble_eq_true rfl) rfl ?_
      refine g_iconst dX12_harm_30 lt_iconst_0 ?_
      refine g_istore [(7, .int (0 : Int32)), (5, .long (0 : Int64)), (0, .ref a0), (1, .int a1), (2, .int a2), (3, .int a3), (4, .int a4)] dX12_harm_31 (Nat.le_of_ble_eq_true rfl) rfl ?_
      obtain ⟨e11, w12, hF⟩ := q_bind hF
      refine g_sub [2, 4, 5, 6, 1, 0] rfl ?_
      refine L_X12_harm_33 l b D z q_N (0 : Int64) (0 : Int32) x8.2 e11 w12 ?_
      · intro o13 h14 w15
        replace w15 := w15.symm
        subst w15
        dsimp only at hF
        refine g_lload 2 dX12_harm_107 rfl ?_
        refine g_iload_n 0 dX12_harm_109 rfl ?_
        obtain ⟨x16, e17, hF⟩ := q_bind hF
        refine g_callSr0 qm_X12_tens wd_1928 wd_1929 (M_X12_tens l b D z nx e17) (As := [.int a2]) rfl rfl (Nat.le_of_ble_eq_true rfl) ⟨(Nat.le_of_ble_eq_true rfl), (Nat.le_of_ble_eq_true rfl)⟩ ⟨rfl, rfl⟩ ⟨(Nat.le_of_ble_eq_true rfl), (Nat.le_of_ble_eq_true rfl)⟩ dX12_harm_110 ?_
        refine g_iload 1 dX12_harm_113 rfl ?_
        obtain ⟨x18, e19, hF⟩ := q_bind hF
        refine g_callSr0 qm_X12_part wd_1931 wd_1932 (M_X12_part l b D z nx e19) (As := [.long o13, .long x16, .int a4]) rfl rfl (Nat.le_of_ble_eq_true rfl) ⟨(Nat.le_of_ble_eq_true rfl), (Nat.le_of_ble_eq_true rfl)⟩ ⟨rfl, rfl⟩ ⟨(Nat.le_of_ble_eq_true rfl), (Nat.le_of_ble_eq_true rfl)⟩ dX12_harm_115 ?_
        cases hF
        exact g_lret dX12_harm_118 rfl ⟨rfl, rfl, rfl⟩ (Nat.le_of_ble_eq_true rfl) (Nat.le_of_ble_eq_true rfl)
    · replace hF := q_t c10 hF
      refine g_ldc2 dX12_harm_23 wd_1922 ?_
      cases hF
      exact g_lret dX12_harm_26 rfl ⟨rfl, rfl, rfl⟩ (Nat.le_of_ble_eq_true rfl) (Nat.le_of_ble_eq_true rfl)
def rm_X12_next : Room := { frames := 1, cells := 0, slots := 0, locals := 22 }
set_option maxRecDepth 100000 in
set_option maxHeartbeats 4000000 in
theorem M_X12_next (l : Launch) (b : Nat) (D : va_G) (z : Nat → Nat) (nx : Nat) {h : qH} {a0 : Nat} {a1 : Int32} {a2 : Int32} {r : Int32} (hF : F_X12_next h a0 a1 a2 = some r) : Me l b D z yX12_next cX12_next 4 (some .int) rm_X12_next [.ref a0, .int a1, .int a2] h nx (qE (some (.int r)) h nx) := by
  refine Me.of (by decide +kernel) (Nat.le_of_ble_eq_true rfl) ?_
  show Go l b D z yX12_next cX12_next 4 (some .int) rm_X12_next (qE (some (.int r)) h nx) 0 [(0, .ref a0), (1, .int a1), (2, .int a2)] [] h nx 0 0
  unfold F_X12_next at hF
  refine g_aload_n 0 dX12_next_0 rfl ?_
  refine g_iload_n 1 dX12_next_1 rfl ?_
  refine g_iconst dX12_next_2 lt_iconst_0 ?_
  obtain ⟨u1, e2, hF⟩ := q_bind hF
  obtain ⟨x3, e4, hF⟩ := q_bind hF
  refine g_callVr0 (ci := 12) (q := (RX12, TX12, 49)) qm_X12_behind wd_1773 wd_1775 wd_104 rfl e2 (M_X12_behind l b D z nx e4) (As := [.int a1, .int (0 : Int32)]) rfl rfl (Nat.le_of_ble_eq_true rfl) ⟨(Nat.le_of_ble_eq_true rfl), (Nat.le_of_ble_eq_true rfl)⟩ ⟨rfl, rfl⟩ ⟨(Nat.le_of_ble_eq_true rfl), (Nat.le_of_ble_eq_true rfl)⟩ dX12_next_3 ?_
  refine g_istore_n [(3, .int x3), (0, .ref a0), (1, .int a1), (2, .int a2)] dX12_next_6 (Nat.le_of_ble_eq_true rfl) rfl ?_
  refine g_iload_n 0 dX12_next_7 rfl ?_
  refine g_iload_n 3 dX12_next_8 rfl ?_
  refine g_icmp_ne 17 dX12_next_9 (by decide) (fun c5 => ?_) (fun c5 => ?_)
  · replace hF := q_f c5 hF
    refine g_iload_n 0 dX12_next_17 rfl ?_
    refine g_goto 27 dX12_next_18 (by decide) ?_
    cases hF
    exact g_iret dX12_next_27 rfl ⟨rfl, rfl, rfl⟩ (Nat.le_of_ble_eq_true rfl) (Nat.le_of_ble_eq_true rfl)
  · replace hF := q_t c5 hF
    refine g_iload_n 0 dX12_next_12 rfl ?_
    refine g_iconst dX12_next_13 lt_iconst_m1 ?_
    refine g_icmp_ne 21 dX12_next_14 (by decide) (fun c6 => ?_) (fun c6 => ?_)
    · replace hF := q_f c6 hF
      refine g_aload_n 1 dX12_next_21 rfl ?_
      refine g_iload_n 2 dX12_next_22 rfl ?_
      refine g_iconst dX12_next_23 lt_iconst_1 ?_
      obtain ⟨u7, e8, hF⟩ := q_bind hF
      obtain ⟨x9, e10, hF⟩ := q_bind hF
      refine g_callVr0 (ci := 12) (q := (RX12, TX12, 49)) qm_X12_behind wd_1773 wd_1775 wd_104 rfl e8 (M_X12_behind l b D z nx e10) (As := [.int a1, .int (1 : Int32)]) rfl rfl (Nat.le_of_ble_eq_true rfl) ⟨(Nat.le_of_ble_eq_true rfl), (Nat.le_of_ble_eq_true rfl)⟩ ⟨rfl, rfl⟩ ⟨(Nat.le_of_ble_eq_true rfl), (Nat.le_of_ble_eq_true rfl)⟩ dX12_next_24 ?_
      cases hF
      exact g_iret dX12_next_27 rfl ⟨rfl, rfl, rfl⟩ (Nat.le_of_ble_eq_true rfl) (Nat.le_of_ble_eq_true rfl)
    · replace hF := q_t c6 hF
      refine g_iload_n 0 dX12_next_17 rfl ?_
      refine g_goto 27 dX12_next_18 (by decide) ?_
      cases hF
      exact g_iret dX12_next_27 rfl ⟨rfl, rfl, rfl⟩ (Nat.le_of_ble_eq_true rfl) (Nat.le_of_ble_eq_true rfl)
