def rm_X12_ofLine : Room := { frames := 1, cells := 0, slots := 0, locals := 22 }
set_option maxRecDepth 100000 in
set_option maxHeartbeats 4000000 in
theorem M_X12_ofLine (l : Launch) (b : Nat) (D : va_G) (z : Nat → Nat) (nx : Nat) {h : qH} {a0 : Nat} {a1 : Int32} {a2 : Int32} {r : Int32} (hF : F_X12_ofLine h a0 a1 a2 = some r) : Me l b D z yX12_ofLine cX12_ofLine 3 (some .int) rm_X12_ofLine [.ref a0, .int a1, .int a2] h nx (qE (some (.int r)) h nx) := by
  refine Me.of (by decide +kernel) (Nat.le_of_ble_eq_true rfl) ?_
  show Go l b D z yX12_ofLine cX12_ofLine 3 (some .int) rm_X12_ofLine (qE (some (.int r)) h nx) 0 [(0, .ref a0), (1, .int a1), (2, .int a2)] [] h nx 0 0
  unfold F_X12_ofLine at hF
  refine g_iload_n 1 dX12_ofLine_0 rfl ?_
  refine g_iconst dX12_ofLine_1 lt_iconst_5 ?_
  refine g_icmp_ge 22 dX12_ofLine_2 (by decide) (fun c1 => ?_) (fun c1 => ?_)
  · replace hF := q_t c1 hF
    refine g_iload_n 1 dX12_ofLine_22 rfl ?_
    refine g_iconst dX12_ofLine_23 lt_iconst_5 ?_
    refine g_icmp_ne 36 dX12_ofLine_24 (by decide) (fun c2 => ?_) (fun c2 => ?_)
    · replace hF := q_f c2 hF
      refine g_aload_n 0 dX12_ofLine_36 rfl ?_
      obtain ⟨x3, e4, hF⟩ := q_bind hF
      refine g_getfR fl_X12_47 e4 dX12_ofLine_37 ?_
      refine g_iload_n 2 dX12_ofLine_40 rfl ?_
      obtain ⟨x5, e6, hF⟩ := q_bind hF
      refine g_iald e6 dX12_ofLine_41 ?_
      cases hF
      exact g_iret dX12_ofLine_42 rfl ⟨rfl, rfl, rfl⟩ (Nat.le_of_ble_eq_true rfl) (Nat.le_of_ble_eq_true rfl)
    · replace hF := q_t c2 hF
      refine g_aload_n 0 dX12_ofLine_27 rfl ?_
      refine g_iload_n 2 dX12_ofLine_28 rfl ?_
      refine g_iconst dX12_ofLine_29 lt_iconst_0 ?_
      obtain ⟨u7, e8, hF⟩ := q_bind hF
      obtain ⟨x9, e10, hF⟩ := q_bind hF
      refine g_callVr0 (ci := 12) (q := (RX12, TX12, 49)) qm_X12_behind wd_1773 wd_1775 wd_104 rfl e8 (M_X12_behind l b D z nx e10) (As := [.int a2, .int (0 : Int32)]) rfl rfl (Nat.le_of_ble_eq_true rfl) ⟨(Nat.le_of_ble_eq_true rfl), (Nat.le_of_ble_eq_true rfl)⟩ ⟨rfl, rfl⟩ ⟨(Nat.le_of_ble_eq_true rfl), (Nat.le_of_ble_eq_true rfl)⟩ dX12_ofLine_30 ?_
      refine g_goto 42 dX12_ofLine_33 (by decide) ?_
      cases hF
      exact g_iret dX12_ofLine_42 rfl ⟨rfl, rfl, rfl⟩ (Nat.le_of_ble_eq_true rfl) (Nat.le_of_ble_eq_true rfl)
  · replace hF := q_f c1 hF
    refine g_aload_n 0 dX12_ofLine_5 rfl ?_
    refine g_iconst dX12_ofLine_6 lt_iconst_4 ?_
    refine g_bipush dX12_ofLine_7 lt_bipush_20 ?_
    refine g_iload_n 1 dX12_ofLine_9 rfl ?_
    refine g_iconst dX12_ofLine_10 lt_iconst_1 ?_
    refine g_isub dX12_ofLine_11 ?_
    refine g_imul dX12_ofLine_12 ?_
    refine g_iadd dX12_ofLine_13 ?_
    refine g_iload_n 2 dX12_ofLine_14 rfl ?_
    refine g_iadd dX12_ofLine_15 ?_
    obtain ⟨u11, e12, hF⟩ := q_bind hF
    obtain ⟨x13, e14, hF⟩ := q_bind hF
    refine g_callVr0 (ci := 12) (q := (RX12, TX12, 49)) qm_X12_of wd_1754 wd_1756 wd_100 rfl e12 (M_X12_of l b D z nx e14) (As := [.int (((4 : Int32) + ((20 : Int32) * (a1 - (1 : Int32)))) + a2)]) rfl rfl (Nat.le_of_ble_eq_true rfl) ⟨(Nat.le_of_ble_eq_true rfl), (Nat.le_of_ble_eq_true rfl)⟩ ⟨rfl, rfl⟩ ⟨(Nat.le_of_ble_eq_true rfl), (Nat.le_of_ble_eq_true rfl)⟩ dX12_ofLine_16 ?_
    refine g_goto 42 dX12_ofLine_19 (by decide) ?_
    cases hF
    exact g_iret dX12_ofLine_42 rfl ⟨rfl, rfl, rfl⟩ (Nat.le_of_ble_eq_true rfl) (Nat.le_of_ble_eq_true rfl)
def rm_X12_book : Room := { frames := 3, cells := 0, slots := 0, locals := 66 }
set_option maxRecDepth 100000 in
set_option maxHeartbeats 4000000 in
theorem M_X12_book (l : Launch) (b : Nat) (D : va_G) (z : Nat → Nat) (nx : Nat) {h : qH} {a0 : Nat} {a1 : Int32} {a2 : Int32} {r : Int32 × qH} (hF : F_X12_book h a0 a1 a2 = some r) : Me l b D z yX12_book cX12_book 3 (some .int) rm_X12_book [.ref a0, .int a1, .int a2] h nx (qE (some (.int r.1)) r.2 nx) := by
  refine Me.of (by decide +kernel) (Nat.le_of_ble_eq_true rfl) ?_
  show Go l b D z yX12_book cX12_book 3 (some .int) rm_X12_book (qE (some (.int r.1)) r.2 nx) 0 [(0, .ref a0), (1, .int a1), (2, .int a2)] [] h nx 0 0
  unfold F_X12_book at hF
  refine g_aload_n 0 dX12_book_0 rfl ?_
  refine g_iconst dX12_book_1 lt_iconst_0 ?_
  obtain ⟨h1, e2, hF⟩ := q_bind hF
  refine g_putf fl_X12_91 e2 rfl rfl dX12_book_2 ?_
  refine g_aload_n 0 dX12_book_5 rfl ?_
  refine g_iload_n 1 dX12_book_6 rfl ?_
  obtain ⟨u3, e4, hF⟩ := q_bind hF
  obtain ⟨x5, e6, hF⟩ := q_bind hF
  refine g_callVr0 (ci := 12) (q := (RX12, TX12, 49)) qm_X12_hand wd_1750 wd_1752 wd_99 rfl e4 (M_X12_hand l b D z nx e6) (As := [.int a1]) rfl rfl (Nat.le_of_ble_eq_true rfl) ⟨(Nat.le_of_ble_eq_true rfl), (Nat.le_of_ble_eq_true rfl)⟩ ⟨rfl, rfl⟩ ⟨(Nat.le_of_ble_eq_true rfl), (Nat.le_of_ble_eq_true rfl)⟩ dX12_book_7 ?_
  refine g_if_ne 16 dX12_book_10 (by decide) (fun c7 => ?_) (fun c7 => ?_)
  · replace hF := q_f c7 hF
    refine g_iload_n 2 dX12_book_16 rfl ?_
    refine g_bipush dX12_book_17 lt_bipush_10 ?_
    refine g_bipush dX12_book_19 lt_bipush_29 ?_
    obtain ⟨x8, e9, hF⟩ := q_bind hF
    refine g_callSr0 qm_X12_in wd_1623 wd_1624 (M_X12_in l b D z nx e9) (As := [.int a2, .int (10 : Int32), .int (29 : Int32)]) rfl rfl (Nat.le_of_ble_eq_true rfl) ⟨(Nat.le_of_ble_eq_true rfl), (Nat.le_of_ble_eq_true rfl)⟩ ⟨rfl, rfl⟩ ⟨(Nat.le_of_ble_eq_true rfl), (Nat.le_of_ble_eq_true rfl)⟩ dX12_book_21 ?_
    refine g_if_eq 65 dX12_book_24 (by decide) (fun c10 => ?_) (fun c10 => ?_)
    · replace hF := q_t c10 hF
      refine g_iload_n 2 dX12_book_65 rfl ?_
      refine g_bipush dX12_book_66 lt_bipush_100 ?_
      refine g_sipush dX12_book_68 lt_sipush_699 ?_
      obtain ⟨x11, e12, hF⟩ := q_bind hF
      refine g_callSr0 qm_X12_in wd_1623 wd_1624 (M_X12_in l b D z nx e12) (As := [.int a2, .int (100 : Int32), .int (699 : Int32)]) rfl rfl (Nat.le_of_ble_eq_true rfl) ⟨(Nat.le_of_ble_eq_true rfl), (Nat.le_of_ble_eq_true rfl)⟩ ⟨rfl, rfl⟩ ⟨(Nat.le_of_ble_eq_true rfl), (Nat.le_of_ble_eq_true rfl)⟩ dX12_book_71 ?_
      refine g_if_eq 106 dX12_book_74 (by decide) (fun c13 => ?_) (fun c13 => ?_)
      · replace hF := q_t c13 hF
        refine g_iload_n 2 dX12_book_106 rfl ?_
        refine g_if_ne 117 dX12_book_107 (by decide) (fun c14 => ?_) (fun c14 => ?_)
        · replace hF := q_f c14 hF
          refine g_iload_n 2 dX12_book_117 rfl ?_
          refine g_iconst dX12_book_118 lt_iconst_1 ?_
          refine g_icmp_ne 130 dX12_book_119 (by decide) (fun c15 => ?_) (fun c15 => ?_)
          · replace hF := q_f c15 hF
            refine g_iload_n 2 dX12_book_130 rfl ?_
            refine g_iconst dX12_book_131 lt_iconst_2 ?_
            refine g_icmp_ne 143 dX12_book_132 (by decide) (fun c16 => ?_) (fun c16 => ?_)
            · replace hF := q_f c16 hF
              refine g_bipush dX12_book_143 lt_bipush_m2 ?_
              cases hF
              exact g_iret dX12_book_145 rfl ⟨rfl, rfl, rfl⟩ (Nat.le_of_ble_eq_true rfl) (Nat.le_of_ble_eq_true rfl)
            · replace hF := q_t c16 hF
              refine g_aload_n 0 dX12_book_135 rfl ?_
              refine g_iconst dX12_book_136 lt_iconst_3 ?_
              obtain ⟨u17, e18, hF⟩ := q_bind hF
              obtain ⟨x19, e20, hF⟩ := q_bind hF
              refine g_callVr0 (ci := 12) (q := (RX12, TX12, 49)) qm_X12_of wd_1754 wd_1756 wd_100 rfl e18 (M_X12_of l b D z nx e20) (As := [.int (3 : Int32)]) rfl rfl (Nat.le_of_ble_eq_true rfl) ⟨(Nat.le_of_ble_eq_true rfl), (Nat.le_of_ble_eq_true rfl)⟩ ⟨rfl, rfl⟩ ⟨(Nat.le_of_ble_eq_true rfl), (Nat.le_of_ble_eq_true rfl)⟩ dX12_book_137 ?_
              refine g_goto 145 dX12_book_140 (by decide) ?_
              cases hF
              exact g_iret dX12_book_145 rfl ⟨rfl, rfl, rfl⟩ (Nat.le_of_ble_eq_true rfl) (Nat.le_of_ble_eq_true rfl)
          · replace hF := q_t c15 hF
            refine g_aload_n 0 dX12_book_122 rfl ?_
            refine g_iconst dX12_book_123 lt_iconst_2 ?_
            obtain ⟨u21, e22, hF⟩ := q_bind hF
            obtain ⟨x23, e24, hF⟩ := q_bind hF
            refine g_callVr0 (ci := 12) (q := (RX12, TX12, 49)) qm_X12_of wd_1754 wd_1756 wd_100 rfl e22 (M_X12_of l b D z nx e24) (As := [.int (2 : Int32)]) rfl rfl (Nat.le_of_ble_eq_true rfl) ⟨(Nat.le_of_ble_eq_true rfl), (Nat.le_of_ble_eq_true rfl)⟩ ⟨rfl, rfl⟩ ⟨(Nat.le_of_ble_eq_true rfl), (Nat.le_of_ble_eq_true rfl)⟩ dX12_book_124 ?_
            refine g_goto 145 dX12_book_127 (by decide) ?_
            cases hF
            exact g_iret dX12_book_145 rfl ⟨rfl, rfl, rfl⟩ (Nat.le_of_ble_eq_true rfl) (Nat.le_of_ble_eq_true rfl)
        · replace hF := q_t c14 hF
          refine g_aload_n 0 dX12_book_110 rfl ?_
          obtain ⟨x25, e26, hF⟩ := q_bind hF
          refine g_getfI fl_X12_276 e26 dX12_book_111 ?_
          refine g_goto 145 dX12_book_114 (by decide) ?_
          cases hF
          exact g_iret dX12_book_145 rfl ⟨rfl, rfl, rfl⟩ (Nat.le_of_ble_eq_true rfl) (Nat.le_of_ble_eq_true rfl)
      · replace hF := q_f c13 hF
        refine g_aload_n 0 dX12_book_77 rfl ?_
        refine g_iload_n 2 dX12_book_78 rfl ?_
        refine g_bipush dX12_book_79 lt_bipush_100 ?_
        refine g_irem dX12_book_81 (by decide) ?_
        obtain ⟨u27, e28, hF⟩ := q_bind hF
        obtain ⟨x29, e30, hF⟩ := q_bind hF
        refine g_callVr0 (ci := 12) (q := (RX12, TX12, 49)) qm_X12_isLine wd_1765 wd_1767 wd_102 rfl e28 (M_X12_isLine l b D z nx e30) (As := [.int (q_rem a2 (100 : Int32))]) rfl rfl (Nat.le_of_ble_eq_true rfl) ⟨(Nat.le_of_ble_eq_true rfl), (Nat.le_of_ble_eq_true rfl)⟩ ⟨rfl, rfl⟩ ⟨(Nat.le_of_ble_eq_true rfl), (Nat.le_of_ble_eq_true rfl)⟩ dX12_book_82 ?_
        refine g_if_eq 103 dX12_book_85 (by decide) (fun c31 => ?_) (fun c31 => ?_)
        · replace hF := q_t c31 hF
          refine g_bipush dX12_book_103 lt_bipush_m2 ?_
          cases hF
          exact g_iret dX12_book_105 rfl ⟨rfl, rfl, rfl⟩ (Nat.le_of_ble_eq_true rfl) (Nat.le_of_ble_eq_true rfl)
        · replace hF := q_f c31 hF
          refine g_aload_n 0 dX12_book_88 rfl ?_
          refine g_iload_n 2 dX12_book_89 rfl ?_
          refine g_bipush dX12_book_90 lt_bipush_100 ?_
          refine g_idiv dX12_book_92 (by decide) ?_
          refine g_iload_n 2 dX12_book_93 rfl ?_
          refine g_bipush dX12_book_94 lt_bipush_100 ?_
          refine g_irem dX12_book_96 (by decide) ?_
          obtain ⟨u32, e33, hF⟩ := q_bind hF
          obtain ⟨x34, e35, hF⟩ := q_bind hF
          refine g_callVr0 (ci := 12) (q := (RX12, TX12, 49)) qm_X12_ofLine wd_1769 wd_1771 wd_103 rfl e33 (M_X12_ofLine l b D z nx e35) (As := [.int (a2 / (100 : Int32)), .int (q_rem a2 (100 : Int32))]) rfl rfl (Nat.le_of_ble_eq_true rfl) ⟨(Nat.le_of_ble_eq_true rfl), (Nat.le_of_ble_eq_true rfl)⟩ ⟨rfl, rfl⟩ ⟨(Nat.le_of_ble_eq_true rfl), (Nat.le_of_ble_eq_true rfl)⟩ dX12_book_97 ?_
          refine g_goto 105 dX12_book_100 (by decide) ?_
          cases hF
          exact g_iret dX12_book_105 rfl ⟨rfl, rfl, rfl⟩ (Nat.le_of_ble_eq_true rfl) (Nat.le_of_ble_eq_true rfl)
    · replace hF := q_f c10 hF
      refine g_iload_n 2 dX12_book_27 rfl ?_
      refine g_bipush dX12_book_28 lt_bipush_10 ?_
      refine g_irem dX12_book_30 (by decide) ?_
      obtain ⟨x36, e37, hF⟩ := q_bind hF
      refine g_callSr0 qm_X12_isPerson wd_1762 wd_1763 (M_X12_isPerson l b D z nx e37) (As := [.int (q_rem a2 (10 : Int32))]) rfl rfl (Nat.le_of_ble_eq_true rfl) ⟨(Nat.le_of_ble_eq_true rfl), (Nat.le_of_ble_eq_true rfl)⟩ ⟨rfl, rfl⟩ ⟨(Nat.le_of_ble_eq_true rfl), (Nat.le_of_ble_eq_true rfl)⟩ dX12_book_31 ?_
      refine g_if_eq 62 dX12_book_34 (by decide) (fun c38 => ?_) (fun c38 => ?_)
      · replace hF := q_t c38 hF
        refine g_bipush dX12_book_62 lt_bipush_m2 ?_
        cases hF
        exact g_iret dX12_book_64 rfl ⟨rfl, rfl, rfl⟩ (Nat.le_of_ble_eq_true rfl) (Nat.le_of_ble_eq_true rfl)
      · replace hF := q_f c38 hF
        refine g_aload_n 0 dX12_book_37 rfl ?_
        refine g_iload_n 2 dX12_book_38 rfl ?_
        refine g_bipush dX12_book_39 lt_bipush_20 ?_
        refine g_icmp_ge 49 dX12_book_41 (by decide) (fun c39 => ?_) (fun c39 => ?_)
        · replace hF := q_t c39 hF
          refine g_bipush dX12_book_49 lt_bipush_106 ?_
          refine g_iload_n 2 dX12_book_51 rfl ?_
          refine g_bipush dX12_book_52 lt_bipush_10 ?_
          refine g_irem dX12_book_54 (by decide) ?_
          refine g_iadd dX12_book_55 ?_
          obtain ⟨u40, e41, hF⟩ := q_bind hF
          obtain ⟨x42, e43, hF⟩ := q_bind hF
          refine g_callVr0 (ci := 12) (q := (RX12, TX12, 49)) qm_X12_of wd_1754 wd_1756 wd_100 rfl e41 (M_X12_of l b D z nx e43) (As := [.int ((106 : Int32) + (q_rem a2 (10 : Int32)))]) rfl rfl (Nat.le_of_ble_eq_true rfl) ⟨(Nat.le_of_ble_eq_true rfl), (Nat.le_of_ble_eq_true rfl)⟩ ⟨rfl, rfl⟩ ⟨(Nat.le_of_ble_eq_true rfl), (Nat.le_of_ble_eq_true rfl)⟩ dX12_book_56 ?_
          refine g_goto 64 dX12_book_59 (by decide) ?_
          cases hF
          exact g_iret dX12_book_64 rfl ⟨rfl, rfl, rfl⟩ (Nat.le_of_ble_eq_true rfl) (Nat.le_of_ble_eq_true rfl)
        · replace hF := q_f c39 hF
          refine g_bipush dX12_book_44 lt_bipush_100 ?_
          refine g_goto 51 dX12_book_46 (by decide) ?_
          refine g_iload_n 2 dX12_book_51 rfl ?_
          refine g_bipush dX12_book_52 lt_bipush_10 ?_
          refine g_irem dX12_book_54 (by decide) ?_
          refine g_iadd dX12_book_55 ?_
          obtain ⟨u44, e45, hF⟩ := q_bind hF
          obtain ⟨x46, e47, hF⟩ := q_bind hF
          refine g_callVr0 (ci := 12) (q := (RX12, TX12, 49)) qm_X12_of wd_1754 wd_1756 wd_100 rfl e45 (M_X12_of l b D z nx e47) (As := [.int ((100 : Int32) + (q_rem a2 (10 : Int32)))]) rfl rfl (Nat.le_of_ble_eq_true rfl) ⟨(Nat.le_of_ble_eq_true rfl), (Nat.le_of_ble_eq_true rfl)⟩ ⟨rfl, rfl⟩ ⟨(Nat.le_of_ble_eq_true rfl), (Nat.le_of_ble_eq_true rfl)⟩ dX12_book_56 ?_
          refine g_goto 64 dX12_book_59 (by decide) ?_
          cases hF
          exact g_iret dX12_book_64 rfl ⟨rfl, rfl, rfl⟩ (Nat.le_of_ble_eq_true rfl) (Nat.le_of_ble_eq_true rfl)
  · replace hF := q_t c7 hF
    refine g_bipush dX12_book_13 lt_bipush_m2 ?_
    cases hF
    exact g_iret dX12_book_15 rfl ⟨rfl, rfl, rfl⟩ (Nat.le_of_ble_eq_true rfl) (Nat.le_of_ble_eq_true rfl)
def rm_X12_follower : Room := { frames := 3, cells := 0, slots := 0, locals := 66 }
set_option maxRecDepth 100000 in
set_option maxHeartbeats 4000000 in
theorem M_X12_follower (l : Launch) (b : Nat) (D : va_G) (z : Nat → Nat) (nx : Nat) {h : qH} {a0 : Nat} {a1 : Int32} {a2 : Int32} {a3 : Int32} {r : Int32 × qH} (hF : F_X12_follower h a0 a1 a2 a3 = some r) : Me l b D z yX12_follower cX12_follower 4 (some .int) rm_X12_follower [.ref a0, .int a1, .int a2, .int a3] h nx (qE (some (.int r.1)) r.2 nx) := by
  refine Me.of (by decide +kernel) (Nat.le_of_ble_eq_true rfl) ?_
  show Go l b D z yX12_follower cX12_follower 4 (some .int) rm_X12_follower (qE (some (.int r.1)) r.2 nx) 0 [(0, .ref a0), (1, .int a1), (2, .int a2), (3, .int a3)] [] h nx 0 0
  unfold F_X12_follower at hF
  refine g_aload_n 0 dX12_follower_0 rfl ?_
  refine g_iconst dX12_follower_1 lt_iconst_0 ?_
  obtain ⟨h1, e2, hF⟩ := q_bind hF
  refine g_putf fl_X12_91 e2 rfl rfl dX12_follower_2 ?_
  refine g_aload_n 0 dX12_follower_5 rfl ?_
  refine g_iload_n 1 dX12_follower_6 rfl ?_
  obtain ⟨u3, e4, hF⟩ := q_bind hF
  obtain ⟨x5, e6, hF⟩ := q_bind hF
  refine g_callVr0 (ci := 12) (q := (RX12, TX12, 49)) qm_X12_hand wd_1750 wd_1752 wd_99 rfl e4 (M_X12_hand l b D z nx e6) (As := [.int a1]) rfl rfl (Nat.le_of_ble_eq_true rfl) ⟨(Nat.le_of_ble_eq_true rfl), (Nat.le_of_ble_eq_true rfl)⟩ ⟨rfl, rfl⟩ ⟨(Nat.le_of_ble_eq_true rfl), (Nat.le_of_ble_eq_true rfl)⟩ dX12_follower_7 ?_
  refine g_if_eq 34 dX12_follower_10 (by decide) (fun c7 => ?_) (fun c7 => ?_)
  · replace hF := q_t c7 hF
    refine g_iconst dX12_follower_34 lt_iconst_m1 ?_
    cases hF
    exact g_iret dX12_follower_35 rfl ⟨rfl, rfl, rfl⟩ (Nat.le_of_ble_eq_true rfl) (Nat.le_of_ble_eq_true rfl)
  · replace hF := q_f c7 hF
    refine g_aload_n 0 dX12_follower_13 rfl ?_
    refine g_iload_n 2 dX12_follower_14 rfl ?_
    obtain ⟨u8, e9, hF⟩ := q_bind hF
    obtain ⟨x10, e11, hF⟩ := q_bind hF
    refine g_callVr0 (ci := 12) (q := (RX12, TX12, 49)) qm_X12_isLine wd_1765 wd_1767 wd_102 rfl e9 (M_X12_isLine l b D z nx e11) (As := [.int a2]) rfl rfl (Nat.le_of_ble_eq_true rfl) ⟨(Nat.le_of_ble_eq_true rfl), (Nat.le_of_ble_eq_true rfl)⟩ ⟨rfl, rfl⟩ ⟨(Nat.le_of_ble_eq_true rfl), (Nat.le_of_ble_eq_true rfl)⟩ dX12_follower_15 ?_
    refine g_if_eq 34 dX12_follower_18 (by decide) (fun c12 => ?_) (fun c12 => ?_)
    · replace hF := q_t c12 hF
      refine g_iconst dX12_follower_34 lt_iconst_m1 ?_
      cases hF
      exact g_iret dX12_follower_35 rfl ⟨rfl, rfl, rfl⟩ (Nat.le_of_ble_eq_true rfl) (Nat.le_of_ble_eq_true rfl)
    · replace hF := q_f c12 hF
      refine g_iload_n 3 dX12_follower_21 rfl ?_
      refine g_if_lt 34 dX12_follower_22 (by decide) (fun c13 => ?_) (fun c13 => ?_)
      · replace hF := q_t c13 hF
        refine g_iconst dX12_follower_34 lt_iconst_m1 ?_
        cases hF
        exact g_iret dX12_follower_35 rfl ⟨rfl, rfl, rfl⟩ (Nat.le_of_ble_eq_true rfl) (Nat.le_of_ble_eq_true rfl)
      · replace hF := q_f c13 hF
        refine g_aload_n 0 dX12_follower_25 rfl ?_
        refine g_iload_n 2 dX12_follower_26 rfl ?_
        refine g_iload_n 3 dX12_follower_27 rfl ?_
        obtain ⟨u14, e15, hF⟩ := q_bind hF
        obtain ⟨x16, e17, hF⟩ := q_bind hF
        refine g_callVr0 (ci := 12) (q := (RX12, TX12, 49)) qm_X12_behind wd_1773 wd_1775 wd_104 rfl e15 (M_X12_behind l b D z nx e17) (As := [.int a2, .int a3]) rfl rfl (Nat.le_of_ble_eq_true rfl) ⟨(Nat.le_of_ble_eq_true rfl), (Nat.le_of_ble_eq_true rfl)⟩ ⟨rfl, rfl⟩ ⟨(Nat.le_of_ble_eq_true rfl), (Nat.le_of_ble_eq_true rfl)⟩ dX12_follower_28 ?_
        refine g_goto 35 dX12_follower_31 (by decide) ?_
        cases hF
        exact g_iret dX12_follower_35 rfl ⟨rfl, rfl, rfl⟩ (Nat.le_of_ble_eq_true rfl) (Nat.le_of_ble_eq_true rfl)
def rm_X12_deeds : Room := { frames := 0, cells := 0, slots := 0, locals := 0 }
set_option maxRecDepth 100000 in
set_option maxHeartbeats 4000000 in
theorem M_X12_deeds (l : Launch) (b : Nat) (D : va_G) (z : Nat → Nat) (nx : Nat) {h : qH} {a0 : Nat} {r : Int32} (hF : F_X12_deeds h a0 = some r) : Me l b D z yX12_deeds cX12_deeds 1 (some .int) rm_X12_deeds [.ref a0] h nx (qE (some (.int r)) h nx) := by
  refine Me.of (by decide +kernel) (Nat.le_of_ble_eq_true rfl) ?_
  show Go l b D z yX12_deeds cX12_deeds 1 (some .int) rm_X12_deeds (qE (some (.int r)) h nx) 0 [(0, .ref a0)] [] h nx 0 0
  unfold F_X12_deeds at hF
  refine g_aload_n 0 dX12_deeds_0 rfl ?_
  obtain ⟨x1, e2, hF⟩ := q_bind hF
  refine g_getfR fl_X12_29 e2 dX12_deeds_1 ?_
  refine g_bipush dX12_deeds_4 lt_bipush_81 ?_
  refine g_aload_n 0 dX12_deeds_6 rfl ?_
  obtain ⟨x3, e4, hF⟩ := q_bind hF
  refine g_getfI fl_X12_300 e4 dX12_deeds_7 ?_
  refine g_imul dX12_deeds_10 ?_
  obtain ⟨x5, e6, hF⟩ := q_bind hF
  refine g_iald e6 dX12_deeds_11 ?_
  cases hF
  exact g_iret dX12_deeds_12 rfl ⟨rfl, rfl, rfl⟩ (Nat.le_of_ble_eq_true rfl) (Nat.le_of_ble_eq_true rfl)
def rm_X12_deedOf : Room := { frames := 0, cells := 0, slots := 0, locals := 0 }
set_option maxRecDepth 100000 in
set_option maxHeartbeats 4000000 in
theorem M_X12_deedOf (l : Launch) (b : Nat) (D : va_G) (z : Nat → Nat) (nx : Nat) {h : qH} {a0 : Nat} {a1 : Int32} {a2 : Int32} {r : Int32} (hF : F_X12_deedOf h a0 a1 a2 = some r) : Me l b D z yX12_deedOf cX12_deedOf 3 (some .int) rm_X12_deedOf [.ref a0, .int a1, .int a2] h nx (qE (some (.int r)) h nx) := by
  refine Me.of (by decide +kernel) (Nat.le_of_ble_eq_true rfl) ?_
  show Go l b D z yX12_deedOf cX12_deedOf 3 (some .int) rm_X12_deedOf (qE (some (.int r)) h nx) 0 [(0, .ref a0), (1, .int a1), (2, .int a2)] [] h nx 0 0
  unfold F_X12_deedOf at hF
  refine g_aload_n 0 dX12_deedOf_0 rfl ?_
  obtain ⟨x1, e2, hF⟩ := q_bind hF
  refine g_getfR fl_X12_29 e2 dX12_deedOf_1 ?_
  refine g_bipush dX12_deedOf_4 lt_bipush_81 ?_
  refine g_aload_n 0 dX12_deedOf_6 rfl ?_
  obtain ⟨x3, e4, hF⟩ := q_bind hF
  refine g_getfI fl_X12_300 e4 dX12_deedOf_7 ?_
  refine g_imul dX12_deedOf_10 ?_
  refine g_iconst dX12_deedOf_11 lt_iconst_1 ?_
  refine g_iadd dX12_deedOf_12 ?_
  refine g_iconst dX12_deedOf_13 lt_iconst_2 ?_
  refine g_iload_n 1 dX12_deedOf_14 rfl ?_
  refine g_imul dX12_deedOf_15 ?_
  refine g_iadd dX12_deedOf_16 ?_
  refine g_iload_n 2 dX12_deedOf_17 rfl ?_
  refine g_iadd dX12_deedOf_18 ?_
  obtain ⟨x5, e6, hF⟩ := q_bind hF
  refine g_iald e6 dX12_deedOf_19 ?_
  cases hF
  exact g_iret dX12_deedOf_20 rfl ⟨rfl, rfl, rfl⟩ (Nat.le_of_ble_eq_true rfl) (Nat.le_of_ble_eq_true rfl)
def rm_X12_hasEvening : Room := { frames := 2, cells := 0, slots := 0, locals := 44 }
set_option maxRecDepth 100000 in
set_option maxHeartbeats 4000000 in
theorem M_X12_hasEvening (l : Launch) (b : Nat) (D : va_G) (z : Nat → Nat) (nx : Nat) {h : qH} {a0 : Nat} {a1 : Int32} {r : Int32 × qH} (hF : F_X12_hasEvening h a0 a1 = some r) : Me l b D z yX12_hasEvening cX12_hasEvening 2 (some .boolean) rm_X12_hasEvening [.ref a0, .int a1] h nx (qE (some (.int r.1)) r.2 nx) := by
  refine Me.of (by decide +kernel) (Nat.le_of_ble_eq_true rfl) ?_
  show Go l b D z yX12_hasEvening cX12_hasEvening 2 (some .boolean) rm_X12_hasEvening (qE (some (.int r.1)) r.2 nx) 0 [(0, .ref a0), (1, .int a1)] [] h nx 0 0
  unfold F_X12_hasEvening at hF
  refine g_aload_n 0 dX12_hasEvening_0 rfl ?_
  refine g_iload_n 1 dX12_hasEvening_1 rfl ?_
  obtain ⟨h1, e2, hF⟩ := q_bind hF
  refine g_putf fl_X12_300 e2 rfl rfl dX12_hasEvening_2 ?_
  refine g_aload_n 0 dX12_hasEvening_5 rfl ?_
  refine g_iconst dX12_hasEvening_6 lt_iconst_1 ?_
  refine g_iload_n 1 dX12_hasEvening_7 rfl ?_
  obtain ⟨u3, e4, hF⟩ := q_bind hF
  obtain ⟨x5, e6, hF⟩ := q_bind hF
  refine g_callVr0 (ci := 12) (q := (RX12, TX12, 49)) qm_X12_is wd_1630 wd_1632 wd_77 rfl e4 (M_X12_is l b D z nx e6) (As := [.int (1 : Int32), .int a1]) rfl rfl (Nat.le_of_ble_eq_true rfl) ⟨(Nat.le_of_ble_eq_true rfl), (Nat.le_of_ble_eq_true rfl)⟩ ⟨rfl, rfl⟩ ⟨(Nat.le_of_ble_eq_true rfl), (Nat.le_of_ble_eq_true rfl)⟩ dX12_hasEvening_8 ?_
  obtain ⟨u7, e8, hF⟩ := q_bind hF
  cases hF
  exact g_zret dX12_hasEvening_11 rfl (q_z_spec e8).2.1 ⟨rfl, rfl, rfl⟩ (Nat.le_of_ble_eq_true rfl) (Nat.le_of_ble_eq_true rfl)
def rm_X12_deed : Room := { frames := 3, cells := 0, slots := 0, locals := 65 }
set_option maxRecDepth 100000 in
set_option maxHeartbeats 4000000 in
theorem M_X12_deed (l : Launch) (b : Nat) (D : va_G) (z : Nat → Nat) (nx : Nat) {h : qH} {a0 : Nat} {a1 : Int32} {a2 : Int32} {a3 : Int32} {r : Int32 × qH} (hF : F_X12_deed h a0 a1 a2 a3 = some r) : Me l b D z yX12_deed cX12_deed 4 (some .int) rm_X12_deed [.ref a0, .int a1, .int a2, .int a3] h nx (qE (some (.int r.1)) r.2 nx) := by
  refine Me.of (by decide +kernel) (Nat.le_of_ble_eq_true rfl) ?_
  show Go l b D z yX12_deed cX12_deed 4 (some .int) rm_X12_deed (qE (some (.int r.1)) r.2 nx) 0 [(0, .ref a0), (1, .int a1), (2, .int a2), (3, .int a3)] [] h nx 0 0
  unfold F_X12_deed at hF
  refine g_aload_n 0 dX12_deed_0 rfl ?_
  refine g_iconst dX12_deed_1 lt_iconst_0 ?_
  obtain ⟨h1, e2, hF⟩ := q_bind hF
  refine g_putf fl_X12_91 e2 rfl rfl dX12_deed_2 ?_
  refine g_aload_n 0 dX12_deed_5 rfl ?_
  refine g_iload_n 1 dX12_deed_6 rfl ?_
  obtain ⟨u3, e4, hF⟩ := q_bind hF
  obtain ⟨x5, e6, hF⟩ := q_bind hF
  refine g_callVr0 (ci := 12) (q := (RX12, TX12, 49)) qm_X12_hasEvening wd_1785 wd_1787 wd_105 rfl e4 (M_X12_hasEvening l b D z nx e6) (As := [.int a1]) rfl rfl (Nat.le_of_ble_eq_true rfl) ⟨(Nat.le_of_ble_eq_true rfl), (Nat.le_of_ble_eq_true rfl)⟩ ⟨rfl, rfl⟩ ⟨(Nat.le_of_ble_eq_true rfl), (Nat.le_of_ble_eq_true rfl)⟩ dX12_deed_7 ?_
  refine g_if_ne 16 dX12_deed_10 (by decide) (fun c7 => ?_) (fun c7 => ?_)
  · replace hF := q_f c7 hF
    refine g_iload_n 2 dX12_deed_16 rfl ?_
    refine g_iconst dX12_deed_17 lt_iconst_m1 ?_
    refine g_icmp_ne 35 dX12_deed_18 (by decide) (fun c8 => ?_) (fun c8 => ?_)
    · replace hF := q_f c8 hF
      refine g_iload_n 2 dX12_deed_35 rfl ?_
      refine g_iconst dX12_deed_36 lt_iconst_0 ?_
      refine g_aload_n 0 dX12_deed_37 rfl ?_
      obtain ⟨u9, e10, hF⟩ := q_bind hF
      obtain ⟨x11, e12, hF⟩ := q_bind hF
      refine g_callVr0 (ci := 12) (q := (RX12, TX12, 49)) qm_X12_deeds wd_1789 wd_1791 wd_106 rfl e10 (M_X12_deeds l b D z nx e12) (As := []) rfl rfl (Nat.le_of_ble_eq_true rfl) ⟨(Nat.le_of_ble_eq_true rfl), (Nat.le_of_ble_eq_true rfl)⟩ ⟨rfl, rfl⟩ ⟨(Nat.le_of_ble_eq_true rfl), (Nat.le_of_ble_eq_true rfl)⟩ dX12_deed_38 ?_
      refine g_iconst dX12_deed_41 lt_iconst_1 ?_
      refine g_isub dX12_deed_42 ?_
      obtain ⟨x13, e14, hF⟩ := q_bind hF
      refine g_callSr0 qm_X12_in wd_1623 wd_1624 (M_X12_in l b D z nx e14) (As := [.int a2, .int (0 : Int32), .int (x11 - (1 : Int32))]) rfl rfl (Nat.le_of_ble_eq_true rfl) ⟨(Nat.le_of_ble_eq_true rfl), (Nat.le_of_ble_eq_true rfl)⟩ ⟨rfl, rfl⟩ ⟨(Nat.le_of_ble_eq_true rfl), (Nat.le_of_ble_eq_true rfl)⟩ dX12_deed_43 ?_
      refine g_if_eq 67 dX12_deed_46 (by decide) (fun c15 => ?_) (fun c15 => ?_)
      · replace hF := q_t c15 hF
        refine g_bipush dX12_deed_67 lt_bipush_m2 ?_
        cases hF
        exact g_iret dX12_deed_69 rfl ⟨rfl, rfl, rfl⟩ (Nat.le_of_ble_eq_true rfl) (Nat.le_of_ble_eq_true rfl)
      · replace hF := q_f c15 hF
        refine g_iload_n 3 dX12_deed_49 rfl ?_
        refine g_iconst dX12_deed_50 lt_iconst_0 ?_
        refine g_iconst dX12_deed_51 lt_iconst_1 ?_
        obtain ⟨x16, e17, hF⟩ := q_bind hF
        refine g_callSr0 qm_X12_in wd_1623 wd_1624 (M_X12_in l b D z nx e17) (As := [.int a3, .int (0 : Int32), .int (1 : Int32)]) rfl rfl (Nat.le_of_ble_eq_true rfl) ⟨(Nat.le_of_ble_eq_true rfl), (Nat.le_of_ble_eq_true rfl)⟩ ⟨rfl, rfl⟩ ⟨(Nat.le_of_ble_eq_true rfl), (Nat.le_of_ble_eq_true rfl)⟩ dX12_deed_52 ?_
        refine g_if_eq 67 dX12_deed_55 (by decide) (fun c18 => ?_) (fun c18 => ?_)
        · replace hF := q_t c18 hF
          refine g_bipush dX12_deed_67 lt_bipush_m2 ?_
          cases hF
          exact g_iret dX12_deed_69 rfl ⟨rfl, rfl, rfl⟩ (Nat.le_of_ble_eq_true rfl) (Nat.le_of_ble_eq_true rfl)
        · replace hF := q_f c18 hF
          refine g_aload_n 0 dX12_deed_58 rfl ?_
          refine g_iload_n 2 dX12_deed_59 rfl ?_
          refine g_iload_n 3 dX12_deed_60 rfl ?_
          obtain ⟨u19, e20, hF⟩ := q_bind hF
          obtain ⟨x21, e22, hF⟩ := q_bind hF
          refine g_callVr0 (ci := 12) (q := (RX12, TX12, 49)) qm_X12_deedOf wd_1793 wd_1795 wd_107 rfl e20 (M_X12_deedOf l b D z nx e22) (As := [.int a2, .int a3]) rfl rfl (Nat.le_of_ble_eq_true rfl) ⟨(Nat.le_of_ble_eq_true rfl), (Nat.le_of_ble_eq_true rfl)⟩ ⟨rfl, rfl⟩ ⟨(Nat.le_of_ble_eq_true rfl), (Nat.le_of_ble_eq_true rfl)⟩ dX12_deed_61 ?_
          refine g_goto 69 dX12_deed_64 (by decide) ?_
          cases hF
          exact g_iret dX12_deed_69 rfl ⟨rfl, rfl, rfl⟩ (Nat.le_of_ble_eq_true rfl) (Nat.le_of_ble_eq_true rfl)
    · replace hF := q_t c8 hF
      refine g_iload_n 3 dX12_deed_21 rfl ?_
      refine g_if_ne 32 dX12_deed_22 (by decide) (fun c23 => ?_) (fun c23 => ?_)
      · replace hF := q_f c23 hF
        refine g_bipush dX12_deed_32 lt_bipush_m2 ?_
        cases hF
        exact g_iret dX12_deed_34 rfl ⟨rfl, rfl, rfl⟩ (Nat.le_of_ble_eq_true rfl) (Nat.le_of_ble_eq_true rfl)
      · replace hF := q_t c23 hF
        refine g_aload_n 0 dX12_deed_25 rfl ?_
        obtain ⟨u24, e25, hF⟩ := q_bind hF
        obtain ⟨x26, e27, hF⟩ := q_bind hF
        refine g_callVr0 (ci := 12) (q := (RX12, TX12, 49)) qm_X12_deeds wd_1789 wd_1791 wd_106 rfl e25 (M_X12_deeds l b D z nx e27) (As := []) rfl rfl (Nat.le_of_ble_eq_true rfl) ⟨(Nat.le_of_ble_eq_true rfl), (Nat.le_of_ble_eq_true rfl)⟩ ⟨rfl, rfl⟩ ⟨(Nat.le_of_ble_eq_true rfl), (Nat.le_of_ble_eq_true rfl)⟩ dX12_deed_26 ?_
        refine g_goto 34 dX12_deed_29 (by decide) ?_
        cases hF
        exact g_iret dX12_deed_34 rfl ⟨rfl, rfl, rfl⟩ (Nat.le_of_ble_eq_true rfl) (Nat.le_of_ble_eq_true rfl)
  · replace hF := q_t c7 hF
    refine g_bipush dX12_deed_13 lt_bipush_m2 ?_
    cases hF
    exact g_iret dX12_deed_15 rfl ⟨rfl, rfl, rfl⟩ (Nat.le_of_ble_eq_true rfl) (Nat.le_of_ble_eq_true rfl)
def rm_X12_begin : Room := { frames := 0, cells := 0, slots := 0, locals := 0 }
set_option maxRecDepth 100000 in
set_option maxHeartbeats 4000000 in
theorem B_X12_begin_2 (l : Launch) (b : Nat) (D : va_G) (z : Nat → Nat) {Φ : Option Value → qH → Nat → Prop} {nx : Nat} {a0 : Nat} {a1 : Int32} {h : qH} {o : (Int32 × qH) ⊕ qH} (hF : b_X12_begin_2 a0 a1 h = some o) (hback : ∀ (b1 : Int32) (bh : qH), o = .inl (b1, bh) → Go l b D z yX12_begin cX12_begin 2 none rm_X12_begin Φ 2 [(0, .ref a0), (1, .int b1)] [] bh nx 0 0) (hx0 : ∀  (bh : qH), o = .inr bh → Go l b D z yX12_begin cX12_begin 2 none rm_X12_begin Φ 21 [(0, .ref a0)] [] bh nx 0 0) : Go l b D z yX12_begin cX12_begin 2 none rm_X12_begin Φ 2 [(0, .ref a0), (1, .int a1)] [] h nx 0 0 := by
  unfold b_X12_begin_2 at hF
  refine g_iload_n 1 dX12_begin_2 rfl ?_
  refine g_bipush dX12_begin_3 lt_bipush_30 ?_
  refine g_icmp_ge 21 dX12_begin_5 (by decide) (fun c1 => ?_) (fun c1 => ?_)
  · replace hF := q_t c1 hF
    cases hF
    refine g_sub [0] rfl ?_
    exact hx0 _ rfl
  · replace hF := q_f c1 hF
    refine g_aload_n 0 dX12_begin_8 rfl ?_
    obtain ⟨x2, e3, hF⟩ := q_bind hF
    refine g_getfR fl_X12_50 e3 dX12_begin_9 ?_
    refine g_iload_n 1 dX12_begin_12 rfl ?_
    refine g_iconst dX12_begin_13 lt_iconst_0 ?_
    obtain ⟨h4, e5, hF⟩ := q_bind hF
    refine g_iast e5 dX12_begin_14 ?_
    refine g_iinc [(1, .int (a1 + 1)), (0, .ref a0)] 1 dX12_begin_15 rfl (congrArg (a1 + ·) lt_iconst_1) (Nat.le_of_ble_eq_true rfl) rfl ?_
    refine g_goto 2 dX12_begin_18 (by decide) ?_
    cases hF
    refine g_sub [1, 0] rfl ?_
    exact hback _ _ rfl
set_option maxRecDepth 100000 in
set_option maxHeartbeats 4000000 in
theorem L_X12_begin_2 (l : Launch) (b : Nat) (D : va_G) (z : Nat → Nat) {Φ : Option Value → qH → Nat → Prop} {nx : Nat} {a0 : Nat} : ∀ (n : Nat) (a1 : Int32) (h : qH) (e : qH), q_lp (s_X12_begin_2 a0) n (a1, h) = some e → (∀  (bh : qH), e = bh → Go l b D z yX12_begin cX12_begin 2 none rm_X12_begin Φ 21 [(0, .ref a0)] [] bh nx 0 0) → Go l b D z yX12_begin cX12_begin 2 none rm_X12_begin Φ 2 [(0, .ref a0), (1, .int a1)] [] h nx 0 0 := by
  intro n
  induction n with
  | zero => intro a1 h e he; cases (show none = some e from he)
  | succ n ih =>
    intro a1 h e he hx0
    obtain ⟨o, ho, h1, h2⟩ := q_lp_succ he
    exact B_X12_begin_2 l b D z (show b_X12_begin_2 a0 a1 h = some o from ho) (fun b1 bh hb => ih _ _ e (h1 _ hb) hx0) (fun p0 hr => hx0 p0 (h2 _ hr).symm)
set_option maxRecDepth 100000 in
set_option maxHeartbeats 4000000 in
theorem M_X12_begin (l : Launch) (b : Nat) (D : va_G) (z : Nat → Nat) (nx : Nat) {h : qH} {a0 : Nat} {r : qH} (hF : F_X12_begin h a0 = some r) : Me l b D z yX12_begin cX12_begin 2 none rm_X12_begin [.ref a0] h nx (qE none r nx) := by
  refine Me.of (by decide +kernel) (Nat.le_of_ble_eq_true rfl) ?_
  show Go l b D z yX12_begin cX12_begin 2 none rm_X12_begin (qE none r nx) 0 [(0, .ref a0)] [] h nx 0 0
  unfold F_X12_begin at hF
  refine g_iconst dX12_begin_0 lt_iconst_0 ?_
  refine g_istore_n [(1, .int (0 : Int32)), (0, .ref a0)] dX12_begin_1 (Nat.le_of_ble_eq_true rfl) rfl ?_
  obtain ⟨e1, w2, hF⟩ := q_bind hF
  refine g_sub [1, 0] rfl ?_
  refine L_X12_begin_2 l b D z q_N (0 : Int32) h e1 w2 ?_
  · intro h3 w4
    replace w4 := w4.symm
    subst w4
    refine g_aload_n 0 dX12_begin_21 rfl ?_
    obtain ⟨x5, e6, hF⟩ := q_bind hF
    refine g_getfR fl_X12_50 e6 dX12_begin_22 ?_
    refine g_iconst dX12_begin_25 lt_iconst_1 ?_
    refine g_iconst dX12_begin_26 lt_iconst_m1 ?_
    obtain ⟨h7, e8, hF⟩ := q_bind hF
    refine g_iast e8 dX12_begin_27 ?_
    refine g_aload_n 0 dX12_begin_28 rfl ?_
    obtain ⟨x9, e10, hF⟩ := q_bind hF
    refine g_getfR fl_X12_50 e10 dX12_begin_29 ?_
    refine g_iconst dX12_begin_32 lt_iconst_2 ?_
    refine g_aload_n 0 dX12_begin_33 rfl ?_
    obtain ⟨x11, e12, hF⟩ := q_bind hF
    refine g_getfI fl_X12_276 e12 dX12_begin_34 ?_
    refine g_if_le 44 dX12_begin_37 (by decide) (fun c13 => ?_) (fun c13 => ?_)
    · replace hF := q_t c13 hF
      refine g_iconst dX12_begin_44 lt_iconst_m1 ?_
      obtain ⟨h14, e15, hF⟩ := q_bind hF
      refine g_iast e15 dX12_begin_45 ?_
      refine g_aload_n 0 dX12_begin_46 rfl ?_
      obtain ⟨x16, e17, hF⟩ := q_bind hF
      refine g_getfR fl_X12_50 e17 dX12_begin_47 ?_
      refine g_bipush dX12_begin_50 lt_bipush_9 ?_
      refine g_bipush dX12_begin_52 lt_bipush_63 ?_
      obtain ⟨h18, e19, hF⟩ := q_bind hF
      refine g_iast e19 dX12_begin_54 ?_
      cases hF
      exact g_vret dX12_begin_55 rfl ⟨rfl, rfl, rfl⟩ (Nat.le_of_ble_eq_true rfl) (Nat.le_of_ble_eq_true rfl)
    · replace hF := q_f c13 hF
      refine g_iconst dX12_begin_40 lt_iconst_0 ?_
      refine g_goto 45 dX12_begin_41 (by decide) ?_
      obtain ⟨h20, e21, hF⟩ := q_bind hF
      refine g_iast e21 dX12_begin_45 ?_
      refine g_aload_n 0 dX12_begin_46 rfl ?_
      obtain ⟨x22, e23, hF⟩ := q_bind hF
      refine g_getfR fl_X12_50 e23 dX12_begin_47 ?_
      refine g_bipush dX12_begin_50 lt_bipush_9 ?_
      refine g_bipush dX12_begin_52 lt_bipush_63 ?_
      obtain ⟨h24, e25, hF⟩ := q_bind hF
      refine g_iast e25 dX12_begin_54 ?_
      cases hF
      exact g_vret dX12_begin_55 rfl ⟨rfl, rfl, rfl⟩ (Nat.le_of_ble_eq_true rfl) (Nat.le_of_ble_eq_true rfl)
def rm_X12_isThere : Room := { frames := 1, cells := 0, slots := 0, locals := 21 }
set_option maxRecDepth 100000 in
set_option maxHeartbeats 4000000 in
theorem M_X12_isThere (l : Launch) (b : Nat) (D : va_G) (z : Nat → Nat) (nx : Nat) {h : qH} {a0 : Nat} {a1 : Int32} {r : Int32} (hF : F_X12_isThere h a0 a1 = some r) : Me l b D z yX12_isThere cX12_isThere 2 (some .boolean) rm_X12_isThere [.ref a0, .int a1] h nx (qE (some (.int r)) h nx) := by
  refine Me.of (by decide +kernel) (Nat.le_of_ble_eq_true rfl) ?_
  show Go l b D z yX12_isThere cX12_isThere 2 (some .boolean) rm_X12_isThere (qE (some (.int r)) h nx) 0 [(0, .ref a0), (1, .int a1)] [] h nx 0 0
  unfold F_X12_isThere at hF
  refine g_aload_n 0 dX12_isThere_0 rfl ?_
  obtain ⟨x1, e2, hF⟩ := q_bind hF
  refine g_getfR fl_X12_50 e2 dX12_isThere_1 ?_
  refine g_bipush dX12_isThere_4 lt_bipush_9 ?_
  obtain ⟨x3, e4, hF⟩ := q_bind hF
  refine g_iald e4 dX12_isThere_6 ?_
  refine g_iload_n 1 dX12_isThere_7 rfl ?_
  obtain ⟨x5, e6, hF⟩ := q_bind hF
  refine g_callSr0 qm_X12_has wd_1825 wd_1826 (M_X12_has l b D z nx e6) (As := [.int x3, .int a1]) rfl rfl (Nat.le_of_ble_eq_true rfl) ⟨(Nat.le_of_ble_eq_true rfl), (Nat.le_of_ble_eq_true rfl)⟩ ⟨rfl, rfl⟩ ⟨(Nat.le_of_ble_eq_true rfl), (Nat.le_of_ble_eq_true rfl)⟩ dX12_isThere_8 ?_
  obtain ⟨u7, e8, hF⟩ := q_bind hF
  cases hF
  exact g_zret dX12_isThere_11 rfl (q_z_spec e8).2.1 ⟨rfl, rfl, rfl⟩ (Nat.le_of_ble_eq_true rfl) (Nat.le_of_ble_eq_true rfl)
def rm_X12_isFollower : Room := { frames := 1, cells := 0, slots := 0, locals := 22 }
set_option maxRecDepth 100000 in
set_option maxHeartbeats 4000000 in
theorem B_X12_isFollower_2 (l : Launch) (b : Nat) (D : va_G) (z : Nat → Nat) {Φ : Option Value → qH → Nat → Prop} {nx : Nat} {h : qH} {a0 : Nat} {a1 : Int32} {a2 : Int32} {o : Int32 ⊕ (Unit ⊕ Unit)} (hF : b_X12_isFollower_2 h a0 a1 a2 = some o) (hback : ∀ (b2 : Int32), o = .inl b2 → Go l b D z yX12_isFollower cX12_isFollower 3 (some .boolean) rm_X12_isFollower Φ 2 [(0, .ref a0), (1, .int a1), (2, .int b2)] [] h nx 0 0) (hx0 : o = .inr (.inl ()) → Go l b D z yX12_isFollower cX12_isFollower 3 (some .boolean) rm_X12_isFollower Φ 42 [] [] h nx 0 0) (hx1 : o = .inr (.inr ()) → Go l b D z yX12_isFollower cX12_isFollower 3 (some .boolean) rm_X12_isFollower Φ 50 [] [] h nx 0 0) : Go l b D z yX12_isFollower cX12_isFollower 3 (some .boolean) rm_X12_isFollower Φ 2 [(0, .ref a0), (1, .int a1), (2, .int a2)] [] h nx 0 0 := by
  unfold b_X12_isFollower_2 at hF
  refine g_aload_n 0 dX12_isFollower_2 rfl ?_
  obtain ⟨x1, e2, hF⟩ := q_bind hF
  refine g_getfR fl_X12_50 e2 dX12_isFollower_3 ?_
  refine g_iconst dX12_isFollower_6 lt_iconst_1 ?_
  obtain ⟨x3, e4, hF⟩ := q_bind hF
  refine g_iald e4 dX12_isFollower_7 ?_
  refine g_iconst dX12_isFollower_8 lt_iconst_m1 ?_
  refine g_icmp_eq 50 dX12_isFollower_9 (by decide) (fun c5 => ?_) (fun c5 => ?_)
  · replace hF := q_t c5 hF
    cases hF
    refine g_sub [] rfl ?_
    exact hx1  rfl
  · replace hF := q_f c5 hF
    refine g_iload_n 2 dX12_isFollower_12 rfl ?_
    refine g_aload_n 0 dX12_isFollower_13 rfl ?_
    obtain ⟨x6, e7, hF⟩ := q_bind hF
    refine g_getfR fl_X12_47 e7 dX12_isFollower_14 ?_
    refine g_aload_n 0 dX12_isFollower_17 rfl ?_
    obtain ⟨x8, e9, hF⟩ := q_bind hF
    refine g_getfR fl_X12_50 e9 dX12_isFollower_18 ?_
    refine g_iconst dX12_isFollower_21 lt_iconst_1 ?_
    obtain ⟨x10, e11, hF⟩ := q_bind hF
    refine g_iald e11 dX12_isFollower_22 ?_
    obtain ⟨x12, e13, hF⟩ := q_bind hF
    refine g_iald e13 dX12_isFollower_23 ?_
    refine g_icmp_ge 50 dX12_isFollower_24 (by decide) (fun c14 => ?_) (fun c14 => ?_)
    · replace hF := q_t c14 hF
      cases hF
      refine g_sub [] rfl ?_
      exact hx1  rfl
    · replace hF := q_f c14 hF
      refine g_aload_n 0 dX12_isFollower_27 rfl ?_
      refine g_aload_n 0 dX12_isFollower_28 rfl ?_
      obtain ⟨x15, e16, hF⟩ := q_bind hF
      refine g_getfR fl_X12_50 e16 dX12_isFollower_29 ?_
      refine g_iconst dX12_isFollower_32 lt_iconst_1 ?_
      obtain ⟨x17, e18, hF⟩ := q_bind hF
      refine g_iald e18 dX12_isFollower_33 ?_
      refine g_iload_n 2 dX12_isFollower_34 rfl ?_
      obtain ⟨u19, e20, hF⟩ := q_bind hF
      obtain ⟨x21, e22, hF⟩ := q_bind hF
      refine g_callVr0 (ci := 12) (q := (RX12, TX12, 49)) qm_X12_behind wd_1773 wd_1775 wd_104 rfl e20 (M_X12_behind l b D z nx e22) (As := [.int x17, .int a2]) rfl rfl (Nat.le_of_ble_eq_true rfl) ⟨(Nat.le_of_ble_eq_true rfl), (Nat.le_of_ble_eq_true rfl)⟩ ⟨rfl, rfl⟩ ⟨(Nat.le_of_ble_eq_true rfl), (Nat.le_of_ble_eq_true rfl)⟩ dX12_isFollower_35 ?_
      refine g_iload_n 1 dX12_isFollower_38 rfl ?_
      refine g_icmp_ne 44 dX12_isFollower_39 (by decide) (fun c23 => ?_) (fun c23 => ?_)
      · replace hF := q_f c23 hF
        refine g_iinc [(2, .int (a2 + 1)), (0, .ref a0), (1, .int a1)] 2 dX12_isFollower_44 rfl (congrArg (a2 + ·) lt_iconst_1) (Nat.le_of_ble_eq_true rfl) rfl ?_
        refine g_goto 2 dX12_isFollower_47 (by decide) ?_
        cases hF
        refine g_sub [1, 2, 0] rfl ?_
        exact hback _ rfl
      · replace hF := q_t c23 hF
        cases hF
        refine g_sub [] rfl ?_
        exact hx0  rfl
set_option maxRecDepth 100000 in
set_option maxHeartbeats 4000000 in
theorem L_X12_isFollower_2 (l : Launch) (b : Nat) (D : va_G) (z : Nat → Nat) {Φ : Option Value → qH → Nat → Prop} {nx : Nat} {h : qH} {a0 : Nat} {a1 : Int32} : ∀ (n : Nat) (a2 : Int32) (e : Unit ⊕ Unit), q_lp (s_X12_isFollower_2 h a0 a1) n a2 = some e → (e = (.inl ()) → Go l b D z yX12_isFollower cX12_isFollower 3 (some .boolean) rm_X12_isFollower Φ 42 [] [] h nx 0 0) → (e = (.inr ()) → Go l b D z yX12_isFollower cX12_isFollower 3 (some .boolean) rm_X12_isFollower Φ 50 [] [] h nx 0 0) → Go l b D z yX12_isFollower cX12_isFollower 3 (some .boolean) rm_X12_isFollower Φ 2 [(0, .ref a0), (1, .int a1), (2, .int a2)] [] h nx 0 0 := by
  intro n
  induction n with
  | zero => intro a2 e he; cases (show none = some e from he)
  | succ n ih =>
    intro a2 e he hx0 hx1
    obtain ⟨o, ho, h1, h2⟩ := q_lp_succ he
    exact B_X12_isFollower_2 l b D z (show b_X12_isFollower_2 h a0 a1 a2 = some o from ho) (fun b2 hb => ih _ e (h1 _ hb) hx0 hx1) (fun  hr => hx0  (h2 _ hr).symm) (fun  hr => hx1  (h2 _ hr).symm)
set_option maxRecDepth 100000 in
set_option maxHeartbeats 4000000 in
theorem M_X12_isFollower (l : Launch) (b : Nat) (D : va_G) (z : Nat → Nat) (nx : Nat) {h : qH} {a0 : Nat} {a1 : Int32} {r : Int32} (hF : F_X12_isFollower h a0 a1 = some r) : Me l b D z yX12_isFollower cX12_isFollower 3 (some .boolean) rm_X12_isFollower [.ref a0, .int a1] h nx (qE (some (.int r)) h nx) := by
  refine Me.of (by decide +kernel) (Nat.le_of_ble_eq_true rfl) ?_
  show Go l b D z yX12_isFollower cX12_isFollower 3 (some .boolean) rm_X12_isFollower (qE (some (.int r)) h nx) 0 [(0, .ref a0), (1, .int a1)] [] h nx 0 0
  unfold F_X12_isFollower at hF
  refine g_iconst dX12_isFollower_0 lt_iconst_0 ?_
  refine g_istore_n [(2, .int (0 : Int32)), (0, .ref a0), (1, .int a1)] dX12_isFollower_1 (Nat.le_of_ble_eq_true rfl) rfl ?_
  obtain ⟨e1, w2, hF⟩ := q_bind hF
  refine g_sub [1, 2, 0] rfl ?_
  refine L_X12_isFollower_2 l b D z q_N (0 : Int32) e1 w2 ?_ ?_
  · intro  w3
    replace w3 := w3.symm
    subst w3
    replace hF := q_sl hF
    refine g_iconst dX12_isFollower_42 lt_iconst_1 ?_
    cases hF
    exact g_zret dX12_isFollower_43 rfl zn_1 ⟨rfl, rfl, rfl⟩ (Nat.le_of_ble_eq_true rfl) (Nat.le_of_ble_eq_true rfl)
  · intro  w5
    replace w5 := w5.symm
    subst w5
    replace hF := q_sr hF
    refine g_iconst dX12_isFollower_50 lt_iconst_0 ?_
    cases hF
    exact g_zret dX12_isFollower_51 rfl zn_0 ⟨rfl, rfl, rfl⟩ (Nat.le_of_ble_eq_true rfl) (Nat.le_of_ble_eq_true rfl)
def rm_X12_goesOn : Room := { frames := 1, cells := 0, slots := 0, locals := 22 }
set_option maxRecDepth 100000 in
set_option maxHeartbeats 4000000 in
theorem M_X12_goesOn (l : Launch) (b : Nat) (D : va_G) (z : Nat → Nat) (nx : Nat) {h : qH} {a0 : Nat} {a1 : Int32} {r : qH} (hF : F_X12_goesOn h a0 a1 = some r) : Me l b D z yX12_goesOn cX12_goesOn 2 none rm_X12_goesOn [.ref a0, .int a1] h nx (qE none r nx) := by
  refine Me.of (by decide +kernel) (Nat.le_of_ble_eq_true rfl) ?_
  show Go l b D z yX12_goesOn cX12_goesOn 2 none rm_X12_goesOn (qE none r nx) 0 [(0, .ref a0), (1, .int a1)] [] h nx 0 0
  unfold F_X12_goesOn at hF
  refine g_aload_n 0 dX12_goesOn_0 rfl ?_
  obtain ⟨x1, e2, hF⟩ := q_bind hF
  refine g_getfR fl_X12_50 e2 dX12_goesOn_1 ?_
  refine g_iconst dX12_goesOn_4 lt_iconst_1 ?_
  refine g_iload_n 1 dX12_goesOn_5 rfl ?_
  obtain ⟨h3, e4, hF⟩ := q_bind hF
  refine g_iast e4 dX12_goesOn_6 ?_
  refine g_aload_n 0 dX12_goesOn_7 rfl ?_
  obtain ⟨x5, e6, hF⟩ := q_bind hF
  refine g_getfR fl_X12_50 e6 dX12_goesOn_8 ?_
  refine g_iconst dX12_goesOn_11 lt_iconst_2 ?_
  refine g_aload_n 0 dX12_goesOn_12 rfl ?_
  refine g_iload_n 1 dX12_goesOn_13 rfl ?_
  refine g_iconst dX12_goesOn_14 lt_iconst_0 ?_
  obtain ⟨u7, e8, hF⟩ := q_bind hF
  obtain ⟨x9, e10, hF⟩ := q_bind hF
  refine g_callVr0 (ci := 12) (q := (RX12, TX12, 49)) qm_X12_behind wd_1773 wd_1775 wd_104 rfl e8 (M_X12_behind l b D z nx e10) (As := [.int a1, .int (0 : Int32)]) rfl rfl (Nat.le_of_ble_eq_true rfl) ⟨(Nat.le_of_ble_eq_true rfl), (Nat.le_of_ble_eq_true rfl)⟩ ⟨rfl, rfl⟩ ⟨(Nat.le_of_ble_eq_true rfl), (Nat.le_of_ble_eq_true rfl)⟩ dX12_goesOn_15 ?_
  obtain ⟨h11, e12, hF⟩ := q_bind hF
  refine g_iast e12 dX12_goesOn_18 ?_
  refine g_aload_n 0 dX12_goesOn_19 rfl ?_
  obtain ⟨x13, e14, hF⟩ := q_bind hF
  refine g_getfR fl_X12_50 e14 dX12_goesOn_20 ?_
  refine g_iconst dX12_goesOn_23 lt_iconst_3 ?_
  refine g_iconst dX12_goesOn_24 lt_iconst_0 ?_
  obtain ⟨h15, e16, hF⟩ := q_bind hF
  refine g_iast e16 dX12_goesOn_25 ?_
  cases hF
  exact g_vret dX12_goesOn_26 rfl ⟨rfl, rfl, rfl⟩ (Nat.le_of_ble_eq_true rfl) (Nat.le_of_ble_eq_true rfl)
def rm_X12_isSaid : Room := { frames := 3, cells := 0, slots := 0, locals := 63 }
set_option maxRecDepth 100000 in
set_option maxHeartbeats 4000000 in
theorem M_X12_isSaid (l : Launch) (b : Nat) (D : va_G) (z : Nat → Nat) (nx : Nat) {h : qH} {a0 : Nat} {a1 : Int32} {r : qH} (hF : F_X12_isSaid h a0 a1 = some r) : Me l b D z yX12_isSaid cX12_isSaid 2 none rm_X12_isSaid [.ref a0, .int a1] h nx (qE none r nx) := by
  refine Me.of (by decide +kernel) (Nat.le_of_ble_eq_true rfl) ?_
  show Go l b D z yX12_isSaid cX12_isSaid 2 none rm_X12_isSaid (qE none r nx) 0 [(0, .ref a0), (1, .int a1)] [] h nx 0 0
  unfold F_X12_isSaid at hF
  refine g_aload_n 0 dX12_isSaid_0 rfl ?_
  obtain ⟨x1, e2, hF⟩ := q_bind hF
  refine g_getfR fl_X12_50 e2 dX12_isSaid_1 ?_
  refine g_iconst dX12_isSaid_4 lt_iconst_4 ?_
  refine g_dup2 dX12_isSaid_5 rfl rfl ?_
  obtain ⟨x3, e4, hF⟩ := q_bind hF
  refine g_iald e4 dX12_isSaid_6 ?_
  refine g_aload_n 0 dX12_isSaid_7 rfl ?_
  refine g_iload_n 1 dX12_isSaid_8 rfl ?_
  obtain ⟨u5, e6, hF⟩ := q_bind hF
  obtain ⟨x7, e8, hF⟩ := q_bind hF
  refine g_callVr0 (ci := 12) (q := (RX12, TX12, 49)) qm_X12_harmOf wd_1844 wd_1846 wd_118 rfl e6 (M_X12_harmOf l b D z nx e8) (As := [.int a1]) rfl rfl (Nat.le_of_ble_eq_true rfl) ⟨(Nat.le_of_ble_eq_true rfl), (Nat.le_of_ble_eq_true rfl)⟩ ⟨rfl, rfl⟩ ⟨(Nat.le_of_ble_eq_true rfl), (Nat.le_of_ble_eq_true rfl)⟩ dX12_isSaid_9 ?_
  refine g_iadd dX12_isSaid_12 ?_
  obtain ⟨h9, e10, hF⟩ := q_bind hF
  refine g_iast e10 dX12_isSaid_13 ?_
  refine g_aload_n 0 dX12_isSaid_14 rfl ?_
  obtain ⟨x11, e12, hF⟩ := q_bind hF
  refine g_getfR fl_X12_50 e12 dX12_isSaid_15 ?_
  refine g_bipush dX12_isSaid_18 lt_bipush_10 ?_
  refine g_aload_n 0 dX12_isSaid_20 rfl ?_
  refine g_iload_n 1 dX12_isSaid_21 rfl ?_
  obtain ⟨u13, e14, hF⟩ := q_bind hF
  obtain ⟨x15, e16, hF⟩ := q_bind hF
  refine g_callVr0 (ci := 12) (q := (RX12, TX12, 49)) qm_X12_who wd_1836 wd_1838 wd_116 rfl e14 (M_X12_who l b D z nx e16) (As := [.int a1]) rfl rfl (Nat.le_of_ble_eq_true rfl) ⟨(Nat.le_of_ble_eq_true rfl), (Nat.le_of_ble_eq_true rfl)⟩ ⟨rfl, rfl⟩ ⟨(Nat.le_of_ble_eq_true rfl), (Nat.le_of_ble_eq_true rfl)⟩ dX12_isSaid_22 ?_
  refine g_iadd dX12_isSaid_25 ?_
  refine g_dup2 dX12_isSaid_26 rfl rfl ?_
  obtain ⟨x17, e18, hF⟩ := q_bind hF
  refine g_iald e18 dX12_isSaid_27 ?_
  refine g_iconst dX12_isSaid_28 lt_iconst_1 ?_
  refine g_iadd dX12_isSaid_29 ?_
  obtain ⟨h19, e20, hF⟩ := q_bind hF
  refine g_iast e20 dX12_isSaid_30 ?_
  refine g_aload_n 0 dX12_isSaid_31 rfl ?_
  refine g_iload_n 1 dX12_isSaid_32 rfl ?_
  obtain ⟨u21, e22, hF⟩ := q_bind hF
  obtain ⟨x23, e24, hF⟩ := q_bind hF
  refine g_callVv0 (ci := 12) (q := (RX12, TX12, 49)) qm_X12_goesOn wd_1848 wd_1850 wd_119 rfl e22 (M_X12_goesOn l b D z nx e24) (As := [.int a1]) rfl rfl (Nat.le_of_ble_eq_true rfl) ⟨(Nat.le_of_ble_eq_true rfl), (Nat.le_of_ble_eq_true rfl)⟩ ⟨rfl, rfl⟩ ⟨(Nat.le_of_ble_eq_true rfl), (Nat.le_of_ble_eq_true rfl)⟩ dX12_isSaid_33 ?_
  cases hF
  exact g_vret dX12_isSaid_36 rfl ⟨rfl, rfl, rfl⟩ (Nat.le_of_ble_eq_true rfl) (Nat.le_of_ble_eq_true rfl)
def rm_X12_says : Room := { frames := 4, cells := 0, slots := 0, locals := 84 }
set_option maxRecDepth 100000 in
set_option maxHeartbeats 4000000 in
theorem J_X12_says_26 (l : Launch) (b : Nat) (D : va_G) (z : Nat → Nat) {nx : Nat} {h : qH} {a0 : Nat} {a1 : Int32} {r : Int32 × qH} (hF : j_X12_says_26 h a0 a1  = some r) : Go l b D z yX12_says cX12_says 2 (some .boolean) rm_X12_says (qE (some (.int r.1)) r.2 nx) 26 [(0, .ref a0), (1, .int a1)] [] h nx 0 0 := by
  unfold j_X12_says_26 at hF
  refine g_aload_n 0 dX12_says_26 rfl ?_
  refine g_aload_n 0 dX12_says_27 rfl ?_
  refine g_iload_n 1 dX12_says_28 rfl ?_
  obtain ⟨u1, e2, hF⟩ := q_bind hF
  obtain ⟨x3, e4, hF⟩ := q_bind hF
  refine g_callVr0 (ci := 12) (q := (RX12, TX12, 49)) qm_X12_who wd_1836 wd_1838 wd_116 rfl e2 (M_X12_who l b D z nx e4) (As := [.int a1]) rfl rfl (Nat.le_of_ble_eq_true rfl) ⟨(Nat.le_of_ble_eq_true rfl), (Nat.le_of_ble_eq_true rfl)⟩ ⟨rfl, rfl⟩ ⟨(Nat.le_of_ble_eq_true rfl), (Nat.le_of_ble_eq_true rfl)⟩ dX12_says_29 ?_
  obtain ⟨u5, e6, hF⟩ := q_bind hF
  obtain ⟨x7, e8, hF⟩ := q_bind hF
  refine g_callVr0 (ci := 12) (q := (RX12, TX12, 49)) qm_X12_isThere wd_1821 wd_1823 wd_113 rfl e6 (M_X12_isThere l b D z nx e8) (As := [.int x3]) rfl rfl (Nat.le_of_ble_eq_true rfl) ⟨(Nat.le_of_ble_eq_true rfl), (Nat.le_of_ble_eq_true rfl)⟩ ⟨rfl, rfl⟩ ⟨(Nat.le_of_ble_eq_true rfl), (Nat.le_of_ble_eq_true rfl)⟩ dX12_says_32 ?_
  refine g_if_ne 40 dX12_says_35 (by decide) (fun c9 => ?_) (fun c9 => ?_)
  · replace hF := q_f c9 hF
    refine g_iload_n 1 dX12_says_40 rfl ?_
    refine g_aload_n 0 dX12_says_41 rfl ?_
    obtain ⟨x10, e11, hF⟩ := q_bind hF
    refine g_getfR fl_X12_50 e11 dX12_says_42 ?_
    refine g_iconst dX12_says_45 lt_iconst_2 ?_
    obtain ⟨x12, e13, hF⟩ := q_bind hF
    refine g_iald e13 dX12_says_46 ?_
    refine g_icmp_eq 83 dX12_says_47 (by decide) (fun c14 => ?_) (fun c14 => ?_)
    · replace hF := q_t c14 hF
      refine g_aload_n 0 dX12_says_83 rfl ?_
      refine g_iload_n 1 dX12_says_84 rfl ?_
      obtain ⟨u15, e16, hF⟩ := q_bind hF
      obtain ⟨x17, e18, hF⟩ := q_bind hF
      refine g_callVv0 (ci := 12) (q := (RX12, TX12, 49)) qm_X12_isSaid wd_1840 wd_1842 wd_117 rfl e16 (M_X12_isSaid l b D z nx e18) (As := [.int a1]) rfl rfl (Nat.le_of_ble_eq_true rfl) ⟨(Nat.le_of_ble_eq_true rfl), (Nat.le_of_ble_eq_true rfl)⟩ ⟨rfl, rfl⟩ ⟨(Nat.le_of_ble_eq_true rfl), (Nat.le_of_ble_eq_true rfl)⟩ dX12_says_85 ?_
      refine g_iconst dX12_says_88 lt_iconst_1 ?_
      cases hF
      exact g_zret dX12_says_89 rfl zn_1 ⟨rfl, rfl, rfl⟩ (Nat.le_of_ble_eq_true rfl) (Nat.le_of_ble_eq_true rfl)
    · replace hF := q_f c14 hF
      refine g_aload_n 0 dX12_says_50 rfl ?_
      obtain ⟨x19, e20, hF⟩ := q_bind hF
      refine g_getfR fl_X12_50 e20 dX12_says_51 ?_
      refine g_iconst dX12_says_54 lt_iconst_5 ?_
      refine g_dup2 dX12_says_55 rfl rfl ?_
      obtain ⟨x21, e22, hF⟩ := q_bind hF
      refine g_iald e22 dX12_says_56 ?_
      refine g_iconst dX12_says_57 lt_iconst_1 ?_
      refine g_iadd dX12_says_58 ?_
      obtain ⟨h23, e24, hF⟩ := q_bind hF
      refine g_iast e24 dX12_says_59 ?_
      refine g_aload_n 0 dX12_says_60 rfl ?_
      obtain ⟨x25, e26, hF⟩ := q_bind hF
      refine g_getfR fl_X12_50 e26 dX12_says_61 ?_
      refine g_bipush dX12_says_64 lt_bipush_6 ?_
      refine g_iconst dX12_says_66 lt_iconst_0 ?_
      refine g_aload_n 0 dX12_says_67 rfl ?_
      obtain ⟨x27, e28, hF⟩ := q_bind hF
      refine g_getfR fl_X12_50 e28 dX12_says_68 ?_
      refine g_iconst dX12_says_71 lt_iconst_5 ?_
      obtain ⟨x29, e30, hF⟩ := q_bind hF
      refine g_iald e30 dX12_says_72 ?_
      refine g_aload_n 0 dX12_says_73 rfl ?_
      refine g_iconst dX12_says_74 lt_iconst_2 ?_
      obtain ⟨u31, e32, hF⟩ := q_bind hF
      obtain ⟨x33, e34, hF⟩ := q_bind hF
      refine g_callVr0 (ci := 12) (q := (RX12, TX12, 49)) qm_X12_of wd_1754 wd_1756 wd_100 rfl e32 (M_X12_of l b D z nx e34) (As := [.int (2 : Int32)]) rfl rfl (Nat.le_of_ble_eq_true rfl) ⟨(Nat.le_of_ble_eq_true rfl), (Nat.le_of_ble_eq_true rfl)⟩ ⟨rfl, rfl⟩ ⟨(Nat.le_of_ble_eq_true rfl), (Nat.le_of_ble_eq_true rfl)⟩ dX12_says_75 ?_
      refine g_isub dX12_says_78 ?_
      obtain ⟨x35, e36, hF⟩ := q_bind hF
      refine g_callSr0 qm_X12_greater wd_1692 wd_1693 (M_X12_greater l b D z nx e36) (As := [.int (0 : Int32), .int (x29 - x33)]) rfl rfl (Nat.le_of_ble_eq_true rfl) ⟨(Nat.le_of_ble_eq_true rfl), (Nat.le_of_ble_eq_true rfl)⟩ ⟨rfl, rfl⟩ ⟨(Nat.le_of_ble_eq_true rfl), (Nat.le_of_ble_eq_true rfl)⟩ dX12_says_79 ?_
      obtain ⟨h37, e38, hF⟩ := q_bind hF
      refine g_iast e38 dX12_says_82 ?_
      refine g_aload_n 0 dX12_says_83 rfl ?_
      refine g_iload_n 1 dX12_says_84 rfl ?_
      obtain ⟨u39, e40, hF⟩ := q_bind hF
      obtain ⟨x41, e42, hF⟩ := q_bind hF
      refine g_callVv0 (ci := 12) (q := (RX12, TX12, 49)) qm_X12_isSaid wd_1840 wd_1842 wd_117 rfl e40 (M_X12_isSaid l b D z nx e42) (As := [.int a1]) rfl rfl (Nat.le_of_ble_eq_true rfl) ⟨(Nat.le_of_ble_eq_true rfl), (Nat.le_of_ble_eq_true rfl)⟩ ⟨rfl, rfl⟩ ⟨(Nat.le_of_ble_eq_true rfl), (Nat.le_of_ble_eq_true rfl)⟩ dX12_says_85 ?_
      refine g_iconst dX12_says_88 lt_iconst_1 ?_
      cases hF
      exact g_zret dX12_says_89 rfl zn_1 ⟨rfl, rfl, rfl⟩ (Nat.le_of_ble_eq_true rfl) (Nat.le_of_ble_eq_true rfl)
  · replace hF := q_t c9 hF
    refine g_iconst dX12_says_38 lt_iconst_0 ?_
    cases hF
    exact g_zret dX12_says_39 rfl zn_0 ⟨rfl, rfl, rfl⟩ (Nat.le_of_ble_eq_true rfl) (Nat.le_of_ble_eq_true rfl)
set_option maxRecDepth 100000 in
set_option maxHeartbeats 4000000 in
theorem M_X12_says (l : Launch) (b : Nat) (D : va_G) (z : Nat → Nat) (nx : Nat) {h : qH} {a0 : Nat} {a1 : Int32} {r : Int32 × qH} (hF : F_X12_says h a0 a1 = some r) : Me l b D z yX12_says cX12_says 2 (some .boolean) rm_X12_says [.ref a0, .int a1] h nx (qE (some (.int r.1)) r.2 nx) := by
  refine Me.of (by decide +kernel) (Nat.le_of_ble_eq_true rfl) ?_
  show Go l b D z yX12_says cX12_says 2 (some .boolean) rm_X12_says (qE (some (.int r.1)) r.2 nx) 0 [(0, .ref a0), (1, .int a1)] [] h nx 0 0
  unfold F_X12_says at hF
  refine g_aload_n 0 dX12_says_0 rfl ?_
  refine g_iload_n 1 dX12_says_1 rfl ?_
  obtain ⟨u1, e2, hF⟩ := q_bind hF
  obtain ⟨x3, e4, hF⟩ := q_bind hF
  refine g_callVr0 (ci := 12) (q := (RX12, TX12, 49)) qm_X12_isLine wd_1765 wd_1767 wd_102 rfl e2 (M_X12_isLine l b D z nx e4) (As := [.int a1]) rfl rfl (Nat.le_of_ble_eq_true rfl) ⟨(Nat.le_of_ble_eq_true rfl), (Nat.le_of_ble_eq_true rfl)⟩ ⟨rfl, rfl⟩ ⟨(Nat.le_of_ble_eq_true rfl), (Nat.le_of_ble_eq_true rfl)⟩ dX12_says_2 ?_
  refine g_if_eq 38 dX12_says_5 (by decide) (fun c5 => ?_) (fun c5 => ?_)
  · replace hF := q_t c5 hF
    refine g_iconst dX12_says_38 lt_iconst_0 ?_
    cases hF
    exact g_zret dX12_says_39 rfl zn_0 ⟨rfl, rfl, rfl⟩ (Nat.le_of_ble_eq_true rfl) (Nat.le_of_ble_eq_true rfl)
  · replace hF := q_f c5 hF
    refine g_iload_n 1 dX12_says_8 rfl ?_
    refine g_aload_n 0 dX12_says_9 rfl ?_
    obtain ⟨x6, e7, hF⟩ := q_bind hF
    refine g_getfR fl_X12_50 e7 dX12_says_10 ?_
    refine g_iconst dX12_says_13 lt_iconst_2 ?_
    obtain ⟨x8, e9, hF⟩ := q_bind hF
    refine g_iald e9 dX12_says_14 ?_
    refine g_icmp_eq 26 dX12_says_15 (by decide) (fun c10 => ?_) (fun c10 => ?_)
    · replace hF := q_t c10 hF
      exact J_X12_says_26 l b D z hF
    · replace hF := q_f c10 hF
      refine g_aload_n 0 dX12_says_18 rfl ?_
      refine g_iload_n 1 dX12_says_19 rfl ?_
      obtain ⟨u11, e12, hF⟩ := q_bind hF
      obtain ⟨x13, e14, hF⟩ := q_bind hF
      refine g_callVr0 (ci := 12) (q := (RX12, TX12, 49)) qm_X12_isFollower wd_1832 wd_1834 wd_115 rfl e12 (M_X12_isFollower l b D z nx e14) (As := [.int a1]) rfl rfl (Nat.le_of_ble_eq_true rfl) ⟨(Nat.le_of_ble_eq_true rfl), (Nat.le_of_ble_eq_true rfl)⟩ ⟨rfl, rfl⟩ ⟨(Nat.le_of_ble_eq_true rfl), (Nat.le_of_ble_eq_true rfl)⟩ dX12_says_20 ?_
      refine g_if_eq 38 dX12_says_23 (by decide) (fun c15 => ?_) (fun c15 => ?_)
      · replace hF := q_t c15 hF
        refine g_iconst dX12_says_38 lt_iconst_0 ?_
        cases hF
        exact g_zret dX12_says_39 rfl zn_0 ⟨rfl, rfl, rfl⟩ (Nat.le_of_ble_eq_true rfl) (Nat.le_of_ble_eq_true rfl)
      · replace hF := q_f c15 hF
        exact J_X12_says_26 l b D z hF
def rm_X12_dries : Room := { frames := 2, cells := 0, slots := 0, locals := 42 }
set_option maxRecDepth 100000 in
set_option maxHeartbeats 4000000 in
theorem M_X12_dries (l : Launch) (b : Nat) (D : va_G) (z : Nat → Nat) (nx : Nat) {h : qH} {a0 : Nat} {r : Int32 × qH} (hF : F_X12_dries h a0 = some r) : Me l b D z yX12_dries cX12_dries 1 (some .boolean) rm_X12_dries [.ref a0] h nx (qE (some (.int r.1)) r.2 nx) := by
  refine Me.of (by decide +kernel) (Nat.le_of_ble_eq_true rfl) ?_
  show Go l b D z yX12_dries cX12_dries 1 (some .boolean) rm_X12_dries (qE (some (.int r.1)) r.2 nx) 0 [(0, .ref a0)] [] h nx 0 0
  unfold F_X12_dries at hF
  refine g_aload_n 0 dX12_dries_0 rfl ?_
  obtain ⟨x1, e2, hF⟩ := q_bind hF
  refine g_getfR fl_X12_50 e2 dX12_dries_1 ?_
  refine g_iconst dX12_dries_4 lt_iconst_2 ?_
  obtain ⟨x3, e4, hF⟩ := q_bind hF
  refine g_iald e4 dX12_dries_5 ?_
  refine g_iconst dX12_dries_6 lt_iconst_m1 ?_
  refine g_icmp_eq 27 dX12_dries_7 (by decide) (fun c5 => ?_) (fun c5 => ?_)
  · replace hF := q_t c5 hF
    refine g_iconst dX12_dries_27 lt_iconst_0 ?_
    cases hF
    exact g_zret dX12_dries_28 rfl zn_0 ⟨rfl, rfl, rfl⟩ (Nat.le_of_ble_eq_true rfl) (Nat.le_of_ble_eq_true rfl)
  · replace hF := q_f c5 hF
    refine g_aload_n 0 dX12_dries_10 rfl ?_
    refine g_aload_n 0 dX12_dries_11 rfl ?_
    refine g_aload_n 0 dX12_dries_12 rfl ?_
    obtain ⟨x6, e7, hF⟩ := q_bind hF
    refine g_getfR fl_X12_50 e7 dX12_dries_13 ?_
    refine g_iconst dX12_dries_16 lt_iconst_2 ?_
    obtain ⟨x8, e9, hF⟩ := q_bind hF
    refine g_iald e9 dX12_dries_17 ?_
    obtain ⟨u10, e11, hF⟩ := q_bind hF
    obtain ⟨x12, e13, hF⟩ := q_bind hF
    refine g_callVr0 (ci := 12) (q := (RX12, TX12, 49)) qm_X12_who wd_1836 wd_1838 wd_116 rfl e11 (M_X12_who l b D z nx e13) (As := [.int x8]) rfl rfl (Nat.le_of_ble_eq_true rfl) ⟨(Nat.le_of_ble_eq_true rfl), (Nat.le_of_ble_eq_true rfl)⟩ ⟨rfl, rfl⟩ ⟨(Nat.le_of_ble_eq_true rfl), (Nat.le_of_ble_eq_true rfl)⟩ dX12_dries_18 ?_
    obtain ⟨u14, e15, hF⟩ := q_bind hF
    obtain ⟨x16, e17, hF⟩ := q_bind hF
    refine g_callVr0 (ci := 12) (q := (RX12, TX12, 49)) qm_X12_isThere wd_1821 wd_1823 wd_113 rfl e15 (M_X12_isThere l b D z nx e17) (As := [.int x12]) rfl rfl (Nat.le_of_ble_eq_true rfl) ⟨(Nat.le_of_ble_eq_true rfl), (Nat.le_of_ble_eq_true rfl)⟩ ⟨rfl, rfl⟩ ⟨(Nat.le_of_ble_eq_true rfl), (Nat.le_of_ble_eq_true rfl)⟩ dX12_dries_21 ?_
    refine g_if_ne 29 dX12_dries_24 (by decide) (fun c18 => ?_) (fun c18 => ?_)
    · replace hF := q_f c18 hF
      refine g_aload_n 0 dX12_dries_29 rfl ?_
      obtain ⟨x19, e20, hF⟩ := q_bind hF
      refine g_getfR fl_X12_50 e20 dX12_dries_30 ?_
      refine g_bipush dX12_dries_33 lt_bipush_20 ?_
      refine g_aload_n 0 dX12_dries_35 rfl ?_
      refine g_aload_n 0 dX12_dries_36 rfl ?_
      obtain ⟨x21, e22, hF⟩ := q_bind hF
      refine g_getfR fl_X12_50 e22 dX12_dries_37 ?_
      refine g_iconst dX12_dries_40 lt_iconst_2 ?_
      obtain ⟨x23, e24, hF⟩ := q_bind hF
      refine g_iald e24 dX12_dries_41 ?_
      obtain ⟨u25, e26, hF⟩ := q_bind hF
      obtain ⟨x27, e28, hF⟩ := q_bind hF
      refine g_callVr0 (ci := 12) (q := (RX12, TX12, 49)) qm_X12_who wd_1836 wd_1838 wd_116 rfl e26 (M_X12_who l b D z nx e28) (As := [.int x23]) rfl rfl (Nat.le_of_ble_eq_true rfl) ⟨(Nat.le_of_ble_eq_true rfl), (Nat.le_of_ble_eq_true rfl)⟩ ⟨rfl, rfl⟩ ⟨(Nat.le_of_ble_eq_true rfl), (Nat.le_of_ble_eq_true rfl)⟩ dX12_dries_42 ?_
      refine g_iadd dX12_dries_45 ?_
      refine g_dup2 dX12_dries_46 rfl rfl ?_
      obtain ⟨x29, e30, hF⟩ := q_bind hF
      refine g_iald e30 dX12_dries_47 ?_
      refine g_iconst dX12_dries_48 lt_iconst_1 ?_
      refine g_iadd dX12_dries_49 ?_
      obtain ⟨h31, e32, hF⟩ := q_bind hF
      refine g_iast e32 dX12_dries_50 ?_
      refine g_aload_n 0 dX12_dries_51 rfl ?_
      obtain ⟨x33, e34, hF⟩ := q_bind hF
      refine g_getfR fl_X12_50 e34 dX12_dries_52 ?_
      refine g_iconst dX12_dries_55 lt_iconst_3 ?_
      refine g_dup2 dX12_dries_56 rfl rfl ?_
      obtain ⟨x35, e36, hF⟩ := q_bind hF
      refine g_iald e36 dX12_dries_57 ?_
      refine g_iconst dX12_dries_58 lt_iconst_1 ?_
      refine g_iadd dX12_dries_59 ?_
      obtain ⟨h37, e38, hF⟩ := q_bind hF
      refine g_iast e38 dX12_dries_60 ?_
      refine g_iconst dX12_dries_61 lt_iconst_1 ?_
      cases hF
      exact g_zret dX12_dries_62 rfl zn_1 ⟨rfl, rfl, rfl⟩ (Nat.le_of_ble_eq_true rfl) (Nat.le_of_ble_eq_true rfl)
    · replace hF := q_t c18 hF
      refine g_iconst dX12_dries_27 lt_iconst_0 ?_
      cases hF
      exact g_zret dX12_dries_28 rfl zn_0 ⟨rfl, rfl, rfl⟩ (Nat.le_of_ble_eq_true rfl) (Nat.le_of_ble_eq_true rfl)
def rm_X12_isPrompted : Room := { frames := 4, cells := 0, slots := 0, locals := 84 }
set_option maxRecDepth 100000 in
set_option maxHeartbeats 4000000 in
theorem M_X12_isPrompted (l : Launch) (b : Nat) (D : va_G) (z : Nat → Nat) (nx : Nat) {h : qH} {a0 : Nat} {r : Int32 × qH} (hF : F_X12_isPrompted h a0 = some r) : Me l b D z yX12_isPrompted cX12_isPrompted 1 (some .boolean) rm_X12_isPrompted [.ref a0] h nx (qE (some (.int r.1)) r.2 nx) := by
  refine Me.of (by decide +kernel) (Nat.le_of_ble_eq_true rfl) ?_
  show Go l b D z yX12_isPrompted cX12_isPrompted 1 (some .boolean) rm_X12_isPrompted (qE (some (.int r.1)) r.2 nx) 0 [(0, .ref a0)] [] h nx 0 0
  unfold F_X12_isPrompted at hF
  refine g_aload_n 0 dX12_isPrompted_0 rfl ?_
  obtain ⟨x1, e2, hF⟩ := q_bind hF
  refine g_getfR fl_X12_50 e2 dX12_isPrompted_1 ?_
  refine g_iconst dX12_isPrompted_4 lt_iconst_3 ?_
  obtain ⟨x3, e4, hF⟩ := q_bind hF
  refine g_iald e4 dX12_isPrompted_5 ?_
  refine g_if_eq 36 dX12_isPrompted_6 (by decide) (fun c5 => ?_) (fun c5 => ?_)
  · replace hF := q_t c5 hF
    refine g_iconst dX12_isPrompted_36 lt_iconst_0 ?_
    cases hF
    exact g_zret dX12_isPrompted_37 rfl zn_0 ⟨rfl, rfl, rfl⟩ (Nat.le_of_ble_eq_true rfl) (Nat.le_of_ble_eq_true rfl)
  · replace hF := q_f c5 hF
    refine g_aload_n 0 dX12_isPrompted_9 rfl ?_
    obtain ⟨x6, e7, hF⟩ := q_bind hF
    refine g_getfR fl_X12_50 e7 dX12_isPrompted_10 ?_
    refine g_iconst dX12_isPrompted_13 lt_iconst_2 ?_
    obtain ⟨x8, e9, hF⟩ := q_bind hF
    refine g_iald e9 dX12_isPrompted_14 ?_
    refine g_iconst dX12_isPrompted_15 lt_iconst_m1 ?_
    refine g_icmp_eq 36 dX12_isPrompted_16 (by decide) (fun c10 => ?_) (fun c10 => ?_)
    · replace hF := q_t c10 hF
      refine g_iconst dX12_isPrompted_36 lt_iconst_0 ?_
      cases hF
      exact g_zret dX12_isPrompted_37 rfl zn_0 ⟨rfl, rfl, rfl⟩ (Nat.le_of_ble_eq_true rfl) (Nat.le_of_ble_eq_true rfl)
    · replace hF := q_f c10 hF
      refine g_aload_n 0 dX12_isPrompted_19 rfl ?_
      refine g_aload_n 0 dX12_isPrompted_20 rfl ?_
      refine g_aload_n 0 dX12_isPrompted_21 rfl ?_
      obtain ⟨x11, e12, hF⟩ := q_bind hF
      refine g_getfR fl_X12_50 e12 dX12_isPrompted_22 ?_
      refine g_iconst dX12_isPrompted_25 lt_iconst_2 ?_
      obtain ⟨x13, e14, hF⟩ := q_bind hF
      refine g_iald e14 dX12_isPrompted_26 ?_
      obtain ⟨u15, e16, hF⟩ := q_bind hF
      obtain ⟨x17, e18, hF⟩ := q_bind hF
      refine g_callVr0 (ci := 12) (q := (RX12, TX12, 49)) qm_X12_who wd_1836 wd_1838 wd_116 rfl e16 (M_X12_who l b D z nx e18) (As := [.int x13]) rfl rfl (Nat.le_of_ble_eq_true rfl) ⟨(Nat.le_of_ble_eq_true rfl), (Nat.le_of_ble_eq_true rfl)⟩ ⟨rfl, rfl⟩ ⟨(Nat.le_of_ble_eq_true rfl), (Nat.le_of_ble_eq_true rfl)⟩ dX12_isPrompted_27 ?_
      obtain ⟨u19, e20, hF⟩ := q_bind hF
      obtain ⟨x21, e22, hF⟩ := q_bind hF
      refine g_callVr0 (ci := 12) (q := (RX12, TX12, 49)) qm_X12_isThere wd_1821 wd_1823 wd_113 rfl e20 (M_X12_isThere l b D z nx e22) (As := [.int x17]) rfl rfl (Nat.le_of_ble_eq_true rfl) ⟨(Nat.le_of_ble_eq_true rfl), (Nat.le_of_ble_eq_true rfl)⟩ ⟨rfl, rfl⟩ ⟨(Nat.le_of_ble_eq_true rfl), (Nat.le_of_ble_eq_true rfl)⟩ dX12_isPrompted_30 ?_
      refine g_if_ne 38 dX12_isPrompted_33 (by decide) (fun c23 => ?_) (fun c23 => ?_)
      · replace hF := q_f c23 hF
        refine g_aload_n 0 dX12_isPrompted_38 rfl ?_
        obtain ⟨x24, e25, hF⟩ := q_bind hF
        refine g_getfR fl_X12_50 e25 dX12_isPrompted_39 ?_
        refine g_bipush dX12_isPrompted_42 lt_bipush_7 ?_
        refine g_dup2 dX12_isPrompted_44 rfl rfl ?_
        obtain ⟨x26, e27, hF⟩ := q_bind hF
        refine g_iald e27 dX12_isPrompted_45 ?_
        refine g_iconst dX12_isPrompted_46 lt_iconst_1 ?_
        refine g_iadd dX12_isPrompted_47 ?_
        obtain ⟨h28, e29, hF⟩ := q_bind hF
        refine g_iast e29 dX12_isPrompted_48 ?_
        refine g_aload_n 0 dX12_isPrompted_49 rfl ?_
        refine g_aload_n 0 dX12_isPrompted_50 rfl ?_
        obtain ⟨x30, e31, hF⟩ := q_bind hF
        refine g_getfR fl_X12_50 e31 dX12_isPrompted_51 ?_
        refine g_iconst dX12_isPrompted_54 lt_iconst_2 ?_
        obtain ⟨x32, e33, hF⟩ := q_bind hF
        refine g_iald e33 dX12_isPrompted_55 ?_
        obtain ⟨u34, e35, hF⟩ := q_bind hF
        obtain ⟨x36, e37, hF⟩ := q_bind hF
        refine g_callVv0 (ci := 12) (q := (RX12, TX12, 49)) qm_X12_isSaid wd_1840 wd_1842 wd_117 rfl e35 (M_X12_isSaid l b D z nx e37) (As := [.int x32]) rfl rfl (Nat.le_of_ble_eq_true rfl) ⟨(Nat.le_of_ble_eq_true rfl), (Nat.le_of_ble_eq_true rfl)⟩ ⟨rfl, rfl⟩ ⟨(Nat.le_of_ble_eq_true rfl), (Nat.le_of_ble_eq_true rfl)⟩ dX12_isPrompted_56 ?_
        refine g_iconst dX12_isPrompted_59 lt_iconst_1 ?_
        cases hF
        exact g_zret dX12_isPrompted_60 rfl zn_1 ⟨rfl, rfl, rfl⟩ (Nat.le_of_ble_eq_true rfl) (Nat.le_of_ble_eq_true rfl)
      · replace hF := q_t c23 hF
        refine g_iconst dX12_isPrompted_36 lt_iconst_0 ?_
        cases hF
        exact g_zret dX12_isPrompted_37 rfl zn_0 ⟨rfl, rfl, rfl⟩ (Nat.le_of_ble_eq_true rfl) (Nat.le_of_ble_eq_true rfl)
def rm_X12_isCut : Room := { frames := 2, cells := 0, slots := 0, locals := 43 }
set_option maxRecDepth 100000 in
set_option maxHeartbeats 4000000 in
theorem J_X12_isCut_43 (l : Launch) (b : Nat) (D : va_G) (z : Nat → Nat) {nx : Nat} {h : qH} {a0 : Nat} {r : Int32 × qH} (hF : j_X12_isCut_43 h a0  = some r) : Go l b D z yX12_isCut cX12_isCut 1 (some .boolean) rm_X12_isCut (qE (some (.int r.1)) r.2 nx) 43 [(0, .ref a0)] [] h nx 0 0 := by
  unfold j_X12_isCut_43 at hF
  refine g_aload_n 0 dX12_isCut_43 rfl ?_
  obtain ⟨x1, e2, hF⟩ := q_bind hF
  refine g_getfR fl_X12_50 e2 dX12_isCut_44 ?_
  refine g_bipush dX12_isCut_47 lt_bipush_8 ?_
  refine g_dup2 dX12_isCut_49 rfl rfl ?_
  obtain ⟨x3, e4, hF⟩ := q_bind hF
  refine g_iald e4 dX12_isCut_50 ?_
  refine g_iconst dX12_isCut_51 lt_iconst_1 ?_
  refine g_iadd dX12_isCut_52 ?_
  obtain ⟨h5, e6, hF⟩ := q_bind hF
  refine g_iast e6 dX12_isCut_53 ?_
  refine g_aload_n 0 dX12_isCut_54 rfl ?_
  refine g_aload_n 0 dX12_isCut_55 rfl ?_
  obtain ⟨x7, e8, hF⟩ := q_bind hF
  refine g_getfR fl_X12_50 e8 dX12_isCut_56 ?_
  refine g_iconst dX12_isCut_59 lt_iconst_2 ?_
  obtain ⟨x9, e10, hF⟩ := q_bind hF
  refine g_iald e10 dX12_isCut_60 ?_
  obtain ⟨u11, e12, hF⟩ := q_bind hF
  obtain ⟨x13, e14, hF⟩ := q_bind hF
  refine g_callVv0 (ci := 12) (q := (RX12, TX12, 49)) qm_X12_goesOn wd_1848 wd_1850 wd_119 rfl e12 (M_X12_goesOn l b D z nx e14) (As := [.int x9]) rfl rfl (Nat.le_of_ble_eq_true rfl) ⟨(Nat.le_of_ble_eq_true rfl), (Nat.le_of_ble_eq_true rfl)⟩ ⟨rfl, rfl⟩ ⟨(Nat.le_of_ble_eq_true rfl), (Nat.le_of_ble_eq_true rfl)⟩ dX12_isCut_61 ?_
  refine g_iconst dX12_isCut_64 lt_iconst_1 ?_
  cases hF
  exact g_zret dX12_isCut_65 rfl zn_1 ⟨rfl, rfl, rfl⟩ (Nat.le_of_ble_eq_true rfl) (Nat.le_of_ble_eq_true rfl)
set_option maxRecDepth 100000 in
set_option maxHeartbeats 4000000 in
theorem M_X12_isCut (l : Launch) (b : Nat) (D : va_G) (z : Nat → Nat) (nx : Nat) {h : qH} {a0 : Nat} {r : Int32 × qH} (hF : F_X12_isCut h a0 = some r) : Me l b D z yX12_isCut cX12_isCut 1 (some .boolean) rm_X12_isCut [.ref a0] h nx (qE (some (.int r.1)) r.2 nx) := by
  refine Me.of (by decide +kernel) (Nat.le_of_ble_eq_true rfl) ?_
  show Go l b D z yX12_isCut cX12_isCut 1 (some .boolean) rm_X12_isCut (qE (some (.int r.1)) r.2 nx) 0 [(0, .ref a0)] [] h nx 0 0
  unfold F_X12_isCut at hF
  refine g_aload_n 0 dX12_isCut_0 rfl ?_
  obtain ⟨x1, e2, hF⟩ := q_bind hF
  refine g_getfR fl_X12_50 e2 dX12_isCut_1 ?_
  refine g_iconst dX12_isCut_4 lt_iconst_2 ?_
  obtain ⟨x3, e4, hF⟩ := q_bind hF
  refine g_iald e4 dX12_isCut_5 ?_
  refine g_iconst dX12_isCut_6 lt_iconst_m1 ?_
  refine g_icmp_eq 41 dX12_isCut_7 (by decide) (fun c5 => ?_) (fun c5 => ?_)
  · replace hF := q_t c5 hF
    refine g_iconst dX12_isCut_41 lt_iconst_0 ?_
    cases hF
    exact g_zret dX12_isCut_42 rfl zn_0 ⟨rfl, rfl, rfl⟩ (Nat.le_of_ble_eq_true rfl) (Nat.le_of_ble_eq_true rfl)
  · replace hF := q_f c5 hF
    refine g_aload_n 0 dX12_isCut_10 rfl ?_
    obtain ⟨x6, e7, hF⟩ := q_bind hF
    refine g_getfR fl_X12_50 e7 dX12_isCut_11 ?_
    refine g_iconst dX12_isCut_14 lt_iconst_3 ?_
    obtain ⟨x8, e9, hF⟩ := q_bind hF
    refine g_iald e9 dX12_isCut_15 ?_
    refine g_aload_n 0 dX12_isCut_16 rfl ?_
    refine g_iconst dX12_isCut_17 lt_iconst_3 ?_
    obtain ⟨u10, e11, hF⟩ := q_bind hF
    obtain ⟨x12, e13, hF⟩ := q_bind hF
    refine g_callVr0 (ci := 12) (q := (RX12, TX12, 49)) qm_X12_of wd_1754 wd_1756 wd_100 rfl e11 (M_X12_of l b D z nx e13) (As := [.int (3 : Int32)]) rfl rfl (Nat.le_of_ble_eq_true rfl) ⟨(Nat.le_of_ble_eq_true rfl), (Nat.le_of_ble_eq_true rfl)⟩ ⟨rfl, rfl⟩ ⟨(Nat.le_of_ble_eq_true rfl), (Nat.le_of_ble_eq_true rfl)⟩ dX12_isCut_18 ?_
    refine g_icmp_ge 43 dX12_isCut_21 (by decide) (fun c14 => ?_) (fun c14 => ?_)
    · replace hF := q_t c14 hF
      exact J_X12_isCut_43 l b D z hF
    · replace hF := q_f c14 hF
      refine g_aload_n 0 dX12_isCut_24 rfl ?_
      refine g_aload_n 0 dX12_isCut_25 rfl ?_
      refine g_aload_n 0 dX12_isCut_26 rfl ?_
      obtain ⟨x15, e16, hF⟩ := q_bind hF
      refine g_getfR fl_X12_50 e16 dX12_isCut_27 ?_
      refine g_iconst dX12_isCut_30 lt_iconst_2 ?_
      obtain ⟨x17, e18, hF⟩ := q_bind hF
      refine g_iald e18 dX12_isCut_31 ?_
      obtain ⟨u19, e20, hF⟩ := q_bind hF
      obtain ⟨x21, e22, hF⟩ := q_bind hF
      refine g_callVr0 (ci := 12) (q := (RX12, TX12, 49)) qm_X12_who wd_1836 wd_1838 wd_116 rfl e20 (M_X12_who l b D z nx e22) (As := [.int x17]) rfl rfl (Nat.le_of_ble_eq_true rfl) ⟨(Nat.le_of_ble_eq_true rfl), (Nat.le_of_ble_eq_true rfl)⟩ ⟨rfl, rfl⟩ ⟨(Nat.le_of_ble_eq_true rfl), (Nat.le_of_ble_eq_true rfl)⟩ dX12_isCut_32 ?_
      obtain ⟨u23, e24, hF⟩ := q_bind hF
      obtain ⟨x25, e26, hF⟩ := q_bind hF
      refine g_callVr0 (ci := 12) (q := (RX12, TX12, 49)) qm_X12_isThere wd_1821 wd_1823 wd_113 rfl e24 (M_X12_isThere l b D z nx e26) (As := [.int x21]) rfl rfl (Nat.le_of_ble_eq_true rfl) ⟨(Nat.le_of_ble_eq_true rfl), (Nat.le_of_ble_eq_true rfl)⟩ ⟨rfl, rfl⟩ ⟨(Nat.le_of_ble_eq_true rfl), (Nat.le_of_ble_eq_true rfl)⟩ dX12_isCut_35 ?_
      refine g_if_eq 43 dX12_isCut_38 (by decide) (fun c27 => ?_) (fun c27 => ?_)
      · replace hF := q_t c27 hF
        exact J_X12_isCut_43 l b D z hF
      · replace hF := q_f c27 hF
        refine g_iconst dX12_isCut_41 lt_iconst_0 ?_
        cases hF
        exact g_zret dX12_isCut_42 rfl zn_0 ⟨rfl, rfl, rfl⟩ (Nat.le_of_ble_eq_true rfl) (Nat.le_of_ble_eq_true rfl)
def rm_X12_goes : Room := { frames := 2, cells := 0, slots := 0, locals := 42 }
set_option maxRecDepth 100000 in
set_option maxHeartbeats 4000000 in
theorem M_X12_goes (l : Launch) (b : Nat) (D : va_G) (z : Nat → Nat) (nx : Nat) {h : qH} {a0 : Nat} {a1 : Int32} {a2 : Int32} {r : Int32 × qH} (hF : F_X12_goes h a0 a1 a2 = some r) : Me l b D z yX12_goes cX12_goes 3 (some .boolean) rm_X12_goes [.ref a0, .int a1, .int a2] h nx (qE (some (.int r.1)) r.2 nx) := by
  refine Me.of (by decide +kernel) (Nat.le_of_ble_eq_true rfl) ?_
  show Go l b D z yX12_goes cX12_goes 3 (some .boolean) rm_X12_goes (qE (some (.int r.1)) r.2 nx) 0 [(0, .ref a0), (1, .int a1), (2, .int a2)] [] h nx 0 0
  unfold F_X12_goes at hF
  refine g_aload_n 0 dX12_goes_0 rfl ?_
  refine g_iload_n 1 dX12_goes_1 rfl ?_
  obtain ⟨u1, e2, hF⟩ := q_bind hF
  obtain ⟨x3, e4, hF⟩ := q_bind hF
  refine g_callVr0 (ci := 12) (q := (RX12, TX12, 49)) qm_X12_isThere wd_1821 wd_1823 wd_113 rfl e2 (M_X12_isThere l b D z nx e4) (As := [.int a1]) rfl rfl (Nat.le_of_ble_eq_true rfl) ⟨(Nat.le_of_ble_eq_true rfl), (Nat.le_of_ble_eq_true rfl)⟩ ⟨rfl, rfl⟩ ⟨(Nat.le_of_ble_eq_true rfl), (Nat.le_of_ble_eq_true rfl)⟩ dX12_goes_2 ?_
  refine g_iload_n 2 dX12_goes_5 rfl ?_
  refine g_icmp_eq 11 dX12_goes_6 (by decide) (fun c5 => ?_) (fun c5 => ?_)
  · replace hF := q_t c5 hF
    refine g_aload_n 0 dX12_goes_11 rfl ?_
    obtain ⟨x6, e7, hF⟩ := q_bind hF
    refine g_getfR fl_X12_50 e7 dX12_goes_12 ?_
    refine g_bipush dX12_goes_15 lt_bipush_9 ?_
    refine g_dup2 dX12_goes_17 rfl rfl ?_
    obtain ⟨x8, e9, hF⟩ := q_bind hF
    refine g_iald e9 dX12_goes_18 ?_
    refine g_iconst dX12_goes_19 lt_iconst_1 ?_
    refine g_iload_n 1 dX12_goes_20 rfl ?_
    refine g_ishl dX12_goes_21 ?_
    refine g_ixor dX12_goes_22 ?_
    obtain ⟨h10, e11, hF⟩ := q_bind hF
    refine g_iast e11 dX12_goes_23 ?_
    refine g_iconst dX12_goes_24 lt_iconst_1 ?_
    cases hF
    exact g_zret dX12_goes_25 rfl zn_1 ⟨rfl, rfl, rfl⟩ (Nat.le_of_ble_eq_true rfl) (Nat.le_of_ble_eq_true rfl)
  · replace hF := q_f c5 hF
    refine g_iconst dX12_goes_9 lt_iconst_0 ?_
    cases hF
    exact g_zret dX12_goes_10 rfl zn_0 ⟨rfl, rfl, rfl⟩ (Nat.le_of_ble_eq_true rfl) (Nat.le_of_ble_eq_true rfl)
def rm_X12_waits : Room := { frames := 0, cells := 0, slots := 0, locals := 0 }
set_option maxRecDepth 100000 in
set_option maxHeartbeats 4000000 in
theorem M_X12_waits (l : Launch) (b : Nat) (D : va_G) (z : Nat → Nat) (nx : Nat) {h : qH} {a0 : Nat} {r : Int32 × qH} (hF : F_X12_waits h a0 = some r) : Me l b D z yX12_waits cX12_waits 1 (some .boolean) rm_X12_waits [.ref a0] h nx (qE (some (.int r.1)) r.2 nx) := by
  refine Me.of (by decide +kernel) (Nat.le_of_ble_eq_true rfl) ?_
  show Go l b D z yX12_waits cX12_waits 1 (some .boolean) rm_X12_waits (qE (some (.int r.1)) r.2 nx) 0 [(0, .ref a0)] [] h nx 0 0
  unfold F_X12_waits at hF
  refine g_aload_n 0 dX12_waits_0 rfl ?_
  obtain ⟨x1, e2, hF⟩ := q_bind hF
  refine g_getfR fl_X12_50 e2 dX12_waits_1 ?_
  refine g_iconst dX12_waits_4 lt_iconst_3 ?_
  refine g_dup2 dX12_waits_5 rfl rfl ?_
  obtain ⟨x3, e4, hF⟩ := q_bind hF
  refine g_iald e4 dX12_waits_6 ?_
  refine g_iconst dX12_waits_7 lt_iconst_1 ?_
  refine g_iadd dX12_waits_8 ?_
  obtain ⟨h5, e6, hF⟩ := q_bind hF
  refine g_iast e6 dX12_waits_9 ?_
  refine g_iconst dX12_waits_10 lt_iconst_1 ?_
  cases hF
  exact g_zret dX12_waits_11 rfl zn_1 ⟨rfl, rfl, rfl⟩ (Nat.le_of_ble_eq_true rfl) (Nat.le_of_ble_eq_true rfl)
def rm_X12_does : Room := { frames := 5, cells := 0, slots := 0, locals := 105 }
set_option maxRecDepth 100000 in
set_option maxHeartbeats 4000000 in
theorem J_X12_does_10 (l : Launch) (b : Nat) (D : va_G) (z : Nat → Nat) {nx : Nat} {h : qH} {a0 : Nat} {a1 : Int32} {a2 : Int32} {r : Int32 × qH} (hF : j_X12_does_10 h a0 a1 a2  = some r) : Go l b D z yX12_does cX12_does 4 (some .boolean) rm_X12_does (qE (some (.int r.1)) r.2 nx) 10 [(0, .ref a0), (1, .int a1), (2, .int a2)] [] h nx 0 0 := by
  unfold j_X12_does_10 at hF
  refine g_aload_n 0 dX12_does_10 rfl ?_
  refine g_iload_n 2 dX12_does_11 rfl ?_
  refine g_iload_n 1 dX12_does_12 rfl ?_
  refine g_iconst dX12_does_13 lt_iconst_1 ?_
  refine g_icmp_ne 21 dX12_does_14 (by decide) (fun c1 => ?_) (fun c1 => ?_)
  · replace hF := q_f c1 hF
    refine g_iconst dX12_does_21 lt_iconst_0 ?_
    obtain ⟨u2, e3, hF⟩ := q_bind hF
    obtain ⟨x4, e5, hF⟩ := q_bind hF
    refine g_callVr0 (ci := 12) (q := (RX12, TX12, 49)) qm_X12_goes wd_1817 wd_1819 wd_112 rfl e3 (M_X12_goes l b D z nx e5) (As := [.int a2, .int (0 : Int32)]) rfl rfl (Nat.le_of_ble_eq_true rfl) ⟨(Nat.le_of_ble_eq_true rfl), (Nat.le_of_ble_eq_true rfl)⟩ ⟨rfl, rfl⟩ ⟨(Nat.le_of_ble_eq_true rfl), (Nat.le_of_ble_eq_true rfl)⟩ dX12_does_22 ?_
    obtain ⟨u6, e7, hF⟩ := q_bind hF
    cases hF
    exact g_zret dX12_does_25 rfl (q_z_spec e7).2.1 ⟨rfl, rfl, rfl⟩ (Nat.le_of_ble_eq_true rfl) (Nat.le_of_ble_eq_true rfl)
  · replace hF := q_t c1 hF
    refine g_iconst dX12_does_17 lt_iconst_1 ?_
    refine g_goto 22 dX12_does_18 (by decide) ?_
    obtain ⟨u8, e9, hF⟩ := q_bind hF
    obtain ⟨x10, e11, hF⟩ := q_bind hF
    refine g_callVr0 (ci := 12) (q := (RX12, TX12, 49)) qm_X12_goes wd_1817 wd_1819 wd_112 rfl e9 (M_X12_goes l b D z nx e11) (As := [.int a2, .int (1 : Int32)]) rfl rfl (Nat.le_of_ble_eq_true rfl) ⟨(Nat.le_of_ble_eq_true rfl), (Nat.le_of_ble_eq_true rfl)⟩ ⟨rfl, rfl⟩ ⟨(Nat.le_of_ble_eq_true rfl), (Nat.le_of_ble_eq_true rfl)⟩ dX12_does_22 ?_
    obtain ⟨u12, e13, hF⟩ := q_bind hF
    cases hF
    exact g_zret dX12_does_25 rfl (q_z_spec e13).2.1 ⟨rfl, rfl, rfl⟩ (Nat.le_of_ble_eq_true rfl) (Nat.le_of_ble_eq_true rfl)
set_option maxRecDepth 100000 in
set_option maxHeartbeats 4000000 in
theorem J_X12_does_78 (l : Launch) (b : Nat) (D : va_G) (z : Nat → Nat) {nx : Nat} {h : qH} {a0 : Nat} {t0 : Int32} {r : Int32 × qH} (hF : j_X12_does_78 h a0 t0 = some r) : Go l b D z yX12_does cX12_does 4 (some .boolean) rm_X12_does (qE (some (.int r.1)) r.2 nx) 78 [(0, .ref a0)] [.int t0] h nx 0 0 := by
  unfold j_X12_does_78 at hF
  refine g_istore_n [(3, .int t0), (0, .ref a0)] dX12_does_78 (Nat.le_of_ble_eq_true rfl) rfl ?_
  refine g_aload_n 1 dX12_does_79 rfl ?_
  obtain ⟨x1, e2, hF⟩ := q_bind hF
  refine g_getfR fl_X12_50 e2 dX12_does_80 ?_
  refine g_iconst dX12_does_83 lt_iconst_0 ?_
  refine g_dup2 dX12_does_84 rfl rfl ?_
  obtain ⟨x3, e4, hF⟩ := q_bind hF
  refine g_iald e4 dX12_does_85 ?_
  refine g_iload_n 0 dX12_does_86 rfl ?_
  refine g_if_eq 94 dX12_does_87 (by decide) (fun c5 => ?_) (fun c5 => ?_)
  · replace hF := q_t c5 hF
    refine g_iconst dX12_does_94 lt_iconst_0 ?_
    refine g_iadd dX12_does_95 ?_
    obtain ⟨h6, e7, hF⟩ := q_bind hF
    refine g_iast e7 dX12_does_96 ?_
    refine g_iload_n 0 dX12_does_97 rfl ?_
    obtain ⟨u8, e9, hF⟩ := q_bind hF
    cases hF
    exact g_zret dX12_does_98 rfl (q_z_spec e9).2.1 ⟨rfl, rfl, rfl⟩ (Nat.le_of_ble_eq_true rfl) (Nat.le_of_ble_eq_true rfl)
  · replace hF := q_f c5 hF
    refine g_iconst dX12_does_90 lt_iconst_1 ?_
    refine g_goto 95 dX12_does_91 (by decide) ?_
    refine g_iadd dX12_does_95 ?_
    obtain ⟨h10, e11, hF⟩ := q_bind hF
    refine g_iast e11 dX12_does_96 ?_
    refine g_iload_n 0 dX12_does_97 rfl ?_
    obtain ⟨u12, e13, hF⟩ := q_bind hF
    cases hF
    exact g_zret dX12_does_98 rfl (q_z_spec e13).2.1 ⟨rfl, rfl, rfl⟩ (Nat.le_of_ble_eq_true rfl) (Nat.le_of_ble_eq_true rfl)
set_option maxRecDepth 100000 in
set_option maxHeartbeats 4000000 in
theorem M_X12_does (l : Launch) (b : Nat) (D : va_G) (z : Nat → Nat) (nx : Nat) {h : qH} {a0 : Nat} {a1 : Int32} {a2 : Int32} {r : Int32 × qH} (hF : F_X12_does h a0 a1 a2 = some r) : Me l b D z yX12_does cX12_does 4 (some .boolean) rm_X12_does [.ref a0, .int a1, .int a2] h nx (qE (some (.int r.1)) r.2 nx) := by
  refine Me.of (by decide +kernel) (Nat.le_of_ble_eq_true rfl) ?_
  show Go l b D z yX12_does cX12_does 4 (some .boolean) rm_X12_does (qE (some (.int r.1)) r.2 nx) 0 [(0, .ref a0), (1, .int a1), (2, .int a2)] [] h nx 0 0
  unfold F_X12_does at hF
  refine g_iload_n 1 dX12_does_0 rfl ?_
  refine g_iconst dX12_does_1 lt_iconst_1 ?_
  refine g_icmp_eq 10 dX12_does_2 (by decide) (fun c1 => ?_) (fun c1 => ?_)
  · replace hF := q_t c1 hF
    exact J_X12_does_10 l b D z hF
  · replace hF := q_f c1 hF
    refine g_iload_n 1 dX12_does_5 rfl ?_
    refine g_iconst dX12_does_6 lt_iconst_2 ?_
    refine g_icmp_ne 26 dX12_does_7 (by decide) (fun c2 => ?_) (fun c2 => ?_)
    · replace hF := q_f c2 hF
      refine g_iload_n 1 dX12_does_26 rfl ?_
      refine g_if_ne 38 dX12_does_27 (by decide) (fun c3 => ?_) (fun c3 => ?_)
      · replace hF := q_f c3 hF
        refine g_iload_n 1 dX12_does_38 rfl ?_
        refine g_iconst dX12_does_39 lt_iconst_3 ?_
        refine g_icmp_ne 50 dX12_does_40 (by decide) (fun c4 => ?_) (fun c4 => ?_)
        · replace hF := q_f c4 hF
          refine g_iload_n 1 dX12_does_50 rfl ?_
          refine g_iconst dX12_does_51 lt_iconst_4 ?_
          refine g_icmp_ne 62 dX12_does_52 (by decide) (fun c5 => ?_) (fun c5 => ?_)
          · replace hF := q_f c5 hF
            refine g_iload_n 1 dX12_does_62 rfl ?_
            refine g_iconst dX12_does_63 lt_iconst_5 ?_
            refine g_icmp_ne 74 dX12_does_64 (by decide) (fun c6 => ?_) (fun c6 => ?_)
            · replace hF := q_f c6 hF
              refine g_aload_n 0 dX12_does_74 rfl ?_
              obtain ⟨u7, e8, hF⟩ := q_bind hF
              obtain ⟨x9, e10, hF⟩ := q_bind hF
              refine g_callVr0 (ci := 12) (q := (RX12, TX12, 49)) qm_X12_isCut wd_1864 wd_1866 wd_123 rfl e8 (M_X12_isCut l b D z nx e10) (As := []) rfl rfl (Nat.le_of_ble_eq_true rfl) ⟨(Nat.le_of_ble_eq_true rfl), (Nat.le_of_ble_eq_true rfl)⟩ ⟨rfl, rfl⟩ ⟨(Nat.le_of_ble_eq_true rfl), (Nat.le_of_ble_eq_true rfl)⟩ dX12_does_75 ?_
              refine g_sub [0] rfl ?_
              exact J_X12_does_78 l b D z hF
            · replace hF := q_t c6 hF
              refine g_aload_n 0 dX12_does_67 rfl ?_
              obtain ⟨u11, e12, hF⟩ := q_bind hF
              obtain ⟨x13, e14, hF⟩ := q_bind hF
              refine g_callVr0 (ci := 12) (q := (RX12, TX12, 49)) qm_X12_waits wd_1860 wd_1862 wd_122 rfl e12 (M_X12_waits l b D z nx e14) (As := []) rfl rfl (Nat.le_of_ble_eq_true rfl) ⟨(Nat.le_of_ble_eq_true rfl), (Nat.le_of_ble_eq_true rfl)⟩ ⟨rfl, rfl⟩ ⟨(Nat.le_of_ble_eq_true rfl), (Nat.le_of_ble_eq_true rfl)⟩ dX12_does_68 ?_
              refine g_goto 78 dX12_does_71 (by decide) ?_
              refine g_sub [0] rfl ?_
              exact J_X12_does_78 l b D z hF
          · replace hF := q_t c5 hF
            refine g_aload_n 0 dX12_does_55 rfl ?_
            obtain ⟨u15, e16, hF⟩ := q_bind hF
            obtain ⟨x17, e18, hF⟩ := q_bind hF
            refine g_callVr0 (ci := 12) (q := (RX12, TX12, 49)) qm_X12_isPrompted wd_1856 wd_1858 wd_121 rfl e16 (M_X12_isPrompted l b D z nx e18) (As := []) rfl rfl (Nat.le_of_ble_eq_true rfl) ⟨(Nat.le_of_ble_eq_true rfl), (Nat.le_of_ble_eq_true rfl)⟩ ⟨rfl, rfl⟩ ⟨(Nat.le_of_ble_eq_true rfl), (Nat.le_of_ble_eq_true rfl)⟩ dX12_does_56 ?_
            refine g_goto 78 dX12_does_59 (by decide) ?_
            refine g_sub [0] rfl ?_
            exact J_X12_does_78 l b D z hF
        · replace hF := q_t c4 hF
          refine g_aload_n 0 dX12_does_43 rfl ?_
          obtain ⟨u19, e20, hF⟩ := q_bind hF
          obtain ⟨x21, e22, hF⟩ := q_bind hF
          refine g_callVr0 (ci := 12) (q := (RX12, TX12, 49)) qm_X12_dries wd_1852 wd_1854 wd_120 rfl e20 (M_X12_dries l b D z nx e22) (As := []) rfl rfl (Nat.le_of_ble_eq_true rfl) ⟨(Nat.le_of_ble_eq_true rfl), (Nat.le_of_ble_eq_true rfl)⟩ ⟨rfl, rfl⟩ ⟨(Nat.le_of_ble_eq_true rfl), (Nat.le_of_ble_eq_true rfl)⟩ dX12_does_44 ?_
          refine g_goto 78 dX12_does_47 (by decide) ?_
          refine g_sub [0] rfl ?_
          exact J_X12_does_78 l b D z hF
      · replace hF := q_t c3 hF
        refine g_aload_n 0 dX12_does_30 rfl ?_
        refine g_iload_n 2 dX12_does_31 rfl ?_
        obtain ⟨u23, e24, hF⟩ := q_bind hF
        obtain ⟨x25, e26, hF⟩ := q_bind hF
        refine g_callVr0 (ci := 12) (q := (RX12, TX12, 49)) qm_X12_says wd_1828 wd_1830 wd_114 rfl e24 (M_X12_says l b D z nx e26) (As := [.int a2]) rfl rfl (Nat.le_of_ble_eq_true rfl) ⟨(Nat.le_of_ble_eq_true rfl), (Nat.le_of_ble_eq_true rfl)⟩ ⟨rfl, rfl⟩ ⟨(Nat.le_of_ble_eq_true rfl), (Nat.le_of_ble_eq_true rfl)⟩ dX12_does_32 ?_
        refine g_goto 78 dX12_does_35 (by decide) ?_
        refine g_sub [0] rfl ?_
        exact J_X12_does_78 l b D z hF
    · replace hF := q_t c2 hF
      exact J_X12_does_10 l b D z hF
def rm_X12_play : Room := { frames := 6, cells := 0, slots := 0, locals := 128 }
set_option maxRecDepth 100000 in
set_option maxHeartbeats 4000000 in
theorem B_X12_play_6 (l : Launch) (b : Nat) (D : va_G) (z : Nat → Nat) {Φ : Option Value → qH → Nat → Prop} {nx : Nat} {a0 : Nat} {a1 : Int32} {a2 : Int32} {h : qH} {o : (Int32 × qH) ⊕ ((Int32 × qH))} (hF : b_X12_play_6 a0 a1 a2 h = some o) (hback : ∀ (b2 : Int32) (bh : qH), o = .inl (b2, bh) → Go l b D z yX12_play cX12_play 3 (some .int) rm_X12_play Φ 6 [(0, .ref a0), (1, .int a1), (2, .int b2)] [] bh nx 0 0) (hx0 : ∀ (b2 : Int32) (bh : qH), o = .inr (b2, bh) → Go l b D z yX12_play cX12_play 3 (some .int) rm_X12_play Φ 36 [(2, .int b2)] [] bh nx 0 0) : Go l b D z yX12_play cX12_play 3 (some .int) rm_X12_play Φ 6 [(0, .ref a0), (1, .int a1), (2, .int a2)] [] h nx 0 0 := by
  unfold b_X12_play_6 at hF
  refine g_iload_n 2 dX12_play_6 rfl ?_
  refine g_iload_n 1 dX12_play_7 rfl ?_
  refine g_icmp_ge 36 dX12_play_8 (by decide) (fun c1 => ?_) (fun c1 => ?_)
  · replace hF := q_t c1 hF
    cases hF
    refine g_sub [2] rfl ?_
    exact hx0 _ _ rfl
  · replace hF := q_f c1 hF
    refine g_aload_n 0 dX12_play_11 rfl ?_
    refine g_aload_n 0 dX12_play_12 rfl ?_
    refine g_iload_n 2 dX12_play_13 rfl ?_
    refine g_iconst dX12_play_14 lt_iconst_0 ?_
    obtain ⟨u2, e3, hF⟩ := q_bind hF
    obtain ⟨x4, e5, hF⟩ := q_bind hF
    refine g_callVr0 (ci := 12) (q := (RX12, TX12, 49)) qm_X12_deedOf wd_1793 wd_1795 wd_107 rfl e3 (M_X12_deedOf l b D z nx e5) (As := [.int a2, .int (0 : Int32)]) rfl rfl (Nat.le_of_ble_eq_true rfl) ⟨(Nat.le_of_ble_eq_true rfl), (Nat.le_of_ble_eq_true rfl)⟩ ⟨rfl, rfl⟩ ⟨(Nat.le_of_ble_eq_true rfl), (Nat.le_of_ble_eq_true rfl)⟩ dX12_play_15 ?_
    refine g_aload_n 0 dX12_play_18 rfl ?_
    refine g_iload_n 2 dX12_play_19 rfl ?_
    refine g_iconst dX12_play_20 lt_iconst_1 ?_
    obtain ⟨u6, e7, hF⟩ := q_bind hF
    obtain ⟨x8, e9, hF⟩ := q_bind hF
    refine g_callVr0 (ci := 12) (q := (RX12, TX12, 49)) qm_X12_deedOf wd_1793 wd_1795 wd_107 rfl e7 (M_X12_deedOf l b D z nx e9) (As := [.int a2, .int (1 : Int32)]) rfl rfl (Nat.le_of_ble_eq_true rfl) ⟨(Nat.le_of_ble_eq_true rfl), (Nat.le_of_ble_eq_true rfl)⟩ ⟨rfl, rfl⟩ ⟨(Nat.le_of_ble_eq_true rfl), (Nat.le_of_ble_eq_true rfl)⟩ dX12_play_21 ?_
    obtain ⟨u10, e11, hF⟩ := q_bind hF
    obtain ⟨x12, e13, hF⟩ := q_bind hF
    refine g_callVr0 (ci := 12) (q := (RX12, TX12, 49)) qm_X12_does wd_1813 wd_1815 wd_111 rfl e11 (M_X12_does l b D z nx e13) (As := [.int x4, .int x8]) rfl rfl (Nat.le_of_ble_eq_true rfl) ⟨(Nat.le_of_ble_eq_true rfl), (Nat.le_of_ble_eq_true rfl)⟩ ⟨rfl, rfl⟩ ⟨(Nat.le_of_ble_eq_true rfl), (Nat.le_of_ble_eq_true rfl)⟩ dX12_play_24 ?_
    refine g_if_eq 36 dX12_play_27 (by decide) (fun c14 => ?_) (fun c14 => ?_)
    · replace hF := q_t c14 hF
      cases hF
      refine g_sub [2] rfl ?_
      exact hx0 _ _ rfl
    · replace hF := q_f c14 hF
      refine g_iinc [(2, .int (a2 + 1)), (0, .ref a0), (1, .int a1)] 2 dX12_play_30 rfl (congrArg (a2 + ·) lt_iconst_1) (Nat.le_of_ble_eq_true rfl) rfl ?_
      refine g_goto 6 dX12_play_33 (by decide) ?_
      cases hF
      refine g_sub [1, 2, 0] rfl ?_
      exact hback _ _ rfl
set_option maxRecDepth 100000 in
set_option maxHeartbeats 4000000 in
theorem L_X12_play_6 (l : Launch) (b : Nat) (D : va_G) (z : Nat → Nat) {Φ : Option Value → qH → Nat → Prop} {nx : Nat} {a0 : Nat} {a1 : Int32} : ∀ (n : Nat) (a2 : Int32) (h : qH) (e : (Int32 × qH)), q_lp (s_X12_play_6 a0 a1) n (a2, h) = some e → (∀ (b2 : Int32) (bh : qH), e = (b2, bh) → Go l b D z yX12_play cX12_play 3 (some .int) rm_X12_play Φ 36 [(2, .int b2)] [] bh nx 0 0) → Go l b D z yX12_play cX12_play 3 (some .int) rm_X12_play Φ 6 [(0, .ref a0), (1, .int a1), (2, .int a2)] [] h nx 0 0 := by
  intro n
  induction n with
  | zero => intro a2 h e he; cases (show none = some e from he)
  | succ n ih =>
    intro a2 h e he hx0
    obtain ⟨o, ho, h1, h2⟩ := q_lp_succ he
    exact B_X12_play_6 l b D z (show b_X12_play_6 a0 a1 a2 h = some o from ho) (fun b2 bh hb => ih _ _ e (h1 _ hb) hx0) (fun p0 p1 hr => hx0 p0 p1 (h2 _ hr).symm)
set_option maxRecDepth 100000 in
set_option maxHeartbeats 4000000 in
theorem M_X12_play (l : Launch) (b : Nat) (D : va_G) (z : Nat → Nat) (nx : Nat) {h : qH} {a0 : Nat} {a1 : Int32} {r : Int32 × qH} (hF : F_X12_play h a0 a1 = some r) : Me l b D z yX12_play cX12_play 3 (some .int) rm_X12_play [.ref a0, .int a1] h nx (qE (some (.int r.1)) r.2 nx) := by
  refine Me.of (by decide +kernel) (Nat.le_of_ble_eq_true rfl) ?_
  show Go l b D z yX12_play cX12_play 3 (some .int) rm_X12_play (qE (some (.int r.1)) r.2 nx) 0 [(0, .ref a0), (1, .int a1)] [] h nx 0 0
  unfold F_X12_play at hF
  refine g_aload_n 0 dX12_play_0 rfl ?_
  obtain ⟨u1, e2, hF⟩ := q_bind hF
  obtain ⟨x3, e4, hF⟩ := q_bind hF
  refine g_callVv0 (ci := 12) (q := (RX12, TX12, 49)) qm_X12_begin wd_1809 wd_1811 wd_110 rfl e2 (M_X12_begin l b D z nx e4) (As := []) rfl rfl (Nat.le_of_ble_eq_true rfl) ⟨(Nat.le_of_ble_eq_true rfl), (Nat.le_of_ble_eq_true rfl)⟩ ⟨rfl, rfl⟩ ⟨(Nat.le_of_ble_eq_true rfl), (Nat.le_of_ble_eq_true rfl)⟩ dX12_play_1 ?_
  refine g_iconst dX12_play_4 lt_iconst_0 ?_
  refine g_istore_n [(2, .int (0 : Int32)), (0, .ref a0), (1, .int a1)] dX12_play_5 (Nat.le_of_ble_eq_true rfl) rfl ?_
  obtain ⟨e5, w6, hF⟩ := q_bind hF
  refine g_sub [1, 2, 0] rfl ?_
  refine L_X12_play_6 l b D z q_N (0 : Int32) x3 e5 w6 ?_
  · intro o7 h8 w9
    replace w9 := w9.symm
    subst w9
    dsimp only at hF
    refine g_iload_n 0 dX12_play_36 rfl ?_
    cases hF
    exact g_iret dX12_play_37 rfl ⟨rfl, rfl, rfl⟩ (Nat.le_of_ble_eq_true rfl) (Nat.le_of_ble_eq_true rfl)
def rm_X12_layAll : Room := { frames := 3, cells := 0, slots := 0, locals := 66 }
set_option maxRecDepth 100000 in
set_option maxHeartbeats 4000000 in
theorem M_X12_layAll (l : Launch) (b : Nat) (D : va_G) (z : Nat → Nat) (nx : Nat) {h : qH} {a0 : Nat} {a1 : Int32} {a2 : Int32} {r : Int32 × qH} (hF : F_X12_layAll h a0 a1 a2 = some r) : Me l b D z yX12_layAll cX12_layAll 3 (some .boolean) rm_X12_layAll [.ref a0, .int a1, .int a2] h nx (qE (some (.int r.1)) r.2 nx) := by
  refine Me.of (by decide +kernel) (Nat.le_of_ble_eq_true rfl) ?_
  show Go l b D z yX12_layAll cX12_layAll 3 (some .boolean) rm_X12_layAll (qE (some (.int r.1)) r.2 nx) 0 [(0, .ref a0), (1, .int a1), (2, .int a2)] [] h nx 0 0
  unfold F_X12_layAll at hF
  refine g_aload_n 0 dX12_layAll_0 rfl ?_
  refine g_iload_n 2 dX12_layAll_1 rfl ?_
  obtain ⟨u1, e2, hF⟩ := q_bind hF
  obtain ⟨x3, e4, hF⟩ := q_bind hF
  refine g_callVr0 (ci := 12) (q := (RX12, TX12, 49)) qm_X12_hasEvening wd_1785 wd_1787 wd_105 rfl e2 (M_X12_hasEvening l b D z nx e4) (As := [.int a2]) rfl rfl (Nat.le_of_ble_eq_true rfl) ⟨(Nat.le_of_ble_eq_true rfl), (Nat.le_of_ble_eq_true rfl)⟩ ⟨rfl, rfl⟩ ⟨(Nat.le_of_ble_eq_true rfl), (Nat.le_of_ble_eq_true rfl)⟩ dX12_layAll_2 ?_
  refine g_if_eq 20 dX12_layAll_5 (by decide) (fun c5 => ?_) (fun c5 => ?_)
  · replace hF := q_t c5 hF
    refine g_iconst dX12_layAll_20 lt_iconst_0 ?_
    cases hF
    exact g_zret dX12_layAll_21 rfl zn_0 ⟨rfl, rfl, rfl⟩ (Nat.le_of_ble_eq_true rfl) (Nat.le_of_ble_eq_true rfl)
  · replace hF := q_f c5 hF
    refine g_aload_n 0 dX12_layAll_8 rfl ?_
    refine g_iload_n 1 dX12_layAll_9 rfl ?_
    obtain ⟨u6, e7, hF⟩ := q_bind hF
    obtain ⟨x8, e9, hF⟩ := q_bind hF
    refine g_callVr0 (ci := 12) (q := (RX12, TX12, 49)) qm_X12_hand wd_1750 wd_1752 wd_99 rfl e7 (M_X12_hand l b D z nx e9) (As := [.int a1]) rfl rfl (Nat.le_of_ble_eq_true rfl) ⟨(Nat.le_of_ble_eq_true rfl), (Nat.le_of_ble_eq_true rfl)⟩ ⟨rfl, rfl⟩ ⟨(Nat.le_of_ble_eq_true rfl), (Nat.le_of_ble_eq_true rfl)⟩ dX12_layAll_10 ?_
    refine g_if_eq 20 dX12_layAll_13 (by decide) (fun c10 => ?_) (fun c10 => ?_)
    · replace hF := q_t c10 hF
      refine g_iconst dX12_layAll_20 lt_iconst_0 ?_
      cases hF
      exact g_zret dX12_layAll_21 rfl zn_0 ⟨rfl, rfl, rfl⟩ (Nat.le_of_ble_eq_true rfl) (Nat.le_of_ble_eq_true rfl)
    · replace hF := q_f c10 hF
      refine g_iconst dX12_layAll_16 lt_iconst_1 ?_
      refine g_goto 21 dX12_layAll_17 (by decide) ?_
      cases hF
      exact g_zret dX12_layAll_21 rfl zn_1 ⟨rfl, rfl, rfl⟩ (Nat.le_of_ble_eq_true rfl) (Nat.le_of_ble_eq_true rfl)
def rm_X12_till : Room := { frames := 7, cells := 0, slots := 0, locals := 150 }
set_option maxRecDepth 100000 in
set_option maxHeartbeats 4000000 in
theorem M_X12_till (l : Launch) (b : Nat) (D : va_G) (z : Nat → Nat) (nx : Nat) {h : qH} {a0 : Nat} {a1 : Int32} {a2 : Int32} {r : Int32 × qH} (hF : F_X12_till h a0 a1 a2 = some r) : Me l b D z yX12_till cX12_till 3 (some .int) rm_X12_till [.ref a0, .int a1, .int a2] h nx (qE (some (.int r.1)) r.2 nx) := by
  refine Me.of (by decide +kernel) (Nat.le_of_ble_eq_true rfl) ?_
  show Go l b D z yX12_till cX12_till 3 (some .int) rm_X12_till (qE (some (.int r.1)) r.2 nx) 0 [(0, .ref a0), (1, .int a1), (2, .int a2)] [] h nx 0 0
  unfold F_X12_till at hF
  refine g_aload_n 0 dX12_till_0 rfl ?_
  refine g_iconst dX12_till_1 lt_iconst_0 ?_
  obtain ⟨h1, e2, hF⟩ := q_bind hF
  refine g_putf fl_X12_91 e2 rfl rfl dX12_till_2 ?_
  refine g_aload_n 0 dX12_till_5 rfl ?_
  refine g_iload_n 1 dX12_till_6 rfl ?_
  refine g_iload_n 2 dX12_till_7 rfl ?_
  obtain ⟨u3, e4, hF⟩ := q_bind hF
  obtain ⟨x5, e6, hF⟩ := q_bind hF
  refine g_callVr0 (ci := 12) (q := (RX12, TX12, 49)) qm_X12_layAll wd_1801 wd_1803 wd_108 rfl e4 (M_X12_layAll l b D z nx e6) (As := [.int a1, .int a2]) rfl rfl (Nat.le_of_ble_eq_true rfl) ⟨(Nat.le_of_ble_eq_true rfl), (Nat.le_of_ble_eq_true rfl)⟩ ⟨rfl, rfl⟩ ⟨(Nat.le_of_ble_eq_true rfl), (Nat.le_of_ble_eq_true rfl)⟩ dX12_till_8 ?_
  refine g_if_eq 25 dX12_till_11 (by decide) (fun c7 => ?_) (fun c7 => ?_)
  · replace hF := q_t c7 hF
    refine g_iconst dX12_till_25 lt_iconst_m1 ?_
    cases hF
    exact g_iret dX12_till_26 rfl ⟨rfl, rfl, rfl⟩ (Nat.le_of_ble_eq_true rfl) (Nat.le_of_ble_eq_true rfl)
  · replace hF := q_f c7 hF
    refine g_aload_n 0 dX12_till_14 rfl ?_
    refine g_aload_n 0 dX12_till_15 rfl ?_
    obtain ⟨u8, e9, hF⟩ := q_bind hF
    obtain ⟨x10, e11, hF⟩ := q_bind hF
    refine g_callVr0 (ci := 12) (q := (RX12, TX12, 49)) qm_X12_deeds wd_1789 wd_1791 wd_106 rfl e9 (M_X12_deeds l b D z nx e11) (As := []) rfl rfl (Nat.le_of_ble_eq_true rfl) ⟨(Nat.le_of_ble_eq_true rfl), (Nat.le_of_ble_eq_true rfl)⟩ ⟨rfl, rfl⟩ ⟨(Nat.le_of_ble_eq_true rfl), (Nat.le_of_ble_eq_true rfl)⟩ dX12_till_16 ?_
    obtain ⟨u12, e13, hF⟩ := q_bind hF
    obtain ⟨x14, e15, hF⟩ := q_bind hF
    refine g_callVr0 (ci := 12) (q := (RX12, TX12, 49)) qm_X12_play wd_1805 wd_1807 wd_109 rfl e13 (M_X12_play l b D z nx e15) (As := [.int x10]) rfl rfl (Nat.le_of_ble_eq_true rfl) ⟨(Nat.le_of_ble_eq_true rfl), (Nat.le_of_ble_eq_true rfl)⟩ ⟨rfl, rfl⟩ ⟨(Nat.le_of_ble_eq_true rfl), (Nat.le_of_ble_eq_true rfl)⟩ dX12_till_19 ?_
    refine g_goto 26 dX12_till_22 (by decide) ?_
    cases hF
    exact g_iret dX12_till_26 rfl ⟨rfl, rfl, rfl⟩ (Nat.le_of_ble_eq_true rfl) (Nat.le_of_ble_eq_true rfl)
def rm_X12_ofState : Room := { frames := 2, cells := 0, slots := 0, locals := 42 }
set_option maxRecDepth 100000 in
set_option maxHeartbeats 4000000 in
theorem M_X12_ofState (l : Launch) (b : Nat) (D : va_G) (z : Nat → Nat) (nx : Nat) {h : qH} {a0 : Nat} {a1 : Int32} {r : Int32} (hF : F_X12_ofState h a0 a1 = some r) : Me l b D z yX12_ofState cX12_ofState 2 (some .int) rm_X12_ofState [.ref a0, .int a1] h nx (qE (some (.int r)) h nx) := by
  refine Me.of (by decide +kernel) (Nat.le_of_ble_eq_true rfl) ?_
  show Go l b D z yX12_ofState cX12_ofState 2 (some .int) rm_X12_ofState (qE (some (.int r)) h nx) 0 [(0, .ref a0), (1, .int a1)] [] h nx 0 0
  unfold F_X12_ofState at hF
  refine g_iload_n 1 dX12_ofState_0 rfl ?_
  refine g_iconst dX12_ofState_1 lt_iconst_0 ?_
  refine g_bipush dX12_ofState_2 lt_bipush_9 ?_
  obtain ⟨x1, e2, hF⟩ := q_bind hF
  refine g_callSr0 qm_X12_in wd_1623 wd_1624 (M_X12_in l b D z nx e2) (As := [.int a1, .int (0 : Int32), .int (9 : Int32)]) rfl rfl (Nat.le_of_ble_eq_true rfl) ⟨(Nat.le_of_ble_eq_true rfl), (Nat.le_of_ble_eq_true rfl)⟩ ⟨rfl, rfl⟩ ⟨(Nat.le_of_ble_eq_true rfl), (Nat.le_of_ble_eq_true rfl)⟩ dX12_ofState_4 ?_
  refine g_if_ne 31 dX12_ofState_7 (by decide) (fun c3 => ?_) (fun c3 => ?_)
  · replace hF := q_f c3 hF
    refine g_aload_n 0 dX12_ofState_31 rfl ?_
    obtain ⟨x4, e5, hF⟩ := q_bind hF
    refine g_getfR fl_X12_50 e5 dX12_ofState_32 ?_
    refine g_iload_n 1 dX12_ofState_35 rfl ?_
    obtain ⟨x6, e7, hF⟩ := q_bind hF
    refine g_iald e7 dX12_ofState_36 ?_
    refine g_goto 42 dX12_ofState_37 (by decide) ?_
    cases hF
    exact g_iret dX12_ofState_42 rfl ⟨rfl, rfl, rfl⟩ (Nat.le_of_ble_eq_true rfl) (Nat.le_of_ble_eq_true rfl)
  · replace hF := q_t c3 hF
    refine g_iload_n 1 dX12_ofState_10 rfl ?_
    refine g_bipush dX12_ofState_11 lt_bipush_10 ?_
    refine g_bipush dX12_ofState_13 lt_bipush_29 ?_
    obtain ⟨x8, e9, hF⟩ := q_bind hF
    refine g_callSr0 qm_X12_in wd_1623 wd_1624 (M_X12_in l b D z nx e9) (As := [.int a1, .int (10 : Int32), .int (29 : Int32)]) rfl rfl (Nat.le_of_ble_eq_true rfl) ⟨(Nat.le_of_ble_eq_true rfl), (Nat.le_of_ble_eq_true rfl)⟩ ⟨rfl, rfl⟩ ⟨(Nat.le_of_ble_eq_true rfl), (Nat.le_of_ble_eq_true rfl)⟩ dX12_ofState_15 ?_
    refine g_if_eq 40 dX12_ofState_18 (by decide) (fun c10 => ?_) (fun c10 => ?_)
    · replace hF := q_t c10 hF
      refine g_bipush dX12_ofState_40 lt_bipush_m2 ?_
      cases hF
      exact g_iret dX12_ofState_42 rfl ⟨rfl, rfl, rfl⟩ (Nat.le_of_ble_eq_true rfl) (Nat.le_of_ble_eq_true rfl)
    · replace hF := q_f c10 hF
      refine g_iload_n 1 dX12_ofState_21 rfl ?_
      refine g_bipush dX12_ofState_22 lt_bipush_10 ?_
      refine g_irem dX12_ofState_24 (by decide) ?_
      obtain ⟨x11, e12, hF⟩ := q_bind hF
      refine g_callSr0 qm_X12_isPerson wd_1762 wd_1763 (M_X12_isPerson l b D z nx e12) (As := [.int (q_rem a1 (10 : Int32))]) rfl rfl (Nat.le_of_ble_eq_true rfl) ⟨(Nat.le_of_ble_eq_true rfl), (Nat.le_of_ble_eq_true rfl)⟩ ⟨rfl, rfl⟩ ⟨(Nat.le_of_ble_eq_true rfl), (Nat.le_of_ble_eq_true rfl)⟩ dX12_ofState_25 ?_
      refine g_if_eq 40 dX12_ofState_28 (by decide) (fun c13 => ?_) (fun c13 => ?_)
      · replace hF := q_t c13 hF
        refine g_bipush dX12_ofState_40 lt_bipush_m2 ?_
        cases hF
        exact g_iret dX12_ofState_42 rfl ⟨rfl, rfl, rfl⟩ (Nat.le_of_ble_eq_true rfl) (Nat.le_of_ble_eq_true rfl)
      · replace hF := q_f c13 hF
        refine g_aload_n 0 dX12_ofState_31 rfl ?_
        obtain ⟨x14, e15, hF⟩ := q_bind hF
        refine g_getfR fl_X12_50 e15 dX12_ofState_32 ?_
        refine g_iload_n 1 dX12_ofState_35 rfl ?_
        obtain ⟨x16, e17, hF⟩ := q_bind hF
        refine g_iald e17 dX12_ofState_36 ?_
        refine g_goto 42 dX12_ofState_37 (by decide) ?_
        cases hF
        exact g_iret dX12_ofState_42 rfl ⟨rfl, rfl, rfl⟩ (Nat.le_of_ble_eq_true rfl) (Nat.le_of_ble_eq_true rfl)
def rm_X12_state : Room := { frames := 7, cells := 0, slots := 0, locals := 150 }
set_option maxRecDepth 100000 in
set_option maxHeartbeats 4000000 in
theorem M_X12_state (l : Launch) (b : Nat) (D : va_G) (z : Nat → Nat) (nx : Nat) {h : qH} {a0 : Nat} {a1 : Int32} {a2 : Int32} {a3 : Int32} {a4 : Int32} {r : Int32 × qH} (hF : F_X12_state h a0 a1 a2 a3 a4 = some r) : Me l b D z yX12_state cX12_state 5 (some .int) rm_X12_state [.ref a0, .int a1, .int a2, .int a3, .int a4] h nx (qE (some (.int r.1)) r.2 nx) := by
  refine Me.of (by decide +kernel) (Nat.le_of_ble_eq_true rfl) ?_
  show Go l b D z yX12_state cX12_state 5 (some .int) rm_X12_state (qE (some (.int r.1)) r.2 nx) 0 [(0, .ref a0), (1, .int a1), (2, .int a2), (3, .int a3), (4, .int a4)] [] h nx 0 0
  unfold F_X12_state at hF
  refine g_aload_n 0 dX12_state_0 rfl ?_
  refine g_iconst dX12_state_1 lt_iconst_0 ?_
  obtain ⟨h1, e2, hF⟩ := q_bind hF
  refine g_putf fl_X12_91 e2 rfl rfl dX12_state_2 ?_
  refine g_aload_n 0 dX12_state_5 rfl ?_
  refine g_iload_n 1 dX12_state_6 rfl ?_
  refine g_iload_n 2 dX12_state_7 rfl ?_
  obtain ⟨u3, e4, hF⟩ := q_bind hF
  obtain ⟨x5, e6, hF⟩ := q_bind hF
  refine g_callVr0 (ci := 12) (q := (RX12, TX12, 49)) qm_X12_layAll wd_1801 wd_1803 wd_108 rfl e4 (M_X12_layAll l b D z nx e6) (As := [.int a1, .int a2]) rfl rfl (Nat.le_of_ble_eq_true rfl) ⟨(Nat.le_of_ble_eq_true rfl), (Nat.le_of_ble_eq_true rfl)⟩ ⟨rfl, rfl⟩ ⟨(Nat.le_of_ble_eq_true rfl), (Nat.le_of_ble_eq_true rfl)⟩ dX12_state_8 ?_
  refine g_if_eq 44 dX12_state_11 (by decide) (fun c7 => ?_) (fun c7 => ?_)
  · replace hF := q_t c7 hF
    refine g_bipush dX12_state_44 lt_bipush_m2 ?_
    cases hF
    exact g_iret dX12_state_46 rfl ⟨rfl, rfl, rfl⟩ (Nat.le_of_ble_eq_true rfl) (Nat.le_of_ble_eq_true rfl)
  · replace hF := q_f c7 hF
    refine g_iload_n 3 dX12_state_14 rfl ?_
    refine g_iconst dX12_state_15 lt_iconst_0 ?_
    refine g_aload_n 0 dX12_state_16 rfl ?_
    obtain ⟨u8, e9, hF⟩ := q_bind hF
    obtain ⟨x10, e11, hF⟩ := q_bind hF
    refine g_callVr0 (ci := 12) (q := (RX12, TX12, 49)) qm_X12_deeds wd_1789 wd_1791 wd_106 rfl e9 (M_X12_deeds l b D z nx e11) (As := []) rfl rfl (Nat.le_of_ble_eq_true rfl) ⟨(Nat.le_of_ble_eq_true rfl), (Nat.le_of_ble_eq_true rfl)⟩ ⟨rfl, rfl⟩ ⟨(Nat.le_of_ble_eq_true rfl), (Nat.le_of_ble_eq_true rfl)⟩ dX12_state_17 ?_
    obtain ⟨x12, e13, hF⟩ := q_bind hF
    refine g_callSr0 qm_X12_in wd_1623 wd_1624 (M_X12_in l b D z nx e13) (As := [.int a3, .int (0 : Int32), .int x10]) rfl rfl (Nat.le_of_ble_eq_true rfl) ⟨(Nat.le_of_ble_eq_true rfl), (Nat.le_of_ble_eq_true rfl)⟩ ⟨rfl, rfl⟩ ⟨(Nat.le_of_ble_eq_true rfl), (Nat.le_of_ble_eq_true rfl)⟩ dX12_state_20 ?_
    refine g_if_eq 44 dX12_state_23 (by decide) (fun c14 => ?_) (fun c14 => ?_)
    · replace hF := q_t c14 hF
      refine g_bipush dX12_state_44 lt_bipush_m2 ?_
      cases hF
      exact g_iret dX12_state_46 rfl ⟨rfl, rfl, rfl⟩ (Nat.le_of_ble_eq_true rfl) (Nat.le_of_ble_eq_true rfl)
    · replace hF := q_f c14 hF
      refine g_aload_n 0 dX12_state_26 rfl ?_
      refine g_iload_n 3 dX12_state_27 rfl ?_
      obtain ⟨u15, e16, hF⟩ := q_bind hF
      obtain ⟨x17, e18, hF⟩ := q_bind hF
      refine g_callVr0 (ci := 12) (q := (RX12, TX12, 49)) qm_X12_play wd_1805 wd_1807 wd_109 rfl e16 (M_X12_play l b D z nx e18) (As := [.int a3]) rfl rfl (Nat.le_of_ble_eq_true rfl) ⟨(Nat.le_of_ble_eq_true rfl), (Nat.le_of_ble_eq_true rfl)⟩ ⟨rfl, rfl⟩ ⟨(Nat.le_of_ble_eq_true rfl), (Nat.le_of_ble_eq_true rfl)⟩ dX12_state_28 ?_
      refine g_iload_n 3 dX12_state_31 rfl ?_
      refine g_icmp_ne 44 dX12_state_32 (by decide) (fun c19 => ?_) (fun c19 => ?_)
      · replace hF := q_f c19 hF
        refine g_bipush dX12_state_44 lt_bipush_m2 ?_
        cases hF
        exact g_iret dX12_state_46 rfl ⟨rfl, rfl, rfl⟩ (Nat.le_of_ble_eq_true rfl) (Nat.le_of_ble_eq_true rfl)
      · replace hF := q_t c19 hF
        refine g_aload_n 0 dX12_state_35 rfl ?_
        refine g_iload 4 dX12_state_36 rfl ?_
        obtain ⟨u20, e21, hF⟩ := q_bind hF
        obtain ⟨x22, e23, hF⟩ := q_bind hF
        refine g_callVr0 (ci := 12) (q := (RX12, TX12, 49)) qm_X12_ofState wd_1872 wd_1874 wd_124 rfl e21 (M_X12_ofState l b D z nx e23) (As := [.int a4]) rfl rfl (Nat.le_of_ble_eq_true rfl) ⟨(Nat.le_of_ble_eq_true rfl), (Nat.le_of_ble_eq_true rfl)⟩ ⟨rfl, rfl⟩ ⟨(Nat.le_of_ble_eq_true rfl), (Nat.le_of_ble_eq_true rfl)⟩ dX12_state_38 ?_
        refine g_goto 46 dX12_state_41 (by decide) ?_
        cases hF
        exact g_iret dX12_state_46 rfl ⟨rfl, rfl, rfl⟩ (Nat.le_of_ble_eq_true rfl) (Nat.le_of_ble_eq_true rfl)
def rm_X12_findFewest : Room := { frames := 2, cells := 0, slots := 0, locals := 43 }
set_option maxRecDepth 100000 in
set_option maxHeartbeats 4000000 in
theorem B_X12_findFewest_45 (l : Launch) (b : Nat) (D : va_G) (z : Nat → Nat) {Φ : Option Value → qH → Nat → Prop} {nx : Nat} {h : qH} {a0 : Nat} {a1 : Int32} {a2 : Int32} {a3 : Int32} {a4 : Int32} {a5 : Int32} {a6 : Int32} {o : (Int32 × Int32) ⊕ Int32} (hF : b_X12_findFewest_45 h a0 a1 a2 a3 a4 a5 a6 = some o) (hback : ∀ (b5 : Int32) (b6 : Int32), o = .inl (b5, b6) → Go l b D z yX12_findFewest cX12_findFewest 7 none rm_X12_findFewest Φ 45 [(0, .ref a0), (1, .int a1), (2, .int a2), (3, .int a3), (4, .int a4), (5, .int b5), (6, .int b6)] [] h nx 0 0) (hx0 : ∀ (b5 : Int32), o = .inr b5 → Go l b D z yX12_findFewest cX12_findFewest 7 none rm_X12_findFewest Φ 100 [(0, .ref a0), (1, .int a1), (2, .int a2), (3, .int a3), (4, .int a4), (5, .int b5)] [] h nx 0 0) : Go l b D z yX12_findFewest cX12_findFewest 7 none rm_X12_findFewest Φ 45 [(0, .ref a0), (1, .int a1), (2, .int a2), (3, .int a3), (4, .int a4), (5, .int a5), (6, .int a6)] [] h nx 0 0 := by
  unfold b_X12_findFewest_45 at hF
  refine g_iload 6 dX12_findFewest_45 rfl ?_
  refine g_aload_n 0 dX12_findFewest_47 rfl ?_
  obtain ⟨x1, e2, hF⟩ := q_bind hF
  refine g_getfR fl_X12_47 e2 dX12_findFewest_48 ?_
  refine g_iload 4 dX12_findFewest_51 rfl ?_
  obtain ⟨x3, e4, hF⟩ := q_bind hF
  refine g_iald e4 dX12_findFewest_53 ?_
  refine g_icmp_ge 100 dX12_findFewest_54 (by decide) (fun c5 => ?_) (fun c5 => ?_)
  · replace hF := q_t c5 hF
    cases hF
    refine g_sub [0, 1, 2, 3, 4, 5] rfl ?_
    exact hx0 _ rfl
  · replace hF := q_f c5 hF
    refine g_iload_n 3 dX12_findFewest_57 rfl ?_
    refine g_if_le 100 dX12_findFewest_58 (by decide) (fun c6 => ?_) (fun c6 => ?_)
    · replace hF := q_t c6 hF
      cases hF
      refine g_sub [0, 1, 2, 3, 4, 5] rfl ?_
      exact hx0 _ rfl
    · replace hF := q_f c6 hF
      refine g_iload 5 dX12_findFewest_61 rfl ?_
      refine g_iload 6 dX12_findFewest_63 rfl ?_
      obtain ⟨x7, e8, hF⟩ := q_bind hF
      refine g_callSr0 qm_X12_strays wd_1888 wd_1889 (M_X12_strays l b D z nx e8) (As := [.int a6]) rfl rfl (Nat.le_of_ble_eq_true rfl) ⟨(Nat.le_of_ble_eq_true rfl), (Nat.le_of_ble_eq_true rfl)⟩ ⟨rfl, rfl⟩ ⟨(Nat.le_of_ble_eq_true rfl), (Nat.le_of_ble_eq_true rfl)⟩ dX12_findFewest_65 ?_
      refine g_aload_n 0 dX12_findFewest_68 rfl ?_
      obtain ⟨x9, e10, hF⟩ := q_bind hF
      refine g_getfR fl_X12_53 e10 dX12_findFewest_69 ?_
      refine g_bipush dX12_findFewest_72 lt_bipush_20 ?_
      refine g_iload_n 3 dX12_findFewest_74 rfl ?_
      refine g_iconst dX12_findFewest_75 lt_iconst_1 ?_
      refine g_isub dX12_findFewest_76 ?_
      refine g_imul dX12_findFewest_77 ?_
      refine g_aload_n 0 dX12_findFewest_78 rfl ?_
      refine g_iload 4 dX12_findFewest_79 rfl ?_
      refine g_iload 6 dX12_findFewest_81 rfl ?_
      obtain ⟨u11, e12, hF⟩ := q_bind hF
      obtain ⟨x13, e14, hF⟩ := q_bind hF
      refine g_callVr0 (ci := 12) (q := (RX12, TX12, 49)) qm_X12_behind wd_1773 wd_1775 wd_104 rfl e12 (M_X12_behind l b D z nx e14) (As := [.int a4, .int a6]) rfl rfl (Nat.le_of_ble_eq_true rfl) ⟨(Nat.le_of_ble_eq_true rfl), (Nat.le_of_ble_eq_true rfl)⟩ ⟨rfl, rfl⟩ ⟨(Nat.le_of_ble_eq_true rfl), (Nat.le_of_ble_eq_true rfl)⟩ dX12_findFewest_83 ?_
      refine g_iadd dX12_findFewest_86 ?_
      obtain ⟨x15, e16, hF⟩ := q_bind hF
      refine g_iald e16 dX12_findFewest_87 ?_
      refine g_iadd dX12_findFewest_88 ?_
      obtain ⟨x17, e18, hF⟩ := q_bind hF
      refine g_callSr0 qm_X12_lesser wd_1891 wd_1892 (M_X12_lesser l b D z nx e18) (As := [.int a5, .int (x7 + x15)]) rfl rfl (Nat.le_of_ble_eq_true rfl) ⟨(Nat.le_of_ble_eq_true rfl), (Nat.le_of_ble_eq_true rfl)⟩ ⟨rfl, rfl⟩ ⟨(Nat.le_of_ble_eq_true rfl), (Nat.le_of_ble_eq_true rfl)⟩ dX12_findFewest_89 ?_
      refine g_istore [(5, .int x17), (0, .ref a0), (1, .int a1), (2, .int a2), (3, .int a3), (4, .int a4), (6, .int a6)] dX12_findFewest_92 (Nat.le_of_ble_eq_true rfl) rfl ?_
      refine g_iinc [(6, .int (a6 + 1)), (5, .int x17), (0, .ref a0), (1, .int a1), (2, .int a2), (3, .int a3), (4, .int a4)] 6 dX12_findFewest_94 rfl (congrArg (a6 + ·) lt_iconst_1) (Nat.le_of_ble_eq_true rfl) rfl ?_
      refine g_goto 45 dX12_findFewest_97 (by decide) ?_
      cases hF
      refine g_sub [2, 3, 4, 5, 6, 1, 0] rfl ?_
      exact hback _ _ rfl
set_option maxRecDepth 100000 in
set_option maxHeartbeats 4000000 in
theorem L_X12_findFewest_45 (l : Launch) (b : Nat) (D : va_G) (z : Nat → Nat) {Φ : Option Value → qH → Nat → Prop} {nx : Nat} {h : qH} {a0 : Nat} {a1 : Int32} {a2 : Int32} {a3 : Int32} {a4 : Int32} : ∀ (n : Nat) (a5 : Int32) (a6 : Int32) (e : Int32), q_lp (s_X12_findFewest_45 h a0 a1 a2 a3 a4) n (a5, a6) = some e → (∀ (b5 : Int32), e = b5 → Go l b D z yX12_findFewest cX12_findFewest 7 none rm_X12_findFewest Φ 100 [(0, .ref a0), (1, .int a1), (2, .int a2), (3, .int a3), (4, .int a4), (5, .int b5)] [] h nx 0 0) → Go l b D z yX12_findFewest cX12_findFewest 7 none rm_X12_findFewest Φ 45 [(0, .ref a0), (1, .int a1), (2, .int a2), (3, .int a3), (4, .int a4), (5, .int a5), (6, .int a6)] [] h nx 0 0 := by
  intro n
  induction n with
  | zero => intro a5 a6 e he; cases (show none = some e from he)
  | succ n ih =>
    intro a5 a6 e he hx0
    obtain ⟨o, ho, h1, h2⟩ := q_lp_succ he
    exact B_X12_findFewest_45 l b D z (show b_X12_findFewest_45 h a0 a1 a2 a3 a4 a5 a6 = some o from ho) (fun b5 b6 hb => ih _ _ e (h1 _ hb) hx0) (fun p0 hr => hx0 p0 (h2 _ hr).symm)
set_option maxRecDepth 100000 in
set_option maxHeartbeats 4000000 in
theorem J_X12_findFewest_100 (l : Launch) (b : Nat) (D : va_G) (z : Nat → Nat) {Φ : Option Value → qH → Nat → Prop} {nx : Nat} {h : qH} {a0 : Nat} {a1 : Int32} {a2 : Int32} {a3 : Int32} {a4 : Int32} {a5 : Int32} {o : (Int32 × qH) ⊕ qH} (hF : j_X12_findFewest_100 h a0 a1 a2 a3 a4 a5  = some o) (hback : ∀ (b4 : Int32) (bh : qH), o = .inl (b4, bh) → Go l b D z yX12_findFewest cX12_findFewest 7 none rm_X12_findFewest Φ 10 [(0, .ref a0), (1, .int a1), (2, .int a2), (3, .int a3), (4, .int b4)] [] bh nx 0 0) (hx0 : ∀  (bh : qH), o = .inr bh → Go l b D z yX12_findFewest cX12_findFewest 7 none rm_X12_findFewest Φ 142 [(0, .ref a0), (1, .int a1), (2, .int a2), (3, .int a3)] [] bh nx 0 0) : Go l b D z yX12_findFewest cX12_findFewest 7 none rm_X12_findFewest Φ 100 [(0, .ref a0), (1, .int a1), (2, .int a2), (3, .int a3), (4, .int a4), (5, .int a5)] [] h nx 0 0 := by
  unfold j_X12_findFewest_100 at hF
  refine g_aload_n 0 dX12_findFewest_100 rfl ?_
  obtain ⟨x1, e2, hF⟩ := q_bind hF
  refine g_getfR fl_X12_53 e2 dX12_findFewest_101 ?_
  refine g_bipush dX12_findFewest_104 lt_bipush_20 ?_
  refine g_iload_n 3 dX12_findFewest_106 rfl ?_
  refine g_imul dX12_findFewest_107 ?_
  refine g_iload 4 dX12_findFewest_108 rfl ?_
  refine g_iadd dX12_findFewest_110 ?_
  refine g_aload_n 0 dX12_findFewest_111 rfl ?_
  refine g_iload 4 dX12_findFewest_112 rfl ?_
  refine g_iload_n 1 dX12_findFewest_114 rfl ?_
  obtain ⟨u3, e4, hF⟩ := q_bind hF
  obtain ⟨x5, e6, hF⟩ := q_bind hF
  refine g_callVr0 (ci := 12) (q := (RX12, TX12, 49)) qm_X12_isOf wd_1894 wd_1896 wd_126 rfl e4 (M_X12_isOf l b D z nx e6) (As := [.int a4, .int a1]) rfl rfl (Nat.le_of_ble_eq_true rfl) ⟨(Nat.le_of_ble_eq_true rfl), (Nat.le_of_ble_eq_true rfl)⟩ ⟨rfl, rfl⟩ ⟨(Nat.le_of_ble_eq_true rfl), (Nat.le_of_ble_eq_true rfl)⟩ dX12_findFewest_115 ?_
  refine g_if_eq 127 dX12_findFewest_118 (by decide) (fun c7 => ?_) (fun c7 => ?_)
  · replace hF := q_t c7 hF
    refine g_iload 5 dX12_findFewest_127 rfl ?_
    refine g_ldcw dX12_findFewest_129 wd_1887 ?_
    obtain ⟨x8, e9, hF⟩ := q_bind hF
    refine g_callSr0 qm_X12_lesser wd_1891 wd_1892 (M_X12_lesser l b D z nx e9) (As := [.int a5, .int (1000000 : Int32)]) rfl rfl (Nat.le_of_ble_eq_true rfl) ⟨(Nat.le_of_ble_eq_true rfl), (Nat.le_of_ble_eq_true rfl)⟩ ⟨rfl, rfl⟩ ⟨(Nat.le_of_ble_eq_true rfl), (Nat.le_of_ble_eq_true rfl)⟩ dX12_findFewest_132 ?_
    obtain ⟨h10, e11, hF⟩ := q_bind hF
    refine g_iast e11 dX12_findFewest_135 ?_
    refine g_iinc [(4, .int (a4 + 1)), (0, .ref a0), (1, .int a1), (2, .int a2), (3, .int a3), (5, .int a5)] 4 dX12_findFewest_136 rfl (congrArg (a4 + ·) lt_iconst_1) (Nat.le_of_ble_eq_true rfl) rfl ?_
    refine g_goto 10 dX12_findFewest_139 (by decide) ?_
    cases hF
    refine g_sub [1, 2, 3, 4, 0] rfl ?_
    exact hback _ _ rfl
  · replace hF := q_f c7 hF
    refine g_ldcw dX12_findFewest_121 wd_1887 ?_
    refine g_goto 135 dX12_findFewest_124 (by decide) ?_
    obtain ⟨h12, e13, hF⟩ := q_bind hF
    refine g_iast e13 dX12_findFewest_135 ?_
    refine g_iinc [(4, .int (a4 + 1)), (0, .ref a0), (1, .int a1), (2, .int a2), (3, .int a3), (5, .int a5)] 4 dX12_findFewest_136 rfl (congrArg (a4 + ·) lt_iconst_1) (Nat.le_of_ble_eq_true rfl) rfl ?_
    refine g_goto 10 dX12_findFewest_139 (by decide) ?_
    cases hF
    refine g_sub [1, 2, 3, 4, 0] rfl ?_
    exact hback _ _ rfl
set_option maxRecDepth 100000 in
set_option maxHeartbeats 4000000 in
theorem J_X12_findFewest_40 (l : Launch) (b : Nat) (D : va_G) (z : Nat → Nat) {Φ : Option Value → qH → Nat → Prop} {nx : Nat} {h : qH} {a0 : Nat} {a1 : Int32} {a2 : Int32} {a3 : Int32} {a4 : Int32} {t0 : Int32} {o : (Int32 × qH) ⊕ qH} (hF : j_X12_findFewest_40 h a0 a1 a2 a3 a4 t0 = some o) (hback : ∀ (b4 : Int32) (bh : qH), o = .inl (b4, bh) → Go l b D z yX12_findFewest cX12_findFewest 7 none rm_X12_findFewest Φ 10 [(0, .ref a0), (1, .int a1), (2, .int a2), (3, .int a3), (4, .int b4)] [] bh nx 0 0) (hx0 : ∀  (bh : qH), o = .inr bh → Go l b D z yX12_findFewest cX12_findFewest 7 none rm_X12_findFewest Φ 142 [(0, .ref a0), (1, .int a1), (2, .int a2), (3, .int a3)] [] bh nx 0 0) : Go l b D z yX12_findFewest cX12_findFewest 7 none rm_X12_findFewest Φ 40 [(0, .ref a0), (1, .int a1), (2, .int a2), (3, .int a3), (4, .int a4)] [.int t0] h nx 0 0 := by
  unfold j_X12_findFewest_40 at hF
  refine g_istore [(5, .int t0), (0, .ref a0), (1, .int a1), (2, .int a2), (3, .int a3), (4, .int a4)] dX12_findFewest_40 (Nat.le_of_ble_eq_true rfl) rfl ?_
  refine g_iconst dX12_findFewest_42 lt_iconst_0 ?_
  refine g_istore [(6, .int (0 : Int32)), (5, .int t0), (0, .ref a0), (1, .int a1), (2, .int a2), (3, .int a3), (4, .int a4)] dX12_findFewest_43 (Nat.le_of_ble_eq_true rfl) rfl ?_
  obtain ⟨e1, w2, hF⟩ := q_bind hF
  refine g_sub [2, 3, 4, 5, 6, 1, 0] rfl ?_
  refine L_X12_findFewest_45 l b D z q_N t0 (0 : Int32) e1 w2 ?_
  · intro o3 w4
    replace w4 := w4.symm
    subst w4
    exact J_X12_findFewest_100 l b D z hF hback hx0
set_option maxRecDepth 100000 in
set_option maxHeartbeats 4000000 in
theorem J_X12_findFewest_33 (l : Launch) (b : Nat) (D : va_G) (z : Nat → Nat) {Φ : Option Value → qH → Nat → Prop} {nx : Nat} {h : qH} {a0 : Nat} {a1 : Int32} {a2 : Int32} {a3 : Int32} {a4 : Int32} {o : (Int32 × qH) ⊕ qH} (hF : j_X12_findFewest_33 h a0 a1 a2 a3 a4  = some o) (hback : ∀ (b4 : Int32) (bh : qH), o = .inl (b4, bh) → Go l b D z yX12_findFewest cX12_findFewest 7 none rm_X12_findFewest Φ 10 [(0, .ref a0), (1, .int a1), (2, .int a2), (3, .int a3), (4, .int b4)] [] bh nx 0 0) (hx0 : ∀  (bh : qH), o = .inr bh → Go l b D z yX12_findFewest cX12_findFewest 7 none rm_X12_findFewest Φ 142 [(0, .ref a0), (1, .int a1), (2, .int a2), (3, .int a3)] [] bh nx 0 0) : Go l b D z yX12_findFewest cX12_findFewest 7 none rm_X12_findFewest Φ 33 [(0, .ref a0), (1, .int a1), (2, .int a2), (3, .int a3), (4, .int a4)] [] h nx 0 0 := by
  unfold j_X12_findFewest_33 at hF
  refine g_iconst dX12_findFewest_33 lt_iconst_0 ?_
  refine g_goto 40 dX12_findFewest_34 (by decide) ?_
  exact J_X12_findFewest_40 l b D z hF hback hx0
set_option maxRecDepth 100000 in
set_option maxHeartbeats 4000000 in
theorem B_X12_findFewest_10 (l : Launch) (b : Nat) (D : va_G) (z : Nat → Nat) {Φ : Option Value → qH → Nat → Prop} {nx : Nat} {a0 : Nat} {a1 : Int32} {a2 : Int32} {a3 : Int32} {a4 : Int32} {h : qH} {o : (Int32 × qH) ⊕ qH} (hF : b_X12_findFewest_10 a0 a1 a2 a3 a4 h = some o) (hback : ∀ (b4 : Int32) (bh : qH), o = .inl (b4, bh) → Go l b D z yX12_findFewest cX12_findFewest 7 none rm_X12_findFewest Φ 10 [(0, .ref a0), (1, .int a1), (2, .int a2), (3, .int a3), (4, .int b4)] [] bh nx 0 0) (hx0 : ∀  (bh : qH), o = .inr bh → Go l b D z yX12_findFewest cX12_findFewest 7 none rm_X12_findFewest Φ 142 [(0, .ref a0), (1, .int a1), (2, .int a2), (3, .int a3)] [] bh nx 0 0) : Go l b D z yX12_findFewest cX12_findFewest 7 none rm_X12_findFewest Φ 10 [(0, .ref a0), (1, .int a1), (2, .int a2), (3, .int a3), (4, .int a4)] [] h nx 0 0 := by
  unfold b_X12_findFewest_10 at hF
  refine g_iload 4 dX12_findFewest_10 rfl ?_
  refine g_aload_n 0 dX12_findFewest_12 rfl ?_
  obtain ⟨x1, e2, hF⟩ := q_bind hF
  refine g_getfI fl_X12_276 e2 dX12_findFewest_13 ?_
  refine g_icmp_ge 142 dX12_findFewest_16 (by decide) (fun c3 => ?_) (fun c3 => ?_)
  · replace hF := q_t c3 hF
    cases hF
    refine g_sub [0, 1, 2, 3] rfl ?_
    exact hx0 _ rfl
  · replace hF := q_f c3 hF
    refine g_iload_n 3 dX12_findFewest_19 rfl ?_
    refine g_if_eq 33 dX12_findFewest_20 (by decide) (fun c4 => ?_) (fun c4 => ?_)
    · replace hF := q_t c4 hF
      exact J_X12_findFewest_33 l b D z hF hback hx0
    · replace hF := q_f c4 hF
      refine g_aload_n 0 dX12_findFewest_23 rfl ?_
      obtain ⟨x5, e6, hF⟩ := q_bind hF
      refine g_getfR fl_X12_47 e6 dX12_findFewest_24 ?_
      refine g_iload 4 dX12_findFewest_27 rfl ?_
      obtain ⟨x7, e8, hF⟩ := q_bind hF
      refine g_iald e8 dX12_findFewest_29 ?_
      refine g_if_ne 37 dX12_findFewest_30 (by decide) (fun c9 => ?_) (fun c9 => ?_)
      · replace hF := q_f c9 hF
        refine g_ldcw dX12_findFewest_37 wd_1887 ?_
        exact J_X12_findFewest_40 l b D z hF hback hx0
      · replace hF := q_t c9 hF
        exact J_X12_findFewest_33 l b D z hF hback hx0
set_option maxRecDepth 100000 in
set_option maxHeartbeats 4000000 in
theorem L_X12_findFewest_10 (l : Launch) (b : Nat) (D : va_G) (z : Nat → Nat) {Φ : Option Value → qH → Nat → Prop} {nx : Nat} {a0 : Nat} {a1 : Int32} {a2 : Int32} {a3 : Int32} : ∀ (n : Nat) (a4 : Int32) (h : qH) (e : qH), q_lp (s_X12_findFewest_10 a0 a1 a2 a3) n (a4, h) = some e → (∀  (bh : qH), e = bh → Go l b D z yX12_findFewest cX12_findFewest 7 none rm_X12_findFewest Φ 142 [(0, .ref a0), (1, .int a1), (2, .int a2), (3, .int a3)] [] bh nx 0 0) → Go l b D z yX12_findFewest cX12_findFewest 7 none rm_X12_findFewest Φ 10 [(0, .ref a0), (1, .int a1), (2, .int a2), (3, .int a3), (4, .int a4)] [] h nx 0 0 := by
  intro n
  induction n with
  | zero => intro a4 h e he; cases (show none = some e from he)
  | succ n ih =>
    intro a4 h e he hx0
    obtain ⟨o, ho, h1, h2⟩ := q_lp_succ he
    exact B_X12_findFewest_10 l b D z (show b_X12_findFewest_10 a0 a1 a2 a3 a4 h = some o from ho) (fun b4 bh hb => ih _ _ e (h1 _ hb) hx0) (fun p0 hr => hx0 p0 (h2 _ hr).symm)
set_option maxRecDepth 100000 in
set_option maxHeartbeats 4000000 in
theorem B_X12_findFewest_2 (l : Launch) (b : Nat) (D : va_G) (z : Nat → Nat) {Φ : Option Value → qH → Nat → Prop} {nx : Nat} {a0 : Nat} {a1 : Int32} {a2 : Int32} {a3 : Int32} {h : qH} {o : (Int32 × qH) ⊕ qH} (hF : b_X12_findFewest_2 a0 a1 a2 a3 h = some o) (hback : ∀ (b3 : Int32) (bh : qH), o = .inl (b3, bh) → Go l b D z yX12_findFewest cX12_findFewest 7 none rm_X12_findFewest Φ 2 [(0, .ref a0), (1, .int a1), (2, .int a2), (3, .int b3)] [] bh nx 0 0) (hx0 : ∀  (bh : qH), o = .inr bh → Go l b D z yX12_findFewest cX12_findFewest 7 none rm_X12_findFewest Φ 148 [] [] bh nx 0 0) : Go l b D z yX12_findFewest cX12_findFewest 7 none rm_X12_findFewest Φ 2 [(0, .ref a0), (1, .int a1), (2, .int a2), (3, .int a3)] [] h nx 0 0 := by
  unfold b_X12_findFewest_2 at hF
  refine g_iload_n 3 dX12_findFewest_2 rfl ?_
  refine g_iload_n 2 dX12_findFewest_3 rfl ?_
  refine g_icmp_ge 148 dX12_findFewest_4 (by decide) (fun c1 => ?_) (fun c1 => ?_)
  · replace hF := q_t c1 hF
    cases hF
    refine g_sub [] rfl ?_
    exact hx0 _ rfl
  · replace hF := q_f c1 hF
    refine g_iconst dX12_findFewest_7 lt_iconst_0 ?_
    refine g_istore [(4, .int (0 : Int32)), (0, .ref a0), (1, .int a1), (2, .int a2), (3, .int a3)] dX12_findFewest_8 (Nat.le_of_ble_eq_true rfl) rfl ?_
    obtain ⟨e2, w3, hF⟩ := q_bind hF
    refine g_sub [1, 2, 3, 4, 0] rfl ?_
    refine L_X12_findFewest_10 l b D z q_N (0 : Int32) h e2 w3 ?_
    · intro h4 w5
      replace w5 := w5.symm
      subst w5
      refine g_iinc [(3, .int (a3 + 1)), (0, .ref a0), (1, .int a1), (2, .int a2)] 3 dX12_findFewest_142 rfl (congrArg (a3 + ·) lt_iconst_1) (Nat.le_of_ble_eq_true rfl) rfl ?_
      refine g_goto 2 dX12_findFewest_145 (by decide) ?_
      cases hF
      refine g_sub [1, 2, 3, 0] rfl ?_
      exact hback _ _ rfl
set_option maxRecDepth 100000 in
set_option maxHeartbeats 4000000 in
theorem L_X12_findFewest_2 (l : Launch) (b : Nat) (D : va_G) (z : Nat → Nat) {Φ : Option Value → qH → Nat → Prop} {nx : Nat} {a0 : Nat} {a1 : Int32} {a2 : Int32} : ∀ (n : Nat) (a3 : Int32) (h : qH) (e : qH), q_lp (s_X12_findFewest_2 a0 a1 a2) n (a3, h) = some e → (∀  (bh : qH), e = bh → Go l b D z yX12_findFewest cX12_findFewest 7 none rm_X12_findFewest Φ 148 [] [] bh nx 0 0) → Go l b D z yX12_findFewest cX12_findFewest 7 none rm_X12_findFewest Φ 2 [(0, .ref a0), (1, .int a1), (2, .int a2), (3, .int a3)] [] h nx 0 0 := by
  intro n
  induction n with
  | zero => intro a3 h e he; cases (show none = some e from he)
  | succ n ih =>
    intro a3 h e he hx0
    obtain ⟨o, ho, h1, h2⟩ := q_lp_succ he
    exact B_X12_findFewest_2 l b D z (show b_X12_findFewest_2 a0 a1 a2 a3 h = some o from ho) (fun b3 bh hb => ih _ _ e (h1 _ hb) hx0) (fun p0 hr => hx0 p0 (h2 _ hr).symm)
set_option maxRecDepth 100000 in
set_option maxHeartbeats 4000000 in
theorem M_X12_findFewest (l : Launch) (b : Nat) (D : va_G) (z : Nat → Nat) (nx : Nat) {h : qH} {a0 : Nat} {a1 : Int32} {a2 : Int32} {r : qH} (hF : F_X12_findFewest h a0 a1 a2 = some r) : Me l b D z yX12_findFewest cX12_findFewest 7 none rm_X12_findFewest [.ref a0, .int a1, .int a2] h nx (qE none r nx) := by
  refine Me.of (by decide +kernel) (Nat.le_of_ble_eq_true rfl) ?_
  show Go l b D z yX12_findFewest cX12_findFewest 7 none rm_X12_findFewest (qE none r nx) 0 [(0, .ref a0), (1, .int a1), (2, .int a2)] [] h nx 0 0
  unfold F_X12_findFewest at hF
  refine g_iconst dX12_findFewest_0 lt_iconst_0 ?_
  refine g_istore_n [(3, .int (0 : Int32)), (0, .ref a0), (1, .int a1), (2, .int a2)] dX12_findFewest_1 (Nat.le_of_ble_eq_true rfl) rfl ?_
  obtain ⟨e1, w2, hF⟩ := q_bind hF
  refine g_sub [1, 2, 3, 0] rfl ?_
  refine L_X12_findFewest_2 l b D z q_N (0 : Int32) h e1 w2 ?_
  · intro h3 w4
    replace w4 := w4.symm
    subst w4
    cases hF
    exact g_vret dX12_findFewest_148 rfl ⟨rfl, rfl, rfl⟩ (Nat.le_of_ble_eq_true rfl) (Nat.le_of_ble_eq_true rfl)
def rm_X12_bestFollower : Room := { frames := 1, cells := 0, slots := 0, locals := 22 }
set_option maxRecDepth 100000 in
set_option maxHeartbeats 4000000 in
theorem J_X12_bestFollower_64 (l : Launch) (b : Nat) (D : va_G) (z : Nat → Nat) {Φ : Option Value → qH → Nat → Prop} {nx : Nat} {h : qH} {a0 : Nat} {a1 : Int32} {a2 : Int32} {a3 : Int32} {a4 : Int32} {a5 : Int32} {t0 : Int32} {o : (Int32 × Int32) ⊕ Int32} (hF : j_X12_bestFollower_64 h a0 a1 a2 a3 a4 a5 t0 = some o) (hback : ∀ (b3 : Int32) (b4 : Int32), o = .inl (b3, b4) → Go l b D z yX12_bestFollower cX12_bestFollower 7 (some .int) rm_X12_bestFollower Φ 5 [(0, .ref a0), (1, .int a1), (2, .int a2), (3, .int b3), (4, .int b4)] [] h nx 0 0) (hx0 : ∀ (b3 : Int32), o = .inr b3 → Go l b D z yX12_bestFollower cX12_bestFollower 7 (some .int) rm_X12_bestFollower Φ 95 [(3, .int b3)] [] h nx 0 0) : Go l b D z yX12_bestFollower cX12_bestFollower 7 (some .int) rm_X12_bestFollower Φ 64 [(0, .ref a0), (1, .int a1), (2, .int a2), (3, .int a3), (4, .int a4), (5, .int a5)] [.int t0] h nx 0 0 := by
  unfold j_X12_bestFollower_64 at hF
  refine g_istore [(6, .int t0), (0, .ref a0), (1, .int a1), (2, .int a2), (3, .int a3), (4, .int a4), (5, .int a5)] dX12_bestFollower_64 (Nat.le_of_ble_eq_true rfl) rfl ?_
  refine g_iload 0 dX12_bestFollower_66 rfl ?_
  refine g_if_eq 87 dX12_bestFollower_68 (by decide) (fun c1 => ?_) (fun c1 => ?_)
  · replace hF := q_t c1 hF
    refine g_iload_n 4 dX12_bestFollower_87 rfl ?_
    refine g_istore_n [(3, .int a3), (6, .int t0), (0, .ref a0), (1, .int a1), (2, .int a2), (4, .int a4), (5, .int a5)] dX12_bestFollower_88 (Nat.le_of_ble_eq_true rfl) rfl ?_
    refine g_iinc [(4, .int (a4 + 1)), (3, .int a3), (6, .int t0), (0, .ref a0), (1, .int a1), (2, .int a2), (5, .int a5)] 5 dX12_bestFollower_89 rfl (congrArg (a4 + ·) lt_iconst_1) (Nat.le_of_ble_eq_true rfl) rfl ?_
    refine g_goto 5 dX12_bestFollower_92 (by decide) ?_
    cases hF
    refine g_sub [3, 4, 5, 1, 0] rfl ?_
    exact hback _ _ rfl
  · replace hF := q_f c1 hF
    refine g_iload_n 4 dX12_bestFollower_71 rfl ?_
    refine g_iconst dX12_bestFollower_72 lt_iconst_m1 ?_
    refine g_icmp_eq 82 dX12_bestFollower_73 (by decide) (fun c2 => ?_) (fun c2 => ?_)
    · replace hF := q_t c2 hF
      refine g_iload 6 dX12_bestFollower_82 rfl ?_
      refine g_goto 88 dX12_bestFollower_84 (by decide) ?_
      refine g_istore_n [(3, .int a5), (6, .int t0), (0, .ref a0), (1, .int a1), (2, .int a2), (4, .int a4), (5, .int a5)] dX12_bestFollower_88 (Nat.le_of_ble_eq_true rfl) rfl ?_
      refine g_iinc [(4, .int (a4 + 1)), (3, .int a5), (6, .int t0), (0, .ref a0), (1, .int a1), (2, .int a2), (5, .int a5)] 5 dX12_bestFollower_89 rfl (congrArg (a4 + ·) lt_iconst_1) (Nat.le_of_ble_eq_true rfl) rfl ?_
      refine g_goto 5 dX12_bestFollower_92 (by decide) ?_
      cases hF
      refine g_sub [3, 4, 5, 1, 0] rfl ?_
      exact hback _ _ rfl
    · replace hF := q_f c2 hF
      refine g_iload 6 dX12_bestFollower_76 rfl ?_
      refine g_iload_n 4 dX12_bestFollower_78 rfl ?_
      refine g_icmp_ge 87 dX12_bestFollower_79 (by decide) (fun c3 => ?_) (fun c3 => ?_)
      · replace hF := q_t c3 hF
        refine g_iload_n 4 dX12_bestFollower_87 rfl ?_
        refine g_istore_n [(3, .int a3), (6, .int t0), (0, .ref a0), (1, .int a1), (2, .int a2), (4, .int a4), (5, .int a5)] dX12_bestFollower_88 (Nat.le_of_ble_eq_true rfl) rfl ?_
        refine g_iinc [(4, .int (a4 + 1)), (3, .int a3), (6, .int t0), (0, .ref a0), (1, .int a1), (2, .int a2), (5, .int a5)] 5 dX12_bestFollower_89 rfl (congrArg (a4 + ·) lt_iconst_1) (Nat.le_of_ble_eq_true rfl) rfl ?_
        refine g_goto 5 dX12_bestFollower_92 (by decide) ?_
        cases hF
        refine g_sub [3, 4, 5, 1, 0] rfl ?_
        exact hback _ _ rfl
      · replace hF := q_f c3 hF
        refine g_iload 6 dX12_bestFollower_82 rfl ?_
        refine g_goto 88 dX12_bestFollower_84 (by decide) ?_
        refine g_istore_n [(3, .int a5), (6, .int t0), (0, .ref a0), (1, .int a1), (2, .int a2), (4, .int a4), (5, .int a5)] dX12_bestFollower_88 (Nat.le_of_ble_eq_true rfl) rfl ?_
        refine g_iinc [(4, .int (a4 + 1)), (3, .int a5), (6, .int t0), (0, .ref a0), (1, .int a1), (2, .int a2), (5, .int a5)] 5 dX12_bestFollower_89 rfl (congrArg (a4 + ·) lt_iconst_1) (Nat.le_of_ble_eq_true rfl) rfl ?_
        refine g_goto 5 dX12_bestFollower_92 (by decide) ?_
        cases hF
        refine g_sub [3, 4, 5, 1, 0] rfl ?_
        exact hback _ _ rfl
set_option maxRecDepth 100000 in
set_option maxHeartbeats 4000000 in
theorem B_X12_bestFollower_5 (l : Launch) (b : Nat) (D : va_G) (z : Nat → Nat) {Φ : Option Value → qH → Nat → Prop} {nx : Nat} {h : qH} {a0 : Nat} {a1 : Int32} {a2 : Int32} {a3 : Int32} {a4 : Int32} {o : (Int32 × Int32) ⊕ Int32} (hF : b_X12_bestFollower_5 h a0 a1 a2 a3 a4 = some o) (hback : ∀ (b3 : Int32) (b4 : Int32), o = .inl (b3, b4) → Go l b D z yX12_bestFollower cX12_bestFollower 7 (some .int) rm_X12_bestFollower Φ 5 [(0, .ref a0), (1, .int a1), (2, .int a2), (3, .int b3), (4, .int b4)] [] h nx 0 0) (hx0 : ∀ (b3 : Int32), o = .inr b3 → Go l b D z yX12_bestFollower cX12_bestFollower 7 (some .int) rm_X12_bestFollower Φ 95 [(3, .int b3)] [] h nx 0 0) : Go l b D z yX12_bestFollower cX12_bestFollower 7 (some .int) rm_X12_bestFollower Φ 5 [(0, .ref a0), (1, .int a1), (2, .int a2), (3, .int a3), (4, .int a4)] [] h nx 0 0 := by
  unfold b_X12_bestFollower_5 at hF
  refine g_iload 4 dX12_bestFollower_5 rfl ?_
  refine g_aload_n 0 dX12_bestFollower_7 rfl ?_
  obtain ⟨x1, e2, hF⟩ := q_bind hF
  refine g_getfR fl_X12_47 e2 dX12_bestFollower_8 ?_
  refine g_iload_n 1 dX12_bestFollower_11 rfl ?_
  obtain ⟨x3, e4, hF⟩ := q_bind hF
  refine g_iald e4 dX12_bestFollower_12 ?_
  refine g_icmp_ge 95 dX12_bestFollower_13 (by decide) (fun c5 => ?_) (fun c5 => ?_)
  · replace hF := q_t c5 hF
    cases hF
    refine g_sub [3] rfl ?_
    exact hx0 _ rfl
  · replace hF := q_f c5 hF
    refine g_aload_n 0 dX12_bestFollower_16 rfl ?_
    refine g_iload_n 1 dX12_bestFollower_17 rfl ?_
    refine g_iload 4 dX12_bestFollower_18 rfl ?_
    obtain ⟨u6, e7, hF⟩ := q_bind hF
    obtain ⟨x8, e9, hF⟩ := q_bind hF
    refine g_callVr0 (ci := 12) (q := (RX12, TX12, 49)) qm_X12_behind wd_1773 wd_1775 wd_104 rfl e7 (M_X12_behind l b D z nx e9) (As := [.int a1, .int a4]) rfl rfl (Nat.le_of_ble_eq_true rfl) ⟨(Nat.le_of_ble_eq_true rfl), (Nat.le_of_ble_eq_true rfl)⟩ ⟨rfl, rfl⟩ ⟨(Nat.le_of_ble_eq_true rfl), (Nat.le_of_ble_eq_true rfl)⟩ dX12_bestFollower_20 ?_
    refine g_istore [(5, .int x8), (0, .ref a0), (1, .int a1), (2, .int a2), (3, .int a3), (4, .int a4)] dX12_bestFollower_23 (Nat.le_of_ble_eq_true rfl) rfl ?_
    refine g_iload 5 dX12_bestFollower_25 rfl ?_
    obtain ⟨x10, e11, hF⟩ := q_bind hF
    refine g_callSr0 qm_X12_strays wd_1888 wd_1889 (M_X12_strays l b D z nx e11) (As := [.int a4]) rfl rfl (Nat.le_of_ble_eq_true rfl) ⟨(Nat.le_of_ble_eq_true rfl), (Nat.le_of_ble_eq_true rfl)⟩ ⟨rfl, rfl⟩ ⟨(Nat.le_of_ble_eq_true rfl), (Nat.le_of_ble_eq_true rfl)⟩ dX12_bestFollower_27 ?_
    refine g_aload_n 1 dX12_bestFollower_30 rfl ?_
    obtain ⟨x12, e13, hF⟩ := q_bind hF
    refine g_getfR fl_X12_53 e13 dX12_bestFollower_31 ?_
    refine g_bipush dX12_bestFollower_34 lt_bipush_20 ?_
    refine g_iload_n 3 dX12_bestFollower_36 rfl ?_
    refine g_iconst dX12_bestFollower_37 lt_iconst_1 ?_
    refine g_isub dX12_bestFollower_38 ?_
    refine g_imul dX12_bestFollower_39 ?_
    refine g_iload 0 dX12_bestFollower_40 rfl ?_
    refine g_iadd dX12_bestFollower_42 ?_
    obtain ⟨x14, e15, hF⟩ := q_bind hF
    refine g_iald e15 dX12_bestFollower_43 ?_
    refine g_iadd dX12_bestFollower_44 ?_
    refine g_aload_n 1 dX12_bestFollower_45 rfl ?_
    obtain ⟨x16, e17, hF⟩ := q_bind hF
    refine g_getfR fl_X12_53 e17 dX12_bestFollower_46 ?_
    refine g_bipush dX12_bestFollower_49 lt_bipush_20 ?_
    refine g_iload_n 3 dX12_bestFollower_51 rfl ?_
    refine g_imul dX12_bestFollower_52 ?_
    refine g_iload_n 2 dX12_bestFollower_53 rfl ?_
    refine g_iadd dX12_bestFollower_54 ?_
    obtain ⟨x18, e19, hF⟩ := q_bind hF
    refine g_iald e19 dX12_bestFollower_55 ?_
    refine g_icmp_ne 63 dX12_bestFollower_56 (by decide) (fun c20 => ?_) (fun c20 => ?_)
    · replace hF := q_f c20 hF
      refine g_iconst dX12_bestFollower_63 lt_iconst_0 ?_
      refine g_sub [1, 2, 3, 4, 5, 0] rfl ?_
      exact J_X12_bestFollower_64 l b D z hF hback hx0
    · replace hF := q_t c20 hF
      refine g_iconst dX12_bestFollower_59 lt_iconst_1 ?_
      refine g_goto 64 dX12_bestFollower_60 (by decide) ?_
      refine g_sub [1, 2, 3, 4, 5, 0] rfl ?_
      exact J_X12_bestFollower_64 l b D z hF hback hx0
set_option maxRecDepth 100000 in
set_option maxHeartbeats 4000000 in
theorem L_X12_bestFollower_5 (l : Launch) (b : Nat) (D : va_G) (z : Nat → Nat) {Φ : Option Value → qH → Nat → Prop} {nx : Nat} {h : qH} {a0 : Nat} {a1 : Int32} {a2 : Int32} : ∀ (n : Nat) (a3 : Int32) (a4 : Int32) (e : Int32), q_lp (s_X12_bestFollower_5 h a0 a1 a2) n (a3, a4) = some e → (∀ (b3 : Int32), e = b3 → Go l b D z yX12_bestFollower cX12_bestFollower 7 (some .int) rm_X12_bestFollower Φ 95 [(3, .int b3)] [] h nx 0 0) → Go l b D z yX12_bestFollower cX12_bestFollower 7 (some .int) rm_X12_bestFollower Φ 5 [(0, .ref a0), (1, .int a1), (2, .int a2), (3, .int a3), (4, .int a4)] [] h nx 0 0 := by
  intro n
  induction n with
  | zero => intro a3 a4 e he; cases (show none = some e from he)
  | succ n ih =>
    intro a3 a4 e he hx0
    obtain ⟨o, ho, h1, h2⟩ := q_lp_succ he
    exact B_X12_bestFollower_5 l b D z (show b_X12_bestFollower_5 h a0 a1 a2 a3 a4 = some o from ho) (fun b3 b4 hb => ih _ _ e (h1 _ hb) hx0) (fun p0 hr => hx0 p0 (h2 _ hr).symm)
set_option maxRecDepth 100000 in
set_option maxHeartbeats 4000000 in
theorem M_X12_bestFollower (l : Launch) (b : Nat) (D : va_G) (z : Nat → Nat) (nx : Nat) {h : qH} {a0 : Nat} {a1 : Int32} {a2 : Int32} {r : Int32} (hF : F_X12_bestFollower h a0 a1 a2 = some r) : Me l b D z yX12_bestFollower cX12_bestFollower 7 (some .int) rm_X12_bestFollower [.ref a0, .int a1, .int a2] h nx (qE (some (.int r)) h nx) := by
  refine Me.of (by decide +kernel) (Nat.le_of_ble_eq_true rfl) ?_
  show Go l b D z yX12_bestFollower cX12_bestFollower 7 (some .int) rm_X12_bestFollower (qE (some (.int r)) h nx) 0 [(0, .ref a0), (1, .int a1), (2, .int a2)] [] h nx 0 0
  unfold F_X12_bestFollower at hF
  refine g_iconst dX12_bestFollower_0 lt_iconst_m1 ?_
  refine g_istore_n [(3, .int (-1 : Int32)), (0, .ref a0), (1, .int a1), (2, .int a2)] dX12_bestFollower_1 (Nat.le_of_ble_eq_true rfl) rfl ?_
  refine g_iconst dX12_bestFollower_2 lt_iconst_0 ?_
  refine g_istore [(4, .int (0 : Int32)), (3, .int (-1 : Int32)), (0, .ref a0), (1, .int a1), (2, .int a2)] dX12_bestFollower_3 (Nat.le_of_ble_eq_true rfl) rfl ?_
  obtain ⟨e1, w2, hF⟩ := q_bind hF
  refine g_sub [2, 3, 4, 1, 0] rfl ?_
  refine L_X12_bestFollower_5 l b D z q_N (-1 : Int32) (0 : Int32) e1 w2 ?_
  · intro o3 w4
    replace w4 := w4.symm
    subst w4
    refine g_iload_n 0 dX12_bestFollower_95 rfl ?_
    cases hF
    exact g_iret dX12_bestFollower_96 rfl ⟨rfl, rfl, rfl⟩ (Nat.le_of_ble_eq_true rfl) (Nat.le_of_ble_eq_true rfl)
