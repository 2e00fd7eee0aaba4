def rm_X12_drawn : Room := { frames := 7, cells := 0, slots := 0, locals := 150 }
set_option maxRecDepth 100000 in
set_option maxHeartbeats 4000000 in
theorem B_X12_drawn_45 (l : Launch) (b : Nat) (D : va_G) (z : Nat → Nat) {Φ : Option Value → qH → Nat → Prop} {nx : Nat} {a0 : Nat} {a3 : Int32} {a4 : Int32} {a5 : Int32} {h : qH} {o : (Int32 × qH) ⊕ qH} (hF : b_X12_drawn_45 a0 a3 a4 a5 h = some o) (hback : ∀ (b5 : Int32) (bh : qH), o = .inl (b5, bh) → Go l b D z yX12_drawn cX12_drawn 6 (some .int) rm_X12_drawn Φ 45 [(0, .ref a0), (3, .int a3), (4, .int a4), (5, .int b5)] [] bh nx 0 0) (hx0 : ∀  (bh : qH), o = .inr bh → Go l b D z yX12_drawn cX12_drawn 6 (some .int) rm_X12_drawn Φ 61 [(0, .ref a0), (4, .int a4)] [] bh nx 0 0) : Go l b D z yX12_drawn cX12_drawn 6 (some .int) rm_X12_drawn Φ 45 [(0, .ref a0), (3, .int a3), (4, .int a4), (5, .int a5)] [] h nx 0 0 := by
  unfold b_X12_drawn_45 at hF
  refine g_iload 3 dX12_drawn_45 rfl ?_
  refine g_iload_n 1 dX12_drawn_47 rfl ?_
  refine g_icmp_ge 61 dX12_drawn_48 (by decide) (fun c1 => ?_) (fun c1 => ?_)
  · replace hF := q_t c1 hF
    cases hF
    refine g_sub [0, 2] rfl ?_
    exact hx0 _ rfl
  · replace hF := q_f c1 hF
    refine g_aload_n 0 dX12_drawn_51 rfl ?_
    obtain ⟨u2, e3, hF⟩ := q_bind hF
    obtain ⟨x4, e5, hF⟩ := q_bind hF
    refine g_callVv0 (ci := 12) (q := (RX12, TX12, 49)) qm_X12_drawDeed wd_2073 wd_2075 wd_157 rfl e3 (M_X12_drawDeed l b D z nx e5) (As := []) rfl rfl (Nat.le_of_ble_eq_true rfl) ⟨(Nat.le_of_ble_eq_true rfl), (Nat.le_of_ble_eq_true rfl)⟩ ⟨rfl, rfl⟩ ⟨(Nat.le_of_ble_eq_true rfl), (Nat.le_of_ble_eq_true rfl)⟩ dX12_drawn_52 ?_
    refine g_iinc [(5, .int (a5 + 1)), (0, .ref a0), (3, .int a3), (4, .int a4)] 3 dX12_drawn_55 rfl (congrArg (a5 + ·) lt_iconst_1) (Nat.le_of_ble_eq_true rfl) rfl ?_
    refine g_goto 45 dX12_drawn_58 (by decide) ?_
    cases hF
    refine g_sub [1, 2, 3, 0] rfl ?_
    exact hback _ _ rfl
set_option maxRecDepth 100000 in
set_option maxHeartbeats 4000000 in
theorem L_X12_drawn_45 (l : Launch) (b : Nat) (D : va_G) (z : Nat → Nat) {Φ : Option Value → qH → Nat → Prop} {nx : Nat} {a0 : Nat} {a3 : Int32} {a4 : Int32} : ∀ (n : Nat) (a5 : Int32) (h : qH) (e : qH), q_lp (s_X12_drawn_45 a0 a3 a4) n (a5, h) = some e → (∀  (bh : qH), e = bh → Go l b D z yX12_drawn cX12_drawn 6 (some .int) rm_X12_drawn Φ 61 [(0, .ref a0), (4, .int a4)] [] bh nx 0 0) → Go l b D z yX12_drawn cX12_drawn 6 (some .int) rm_X12_drawn Φ 45 [(0, .ref a0), (3, .int a3), (4, .int a4), (5, .int a5)] [] h nx 0 0 := by
  intro n
  induction n with
  | zero => intro a5 h e he; cases (show none = some e from he)
  | succ n ih =>
    intro a5 h e he hx0
    obtain ⟨o, ho, h1, h2⟩ := q_lp_succ he
    exact B_X12_drawn_45 l b D z (show b_X12_drawn_45 a0 a3 a4 a5 h = some o from ho) (fun b5 bh hb => ih _ _ e (h1 _ hb) hx0) (fun p0 hr => hx0 p0 (h2 _ hr).symm)
set_option maxRecDepth 100000 in
set_option maxHeartbeats 4000000 in
theorem M_X12_drawn (l : Launch) (b : Nat) (D : va_G) (z : Nat → Nat) (nx : Nat) {h : qH} {a0 : Nat} {a1 : Int32} {a2 : Int32} {a3 : Int32} {a4 : Int32} {r : Int32 × qH} (hF : F_X12_drawn h a0 a1 a2 a3 a4 = some r) : Me l b D z yX12_drawn cX12_drawn 6 (some .int) rm_X12_drawn [.ref a0, .int a1, .int a2, .int a3, .int a4] h nx (qE (some (.int r.1)) r.2 nx) := by
  refine Me.of (by decide +kernel) (Nat.le_of_ble_eq_true rfl) ?_
  show Go l b D z yX12_drawn cX12_drawn 6 (some .int) rm_X12_drawn (qE (some (.int r.1)) r.2 nx) 0 [(0, .ref a0), (1, .int a1), (2, .int a2), (3, .int a3), (4, .int a4)] [] h nx 0 0
  unfold F_X12_drawn at hF
  refine g_aload_n 0 dX12_drawn_0 rfl ?_
  refine g_iconst dX12_drawn_1 lt_iconst_0 ?_
  obtain ⟨h1, e2, hF⟩ := q_bind hF
  refine g_putf fl_X12_91 e2 rfl rfl dX12_drawn_2 ?_
  refine g_iload_n 3 dX12_drawn_5 rfl ?_
  refine g_iconst dX12_drawn_6 lt_iconst_0 ?_
  refine g_bipush dX12_drawn_7 lt_bipush_60 ?_
  obtain ⟨x3, e4, hF⟩ := q_bind hF
  refine g_callSr0 qm_X12_in wd_1623 wd_1624 (M_X12_in l b D z nx e4) (As := [.int a3, .int (0 : Int32), .int (60 : Int32)]) rfl rfl (Nat.le_of_ble_eq_true rfl) ⟨(Nat.le_of_ble_eq_true rfl), (Nat.le_of_ble_eq_true rfl)⟩ ⟨rfl, rfl⟩ ⟨(Nat.le_of_ble_eq_true rfl), (Nat.le_of_ble_eq_true rfl)⟩ dX12_drawn_9 ?_
  refine g_if_eq 30 dX12_drawn_12 (by decide) (fun c5 => ?_) (fun c5 => ?_)
  · replace hF := q_t c5 hF
    refine g_bipush dX12_drawn_30 lt_bipush_m2 ?_
    cases hF
    exact g_iret dX12_drawn_32 rfl ⟨rfl, rfl, rfl⟩ (Nat.le_of_ble_eq_true rfl) (Nat.le_of_ble_eq_true rfl)
  · replace hF := q_f c5 hF
    refine g_aload_n 0 dX12_drawn_15 rfl ?_
    refine g_iload_n 1 dX12_drawn_16 rfl ?_
    obtain ⟨u6, e7, hF⟩ := q_bind hF
    obtain ⟨x8, e9, hF⟩ := q_bind hF
    refine g_callVr0 (ci := 12) (q := (RX12, TX12, 49)) qm_X12_hand wd_1750 wd_1752 wd_99 rfl e7 (M_X12_hand l b D z nx e9) (As := [.int a1]) rfl rfl (Nat.le_of_ble_eq_true rfl) ⟨(Nat.le_of_ble_eq_true rfl), (Nat.le_of_ble_eq_true rfl)⟩ ⟨rfl, rfl⟩ ⟨(Nat.le_of_ble_eq_true rfl), (Nat.le_of_ble_eq_true rfl)⟩ dX12_drawn_17 ?_
    refine g_if_eq 30 dX12_drawn_20 (by decide) (fun c10 => ?_) (fun c10 => ?_)
    · replace hF := q_t c10 hF
      refine g_bipush dX12_drawn_30 lt_bipush_m2 ?_
      cases hF
      exact g_iret dX12_drawn_32 rfl ⟨rfl, rfl, rfl⟩ (Nat.le_of_ble_eq_true rfl) (Nat.le_of_ble_eq_true rfl)
    · replace hF := q_f c10 hF
      refine g_aload_n 0 dX12_drawn_23 rfl ?_
      obtain ⟨x11, e12, hF⟩ := q_bind hF
      refine g_getfI fl_X12_276 e12 dX12_drawn_24 ?_
      refine g_if_ne 33 dX12_drawn_27 (by decide) (fun c13 => ?_) (fun c13 => ?_)
      · replace hF := q_f c13 hF
        refine g_aload_n 0 dX12_drawn_33 rfl ?_
        refine g_iload_n 2 dX12_drawn_34 rfl ?_
        obtain ⟨h14, e15, hF⟩ := q_bind hF
        refine g_putf fl_X12_509 e15 rfl rfl dX12_drawn_35 ?_
        refine g_aload_n 0 dX12_drawn_38 rfl ?_
        obtain ⟨u16, e17, hF⟩ := q_bind hF
        obtain ⟨x18, e19, hF⟩ := q_bind hF
        refine g_callVv0 (ci := 12) (q := (RX12, TX12, 49)) qm_X12_begin wd_1809 wd_1811 wd_110 rfl e17 (M_X12_begin l b D z nx e19) (As := []) rfl rfl (Nat.le_of_ble_eq_true rfl) ⟨(Nat.le_of_ble_eq_true rfl), (Nat.le_of_ble_eq_true rfl)⟩ ⟨rfl, rfl⟩ ⟨(Nat.le_of_ble_eq_true rfl), (Nat.le_of_ble_eq_true rfl)⟩ dX12_drawn_39 ?_
        refine g_iconst dX12_drawn_42 lt_iconst_0 ?_
        refine g_istore [(5, .int (0 : Int32)), (0, .ref a0), (1, .int a1), (2, .int a2), (3, .int a3), (4, .int a4)] dX12_drawn_43 (Nat.le_of_ble_eq_true rfl) rfl ?_
        obtain ⟨e20, w21, hF⟩ := q_bind hF
        refine g_sub [1, 4, 5, 0] rfl ?_
        refine L_X12_drawn_45 l b D z q_N (0 : Int32) x18 e20 w21 ?_
        · intro h22 w23
          replace w23 := w23.symm
          subst w23
          refine g_aload_n 0 dX12_drawn_61 rfl ?_
          refine g_iload 1 dX12_drawn_62 rfl ?_
          obtain ⟨u24, e25, hF⟩ := q_bind hF
          obtain ⟨x26, e27, hF⟩ := q_bind hF
          refine g_callVr0 (ci := 12) (q := (RX12, TX12, 49)) qm_X12_ofState wd_1872 wd_1874 wd_124 rfl e25 (M_X12_ofState l b D z nx e27) (As := [.int a4]) rfl rfl (Nat.le_of_ble_eq_true rfl) ⟨(Nat.le_of_ble_eq_true rfl), (Nat.le_of_ble_eq_true rfl)⟩ ⟨rfl, rfl⟩ ⟨(Nat.le_of_ble_eq_true rfl), (Nat.le_of_ble_eq_true rfl)⟩ dX12_drawn_64 ?_
          cases hF
          exact g_iret dX12_drawn_67 rfl ⟨rfl, rfl, rfl⟩ (Nat.le_of_ble_eq_true rfl) (Nat.le_of_ble_eq_true rfl)
      · replace hF := q_t c13 hF
        refine g_bipush dX12_drawn_30 lt_bipush_m2 ?_
        cases hF
        exact g_iret dX12_drawn_32 rfl ⟨rfl, rfl, rfl⟩ (Nat.le_of_ble_eq_true rfl) (Nat.le_of_ble_eq_true rfl)
def rm_X12_reachable : Room := { frames := 2, cells := 0, slots := 0, locals := 42 }
set_option maxRecDepth 100000 in
set_option maxHeartbeats 4000000 in
theorem B_X12_reachable_54 (l : Launch) (b : Nat) (D : va_G) (z : Nat → Nat) {Φ : Option Value → qH → Nat → Prop} {nx : Nat} {h : qH} {a0 : Nat} {a1 : Int32} {a2 : Int32} {a4 : Int32} {a5 : Int32} {a3 : Int32} {a6 : Int32} {o : (Int32 × Int32) ⊕ Int32} (hF : b_X12_reachable_54 h a0 a1 a2 a4 a5 a3 a6 = some o) (hback : ∀ (b3 : Int32) (b6 : Int32), o = .inl (b3, b6) → Go l b D z yX12_reachable cX12_reachable 8 (some .int) rm_X12_reachable Φ 54 [(0, .ref a0), (1, .int a1), (2, .int a2), (3, .int b3), (4, .int a4), (5, .int a5), (6, .int b6)] [] h nx 0 0) (hx0 : ∀ (b3 : Int32), o = .inr b3 → Go l b D z yX12_reachable cX12_reachable 8 (some .int) rm_X12_reachable Φ 121 [(0, .ref a0), (1, .int a1), (2, .int a2), (3, .int b3), (4, .int a4), (5, .int a5)] [] h nx 0 0) : Go l b D z yX12_reachable cX12_reachable 8 (some .int) rm_X12_reachable Φ 54 [(0, .ref a0), (1, .int a1), (2, .int a2), (3, .int a3), (4, .int a4), (5, .int a5), (6, .int a6)] [] h nx 0 0 := by
  unfold b_X12_reachable_54 at hF
  refine g_iload 6 dX12_reachable_54 rfl ?_
  refine g_aload_n 0 dX12_reachable_56 rfl ?_
  obtain ⟨x1, e2, hF⟩ := q_bind hF
  refine g_getfR fl_X12_47 e2 dX12_reachable_57 ?_
  refine g_iload 5 dX12_reachable_60 rfl ?_
  obtain ⟨x3, e4, hF⟩ := q_bind hF
  refine g_iald e4 dX12_reachable_62 ?_
  refine g_icmp_ge 121 dX12_reachable_63 (by decide) (fun c5 => ?_) (fun c5 => ?_)
  · replace hF := q_t c5 hF
    cases hF
    refine g_sub [0, 1, 2, 3, 4, 5] rfl ?_
    exact hx0 _ rfl
  · replace hF := q_f c5 hF
    refine g_iload_n 3 dX12_reachable_66 rfl ?_
    refine g_iload 5 dX12_reachable_67 rfl ?_
    obtain ⟨x6, e7, hF⟩ := q_bind hF
    refine g_callSr0 qm_X12_has wd_1825 wd_1826 (M_X12_has l b D z nx e7) (As := [.int a3, .int a5]) rfl rfl (Nat.le_of_ble_eq_true rfl) ⟨(Nat.le_of_ble_eq_true rfl), (Nat.le_of_ble_eq_true rfl)⟩ ⟨rfl, rfl⟩ ⟨(Nat.le_of_ble_eq_true rfl), (Nat.le_of_ble_eq_true rfl)⟩ dX12_reachable_69 ?_
    refine g_if_eq 121 dX12_reachable_72 (by decide) (fun c8 => ?_) (fun c8 => ?_)
    · replace hF := q_t c8 hF
      cases hF
      refine g_sub [0, 1, 2, 3, 4, 5] rfl ?_
      exact hx0 _ rfl
    · replace hF := q_f c8 hF
      refine g_aload_n 0 dX12_reachable_75 rfl ?_
      refine g_iload 5 dX12_reachable_76 rfl ?_
      refine g_iload 6 dX12_reachable_78 rfl ?_
      obtain ⟨u9, e10, hF⟩ := q_bind hF
      obtain ⟨x11, e12, hF⟩ := q_bind hF
      refine g_callVr0 (ci := 12) (q := (RX12, TX12, 49)) qm_X12_behind wd_1773 wd_1775 wd_104 rfl e10 (M_X12_behind l b D z nx e12) (As := [.int a5, .int a6]) rfl rfl (Nat.le_of_ble_eq_true rfl) ⟨(Nat.le_of_ble_eq_true rfl), (Nat.le_of_ble_eq_true rfl)⟩ ⟨rfl, rfl⟩ ⟨(Nat.le_of_ble_eq_true rfl), (Nat.le_of_ble_eq_true rfl)⟩ dX12_reachable_80 ?_
      refine g_istore [(7, .int x11), (0, .ref a0), (1, .int a1), (2, .int a2), (3, .int a3), (4, .int a4), (5, .int a5), (6, .int a6)] dX12_reachable_83 (Nat.le_of_ble_eq_true rfl) rfl ?_
      refine g_iload_n 4 dX12_reachable_85 rfl ?_
      refine g_iload 0 dX12_reachable_86 rfl ?_
      refine g_iload_n 3 dX12_reachable_88 rfl ?_
      refine g_icmp_eq 105 dX12_reachable_89 (by decide) (fun c13 => ?_) (fun c13 => ?_)
      · replace hF := q_t c13 hF
        refine g_iconst dX12_reachable_105 lt_iconst_0 ?_
        refine g_goto 113 dX12_reachable_106 (by decide) ?_
        refine g_ior dX12_reachable_113 ?_
        refine g_istore_n [(3, .int (a3 ||| (0 : Int32))), (7, .int x11), (0, .ref a0), (1, .int a1), (2, .int a2), (4, .int a4), (5, .int a5), (6, .int a6)] dX12_reachable_114 (Nat.le_of_ble_eq_true rfl) rfl ?_
        refine g_iinc [(6, .int (a6 + 1)), (3, .int (a3 ||| (0 : Int32))), (7, .int x11), (0, .ref a0), (1, .int a1), (2, .int a2), (4, .int a4), (5, .int a5)] 7 dX12_reachable_115 rfl (congrArg (a6 + ·) lt_iconst_1) (Nat.le_of_ble_eq_true rfl) rfl ?_
        refine g_goto 54 dX12_reachable_118 (by decide) ?_
        cases hF
        refine g_sub [3, 4, 5, 1, 6, 7, 0] rfl ?_
        exact hback _ _ rfl
      · replace hF := q_f c13 hF
        refine g_iload_n 2 dX12_reachable_92 rfl ?_
        refine g_aload_n 1 dX12_reachable_93 rfl ?_
        refine g_iload 0 dX12_reachable_94 rfl ?_
        obtain ⟨u14, e15, hF⟩ := q_bind hF
        obtain ⟨x16, e17, hF⟩ := q_bind hF
        refine g_callVr0 (ci := 12) (q := (RX12, TX12, 49)) qm_X12_who wd_1836 wd_1838 wd_116 rfl e15 (M_X12_who l b D z nx e17) (As := [.int x11]) rfl rfl (Nat.le_of_ble_eq_true rfl) ⟨(Nat.le_of_ble_eq_true rfl), (Nat.le_of_ble_eq_true rfl)⟩ ⟨rfl, rfl⟩ ⟨(Nat.le_of_ble_eq_true rfl), (Nat.le_of_ble_eq_true rfl)⟩ dX12_reachable_96 ?_
        obtain ⟨x18, e19, hF⟩ := q_bind hF
        refine g_callSr0 qm_X12_has wd_1825 wd_1826 (M_X12_has l b D z nx e19) (As := [.int a1, .int x16]) rfl rfl (Nat.le_of_ble_eq_true rfl) ⟨(Nat.le_of_ble_eq_true rfl), (Nat.le_of_ble_eq_true rfl)⟩ ⟨rfl, rfl⟩ ⟨(Nat.le_of_ble_eq_true rfl), (Nat.le_of_ble_eq_true rfl)⟩ dX12_reachable_99 ?_
        refine g_if_eq 109 dX12_reachable_102 (by decide) (fun c20 => ?_) (fun c20 => ?_)
        · replace hF := q_t c20 hF
          refine g_iconst dX12_reachable_109 lt_iconst_1 ?_
          refine g_iload 0 dX12_reachable_110 rfl ?_
          refine g_ishl dX12_reachable_112 ?_
          refine g_ior dX12_reachable_113 ?_
          refine g_istore_n [(3, .int (a3 ||| (q_shl (1 : Int32) x11))), (7, .int x11), (0, .ref a0), (1, .int a1), (2, .int a2), (4, .int a4), (5, .int a5), (6, .int a6)] dX12_reachable_114 (Nat.le_of_ble_eq_true rfl) rfl ?_
          refine g_iinc [(6, .int (a6 + 1)), (3, .int (a3 ||| (q_shl (1 : Int32) x11))), (7, .int x11), (0, .ref a0), (1, .int a1), (2, .int a2), (4, .int a4), (5, .int a5)] 7 dX12_reachable_115 rfl (congrArg (a6 + ·) lt_iconst_1) (Nat.le_of_ble_eq_true rfl) rfl ?_
          refine g_goto 54 dX12_reachable_118 (by decide) ?_
          cases hF
          refine g_sub [3, 4, 5, 1, 6, 7, 0] rfl ?_
          exact hback _ _ rfl
        · replace hF := q_f c20 hF
          refine g_iconst dX12_reachable_105 lt_iconst_0 ?_
          refine g_goto 113 dX12_reachable_106 (by decide) ?_
          refine g_ior dX12_reachable_113 ?_
          refine g_istore_n [(3, .int (a3 ||| (0 : Int32))), (7, .int x11), (0, .ref a0), (1, .int a1), (2, .int a2), (4, .int a4), (5, .int a5), (6, .int a6)] dX12_reachable_114 (Nat.le_of_ble_eq_true rfl) rfl ?_
          refine g_iinc [(6, .int (a6 + 1)), (3, .int (a3 ||| (0 : Int32))), (7, .int x11), (0, .ref a0), (1, .int a1), (2, .int a2), (4, .int a4), (5, .int a5)] 7 dX12_reachable_115 rfl (congrArg (a6 + ·) lt_iconst_1) (Nat.le_of_ble_eq_true rfl) rfl ?_
          refine g_goto 54 dX12_reachable_118 (by decide) ?_
          cases hF
          refine g_sub [3, 4, 5, 1, 6, 7, 0] rfl ?_
          exact hback _ _ rfl
set_option maxRecDepth 100000 in
set_option maxHeartbeats 4000000 in
theorem L_X12_reachable_54 (l : Launch) (b : Nat) (D : va_G) (z : Nat → Nat) {Φ : Option Value → qH → Nat → Prop} {nx : Nat} {h : qH} {a0 : Nat} {a1 : Int32} {a2 : Int32} {a4 : Int32} {a5 : Int32} : ∀ (n : Nat) (a3 : Int32) (a6 : Int32) (e : Int32), q_lp (s_X12_reachable_54 h a0 a1 a2 a4 a5) n (a3, a6) = some e → (∀ (b3 : Int32), e = b3 → Go l b D z yX12_reachable cX12_reachable 8 (some .int) rm_X12_reachable Φ 121 [(0, .ref a0), (1, .int a1), (2, .int a2), (3, .int b3), (4, .int a4), (5, .int a5)] [] h nx 0 0) → Go l b D z yX12_reachable cX12_reachable 8 (some .int) rm_X12_reachable Φ 54 [(0, .ref a0), (1, .int a1), (2, .int a2), (3, .int a3), (4, .int a4), (5, .int a5), (6, .int a6)] [] h nx 0 0 := by
  intro n
  induction n with
  | zero => intro a3 a6 e he; cases (show none = some e from he)
  | succ n ih =>
    intro a3 a6 e he hx0
    obtain ⟨o, ho, h1, h2⟩ := q_lp_succ he
    exact B_X12_reachable_54 l b D z (show b_X12_reachable_54 h a0 a1 a2 a4 a5 a3 a6 = some o from ho) (fun b3 b6 hb => ih _ _ e (h1 _ hb) hx0) (fun p0 hr => hx0 p0 (h2 _ hr).symm)
set_option maxRecDepth 100000 in
set_option maxHeartbeats 4000000 in
theorem B_X12_reachable_42 (l : Launch) (b : Nat) (D : va_G) (z : Nat → Nat) {Φ : Option Value → qH → Nat → Prop} {nx : Nat} {h : qH} {a0 : Nat} {a1 : Int32} {a2 : Int32} {a4 : Int32} {a3 : Int32} {a5 : Int32} {o : (Int32 × Int32) ⊕ Int32} (hF : b_X12_reachable_42 h a0 a1 a2 a4 a3 a5 = some o) (hback : ∀ (b3 : Int32) (b5 : Int32), o = .inl (b3, b5) → Go l b D z yX12_reachable cX12_reachable 8 (some .int) rm_X12_reachable Φ 42 [(0, .ref a0), (1, .int a1), (2, .int a2), (3, .int b3), (4, .int a4), (5, .int b5)] [] h nx 0 0) (hx0 : ∀ (b3 : Int32), o = .inr b3 → Go l b D z yX12_reachable cX12_reachable 8 (some .int) rm_X12_reachable Φ 127 [(0, .ref a0), (1, .int a1), (2, .int a2), (3, .int b3), (4, .int a4)] [] h nx 0 0) : Go l b D z yX12_reachable cX12_reachable 8 (some .int) rm_X12_reachable Φ 42 [(0, .ref a0), (1, .int a1), (2, .int a2), (3, .int a3), (4, .int a4), (5, .int a5)] [] h nx 0 0 := by
  unfold b_X12_reachable_42 at hF
  refine g_iload 5 dX12_reachable_42 rfl ?_
  refine g_aload_n 0 dX12_reachable_44 rfl ?_
  obtain ⟨x1, e2, hF⟩ := q_bind hF
  refine g_getfI fl_X12_276 e2 dX12_reachable_45 ?_
  refine g_icmp_ge 127 dX12_reachable_48 (by decide) (fun c3 => ?_) (fun c3 => ?_)
  · replace hF := q_t c3 hF
    cases hF
    refine g_sub [0, 1, 2, 3, 4] rfl ?_
    exact hx0 _ rfl
  · replace hF := q_f c3 hF
    refine g_iconst dX12_reachable_51 lt_iconst_0 ?_
    refine g_istore [(6, .int (0 : Int32)), (0, .ref a0), (1, .int a1), (2, .int a2), (3, .int a3), (4, .int a4), (5, .int a5)] dX12_reachable_52 (Nat.le_of_ble_eq_true rfl) rfl ?_
    obtain ⟨e4, w5, hF⟩ := q_bind hF
    refine g_sub [1, 2, 3, 4, 5, 6, 0] rfl ?_
    refine L_X12_reachable_54 l b D z q_N a3 (0 : Int32) e4 w5 ?_
    · intro o6 w7
      replace w7 := w7.symm
      subst w7
      refine g_iinc [(5, .int (a5 + 1)), (0, .ref a0), (1, .int a1), (2, .int a2), (3, .int o6), (4, .int a4)] 5 dX12_reachable_121 rfl (congrArg (a5 + ·) lt_iconst_1) (Nat.le_of_ble_eq_true rfl) rfl ?_
      refine g_goto 42 dX12_reachable_124 (by decide) ?_
      cases hF
      refine g_sub [1, 2, 3, 4, 5, 0] rfl ?_
      exact hback _ _ rfl
set_option maxRecDepth 100000 in
set_option maxHeartbeats 4000000 in
theorem L_X12_reachable_42 (l : Launch) (b : Nat) (D : va_G) (z : Nat → Nat) {Φ : Option Value → qH → Nat → Prop} {nx : Nat} {h : qH} {a0 : Nat} {a1 : Int32} {a2 : Int32} {a4 : Int32} : ∀ (n : Nat) (a3 : Int32) (a5 : Int32) (e : Int32), q_lp (s_X12_reachable_42 h a0 a1 a2 a4) n (a3, a5) = some e → (∀ (b3 : Int32), e = b3 → Go l b D z yX12_reachable cX12_reachable 8 (some .int) rm_X12_reachable Φ 127 [(0, .ref a0), (1, .int a1), (2, .int a2), (3, .int b3), (4, .int a4)] [] h nx 0 0) → Go l b D z yX12_reachable cX12_reachable 8 (some .int) rm_X12_reachable Φ 42 [(0, .ref a0), (1, .int a1), (2, .int a2), (3, .int a3), (4, .int a4), (5, .int a5)] [] h nx 0 0 := by
  intro n
  induction n with
  | zero => intro a3 a5 e he; cases (show none = some e from he)
  | succ n ih =>
    intro a3 a5 e he hx0
    obtain ⟨o, ho, h1, h2⟩ := q_lp_succ he
    exact B_X12_reachable_42 l b D z (show b_X12_reachable_42 h a0 a1 a2 a4 a3 a5 = some o from ho) (fun b3 b5 hb => ih _ _ e (h1 _ hb) hx0) (fun p0 hr => hx0 p0 (h2 _ hr).symm)
set_option maxRecDepth 100000 in
set_option maxHeartbeats 4000000 in
theorem B_X12_reachable_30 (l : Launch) (b : Nat) (D : va_G) (z : Nat → Nat) {Φ : Option Value → qH → Nat → Prop} {nx : Nat} {h : qH} {a0 : Nat} {a1 : Int32} {a2 : Int32} {a3 : Int32} {a4 : Int32} {o : (Int32 × Int32) ⊕ Int32} (hF : b_X12_reachable_30 h a0 a1 a2 a3 a4 = some o) (hback : ∀ (b3 : Int32) (b4 : Int32), o = .inl (b3, b4) → Go l b D z yX12_reachable cX12_reachable 8 (some .int) rm_X12_reachable Φ 30 [(0, .ref a0), (1, .int a1), (2, .int a2), (3, .int b3), (4, .int b4)] [] h nx 0 0) (hx0 : ∀ (b3 : Int32), o = .inr b3 → Go l b D z yX12_reachable cX12_reachable 8 (some .int) rm_X12_reachable Φ 130 [(3, .int b3)] [] h nx 0 0) : Go l b D z yX12_reachable cX12_reachable 8 (some .int) rm_X12_reachable Φ 30 [(0, .ref a0), (1, .int a1), (2, .int a2), (3, .int a3), (4, .int a4)] [] h nx 0 0 := by
  unfold b_X12_reachable_30 at hF
  refine g_iload_n 3 dX12_reachable_30 rfl ?_
  refine g_iload 4 dX12_reachable_31 rfl ?_
  refine g_icmp_eq 130 dX12_reachable_33 (by decide) (fun c1 => ?_) (fun c1 => ?_)
  · replace hF := q_t c1 hF
    cases hF
    refine g_sub [3] rfl ?_
    exact hx0 _ rfl
  · replace hF := q_f c1 hF
    refine g_iload_n 3 dX12_reachable_36 rfl ?_
    refine g_istore [(4, .int a3), (0, .ref a0), (1, .int a1), (2, .int a2), (3, .int a3)] dX12_reachable_37 (Nat.le_of_ble_eq_true rfl) rfl ?_
    refine g_iconst dX12_reachable_39 lt_iconst_0 ?_
    refine g_istore [(5, .int (0 : Int32)), (4, .int a3), (0, .ref a0), (1, .int a1), (2, .int a2), (3, .int a3)] dX12_reachable_40 (Nat.le_of_ble_eq_true rfl) rfl ?_
    obtain ⟨e2, w3, hF⟩ := q_bind hF
    refine g_sub [2, 3, 4, 5, 1, 0] rfl ?_
    refine L_X12_reachable_42 l b D z q_N a3 (0 : Int32) e2 w3 ?_
    · intro o4 w5
      replace w5 := w5.symm
      subst w5
      refine g_goto 30 dX12_reachable_127 (by decide) ?_
      cases hF
      exact hback _ _ rfl
set_option maxRecDepth 100000 in
set_option maxHeartbeats 4000000 in
theorem L_X12_reachable_30 (l : Launch) (b : Nat) (D : va_G) (z : Nat → Nat) {Φ : Option Value → qH → Nat → Prop} {nx : Nat} {h : qH} {a0 : Nat} {a1 : Int32} {a2 : Int32} : ∀ (n : Nat) (a3 : Int32) (a4 : Int32) (e : Int32), q_lp (s_X12_reachable_30 h a0 a1 a2) n (a3, a4) = some e → (∀ (b3 : Int32), e = b3 → Go l b D z yX12_reachable cX12_reachable 8 (some .int) rm_X12_reachable Φ 130 [(3, .int b3)] [] h nx 0 0) → Go l b D z yX12_reachable cX12_reachable 8 (some .int) rm_X12_reachable Φ 30 [(0, .ref a0), (1, .int a1), (2, .int a2), (3, .int a3), (4, .int a4)] [] h nx 0 0 := by
  intro n
  induction n with
  | zero => intro a3 a4 e he; cases (show none = some e from he)
  | succ n ih =>
    intro a3 a4 e he hx0
    obtain ⟨o, ho, h1, h2⟩ := q_lp_succ he
    exact B_X12_reachable_30 l b D z (show b_X12_reachable_30 h a0 a1 a2 a3 a4 = some o from ho) (fun b3 b4 hb => ih _ _ e (h1 _ hb) hx0) (fun p0 hr => hx0 p0 (h2 _ hr).symm)
set_option maxRecDepth 100000 in
set_option maxHeartbeats 4000000 in
theorem M_X12_reachable (l : Launch) (b : Nat) (D : va_G) (z : Nat → Nat) (nx : Nat) {h : qH} {a0 : Nat} {a1 : Int32} {a2 : Int32} {r : Int32} (hF : F_X12_reachable h a0 a1 a2 = some r) : Me l b D z yX12_reachable cX12_reachable 8 (some .int) rm_X12_reachable [.ref a0, .int a1, .int a2] h nx (qE (some (.int r)) h nx) := by
  refine Me.of (by decide +kernel) (Nat.le_of_ble_eq_true rfl) ?_
  show Go l b D z yX12_reachable cX12_reachable 8 (some .int) rm_X12_reachable (qE (some (.int r)) h nx) 0 [(0, .ref a0), (1, .int a1), (2, .int a2)] [] h nx 0 0
  unfold F_X12_reachable at hF
  refine g_iconst dX12_reachable_0 lt_iconst_0 ?_
  refine g_istore_n [(3, .int (0 : Int32)), (0, .ref a0), (1, .int a1), (2, .int a2)] dX12_reachable_1 (Nat.le_of_ble_eq_true rfl) rfl ?_
  refine g_iconst dX12_reachable_2 lt_iconst_m1 ?_
  refine g_istore [(4, .int (-1 : Int32)), (3, .int (0 : Int32)), (0, .ref a0), (1, .int a1), (2, .int a2)] dX12_reachable_3 (Nat.le_of_ble_eq_true rfl) rfl ?_
  refine g_aload_n 2 dX12_reachable_5 rfl ?_
  obtain ⟨x1, e2, hF⟩ := q_bind hF
  refine g_getfI fl_X12_276 e2 dX12_reachable_6 ?_
  refine g_if_le 30 dX12_reachable_9 (by decide) (fun c3 => ?_) (fun c3 => ?_)
  · replace hF := q_t c3 hF
    obtain ⟨e4, w5, hF⟩ := q_bind hF
    refine g_sub [2, 3, 4, 1, 0] rfl ?_
    refine L_X12_reachable_30 l b D z q_N (0 : Int32) (-1 : Int32) e4 w5 ?_
    · intro o6 w7
      replace w7 := w7.symm
      subst w7
      refine g_iload_n 0 dX12_reachable_130 rfl ?_
      cases hF
      exact g_iret dX12_reachable_131 rfl ⟨rfl, rfl, rfl⟩ (Nat.le_of_ble_eq_true rfl) (Nat.le_of_ble_eq_true rfl)
  · replace hF := q_f c3 hF
    refine g_iload_n 4 dX12_reachable_12 rfl ?_
    refine g_if_eq 30 dX12_reachable_13 (by decide) (fun c9 => ?_) (fun c9 => ?_)
    · replace hF := q_t c9 hF
      obtain ⟨e10, w11, hF⟩ := q_bind hF
      refine g_sub [2, 3, 4, 1, 0] rfl ?_
      refine L_X12_reachable_30 l b D z q_N (0 : Int32) (-1 : Int32) e10 w11 ?_
      · intro o12 w13
        replace w13 := w13.symm
        subst w13
        refine g_iload_n 0 dX12_reachable_130 rfl ?_
        cases hF
        exact g_iret dX12_reachable_131 rfl ⟨rfl, rfl, rfl⟩ (Nat.le_of_ble_eq_true rfl) (Nat.le_of_ble_eq_true rfl)
    · replace hF := q_f c9 hF
      refine g_iload_n 3 dX12_reachable_16 rfl ?_
      refine g_aload_n 2 dX12_reachable_17 rfl ?_
      refine g_iconst dX12_reachable_18 lt_iconst_0 ?_
      obtain ⟨u15, e16, hF⟩ := q_bind hF
      obtain ⟨x17, e18, hF⟩ := q_bind hF
      refine g_callVr0 (ci := 12) (q := (RX12, TX12, 49)) qm_X12_who wd_1836 wd_1838 wd_116 rfl e16 (M_X12_who l b D z nx e18) (As := [.int (0 : Int32)]) rfl rfl (Nat.le_of_ble_eq_true rfl) ⟨(Nat.le_of_ble_eq_true rfl), (Nat.le_of_ble_eq_true rfl)⟩ ⟨rfl, rfl⟩ ⟨(Nat.le_of_ble_eq_true rfl), (Nat.le_of_ble_eq_true rfl)⟩ dX12_reachable_19 ?_
      obtain ⟨x19, e20, hF⟩ := q_bind hF
      refine g_callSr0 qm_X12_has wd_1825 wd_1826 (M_X12_has l b D z nx e20) (As := [.int a1, .int x17]) rfl rfl (Nat.le_of_ble_eq_true rfl) ⟨(Nat.le_of_ble_eq_true rfl), (Nat.le_of_ble_eq_true rfl)⟩ ⟨rfl, rfl⟩ ⟨(Nat.le_of_ble_eq_true rfl), (Nat.le_of_ble_eq_true rfl)⟩ dX12_reachable_22 ?_
      refine g_if_ne 30 dX12_reachable_25 (by decide) (fun c21 => ?_) (fun c21 => ?_)
      · replace hF := q_f c21 hF
        obtain ⟨e22, w23, hF⟩ := q_bind hF
        refine g_sub [2, 3, 4, 1, 0] rfl ?_
        refine L_X12_reachable_30 l b D z q_N (0 : Int32) (-1 : Int32) e22 w23 ?_
        · intro o24 w25
          replace w25 := w25.symm
          subst w25
          refine g_iload_n 0 dX12_reachable_130 rfl ?_
          cases hF
          exact g_iret dX12_reachable_131 rfl ⟨rfl, rfl, rfl⟩ (Nat.le_of_ble_eq_true rfl) (Nat.le_of_ble_eq_true rfl)
      · replace hF := q_t c21 hF
        refine g_iconst dX12_reachable_28 lt_iconst_1 ?_
        refine g_istore_n [(3, .int (1 : Int32)), (4, .int (-1 : Int32)), (0, .ref a0), (1, .int a1), (2, .int a2)] dX12_reachable_29 (Nat.le_of_ble_eq_true rfl) rfl ?_
        obtain ⟨e27, w28, hF⟩ := q_bind hF
        refine g_sub [2, 3, 4, 0, 1] rfl ?_
        refine L_X12_reachable_30 l b D z q_N (1 : Int32) (-1 : Int32) e27 w28 ?_
        · intro o29 w30
          replace w30 := w30.symm
          subst w30
          refine g_iload_n 0 dX12_reachable_130 rfl ?_
          cases hF
          exact g_iret dX12_reachable_131 rfl ⟨rfl, rfl, rfl⟩ (Nat.le_of_ble_eq_true rfl) (Nat.le_of_ble_eq_true rfl)
def rm_X12_isSceneIn : Room := { frames := 2, cells := 0, slots := 0, locals := 43 }
set_option maxRecDepth 100000 in
set_option maxHeartbeats 4000000 in
theorem B_X12_isSceneIn_2 (l : Launch) (b : Nat) (D : va_G) (z : Nat → Nat) {Φ : Option Value → qH → Nat → Prop} {nx : Nat} {h : qH} {a0 : Nat} {a1 : Int32} {a2 : Int32} {a3 : Int32} {o : Int32 ⊕ (Unit ⊕ Unit)} (hF : b_X12_isSceneIn_2 h a0 a1 a2 a3 = some o) (hback : ∀ (b3 : Int32), o = .inl b3 → Go l b D z yX12_isSceneIn cX12_isSceneIn 4 (some .boolean) rm_X12_isSceneIn Φ 2 [(0, .ref a0), (1, .int a1), (2, .int a2), (3, .int b3)] [] h nx 0 0) (hx0 : o = .inr (.inl ()) → Go l b D z yX12_isSceneIn cX12_isSceneIn 4 (some .boolean) rm_X12_isSceneIn Φ 27 [] [] h nx 0 0) (hx1 : o = .inr (.inr ()) → Go l b D z yX12_isSceneIn cX12_isSceneIn 4 (some .boolean) rm_X12_isSceneIn Φ 35 [] [] h nx 0 0) : Go l b D z yX12_isSceneIn cX12_isSceneIn 4 (some .boolean) rm_X12_isSceneIn Φ 2 [(0, .ref a0), (1, .int a1), (2, .int a2), (3, .int a3)] [] h nx 0 0 := by
  unfold b_X12_isSceneIn_2 at hF
  refine g_iload_n 3 dX12_isSceneIn_2 rfl ?_
  refine g_aload_n 0 dX12_isSceneIn_3 rfl ?_
  obtain ⟨x1, e2, hF⟩ := q_bind hF
  refine g_getfI fl_X12_276 e2 dX12_isSceneIn_4 ?_
  refine g_icmp_ge 35 dX12_isSceneIn_7 (by decide) (fun c3 => ?_) (fun c3 => ?_)
  · replace hF := q_t c3 hF
    cases hF
    refine g_sub [] rfl ?_
    exact hx1  rfl
  · replace hF := q_f c3 hF
    refine g_iload_n 1 dX12_isSceneIn_10 rfl ?_
    refine g_iload_n 3 dX12_isSceneIn_11 rfl ?_
    obtain ⟨x4, e5, hF⟩ := q_bind hF
    refine g_callSr0 qm_X12_has wd_1825 wd_1826 (M_X12_has l b D z nx e5) (As := [.int a1, .int a3]) rfl rfl (Nat.le_of_ble_eq_true rfl) ⟨(Nat.le_of_ble_eq_true rfl), (Nat.le_of_ble_eq_true rfl)⟩ ⟨rfl, rfl⟩ ⟨(Nat.le_of_ble_eq_true rfl), (Nat.le_of_ble_eq_true rfl)⟩ dX12_isSceneIn_12 ?_
    refine g_if_eq 29 dX12_isSceneIn_15 (by decide) (fun c6 => ?_) (fun c6 => ?_)
    · replace hF := q_t c6 hF
      refine g_iinc [(3, .int (a3 + 1)), (0, .ref a0), (1, .int a1), (2, .int a2)] 3 dX12_isSceneIn_29 rfl (congrArg (a3 + ·) lt_iconst_1) (Nat.le_of_ble_eq_true rfl) rfl ?_
      refine g_goto 2 dX12_isSceneIn_32 (by decide) ?_
      cases hF
      refine g_sub [1, 2, 3, 0] rfl ?_
      exact hback _ rfl
    · replace hF := q_f c6 hF
      refine g_aload_n 0 dX12_isSceneIn_18 rfl ?_
      refine g_iload_n 3 dX12_isSceneIn_19 rfl ?_
      refine g_iload_n 2 dX12_isSceneIn_20 rfl ?_
      obtain ⟨u7, e8, hF⟩ := q_bind hF
      obtain ⟨x9, e10, hF⟩ := q_bind hF
      refine g_callVr0 (ci := 12) (q := (RX12, TX12, 49)) qm_X12_isOf wd_1894 wd_1896 wd_126 rfl e8 (M_X12_isOf l b D z nx e10) (As := [.int a3, .int a2]) rfl rfl (Nat.le_of_ble_eq_true rfl) ⟨(Nat.le_of_ble_eq_true rfl), (Nat.le_of_ble_eq_true rfl)⟩ ⟨rfl, rfl⟩ ⟨(Nat.le_of_ble_eq_true rfl), (Nat.le_of_ble_eq_true rfl)⟩ dX12_isSceneIn_21 ?_
      refine g_if_eq 29 dX12_isSceneIn_24 (by decide) (fun c11 => ?_) (fun c11 => ?_)
      · replace hF := q_t c11 hF
        refine g_iinc [(3, .int (a3 + 1)), (0, .ref a0), (1, .int a1), (2, .int a2)] 3 dX12_isSceneIn_29 rfl (congrArg (a3 + ·) lt_iconst_1) (Nat.le_of_ble_eq_true rfl) rfl ?_
        refine g_goto 2 dX12_isSceneIn_32 (by decide) ?_
        cases hF
        refine g_sub [1, 2, 3, 0] rfl ?_
        exact hback _ rfl
      · replace hF := q_f c11 hF
        cases hF
        refine g_sub [] rfl ?_
        exact hx0  rfl
set_option maxRecDepth 100000 in
set_option maxHeartbeats 4000000 in
theorem L_X12_isSceneIn_2 (l : Launch) (b : Nat) (D : va_G) (z : Nat → Nat) {Φ : Option Value → qH → Nat → Prop} {nx : Nat} {h : qH} {a0 : Nat} {a1 : Int32} {a2 : Int32} : ∀ (n : Nat) (a3 : Int32) (e : Unit ⊕ Unit), q_lp (s_X12_isSceneIn_2 h a0 a1 a2) n a3 = some e → (e = (.inl ()) → Go l b D z yX12_isSceneIn cX12_isSceneIn 4 (some .boolean) rm_X12_isSceneIn Φ 27 [] [] h nx 0 0) → (e = (.inr ()) → Go l b D z yX12_isSceneIn cX12_isSceneIn 4 (some .boolean) rm_X12_isSceneIn Φ 35 [] [] h nx 0 0) → Go l b D z yX12_isSceneIn cX12_isSceneIn 4 (some .boolean) rm_X12_isSceneIn Φ 2 [(0, .ref a0), (1, .int a1), (2, .int a2), (3, .int a3)] [] h nx 0 0 := by
  intro n
  induction n with
  | zero => intro a3 e he; cases (show none = some e from he)
  | succ n ih =>
    intro a3 e he hx0 hx1
    obtain ⟨o, ho, h1, h2⟩ := q_lp_succ he
    exact B_X12_isSceneIn_2 l b D z (show b_X12_isSceneIn_2 h a0 a1 a2 a3 = some o from ho) (fun b3 hb => ih _ e (h1 _ hb) hx0 hx1) (fun  hr => hx0  (h2 _ hr).symm) (fun  hr => hx1  (h2 _ hr).symm)
set_option maxRecDepth 100000 in
set_option maxHeartbeats 4000000 in
theorem M_X12_isSceneIn (l : Launch) (b : Nat) (D : va_G) (z : Nat → Nat) (nx : Nat) {h : qH} {a0 : Nat} {a1 : Int32} {a2 : Int32} {r : Int32} (hF : F_X12_isSceneIn h a0 a1 a2 = some r) : Me l b D z yX12_isSceneIn cX12_isSceneIn 4 (some .boolean) rm_X12_isSceneIn [.ref a0, .int a1, .int a2] h nx (qE (some (.int r)) h nx) := by
  refine Me.of (by decide +kernel) (Nat.le_of_ble_eq_true rfl) ?_
  show Go l b D z yX12_isSceneIn cX12_isSceneIn 4 (some .boolean) rm_X12_isSceneIn (qE (some (.int r)) h nx) 0 [(0, .ref a0), (1, .int a1), (2, .int a2)] [] h nx 0 0
  unfold F_X12_isSceneIn at hF
  refine g_iconst dX12_isSceneIn_0 lt_iconst_0 ?_
  refine g_istore_n [(3, .int (0 : Int32)), (0, .ref a0), (1, .int a1), (2, .int a2)] dX12_isSceneIn_1 (Nat.le_of_ble_eq_true rfl) rfl ?_
  obtain ⟨e1, w2, hF⟩ := q_bind hF
  refine g_sub [1, 2, 3, 0] rfl ?_
  refine L_X12_isSceneIn_2 l b D z q_N (0 : Int32) e1 w2 ?_ ?_
  · intro  w3
    replace w3 := w3.symm
    subst w3
    replace hF := q_sl hF
    refine g_iconst dX12_isSceneIn_27 lt_iconst_1 ?_
    cases hF
    exact g_zret dX12_isSceneIn_28 rfl zn_1 ⟨rfl, rfl, rfl⟩ (Nat.le_of_ble_eq_true rfl) (Nat.le_of_ble_eq_true rfl)
  · intro  w5
    replace w5 := w5.symm
    subst w5
    replace hF := q_sr hF
    refine g_iconst dX12_isSceneIn_35 lt_iconst_0 ?_
    cases hF
    exact g_zret dX12_isSceneIn_36 rfl zn_0 ⟨rfl, rfl, rfl⟩ (Nat.le_of_ble_eq_true rfl) (Nat.le_of_ble_eq_true rfl)
def rm_X12_bar : Room := { frames := 3, cells := 0, slots := 0, locals := 69 }
set_option maxRecDepth 100000 in
set_option maxHeartbeats 4000000 in
theorem J_X12_bar_71 (l : Launch) (b : Nat) (D : va_G) (z : Nat → Nat) {Φ : Option Value → qH → Nat → Prop} {nx : Nat} {h : qH} {a0 : Nat} {a2 : Int32} {a3 : Int32} {a4 : Int32} {t0 : Int32} {o : (Int32 × Int32) ⊕ Int32} (hF : j_X12_bar_71 h a0 a2 a3 a4 t0 = some o) (hback : ∀ (b3 : Int32) (b4 : Int32), o = .inl (b3, b4) → Go l b D z yX12_bar cX12_bar 6 (some .int) rm_X12_bar Φ 27 [(0, .ref a0), (2, .int a2), (3, .int b3), (4, .int b4)] [] h nx 0 0) (hx0 : ∀ (b3 : Int32), o = .inr b3 → Go l b D z yX12_bar cX12_bar 6 (some .int) rm_X12_bar Φ 91 [(3, .int b3)] [] h nx 0 0) : Go l b D z yX12_bar cX12_bar 6 (some .int) rm_X12_bar Φ 71 [(0, .ref a0), (2, .int a2), (3, .int a3), (4, .int a4)] [.int t0] h nx 0 0 := by
  unfold j_X12_bar_71 at hF
  refine g_istore [(5, .int t0), (0, .ref a0), (2, .int a2), (3, .int a3), (4, .int a4)] dX12_bar_71 (Nat.le_of_ble_eq_true rfl) rfl ?_
  refine g_iload 0 dX12_bar_73 rfl ?_
  refine g_if_eq 83 dX12_bar_75 (by decide) (fun c1 => ?_) (fun c1 => ?_)
  · replace hF := q_t c1 hF
    refine g_iload_n 3 dX12_bar_83 rfl ?_
    refine g_istore_n [(3, .int a3), (5, .int t0), (0, .ref a0), (2, .int a2), (4, .int a4)] dX12_bar_84 (Nat.le_of_ble_eq_true rfl) rfl ?_
    refine g_iinc [(4, .int (a4 + 1)), (3, .int a3), (5, .int t0), (0, .ref a0), (2, .int a2)] 4 dX12_bar_85 rfl (congrArg (a4 + ·) lt_iconst_1) (Nat.le_of_ble_eq_true rfl) rfl ?_
    refine g_goto 27 dX12_bar_88 (by decide) ?_
    cases hF
    refine g_sub [3, 4, 1, 0] rfl ?_
    exact hback _ _ rfl
  · replace hF := q_f c1 hF
    refine g_iload 4 dX12_bar_78 rfl ?_
    refine g_goto 84 dX12_bar_80 (by decide) ?_
    refine g_istore_n [(3, .int a4), (5, .int t0), (0, .ref a0), (2, .int a2), (4, .int a4)] dX12_bar_84 (Nat.le_of_ble_eq_true rfl) rfl ?_
    refine g_iinc [(4, .int (a4 + 1)), (3, .int a4), (5, .int t0), (0, .ref a0), (2, .int a2)] 4 dX12_bar_85 rfl (congrArg (a4 + ·) lt_iconst_1) (Nat.le_of_ble_eq_true rfl) rfl ?_
    refine g_goto 27 dX12_bar_88 (by decide) ?_
    cases hF
    refine g_sub [3, 4, 1, 0] rfl ?_
    exact hback _ _ rfl
set_option maxRecDepth 100000 in
set_option maxHeartbeats 4000000 in
theorem J_X12_bar_70 (l : Launch) (b : Nat) (D : va_G) (z : Nat → Nat) {Φ : Option Value → qH → Nat → Prop} {nx : Nat} {h : qH} {a0 : Nat} {a2 : Int32} {a3 : Int32} {a4 : Int32} {o : (Int32 × Int32) ⊕ Int32} (hF : j_X12_bar_70 h a0 a2 a3 a4  = some o) (hback : ∀ (b3 : Int32) (b4 : Int32), o = .inl (b3, b4) → Go l b D z yX12_bar cX12_bar 6 (some .int) rm_X12_bar Φ 27 [(0, .ref a0), (2, .int a2), (3, .int b3), (4, .int b4)] [] h nx 0 0) (hx0 : ∀ (b3 : Int32), o = .inr b3 → Go l b D z yX12_bar cX12_bar 6 (some .int) rm_X12_bar Φ 91 [(3, .int b3)] [] h nx 0 0) : Go l b D z yX12_bar cX12_bar 6 (some .int) rm_X12_bar Φ 70 [(0, .ref a0), (2, .int a2), (3, .int a3), (4, .int a4)] [] h nx 0 0 := by
  unfold j_X12_bar_70 at hF
  refine g_iconst dX12_bar_70 lt_iconst_0 ?_
  exact J_X12_bar_71 l b D z hF hback hx0
set_option maxRecDepth 100000 in
set_option maxHeartbeats 4000000 in
theorem J_X12_bar_51 (l : Launch) (b : Nat) (D : va_G) (z : Nat → Nat) {Φ : Option Value → qH → Nat → Prop} {nx : Nat} {h : qH} {a0 : Nat} {a2 : Int32} {a3 : Int32} {a4 : Int32} {o : (Int32 × Int32) ⊕ Int32} (hF : j_X12_bar_51 h a0 a2 a3 a4  = some o) (hback : ∀ (b3 : Int32) (b4 : Int32), o = .inl (b3, b4) → Go l b D z yX12_bar cX12_bar 6 (some .int) rm_X12_bar Φ 27 [(0, .ref a0), (2, .int a2), (3, .int b3), (4, .int b4)] [] h nx 0 0) (hx0 : ∀ (b3 : Int32), o = .inr b3 → Go l b D z yX12_bar cX12_bar 6 (some .int) rm_X12_bar Φ 91 [(3, .int b3)] [] h nx 0 0) : Go l b D z yX12_bar cX12_bar 6 (some .int) rm_X12_bar Φ 51 [(0, .ref a0), (2, .int a2), (3, .int a3), (4, .int a4)] [] h nx 0 0 := by
  unfold j_X12_bar_51 at hF
  refine g_aload_n 0 dX12_bar_51 rfl ?_
  refine g_aload_n 0 dX12_bar_52 rfl ?_
  refine g_iload 3 dX12_bar_53 rfl ?_
  refine g_iconst dX12_bar_55 lt_iconst_m1 ?_
  obtain ⟨u1, e2, hF⟩ := q_bind hF
  obtain ⟨x3, e4, hF⟩ := q_bind hF
  refine g_callVr0 (ci := 12) (q := (RX12, TX12, 49)) qm_X12_reachable wd_2086 wd_2088 wd_159 rfl e2 (M_X12_reachable l b D z nx e4) (As := [.int a4, .int (-1 : Int32)]) rfl rfl (Nat.le_of_ble_eq_true rfl) ⟨(Nat.le_of_ble_eq_true rfl), (Nat.le_of_ble_eq_true rfl)⟩ ⟨rfl, rfl⟩ ⟨(Nat.le_of_ble_eq_true rfl), (Nat.le_of_ble_eq_true rfl)⟩ dX12_bar_56 ?_
  refine g_iload_n 1 dX12_bar_59 rfl ?_
  obtain ⟨u5, e6, hF⟩ := q_bind hF
  obtain ⟨x7, e8, hF⟩ := q_bind hF
  refine g_callVr0 (ci := 12) (q := (RX12, TX12, 49)) qm_X12_isSceneIn wd_2090 wd_2092 wd_160 rfl e6 (M_X12_isSceneIn l b D z nx e8) (As := [.int x3, .int a2]) rfl rfl (Nat.le_of_ble_eq_true rfl) ⟨(Nat.le_of_ble_eq_true rfl), (Nat.le_of_ble_eq_true rfl)⟩ ⟨rfl, rfl⟩ ⟨(Nat.le_of_ble_eq_true rfl), (Nat.le_of_ble_eq_true rfl)⟩ dX12_bar_60 ?_
  refine g_if_ne 70 dX12_bar_63 (by decide) (fun c9 => ?_) (fun c9 => ?_)
  · replace hF := q_f c9 hF
    exact J_X12_bar_70 l b D z hF hback hx0
  · replace hF := q_t c9 hF
    refine g_iconst dX12_bar_66 lt_iconst_1 ?_
    refine g_goto 71 dX12_bar_67 (by decide) ?_
    exact J_X12_bar_71 l b D z hF hback hx0
set_option maxRecDepth 100000 in
set_option maxHeartbeats 4000000 in
theorem B_X12_bar_27 (l : Launch) (b : Nat) (D : va_G) (z : Nat → Nat) {Φ : Option Value → qH → Nat → Prop} {nx : Nat} {h : qH} {a0 : Nat} {a2 : Int32} {a3 : Int32} {a4 : Int32} {o : (Int32 × Int32) ⊕ Int32} (hF : b_X12_bar_27 h a0 a2 a3 a4 = some o) (hback : ∀ (b3 : Int32) (b4 : Int32), o = .inl (b3, b4) → Go l b D z yX12_bar cX12_bar 6 (some .int) rm_X12_bar Φ 27 [(0, .ref a0), (2, .int a2), (3, .int b3), (4, .int b4)] [] h nx 0 0) (hx0 : ∀ (b3 : Int32), o = .inr b3 → Go l b D z yX12_bar cX12_bar 6 (some .int) rm_X12_bar Φ 91 [(3, .int b3)] [] h nx 0 0) : Go l b D z yX12_bar cX12_bar 6 (some .int) rm_X12_bar Φ 27 [(0, .ref a0), (2, .int a2), (3, .int a3), (4, .int a4)] [] h nx 0 0 := by
  unfold b_X12_bar_27 at hF
  refine g_iload 3 dX12_bar_27 rfl ?_
  refine g_bipush dX12_bar_29 lt_bipush_64 ?_
  refine g_icmp_ge 91 dX12_bar_31 (by decide) (fun c1 => ?_) (fun c1 => ?_)
  · replace hF := q_t c1 hF
    cases hF
    refine g_sub [2] rfl ?_
    exact hx0 _ rfl
  · replace hF := q_f c1 hF
    refine g_iload_n 2 dX12_bar_34 rfl ?_
    refine g_iconst dX12_bar_35 lt_iconst_m1 ?_
    refine g_icmp_eq 51 dX12_bar_36 (by decide) (fun c2 => ?_) (fun c2 => ?_)
    · replace hF := q_t c2 hF
      exact J_X12_bar_51 l b D z hF hback hx0
    · replace hF := q_f c2 hF
      refine g_iload 3 dX12_bar_39 rfl ?_
      obtain ⟨x3, e4, hF⟩ := q_bind hF
      refine g_callSr0 qm_X12_ones wd_2058 wd_2059 (M_X12_ones l b D z nx e4) (As := [.int a4]) rfl rfl (Nat.le_of_ble_eq_true rfl) ⟨(Nat.le_of_ble_eq_true rfl), (Nat.le_of_ble_eq_true rfl)⟩ ⟨rfl, rfl⟩ ⟨(Nat.le_of_ble_eq_true rfl), (Nat.le_of_ble_eq_true rfl)⟩ dX12_bar_41 ?_
      refine g_iload_n 2 dX12_bar_44 rfl ?_
      obtain ⟨x5, e6, hF⟩ := q_bind hF
      refine g_callSr0 qm_X12_ones wd_2058 wd_2059 (M_X12_ones l b D z nx e6) (As := [.int a3]) rfl rfl (Nat.le_of_ble_eq_true rfl) ⟨(Nat.le_of_ble_eq_true rfl), (Nat.le_of_ble_eq_true rfl)⟩ ⟨rfl, rfl⟩ ⟨(Nat.le_of_ble_eq_true rfl), (Nat.le_of_ble_eq_true rfl)⟩ dX12_bar_45 ?_
      refine g_icmp_ge 70 dX12_bar_48 (by decide) (fun c7 => ?_) (fun c7 => ?_)
      · replace hF := q_t c7 hF
        exact J_X12_bar_70 l b D z hF hback hx0
      · replace hF := q_f c7 hF
        exact J_X12_bar_51 l b D z hF hback hx0
set_option maxRecDepth 100000 in
set_option maxHeartbeats 4000000 in
theorem L_X12_bar_27 (l : Launch) (b : Nat) (D : va_G) (z : Nat → Nat) {Φ : Option Value → qH → Nat → Prop} {nx : Nat} {h : qH} {a0 : Nat} {a2 : Int32} : ∀ (n : Nat) (a3 : Int32) (a4 : Int32) (e : Int32), q_lp (s_X12_bar_27 h a0 a2) n (a3, a4) = some e → (∀ (b3 : Int32), e = b3 → Go l b D z yX12_bar cX12_bar 6 (some .int) rm_X12_bar Φ 91 [(3, .int b3)] [] h nx 0 0) → Go l b D z yX12_bar cX12_bar 6 (some .int) rm_X12_bar Φ 27 [(0, .ref a0), (2, .int a2), (3, .int a3), (4, .int a4)] [] h nx 0 0 := by
  intro n
  induction n with
  | zero => intro a3 a4 e he; cases (show none = some e from he)
  | succ n ih =>
    intro a3 a4 e he hx0
    obtain ⟨o, ho, h1, h2⟩ := q_lp_succ he
    exact B_X12_bar_27 l b D z (show b_X12_bar_27 h a0 a2 a3 a4 = some o from ho) (fun b3 b4 hb => ih _ _ e (h1 _ hb) hx0) (fun p0 hr => hx0 p0 (h2 _ hr).symm)
set_option maxRecDepth 100000 in
set_option maxHeartbeats 4000000 in
theorem M_X12_bar (l : Launch) (b : Nat) (D : va_G) (z : Nat → Nat) (nx : Nat) {h : qH} {a0 : Nat} {a1 : Int32} {a2 : Int32} {r : Int32 × qH} (hF : F_X12_bar h a0 a1 a2 = some r) : Me l b D z yX12_bar cX12_bar 6 (some .int) rm_X12_bar [.ref a0, .int a1, .int a2] h nx (qE (some (.int r.1)) r.2 nx) := by
  refine Me.of (by decide +kernel) (Nat.le_of_ble_eq_true rfl) ?_
  show Go l b D z yX12_bar cX12_bar 6 (some .int) rm_X12_bar (qE (some (.int r.1)) r.2 nx) 0 [(0, .ref a0), (1, .int a1), (2, .int a2)] [] h nx 0 0
  unfold F_X12_bar at hF
  refine g_aload_n 0 dX12_bar_0 rfl ?_
  refine g_iconst dX12_bar_1 lt_iconst_0 ?_
  obtain ⟨h1, e2, hF⟩ := q_bind hF
  refine g_putf fl_X12_91 e2 rfl rfl dX12_bar_2 ?_
  refine g_iload_n 2 dX12_bar_5 rfl ?_
  obtain ⟨x3, e4, hF⟩ := q_bind hF
  refine g_callSr0 qm_X12_isScene wd_1880 wd_1881 (M_X12_isScene l b D z nx e4) (As := [.int a2]) rfl rfl (Nat.le_of_ble_eq_true rfl) ⟨(Nat.le_of_ble_eq_true rfl), (Nat.le_of_ble_eq_true rfl)⟩ ⟨rfl, rfl⟩ ⟨(Nat.le_of_ble_eq_true rfl), (Nat.le_of_ble_eq_true rfl)⟩ dX12_bar_6 ?_
  refine g_if_eq 20 dX12_bar_9 (by decide) (fun c5 => ?_) (fun c5 => ?_)
  · replace hF := q_t c5 hF
    refine g_iconst dX12_bar_20 lt_iconst_m1 ?_
    cases hF
    exact g_iret dX12_bar_21 rfl ⟨rfl, rfl, rfl⟩ (Nat.le_of_ble_eq_true rfl) (Nat.le_of_ble_eq_true rfl)
  · replace hF := q_f c5 hF
    refine g_aload_n 0 dX12_bar_12 rfl ?_
    refine g_iload_n 1 dX12_bar_13 rfl ?_
    obtain ⟨u6, e7, hF⟩ := q_bind hF
    obtain ⟨x8, e9, hF⟩ := q_bind hF
    refine g_callVr0 (ci := 12) (q := (RX12, TX12, 49)) qm_X12_hand wd_1750 wd_1752 wd_99 rfl e7 (M_X12_hand l b D z nx e9) (As := [.int a1]) rfl rfl (Nat.le_of_ble_eq_true rfl) ⟨(Nat.le_of_ble_eq_true rfl), (Nat.le_of_ble_eq_true rfl)⟩ ⟨rfl, rfl⟩ ⟨(Nat.le_of_ble_eq_true rfl), (Nat.le_of_ble_eq_true rfl)⟩ dX12_bar_14 ?_
    refine g_if_ne 22 dX12_bar_17 (by decide) (fun c10 => ?_) (fun c10 => ?_)
    · replace hF := q_f c10 hF
      refine g_iconst dX12_bar_22 lt_iconst_m1 ?_
      refine g_istore_n [(3, .int (-1 : Int32)), (0, .ref a0), (1, .int a1), (2, .int a2)] dX12_bar_23 (Nat.le_of_ble_eq_true rfl) rfl ?_
      refine g_iconst dX12_bar_24 lt_iconst_0 ?_
      refine g_istore [(4, .int (0 : Int32)), (3, .int (-1 : Int32)), (0, .ref a0), (1, .int a1), (2, .int a2)] dX12_bar_25 (Nat.le_of_ble_eq_true rfl) rfl ?_
      obtain ⟨e11, w12, hF⟩ := q_bind hF
      refine g_sub [2, 4, 1, 0] rfl ?_
      refine L_X12_bar_27 l b D z q_N (-1 : Int32) (0 : Int32) e11 w12 ?_
      · intro o13 w14
        replace w14 := w14.symm
        subst w14
        refine g_iload_n 0 dX12_bar_91 rfl ?_
        cases hF
        exact g_iret dX12_bar_92 rfl ⟨rfl, rfl, rfl⟩ (Nat.le_of_ble_eq_true rfl) (Nat.le_of_ble_eq_true rfl)
    · replace hF := q_t c10 hF
      refine g_iconst dX12_bar_20 lt_iconst_m1 ?_
      cases hF
      exact g_iret dX12_bar_21 rfl ⟨rfl, rfl, rfl⟩ (Nat.le_of_ble_eq_true rfl) (Nat.le_of_ble_eq_true rfl)
def rm_X12_must : Room := { frames := 3, cells := 0, slots := 0, locals := 69 }
set_option maxRecDepth 100000 in
set_option maxHeartbeats 4000000 in
theorem B_X12_must_41 (l : Launch) (b : Nat) (D : va_G) (z : Nat → Nat) {Φ : Option Value → qH → Nat → Prop} {nx : Nat} {h : qH} {a0 : Nat} {a2 : Int32} {a3 : Int32} {a4 : Int32} {o : (Int32 × Int32) ⊕ Int32} (hF : b_X12_must_41 h a0 a2 a3 a4 = some o) (hback : ∀ (b3 : Int32) (b4 : Int32), o = .inl (b3, b4) → Go l b D z yX12_must cX12_must 5 (some .int) rm_X12_must Φ 41 [(0, .ref a0), (2, .int a2), (3, .int b3), (4, .int b4)] [] h nx 0 0) (hx0 : ∀ (b3 : Int32), o = .inr b3 → Go l b D z yX12_must cX12_must 5 (some .int) rm_X12_must Φ 92 [(3, .int b3)] [] h nx 0 0) : Go l b D z yX12_must cX12_must 5 (some .int) rm_X12_must Φ 41 [(0, .ref a0), (2, .int a2), (3, .int a3), (4, .int a4)] [] h nx 0 0 := by
  unfold b_X12_must_41 at hF
  refine g_iload 3 dX12_must_41 rfl ?_
  refine g_aload_n 0 dX12_must_43 rfl ?_
  obtain ⟨x1, e2, hF⟩ := q_bind hF
  refine g_getfI fl_X12_276 e2 dX12_must_44 ?_
  refine g_icmp_ge 92 dX12_must_47 (by decide) (fun c3 => ?_) (fun c3 => ?_)
  · replace hF := q_t c3 hF
    cases hF
    refine g_sub [2] rfl ?_
    exact hx0 _ rfl
  · replace hF := q_f c3 hF
    refine g_iload_n 2 dX12_must_50 rfl ?_
    refine g_aload_n 0 dX12_must_51 rfl ?_
    refine g_iload 3 dX12_must_52 rfl ?_
    refine g_iload_n 1 dX12_must_54 rfl ?_
    obtain ⟨u4, e5, hF⟩ := q_bind hF
    obtain ⟨x6, e7, hF⟩ := q_bind hF
    refine g_callVr0 (ci := 12) (q := (RX12, TX12, 49)) qm_X12_isOf wd_1894 wd_1896 wd_126 rfl e5 (M_X12_isOf l b D z nx e7) (As := [.int a4, .int a2]) rfl rfl (Nat.le_of_ble_eq_true rfl) ⟨(Nat.le_of_ble_eq_true rfl), (Nat.le_of_ble_eq_true rfl)⟩ ⟨rfl, rfl⟩ ⟨(Nat.le_of_ble_eq_true rfl), (Nat.le_of_ble_eq_true rfl)⟩ dX12_must_55 ?_
    refine g_if_ne 83 dX12_must_58 (by decide) (fun c8 => ?_) (fun c8 => ?_)
    · replace hF := q_f c8 hF
      refine g_iconst dX12_must_83 lt_iconst_0 ?_
      refine g_ior dX12_must_84 ?_
      refine g_istore_n [(3, .int (a3 ||| (0 : Int32))), (0, .ref a0), (2, .int a2), (4, .int a4)] dX12_must_85 (Nat.le_of_ble_eq_true rfl) rfl ?_
      refine g_iinc [(4, .int (a4 + 1)), (3, .int (a3 ||| (0 : Int32))), (0, .ref a0), (2, .int a2)] 3 dX12_must_86 rfl (congrArg (a4 + ·) lt_iconst_1) (Nat.le_of_ble_eq_true rfl) rfl ?_
      refine g_goto 41 dX12_must_89 (by decide) ?_
      cases hF
      refine g_sub [2, 3, 1, 0] rfl ?_
      exact hback _ _ rfl
    · replace hF := q_t c8 hF
      refine g_aload_n 0 dX12_must_61 rfl ?_
      refine g_aload_n 0 dX12_must_62 rfl ?_
      refine g_iconst dX12_must_63 lt_iconst_0 ?_
      refine g_iload 3 dX12_must_64 rfl ?_
      obtain ⟨u9, e10, hF⟩ := q_bind hF
      obtain ⟨x11, e12, hF⟩ := q_bind hF
      refine g_callVr0 (ci := 12) (q := (RX12, TX12, 49)) qm_X12_reachable wd_2086 wd_2088 wd_159 rfl e10 (M_X12_reachable l b D z nx e12) (As := [.int (0 : Int32), .int a4]) rfl rfl (Nat.le_of_ble_eq_true rfl) ⟨(Nat.le_of_ble_eq_true rfl), (Nat.le_of_ble_eq_true rfl)⟩ ⟨rfl, rfl⟩ ⟨(Nat.le_of_ble_eq_true rfl), (Nat.le_of_ble_eq_true rfl)⟩ dX12_must_66 ?_
      refine g_iload_n 1 dX12_must_69 rfl ?_
      obtain ⟨u13, e14, hF⟩ := q_bind hF
      obtain ⟨x15, e16, hF⟩ := q_bind hF
      refine g_callVr0 (ci := 12) (q := (RX12, TX12, 49)) qm_X12_isSceneIn wd_2090 wd_2092 wd_160 rfl e14 (M_X12_isSceneIn l b D z nx e16) (As := [.int x11, .int a2]) rfl rfl (Nat.le_of_ble_eq_true rfl) ⟨(Nat.le_of_ble_eq_true rfl), (Nat.le_of_ble_eq_true rfl)⟩ ⟨rfl, rfl⟩ ⟨(Nat.le_of_ble_eq_true rfl), (Nat.le_of_ble_eq_true rfl)⟩ dX12_must_70 ?_
      refine g_if_ne 83 dX12_must_73 (by decide) (fun c17 => ?_) (fun c17 => ?_)
      · replace hF := q_f c17 hF
        refine g_iconst dX12_must_83 lt_iconst_0 ?_
        refine g_ior dX12_must_84 ?_
        refine g_istore_n [(3, .int (a3 ||| (0 : Int32))), (0, .ref a0), (2, .int a2), (4, .int a4)] dX12_must_85 (Nat.le_of_ble_eq_true rfl) rfl ?_
        refine g_iinc [(4, .int (a4 + 1)), (3, .int (a3 ||| (0 : Int32))), (0, .ref a0), (2, .int a2)] 3 dX12_must_86 rfl (congrArg (a4 + ·) lt_iconst_1) (Nat.le_of_ble_eq_true rfl) rfl ?_
        refine g_goto 41 dX12_must_89 (by decide) ?_
        cases hF
        refine g_sub [2, 3, 1, 0] rfl ?_
        exact hback _ _ rfl
      · replace hF := q_t c17 hF
        refine g_iconst dX12_must_76 lt_iconst_1 ?_
        refine g_iload 3 dX12_must_77 rfl ?_
        refine g_ishl dX12_must_79 ?_
        refine g_goto 84 dX12_must_80 (by decide) ?_
        refine g_ior dX12_must_84 ?_
        refine g_istore_n [(3, .int (a3 ||| (q_shl (1 : Int32) a4))), (0, .ref a0), (2, .int a2), (4, .int a4)] dX12_must_85 (Nat.le_of_ble_eq_true rfl) rfl ?_
        refine g_iinc [(4, .int (a4 + 1)), (3, .int (a3 ||| (q_shl (1 : Int32) a4))), (0, .ref a0), (2, .int a2)] 3 dX12_must_86 rfl (congrArg (a4 + ·) lt_iconst_1) (Nat.le_of_ble_eq_true rfl) rfl ?_
        refine g_goto 41 dX12_must_89 (by decide) ?_
        cases hF
        refine g_sub [2, 3, 1, 0] rfl ?_
        exact hback _ _ rfl
set_option maxRecDepth 100000 in
set_option maxHeartbeats 4000000 in
theorem L_X12_must_41 (l : Launch) (b : Nat) (D : va_G) (z : Nat → Nat) {Φ : Option Value → qH → Nat → Prop} {nx : Nat} {h : qH} {a0 : Nat} {a2 : Int32} : ∀ (n : Nat) (a3 : Int32) (a4 : Int32) (e : Int32), q_lp (s_X12_must_41 h a0 a2) n (a3, a4) = some e → (∀ (b3 : Int32), e = b3 → Go l b D z yX12_must cX12_must 5 (some .int) rm_X12_must Φ 92 [(3, .int b3)] [] h nx 0 0) → Go l b D z yX12_must cX12_must 5 (some .int) rm_X12_must Φ 41 [(0, .ref a0), (2, .int a2), (3, .int a3), (4, .int a4)] [] h nx 0 0 := by
  intro n
  induction n with
  | zero => intro a3 a4 e he; cases (show none = some e from he)
  | succ n ih =>
    intro a3 a4 e he hx0
    obtain ⟨o, ho, h1, h2⟩ := q_lp_succ he
    exact B_X12_must_41 l b D z (show b_X12_must_41 h a0 a2 a3 a4 = some o from ho) (fun b3 b4 hb => ih _ _ e (h1 _ hb) hx0) (fun p0 hr => hx0 p0 (h2 _ hr).symm)
set_option maxRecDepth 100000 in
set_option maxHeartbeats 4000000 in
theorem M_X12_must (l : Launch) (b : Nat) (D : va_G) (z : Nat → Nat) (nx : Nat) {h : qH} {a0 : Nat} {a1 : Int32} {a2 : Int32} {r : Int32 × qH} (hF : F_X12_must h a0 a1 a2 = some r) : Me l b D z yX12_must cX12_must 5 (some .int) rm_X12_must [.ref a0, .int a1, .int a2] h nx (qE (some (.int r.1)) r.2 nx) := by
  refine Me.of (by decide +kernel) (Nat.le_of_ble_eq_true rfl) ?_
  show Go l b D z yX12_must cX12_must 5 (some .int) rm_X12_must (qE (some (.int r.1)) r.2 nx) 0 [(0, .ref a0), (1, .int a1), (2, .int a2)] [] h nx 0 0
  unfold F_X12_must at hF
  refine g_aload_n 0 dX12_must_0 rfl ?_
  refine g_iconst dX12_must_1 lt_iconst_0 ?_
  obtain ⟨h1, e2, hF⟩ := q_bind hF
  refine g_putf fl_X12_91 e2 rfl rfl dX12_must_2 ?_
  refine g_iload_n 2 dX12_must_5 rfl ?_
  obtain ⟨x3, e4, hF⟩ := q_bind hF
  refine g_callSr0 qm_X12_isScene wd_1880 wd_1881 (M_X12_isScene l b D z nx e4) (As := [.int a2]) rfl rfl (Nat.le_of_ble_eq_true rfl) ⟨(Nat.le_of_ble_eq_true rfl), (Nat.le_of_ble_eq_true rfl)⟩ ⟨rfl, rfl⟩ ⟨(Nat.le_of_ble_eq_true rfl), (Nat.le_of_ble_eq_true rfl)⟩ dX12_must_6 ?_
  refine g_if_eq 34 dX12_must_9 (by decide) (fun c5 => ?_) (fun c5 => ?_)
  · replace hF := q_t c5 hF
    refine g_iconst dX12_must_34 lt_iconst_m1 ?_
    cases hF
    exact g_iret dX12_must_35 rfl ⟨rfl, rfl, rfl⟩ (Nat.le_of_ble_eq_true rfl) (Nat.le_of_ble_eq_true rfl)
  · replace hF := q_f c5 hF
    refine g_aload_n 0 dX12_must_12 rfl ?_
    refine g_iload_n 1 dX12_must_13 rfl ?_
    obtain ⟨u6, e7, hF⟩ := q_bind hF
    obtain ⟨x8, e9, hF⟩ := q_bind hF
    refine g_callVr0 (ci := 12) (q := (RX12, TX12, 49)) qm_X12_hand wd_1750 wd_1752 wd_99 rfl e7 (M_X12_hand l b D z nx e9) (As := [.int a1]) rfl rfl (Nat.le_of_ble_eq_true rfl) ⟨(Nat.le_of_ble_eq_true rfl), (Nat.le_of_ble_eq_true rfl)⟩ ⟨rfl, rfl⟩ ⟨(Nat.le_of_ble_eq_true rfl), (Nat.le_of_ble_eq_true rfl)⟩ dX12_must_14 ?_
    refine g_if_eq 34 dX12_must_17 (by decide) (fun c10 => ?_) (fun c10 => ?_)
    · replace hF := q_t c10 hF
      refine g_iconst dX12_must_34 lt_iconst_m1 ?_
      cases hF
      exact g_iret dX12_must_35 rfl ⟨rfl, rfl, rfl⟩ (Nat.le_of_ble_eq_true rfl) (Nat.le_of_ble_eq_true rfl)
    · replace hF := q_f c10 hF
      refine g_aload_n 0 dX12_must_20 rfl ?_
      refine g_aload_n 0 dX12_must_21 rfl ?_
      refine g_iconst dX12_must_22 lt_iconst_0 ?_
      refine g_iconst dX12_must_23 lt_iconst_m1 ?_
      obtain ⟨u11, e12, hF⟩ := q_bind hF
      obtain ⟨x13, e14, hF⟩ := q_bind hF
      refine g_callVr0 (ci := 12) (q := (RX12, TX12, 49)) qm_X12_reachable wd_2086 wd_2088 wd_159 rfl e12 (M_X12_reachable l b D z nx e14) (As := [.int (0 : Int32), .int (-1 : Int32)]) rfl rfl (Nat.le_of_ble_eq_true rfl) ⟨(Nat.le_of_ble_eq_true rfl), (Nat.le_of_ble_eq_true rfl)⟩ ⟨rfl, rfl⟩ ⟨(Nat.le_of_ble_eq_true rfl), (Nat.le_of_ble_eq_true rfl)⟩ dX12_must_24 ?_
      refine g_iload_n 2 dX12_must_27 rfl ?_
      obtain ⟨u15, e16, hF⟩ := q_bind hF
      obtain ⟨x17, e18, hF⟩ := q_bind hF
      refine g_callVr0 (ci := 12) (q := (RX12, TX12, 49)) qm_X12_isSceneIn wd_2090 wd_2092 wd_160 rfl e16 (M_X12_isSceneIn l b D z nx e18) (As := [.int x13, .int a2]) rfl rfl (Nat.le_of_ble_eq_true rfl) ⟨(Nat.le_of_ble_eq_true rfl), (Nat.le_of_ble_eq_true rfl)⟩ ⟨rfl, rfl⟩ ⟨(Nat.le_of_ble_eq_true rfl), (Nat.le_of_ble_eq_true rfl)⟩ dX12_must_28 ?_
      refine g_if_ne 36 dX12_must_31 (by decide) (fun c19 => ?_) (fun c19 => ?_)
      · replace hF := q_f c19 hF
        refine g_iconst dX12_must_36 lt_iconst_0 ?_
        refine g_istore_n [(3, .int (0 : Int32)), (0, .ref a0), (1, .int a1), (2, .int a2)] dX12_must_37 (Nat.le_of_ble_eq_true rfl) rfl ?_
        refine g_iconst dX12_must_38 lt_iconst_0 ?_
        refine g_istore [(4, .int (0 : Int32)), (3, .int (0 : Int32)), (0, .ref a0), (1, .int a1), (2, .int a2)] dX12_must_39 (Nat.le_of_ble_eq_true rfl) rfl ?_
        obtain ⟨e20, w21, hF⟩ := q_bind hF
        refine g_sub [2, 4, 1, 0] rfl ?_
        refine L_X12_must_41 l b D z q_N (0 : Int32) (0 : Int32) e20 w21 ?_
        · intro o22 w23
          replace w23 := w23.symm
          subst w23
          refine g_iload_n 0 dX12_must_92 rfl ?_
          cases hF
          exact g_iret dX12_must_93 rfl ⟨rfl, rfl, rfl⟩ (Nat.le_of_ble_eq_true rfl) (Nat.le_of_ble_eq_true rfl)
      · replace hF := q_t c19 hF
        refine g_iconst dX12_must_34 lt_iconst_m1 ?_
        cases hF
        exact g_iret dX12_must_35 rfl ⟨rfl, rfl, rfl⟩ (Nat.le_of_ble_eq_true rfl) (Nat.le_of_ble_eq_true rfl)
def rm_X12_ways : Room := { frames := 3, cells := 0, slots := 0, locals := 66 }
set_option maxRecDepth 100000 in
set_option maxHeartbeats 4000000 in
theorem B_X12_ways_70 (l : Launch) (b : Nat) (D : va_G) (z : Nat → Nat) {Φ : Option Value → qH → Nat → Prop} {nx : Nat} {h : qH} {a0 : Nat} {a2 : Int32} {a3 : Int32} {a4 : Int32} {a5 : Int64} {a7 : Int32} {o : (Int64 × Int32) ⊕ Int64} (hF : b_X12_ways_70 h a0 a2 a3 a4 a5 a7 = some o) (hback : ∀ (b5 : Int64) (b7 : Int32), o = .inl (b5, b7) → Go l b D z yX12_ways cX12_ways 8 (some .long) rm_X12_ways Φ 70 [(0, .ref a0), (2, .int a2), (3, .int a3), (4, .int a4), (5, .long b5), (7, .int b7)] [] h nx 0 0) (hx0 : ∀ (b5 : Int64), o = .inr b5 → Go l b D z yX12_ways cX12_ways 8 (some .long) rm_X12_ways Φ 117 [(0, .ref a0), (2, .int a2), (3, .int a3), (4, .int a4), (5, .long b5)] [] h nx 0 0) : Go l b D z yX12_ways cX12_ways 8 (some .long) rm_X12_ways Φ 70 [(0, .ref a0), (2, .int a2), (3, .int a3), (4, .int a4), (5, .long a5), (7, .int a7)] [] h nx 0 0 := by
  unfold b_X12_ways_70 at hF
  refine g_iload 5 dX12_ways_70 rfl ?_
  refine g_aload_n 0 dX12_ways_72 rfl ?_
  obtain ⟨x1, e2, hF⟩ := q_bind hF
  refine g_getfR fl_X12_47 e2 dX12_ways_73 ?_
  refine g_iload 3 dX12_ways_76 rfl ?_
  obtain ⟨x3, e4, hF⟩ := q_bind hF
  refine g_iald e4 dX12_ways_78 ?_
  refine g_icmp_ge 117 dX12_ways_79 (by decide) (fun c5 => ?_) (fun c5 => ?_)
  · replace hF := q_t c5 hF
    cases hF
    refine g_sub [0, 1, 2, 3, 4] rfl ?_
    exact hx0 _ rfl
  · replace hF := q_f c5 hF
    refine g_iload_n 2 dX12_ways_82 rfl ?_
    refine g_if_le 117 dX12_ways_83 (by decide) (fun c6 => ?_) (fun c6 => ?_)
    · replace hF := q_t c6 hF
      cases hF
      refine g_sub [0, 1, 2, 3, 4] rfl ?_
      exact hx0 _ rfl
    · replace hF := q_f c6 hF
      refine g_lload 4 dX12_ways_86 rfl ?_
      refine g_aload_n 0 dX12_ways_88 rfl ?_
      obtain ⟨x7, e8, hF⟩ := q_bind hF
      refine g_getfR fl_X12_75 e8 dX12_ways_89 ?_
      refine g_bipush dX12_ways_92 lt_bipush_20 ?_
      refine g_iload_n 2 dX12_ways_94 rfl ?_
      refine g_iconst dX12_ways_95 lt_iconst_1 ?_
      refine g_isub dX12_ways_96 ?_
      refine g_imul dX12_ways_97 ?_
      refine g_aload_n 0 dX12_ways_98 rfl ?_
      refine g_iload 3 dX12_ways_99 rfl ?_
      refine g_iload 5 dX12_ways_101 rfl ?_
      obtain ⟨u9, e10, hF⟩ := q_bind hF
      obtain ⟨x11, e12, hF⟩ := q_bind hF
      refine g_callVr0 (ci := 12) (q := (RX12, TX12, 49)) qm_X12_behind wd_1773 wd_1775 wd_104 rfl e10 (M_X12_behind l b D z nx e12) (As := [.int a4, .int a7]) rfl rfl (Nat.le_of_ble_eq_true rfl) ⟨(Nat.le_of_ble_eq_true rfl), (Nat.le_of_ble_eq_true rfl)⟩ ⟨rfl, rfl⟩ ⟨(Nat.le_of_ble_eq_true rfl), (Nat.le_of_ble_eq_true rfl)⟩ dX12_ways_103 ?_
      refine g_iadd dX12_ways_106 ?_
      obtain ⟨x13, e14, hF⟩ := q_bind hF
      refine g_lald e14 dX12_ways_107 ?_
      refine g_ladd dX12_ways_108 ?_
      refine g_lstore [(5, .long (a5 + x13)), (0, .ref a0), (2, .int a2), (3, .int a3), (4, .int a4), (7, .int a7)] dX12_ways_109 (Nat.le_of_ble_eq_true rfl) rfl ?_
      refine g_iinc [(7, .int (a7 + 1)), (5, .long (a5 + x13)), (0, .ref a0), (2, .int a2), (3, .int a3), (4, .int a4)] 5 dX12_ways_111 rfl (congrArg (a7 + ·) lt_iconst_1) (Nat.le_of_ble_eq_true rfl) rfl ?_
      refine g_goto 70 dX12_ways_114 (by decide) ?_
      cases hF
      refine g_sub [2, 3, 4, 5, 1, 0] rfl ?_
      exact hback _ _ rfl
set_option maxRecDepth 100000 in
set_option maxHeartbeats 4000000 in
theorem L_X12_ways_70 (l : Launch) (b : Nat) (D : va_G) (z : Nat → Nat) {Φ : Option Value → qH → Nat → Prop} {nx : Nat} {h : qH} {a0 : Nat} {a2 : Int32} {a3 : Int32} {a4 : Int32} : ∀ (n : Nat) (a5 : Int64) (a7 : Int32) (e : Int64), q_lp (s_X12_ways_70 h a0 a2 a3 a4) n (a5, a7) = some e → (∀ (b5 : Int64), e = b5 → Go l b D z yX12_ways cX12_ways 8 (some .long) rm_X12_ways Φ 117 [(0, .ref a0), (2, .int a2), (3, .int a3), (4, .int a4), (5, .long b5)] [] h nx 0 0) → Go l b D z yX12_ways cX12_ways 8 (some .long) rm_X12_ways Φ 70 [(0, .ref a0), (2, .int a2), (3, .int a3), (4, .int a4), (5, .long a5), (7, .int a7)] [] h nx 0 0 := by
  intro n
  induction n with
  | zero => intro a5 a7 e he; cases (show none = some e from he)
  | succ n ih =>
    intro a5 a7 e he hx0
    obtain ⟨o, ho, h1, h2⟩ := q_lp_succ he
    exact B_X12_ways_70 l b D z (show b_X12_ways_70 h a0 a2 a3 a4 a5 a7 = some o from ho) (fun b5 b7 hb => ih _ _ e (h1 _ hb) hx0) (fun p0 hr => hx0 p0 (h2 _ hr).symm)
set_option maxRecDepth 100000 in
set_option maxHeartbeats 4000000 in
theorem J_X12_ways_117 (l : Launch) (b : Nat) (D : va_G) (z : Nat → Nat) {Φ : Option Value → qH → Nat → Prop} {nx : Nat} {h : qH} {a0 : Nat} {a2 : Int32} {a3 : Int32} {a4 : Int32} {a5 : Int64} {o : (Int32 × qH) ⊕ qH} (hF : j_X12_ways_117 h a0 a2 a3 a4 a5  = some o) (hback : ∀ (b4 : Int32) (bh : qH), o = .inl (b4, bh) → Go l b D z yX12_ways cX12_ways 8 (some .long) rm_X12_ways Φ 37 [(0, .ref a0), (2, .int a2), (3, .int a3), (4, .int b4)] [] bh nx 0 0) (hx0 : ∀  (bh : qH), o = .inr bh → Go l b D z yX12_ways cX12_ways 8 (some .long) rm_X12_ways Φ 137 [(0, .ref a0), (2, .int a2), (3, .int a3)] [] bh nx 0 0) : Go l b D z yX12_ways cX12_ways 8 (some .long) rm_X12_ways Φ 117 [(0, .ref a0), (2, .int a2), (3, .int a3), (4, .int a4), (5, .long a5)] [] h nx 0 0 := by
  unfold j_X12_ways_117 at hF
  refine g_aload_n 0 dX12_ways_117 rfl ?_
  obtain ⟨x1, e2, hF⟩ := q_bind hF
  refine g_getfR fl_X12_75 e2 dX12_ways_118 ?_
  refine g_bipush dX12_ways_121 lt_bipush_20 ?_
  refine g_iload_n 2 dX12_ways_123 rfl ?_
  refine g_imul dX12_ways_124 ?_
  refine g_iload 3 dX12_ways_125 rfl ?_
  refine g_iadd dX12_ways_127 ?_
  refine g_lload 4 dX12_ways_128 rfl ?_
  obtain ⟨h3, e4, hF⟩ := q_bind hF
  refine g_last e4 dX12_ways_130 ?_
  refine g_iinc [(4, .int (a4 + 1)), (0, .ref a0), (2, .int a2), (3, .int a3), (5, .long a5)] 3 dX12_ways_131 rfl (congrArg (a4 + ·) lt_iconst_1) (Nat.le_of_ble_eq_true rfl) rfl ?_
  refine g_goto 37 dX12_ways_134 (by decide) ?_
  cases hF
  refine g_sub [1, 2, 3, 0] rfl ?_
  exact hback _ _ rfl
set_option maxRecDepth 100000 in
set_option maxHeartbeats 4000000 in
theorem J_X12_ways_65 (l : Launch) (b : Nat) (D : va_G) (z : Nat → Nat) {Φ : Option Value → qH → Nat → Prop} {nx : Nat} {h : qH} {a0 : Nat} {a2 : Int32} {a3 : Int32} {a4 : Int32} {t0 : Int64} {o : (Int32 × qH) ⊕ qH} (hF : j_X12_ways_65 h a0 a2 a3 a4 t0 = some o) (hback : ∀ (b4 : Int32) (bh : qH), o = .inl (b4, bh) → Go l b D z yX12_ways cX12_ways 8 (some .long) rm_X12_ways Φ 37 [(0, .ref a0), (2, .int a2), (3, .int a3), (4, .int b4)] [] bh nx 0 0) (hx0 : ∀  (bh : qH), o = .inr bh → Go l b D z yX12_ways cX12_ways 8 (some .long) rm_X12_ways Φ 137 [(0, .ref a0), (2, .int a2), (3, .int a3)] [] bh nx 0 0) : Go l b D z yX12_ways cX12_ways 8 (some .long) rm_X12_ways Φ 65 [(0, .ref a0), (2, .int a2), (3, .int a3), (4, .int a4)] [.long t0] h nx 0 0 := by
  unfold j_X12_ways_65 at hF
  refine g_lstore [(5, .long t0), (0, .ref a0), (2, .int a2), (3, .int a3), (4, .int a4)] dX12_ways_65 (Nat.le_of_ble_eq_true rfl) rfl ?_
  refine g_iconst dX12_ways_67 lt_iconst_0 ?_
  refine g_istore [(7, .int (0 : Int32)), (5, .long t0), (0, .ref a0), (2, .int a2), (3, .int a3), (4, .int a4)] dX12_ways_68 (Nat.le_of_ble_eq_true rfl) rfl ?_
  obtain ⟨e1, w2, hF⟩ := q_bind hF
  refine g_sub [2, 3, 4, 5, 1, 0] rfl ?_
  refine L_X12_ways_70 l b D z q_N t0 (0 : Int32) e1 w2 ?_
  · intro o3 w4
    replace w4 := w4.symm
    subst w4
    exact J_X12_ways_117 l b D z hF hback hx0
set_option maxRecDepth 100000 in
set_option maxHeartbeats 4000000 in
theorem J_X12_ways_60 (l : Launch) (b : Nat) (D : va_G) (z : Nat → Nat) {Φ : Option Value → qH → Nat → Prop} {nx : Nat} {h : qH} {a0 : Nat} {a2 : Int32} {a3 : Int32} {a4 : Int32} {o : (Int32 × qH) ⊕ qH} (hF : j_X12_ways_60 h a0 a2 a3 a4  = some o) (hback : ∀ (b4 : Int32) (bh : qH), o = .inl (b4, bh) → Go l b D z yX12_ways cX12_ways 8 (some .long) rm_X12_ways Φ 37 [(0, .ref a0), (2, .int a2), (3, .int a3), (4, .int b4)] [] bh nx 0 0) (hx0 : ∀  (bh : qH), o = .inr bh → Go l b D z yX12_ways cX12_ways 8 (some .long) rm_X12_ways Φ 137 [(0, .ref a0), (2, .int a2), (3, .int a3)] [] bh nx 0 0) : Go l b D z yX12_ways cX12_ways 8 (some .long) rm_X12_ways Φ 60 [(0, .ref a0), (2, .int a2), (3, .int a3), (4, .int a4)] [] h nx 0 0 := by
  unfold j_X12_ways_60 at hF
  refine g_lconst (v := 1) dX12_ways_60 (by decide +kernel) ?_
  refine g_goto 65 dX12_ways_61 (by decide) ?_
  exact J_X12_ways_65 l b D z hF hback hx0
set_option maxRecDepth 100000 in
set_option maxHeartbeats 4000000 in
theorem B_X12_ways_37 (l : Launch) (b : Nat) (D : va_G) (z : Nat → Nat) {Φ : Option Value → qH → Nat → Prop} {nx : Nat} {a0 : Nat} {a2 : Int32} {a3 : Int32} {a4 : Int32} {h : qH} {o : (Int32 × qH) ⊕ qH} (hF : b_X12_ways_37 a0 a2 a3 a4 h = some o) (hback : ∀ (b4 : Int32) (bh : qH), o = .inl (b4, bh) → Go l b D z yX12_ways cX12_ways 8 (some .long) rm_X12_ways Φ 37 [(0, .ref a0), (2, .int a2), (3, .int a3), (4, .int b4)] [] bh nx 0 0) (hx0 : ∀  (bh : qH), o = .inr bh → Go l b D z yX12_ways cX12_ways 8 (some .long) rm_X12_ways Φ 137 [(0, .ref a0), (2, .int a2), (3, .int a3)] [] bh nx 0 0) : Go l b D z yX12_ways cX12_ways 8 (some .long) rm_X12_ways Φ 37 [(0, .ref a0), (2, .int a2), (3, .int a3), (4, .int a4)] [] h nx 0 0 := by
  unfold b_X12_ways_37 at hF
  refine g_iload 3 dX12_ways_37 rfl ?_
  refine g_aload_n 0 dX12_ways_39 rfl ?_
  obtain ⟨x1, e2, hF⟩ := q_bind hF
  refine g_getfI fl_X12_276 e2 dX12_ways_40 ?_
  refine g_icmp_ge 137 dX12_ways_43 (by decide) (fun c3 => ?_) (fun c3 => ?_)
  · replace hF := q_t c3 hF
    cases hF
    refine g_sub [0, 1, 2] rfl ?_
    exact hx0 _ rfl
  · replace hF := q_f c3 hF
    refine g_iload_n 2 dX12_ways_46 rfl ?_
    refine g_if_eq 60 dX12_ways_47 (by decide) (fun c4 => ?_) (fun c4 => ?_)
    · replace hF := q_t c4 hF
      exact J_X12_ways_60 l b D z hF hback hx0
    · replace hF := q_f c4 hF
      refine g_aload_n 0 dX12_ways_50 rfl ?_
      obtain ⟨x5, e6, hF⟩ := q_bind hF
      refine g_getfR fl_X12_47 e6 dX12_ways_51 ?_
      refine g_iload 3 dX12_ways_54 rfl ?_
      obtain ⟨x7, e8, hF⟩ := q_bind hF
      refine g_iald e8 dX12_ways_56 ?_
      refine g_if_ne 64 dX12_ways_57 (by decide) (fun c9 => ?_) (fun c9 => ?_)
      · replace hF := q_f c9 hF
        refine g_lconst (v := 0) dX12_ways_64 (by decide +kernel) ?_
        exact J_X12_ways_65 l b D z hF hback hx0
      · replace hF := q_t c9 hF
        exact J_X12_ways_60 l b D z hF hback hx0
set_option maxRecDepth 100000 in
set_option maxHeartbeats 4000000 in
theorem L_X12_ways_37 (l : Launch) (b : Nat) (D : va_G) (z : Nat → Nat) {Φ : Option Value → qH → Nat → Prop} {nx : Nat} {a0 : Nat} {a2 : Int32} {a3 : Int32} : ∀ (n : Nat) (a4 : Int32) (h : qH) (e : qH), q_lp (s_X12_ways_37 a0 a2 a3) n (a4, h) = some e → (∀  (bh : qH), e = bh → Go l b D z yX12_ways cX12_ways 8 (some .long) rm_X12_ways Φ 137 [(0, .ref a0), (2, .int a2), (3, .int a3)] [] bh nx 0 0) → Go l b D z yX12_ways cX12_ways 8 (some .long) rm_X12_ways Φ 37 [(0, .ref a0), (2, .int a2), (3, .int a3), (4, .int a4)] [] h nx 0 0 := by
  intro n
  induction n with
  | zero => intro a4 h e he; cases (show none = some e from he)
  | succ n ih =>
    intro a4 h e he hx0
    obtain ⟨o, ho, h1, h2⟩ := q_lp_succ he
    exact B_X12_ways_37 l b D z (show b_X12_ways_37 a0 a2 a3 a4 h = some o from ho) (fun b4 bh hb => ih _ _ e (h1 _ hb) hx0) (fun p0 hr => hx0 p0 (h2 _ hr).symm)
set_option maxRecDepth 100000 in
set_option maxHeartbeats 4000000 in
theorem B_X12_ways_29 (l : Launch) (b : Nat) (D : va_G) (z : Nat → Nat) {Φ : Option Value → qH → Nat → Prop} {nx : Nat} {a0 : Nat} {a2 : Int32} {a3 : Int32} {h : qH} {o : (Int32 × qH) ⊕ qH} (hF : b_X12_ways_29 a0 a2 a3 h = some o) (hback : ∀ (b3 : Int32) (bh : qH), o = .inl (b3, bh) → Go l b D z yX12_ways cX12_ways 8 (some .long) rm_X12_ways Φ 29 [(0, .ref a0), (2, .int a2), (3, .int b3)] [] bh nx 0 0) (hx0 : ∀  (bh : qH), o = .inr bh → Go l b D z yX12_ways cX12_ways 8 (some .long) rm_X12_ways Φ 143 [(0, .ref a0), (2, .int a2)] [] bh nx 0 0) : Go l b D z yX12_ways cX12_ways 8 (some .long) rm_X12_ways Φ 29 [(0, .ref a0), (2, .int a2), (3, .int a3)] [] h nx 0 0 := by
  unfold b_X12_ways_29 at hF
  refine g_iload_n 2 dX12_ways_29 rfl ?_
  refine g_iload_n 1 dX12_ways_30 rfl ?_
  refine g_icmp_ge 143 dX12_ways_31 (by decide) (fun c1 => ?_) (fun c1 => ?_)
  · replace hF := q_t c1 hF
    cases hF
    refine g_sub [0, 1] rfl ?_
    exact hx0 _ rfl
  · replace hF := q_f c1 hF
    refine g_iconst dX12_ways_34 lt_iconst_0 ?_
    refine g_istore [(4, .int (0 : Int32)), (0, .ref a0), (2, .int a2), (3, .int a3)] dX12_ways_35 (Nat.le_of_ble_eq_true rfl) rfl ?_
    obtain ⟨e2, w3, hF⟩ := q_bind hF
    refine g_sub [1, 2, 3, 0] rfl ?_
    refine L_X12_ways_37 l b D z q_N (0 : Int32) h e2 w3 ?_
    · intro h4 w5
      replace w5 := w5.symm
      subst w5
      refine g_iinc [(3, .int (a3 + 1)), (0, .ref a0), (2, .int a2)] 2 dX12_ways_137 rfl (congrArg (a3 + ·) lt_iconst_1) (Nat.le_of_ble_eq_true rfl) rfl ?_
      refine g_goto 29 dX12_ways_140 (by decide) ?_
      cases hF
      refine g_sub [1, 2, 0] rfl ?_
      exact hback _ _ rfl
set_option maxRecDepth 100000 in
set_option maxHeartbeats 4000000 in
theorem L_X12_ways_29 (l : Launch) (b : Nat) (D : va_G) (z : Nat → Nat) {Φ : Option Value → qH → Nat → Prop} {nx : Nat} {a0 : Nat} {a2 : Int32} : ∀ (n : Nat) (a3 : Int32) (h : qH) (e : qH), q_lp (s_X12_ways_29 a0 a2) n (a3, h) = some e → (∀  (bh : qH), e = bh → Go l b D z yX12_ways cX12_ways 8 (some .long) rm_X12_ways Φ 143 [(0, .ref a0), (2, .int a2)] [] bh nx 0 0) → Go l b D z yX12_ways cX12_ways 8 (some .long) rm_X12_ways Φ 29 [(0, .ref a0), (2, .int a2), (3, .int a3)] [] h nx 0 0 := by
  intro n
  induction n with
  | zero => intro a3 h e he; cases (show none = some e from he)
  | succ n ih =>
    intro a3 h e he hx0
    obtain ⟨o, ho, h1, h2⟩ := q_lp_succ he
    exact B_X12_ways_29 l b D z (show b_X12_ways_29 a0 a2 a3 h = some o from ho) (fun b3 bh hb => ih _ _ e (h1 _ hb) hx0) (fun p0 hr => hx0 p0 (h2 _ hr).symm)
set_option maxRecDepth 100000 in
set_option maxHeartbeats 4000000 in
theorem M_X12_ways (l : Launch) (b : Nat) (D : va_G) (z : Nat → Nat) (nx : Nat) {h : qH} {a0 : Nat} {a1 : Int32} {a2 : Int32} {r : Int64 × qH} (hF : F_X12_ways h a0 a1 a2 = some r) : Me l b D z yX12_ways cX12_ways 8 (some .long) rm_X12_ways [.ref a0, .int a1, .int a2] h nx (qE (some (.long r.1)) r.2 nx) := by
  refine Me.of (by decide +kernel) (Nat.le_of_ble_eq_true rfl) ?_
  show Go l b D z yX12_ways cX12_ways 8 (some .long) rm_X12_ways (qE (some (.long r.1)) r.2 nx) 0 [(0, .ref a0), (1, .int a1), (2, .int a2)] [] h nx 0 0
  unfold F_X12_ways at hF
  refine g_aload_n 0 dX12_ways_0 rfl ?_
  refine g_iconst dX12_ways_1 lt_iconst_0 ?_
  obtain ⟨h1, e2, hF⟩ := q_bind hF
  refine g_putf fl_X12_91 e2 rfl rfl dX12_ways_2 ?_
  refine g_iload_n 2 dX12_ways_5 rfl ?_
  refine g_iconst dX12_ways_6 lt_iconst_1 ?_
  refine g_bipush dX12_ways_7 lt_bipush_12 ?_
  obtain ⟨x3, e4, hF⟩ := q_bind hF
  refine g_callSr0 qm_X12_in wd_1623 wd_1624 (M_X12_in l b D z nx e4) (As := [.int a2, .int (1 : Int32), .int (12 : Int32)]) rfl rfl (Nat.le_of_ble_eq_true rfl) ⟨(Nat.le_of_ble_eq_true rfl), (Nat.le_of_ble_eq_true rfl)⟩ ⟨rfl, rfl⟩ ⟨(Nat.le_of_ble_eq_true rfl), (Nat.le_of_ble_eq_true rfl)⟩ dX12_ways_9 ?_
  refine g_if_eq 23 dX12_ways_12 (by decide) (fun c5 => ?_) (fun c5 => ?_)
  · replace hF := q_t c5 hF
    refine g_ldc2 dX12_ways_23 wd_1922 ?_
    cases hF
    exact g_lret dX12_ways_26 rfl ⟨rfl, rfl, rfl⟩ (Nat.le_of_ble_eq_true rfl) (Nat.le_of_ble_eq_true rfl)
  · replace hF := q_f c5 hF
    refine g_aload_n 0 dX12_ways_15 rfl ?_
    refine g_iload_n 1 dX12_ways_16 rfl ?_
    obtain ⟨u6, e7, hF⟩ := q_bind hF
    obtain ⟨x8, e9, hF⟩ := q_bind hF
    refine g_callVr0 (ci := 12) (q := (RX12, TX12, 49)) qm_X12_hand wd_1750 wd_1752 wd_99 rfl e7 (M_X12_hand l b D z nx e9) (As := [.int a1]) rfl rfl (Nat.le_of_ble_eq_true rfl) ⟨(Nat.le_of_ble_eq_true rfl), (Nat.le_of_ble_eq_true rfl)⟩ ⟨rfl, rfl⟩ ⟨(Nat.le_of_ble_eq_true rfl), (Nat.le_of_ble_eq_true rfl)⟩ dX12_ways_17 ?_
    refine g_if_ne 27 dX12_ways_20 (by decide) (fun c10 => ?_) (fun c10 => ?_)
    · replace hF := q_f c10 hF
      refine g_iconst dX12_ways_27 lt_iconst_0 ?_
      refine g_istore_n [(3, .int (0 : Int32)), (0, .ref a0), (1, .int a1), (2, .int a2)] dX12_ways_28 (Nat.le_of_ble_eq_true rfl) rfl ?_
      obtain ⟨e11, w12, hF⟩ := q_bind hF
      refine g_sub [1, 3, 0] rfl ?_
      refine L_X12_ways_29 l b D z q_N (0 : Int32) x8.2 e11 w12 ?_
      · intro h13 w14
        replace w14 := w14.symm
        subst w14
        refine g_aload_n 0 dX12_ways_143 rfl ?_
        obtain ⟨x15, e16, hF⟩ := q_bind hF
        refine g_getfI fl_X12_276 e16 dX12_ways_144 ?_
        refine g_if_ne 154 dX12_ways_147 (by decide) (fun c17 => ?_) (fun c17 => ?_)
        · replace hF := q_f c17 hF
          refine g_aload_n 0 dX12_ways_154 rfl ?_
          obtain ⟨x18, e19, hF⟩ := q_bind hF
          refine g_getfR fl_X12_75 e19 dX12_ways_155 ?_
          refine g_bipush dX12_ways_158 lt_bipush_20 ?_
          refine g_iload_n 1 dX12_ways_160 rfl ?_
          refine g_iconst dX12_ways_161 lt_iconst_1 ?_
          refine g_isub dX12_ways_162 ?_
          refine g_imul dX12_ways_163 ?_
          obtain ⟨x20, e21, hF⟩ := q_bind hF
          refine g_lald e21 dX12_ways_164 ?_
          cases hF
          exact g_lret dX12_ways_165 rfl ⟨rfl, rfl, rfl⟩ (Nat.le_of_ble_eq_true rfl) (Nat.le_of_ble_eq_true rfl)
        · replace hF := q_t c17 hF
          refine g_lconst (v := 0) dX12_ways_150 (by decide +kernel) ?_
          refine g_goto 165 dX12_ways_151 (by decide) ?_
          cases hF
          exact g_lret dX12_ways_165 rfl ⟨rfl, rfl, rfl⟩ (Nat.le_of_ble_eq_true rfl) (Nat.le_of_ble_eq_true rfl)
    · replace hF := q_t c10 hF
      refine g_ldc2 dX12_ways_23 wd_1922 ?_
      cases hF
      exact g_lret dX12_ways_26 rfl ⟨rfl, rfl, rfl⟩ (Nat.le_of_ble_eq_true rfl) (Nat.le_of_ble_eq_true rfl)
def rm_X12_cell : Room := { frames := 0, cells := 0, slots := 0, locals := 0 }
set_option maxRecDepth 100000 in
set_option maxHeartbeats 4000000 in
theorem M_X12_cell (l : Launch) (b : Nat) (D : va_G) (z : Nat → Nat) (nx : Nat) {h : qH} {a0 : Int32} {a1 : Int32} {a2 : Int32} {r : Int32} (hF : F_X12_cell h a0 a1 a2 = some r) : Me l b D z yX12_cell cX12_cell 3 (some .int) rm_X12_cell [.int a0, .int a1, .int a2] h nx (qE (some (.int r)) h nx) := by
  refine Me.of (by decide +kernel) (Nat.le_of_ble_eq_true rfl) ?_
  show Go l b D z yX12_cell cX12_cell 3 (some .int) rm_X12_cell (qE (some (.int r)) h nx) 0 [(0, .int a0), (1, .int a1), (2, .int a2)] [] h nx 0 0
  unfold F_X12_cell at hF
  refine g_bipush dX12_cell_0 lt_bipush_10 ?_
  refine g_iload_n 0 dX12_cell_2 rfl ?_
  refine g_imul dX12_cell_3 ?_
  refine g_iload_n 1 dX12_cell_4 rfl ?_
  refine g_iadd dX12_cell_5 ?_
  refine g_bipush dX12_cell_6 lt_bipush_20 ?_
  refine g_imul dX12_cell_8 ?_
  refine g_iload_n 2 dX12_cell_9 rfl ?_
  refine g_iadd dX12_cell_10 ?_
  cases hF
  exact g_iret dX12_cell_11 rfl ⟨rfl, rfl, rfl⟩ (Nat.le_of_ble_eq_true rfl) (Nat.le_of_ble_eq_true rfl)
def rm_X12_worst : Room := { frames := 3, cells := 0, slots := 0, locals := 66 }
set_option maxRecDepth 100000 in
set_option maxHeartbeats 4000000 in
theorem J_X12_worst_191 (l : Launch) (b : Nat) (D : va_G) (z : Nat → Nat) {Φ : Option Value → qH → Nat → Prop} {nx : Nat} {h : qH} {a0 : Nat} {a2 : Int32} {a3 : Int32} {a4 : Int32} {a5 : Int32} {a6 : Int32} {a7 : Int32} {a8 : Int32} {a9 : Int32} {a10 : Int32} {t0 : Int32} {o : (Int32 × Int32) ⊕ Int32} (hF : j_X12_worst_191 h a0 a2 a3 a4 a5 a6 a7 a8 a9 a10 t0 = some o) (hback : ∀ (b8 : Int32) (b9 : Int32), o = .inl (b8, b9) → Go l b D z yX12_worst cX12_worst 12 (some .int) rm_X12_worst Φ 81 [(0, .ref a0), (2, .int a2), (3, .int a3), (4, .int a4), (5, .int a5), (6, .int a6), (7, .int a7), (8, .int b8), (9, .int b9)] [] h nx 0 0) (hx0 : ∀ (b8 : Int32), o = .inr b8 → Go l b D z yX12_worst cX12_worst 12 (some .int) rm_X12_worst Φ 213 [(0, .ref a0), (2, .int a2), (3, .int a3), (4, .int a4), (5, .int a5), (6, .int a6), (7, .int a7), (8, .int b8)] [] h nx 0 0) : Go l b D z yX12_worst cX12_worst 12 (some .int) rm_X12_worst Φ 191 [(0, .ref a0), (2, .int a2), (3, .int a3), (4, .int a4), (5, .int a5), (6, .int a6), (7, .int a7), (8, .int a8), (9, .int a9), (10, .int a10)] [.int t0] h nx 0 0 := by
  unfold j_X12_worst_191 at hF
  refine g_istore [(11, .int t0), (0, .ref a0), (2, .int a2), (3, .int a3), (4, .int a4), (5, .int a5), (6, .int a6), (7, .int a7), (8, .int a8), (9, .int a9), (10, .int a10)] dX12_worst_191 (Nat.le_of_ble_eq_true rfl) rfl ?_
  refine g_iload 0 dX12_worst_193 rfl ?_
  refine g_if_eq 203 dX12_worst_195 (by decide) (fun c1 => ?_) (fun c1 => ?_)
  · replace hF := q_t c1 hF
    refine g_iload 8 dX12_worst_203 rfl ?_
    refine g_istore [(8, .int a8), (11, .int t0), (0, .ref a0), (2, .int a2), (3, .int a3), (4, .int a4), (5, .int a5), (6, .int a6), (7, .int a7), (9, .int a9), (10, .int a10)] dX12_worst_205 (Nat.le_of_ble_eq_true rfl) rfl ?_
    refine g_iinc [(9, .int (a9 + 1)), (8, .int a8), (11, .int t0), (0, .ref a0), (2, .int a2), (3, .int a3), (4, .int a4), (5, .int a5), (6, .int a6), (7, .int a7), (10, .int a10)] 9 dX12_worst_207 rfl (congrArg (a9 + ·) lt_iconst_1) (Nat.le_of_ble_eq_true rfl) rfl ?_
    refine g_goto 81 dX12_worst_210 (by decide) ?_
    cases hF
    refine g_sub [3, 4, 5, 6, 7, 8, 9, 1, 0] rfl ?_
    exact hback _ _ rfl
  · replace hF := q_f c1 hF
    refine g_iload 10 dX12_worst_198 rfl ?_
    refine g_goto 205 dX12_worst_200 (by decide) ?_
    refine g_istore [(8, .int a10), (11, .int t0), (0, .ref a0), (2, .int a2), (3, .int a3), (4, .int a4), (5, .int a5), (6, .int a6), (7, .int a7), (9, .int a9), (10, .int a10)] dX12_worst_205 (Nat.le_of_ble_eq_true rfl) rfl ?_
    refine g_iinc [(9, .int (a9 + 1)), (8, .int a10), (11, .int t0), (0, .ref a0), (2, .int a2), (3, .int a3), (4, .int a4), (5, .int a5), (6, .int a6), (7, .int a7), (10, .int a10)] 9 dX12_worst_207 rfl (congrArg (a9 + ·) lt_iconst_1) (Nat.le_of_ble_eq_true rfl) rfl ?_
    refine g_goto 81 dX12_worst_210 (by decide) ?_
    cases hF
    refine g_sub [3, 4, 5, 6, 7, 8, 9, 1, 0] rfl ?_
    exact hback _ _ rfl
set_option maxRecDepth 100000 in
set_option maxHeartbeats 4000000 in
theorem J_X12_worst_190 (l : Launch) (b : Nat) (D : va_G) (z : Nat → Nat) {Φ : Option Value → qH → Nat → Prop} {nx : Nat} {h : qH} {a0 : Nat} {a2 : Int32} {a3 : Int32} {a4 : Int32} {a5 : Int32} {a6 : Int32} {a7 : Int32} {a8 : Int32} {a9 : Int32} {a10 : Int32} {o : (Int32 × Int32) ⊕ Int32} (hF : j_X12_worst_190 h a0 a2 a3 a4 a5 a6 a7 a8 a9 a10  = some o) (hback : ∀ (b8 : Int32) (b9 : Int32), o = .inl (b8, b9) → Go l b D z yX12_worst cX12_worst 12 (some .int) rm_X12_worst Φ 81 [(0, .ref a0), (2, .int a2), (3, .int a3), (4, .int a4), (5, .int a5), (6, .int a6), (7, .int a7), (8, .int b8), (9, .int b9)] [] h nx 0 0) (hx0 : ∀ (b8 : Int32), o = .inr b8 → Go l b D z yX12_worst cX12_worst 12 (some .int) rm_X12_worst Φ 213 [(0, .ref a0), (2, .int a2), (3, .int a3), (4, .int a4), (5, .int a5), (6, .int a6), (7, .int a7), (8, .int b8)] [] h nx 0 0) : Go l b D z yX12_worst cX12_worst 12 (some .int) rm_X12_worst Φ 190 [(0, .ref a0), (2, .int a2), (3, .int a3), (4, .int a4), (5, .int a5), (6, .int a6), (7, .int a7), (8, .int a8), (9, .int a9), (10, .int a10)] [] h nx 0 0 := by
  unfold j_X12_worst_190 at hF
  refine g_iconst dX12_worst_190 lt_iconst_0 ?_
  exact J_X12_worst_191 l b D z hF hback hx0
set_option maxRecDepth 100000 in
set_option maxHeartbeats 4000000 in
theorem J_X12_worst_186 (l : Launch) (b : Nat) (D : va_G) (z : Nat → Nat) {Φ : Option Value → qH → Nat → Prop} {nx : Nat} {h : qH} {a0 : Nat} {a2 : Int32} {a3 : Int32} {a4 : Int32} {a5 : Int32} {a6 : Int32} {a7 : Int32} {a8 : Int32} {a9 : Int32} {a10 : Int32} {o : (Int32 × Int32) ⊕ Int32} (hF : j_X12_worst_186 h a0 a2 a3 a4 a5 a6 a7 a8 a9 a10  = some o) (hback : ∀ (b8 : Int32) (b9 : Int32), o = .inl (b8, b9) → Go l b D z yX12_worst cX12_worst 12 (some .int) rm_X12_worst Φ 81 [(0, .ref a0), (2, .int a2), (3, .int a3), (4, .int a4), (5, .int a5), (6, .int a6), (7, .int a7), (8, .int b8), (9, .int b9)] [] h nx 0 0) (hx0 : ∀ (b8 : Int32), o = .inr b8 → Go l b D z yX12_worst cX12_worst 12 (some .int) rm_X12_worst Φ 213 [(0, .ref a0), (2, .int a2), (3, .int a3), (4, .int a4), (5, .int a5), (6, .int a6), (7, .int a7), (8, .int b8)] [] h nx 0 0) : Go l b D z yX12_worst cX12_worst 12 (some .int) rm_X12_worst Φ 186 [(0, .ref a0), (2, .int a2), (3, .int a3), (4, .int a4), (5, .int a5), (6, .int a6), (7, .int a7), (8, .int a8), (9, .int a9), (10, .int a10)] [] h nx 0 0 := by
  unfold j_X12_worst_186 at hF
  refine g_iconst dX12_worst_186 lt_iconst_1 ?_
  refine g_goto 191 dX12_worst_187 (by decide) ?_
  exact J_X12_worst_191 l b D z hF hback hx0
set_option maxRecDepth 100000 in
set_option maxHeartbeats 4000000 in
theorem J_X12_worst_150 (l : Launch) (b : Nat) (D : va_G) (z : Nat → Nat) {Φ : Option Value → qH → Nat → Prop} {nx : Nat} {h : qH} {a0 : Nat} {a2 : Int32} {a3 : Int32} {a4 : Int32} {a5 : Int32} {a6 : Int32} {a7 : Int32} {a8 : Int32} {a9 : Int32} {t0 : Int32} {o : (Int32 × Int32) ⊕ Int32} (hF : j_X12_worst_150 h a0 a2 a3 a4 a5 a6 a7 a8 a9 t0 = some o) (hback : ∀ (b8 : Int32) (b9 : Int32), o = .inl (b8, b9) → Go l b D z yX12_worst cX12_worst 12 (some .int) rm_X12_worst Φ 81 [(0, .ref a0), (2, .int a2), (3, .int a3), (4, .int a4), (5, .int a5), (6, .int a6), (7, .int a7), (8, .int b8), (9, .int b9)] [] h nx 0 0) (hx0 : ∀ (b8 : Int32), o = .inr b8 → Go l b D z yX12_worst cX12_worst 12 (some .int) rm_X12_worst Φ 213 [(0, .ref a0), (2, .int a2), (3, .int a3), (4, .int a4), (5, .int a5), (6, .int a6), (7, .int a7), (8, .int b8)] [] h nx 0 0) : Go l b D z yX12_worst cX12_worst 12 (some .int) rm_X12_worst Φ 150 [(0, .ref a0), (2, .int a2), (3, .int a3), (4, .int a4), (5, .int a5), (6, .int a6), (7, .int a7), (8, .int a8), (9, .int a9)] [.int t0] h nx 0 0 := by
  unfold j_X12_worst_150 at hF
  refine g_istore [(10, .int t0), (0, .ref a0), (2, .int a2), (3, .int a3), (4, .int a4), (5, .int a5), (6, .int a6), (7, .int a7), (8, .int a8), (9, .int a9)] dX12_worst_150 (Nat.le_of_ble_eq_true rfl) rfl ?_
  refine g_iload 0 dX12_worst_152 rfl ?_
  refine g_iconst dX12_worst_154 lt_iconst_m1 ?_
  refine g_icmp_eq 190 dX12_worst_155 (by decide) (fun c1 => ?_) (fun c1 => ?_)
  · replace hF := q_t c1 hF
    refine g_sub [1, 2, 3, 4, 5, 6, 7, 8, 9, 0] rfl ?_
    exact J_X12_worst_190 l b D z hF hback hx0
  · replace hF := q_f c1 hF
    refine g_iload 8 dX12_worst_158 rfl ?_
    refine g_iconst dX12_worst_160 lt_iconst_m1 ?_
    refine g_icmp_eq 186 dX12_worst_161 (by decide) (fun c2 => ?_) (fun c2 => ?_)
    · replace hF := q_t c2 hF
      refine g_sub [1, 2, 3, 4, 5, 6, 7, 8, 9, 0] rfl ?_
      exact J_X12_worst_186 l b D z hF hback hx0
    · replace hF := q_f c2 hF
      refine g_iload 4 dX12_worst_164 rfl ?_
      refine g_if_eq 179 dX12_worst_166 (by decide) (fun c3 => ?_) (fun c3 => ?_)
      · replace hF := q_t c3 hF
        refine g_iload 0 dX12_worst_179 rfl ?_
        refine g_iload 8 dX12_worst_181 rfl ?_
        refine g_icmp_le 190 dX12_worst_183 (by decide) (fun c4 => ?_) (fun c4 => ?_)
        · replace hF := q_t c4 hF
          refine g_sub [1, 2, 3, 4, 5, 6, 7, 8, 9, 0] rfl ?_
          exact J_X12_worst_190 l b D z hF hback hx0
        · replace hF := q_f c4 hF
          refine g_sub [1, 2, 3, 4, 5, 6, 7, 8, 9, 0] rfl ?_
          exact J_X12_worst_186 l b D z hF hback hx0
      · replace hF := q_f c3 hF
        refine g_iload 0 dX12_worst_169 rfl ?_
        refine g_iload 8 dX12_worst_171 rfl ?_
        refine g_icmp_ge 190 dX12_worst_173 (by decide) (fun c5 => ?_) (fun c5 => ?_)
        · replace hF := q_t c5 hF
          refine g_sub [1, 2, 3, 4, 5, 6, 7, 8, 9, 0] rfl ?_
          exact J_X12_worst_190 l b D z hF hback hx0
        · replace hF := q_f c5 hF
          refine g_goto 186 dX12_worst_176 (by decide) ?_
          refine g_sub [1, 2, 3, 4, 5, 6, 7, 8, 9, 0] rfl ?_
          exact J_X12_worst_186 l b D z hF hback hx0
set_option maxRecDepth 100000 in
set_option maxHeartbeats 4000000 in
theorem B_X12_worst_81 (l : Launch) (b : Nat) (D : va_G) (z : Nat → Nat) {Φ : Option Value → qH → Nat → Prop} {nx : Nat} {h : qH} {a0 : Nat} {a2 : Int32} {a3 : Int32} {a4 : Int32} {a5 : Int32} {a6 : Int32} {a7 : Int32} {a8 : Int32} {a9 : Int32} {o : (Int32 × Int32) ⊕ Int32} (hF : b_X12_worst_81 h a0 a2 a3 a4 a5 a6 a7 a8 a9 = some o) (hback : ∀ (b8 : Int32) (b9 : Int32), o = .inl (b8, b9) → Go l b D z yX12_worst cX12_worst 12 (some .int) rm_X12_worst Φ 81 [(0, .ref a0), (2, .int a2), (3, .int a3), (4, .int a4), (5, .int a5), (6, .int a6), (7, .int a7), (8, .int b8), (9, .int b9)] [] h nx 0 0) (hx0 : ∀ (b8 : Int32), o = .inr b8 → Go l b D z yX12_worst cX12_worst 12 (some .int) rm_X12_worst Φ 213 [(0, .ref a0), (2, .int a2), (3, .int a3), (4, .int a4), (5, .int a5), (6, .int a6), (7, .int a7), (8, .int b8)] [] h nx 0 0) : Go l b D z yX12_worst cX12_worst 12 (some .int) rm_X12_worst Φ 81 [(0, .ref a0), (2, .int a2), (3, .int a3), (4, .int a4), (5, .int a5), (6, .int a6), (7, .int a7), (8, .int a8), (9, .int a9)] [] h nx 0 0 := by
  unfold b_X12_worst_81 at hF
  refine g_iload 8 dX12_worst_81 rfl ?_
  refine g_aload_n 0 dX12_worst_83 rfl ?_
  obtain ⟨x1, e2, hF⟩ := q_bind hF
  refine g_getfR fl_X12_47 e2 dX12_worst_84 ?_
  refine g_iload 6 dX12_worst_87 rfl ?_
  obtain ⟨x3, e4, hF⟩ := q_bind hF
  refine g_iald e4 dX12_worst_89 ?_
  refine g_icmp_ge 213 dX12_worst_90 (by decide) (fun c5 => ?_) (fun c5 => ?_)
  · replace hF := q_t c5 hF
    cases hF
    refine g_sub [0, 1, 2, 3, 4, 5, 6, 7] rfl ?_
    exact hx0 _ rfl
  · replace hF := q_f c5 hF
    refine g_iload 4 dX12_worst_93 rfl ?_
    refine g_if_le 213 dX12_worst_95 (by decide) (fun c6 => ?_) (fun c6 => ?_)
    · replace hF := q_t c6 hF
      cases hF
      refine g_sub [0, 1, 2, 3, 4, 5, 6, 7] rfl ?_
      exact hx0 _ rfl
    · replace hF := q_f c6 hF
      refine g_iload 8 dX12_worst_98 rfl ?_
      obtain ⟨x7, e8, hF⟩ := q_bind hF
      refine g_callSr0 qm_X12_strays wd_1888 wd_1889 (M_X12_strays l b D z nx e8) (As := [.int a9]) rfl rfl (Nat.le_of_ble_eq_true rfl) ⟨(Nat.le_of_ble_eq_true rfl), (Nat.le_of_ble_eq_true rfl)⟩ ⟨rfl, rfl⟩ ⟨(Nat.le_of_ble_eq_true rfl), (Nat.le_of_ble_eq_true rfl)⟩ dX12_worst_100 ?_
      refine g_iload 5 dX12_worst_103 rfl ?_
      refine g_aload_n 0 dX12_worst_105 rfl ?_
      obtain ⟨x9, e10, hF⟩ := q_bind hF
      refine g_getfI fl_X12_276 e10 dX12_worst_106 ?_
      obtain ⟨u11, e12, hF⟩ := q_bind hF
      refine g_idiv dX12_worst_109 (q_nz_spec e12) ?_
      refine g_icmp_le 117 dX12_worst_110 (by decide) (fun c13 => ?_) (fun c13 => ?_)
      · replace hF := q_t c13 hF
        refine g_aload_n 0 dX12_worst_117 rfl ?_
        obtain ⟨x14, e15, hF⟩ := q_bind hF
        refine g_getfR fl_X12_84 e15 dX12_worst_118 ?_
        refine g_iload 4 dX12_worst_121 rfl ?_
        refine g_iconst dX12_worst_123 lt_iconst_1 ?_
        refine g_isub dX12_worst_124 ?_
        refine g_iload 5 dX12_worst_125 rfl ?_
        refine g_aload_n 0 dX12_worst_127 rfl ?_
        obtain ⟨x16, e17, hF⟩ := q_bind hF
        refine g_getfI fl_X12_276 e17 dX12_worst_128 ?_
        obtain ⟨u18, e19, hF⟩ := q_bind hF
        refine g_idiv dX12_worst_131 (q_nz_spec e19) ?_
        refine g_iload 8 dX12_worst_132 rfl ?_
        obtain ⟨x20, e21, hF⟩ := q_bind hF
        refine g_callSr0 qm_X12_strays wd_1888 wd_1889 (M_X12_strays l b D z nx e21) (As := [.int a9]) rfl rfl (Nat.le_of_ble_eq_true rfl) ⟨(Nat.le_of_ble_eq_true rfl), (Nat.le_of_ble_eq_true rfl)⟩ ⟨rfl, rfl⟩ ⟨(Nat.le_of_ble_eq_true rfl), (Nat.le_of_ble_eq_true rfl)⟩ dX12_worst_134 ?_
        refine g_isub dX12_worst_137 ?_
        refine g_aload_n 0 dX12_worst_138 rfl ?_
        refine g_iload 6 dX12_worst_139 rfl ?_
        refine g_iload 8 dX12_worst_141 rfl ?_
        obtain ⟨u22, e23, hF⟩ := q_bind hF
        obtain ⟨x24, e25, hF⟩ := q_bind hF
        refine g_callVr0 (ci := 12) (q := (RX12, TX12, 49)) qm_X12_behind wd_1773 wd_1775 wd_104 rfl e23 (M_X12_behind l b D z nx e25) (As := [.int a7, .int a9]) rfl rfl (Nat.le_of_ble_eq_true rfl) ⟨(Nat.le_of_ble_eq_true rfl), (Nat.le_of_ble_eq_true rfl)⟩ ⟨rfl, rfl⟩ ⟨(Nat.le_of_ble_eq_true rfl), (Nat.le_of_ble_eq_true rfl)⟩ dX12_worst_143 ?_
        obtain ⟨x26, e27, hF⟩ := q_bind hF
        refine g_callSr0 qm_X12_cell wd_2106 wd_2107 (M_X12_cell l b D z nx e27) (As := [.int (a5 - (1 : Int32)), .int ((a6 / x16) - x20), .int x24]) rfl rfl (Nat.le_of_ble_eq_true rfl) ⟨(Nat.le_of_ble_eq_true rfl), (Nat.le_of_ble_eq_true rfl)⟩ ⟨rfl, rfl⟩ ⟨(Nat.le_of_ble_eq_true rfl), (Nat.le_of_ble_eq_true rfl)⟩ dX12_worst_146 ?_
        obtain ⟨x28, e29, hF⟩ := q_bind hF
        refine g_iald e29 dX12_worst_149 ?_
        exact J_X12_worst_150 l b D z hF hback hx0
      · replace hF := q_f c13 hF
        refine g_iconst dX12_worst_113 lt_iconst_m1 ?_
        refine g_goto 150 dX12_worst_114 (by decide) ?_
        exact J_X12_worst_150 l b D z hF hback hx0
set_option maxRecDepth 100000 in
set_option maxHeartbeats 4000000 in
theorem L_X12_worst_81 (l : Launch) (b : Nat) (D : va_G) (z : Nat → Nat) {Φ : Option Value → qH → Nat → Prop} {nx : Nat} {h : qH} {a0 : Nat} {a2 : Int32} {a3 : Int32} {a4 : Int32} {a5 : Int32} {a6 : Int32} {a7 : Int32} : ∀ (n : Nat) (a8 : Int32) (a9 : Int32) (e : Int32), q_lp (s_X12_worst_81 h a0 a2 a3 a4 a5 a6 a7) n (a8, a9) = some e → (∀ (b8 : Int32), e = b8 → Go l b D z yX12_worst cX12_worst 12 (some .int) rm_X12_worst Φ 213 [(0, .ref a0), (2, .int a2), (3, .int a3), (4, .int a4), (5, .int a5), (6, .int a6), (7, .int a7), (8, .int b8)] [] h nx 0 0) → Go l b D z yX12_worst cX12_worst 12 (some .int) rm_X12_worst Φ 81 [(0, .ref a0), (2, .int a2), (3, .int a3), (4, .int a4), (5, .int a5), (6, .int a6), (7, .int a7), (8, .int a8), (9, .int a9)] [] h nx 0 0 := by
  intro n
  induction n with
  | zero => intro a8 a9 e he; cases (show none = some e from he)
  | succ n ih =>
    intro a8 a9 e he hx0
    obtain ⟨o, ho, h1, h2⟩ := q_lp_succ he
    exact B_X12_worst_81 l b D z (show b_X12_worst_81 h a0 a2 a3 a4 a5 a6 a7 a8 a9 = some o from ho) (fun b8 b9 hb => ih _ _ e (h1 _ hb) hx0) (fun p0 hr => hx0 p0 (h2 _ hr).symm)
set_option maxRecDepth 100000 in
set_option maxHeartbeats 4000000 in
theorem J_X12_worst_213 (l : Launch) (b : Nat) (D : va_G) (z : Nat → Nat) {Φ : Option Value → qH → Nat → Prop} {nx : Nat} {h : qH} {a0 : Nat} {a2 : Int32} {a3 : Int32} {a4 : Int32} {a5 : Int32} {a6 : Int32} {a7 : Int32} {a8 : Int32} {o : (Int32 × qH) ⊕ qH} (hF : j_X12_worst_213 h a0 a2 a3 a4 a5 a6 a7 a8  = some o) (hback : ∀ (b6 : Int32) (bh : qH), o = .inl (b6, bh) → Go l b D z yX12_worst cX12_worst 12 (some .int) rm_X12_worst Φ 54 [(0, .ref a0), (2, .int a2), (3, .int a3), (4, .int a4), (5, .int a5), (6, .int b6)] [] bh nx 0 0) (hx0 : ∀  (bh : qH), o = .inr bh → Go l b D z yX12_worst cX12_worst 12 (some .int) rm_X12_worst Φ 251 [(0, .ref a0), (2, .int a2), (3, .int a3), (4, .int a4), (5, .int a5)] [] bh nx 0 0) : Go l b D z yX12_worst cX12_worst 12 (some .int) rm_X12_worst Φ 213 [(0, .ref a0), (2, .int a2), (3, .int a3), (4, .int a4), (5, .int a5), (6, .int a6), (7, .int a7), (8, .int a8)] [] h nx 0 0 := by
  unfold j_X12_worst_213 at hF
  refine g_aload_n 0 dX12_worst_213 rfl ?_
  obtain ⟨x1, e2, hF⟩ := q_bind hF
  refine g_getfR fl_X12_84 e2 dX12_worst_214 ?_
  refine g_iload 4 dX12_worst_217 rfl ?_
  refine g_iload 5 dX12_worst_219 rfl ?_
  refine g_aload_n 0 dX12_worst_221 rfl ?_
  obtain ⟨x3, e4, hF⟩ := q_bind hF
  refine g_getfI fl_X12_276 e4 dX12_worst_222 ?_
  obtain ⟨u5, e6, hF⟩ := q_bind hF
  refine g_idiv dX12_worst_225 (q_nz_spec e6) ?_
  refine g_iload 6 dX12_worst_226 rfl ?_
  obtain ⟨x7, e8, hF⟩ := q_bind hF
  refine g_callSr0 qm_X12_cell wd_2106 wd_2107 (M_X12_cell l b D z nx e8) (As := [.int a5, .int (a6 / x3), .int a7]) rfl rfl (Nat.le_of_ble_eq_true rfl) ⟨(Nat.le_of_ble_eq_true rfl), (Nat.le_of_ble_eq_true rfl)⟩ ⟨rfl, rfl⟩ ⟨(Nat.le_of_ble_eq_true rfl), (Nat.le_of_ble_eq_true rfl)⟩ dX12_worst_228 ?_
  refine g_aload_n 0 dX12_worst_231 rfl ?_
  refine g_iload 6 dX12_worst_232 rfl ?_
  obtain ⟨u9, e10, hF⟩ := q_bind hF
  obtain ⟨x11, e12, hF⟩ := q_bind hF
  refine g_callVr0 (ci := 12) (q := (RX12, TX12, 49)) qm_X12_harmOf wd_1844 wd_1846 wd_118 rfl e10 (M_X12_harmOf l b D z nx e12) (As := [.int a7]) rfl rfl (Nat.le_of_ble_eq_true rfl) ⟨(Nat.le_of_ble_eq_true rfl), (Nat.le_of_ble_eq_true rfl)⟩ ⟨rfl, rfl⟩ ⟨(Nat.le_of_ble_eq_true rfl), (Nat.le_of_ble_eq_true rfl)⟩ dX12_worst_234 ?_
  refine g_iconst dX12_worst_237 lt_iconst_0 ?_
  refine g_iload 7 dX12_worst_238 rfl ?_
  obtain ⟨x13, e14, hF⟩ := q_bind hF
  refine g_callSr0 qm_X12_greater wd_1692 wd_1693 (M_X12_greater l b D z nx e14) (As := [.int (0 : Int32), .int a8]) rfl rfl (Nat.le_of_ble_eq_true rfl) ⟨(Nat.le_of_ble_eq_true rfl), (Nat.le_of_ble_eq_true rfl)⟩ ⟨rfl, rfl⟩ ⟨(Nat.le_of_ble_eq_true rfl), (Nat.le_of_ble_eq_true rfl)⟩ dX12_worst_240 ?_
  refine g_iadd dX12_worst_243 ?_
  obtain ⟨h15, e16, hF⟩ := q_bind hF
  refine g_iast e16 dX12_worst_244 ?_
  refine g_iinc [(6, .int (a6 + 1)), (0, .ref a0), (2, .int a2), (3, .int a3), (4, .int a4), (5, .int a5), (7, .int a7), (8, .int a8)] 5 dX12_worst_245 rfl (congrArg (a6 + ·) lt_iconst_1) (Nat.le_of_ble_eq_true rfl) rfl ?_
  refine g_goto 54 dX12_worst_248 (by decide) ?_
  cases hF
  refine g_sub [1, 2, 3, 4, 5, 0] rfl ?_
  exact hback _ _ rfl
set_option maxRecDepth 100000 in
set_option maxHeartbeats 4000000 in
theorem B_X12_worst_54 (l : Launch) (b : Nat) (D : va_G) (z : Nat → Nat) {Φ : Option Value → qH → Nat → Prop} {nx : Nat} {a0 : Nat} {a2 : Int32} {a3 : Int32} {a4 : Int32} {a5 : Int32} {a6 : Int32} {h : qH} {o : (Int32 × qH) ⊕ qH} (hF : b_X12_worst_54 a0 a2 a3 a4 a5 a6 h = some o) (hback : ∀ (b6 : Int32) (bh : qH), o = .inl (b6, bh) → Go l b D z yX12_worst cX12_worst 12 (some .int) rm_X12_worst Φ 54 [(0, .ref a0), (2, .int a2), (3, .int a3), (4, .int a4), (5, .int a5), (6, .int b6)] [] bh nx 0 0) (hx0 : ∀  (bh : qH), o = .inr bh → Go l b D z yX12_worst cX12_worst 12 (some .int) rm_X12_worst Φ 251 [(0, .ref a0), (2, .int a2), (3, .int a3), (4, .int a4), (5, .int a5)] [] bh nx 0 0) : Go l b D z yX12_worst cX12_worst 12 (some .int) rm_X12_worst Φ 54 [(0, .ref a0), (2, .int a2), (3, .int a3), (4, .int a4), (5, .int a5), (6, .int a6)] [] h nx 0 0 := by
  unfold b_X12_worst_54 at hF
  refine g_iload 5 dX12_worst_54 rfl ?_
  refine g_bipush dX12_worst_56 lt_bipush_10 ?_
  refine g_aload_n 0 dX12_worst_58 rfl ?_
  obtain ⟨x1, e2, hF⟩ := q_bind hF
  refine g_getfI fl_X12_276 e2 dX12_worst_59 ?_
  refine g_imul dX12_worst_62 ?_
  refine g_icmp_ge 251 dX12_worst_63 (by decide) (fun c3 => ?_) (fun c3 => ?_)
  · replace hF := q_t c3 hF
    cases hF
    refine g_sub [0, 1, 2, 3, 4] rfl ?_
    exact hx0 _ rfl
  · replace hF := q_f c3 hF
    refine g_iload 5 dX12_worst_66 rfl ?_
    refine g_aload_n 0 dX12_worst_68 rfl ?_
    obtain ⟨x4, e5, hF⟩ := q_bind hF
    refine g_getfI fl_X12_276 e5 dX12_worst_69 ?_
    obtain ⟨u6, e7, hF⟩ := q_bind hF
    refine g_irem dX12_worst_72 (q_nz_spec e7) ?_
    refine g_istore [(7, .int (q_rem a6 x4)), (0, .ref a0), (2, .int a2), (3, .int a3), (4, .int a4), (5, .int a5), (6, .int a6)] dX12_worst_73 (Nat.le_of_ble_eq_true rfl) rfl ?_
    refine g_iconst dX12_worst_75 lt_iconst_m1 ?_
    refine g_istore [(8, .int (-1 : Int32)), (7, .int (q_rem a6 x4)), (0, .ref a0), (2, .int a2), (3, .int a3), (4, .int a4), (5, .int a5), (6, .int a6)] dX12_worst_76 (Nat.le_of_ble_eq_true rfl) rfl ?_
    refine g_iconst dX12_worst_78 lt_iconst_0 ?_
    refine g_istore [(9, .int (0 : Int32)), (8, .int (-1 : Int32)), (7, .int (q_rem a6 x4)), (0, .ref a0), (2, .int a2), (3, .int a3), (4, .int a4), (5, .int a5), (6, .int a6)] dX12_worst_79 (Nat.le_of_ble_eq_true rfl) rfl ?_
    obtain ⟨e8, w9, hF⟩ := q_bind hF
    refine g_sub [3, 4, 5, 6, 7, 8, 2, 1, 0] rfl ?_
    refine L_X12_worst_81 l b D z q_N (-1 : Int32) (0 : Int32) e8 w9 ?_
    · intro o10 w11
      replace w11 := w11.symm
      subst w11
      exact J_X12_worst_213 l b D z hF hback hx0
set_option maxRecDepth 100000 in
set_option maxHeartbeats 4000000 in
theorem L_X12_worst_54 (l : Launch) (b : Nat) (D : va_G) (z : Nat → Nat) {Φ : Option Value → qH → Nat → Prop} {nx : Nat} {a0 : Nat} {a2 : Int32} {a3 : Int32} {a4 : Int32} {a5 : Int32} : ∀ (n : Nat) (a6 : Int32) (h : qH) (e : qH), q_lp (s_X12_worst_54 a0 a2 a3 a4 a5) n (a6, h) = some e → (∀  (bh : qH), e = bh → Go l b D z yX12_worst cX12_worst 12 (some .int) rm_X12_worst Φ 251 [(0, .ref a0), (2, .int a2), (3, .int a3), (4, .int a4), (5, .int a5)] [] bh nx 0 0) → Go l b D z yX12_worst cX12_worst 12 (some .int) rm_X12_worst Φ 54 [(0, .ref a0), (2, .int a2), (3, .int a3), (4, .int a4), (5, .int a5), (6, .int a6)] [] h nx 0 0 := by
  intro n
  induction n with
  | zero => intro a6 h e he; cases (show none = some e from he)
  | succ n ih =>
    intro a6 h e he hx0
    obtain ⟨o, ho, h1, h2⟩ := q_lp_succ he
    exact B_X12_worst_54 l b D z (show b_X12_worst_54 a0 a2 a3 a4 a5 a6 h = some o from ho) (fun b6 bh hb => ih _ _ e (h1 _ hb) hx0) (fun p0 hr => hx0 p0 (h2 _ hr).symm)
set_option maxRecDepth 100000 in
set_option maxHeartbeats 4000000 in
theorem B_X12_worst_45 (l : Launch) (b : Nat) (D : va_G) (z : Nat → Nat) {Φ : Option Value → qH → Nat → Prop} {nx : Nat} {a0 : Nat} {a2 : Int32} {a3 : Int32} {a4 : Int32} {a5 : Int32} {h : qH} {o : (Int32 × qH) ⊕ qH} (hF : b_X12_worst_45 a0 a2 a3 a4 a5 h = some o) (hback : ∀ (b5 : Int32) (bh : qH), o = .inl (b5, bh) → Go l b D z yX12_worst cX12_worst 12 (some .int) rm_X12_worst Φ 45 [(0, .ref a0), (2, .int a2), (3, .int a3), (4, .int a4), (5, .int b5)] [] bh nx 0 0) (hx0 : ∀  (bh : qH), o = .inr bh → Go l b D z yX12_worst cX12_worst 12 (some .int) rm_X12_worst Φ 257 [(0, .ref a0), (2, .int a2), (3, .int a3)] [] bh nx 0 0) : Go l b D z yX12_worst cX12_worst 12 (some .int) rm_X12_worst Φ 45 [(0, .ref a0), (2, .int a2), (3, .int a3), (4, .int a4), (5, .int a5)] [] h nx 0 0 := by
  unfold b_X12_worst_45 at hF
  refine g_iload 4 dX12_worst_45 rfl ?_
  refine g_iload_n 1 dX12_worst_47 rfl ?_
  refine g_icmp_ge 257 dX12_worst_48 (by decide) (fun c1 => ?_) (fun c1 => ?_)
  · replace hF := q_t c1 hF
    cases hF
    refine g_sub [0, 1, 2] rfl ?_
    exact hx0 _ rfl
  · replace hF := q_f c1 hF
    refine g_iconst dX12_worst_51 lt_iconst_0 ?_
    refine g_istore [(6, .int (0 : Int32)), (0, .ref a0), (2, .int a2), (3, .int a3), (4, .int a4), (5, .int a5)] dX12_worst_52 (Nat.le_of_ble_eq_true rfl) rfl ?_
    obtain ⟨e2, w3, hF⟩ := q_bind hF
    refine g_sub [1, 2, 3, 4, 5, 0] rfl ?_
    refine L_X12_worst_54 l b D z q_N (0 : Int32) h e2 w3 ?_
    · intro h4 w5
      replace w5 := w5.symm
      subst w5
      refine g_iinc [(5, .int (a5 + 1)), (0, .ref a0), (2, .int a2), (3, .int a3), (4, .int a4)] 4 dX12_worst_251 rfl (congrArg (a5 + ·) lt_iconst_1) (Nat.le_of_ble_eq_true rfl) rfl ?_
      refine g_goto 45 dX12_worst_254 (by decide) ?_
      cases hF
      refine g_sub [1, 2, 3, 4, 0] rfl ?_
      exact hback _ _ rfl
set_option maxRecDepth 100000 in
set_option maxHeartbeats 4000000 in
theorem L_X12_worst_45 (l : Launch) (b : Nat) (D : va_G) (z : Nat → Nat) {Φ : Option Value → qH → Nat → Prop} {nx : Nat} {a0 : Nat} {a2 : Int32} {a3 : Int32} {a4 : Int32} : ∀ (n : Nat) (a5 : Int32) (h : qH) (e : qH), q_lp (s_X12_worst_45 a0 a2 a3 a4) n (a5, h) = some e → (∀  (bh : qH), e = bh → Go l b D z yX12_worst cX12_worst 12 (some .int) rm_X12_worst Φ 257 [(0, .ref a0), (2, .int a2), (3, .int a3)] [] bh nx 0 0) → Go l b D z yX12_worst cX12_worst 12 (some .int) rm_X12_worst Φ 45 [(0, .ref a0), (2, .int a2), (3, .int a3), (4, .int a4), (5, .int a5)] [] h nx 0 0 := by
  intro n
  induction n with
  | zero => intro a5 h e he; cases (show none = some e from he)
  | succ n ih =>
    intro a5 h e he hx0
    obtain ⟨o, ho, h1, h2⟩ := q_lp_succ he
    exact B_X12_worst_45 l b D z (show b_X12_worst_45 a0 a2 a3 a4 a5 h = some o from ho) (fun b5 bh hb => ih _ _ e (h1 _ hb) hx0) (fun p0 hr => hx0 p0 (h2 _ hr).symm)
set_option maxRecDepth 100000 in
set_option maxHeartbeats 4000000 in
theorem M_X12_worst (l : Launch) (b : Nat) (D : va_G) (z : Nat → Nat) (nx : Nat) {h : qH} {a0 : Nat} {a1 : Int32} {a2 : Int32} {a3 : Int32} {a4 : Int32} {r : Int32 × qH} (hF : F_X12_worst h a0 a1 a2 a3 a4 = some r) : Me l b D z yX12_worst cX12_worst 12 (some .int) rm_X12_worst [.ref a0, .int a1, .int a2, .int a3, .int a4] h nx (qE (some (.int r.1)) r.2 nx) := by
  refine Me.of (by decide +kernel) (Nat.le_of_ble_eq_true rfl) ?_
  show Go l b D z yX12_worst cX12_worst 12 (some .int) rm_X12_worst (qE (some (.int r.1)) r.2 nx) 0 [(0, .ref a0), (1, .int a1), (2, .int a2), (3, .int a3), (4, .int a4)] [] h nx 0 0
  unfold F_X12_worst at hF
  refine g_aload_n 0 dX12_worst_0 rfl ?_
  refine g_iconst dX12_worst_1 lt_iconst_0 ?_
  obtain ⟨h1, e2, hF⟩ := q_bind hF
  refine g_putf fl_X12_91 e2 rfl rfl dX12_worst_2 ?_
  refine g_iload_n 2 dX12_worst_5 rfl ?_
  refine g_iconst dX12_worst_6 lt_iconst_1 ?_
  refine g_bipush dX12_worst_7 lt_bipush_20 ?_
  obtain ⟨x3, e4, hF⟩ := q_bind hF
  refine g_callSr0 qm_X12_in wd_1623 wd_1624 (M_X12_in l b D z nx e4) (As := [.int a2, .int (1 : Int32), .int (20 : Int32)]) rfl rfl (Nat.le_of_ble_eq_true rfl) ⟨(Nat.le_of_ble_eq_true rfl), (Nat.le_of_ble_eq_true rfl)⟩ ⟨rfl, rfl⟩ ⟨(Nat.le_of_ble_eq_true rfl), (Nat.le_of_ble_eq_true rfl)⟩ dX12_worst_9 ?_
  refine g_if_eq 40 dX12_worst_12 (by decide) (fun c5 => ?_) (fun c5 => ?_)
  · replace hF := q_t c5 hF
    refine g_iconst dX12_worst_40 lt_iconst_m1 ?_
    cases hF
    exact g_iret dX12_worst_41 rfl ⟨rfl, rfl, rfl⟩ (Nat.le_of_ble_eq_true rfl) (Nat.le_of_ble_eq_true rfl)
  · replace hF := q_f c5 hF
    refine g_iload_n 3 dX12_worst_15 rfl ?_
    refine g_iconst dX12_worst_16 lt_iconst_0 ?_
    refine g_bipush dX12_worst_17 lt_bipush_9 ?_
    obtain ⟨x6, e7, hF⟩ := q_bind hF
    refine g_callSr0 qm_X12_in wd_1623 wd_1624 (M_X12_in l b D z nx e7) (As := [.int a3, .int (0 : Int32), .int (9 : Int32)]) rfl rfl (Nat.le_of_ble_eq_true rfl) ⟨(Nat.le_of_ble_eq_true rfl), (Nat.le_of_ble_eq_true rfl)⟩ ⟨rfl, rfl⟩ ⟨(Nat.le_of_ble_eq_true rfl), (Nat.le_of_ble_eq_true rfl)⟩ dX12_worst_19 ?_
    refine g_if_eq 40 dX12_worst_22 (by decide) (fun c8 => ?_) (fun c8 => ?_)
    · replace hF := q_t c8 hF
      refine g_iconst dX12_worst_40 lt_iconst_m1 ?_
      cases hF
      exact g_iret dX12_worst_41 rfl ⟨rfl, rfl, rfl⟩ (Nat.le_of_ble_eq_true rfl) (Nat.le_of_ble_eq_true rfl)
    · replace hF := q_f c8 hF
      refine g_aload_n 0 dX12_worst_25 rfl ?_
      refine g_iload_n 1 dX12_worst_26 rfl ?_
      obtain ⟨u9, e10, hF⟩ := q_bind hF
      obtain ⟨x11, e12, hF⟩ := q_bind hF
      refine g_callVr0 (ci := 12) (q := (RX12, TX12, 49)) qm_X12_hand wd_1750 wd_1752 wd_99 rfl e10 (M_X12_hand l b D z nx e12) (As := [.int a1]) rfl rfl (Nat.le_of_ble_eq_true rfl) ⟨(Nat.le_of_ble_eq_true rfl), (Nat.le_of_ble_eq_true rfl)⟩ ⟨rfl, rfl⟩ ⟨(Nat.le_of_ble_eq_true rfl), (Nat.le_of_ble_eq_true rfl)⟩ dX12_worst_27 ?_
      refine g_if_eq 40 dX12_worst_30 (by decide) (fun c13 => ?_) (fun c13 => ?_)
      · replace hF := q_t c13 hF
        refine g_iconst dX12_worst_40 lt_iconst_m1 ?_
        cases hF
        exact g_iret dX12_worst_41 rfl ⟨rfl, rfl, rfl⟩ (Nat.le_of_ble_eq_true rfl) (Nat.le_of_ble_eq_true rfl)
      · replace hF := q_f c13 hF
        refine g_aload_n 0 dX12_worst_33 rfl ?_
        obtain ⟨x14, e15, hF⟩ := q_bind hF
        refine g_getfI fl_X12_276 e15 dX12_worst_34 ?_
        refine g_if_ne 42 dX12_worst_37 (by decide) (fun c16 => ?_) (fun c16 => ?_)
        · replace hF := q_f c16 hF
          refine g_iconst dX12_worst_42 lt_iconst_0 ?_
          refine g_istore [(5, .int (0 : Int32)), (0, .ref a0), (1, .int a1), (2, .int a2), (3, .int a3), (4, .int a4)] dX12_worst_43 (Nat.le_of_ble_eq_true rfl) rfl ?_
          obtain ⟨e17, w18, hF⟩ := q_bind hF
          refine g_sub [1, 3, 4, 5, 0] rfl ?_
          refine L_X12_worst_45 l b D z q_N (0 : Int32) x11.2 e17 w18 ?_
          · intro h19 w20
            replace w20 := w20.symm
            subst w20
            refine g_aload_n 0 dX12_worst_257 rfl ?_
            obtain ⟨x21, e22, hF⟩ := q_bind hF
            refine g_getfR fl_X12_84 e22 dX12_worst_258 ?_
            refine g_iload_n 1 dX12_worst_261 rfl ?_
            refine g_iconst dX12_worst_262 lt_iconst_1 ?_
            refine g_isub dX12_worst_263 ?_
            refine g_iload_n 2 dX12_worst_264 rfl ?_
            refine g_iconst dX12_worst_265 lt_iconst_0 ?_
            obtain ⟨x23, e24, hF⟩ := q_bind hF
            refine g_callSr0 qm_X12_cell wd_2106 wd_2107 (M_X12_cell l b D z nx e24) (As := [.int (a2 - (1 : Int32)), .int a3, .int (0 : Int32)]) rfl rfl (Nat.le_of_ble_eq_true rfl) ⟨(Nat.le_of_ble_eq_true rfl), (Nat.le_of_ble_eq_true rfl)⟩ ⟨rfl, rfl⟩ ⟨(Nat.le_of_ble_eq_true rfl), (Nat.le_of_ble_eq_true rfl)⟩ dX12_worst_266 ?_
            obtain ⟨x25, e26, hF⟩ := q_bind hF
            refine g_iald e26 dX12_worst_269 ?_
            cases hF
            exact g_iret dX12_worst_270 rfl ⟨rfl, rfl, rfl⟩ (Nat.le_of_ble_eq_true rfl) (Nat.le_of_ble_eq_true rfl)
        · replace hF := q_t c16 hF
          refine g_iconst dX12_worst_40 lt_iconst_m1 ?_
          cases hF
          exact g_iret dX12_worst_41 rfl ⟨rfl, rfl, rfl⟩ (Nat.le_of_ble_eq_true rfl) (Nat.le_of_ble_eq_true rfl)
def rm_X12_lost : Room := { frames := 3, cells := 0, slots := 0, locals := 69 }
set_option maxRecDepth 100000 in
set_option maxHeartbeats 4000000 in
theorem B_X12_lost_28 (l : Launch) (b : Nat) (D : va_G) (z : Nat → Nat) {Φ : Option Value → qH → Nat → Prop} {nx : Nat} {a0 : Nat} {a2 : Int32} {a3 : Int32} {a4 : Int32} {h : qH} {o : (Int32 × Int32 × qH) ⊕ ((Int32 × qH))} (hF : b_X12_lost_28 a0 a2 a3 a4 h = some o) (hback : ∀ (b3 : Int32) (b4 : Int32) (bh : qH), o = .inl (b3, b4, bh) → Go l b D z yX12_lost cX12_lost 5 (some .int) rm_X12_lost Φ 28 [(0, .ref a0), (2, .int a2), (3, .int b3), (4, .int b4)] [] bh nx 0 0) (hx0 : ∀ (b3 : Int32) (bh : qH), o = .inr (b3, bh) → Go l b D z yX12_lost cX12_lost 5 (some .int) rm_X12_lost Φ 64 [(0, .ref a0), (2, .int a2), (3, .int b3)] [] bh nx 0 0) : Go l b D z yX12_lost cX12_lost 5 (some .int) rm_X12_lost Φ 28 [(0, .ref a0), (2, .int a2), (3, .int a3), (4, .int a4)] [] h nx 0 0 := by
  unfold b_X12_lost_28 at hF
  refine g_iload 3 dX12_lost_28 rfl ?_
  refine g_aload_n 0 dX12_lost_30 rfl ?_
  obtain ⟨x1, e2, hF⟩ := q_bind hF
  refine g_getfI fl_X12_276 e2 dX12_lost_31 ?_
  refine g_icmp_ge 64 dX12_lost_34 (by decide) (fun c3 => ?_) (fun c3 => ?_)
  · replace hF := q_t c3 hF
    cases hF
    refine g_sub [0, 1, 2] rfl ?_
    exact hx0 _ _ rfl
  · replace hF := q_f c3 hF
    refine g_aload_n 0 dX12_lost_37 rfl ?_
    refine g_iload 3 dX12_lost_38 rfl ?_
    obtain ⟨u4, e5, hF⟩ := q_bind hF
    obtain ⟨x6, e7, hF⟩ := q_bind hF
    refine g_callVr0 (ci := 12) (q := (RX12, TX12, 49)) qm_X12_lengthWithout wd_1945 wd_1947 wd_131 rfl e5 (M_X12_lengthWithout l b D z nx e7) (As := [.int a4]) rfl rfl (Nat.le_of_ble_eq_true rfl) ⟨(Nat.le_of_ble_eq_true rfl), (Nat.le_of_ble_eq_true rfl)⟩ ⟨rfl, rfl⟩ ⟨(Nat.le_of_ble_eq_true rfl), (Nat.le_of_ble_eq_true rfl)⟩ dX12_lost_40 ?_
    refine g_aload_n 0 dX12_lost_43 rfl ?_
    refine g_iload_n 2 dX12_lost_44 rfl ?_
    obtain ⟨u8, e9, hF⟩ := q_bind hF
    obtain ⟨x10, e11, hF⟩ := q_bind hF
    refine g_callVr0 (ci := 12) (q := (RX12, TX12, 49)) qm_X12_lengthWithout wd_1945 wd_1947 wd_131 rfl e9 (M_X12_lengthWithout l b D z nx e11) (As := [.int a3]) rfl rfl (Nat.le_of_ble_eq_true rfl) ⟨(Nat.le_of_ble_eq_true rfl), (Nat.le_of_ble_eq_true rfl)⟩ ⟨rfl, rfl⟩ ⟨(Nat.le_of_ble_eq_true rfl), (Nat.le_of_ble_eq_true rfl)⟩ dX12_lost_45 ?_
    refine g_icmp_ge 56 dX12_lost_48 (by decide) (fun c12 => ?_) (fun c12 => ?_)
    · replace hF := q_t c12 hF
      refine g_iload_n 2 dX12_lost_56 rfl ?_
      refine g_istore_n [(3, .int a3), (0, .ref a0), (2, .int a2), (4, .int a4)] dX12_lost_57 (Nat.le_of_ble_eq_true rfl) rfl ?_
      refine g_iinc [(4, .int (a4 + 1)), (3, .int a3), (0, .ref a0), (2, .int a2)] 3 dX12_lost_58 rfl (congrArg (a4 + ·) lt_iconst_1) (Nat.le_of_ble_eq_true rfl) rfl ?_
      refine g_goto 28 dX12_lost_61 (by decide) ?_
      cases hF
      refine g_sub [2, 3, 1, 0] rfl ?_
      exact hback _ _ _ rfl
    · replace hF := q_f c12 hF
      refine g_iload 3 dX12_lost_51 rfl ?_
      refine g_goto 57 dX12_lost_53 (by decide) ?_
      refine g_istore_n [(3, .int a4), (0, .ref a0), (2, .int a2), (4, .int a4)] dX12_lost_57 (Nat.le_of_ble_eq_true rfl) rfl ?_
      refine g_iinc [(4, .int (a4 + 1)), (3, .int a4), (0, .ref a0), (2, .int a2)] 3 dX12_lost_58 rfl (congrArg (a4 + ·) lt_iconst_1) (Nat.le_of_ble_eq_true rfl) rfl ?_
      refine g_goto 28 dX12_lost_61 (by decide) ?_
      cases hF
      refine g_sub [2, 3, 1, 0] rfl ?_
      exact hback _ _ _ rfl
set_option maxRecDepth 100000 in
set_option maxHeartbeats 4000000 in
theorem L_X12_lost_28 (l : Launch) (b : Nat) (D : va_G) (z : Nat → Nat) {Φ : Option Value → qH → Nat → Prop} {nx : Nat} {a0 : Nat} {a2 : Int32} : ∀ (n : Nat) (a3 : Int32) (a4 : Int32) (h : qH) (e : (Int32 × qH)), q_lp (s_X12_lost_28 a0 a2) n (a3, a4, h) = some e → (∀ (b3 : Int32) (bh : qH), e = (b3, bh) → Go l b D z yX12_lost cX12_lost 5 (some .int) rm_X12_lost Φ 64 [(0, .ref a0), (2, .int a2), (3, .int b3)] [] bh nx 0 0) → Go l b D z yX12_lost cX12_lost 5 (some .int) rm_X12_lost Φ 28 [(0, .ref a0), (2, .int a2), (3, .int a3), (4, .int a4)] [] h nx 0 0 := by
  intro n
  induction n with
  | zero => intro a3 a4 h e he; cases (show none = some e from he)
  | succ n ih =>
    intro a3 a4 h e he hx0
    obtain ⟨o, ho, h1, h2⟩ := q_lp_succ he
    exact B_X12_lost_28 l b D z (show b_X12_lost_28 a0 a2 a3 a4 h = some o from ho) (fun b3 b4 bh hb => ih _ _ _ e (h1 _ hb) hx0) (fun p0 p1 hr => hx0 p0 p1 (h2 _ hr).symm)
set_option maxRecDepth 100000 in
set_option maxHeartbeats 4000000 in
theorem M_X12_lost (l : Launch) (b : Nat) (D : va_G) (z : Nat → Nat) (nx : Nat) {h : qH} {a0 : Nat} {a1 : Int32} {a2 : Int32} {r : Int32 × qH} (hF : F_X12_lost h a0 a1 a2 = some r) : Me l b D z yX12_lost cX12_lost 5 (some .int) rm_X12_lost [.ref a0, .int a1, .int a2] h nx (qE (some (.int r.1)) r.2 nx) := by
  refine Me.of (by decide +kernel) (Nat.le_of_ble_eq_true rfl) ?_
  show Go l b D z yX12_lost cX12_lost 5 (some .int) rm_X12_lost (qE (some (.int r.1)) r.2 nx) 0 [(0, .ref a0), (1, .int a1), (2, .int a2)] [] h nx 0 0
  unfold F_X12_lost at hF
  refine g_aload_n 0 dX12_lost_0 rfl ?_
  refine g_iconst dX12_lost_1 lt_iconst_0 ?_
  obtain ⟨h1, e2, hF⟩ := q_bind hF
  refine g_putf fl_X12_91 e2 rfl rfl dX12_lost_2 ?_
  refine g_aload_n 0 dX12_lost_5 rfl ?_
  refine g_iload_n 1 dX12_lost_6 rfl ?_
  obtain ⟨u3, e4, hF⟩ := q_bind hF
  obtain ⟨x5, e6, hF⟩ := q_bind hF
  refine g_callVr0 (ci := 12) (q := (RX12, TX12, 49)) qm_X12_hand wd_1750 wd_1752 wd_99 rfl e4 (M_X12_hand l b D z nx e6) (As := [.int a1]) rfl rfl (Nat.le_of_ble_eq_true rfl) ⟨(Nat.le_of_ble_eq_true rfl), (Nat.le_of_ble_eq_true rfl)⟩ ⟨rfl, rfl⟩ ⟨(Nat.le_of_ble_eq_true rfl), (Nat.le_of_ble_eq_true rfl)⟩ dX12_lost_7 ?_
  refine g_if_eq 21 dX12_lost_10 (by decide) (fun c7 => ?_) (fun c7 => ?_)
  · replace hF := q_t c7 hF
    refine g_iconst dX12_lost_21 lt_iconst_m1 ?_
    cases hF
    exact g_iret dX12_lost_22 rfl ⟨rfl, rfl, rfl⟩ (Nat.le_of_ble_eq_true rfl) (Nat.le_of_ble_eq_true rfl)
  · replace hF := q_f c7 hF
    refine g_aload_n 0 dX12_lost_13 rfl ?_
    obtain ⟨x8, e9, hF⟩ := q_bind hF
    refine g_getfI fl_X12_276 e9 dX12_lost_14 ?_
    refine g_iconst dX12_lost_17 lt_iconst_2 ?_
    refine g_icmp_ge 23 dX12_lost_18 (by decide) (fun c10 => ?_) (fun c10 => ?_)
    · replace hF := q_t c10 hF
      refine g_iconst dX12_lost_23 lt_iconst_1 ?_
      refine g_istore_n [(3, .int (1 : Int32)), (0, .ref a0), (1, .int a1), (2, .int a2)] dX12_lost_24 (Nat.le_of_ble_eq_true rfl) rfl ?_
      refine g_iconst dX12_lost_25 lt_iconst_2 ?_
      refine g_istore [(4, .int (2 : Int32)), (3, .int (1 : Int32)), (0, .ref a0), (1, .int a1), (2, .int a2)] dX12_lost_26 (Nat.le_of_ble_eq_true rfl) rfl ?_
      obtain ⟨e11, w12, hF⟩ := q_bind hF
      refine g_sub [2, 4, 1, 0] rfl ?_
      refine L_X12_lost_28 l b D z q_N (1 : Int32) (2 : Int32) x5.2 e11 w12 ?_
      · intro o13 h14 w15
        replace w15 := w15.symm
        subst w15
        dsimp only at hF
        refine g_iload_n 1 dX12_lost_64 rfl ?_
        refine g_if_eq 76 dX12_lost_65 (by decide) (fun c16 => ?_) (fun c16 => ?_)
        · replace hF := q_t c16 hF
          refine g_iload_n 2 dX12_lost_76 rfl ?_
          cases hF
          exact g_iret dX12_lost_77 rfl ⟨rfl, rfl, rfl⟩ (Nat.le_of_ble_eq_true rfl) (Nat.le_of_ble_eq_true rfl)
        · replace hF := q_f c16 hF
          refine g_aload_n 0 dX12_lost_68 rfl ?_
          refine g_iload_n 2 dX12_lost_69 rfl ?_
          obtain ⟨u17, e18, hF⟩ := q_bind hF
          obtain ⟨x19, e20, hF⟩ := q_bind hF
          refine g_callVr0 (ci := 12) (q := (RX12, TX12, 49)) qm_X12_lengthWithout wd_1945 wd_1947 wd_131 rfl e18 (M_X12_lengthWithout l b D z nx e20) (As := [.int o13]) rfl rfl (Nat.le_of_ble_eq_true rfl) ⟨(Nat.le_of_ble_eq_true rfl), (Nat.le_of_ble_eq_true rfl)⟩ ⟨rfl, rfl⟩ ⟨(Nat.le_of_ble_eq_true rfl), (Nat.le_of_ble_eq_true rfl)⟩ dX12_lost_70 ?_
          refine g_goto 77 dX12_lost_73 (by decide) ?_
          cases hF
          exact g_iret dX12_lost_77 rfl ⟨rfl, rfl, rfl⟩ (Nat.le_of_ble_eq_true rfl) (Nat.le_of_ble_eq_true rfl)
    · replace hF := q_f c10 hF
      refine g_iconst dX12_lost_21 lt_iconst_m1 ?_
      cases hF
      exact g_iret dX12_lost_22 rfl ⟨rfl, rfl, rfl⟩ (Nat.le_of_ble_eq_true rfl) (Nat.le_of_ble_eq_true rfl)
def rm_X12_force : Room := { frames := 3, cells := 0, slots := 0, locals := 66 }
set_option maxRecDepth 100000 in
set_option maxHeartbeats 4000000 in
theorem B_X12_force_42 (l : Launch) (b : Nat) (D : va_G) (z : Nat → Nat) {Φ : Option Value → qH → Nat → Prop} {nx : Nat} {a0 : Nat} {a2 : Int32} {a3 : Int32} {a4 : Int32} {h : qH} {o : (Int32 × qH) ⊕ qH} (hF : b_X12_force_42 a0 a2 a3 a4 h = some o) (hback : ∀ (b4 : Int32) (bh : qH), o = .inl (b4, bh) → Go l b D z yX12_force cX12_force 10 (some .int) rm_X12_force Φ 42 [(0, .ref a0), (2, .int a2), (3, .int a3), (4, .int b4)] [] bh nx 0 0) (hx0 : ∀  (bh : qH), o = .inr bh → Go l b D z yX12_force cX12_force 10 (some .int) rm_X12_force Φ 81 [(0, .ref a0), (2, .int a2), (3, .int a3)] [] bh nx 0 0) : Go l b D z yX12_force cX12_force 10 (some .int) rm_X12_force Φ 42 [(0, .ref a0), (2, .int a2), (3, .int a3), (4, .int a4)] [] h nx 0 0 := by
  unfold b_X12_force_42 at hF
  refine g_iload 3 dX12_force_42 rfl ?_
  refine g_aload_n 0 dX12_force_44 rfl ?_
  obtain ⟨x1, e2, hF⟩ := q_bind hF
  refine g_getfI fl_X12_276 e2 dX12_force_45 ?_
  refine g_icmp_ge 81 dX12_force_48 (by decide) (fun c3 => ?_) (fun c3 => ?_)
  · replace hF := q_t c3 hF
    cases hF
    refine g_sub [0, 1, 2] rfl ?_
    exact hx0 _ rfl
  · replace hF := q_f c3 hF
    refine g_aload_n 0 dX12_force_51 rfl ?_
    obtain ⟨x4, e5, hF⟩ := q_bind hF
    refine g_getfR fl_X12_56 e5 dX12_force_52 ?_
    refine g_iload 3 dX12_force_55 rfl ?_
    refine g_aload_n 0 dX12_force_57 rfl ?_
    refine g_iload 3 dX12_force_58 rfl ?_
    refine g_iload_n 1 dX12_force_60 rfl ?_
    obtain ⟨u6, e7, hF⟩ := q_bind hF
    obtain ⟨x8, e9, hF⟩ := q_bind hF
    refine g_callVr0 (ci := 12) (q := (RX12, TX12, 49)) qm_X12_isOf wd_1894 wd_1896 wd_126 rfl e7 (M_X12_isOf l b D z nx e9) (As := [.int a4, .int a2]) rfl rfl (Nat.le_of_ble_eq_true rfl) ⟨(Nat.le_of_ble_eq_true rfl), (Nat.le_of_ble_eq_true rfl)⟩ ⟨rfl, rfl⟩ ⟨(Nat.le_of_ble_eq_true rfl), (Nat.le_of_ble_eq_true rfl)⟩ dX12_force_61 ?_
    refine g_if_eq 71 dX12_force_64 (by decide) (fun c10 => ?_) (fun c10 => ?_)
    · replace hF := q_t c10 hF
      refine g_ldcw dX12_force_71 wd_1887 ?_
      obtain ⟨h11, e12, hF⟩ := q_bind hF
      refine g_iast e12 dX12_force_74 ?_
      refine g_iinc [(4, .int (a4 + 1)), (0, .ref a0), (2, .int a2), (3, .int a3)] 3 dX12_force_75 rfl (congrArg (a4 + ·) lt_iconst_1) (Nat.le_of_ble_eq_true rfl) rfl ?_
      refine g_goto 42 dX12_force_78 (by decide) ?_
      cases hF
      refine g_sub [1, 2, 3, 0] rfl ?_
      exact hback _ _ rfl
    · replace hF := q_f c10 hF
      refine g_iconst dX12_force_67 lt_iconst_1 ?_
      refine g_goto 74 dX12_force_68 (by decide) ?_
      obtain ⟨h13, e14, hF⟩ := q_bind hF
      refine g_iast e14 dX12_force_74 ?_
      refine g_iinc [(4, .int (a4 + 1)), (0, .ref a0), (2, .int a2), (3, .int a3)] 3 dX12_force_75 rfl (congrArg (a4 + ·) lt_iconst_1) (Nat.le_of_ble_eq_true rfl) rfl ?_
      refine g_goto 42 dX12_force_78 (by decide) ?_
      cases hF
      refine g_sub [1, 2, 3, 0] rfl ?_
      exact hback _ _ rfl
set_option maxRecDepth 100000 in
set_option maxHeartbeats 4000000 in
theorem L_X12_force_42 (l : Launch) (b : Nat) (D : va_G) (z : Nat → Nat) {Φ : Option Value → qH → Nat → Prop} {nx : Nat} {a0 : Nat} {a2 : Int32} {a3 : Int32} : ∀ (n : Nat) (a4 : Int32) (h : qH) (e : qH), q_lp (s_X12_force_42 a0 a2 a3) n (a4, h) = some e → (∀  (bh : qH), e = bh → Go l b D z yX12_force cX12_force 10 (some .int) rm_X12_force Φ 81 [(0, .ref a0), (2, .int a2), (3, .int a3)] [] bh nx 0 0) → Go l b D z yX12_force cX12_force 10 (some .int) rm_X12_force Φ 42 [(0, .ref a0), (2, .int a2), (3, .int a3), (4, .int a4)] [] h nx 0 0 := by
  intro n
  induction n with
  | zero => intro a4 h e he; cases (show none = some e from he)
  | succ n ih =>
    intro a4 h e he hx0
    obtain ⟨o, ho, h1, h2⟩ := q_lp_succ he
    exact B_X12_force_42 l b D z (show b_X12_force_42 a0 a2 a3 a4 h = some o from ho) (fun b4 bh hb => ih _ _ e (h1 _ hb) hx0) (fun p0 hr => hx0 p0 (h2 _ hr).symm)
set_option maxRecDepth 100000 in
set_option maxHeartbeats 4000000 in
theorem B_X12_force_142 (l : Launch) (b : Nat) (D : va_G) (z : Nat → Nat) {Φ : Option Value → qH → Nat → Prop} {nx : Nat} {h : qH} {a0 : Nat} {a2 : Int32} {a3 : Int32} {a4 : Int32} {a5 : Int32} {a6 : Int32} {a7 : Int32} {a8 : Int32} {o : (Int32 × Int32) ⊕ Int32} (hF : b_X12_force_142 h a0 a2 a3 a4 a5 a6 a7 a8 = some o) (hback : ∀ (b7 : Int32) (b8 : Int32), o = .inl (b7, b8) → Go l b D z yX12_force cX12_force 10 (some .int) rm_X12_force Φ 142 [(0, .ref a0), (2, .int a2), (3, .int a3), (4, .int a4), (5, .int a5), (6, .int a6), (7, .int b7), (8, .int b8)] [] h nx 0 0) (hx0 : ∀ (b7 : Int32), o = .inr b7 → Go l b D z yX12_force cX12_force 10 (some .int) rm_X12_force Φ 201 [(0, .ref a0), (2, .int a2), (3, .int a3), (4, .int a4), (5, .int a5), (7, .int b7)] [] h nx 0 0) : Go l b D z yX12_force cX12_force 10 (some .int) rm_X12_force Φ 142 [(0, .ref a0), (2, .int a2), (3, .int a3), (4, .int a4), (5, .int a5), (6, .int a6), (7, .int a7), (8, .int a8)] [] h nx 0 0 := by
  unfold b_X12_force_142 at hF
  refine g_iload 7 dX12_force_142 rfl ?_
  refine g_aload_n 0 dX12_force_144 rfl ?_
  obtain ⟨x1, e2, hF⟩ := q_bind hF
  refine g_getfR fl_X12_47 e2 dX12_force_145 ?_
  refine g_iload 4 dX12_force_148 rfl ?_
  obtain ⟨x3, e4, hF⟩ := q_bind hF
  refine g_iald e4 dX12_force_150 ?_
  refine g_icmp_ge 201 dX12_force_151 (by decide) (fun c5 => ?_) (fun c5 => ?_)
  · replace hF := q_t c5 hF
    cases hF
    refine g_sub [0, 1, 2, 3, 4, 6] rfl ?_
    exact hx0 _ rfl
  · replace hF := q_f c5 hF
    refine g_aload_n 0 dX12_force_154 rfl ?_
    obtain ⟨x6, e7, hF⟩ := q_bind hF
    refine g_getfR fl_X12_56 e7 dX12_force_155 ?_
    refine g_aload_n 0 dX12_force_158 rfl ?_
    refine g_iload 4 dX12_force_159 rfl ?_
    refine g_iload 7 dX12_force_161 rfl ?_
    obtain ⟨u8, e9, hF⟩ := q_bind hF
    obtain ⟨x10, e11, hF⟩ := q_bind hF
    refine g_callVr0 (ci := 12) (q := (RX12, TX12, 49)) qm_X12_behind wd_1773 wd_1775 wd_104 rfl e9 (M_X12_behind l b D z nx e11) (As := [.int a5, .int a8]) rfl rfl (Nat.le_of_ble_eq_true rfl) ⟨(Nat.le_of_ble_eq_true rfl), (Nat.le_of_ble_eq_true rfl)⟩ ⟨rfl, rfl⟩ ⟨(Nat.le_of_ble_eq_true rfl), (Nat.le_of_ble_eq_true rfl)⟩ dX12_force_163 ?_
    obtain ⟨x12, e13, hF⟩ := q_bind hF
    refine g_iald e13 dX12_force_166 ?_
    refine g_iconst dX12_force_167 lt_iconst_1 ?_
    refine g_iadd dX12_force_168 ?_
    refine g_istore [(9, .int (x12 + (1 : Int32))), (0, .ref a0), (2, .int a2), (3, .int a3), (4, .int a4), (5, .int a5), (6, .int a6), (7, .int a7), (8, .int a8)] dX12_force_169 (Nat.le_of_ble_eq_true rfl) rfl ?_
    refine g_iload 6 dX12_force_171 rfl ?_
    refine g_if_eq 186 dX12_force_173 (by decide) (fun c14 => ?_) (fun c14 => ?_)
    · replace hF := q_t c14 hF
      refine g_iload 7 dX12_force_186 rfl ?_
      refine g_iload 0 dX12_force_188 rfl ?_
      obtain ⟨x15, e16, hF⟩ := q_bind hF
      refine g_callSr0 qm_X12_greater wd_1692 wd_1693 (M_X12_greater l b D z nx e16) (As := [.int a7, .int (x12 + (1 : Int32))]) rfl rfl (Nat.le_of_ble_eq_true rfl) ⟨(Nat.le_of_ble_eq_true rfl), (Nat.le_of_ble_eq_true rfl)⟩ ⟨rfl, rfl⟩ ⟨(Nat.le_of_ble_eq_true rfl), (Nat.le_of_ble_eq_true rfl)⟩ dX12_force_190 ?_
      refine g_istore [(7, .int x15), (9, .int (x12 + (1 : Int32))), (0, .ref a0), (2, .int a2), (3, .int a3), (4, .int a4), (5, .int a5), (6, .int a6), (8, .int a8)] dX12_force_193 (Nat.le_of_ble_eq_true rfl) rfl ?_
      refine g_iinc [(8, .int (a8 + 1)), (7, .int x15), (9, .int (x12 + (1 : Int32))), (0, .ref a0), (2, .int a2), (3, .int a3), (4, .int a4), (5, .int a5), (6, .int a6)] 8 dX12_force_195 rfl (congrArg (a8 + ·) lt_iconst_1) (Nat.le_of_ble_eq_true rfl) rfl ?_
      refine g_goto 142 dX12_force_198 (by decide) ?_
      cases hF
      refine g_sub [3, 4, 5, 6, 7, 8, 1, 0] rfl ?_
      exact hback _ _ rfl
    · replace hF := q_f c14 hF
      refine g_iload 7 dX12_force_176 rfl ?_
      refine g_iload 0 dX12_force_178 rfl ?_
      obtain ⟨x17, e18, hF⟩ := q_bind hF
      refine g_callSr0 qm_X12_lesser wd_1891 wd_1892 (M_X12_lesser l b D z nx e18) (As := [.int a7, .int (x12 + (1 : Int32))]) rfl rfl (Nat.le_of_ble_eq_true rfl) ⟨(Nat.le_of_ble_eq_true rfl), (Nat.le_of_ble_eq_true rfl)⟩ ⟨rfl, rfl⟩ ⟨(Nat.le_of_ble_eq_true rfl), (Nat.le_of_ble_eq_true rfl)⟩ dX12_force_180 ?_
      refine g_goto 193 dX12_force_183 (by decide) ?_
      refine g_istore [(7, .int x17), (9, .int (x12 + (1 : Int32))), (0, .ref a0), (2, .int a2), (3, .int a3), (4, .int a4), (5, .int a5), (6, .int a6), (8, .int a8)] dX12_force_193 (Nat.le_of_ble_eq_true rfl) rfl ?_
      refine g_iinc [(8, .int (a8 + 1)), (7, .int x17), (9, .int (x12 + (1 : Int32))), (0, .ref a0), (2, .int a2), (3, .int a3), (4, .int a4), (5, .int a5), (6, .int a6)] 8 dX12_force_195 rfl (congrArg (a8 + ·) lt_iconst_1) (Nat.le_of_ble_eq_true rfl) rfl ?_
      refine g_goto 142 dX12_force_198 (by decide) ?_
      cases hF
      refine g_sub [3, 4, 5, 6, 7, 8, 1, 0] rfl ?_
      exact hback _ _ rfl
set_option maxRecDepth 100000 in
set_option maxHeartbeats 4000000 in
theorem L_X12_force_142 (l : Launch) (b : Nat) (D : va_G) (z : Nat → Nat) {Φ : Option Value → qH → Nat → Prop} {nx : Nat} {h : qH} {a0 : Nat} {a2 : Int32} {a3 : Int32} {a4 : Int32} {a5 : Int32} {a6 : Int32} : ∀ (n : Nat) (a7 : Int32) (a8 : Int32) (e : Int32), q_lp (s_X12_force_142 h a0 a2 a3 a4 a5 a6) n (a7, a8) = some e → (∀ (b7 : Int32), e = b7 → Go l b D z yX12_force cX12_force 10 (some .int) rm_X12_force Φ 201 [(0, .ref a0), (2, .int a2), (3, .int a3), (4, .int a4), (5, .int a5), (7, .int b7)] [] h nx 0 0) → Go l b D z yX12_force cX12_force 10 (some .int) rm_X12_force Φ 142 [(0, .ref a0), (2, .int a2), (3, .int a3), (4, .int a4), (5, .int a5), (6, .int a6), (7, .int a7), (8, .int a8)] [] h nx 0 0 := by
  intro n
  induction n with
  | zero => intro a7 a8 e he; cases (show none = some e from he)
  | succ n ih =>
    intro a7 a8 e he hx0
    obtain ⟨o, ho, h1, h2⟩ := q_lp_succ he
    exact B_X12_force_142 l b D z (show b_X12_force_142 h a0 a2 a3 a4 a5 a6 a7 a8 = some o from ho) (fun b7 b8 hb => ih _ _ e (h1 _ hb) hx0) (fun p0 hr => hx0 p0 (h2 _ hr).symm)
set_option maxRecDepth 100000 in
set_option maxHeartbeats 4000000 in
theorem J_X12_force_137 (l : Launch) (b : Nat) (D : va_G) (z : Nat → Nat) {Φ : Option Value → qH → Nat → Prop} {nx : Nat} {h : qH} {a0 : Nat} {a2 : Int32} {a3 : Int32} {a4 : Int32} {a5 : Int32} {a6 : Int32} {t0 : Int32} {o : (Int32 × qH) ⊕ qH} (hF : j_X12_force_137 h a0 a2 a3 a4 a5 a6 t0 = some o) (hback : ∀ (b5 : Int32) (bh : qH), o = .inl (b5, bh) → Go l b D z yX12_force cX12_force 10 (some .int) rm_X12_force Φ 94 [(0, .ref a0), (2, .int a2), (3, .int a3), (4, .int a4), (5, .int b5)] [] bh nx 0 0) (hx0 : ∀  (bh : qH), o = .inr bh → Go l b D z yX12_force cX12_force 10 (some .int) rm_X12_force Φ 236 [(0, .ref a0), (2, .int a2), (3, .int a3), (4, .int a4)] [] bh nx 0 0) : Go l b D z yX12_force cX12_force 10 (some .int) rm_X12_force Φ 137 [(0, .ref a0), (2, .int a2), (3, .int a3), (4, .int a4), (5, .int a5), (6, .int a6)] [.int t0] h nx 0 0 := by
  unfold j_X12_force_137 at hF
  refine g_istore [(7, .int t0), (0, .ref a0), (2, .int a2), (3, .int a3), (4, .int a4), (5, .int a5), (6, .int a6)] dX12_force_137 (Nat.le_of_ble_eq_true rfl) rfl ?_
  refine g_iconst dX12_force_139 lt_iconst_0 ?_
  refine g_istore [(8, .int (0 : Int32)), (7, .int t0), (0, .ref a0), (2, .int a2), (3, .int a3), (4, .int a4), (5, .int a5), (6, .int a6)] dX12_force_140 (Nat.le_of_ble_eq_true rfl) rfl ?_
  obtain ⟨e1, w2, hF⟩ := q_bind hF
  refine g_sub [2, 3, 4, 5, 6, 7, 1, 0] rfl ?_
  refine L_X12_force_142 l b D z q_N t0 (0 : Int32) e1 w2 ?_
  · intro o3 w4
    replace w4 := w4.symm
    subst w4
    refine g_aload_n 0 dX12_force_201 rfl ?_
    obtain ⟨x5, e6, hF⟩ := q_bind hF
    refine g_getfR fl_X12_56 e6 dX12_force_202 ?_
    refine g_iload 4 dX12_force_205 rfl ?_
    refine g_aload_n 0 dX12_force_207 rfl ?_
    refine g_iload 4 dX12_force_208 rfl ?_
    refine g_iload_n 1 dX12_force_210 rfl ?_
    obtain ⟨u7, e8, hF⟩ := q_bind hF
    obtain ⟨x9, e10, hF⟩ := q_bind hF
    refine g_callVr0 (ci := 12) (q := (RX12, TX12, 49)) qm_X12_isOf wd_1894 wd_1896 wd_126 rfl e8 (M_X12_isOf l b D z nx e10) (As := [.int a5, .int a2]) rfl rfl (Nat.le_of_ble_eq_true rfl) ⟨(Nat.le_of_ble_eq_true rfl), (Nat.le_of_ble_eq_true rfl)⟩ ⟨rfl, rfl⟩ ⟨(Nat.le_of_ble_eq_true rfl), (Nat.le_of_ble_eq_true rfl)⟩ dX12_force_211 ?_
    refine g_if_eq 221 dX12_force_214 (by decide) (fun c11 => ?_) (fun c11 => ?_)
    · replace hF := q_t c11 hF
      refine g_iload 5 dX12_force_221 rfl ?_
      refine g_ldcw dX12_force_223 wd_1887 ?_
      obtain ⟨x12, e13, hF⟩ := q_bind hF
      refine g_callSr0 qm_X12_lesser wd_1891 wd_1892 (M_X12_lesser l b D z nx e13) (As := [.int o3, .int (1000000 : Int32)]) rfl rfl (Nat.le_of_ble_eq_true rfl) ⟨(Nat.le_of_ble_eq_true rfl), (Nat.le_of_ble_eq_true rfl)⟩ ⟨rfl, rfl⟩ ⟨(Nat.le_of_ble_eq_true rfl), (Nat.le_of_ble_eq_true rfl)⟩ dX12_force_226 ?_
      obtain ⟨h14, e15, hF⟩ := q_bind hF
      refine g_iast e15 dX12_force_229 ?_
      refine g_iinc [(5, .int (a5 + 1)), (0, .ref a0), (2, .int a2), (3, .int a3), (4, .int a4), (7, .int o3)] 4 dX12_force_230 rfl (congrArg (a5 + ·) lt_iconst_1) (Nat.le_of_ble_eq_true rfl) rfl ?_
      refine g_goto 94 dX12_force_233 (by decide) ?_
      cases hF
      refine g_sub [1, 2, 3, 4, 0] rfl ?_
      exact hback _ _ rfl
    · replace hF := q_f c11 hF
      refine g_iconst dX12_force_217 lt_iconst_1 ?_
      refine g_goto 229 dX12_force_218 (by decide) ?_
      obtain ⟨h16, e17, hF⟩ := q_bind hF
      refine g_iast e17 dX12_force_229 ?_
      refine g_iinc [(5, .int (a5 + 1)), (0, .ref a0), (2, .int a2), (3, .int a3), (4, .int a4), (7, .int o3)] 4 dX12_force_230 rfl (congrArg (a5 + ·) lt_iconst_1) (Nat.le_of_ble_eq_true rfl) rfl ?_
      refine g_goto 94 dX12_force_233 (by decide) ?_
      cases hF
      refine g_sub [1, 2, 3, 4, 0] rfl ?_
      exact hback _ _ rfl
set_option maxRecDepth 100000 in
set_option maxHeartbeats 4000000 in
theorem J_X12_force_130 (l : Launch) (b : Nat) (D : va_G) (z : Nat → Nat) {Φ : Option Value → qH → Nat → Prop} {nx : Nat} {h : qH} {a0 : Nat} {a2 : Int32} {a3 : Int32} {a4 : Int32} {a5 : Int32} {a6 : Int32} {o : (Int32 × qH) ⊕ qH} (hF : j_X12_force_130 h a0 a2 a3 a4 a5 a6  = some o) (hback : ∀ (b5 : Int32) (bh : qH), o = .inl (b5, bh) → Go l b D z yX12_force cX12_force 10 (some .int) rm_X12_force Φ 94 [(0, .ref a0), (2, .int a2), (3, .int a3), (4, .int a4), (5, .int b5)] [] bh nx 0 0) (hx0 : ∀  (bh : qH), o = .inr bh → Go l b D z yX12_force cX12_force 10 (some .int) rm_X12_force Φ 236 [(0, .ref a0), (2, .int a2), (3, .int a3), (4, .int a4)] [] bh nx 0 0) : Go l b D z yX12_force cX12_force 10 (some .int) rm_X12_force Φ 130 [(0, .ref a0), (2, .int a2), (3, .int a3), (4, .int a4), (5, .int a5), (6, .int a6)] [] h nx 0 0 := by
  unfold j_X12_force_130 at hF
  refine g_ldcw dX12_force_130 wd_1887 ?_
  refine g_goto 137 dX12_force_133 (by decide) ?_
  exact J_X12_force_137 l b D z hF hback hx0
set_option maxRecDepth 100000 in
set_option maxHeartbeats 4000000 in
theorem B_X12_force_94 (l : Launch) (b : Nat) (D : va_G) (z : Nat → Nat) {Φ : Option Value → qH → Nat → Prop} {nx : Nat} {a0 : Nat} {a2 : Int32} {a3 : Int32} {a4 : Int32} {a5 : Int32} {h : qH} {o : (Int32 × qH) ⊕ qH} (hF : b_X12_force_94 a0 a2 a3 a4 a5 h = some o) (hback : ∀ (b5 : Int32) (bh : qH), o = .inl (b5, bh) → Go l b D z yX12_force cX12_force 10 (some .int) rm_X12_force Φ 94 [(0, .ref a0), (2, .int a2), (3, .int a3), (4, .int a4), (5, .int b5)] [] bh nx 0 0) (hx0 : ∀  (bh : qH), o = .inr bh → Go l b D z yX12_force cX12_force 10 (some .int) rm_X12_force Φ 236 [(0, .ref a0), (2, .int a2), (3, .int a3), (4, .int a4)] [] bh nx 0 0) : Go l b D z yX12_force cX12_force 10 (some .int) rm_X12_force Φ 94 [(0, .ref a0), (2, .int a2), (3, .int a3), (4, .int a4), (5, .int a5)] [] h nx 0 0 := by
  unfold b_X12_force_94 at hF
  refine g_iload 4 dX12_force_94 rfl ?_
  refine g_aload_n 0 dX12_force_96 rfl ?_
  obtain ⟨x1, e2, hF⟩ := q_bind hF
  refine g_getfI fl_X12_276 e2 dX12_force_97 ?_
  refine g_icmp_ge 236 dX12_force_100 (by decide) (fun c3 => ?_) (fun c3 => ?_)
  · replace hF := q_t c3 hF
    cases hF
    refine g_sub [0, 1, 2, 3] rfl ?_
    exact hx0 _ rfl
  · replace hF := q_f c3 hF
    refine g_iload_n 2 dX12_force_103 rfl ?_
    refine g_aload_n 0 dX12_force_104 rfl ?_
    refine g_iload 4 dX12_force_105 rfl ?_
    obtain ⟨u4, e5, hF⟩ := q_bind hF
    obtain ⟨x6, e7, hF⟩ := q_bind hF
    refine g_callVr0 (ci := 12) (q := (RX12, TX12, 49)) qm_X12_who wd_1836 wd_1838 wd_116 rfl e5 (M_X12_who l b D z nx e7) (As := [.int a5]) rfl rfl (Nat.le_of_ble_eq_true rfl) ⟨(Nat.le_of_ble_eq_true rfl), (Nat.le_of_ble_eq_true rfl)⟩ ⟨rfl, rfl⟩ ⟨(Nat.le_of_ble_eq_true rfl), (Nat.le_of_ble_eq_true rfl)⟩ dX12_force_107 ?_
    obtain ⟨x8, e9, hF⟩ := q_bind hF
    refine g_callSr0 qm_X12_has wd_1825 wd_1826 (M_X12_has l b D z nx e9) (As := [.int a3, .int x6]) rfl rfl (Nat.le_of_ble_eq_true rfl) ⟨(Nat.le_of_ble_eq_true rfl), (Nat.le_of_ble_eq_true rfl)⟩ ⟨rfl, rfl⟩ ⟨(Nat.le_of_ble_eq_true rfl), (Nat.le_of_ble_eq_true rfl)⟩ dX12_force_110 ?_
    refine g_istore [(6, .int x8), (0, .ref a0), (2, .int a2), (3, .int a3), (4, .int a4), (5, .int a5)] dX12_force_113 (Nat.le_of_ble_eq_true rfl) rfl ?_
    refine g_iload 0 dX12_force_115 rfl ?_
    refine g_if_ne 130 dX12_force_117 (by decide) (fun c10 => ?_) (fun c10 => ?_)
    · replace hF := q_f c10 hF
      refine g_sub [1, 2, 3, 4, 5, 0] rfl ?_
      exact J_X12_force_130 l b D z hF hback hx0
    · replace hF := q_t c10 hF
      refine g_aload_n 1 dX12_force_120 rfl ?_
      obtain ⟨x11, e12, hF⟩ := q_bind hF
      refine g_getfR fl_X12_47 e12 dX12_force_121 ?_
      refine g_iload 5 dX12_force_124 rfl ?_
      obtain ⟨x13, e14, hF⟩ := q_bind hF
      refine g_iald e14 dX12_force_126 ?_
      refine g_if_ne 136 dX12_force_127 (by decide) (fun c15 => ?_) (fun c15 => ?_)
      · replace hF := q_f c15 hF
        refine g_iconst dX12_force_136 lt_iconst_0 ?_
        refine g_sub [1, 2, 3, 4, 5, 0] rfl ?_
        exact J_X12_force_137 l b D z hF hback hx0
      · replace hF := q_t c15 hF
        refine g_sub [1, 2, 3, 4, 5, 0] rfl ?_
        exact J_X12_force_130 l b D z hF hback hx0
set_option maxRecDepth 100000 in
set_option maxHeartbeats 4000000 in
theorem L_X12_force_94 (l : Launch) (b : Nat) (D : va_G) (z : Nat → Nat) {Φ : Option Value → qH → Nat → Prop} {nx : Nat} {a0 : Nat} {a2 : Int32} {a3 : Int32} {a4 : Int32} : ∀ (n : Nat) (a5 : Int32) (h : qH) (e : qH), q_lp (s_X12_force_94 a0 a2 a3 a4) n (a5, h) = some e → (∀  (bh : qH), e = bh → Go l b D z yX12_force cX12_force 10 (some .int) rm_X12_force Φ 236 [(0, .ref a0), (2, .int a2), (3, .int a3), (4, .int a4)] [] bh nx 0 0) → Go l b D z yX12_force cX12_force 10 (some .int) rm_X12_force Φ 94 [(0, .ref a0), (2, .int a2), (3, .int a3), (4, .int a4), (5, .int a5)] [] h nx 0 0 := by
  intro n
  induction n with
  | zero => intro a5 h e he; cases (show none = some e from he)
  | succ n ih =>
    intro a5 h e he hx0
    obtain ⟨o, ho, h1, h2⟩ := q_lp_succ he
    exact B_X12_force_94 l b D z (show b_X12_force_94 a0 a2 a3 a4 a5 h = some o from ho) (fun b5 bh hb => ih _ _ e (h1 _ hb) hx0) (fun p0 hr => hx0 p0 (h2 _ hr).symm)
set_option maxRecDepth 100000 in
set_option maxHeartbeats 4000000 in
theorem B_X12_force_84 (l : Launch) (b : Nat) (D : va_G) (z : Nat → Nat) {Φ : Option Value → qH → Nat → Prop} {nx : Nat} {a0 : Nat} {a2 : Int32} {a3 : Int32} {a4 : Int32} {h : qH} {o : (Int32 × qH) ⊕ qH} (hF : b_X12_force_84 a0 a2 a3 a4 h = some o) (hback : ∀ (b4 : Int32) (bh : qH), o = .inl (b4, bh) → Go l b D z yX12_force cX12_force 10 (some .int) rm_X12_force Φ 84 [(0, .ref a0), (2, .int a2), (3, .int a3), (4, .int b4)] [] bh nx 0 0) (hx0 : ∀  (bh : qH), o = .inr bh → Go l b D z yX12_force cX12_force 10 (some .int) rm_X12_force Φ 242 [(0, .ref a0)] [] bh nx 0 0) : Go l b D z yX12_force cX12_force 10 (some .int) rm_X12_force Φ 84 [(0, .ref a0), (2, .int a2), (3, .int a3), (4, .int a4)] [] h nx 0 0 := by
  unfold b_X12_force_84 at hF
  refine g_iload 3 dX12_force_84 rfl ?_
  refine g_bipush dX12_force_86 lt_bipush_20 ?_
  refine g_icmp_ge 242 dX12_force_88 (by decide) (fun c1 => ?_) (fun c1 => ?_)
  · replace hF := q_t c1 hF
    cases hF
    refine g_sub [0] rfl ?_
    exact hx0 _ rfl
  · replace hF := q_f c1 hF
    refine g_iconst dX12_force_91 lt_iconst_0 ?_
    refine g_istore [(5, .int (0 : Int32)), (0, .ref a0), (2, .int a2), (3, .int a3), (4, .int a4)] dX12_force_92 (Nat.le_of_ble_eq_true rfl) rfl ?_
    obtain ⟨e2, w3, hF⟩ := q_bind hF
    refine g_sub [1, 2, 3, 4, 0] rfl ?_
    refine L_X12_force_94 l b D z q_N (0 : Int32) h e2 w3 ?_
    · intro h4 w5
      replace w5 := w5.symm
      subst w5
      refine g_iinc [(4, .int (a4 + 1)), (0, .ref a0), (2, .int a2), (3, .int a3)] 3 dX12_force_236 rfl (congrArg (a4 + ·) lt_iconst_1) (Nat.le_of_ble_eq_true rfl) rfl ?_
      refine g_goto 84 dX12_force_239 (by decide) ?_
      cases hF
      refine g_sub [1, 2, 3, 0] rfl ?_
      exact hback _ _ rfl
set_option maxRecDepth 100000 in
set_option maxHeartbeats 4000000 in
theorem L_X12_force_84 (l : Launch) (b : Nat) (D : va_G) (z : Nat → Nat) {Φ : Option Value → qH → Nat → Prop} {nx : Nat} {a0 : Nat} {a2 : Int32} {a3 : Int32} : ∀ (n : Nat) (a4 : Int32) (h : qH) (e : qH), q_lp (s_X12_force_84 a0 a2 a3) n (a4, h) = some e → (∀  (bh : qH), e = bh → Go l b D z yX12_force cX12_force 10 (some .int) rm_X12_force Φ 242 [(0, .ref a0)] [] bh nx 0 0) → Go l b D z yX12_force cX12_force 10 (some .int) rm_X12_force Φ 84 [(0, .ref a0), (2, .int a2), (3, .int a3), (4, .int a4)] [] h nx 0 0 := by
  intro n
  induction n with
  | zero => intro a4 h e he; cases (show none = some e from he)
  | succ n ih =>
    intro a4 h e he hx0
    obtain ⟨o, ho, h1, h2⟩ := q_lp_succ he
    exact B_X12_force_84 l b D z (show b_X12_force_84 a0 a2 a3 a4 h = some o from ho) (fun b4 bh hb => ih _ _ e (h1 _ hb) hx0) (fun p0 hr => hx0 p0 (h2 _ hr).symm)
set_option maxRecDepth 100000 in
set_option maxHeartbeats 4000000 in
theorem M_X12_force (l : Launch) (b : Nat) (D : va_G) (z : Nat → Nat) (nx : Nat) {h : qH} {a0 : Nat} {a1 : Int32} {a2 : Int32} {a3 : Int32} {r : Int32 × qH} (hF : F_X12_force h a0 a1 a2 a3 = some r) : Me l b D z yX12_force cX12_force 10 (some .int) rm_X12_force [.ref a0, .int a1, .int a2, .int a3] h nx (qE (some (.int r.1)) r.2 nx) := by
  refine Me.of (by decide +kernel) (Nat.le_of_ble_eq_true rfl) ?_
  show Go l b D z yX12_force cX12_force 10 (some .int) rm_X12_force (qE (some (.int r.1)) r.2 nx) 0 [(0, .ref a0), (1, .int a1), (2, .int a2), (3, .int a3)] [] h nx 0 0
  unfold F_X12_force at hF
  refine g_aload_n 0 dX12_force_0 rfl ?_
  refine g_iconst dX12_force_1 lt_iconst_0 ?_
  obtain ⟨h1, e2, hF⟩ := q_bind hF
  refine g_putf fl_X12_91 e2 rfl rfl dX12_force_2 ?_
  refine g_iload_n 2 dX12_force_5 rfl ?_
  obtain ⟨x3, e4, hF⟩ := q_bind hF
  refine g_callSr0 qm_X12_isScene wd_1880 wd_1881 (M_X12_isScene l b D z nx e4) (As := [.int a2]) rfl rfl (Nat.le_of_ble_eq_true rfl) ⟨(Nat.le_of_ble_eq_true rfl), (Nat.le_of_ble_eq_true rfl)⟩ ⟨rfl, rfl⟩ ⟨(Nat.le_of_ble_eq_true rfl), (Nat.le_of_ble_eq_true rfl)⟩ dX12_force_6 ?_
  refine g_if_eq 37 dX12_force_9 (by decide) (fun c5 => ?_) (fun c5 => ?_)
  · replace hF := q_t c5 hF
    refine g_iconst dX12_force_37 lt_iconst_m1 ?_
    cases hF
    exact g_iret dX12_force_38 rfl ⟨rfl, rfl, rfl⟩ (Nat.le_of_ble_eq_true rfl) (Nat.le_of_ble_eq_true rfl)
  · replace hF := q_f c5 hF
    refine g_iload_n 3 dX12_force_12 rfl ?_
    refine g_iconst dX12_force_13 lt_iconst_0 ?_
    refine g_bipush dX12_force_14 lt_bipush_63 ?_
    obtain ⟨x6, e7, hF⟩ := q_bind hF
    refine g_callSr0 qm_X12_in wd_1623 wd_1624 (M_X12_in l b D z nx e7) (As := [.int a3, .int (0 : Int32), .int (63 : Int32)]) rfl rfl (Nat.le_of_ble_eq_true rfl) ⟨(Nat.le_of_ble_eq_true rfl), (Nat.le_of_ble_eq_true rfl)⟩ ⟨rfl, rfl⟩ ⟨(Nat.le_of_ble_eq_true rfl), (Nat.le_of_ble_eq_true rfl)⟩ dX12_force_16 ?_
    refine g_if_eq 37 dX12_force_19 (by decide) (fun c8 => ?_) (fun c8 => ?_)
    · replace hF := q_t c8 hF
      refine g_iconst dX12_force_37 lt_iconst_m1 ?_
      cases hF
      exact g_iret dX12_force_38 rfl ⟨rfl, rfl, rfl⟩ (Nat.le_of_ble_eq_true rfl) (Nat.le_of_ble_eq_true rfl)
    · replace hF := q_f c8 hF
      refine g_aload_n 0 dX12_force_22 rfl ?_
      refine g_iload_n 1 dX12_force_23 rfl ?_
      obtain ⟨u9, e10, hF⟩ := q_bind hF
      obtain ⟨x11, e12, hF⟩ := q_bind hF
      refine g_callVr0 (ci := 12) (q := (RX12, TX12, 49)) qm_X12_hand wd_1750 wd_1752 wd_99 rfl e10 (M_X12_hand l b D z nx e12) (As := [.int a1]) rfl rfl (Nat.le_of_ble_eq_true rfl) ⟨(Nat.le_of_ble_eq_true rfl), (Nat.le_of_ble_eq_true rfl)⟩ ⟨rfl, rfl⟩ ⟨(Nat.le_of_ble_eq_true rfl), (Nat.le_of_ble_eq_true rfl)⟩ dX12_force_24 ?_
      refine g_if_eq 37 dX12_force_27 (by decide) (fun c13 => ?_) (fun c13 => ?_)
      · replace hF := q_t c13 hF
        refine g_iconst dX12_force_37 lt_iconst_m1 ?_
        cases hF
        exact g_iret dX12_force_38 rfl ⟨rfl, rfl, rfl⟩ (Nat.le_of_ble_eq_true rfl) (Nat.le_of_ble_eq_true rfl)
      · replace hF := q_f c13 hF
        refine g_aload_n 0 dX12_force_30 rfl ?_
        obtain ⟨x14, e15, hF⟩ := q_bind hF
        refine g_getfI fl_X12_276 e15 dX12_force_31 ?_
        refine g_if_ne 39 dX12_force_34 (by decide) (fun c16 => ?_) (fun c16 => ?_)
        · replace hF := q_f c16 hF
          refine g_iconst dX12_force_39 lt_iconst_0 ?_
          refine g_istore [(4, .int (0 : Int32)), (0, .ref a0), (1, .int a1), (2, .int a2), (3, .int a3)] dX12_force_40 (Nat.le_of_ble_eq_true rfl) rfl ?_
          obtain ⟨e17, w18, hF⟩ := q_bind hF
          refine g_sub [1, 3, 4, 0] rfl ?_
          refine L_X12_force_42 l b D z q_N (0 : Int32) x11.2 e17 w18 ?_
          · intro h19 w20
            replace w20 := w20.symm
            subst w20
            refine g_iconst dX12_force_81 lt_iconst_0 ?_
            refine g_istore [(4, .int (0 : Int32)), (0, .ref a0), (2, .int a2), (3, .int a3)] dX12_force_82 (Nat.le_of_ble_eq_true rfl) rfl ?_
            obtain ⟨e21, w22, hF⟩ := q_bind hF
            refine g_sub [1, 2, 3, 0] rfl ?_
            refine L_X12_force_84 l b D z q_N (0 : Int32) h19 e21 w22 ?_
            · intro h23 w24
              replace w24 := w24.symm
              subst w24
              refine g_aload_n 0 dX12_force_242 rfl ?_
              obtain ⟨x25, e26, hF⟩ := q_bind hF
              refine g_getfR fl_X12_56 e26 dX12_force_243 ?_
              refine g_iconst dX12_force_246 lt_iconst_0 ?_
              obtain ⟨x27, e28, hF⟩ := q_bind hF
              refine g_iald e28 dX12_force_247 ?_
              refine g_ldcw dX12_force_248 wd_1887 ?_
              refine g_icmp_lt 258 dX12_force_251 (by decide) (fun c29 => ?_) (fun c29 => ?_)
              · replace hF := q_t c29 hF
                refine g_aload_n 0 dX12_force_258 rfl ?_
                obtain ⟨x30, e31, hF⟩ := q_bind hF
                refine g_getfR fl_X12_56 e31 dX12_force_259 ?_
                refine g_iconst dX12_force_262 lt_iconst_0 ?_
                obtain ⟨x32, e33, hF⟩ := q_bind hF
                refine g_iald e33 dX12_force_263 ?_
                cases hF
                exact g_iret dX12_force_264 rfl ⟨rfl, rfl, rfl⟩ (Nat.le_of_ble_eq_true rfl) (Nat.le_of_ble_eq_true rfl)
              · replace hF := q_f c29 hF
                refine g_iconst dX12_force_254 lt_iconst_m1 ?_
                refine g_goto 264 dX12_force_255 (by decide) ?_
                cases hF
                exact g_iret dX12_force_264 rfl ⟨rfl, rfl, rfl⟩ (Nat.le_of_ble_eq_true rfl) (Nat.le_of_ble_eq_true rfl)
        · replace hF := q_t c16 hF
          refine g_iconst dX12_force_37 lt_iconst_m1 ?_
          cases hF
          exact g_iret dX12_force_38 rfl ⟨rfl, rfl, rfl⟩ (Nat.le_of_ble_eq_true rfl) (Nat.le_of_ble_eq_true rfl)
