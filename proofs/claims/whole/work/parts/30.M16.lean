def rm_X12_prompts : Room := { frames := 3, cells := 0, slots := 0, locals := 66 }
set_option maxRecDepth 100000 in
set_option maxHeartbeats 4000000 in
theorem B_X12_prompts_46 (l : Launch) (b : Nat) (D : va_G) (z : Nat → Nat) {Φ : Option Value → qH → Nat → Prop} {nx : Nat} {h : qH} {a0 : Nat} {a3 : Int32} {a4 : Int64} {a6 : Int32} {o : (Int64 × Int32) ⊕ Int64} (hF : b_X12_prompts_46 h a0 a3 a4 a6 = some o) (hback : ∀ (b4 : Int64) (b6 : Int32), o = .inl (b4, b6) → Go l b D z yX12_prompts cX12_prompts 7 (some .long) rm_X12_prompts Φ 46 [(0, .ref a0), (3, .int a3), (4, .long b4), (6, .int b6)] [] h nx 0 0) (hx0 : ∀ (b4 : Int64), o = .inr b4 → Go l b D z yX12_prompts cX12_prompts 7 (some .long) rm_X12_prompts Φ 81 [(3, .int a3), (4, .long b4)] [] h nx 0 0) : Go l b D z yX12_prompts cX12_prompts 7 (some .long) rm_X12_prompts Φ 46 [(0, .ref a0), (3, .int a3), (4, .long a4), (6, .int a6)] [] h nx 0 0 := by
  unfold b_X12_prompts_46 at hF
  refine g_iload 3 dX12_prompts_46 rfl ?_
  refine g_aload_n 0 dX12_prompts_48 rfl ?_
  obtain ⟨x1, e2, hF⟩ := q_bind hF
  refine g_getfI fl_X12_412 e2 dX12_prompts_49 ?_
  refine g_icmp_ge 81 dX12_prompts_52 (by decide) (fun c3 => ?_) (fun c3 => ?_)
  · replace hF := q_t c3 hF
    cases hF
    refine g_sub [1, 2] rfl ?_
    exact hx0 _ rfl
  · replace hF := q_f c3 hF
    refine g_lload 2 dX12_prompts_55 rfl ?_
    refine g_aload_n 0 dX12_prompts_57 rfl ?_
    refine g_bipush dX12_prompts_58 lt_bipush_100 ?_
    refine g_aload_n 0 dX12_prompts_60 rfl ?_
    obtain ⟨x4, e5, hF⟩ := q_bind hF
    refine g_getfR fl_X12_66 e5 dX12_prompts_61 ?_
    refine g_iload 3 dX12_prompts_64 rfl ?_
    obtain ⟨x6, e7, hF⟩ := q_bind hF
    refine g_iald e7 dX12_prompts_66 ?_
    refine g_iadd dX12_prompts_67 ?_
    obtain ⟨u8, e9, hF⟩ := q_bind hF
    obtain ⟨x10, e11, hF⟩ := q_bind hF
    refine g_callVr0 (ci := 12) (q := (RX12, TX12, 49)) qm_X12_of wd_1754 wd_1756 wd_100 rfl e9 (M_X12_of l b D z nx e11) (As := [.int ((100 : Int32) + x6)]) rfl rfl (Nat.le_of_ble_eq_true rfl) ⟨(Nat.le_of_ble_eq_true rfl), (Nat.le_of_ble_eq_true rfl)⟩ ⟨rfl, rfl⟩ ⟨(Nat.le_of_ble_eq_true rfl), (Nat.le_of_ble_eq_true rfl)⟩ dX12_prompts_68 ?_
    refine g_i2l dX12_prompts_71 ?_
    refine g_ladd dX12_prompts_72 ?_
    refine g_lstore [(4, .long (a4 + x10.toInt64)), (0, .ref a0), (3, .int a3), (6, .int a6)] dX12_prompts_73 (Nat.le_of_ble_eq_true rfl) rfl ?_
    refine g_iinc [(6, .int (a6 + 1)), (4, .long (a4 + x10.toInt64)), (0, .ref a0), (3, .int a3)] 3 dX12_prompts_75 rfl (congrArg (a6 + ·) lt_iconst_1) (Nat.le_of_ble_eq_true rfl) rfl ?_
    refine g_goto 46 dX12_prompts_78 (by decide) ?_
    cases hF
    refine g_sub [2, 3, 1, 0] rfl ?_
    exact hback _ _ rfl
set_option maxRecDepth 100000 in
set_option maxHeartbeats 4000000 in
theorem L_X12_prompts_46 (l : Launch) (b : Nat) (D : va_G) (z : Nat → Nat) {Φ : Option Value → qH → Nat → Prop} {nx : Nat} {h : qH} {a0 : Nat} {a3 : Int32} : ∀ (n : Nat) (a4 : Int64) (a6 : Int32) (e : Int64), q_lp (s_X12_prompts_46 h a0 a3) n (a4, a6) = some e → (∀ (b4 : Int64), e = b4 → Go l b D z yX12_prompts cX12_prompts 7 (some .long) rm_X12_prompts Φ 81 [(3, .int a3), (4, .long b4)] [] h nx 0 0) → Go l b D z yX12_prompts cX12_prompts 7 (some .long) rm_X12_prompts Φ 46 [(0, .ref a0), (3, .int a3), (4, .long a4), (6, .int a6)] [] h nx 0 0 := by
  intro n
  induction n with
  | zero => intro a4 a6 e he; cases (show none = some e from he)
  | succ n ih =>
    intro a4 a6 e he hx0
    obtain ⟨o, ho, h1, h2⟩ := q_lp_succ he
    exact B_X12_prompts_46 l b D z (show b_X12_prompts_46 h a0 a3 a4 a6 = some o from ho) (fun b4 b6 hb => ih _ _ e (h1 _ hb) hx0) (fun p0 hr => hx0 p0 (h2 _ hr).symm)
set_option maxRecDepth 100000 in
set_option maxHeartbeats 4000000 in
theorem M_X12_prompts (l : Launch) (b : Nat) (D : va_G) (z : Nat → Nat) (nx : Nat) {h : qH} {a0 : Nat} {a1 : Int32} {a2 : Int32} {a3 : Int32} {r : Int64 × qH} (hF : F_X12_prompts h a0 a1 a2 a3 = some r) : Me l b D z yX12_prompts cX12_prompts 7 (some .long) rm_X12_prompts [.ref a0, .int a1, .int a2, .int a3] h nx (qE (some (.long r.1)) r.2 nx) := by
  refine Me.of (by decide +kernel) (Nat.le_of_ble_eq_true rfl) ?_
  show Go l b D z yX12_prompts cX12_prompts 7 (some .long) rm_X12_prompts (qE (some (.long r.1)) r.2 nx) 0 [(0, .ref a0), (1, .int a1), (2, .int a2), (3, .int a3)] [] h nx 0 0
  unfold F_X12_prompts at hF
  refine g_aload_n 0 dX12_prompts_0 rfl ?_
  refine g_iconst dX12_prompts_1 lt_iconst_0 ?_
  obtain ⟨h1, e2, hF⟩ := q_bind hF
  refine g_putf fl_X12_91 e2 rfl rfl dX12_prompts_2 ?_
  refine g_iload_n 2 dX12_prompts_5 rfl ?_
  refine g_iconst dX12_prompts_6 lt_iconst_1 ?_
  refine g_bipush dX12_prompts_7 lt_bipush_20 ?_
  obtain ⟨x3, e4, hF⟩ := q_bind hF
  refine g_callSr0 qm_X12_in wd_1623 wd_1624 (M_X12_in l b D z nx e4) (As := [.int a2, .int (1 : Int32), .int (20 : Int32)]) rfl rfl (Nat.le_of_ble_eq_true rfl) ⟨(Nat.le_of_ble_eq_true rfl), (Nat.le_of_ble_eq_true rfl)⟩ ⟨rfl, rfl⟩ ⟨(Nat.le_of_ble_eq_true rfl), (Nat.le_of_ble_eq_true rfl)⟩ dX12_prompts_9 ?_
  refine g_if_eq 23 dX12_prompts_12 (by decide) (fun c5 => ?_) (fun c5 => ?_)
  · replace hF := q_t c5 hF
    refine g_ldc2 dX12_prompts_23 wd_1922 ?_
    cases hF
    exact g_lret dX12_prompts_26 rfl ⟨rfl, rfl, rfl⟩ (Nat.le_of_ble_eq_true rfl) (Nat.le_of_ble_eq_true rfl)
  · replace hF := q_f c5 hF
    refine g_aload_n 0 dX12_prompts_15 rfl ?_
    refine g_iload_n 1 dX12_prompts_16 rfl ?_
    obtain ⟨u6, e7, hF⟩ := q_bind hF
    obtain ⟨x8, e9, hF⟩ := q_bind hF
    refine g_callVr0 (ci := 12) (q := (RX12, TX12, 49)) qm_X12_hand wd_1750 wd_1752 wd_99 rfl e7 (M_X12_hand l b D z nx e9) (As := [.int a1]) rfl rfl (Nat.le_of_ble_eq_true rfl) ⟨(Nat.le_of_ble_eq_true rfl), (Nat.le_of_ble_eq_true rfl)⟩ ⟨rfl, rfl⟩ ⟨(Nat.le_of_ble_eq_true rfl), (Nat.le_of_ble_eq_true rfl)⟩ dX12_prompts_17 ?_
    refine g_if_ne 27 dX12_prompts_20 (by decide) (fun c10 => ?_) (fun c10 => ?_)
    · replace hF := q_f c10 hF
      refine g_aload_n 0 dX12_prompts_27 rfl ?_
      refine g_aload_n 0 dX12_prompts_28 rfl ?_
      refine g_aload_n 0 dX12_prompts_29 rfl ?_
      obtain ⟨x11, e12, hF⟩ := q_bind hF
      refine g_getfR fl_X12_66 e12 dX12_prompts_30 ?_
      refine g_iload_n 2 dX12_prompts_33 rfl ?_
      obtain ⟨u13, e14, hF⟩ := q_bind hF
      obtain ⟨x15, e16, hF⟩ := q_bind hF
      refine g_callVr0 (ci := 12) (q := (RX12, TX12, 49)) qm_X12_layRow wd_1957 wd_1959 wd_133 rfl e14 (M_X12_layRow l b D z nx e16) (As := [.ref x11, .int a2]) rfl rfl (Nat.le_of_ble_eq_true rfl) ⟨(Nat.le_of_ble_eq_true rfl), (Nat.le_of_ble_eq_true rfl)⟩ ⟨rfl, rfl⟩ ⟨(Nat.le_of_ble_eq_true rfl), (Nat.le_of_ble_eq_true rfl)⟩ dX12_prompts_34 ?_
      obtain ⟨h17, e18, hF⟩ := q_bind hF
      refine g_putf fl_X12_412 e18 rfl rfl dX12_prompts_37 ?_
      refine g_lconst (v := 0) dX12_prompts_40 (by decide +kernel) ?_
      refine g_lstore [(4, .long (0 : Int64)), (0, .ref a0), (1, .int a1), (2, .int a2), (3, .int a3)] dX12_prompts_41 (Nat.le_of_ble_eq_true rfl) rfl ?_
      refine g_iconst dX12_prompts_43 lt_iconst_0 ?_
      refine g_istore [(6, .int (0 : Int32)), (4, .long (0 : Int64)), (0, .ref a0), (1, .int a1), (2, .int a2), (3, .int a3)] dX12_prompts_44 (Nat.le_of_ble_eq_true rfl) rfl ?_
      obtain ⟨e19, w20, hF⟩ := q_bind hF
      refine g_sub [2, 5, 1, 0] rfl ?_
      refine L_X12_prompts_46 l b D z q_N (0 : Int64) (0 : Int32) e19 w20 ?_
      · intro o21 w22
        replace w22 := w22.symm
        subst w22
        refine g_lload 1 dX12_prompts_81 rfl ?_
        refine g_ldc2 dX12_prompts_83 wd_1927 ?_
        refine g_iload_n 0 dX12_prompts_86 rfl ?_
        obtain ⟨x23, e24, hF⟩ := q_bind hF
        refine g_callSr0 qm_X12_part wd_1931 wd_1932 (M_X12_part l b D z nx e24) (As := [.long o21, .long (10 : Int64), .int a3]) rfl rfl (Nat.le_of_ble_eq_true rfl) ⟨(Nat.le_of_ble_eq_true rfl), (Nat.le_of_ble_eq_true rfl)⟩ ⟨rfl, rfl⟩ ⟨(Nat.le_of_ble_eq_true rfl), (Nat.le_of_ble_eq_true rfl)⟩ dX12_prompts_87 ?_
        cases hF
        exact g_lret dX12_prompts_90 rfl ⟨rfl, rfl, rfl⟩ (Nat.le_of_ble_eq_true rfl) (Nat.le_of_ble_eq_true rfl)
    · replace hF := q_t c10 hF
      refine g_ldc2 dX12_prompts_23 wd_1922 ?_
      cases hF
      exact g_lret dX12_prompts_26 rfl ⟨rfl, rfl, rfl⟩ (Nat.le_of_ble_eq_true rfl) (Nat.le_of_ble_eq_true rfl)
def rm_X12_parted : Room := { frames := 3, cells := 0, slots := 0, locals := 66 }
set_option maxRecDepth 100000 in
set_option maxHeartbeats 4000000 in
theorem B_X12_parted_55 (l : Launch) (b : Nat) (D : va_G) (z : Nat → Nat) {Φ : Option Value → qH → Nat → Prop} {nx : Nat} {h : qH} {a0 : Nat} {a3 : Int32} {o : Int32 ⊕ (Int32 ⊕ Unit)} (hF : b_X12_parted_55 h a0 a3 = some o) (hback : ∀ (b3 : Int32), o = .inl b3 → Go l b D z yX12_parted cX12_parted 4 (some .int) rm_X12_parted Φ 55 [(0, .ref a0), (3, .int b3)] [] h nx 0 0) (hx0 : ∀ (b3 : Int32), o = .inr (.inl b3) → Go l b D z yX12_parted cX12_parted 4 (some .int) rm_X12_parted Φ 101 [(3, .int b3)] [] h nx 0 0) (hx1 : o = .inr (.inr ()) → Go l b D z yX12_parted cX12_parted 4 (some .int) rm_X12_parted Φ 109 [] [] h nx 0 0) : Go l b D z yX12_parted cX12_parted 4 (some .int) rm_X12_parted Φ 55 [(0, .ref a0), (3, .int a3)] [] h nx 0 0 := by
  unfold b_X12_parted_55 at hF
  refine g_iload_n 1 dX12_parted_55 rfl ?_
  refine g_aload_n 0 dX12_parted_56 rfl ?_
  obtain ⟨x1, e2, hF⟩ := q_bind hF
  refine g_getfI fl_X12_412 e2 dX12_parted_57 ?_
  refine g_aload_n 0 dX12_parted_60 rfl ?_
  obtain ⟨x3, e4, hF⟩ := q_bind hF
  refine g_getfI fl_X12_415 e4 dX12_parted_61 ?_
  obtain ⟨x5, e6, hF⟩ := q_bind hF
  refine g_callSr0 qm_X12_greater wd_1692 wd_1693 (M_X12_greater l b D z nx e6) (As := [.int x1, .int x3]) rfl rfl (Nat.le_of_ble_eq_true rfl) ⟨(Nat.le_of_ble_eq_true rfl), (Nat.le_of_ble_eq_true rfl)⟩ ⟨rfl, rfl⟩ ⟨(Nat.le_of_ble_eq_true rfl), (Nat.le_of_ble_eq_true rfl)⟩ dX12_parted_64 ?_
  refine g_icmp_ge 109 dX12_parted_67 (by decide) (fun c7 => ?_) (fun c7 => ?_)
  · replace hF := q_t c7 hF
    cases hF
    refine g_sub [] rfl ?_
    exact hx1  rfl
  · replace hF := q_f c7 hF
    refine g_iload_n 1 dX12_parted_70 rfl ?_
    refine g_aload_n 0 dX12_parted_71 rfl ?_
    obtain ⟨x8, e9, hF⟩ := q_bind hF
    refine g_getfI fl_X12_412 e9 dX12_parted_72 ?_
    refine g_icmp_ge 101 dX12_parted_75 (by decide) (fun c10 => ?_) (fun c10 => ?_)
    · replace hF := q_t c10 hF
      cases hF
      refine g_sub [1] rfl ?_
      exact hx0 _ rfl
    · replace hF := q_f c10 hF
      refine g_iload_n 1 dX12_parted_78 rfl ?_
      refine g_aload_n 0 dX12_parted_79 rfl ?_
      obtain ⟨x11, e12, hF⟩ := q_bind hF
      refine g_getfI fl_X12_415 e12 dX12_parted_80 ?_
      refine g_icmp_ge 101 dX12_parted_83 (by decide) (fun c13 => ?_) (fun c13 => ?_)
      · replace hF := q_t c13 hF
        cases hF
        refine g_sub [1] rfl ?_
        exact hx0 _ rfl
      · replace hF := q_f c13 hF
        refine g_aload_n 0 dX12_parted_86 rfl ?_
        obtain ⟨x14, e15, hF⟩ := q_bind hF
        refine g_getfR fl_X12_66 e15 dX12_parted_87 ?_
        refine g_iload_n 1 dX12_parted_90 rfl ?_
        obtain ⟨x16, e17, hF⟩ := q_bind hF
        refine g_iald e17 dX12_parted_91 ?_
        refine g_aload_n 0 dX12_parted_92 rfl ?_
        obtain ⟨x18, e19, hF⟩ := q_bind hF
        refine g_getfR fl_X12_69 e19 dX12_parted_93 ?_
        refine g_iload_n 1 dX12_parted_96 rfl ?_
        obtain ⟨x20, e21, hF⟩ := q_bind hF
        refine g_iald e21 dX12_parted_97 ?_
        refine g_icmp_eq 103 dX12_parted_98 (by decide) (fun c22 => ?_) (fun c22 => ?_)
        · replace hF := q_t c22 hF
          refine g_iinc [(3, .int (a3 + 1)), (0, .ref a0)] 1 dX12_parted_103 rfl (congrArg (a3 + ·) lt_iconst_1) (Nat.le_of_ble_eq_true rfl) rfl ?_
          refine g_goto 55 dX12_parted_106 (by decide) ?_
          cases hF
          refine g_sub [1, 0] rfl ?_
          exact hback _ rfl
        · replace hF := q_f c22 hF
          cases hF
          refine g_sub [1] rfl ?_
          exact hx0 _ rfl
set_option maxRecDepth 100000 in
set_option maxHeartbeats 4000000 in
theorem L_X12_parted_55 (l : Launch) (b : Nat) (D : va_G) (z : Nat → Nat) {Φ : Option Value → qH → Nat → Prop} {nx : Nat} {h : qH} {a0 : Nat} : ∀ (n : Nat) (a3 : Int32) (e : Int32 ⊕ Unit), q_lp (s_X12_parted_55 h a0) n a3 = some e → (∀ (b3 : Int32), e = (.inl b3) → Go l b D z yX12_parted cX12_parted 4 (some .int) rm_X12_parted Φ 101 [(3, .int b3)] [] h nx 0 0) → (e = (.inr ()) → Go l b D z yX12_parted cX12_parted 4 (some .int) rm_X12_parted Φ 109 [] [] h nx 0 0) → Go l b D z yX12_parted cX12_parted 4 (some .int) rm_X12_parted Φ 55 [(0, .ref a0), (3, .int a3)] [] h nx 0 0 := by
  intro n
  induction n with
  | zero => intro a3 e he; cases (show none = some e from he)
  | succ n ih =>
    intro a3 e he hx0 hx1
    obtain ⟨o, ho, h1, h2⟩ := q_lp_succ he
    exact B_X12_parted_55 l b D z (show b_X12_parted_55 h a0 a3 = some o from ho) (fun b3 hb => ih _ e (h1 _ hb) hx0 hx1) (fun p0 hr => hx0 p0 (h2 _ hr).symm) (fun  hr => hx1  (h2 _ hr).symm)
set_option maxRecDepth 100000 in
set_option maxHeartbeats 4000000 in
theorem M_X12_parted (l : Launch) (b : Nat) (D : va_G) (z : Nat → Nat) (nx : Nat) {h : qH} {a0 : Nat} {a1 : Int32} {a2 : Int32} {r : Int32 × qH} (hF : F_X12_parted h a0 a1 a2 = some r) : Me l b D z yX12_parted cX12_parted 4 (some .int) rm_X12_parted [.ref a0, .int a1, .int a2] h nx (qE (some (.int r.1)) r.2 nx) := by
  refine Me.of (by decide +kernel) (Nat.le_of_ble_eq_true rfl) ?_
  show Go l b D z yX12_parted cX12_parted 4 (some .int) rm_X12_parted (qE (some (.int r.1)) r.2 nx) 0 [(0, .ref a0), (1, .int a1), (2, .int a2)] [] h nx 0 0
  unfold F_X12_parted at hF
  refine g_aload_n 0 dX12_parted_0 rfl ?_
  refine g_iconst dX12_parted_1 lt_iconst_0 ?_
  obtain ⟨h1, e2, hF⟩ := q_bind hF
  refine g_putf fl_X12_91 e2 rfl rfl dX12_parted_2 ?_
  refine g_aload_n 0 dX12_parted_5 rfl ?_
  refine g_iload_n 1 dX12_parted_6 rfl ?_
  obtain ⟨u3, e4, hF⟩ := q_bind hF
  obtain ⟨x5, e6, hF⟩ := q_bind hF
  refine g_callVr0 (ci := 12) (q := (RX12, TX12, 49)) qm_X12_hand wd_1750 wd_1752 wd_99 rfl e4 (M_X12_hand l b D z nx e6) (As := [.int a1]) rfl rfl (Nat.le_of_ble_eq_true rfl) ⟨(Nat.le_of_ble_eq_true rfl), (Nat.le_of_ble_eq_true rfl)⟩ ⟨rfl, rfl⟩ ⟨(Nat.le_of_ble_eq_true rfl), (Nat.le_of_ble_eq_true rfl)⟩ dX12_parted_7 ?_
  refine g_if_ne 15 dX12_parted_10 (by decide) (fun c7 => ?_) (fun c7 => ?_)
  · replace hF := q_f c7 hF
    refine g_aload_n 0 dX12_parted_15 rfl ?_
    refine g_aload_n 0 dX12_parted_16 rfl ?_
    refine g_aload_n 0 dX12_parted_17 rfl ?_
    obtain ⟨x8, e9, hF⟩ := q_bind hF
    refine g_getfR fl_X12_66 e9 dX12_parted_18 ?_
    refine g_bipush dX12_parted_21 lt_bipush_20 ?_
    obtain ⟨u10, e11, hF⟩ := q_bind hF
    obtain ⟨x12, e13, hF⟩ := q_bind hF
    refine g_callVr0 (ci := 12) (q := (RX12, TX12, 49)) qm_X12_layRow wd_1957 wd_1959 wd_133 rfl e11 (M_X12_layRow l b D z nx e13) (As := [.ref x8, .int (20 : Int32)]) rfl rfl (Nat.le_of_ble_eq_true rfl) ⟨(Nat.le_of_ble_eq_true rfl), (Nat.le_of_ble_eq_true rfl)⟩ ⟨rfl, rfl⟩ ⟨(Nat.le_of_ble_eq_true rfl), (Nat.le_of_ble_eq_true rfl)⟩ dX12_parted_23 ?_
    obtain ⟨h14, e15, hF⟩ := q_bind hF
    refine g_putf fl_X12_412 e15 rfl rfl dX12_parted_26 ?_
    refine g_aload_n 0 dX12_parted_29 rfl ?_
    refine g_iload_n 2 dX12_parted_30 rfl ?_
    obtain ⟨u16, e17, hF⟩ := q_bind hF
    obtain ⟨x18, e19, hF⟩ := q_bind hF
    refine g_callVr0 (ci := 12) (q := (RX12, TX12, 49)) qm_X12_hand wd_1750 wd_1752 wd_99 rfl e17 (M_X12_hand l b D z nx e19) (As := [.int a2]) rfl rfl (Nat.le_of_ble_eq_true rfl) ⟨(Nat.le_of_ble_eq_true rfl), (Nat.le_of_ble_eq_true rfl)⟩ ⟨rfl, rfl⟩ ⟨(Nat.le_of_ble_eq_true rfl), (Nat.le_of_ble_eq_true rfl)⟩ dX12_parted_31 ?_
    refine g_if_ne 39 dX12_parted_34 (by decide) (fun c20 => ?_) (fun c20 => ?_)
    · replace hF := q_f c20 hF
      refine g_aload_n 0 dX12_parted_39 rfl ?_
      refine g_aload_n 0 dX12_parted_40 rfl ?_
      refine g_aload_n 0 dX12_parted_41 rfl ?_
      obtain ⟨x21, e22, hF⟩ := q_bind hF
      refine g_getfR fl_X12_69 e22 dX12_parted_42 ?_
      refine g_bipush dX12_parted_45 lt_bipush_20 ?_
      obtain ⟨u23, e24, hF⟩ := q_bind hF
      obtain ⟨x25, e26, hF⟩ := q_bind hF
      refine g_callVr0 (ci := 12) (q := (RX12, TX12, 49)) qm_X12_layRow wd_1957 wd_1959 wd_133 rfl e24 (M_X12_layRow l b D z nx e26) (As := [.ref x21, .int (20 : Int32)]) rfl rfl (Nat.le_of_ble_eq_true rfl) ⟨(Nat.le_of_ble_eq_true rfl), (Nat.le_of_ble_eq_true rfl)⟩ ⟨rfl, rfl⟩ ⟨(Nat.le_of_ble_eq_true rfl), (Nat.le_of_ble_eq_true rfl)⟩ dX12_parted_47 ?_
      obtain ⟨h27, e28, hF⟩ := q_bind hF
      refine g_putf fl_X12_415 e28 rfl rfl dX12_parted_50 ?_
      refine g_iconst dX12_parted_53 lt_iconst_0 ?_
      refine g_istore_n [(3, .int (0 : Int32)), (0, .ref a0), (1, .int a1), (2, .int a2)] dX12_parted_54 (Nat.le_of_ble_eq_true rfl) rfl ?_
      obtain ⟨e29, w30, hF⟩ := q_bind hF
      refine g_sub [1, 0] rfl ?_
      refine L_X12_parted_55 l b D z q_N (0 : Int32) e29 w30 ?_ ?_
      · intro o31 w32
        replace w32 := w32.symm
        subst w32
        replace hF := q_sl hF
        refine g_iload_n 0 dX12_parted_101 rfl ?_
        cases hF
        exact g_iret dX12_parted_102 rfl ⟨rfl, rfl, rfl⟩ (Nat.le_of_ble_eq_true rfl) (Nat.le_of_ble_eq_true rfl)
      · intro  w34
        replace w34 := w34.symm
        subst w34
        replace hF := q_sr hF
        refine g_iconst dX12_parted_109 lt_iconst_m1 ?_
        cases hF
        exact g_iret dX12_parted_110 rfl ⟨rfl, rfl, rfl⟩ (Nat.le_of_ble_eq_true rfl) (Nat.le_of_ble_eq_true rfl)
    · replace hF := q_t c20 hF
      refine g_iconst dX12_parted_37 lt_iconst_m1 ?_
      cases hF
      exact g_iret dX12_parted_38 rfl ⟨rfl, rfl, rfl⟩ (Nat.le_of_ble_eq_true rfl) (Nat.le_of_ble_eq_true rfl)
  · replace hF := q_t c7 hF
    refine g_iconst dX12_parted_13 lt_iconst_m1 ?_
    cases hF
    exact g_iret dX12_parted_14 rfl ⟨rfl, rfl, rfl⟩ (Nat.le_of_ble_eq_true rfl) (Nat.le_of_ble_eq_true rfl)
def rm_X12_loudest : Room := { frames := 0, cells := 0, slots := 0, locals := 0 }
set_option maxRecDepth 100000 in
set_option maxHeartbeats 4000000 in
theorem J_X12_loudest_37 (l : Launch) (b : Nat) (D : va_G) (z : Nat → Nat) {Φ : Option Value → qH → Nat → Prop} {nx : Nat} {h : qH} {a0 : Nat} {a1 : Int32} {a2 : Int32} {t0 : Int32} {t1 : Int32} {o : (Int32 × Int32) ⊕ Int32} (hF : j_X12_loudest_37 h a0 a1 a2 t0 t1 = some o) (hback : ∀ (b1 : Int32) (b2 : Int32), o = .inl (b1, b2) → Go l b D z yX12_loudest cX12_loudest 3 (some .int) rm_X12_loudest Φ 4 [(0, .ref a0), (1, .int b1), (2, .int b2)] [] h nx 0 0) (hx0 : ∀ (b1 : Int32), o = .inr b1 → Go l b D z yX12_loudest cX12_loudest 3 (some .int) rm_X12_loudest Φ 52 [(1, .int b1)] [] h nx 0 0) : Go l b D z yX12_loudest cX12_loudest 3 (some .int) rm_X12_loudest Φ 37 [(0, .ref a0), (1, .int a1), (2, .int a2)] [.int t0, .int t1] h nx 0 0 := by
  unfold j_X12_loudest_37 at hF
  refine g_icmp_le 44 dX12_loudest_37 (by decide) (fun c1 => ?_) (fun c1 => ?_)
  · replace hF := q_t c1 hF
    refine g_iload_n 1 dX12_loudest_44 rfl ?_
    refine g_istore_n [(1, .int a1), (0, .ref a0), (2, .int a2)] dX12_loudest_45 (Nat.le_of_ble_eq_true rfl) rfl ?_
    refine g_iinc [(2, .int (a2 + 1)), (1, .int a1), (0, .ref a0)] 2 dX12_loudest_46 rfl (congrArg (a2 + ·) lt_iconst_1) (Nat.le_of_ble_eq_true rfl) rfl ?_
    refine g_goto 4 dX12_loudest_49 (by decide) ?_
    cases hF
    refine g_sub [2, 1, 0] rfl ?_
    exact hback _ _ rfl
  · replace hF := q_f c1 hF
    refine g_iload_n 2 dX12_loudest_40 rfl ?_
    refine g_goto 45 dX12_loudest_41 (by decide) ?_
    refine g_istore_n [(1, .int a2), (0, .ref a0), (2, .int a2)] dX12_loudest_45 (Nat.le_of_ble_eq_true rfl) rfl ?_
    refine g_iinc [(2, .int (a2 + 1)), (1, .int a2), (0, .ref a0)] 2 dX12_loudest_46 rfl (congrArg (a2 + ·) lt_iconst_1) (Nat.le_of_ble_eq_true rfl) rfl ?_
    refine g_goto 4 dX12_loudest_49 (by decide) ?_
    cases hF
    refine g_sub [2, 1, 0] rfl ?_
    exact hback _ _ rfl
set_option maxRecDepth 100000 in
set_option maxHeartbeats 4000000 in
theorem B_X12_loudest_4 (l : Launch) (b : Nat) (D : va_G) (z : Nat → Nat) {Φ : Option Value → qH → Nat → Prop} {nx : Nat} {h : qH} {a0 : Nat} {a1 : Int32} {a2 : Int32} {o : (Int32 × Int32) ⊕ Int32} (hF : b_X12_loudest_4 h a0 a1 a2 = some o) (hback : ∀ (b1 : Int32) (b2 : Int32), o = .inl (b1, b2) → Go l b D z yX12_loudest cX12_loudest 3 (some .int) rm_X12_loudest Φ 4 [(0, .ref a0), (1, .int b1), (2, .int b2)] [] h nx 0 0) (hx0 : ∀ (b1 : Int32), o = .inr b1 → Go l b D z yX12_loudest cX12_loudest 3 (some .int) rm_X12_loudest Φ 52 [(1, .int b1)] [] h nx 0 0) : Go l b D z yX12_loudest cX12_loudest 3 (some .int) rm_X12_loudest Φ 4 [(0, .ref a0), (1, .int a1), (2, .int a2)] [] h nx 0 0 := by
  unfold b_X12_loudest_4 at hF
  refine g_iload_n 2 dX12_loudest_4 rfl ?_
  refine g_bipush dX12_loudest_5 lt_bipush_6 ?_
  refine g_icmp_ge 52 dX12_loudest_7 (by decide) (fun c1 => ?_) (fun c1 => ?_)
  · replace hF := q_t c1 hF
    cases hF
    refine g_sub [1] rfl ?_
    exact hx0 _ rfl
  · replace hF := q_f c1 hF
    refine g_aload_n 0 dX12_loudest_10 rfl ?_
    obtain ⟨x2, e3, hF⟩ := q_bind hF
    refine g_getfR fl_X12_50 e3 dX12_loudest_11 ?_
    refine g_bipush dX12_loudest_14 lt_bipush_10 ?_
    refine g_iload_n 2 dX12_loudest_16 rfl ?_
    refine g_iadd dX12_loudest_17 ?_
    obtain ⟨x4, e5, hF⟩ := q_bind hF
    refine g_iald e5 dX12_loudest_18 ?_
    refine g_iload_n 1 dX12_loudest_19 rfl ?_
    refine g_iconst dX12_loudest_20 lt_iconst_m1 ?_
    refine g_icmp_ne 28 dX12_loudest_21 (by decide) (fun c6 => ?_) (fun c6 => ?_)
    · replace hF := q_f c6 hF
      refine g_aload_n 0 dX12_loudest_28 rfl ?_
      obtain ⟨x7, e8, hF⟩ := q_bind hF
      refine g_getfR fl_X12_50 e8 dX12_loudest_29 ?_
      refine g_bipush dX12_loudest_32 lt_bipush_10 ?_
      refine g_iload_n 1 dX12_loudest_34 rfl ?_
      refine g_iadd dX12_loudest_35 ?_
      obtain ⟨x9, e10, hF⟩ := q_bind hF
      refine g_iald e10 dX12_loudest_36 ?_
      exact J_X12_loudest_37 l b D z hF hback hx0
    · replace hF := q_t c6 hF
      refine g_iconst dX12_loudest_24 lt_iconst_0 ?_
      refine g_goto 37 dX12_loudest_25 (by decide) ?_
      exact J_X12_loudest_37 l b D z hF hback hx0
set_option maxRecDepth 100000 in
set_option maxHeartbeats 4000000 in
theorem L_X12_loudest_4 (l : Launch) (b : Nat) (D : va_G) (z : Nat → Nat) {Φ : Option Value → qH → Nat → Prop} {nx : Nat} {h : qH} {a0 : Nat} : ∀ (n : Nat) (a1 : Int32) (a2 : Int32) (e : Int32), q_lp (s_X12_loudest_4 h a0) n (a1, a2) = some e → (∀ (b1 : Int32), e = b1 → Go l b D z yX12_loudest cX12_loudest 3 (some .int) rm_X12_loudest Φ 52 [(1, .int b1)] [] h nx 0 0) → Go l b D z yX12_loudest cX12_loudest 3 (some .int) rm_X12_loudest Φ 4 [(0, .ref a0), (1, .int a1), (2, .int a2)] [] h nx 0 0 := by
  intro n
  induction n with
  | zero => intro a1 a2 e he; cases (show none = some e from he)
  | succ n ih =>
    intro a1 a2 e he hx0
    obtain ⟨o, ho, h1, h2⟩ := q_lp_succ he
    exact B_X12_loudest_4 l b D z (show b_X12_loudest_4 h a0 a1 a2 = some o from ho) (fun b1 b2 hb => ih _ _ e (h1 _ hb) hx0) (fun p0 hr => hx0 p0 (h2 _ hr).symm)
set_option maxRecDepth 100000 in
set_option maxHeartbeats 4000000 in
theorem M_X12_loudest (l : Launch) (b : Nat) (D : va_G) (z : Nat → Nat) (nx : Nat) {h : qH} {a0 : Nat} {r : Int32} (hF : F_X12_loudest h a0 = some r) : Me l b D z yX12_loudest cX12_loudest 3 (some .int) rm_X12_loudest [.ref a0] h nx (qE (some (.int r)) h nx) := by
  refine Me.of (by decide +kernel) (Nat.le_of_ble_eq_true rfl) ?_
  show Go l b D z yX12_loudest cX12_loudest 3 (some .int) rm_X12_loudest (qE (some (.int r)) h nx) 0 [(0, .ref a0)] [] h nx 0 0
  unfold F_X12_loudest at hF
  refine g_iconst dX12_loudest_0 lt_iconst_m1 ?_
  refine g_istore_n [(1, .int (-1 : Int32)), (0, .ref a0)] dX12_loudest_1 (Nat.le_of_ble_eq_true rfl) rfl ?_
  refine g_iconst dX12_loudest_2 lt_iconst_0 ?_
  refine g_istore_n [(2, .int (0 : Int32)), (1, .int (-1 : Int32)), (0, .ref a0)] dX12_loudest_3 (Nat.le_of_ble_eq_true rfl) rfl ?_
  obtain ⟨e1, w2, hF⟩ := q_bind hF
  refine g_sub [2, 1, 0] rfl ?_
  refine L_X12_loudest_4 l b D z q_N (-1 : Int32) (0 : Int32) e1 w2 ?_
  · intro o3 w4
    replace w4 := w4.symm
    subst w4
    refine g_iload_n 0 dX12_loudest_52 rfl ?_
    cases hF
    exact g_iret dX12_loudest_53 rfl ⟨rfl, rfl, rfl⟩ (Nat.le_of_ble_eq_true rfl) (Nat.le_of_ble_eq_true rfl)
def rm_X12_after : Room := { frames := 6, cells := 0, slots := 0, locals := 128 }
set_option maxRecDepth 100000 in
set_option maxHeartbeats 4000000 in
theorem B_X12_after_39 (l : Launch) (b : Nat) (D : va_G) (z : Nat → Nat) {Φ : Option Value → qH → Nat → Prop} {nx : Nat} {a0 : Nat} {a3 : Int32} {a4 : Int32} {a5 : Int32} {a6 : Int32} {h : qH} {o : (Int32 × Int32 × Int32 × qH) ⊕ ((Int32 × Int32 × qH))} (hF : b_X12_after_39 a0 a3 a4 a5 a6 h = some o) (hback : ∀ (b4 : Int32) (b5 : Int32) (b6 : Int32) (bh : qH), o = .inl (b4, b5, b6, bh) → Go l b D z yX12_after cX12_after 7 (some .int) rm_X12_after Φ 39 [(0, .ref a0), (3, .int a3), (4, .int b4), (5, .int b5), (6, .int b6)] [] bh nx 0 0) (hx0 : ∀ (b4 : Int32) (b5 : Int32) (bh : qH), o = .inr (b4, b5, bh) → Go l b D z yX12_after cX12_after 7 (some .int) rm_X12_after Φ 113 [(0, .ref a0), (3, .int a3), (4, .int b4), (5, .int b5)] [] bh nx 0 0) : Go l b D z yX12_after cX12_after 7 (some .int) rm_X12_after Φ 39 [(0, .ref a0), (3, .int a3), (4, .int a4), (5, .int a5), (6, .int a6)] [] h nx 0 0 := by
  unfold b_X12_after_39 at hF
  refine g_iload 4 dX12_after_39 rfl ?_
  refine g_aload_n 0 dX12_after_41 rfl ?_
  obtain ⟨u1, e2, hF⟩ := q_bind hF
  obtain ⟨x3, e4, hF⟩ := q_bind hF
  refine g_callVr0 (ci := 12) (q := (RX12, TX12, 49)) qm_X12_deeds wd_1789 wd_1791 wd_106 rfl e2 (M_X12_deeds l b D z nx e4) (As := []) rfl rfl (Nat.le_of_ble_eq_true rfl) ⟨(Nat.le_of_ble_eq_true rfl), (Nat.le_of_ble_eq_true rfl)⟩ ⟨rfl, rfl⟩ ⟨(Nat.le_of_ble_eq_true rfl), (Nat.le_of_ble_eq_true rfl)⟩ dX12_after_42 ?_
  refine g_icmp_ge 113 dX12_after_45 (by decide) (fun c5 => ?_) (fun c5 => ?_)
  · replace hF := q_t c5 hF
    cases hF
    refine g_sub [0, 1, 2, 3] rfl ?_
    exact hx0 _ _ _ rfl
  · replace hF := q_f c5 hF
    refine g_aload_n 0 dX12_after_48 rfl ?_
    refine g_aload_n 0 dX12_after_49 rfl ?_
    refine g_iload 4 dX12_after_50 rfl ?_
    refine g_iconst dX12_after_52 lt_iconst_0 ?_
    obtain ⟨u6, e7, hF⟩ := q_bind hF
    obtain ⟨x8, e9, hF⟩ := q_bind hF
    refine g_callVr0 (ci := 12) (q := (RX12, TX12, 49)) qm_X12_deedOf wd_1793 wd_1795 wd_107 rfl e7 (M_X12_deedOf l b D z nx e9) (As := [.int a6, .int (0 : Int32)]) rfl rfl (Nat.le_of_ble_eq_true rfl) ⟨(Nat.le_of_ble_eq_true rfl), (Nat.le_of_ble_eq_true rfl)⟩ ⟨rfl, rfl⟩ ⟨(Nat.le_of_ble_eq_true rfl), (Nat.le_of_ble_eq_true rfl)⟩ dX12_after_53 ?_
    refine g_aload_n 0 dX12_after_56 rfl ?_
    refine g_iload 4 dX12_after_57 rfl ?_
    refine g_iconst dX12_after_59 lt_iconst_1 ?_
    obtain ⟨u10, e11, hF⟩ := q_bind hF
    obtain ⟨x12, e13, hF⟩ := q_bind hF
    refine g_callVr0 (ci := 12) (q := (RX12, TX12, 49)) qm_X12_deedOf wd_1793 wd_1795 wd_107 rfl e11 (M_X12_deedOf l b D z nx e13) (As := [.int a6, .int (1 : Int32)]) rfl rfl (Nat.le_of_ble_eq_true rfl) ⟨(Nat.le_of_ble_eq_true rfl), (Nat.le_of_ble_eq_true rfl)⟩ ⟨rfl, rfl⟩ ⟨(Nat.le_of_ble_eq_true rfl), (Nat.le_of_ble_eq_true rfl)⟩ dX12_after_60 ?_
    obtain ⟨u14, e15, hF⟩ := q_bind hF
    obtain ⟨x16, e17, hF⟩ := q_bind hF
    refine g_callVr0 (ci := 12) (q := (RX12, TX12, 49)) qm_X12_does wd_1813 wd_1815 wd_111 rfl e15 (M_X12_does l b D z nx e17) (As := [.int x8, .int x12]) rfl rfl (Nat.le_of_ble_eq_true rfl) ⟨(Nat.le_of_ble_eq_true rfl), (Nat.le_of_ble_eq_true rfl)⟩ ⟨rfl, rfl⟩ ⟨(Nat.le_of_ble_eq_true rfl), (Nat.le_of_ble_eq_true rfl)⟩ dX12_after_63 ?_
    refine g_if_eq 113 dX12_after_66 (by decide) (fun c18 => ?_) (fun c18 => ?_)
    · replace hF := q_t c18 hF
      cases hF
      refine g_sub [0, 1, 2, 3] rfl ?_
      exact hx0 _ _ _ rfl
    · replace hF := q_f c18 hF
      refine g_iinc [(6, .int (a6 + 1)), (0, .ref a0), (3, .int a3), (4, .int a4), (5, .int a5)] 4 dX12_after_69 rfl (congrArg (a6 + ·) lt_iconst_1) (Nat.le_of_ble_eq_true rfl) rfl ?_
      refine g_iload 3 dX12_after_72 rfl ?_
      refine g_aload_n 1 dX12_after_74 rfl ?_
      obtain ⟨x19, e20, hF⟩ := q_bind hF
      refine g_getfR fl_X12_50 e20 dX12_after_75 ?_
      refine g_iconst dX12_after_78 lt_iconst_3 ?_
      obtain ⟨x21, e22, hF⟩ := q_bind hF
      refine g_iald e22 dX12_after_79 ?_
      obtain ⟨x23, e24, hF⟩ := q_bind hF
      refine g_callSr0 qm_X12_greater wd_1692 wd_1693 (M_X12_greater l b D z nx e24) (As := [.int a4, .int x21]) rfl rfl (Nat.le_of_ble_eq_true rfl) ⟨(Nat.le_of_ble_eq_true rfl), (Nat.le_of_ble_eq_true rfl)⟩ ⟨rfl, rfl⟩ ⟨(Nat.le_of_ble_eq_true rfl), (Nat.le_of_ble_eq_true rfl)⟩ dX12_after_80 ?_
      refine g_istore [(4, .int x23), (6, .int (a6 + 1)), (0, .ref a0), (3, .int a3), (5, .int a5)] dX12_after_83 (Nat.le_of_ble_eq_true rfl) rfl ?_
      refine g_iload 4 dX12_after_85 rfl ?_
      refine g_iconst dX12_after_87 lt_iconst_m1 ?_
      refine g_icmp_ne 106 dX12_after_88 (by decide) (fun c25 => ?_) (fun c25 => ?_)
      · replace hF := q_f c25 hF
        refine g_iload 4 dX12_after_106 rfl ?_
        refine g_istore [(5, .int a5), (4, .int x23), (6, .int (a6 + 1)), (0, .ref a0), (3, .int a3)] dX12_after_108 (Nat.le_of_ble_eq_true rfl) rfl ?_
        refine g_goto 39 dX12_after_110 (by decide) ?_
        cases hF
        refine g_sub [3, 4, 1, 0, 2] rfl ?_
        exact hback _ _ _ _ rfl
      · replace hF := q_t c25 hF
        refine g_aload_n 2 dX12_after_91 rfl ?_
        obtain ⟨x26, e27, hF⟩ := q_bind hF
        refine g_getfR fl_X12_50 e27 dX12_after_92 ?_
        refine g_bipush dX12_after_95 lt_bipush_6 ?_
        obtain ⟨x28, e29, hF⟩ := q_bind hF
        refine g_iald e29 dX12_after_97 ?_
        refine g_if_le 106 dX12_after_98 (by decide) (fun c30 => ?_) (fun c30 => ?_)
        · replace hF := q_t c30 hF
          refine g_iload 4 dX12_after_106 rfl ?_
          refine g_istore [(5, .int a5), (4, .int x23), (6, .int (a6 + 1)), (0, .ref a0), (3, .int a3)] dX12_after_108 (Nat.le_of_ble_eq_true rfl) rfl ?_
          refine g_goto 39 dX12_after_110 (by decide) ?_
          cases hF
          refine g_sub [3, 4, 1, 0, 2] rfl ?_
          exact hback _ _ _ _ rfl
        · replace hF := q_f c30 hF
          refine g_iload 1 dX12_after_101 rfl ?_
          refine g_goto 108 dX12_after_103 (by decide) ?_
          refine g_istore [(5, .int (a6 + 1)), (4, .int x23), (6, .int (a6 + 1)), (0, .ref a0), (3, .int a3)] dX12_after_108 (Nat.le_of_ble_eq_true rfl) rfl ?_
          refine g_goto 39 dX12_after_110 (by decide) ?_
          cases hF
          refine g_sub [3, 4, 1, 0, 2] rfl ?_
          exact hback _ _ _ _ rfl
set_option maxRecDepth 100000 in
set_option maxHeartbeats 4000000 in
theorem L_X12_after_39 (l : Launch) (b : Nat) (D : va_G) (z : Nat → Nat) {Φ : Option Value → qH → Nat → Prop} {nx : Nat} {a0 : Nat} {a3 : Int32} : ∀ (n : Nat) (a4 : Int32) (a5 : Int32) (a6 : Int32) (h : qH) (e : (Int32 × Int32 × qH)), q_lp (s_X12_after_39 a0 a3) n (a4, a5, a6, h) = some e → (∀ (b4 : Int32) (b5 : Int32) (bh : qH), e = (b4, b5, bh) → Go l b D z yX12_after cX12_after 7 (some .int) rm_X12_after Φ 113 [(0, .ref a0), (3, .int a3), (4, .int b4), (5, .int b5)] [] bh nx 0 0) → Go l b D z yX12_after cX12_after 7 (some .int) rm_X12_after Φ 39 [(0, .ref a0), (3, .int a3), (4, .int a4), (5, .int a5), (6, .int a6)] [] h nx 0 0 := by
  intro n
  induction n with
  | zero => intro a4 a5 a6 h e he; cases (show none = some e from he)
  | succ n ih =>
    intro a4 a5 a6 h e he hx0
    obtain ⟨o, ho, h1, h2⟩ := q_lp_succ he
    exact B_X12_after_39 l b D z (show b_X12_after_39 a0 a3 a4 a5 a6 h = some o from ho) (fun b4 b5 b6 bh hb => ih _ _ _ _ e (h1 _ hb) hx0) (fun p0 p1 p2 hr => hx0 p0 p1 p2 (h2 _ hr).symm)
set_option maxRecDepth 100000 in
set_option maxHeartbeats 4000000 in
theorem J_X12_after_113 (l : Launch) (b : Nat) (D : va_G) (z : Nat → Nat) {nx : Nat} {h : qH} {a0 : Nat} {a3 : Int32} {a4 : Int32} {a5 : Int32} {r : Int32 × qH} (hF : j_X12_after_113 h a0 a3 a4 a5  = some r) : Go l b D z yX12_after cX12_after 7 (some .int) rm_X12_after (qE (some (.int r.1)) r.2 nx) 113 [(0, .ref a0), (3, .int a3), (4, .int a4), (5, .int a5)] [] h nx 0 0 := by
  unfold j_X12_after_113 at hF
  refine g_iload_n 1 dX12_after_113 rfl ?_
  refine g_if_ne 122 dX12_after_114 (by decide) (fun c1 => ?_) (fun c1 => ?_)
  · replace hF := q_f c1 hF
    refine g_iload_n 1 dX12_after_122 rfl ?_
    refine g_iconst dX12_after_123 lt_iconst_1 ?_
    refine g_icmp_ne 134 dX12_after_124 (by decide) (fun c2 => ?_) (fun c2 => ?_)
    · replace hF := q_f c2 hF
      refine g_iload 3 dX12_after_134 rfl ?_
      cases hF
      exact g_iret dX12_after_136 rfl ⟨rfl, rfl, rfl⟩ (Nat.le_of_ble_eq_true rfl) (Nat.le_of_ble_eq_true rfl)
    · replace hF := q_t c2 hF
      refine g_aload_n 0 dX12_after_127 rfl ?_
      obtain ⟨u3, e4, hF⟩ := q_bind hF
      obtain ⟨x5, e6, hF⟩ := q_bind hF
      refine g_callVr0 (ci := 12) (q := (RX12, TX12, 49)) qm_X12_loudest wd_2129 wd_2131 wd_161 rfl e4 (M_X12_loudest l b D z nx e6) (As := []) rfl rfl (Nat.le_of_ble_eq_true rfl) ⟨(Nat.le_of_ble_eq_true rfl), (Nat.le_of_ble_eq_true rfl)⟩ ⟨rfl, rfl⟩ ⟨(Nat.le_of_ble_eq_true rfl), (Nat.le_of_ble_eq_true rfl)⟩ dX12_after_128 ?_
      refine g_goto 136 dX12_after_131 (by decide) ?_
      cases hF
      exact g_iret dX12_after_136 rfl ⟨rfl, rfl, rfl⟩ (Nat.le_of_ble_eq_true rfl) (Nat.le_of_ble_eq_true rfl)
  · replace hF := q_t c1 hF
    refine g_iload 2 dX12_after_117 rfl ?_
    refine g_goto 136 dX12_after_119 (by decide) ?_
    cases hF
    exact g_iret dX12_after_136 rfl ⟨rfl, rfl, rfl⟩ (Nat.le_of_ble_eq_true rfl) (Nat.le_of_ble_eq_true rfl)
set_option maxRecDepth 100000 in
set_option maxHeartbeats 4000000 in
theorem M_X12_after (l : Launch) (b : Nat) (D : va_G) (z : Nat → Nat) (nx : Nat) {h : qH} {a0 : Nat} {a1 : Int32} {a2 : Int32} {a3 : Int32} {r : Int32 × qH} (hF : F_X12_after h a0 a1 a2 a3 = some r) : Me l b D z yX12_after cX12_after 7 (some .int) rm_X12_after [.ref a0, .int a1, .int a2, .int a3] h nx (qE (some (.int r.1)) r.2 nx) := by
  refine Me.of (by decide +kernel) (Nat.le_of_ble_eq_true rfl) ?_
  show Go l b D z yX12_after cX12_after 7 (some .int) rm_X12_after (qE (some (.int r.1)) r.2 nx) 0 [(0, .ref a0), (1, .int a1), (2, .int a2), (3, .int a3)] [] h nx 0 0
  unfold F_X12_after at hF
  refine g_aload_n 0 dX12_after_0 rfl ?_
  refine g_iconst dX12_after_1 lt_iconst_0 ?_
  obtain ⟨h1, e2, hF⟩ := q_bind hF
  refine g_putf fl_X12_91 e2 rfl rfl dX12_after_2 ?_
  refine g_aload_n 0 dX12_after_5 rfl ?_
  refine g_iload_n 1 dX12_after_6 rfl ?_
  refine g_iload_n 2 dX12_after_7 rfl ?_
  obtain ⟨u3, e4, hF⟩ := q_bind hF
  obtain ⟨x5, e6, hF⟩ := q_bind hF
  refine g_callVr0 (ci := 12) (q := (RX12, TX12, 49)) qm_X12_layAll wd_1801 wd_1803 wd_108 rfl e4 (M_X12_layAll l b D z nx e6) (As := [.int a1, .int a2]) rfl rfl (Nat.le_of_ble_eq_true rfl) ⟨(Nat.le_of_ble_eq_true rfl), (Nat.le_of_ble_eq_true rfl)⟩ ⟨rfl, rfl⟩ ⟨(Nat.le_of_ble_eq_true rfl), (Nat.le_of_ble_eq_true rfl)⟩ dX12_after_8 ?_
  refine g_if_eq 23 dX12_after_11 (by decide) (fun c7 => ?_) (fun c7 => ?_)
  · replace hF := q_t c7 hF
    refine g_bipush dX12_after_23 lt_bipush_m2 ?_
    cases hF
    exact g_iret dX12_after_25 rfl ⟨rfl, rfl, rfl⟩ (Nat.le_of_ble_eq_true rfl) (Nat.le_of_ble_eq_true rfl)
  · replace hF := q_f c7 hF
    refine g_iload_n 3 dX12_after_14 rfl ?_
    refine g_iconst dX12_after_15 lt_iconst_0 ?_
    refine g_iconst dX12_after_16 lt_iconst_2 ?_
    obtain ⟨x8, e9, hF⟩ := q_bind hF
    refine g_callSr0 qm_X12_in wd_1623 wd_1624 (M_X12_in l b D z nx e9) (As := [.int a3, .int (0 : Int32), .int (2 : Int32)]) rfl rfl (Nat.le_of_ble_eq_true rfl) ⟨(Nat.le_of_ble_eq_true rfl), (Nat.le_of_ble_eq_true rfl)⟩ ⟨rfl, rfl⟩ ⟨(Nat.le_of_ble_eq_true rfl), (Nat.le_of_ble_eq_true rfl)⟩ dX12_after_17 ?_
    refine g_if_ne 26 dX12_after_20 (by decide) (fun c10 => ?_) (fun c10 => ?_)
    · replace hF := q_f c10 hF
      refine g_aload_n 0 dX12_after_26 rfl ?_
      obtain ⟨u11, e12, hF⟩ := q_bind hF
      obtain ⟨x13, e14, hF⟩ := q_bind hF
      refine g_callVv0 (ci := 12) (q := (RX12, TX12, 49)) qm_X12_begin wd_1809 wd_1811 wd_110 rfl e12 (M_X12_begin l b D z nx e14) (As := []) rfl rfl (Nat.le_of_ble_eq_true rfl) ⟨(Nat.le_of_ble_eq_true rfl), (Nat.le_of_ble_eq_true rfl)⟩ ⟨rfl, rfl⟩ ⟨(Nat.le_of_ble_eq_true rfl), (Nat.le_of_ble_eq_true rfl)⟩ dX12_after_27 ?_
      refine g_iconst dX12_after_30 lt_iconst_0 ?_
      refine g_istore [(4, .int (0 : Int32)), (0, .ref a0), (1, .int a1), (2, .int a2), (3, .int a3)] dX12_after_31 (Nat.le_of_ble_eq_true rfl) rfl ?_
      refine g_iconst dX12_after_33 lt_iconst_m1 ?_
      refine g_istore [(5, .int (-1 : Int32)), (4, .int (0 : Int32)), (0, .ref a0), (1, .int a1), (2, .int a2), (3, .int a3)] dX12_after_34 (Nat.le_of_ble_eq_true rfl) rfl ?_
      refine g_iconst dX12_after_36 lt_iconst_0 ?_
      refine g_istore [(6, .int (0 : Int32)), (5, .int (-1 : Int32)), (4, .int (0 : Int32)), (0, .ref a0), (1, .int a1), (2, .int a2), (3, .int a3)] dX12_after_37 (Nat.le_of_ble_eq_true rfl) rfl ?_
      obtain ⟨e15, w16, hF⟩ := q_bind hF
      refine g_sub [3, 6, 2, 1, 0] rfl ?_
      refine L_X12_after_39 l b D z q_N (0 : Int32) (-1 : Int32) (0 : Int32) x13 e15 w16 ?_
      · intro o17 o18 h19 w20
        replace w20 := w20.symm
        subst w20
        dsimp only at hF
        exact J_X12_after_113 l b D z hF
    · replace hF := q_t c10 hF
      refine g_bipush dX12_after_23 lt_bipush_m2 ?_
      cases hF
      exact g_iret dX12_after_25 rfl ⟨rfl, rfl, rfl⟩ (Nat.le_of_ble_eq_true rfl) (Nat.le_of_ble_eq_true rfl)
def rm_X12_count : Room := { frames := 1, cells := 0, slots := 0, locals := 22 }
set_option maxRecDepth 100000 in
set_option maxHeartbeats 4000000 in
theorem M_X12_count (l : Launch) (b : Nat) (D : va_G) (z : Nat → Nat) (nx : Nat) {h : qH} {a0 : Nat} {a1 : Int32} {r : Int32 × qH} (hF : F_X12_count h a0 a1 = some r) : Me l b D z yX12_count cX12_count 2 (some .int) rm_X12_count [.ref a0, .int a1] h nx (qE (some (.int r.1)) r.2 nx) := by
  refine Me.of (by decide +kernel) (Nat.le_of_ble_eq_true rfl) ?_
  show Go l b D z yX12_count cX12_count 2 (some .int) rm_X12_count (qE (some (.int r.1)) r.2 nx) 0 [(0, .ref a0), (1, .int a1)] [] h nx 0 0
  unfold F_X12_count at hF
  refine g_aload_n 0 dX12_count_0 rfl ?_
  refine g_iconst dX12_count_1 lt_iconst_0 ?_
  obtain ⟨h1, e2, hF⟩ := q_bind hF
  refine g_putf fl_X12_91 e2 rfl rfl dX12_count_2 ?_
  refine g_iload_n 1 dX12_count_5 rfl ?_
  refine g_iconst dX12_count_6 lt_iconst_0 ?_
  refine g_iconst dX12_count_7 lt_iconst_3 ?_
  obtain ⟨x3, e4, hF⟩ := q_bind hF
  refine g_callSr0 qm_X12_in wd_1623 wd_1624 (M_X12_in l b D z nx e4) (As := [.int a1, .int (0 : Int32), .int (3 : Int32)]) rfl rfl (Nat.le_of_ble_eq_true rfl) ⟨(Nat.le_of_ble_eq_true rfl), (Nat.le_of_ble_eq_true rfl)⟩ ⟨rfl, rfl⟩ ⟨(Nat.le_of_ble_eq_true rfl), (Nat.le_of_ble_eq_true rfl)⟩ dX12_count_8 ?_
  refine g_if_eq 23 dX12_count_11 (by decide) (fun c5 => ?_) (fun c5 => ?_)
  · replace hF := q_t c5 hF
    refine g_bipush dX12_count_23 lt_bipush_m2 ?_
    cases hF
    exact g_iret dX12_count_25 rfl ⟨rfl, rfl, rfl⟩ (Nat.le_of_ble_eq_true rfl) (Nat.le_of_ble_eq_true rfl)
  · replace hF := q_f c5 hF
    refine g_aload_n 0 dX12_count_14 rfl ?_
    obtain ⟨x6, e7, hF⟩ := q_bind hF
    refine g_getfR fl_X12_23 e7 dX12_count_15 ?_
    refine g_iload_n 1 dX12_count_18 rfl ?_
    obtain ⟨x8, e9, hF⟩ := q_bind hF
    refine g_iald e9 dX12_count_19 ?_
    refine g_goto 25 dX12_count_20 (by decide) ?_
    cases hF
    exact g_iret dX12_count_25 rfl ⟨rfl, rfl, rfl⟩ (Nat.le_of_ble_eq_true rfl) (Nat.le_of_ble_eq_true rfl)
def rm_X12_image : Room := { frames := 2, cells := 0, slots := 0, locals := 47 }
set_option maxRecDepth 100000 in
set_option maxHeartbeats 4000000 in
theorem M_X12_image (l : Launch) (b : Nat) (D : va_G) (z : Nat → Nat) (nx : Nat) {h : qH} {a0 : Nat} {a1 : Int32} {r : Int32 × qH} (hF : F_X12_image h a0 a1 = some r) : Me l b D z yX12_image cX12_image 2 (some .boolean) rm_X12_image [.ref a0, .int a1] h nx (qE (some (.int r.1)) r.2 nx) := by
  refine Me.of (by decide +kernel) (Nat.le_of_ble_eq_true rfl) ?_
  show Go l b D z yX12_image cX12_image 2 (some .boolean) rm_X12_image (qE (some (.int r.1)) r.2 nx) 0 [(0, .ref a0), (1, .int a1)] [] h nx 0 0
  unfold F_X12_image at hF
  refine g_aload_n 0 dX12_image_0 rfl ?_
  refine g_iconst dX12_image_1 lt_iconst_0 ?_
  obtain ⟨h1, e2, hF⟩ := q_bind hF
  refine g_putf fl_X12_91 e2 rfl rfl dX12_image_2 ?_
  refine g_iload_n 1 dX12_image_5 rfl ?_
  refine g_iconst dX12_image_6 lt_iconst_0 ?_
  refine g_iconst dX12_image_7 lt_iconst_2 ?_
  obtain ⟨x3, e4, hF⟩ := q_bind hF
  refine g_callSr0 qm_X12_in wd_1623 wd_1624 (M_X12_in l b D z nx e4) (As := [.int a1, .int (0 : Int32), .int (2 : Int32)]) rfl rfl (Nat.le_of_ble_eq_true rfl) ⟨(Nat.le_of_ble_eq_true rfl), (Nat.le_of_ble_eq_true rfl)⟩ ⟨rfl, rfl⟩ ⟨(Nat.le_of_ble_eq_true rfl), (Nat.le_of_ble_eq_true rfl)⟩ dX12_image_8 ?_
  refine g_if_ne 16 dX12_image_11 (by decide) (fun c5 => ?_) (fun c5 => ?_)
  · replace hF := q_f c5 hF
    refine g_aload_n 0 dX12_image_16 rfl ?_
    refine g_iconst dX12_image_17 lt_iconst_0 ?_
    refine g_iload_n 1 dX12_image_18 rfl ?_
    refine g_iconst dX12_image_19 lt_iconst_1 ?_
    refine g_iadd dX12_image_20 ?_
    obtain ⟨u6, e7, hF⟩ := q_bind hF
    obtain ⟨x8, e9, hF⟩ := q_bind hF
    refine g_callVv0 (ci := 12) (q := (RX12, TX12, 49)) qm_X12_copyAll wd_2141 wd_2143 wd_162 rfl e7 (M_X12_copyAll l b D z nx e9) (As := [.int (0 : Int32), .int (a1 + (1 : Int32))]) rfl rfl (Nat.le_of_ble_eq_true rfl) ⟨(Nat.le_of_ble_eq_true rfl), (Nat.le_of_ble_eq_true rfl)⟩ ⟨rfl, rfl⟩ ⟨(Nat.le_of_ble_eq_true rfl), (Nat.le_of_ble_eq_true rfl)⟩ dX12_image_21 ?_
    refine g_aload_n 0 dX12_image_24 rfl ?_
    obtain ⟨x10, e11, hF⟩ := q_bind hF
    refine g_getfR fl_X12_87 e11 dX12_image_25 ?_
    refine g_iload_n 1 dX12_image_28 rfl ?_
    refine g_iconst dX12_image_29 lt_iconst_1 ?_
    obtain ⟨h12, e13, hF⟩ := q_bind hF
    refine g_zast e13 dX12_image_30 ?_
    refine g_iconst dX12_image_31 lt_iconst_1 ?_
    cases hF
    exact g_zret dX12_image_32 rfl zn_1 ⟨rfl, rfl, rfl⟩ (Nat.le_of_ble_eq_true rfl) (Nat.le_of_ble_eq_true rfl)
  · replace hF := q_t c5 hF
    refine g_iconst dX12_image_14 lt_iconst_0 ?_
    cases hF
    exact g_zret dX12_image_15 rfl zn_0 ⟨rfl, rfl, rfl⟩ (Nat.le_of_ble_eq_true rfl) (Nat.le_of_ble_eq_true rfl)
def rm_X12_again : Room := { frames := 2, cells := 0, slots := 0, locals := 47 }
set_option maxRecDepth 100000 in
set_option maxHeartbeats 4000000 in
theorem M_X12_again (l : Launch) (b : Nat) (D : va_G) (z : Nat → Nat) (nx : Nat) {h : qH} {a0 : Nat} {a1 : Int32} {r : Int32 × qH} (hF : F_X12_again h a0 a1 = some r) : Me l b D z yX12_again cX12_again 2 (some .boolean) rm_X12_again [.ref a0, .int a1] h nx (qE (some (.int r.1)) r.2 nx) := by
  refine Me.of (by decide +kernel) (Nat.le_of_ble_eq_true rfl) ?_
  show Go l b D z yX12_again cX12_again 2 (some .boolean) rm_X12_again (qE (some (.int r.1)) r.2 nx) 0 [(0, .ref a0), (1, .int a1)] [] h nx 0 0
  unfold F_X12_again at hF
  refine g_aload_n 0 dX12_again_0 rfl ?_
  refine g_iconst dX12_again_1 lt_iconst_0 ?_
  obtain ⟨h1, e2, hF⟩ := q_bind hF
  refine g_putf fl_X12_91 e2 rfl rfl dX12_again_2 ?_
  refine g_iload_n 1 dX12_again_5 rfl ?_
  refine g_iconst dX12_again_6 lt_iconst_0 ?_
  refine g_iconst dX12_again_7 lt_iconst_2 ?_
  obtain ⟨x3, e4, hF⟩ := q_bind hF
  refine g_callSr0 qm_X12_in wd_1623 wd_1624 (M_X12_in l b D z nx e4) (As := [.int a1, .int (0 : Int32), .int (2 : Int32)]) rfl rfl (Nat.le_of_ble_eq_true rfl) ⟨(Nat.le_of_ble_eq_true rfl), (Nat.le_of_ble_eq_true rfl)⟩ ⟨rfl, rfl⟩ ⟨(Nat.le_of_ble_eq_true rfl), (Nat.le_of_ble_eq_true rfl)⟩ dX12_again_8 ?_
  refine g_if_eq 23 dX12_again_11 (by decide) (fun c5 => ?_) (fun c5 => ?_)
  · replace hF := q_t c5 hF
    refine g_iconst dX12_again_23 lt_iconst_0 ?_
    cases hF
    exact g_zret dX12_again_24 rfl zn_0 ⟨rfl, rfl, rfl⟩ (Nat.le_of_ble_eq_true rfl) (Nat.le_of_ble_eq_true rfl)
  · replace hF := q_f c5 hF
    refine g_aload_n 0 dX12_again_14 rfl ?_
    obtain ⟨x6, e7, hF⟩ := q_bind hF
    refine g_getfR fl_X12_87 e7 dX12_again_15 ?_
    refine g_iload_n 1 dX12_again_18 rfl ?_
    obtain ⟨x8, e9, hF⟩ := q_bind hF
    refine g_zald e9 dX12_again_19 ?_
    refine g_if_ne 25 dX12_again_20 (by decide) (fun c10 => ?_) (fun c10 => ?_)
    · replace hF := q_f c10 hF
      refine g_aload_n 0 dX12_again_25 rfl ?_
      refine g_iload_n 1 dX12_again_26 rfl ?_
      refine g_iconst dX12_again_27 lt_iconst_1 ?_
      refine g_iadd dX12_again_28 ?_
      refine g_iconst dX12_again_29 lt_iconst_0 ?_
      obtain ⟨u11, e12, hF⟩ := q_bind hF
      obtain ⟨x13, e14, hF⟩ := q_bind hF
      refine g_callVv0 (ci := 12) (q := (RX12, TX12, 49)) qm_X12_copyAll wd_2141 wd_2143 wd_162 rfl e12 (M_X12_copyAll l b D z nx e14) (As := [.int (a1 + (1 : Int32)), .int (0 : Int32)]) rfl rfl (Nat.le_of_ble_eq_true rfl) ⟨(Nat.le_of_ble_eq_true rfl), (Nat.le_of_ble_eq_true rfl)⟩ ⟨rfl, rfl⟩ ⟨(Nat.le_of_ble_eq_true rfl), (Nat.le_of_ble_eq_true rfl)⟩ dX12_again_30 ?_
      refine g_iconst dX12_again_33 lt_iconst_1 ?_
      cases hF
      exact g_zret dX12_again_34 rfl zn_1 ⟨rfl, rfl, rfl⟩ (Nat.le_of_ble_eq_true rfl) (Nat.le_of_ble_eq_true rfl)
    · replace hF := q_t c10 hF
      refine g_iconst dX12_again_23 lt_iconst_0 ?_
      cases hF
      exact g_zret dX12_again_24 rfl zn_0 ⟨rfl, rfl, rfl⟩ (Nat.le_of_ble_eq_true rfl) (Nat.le_of_ble_eq_true rfl)
