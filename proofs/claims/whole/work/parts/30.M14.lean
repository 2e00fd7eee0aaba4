def rm_X12_sureOf : Room := { frames := 1, cells := 0, slots := 0, locals := 22 }
set_option maxRecDepth 100000 in
set_option maxHeartbeats 4000000 in
theorem B_X12_sureOf_2 (l : Launch) (b : Nat) (D : va_G) (z : Nat → Nat) {Φ : Option Value → qH → Nat → Prop} {nx : Nat} {h : qH} {a0 : Nat} {a1 : Int32} {a2 : Int32} {o : Int32 ⊕ (Int32 ⊕ Unit)} (hF : b_X12_sureOf_2 h a0 a1 a2 = some o) (hback : ∀ (b2 : Int32), o = .inl b2 → Go l b D z yX12_sureOf cX12_sureOf 3 (some .int) rm_X12_sureOf Φ 2 [(0, .ref a0), (1, .int a1), (2, .int b2)] [] h nx 0 0) (hx0 : ∀ (b2 : Int32), o = .inr (.inl b2) → Go l b D z yX12_sureOf cX12_sureOf 3 (some .int) rm_X12_sureOf Φ 33 [(2, .int b2)] [] h nx 0 0) (hx1 : o = .inr (.inr ()) → Go l b D z yX12_sureOf cX12_sureOf 3 (some .int) rm_X12_sureOf Φ 41 [] [] h nx 0 0) : Go l b D z yX12_sureOf cX12_sureOf 3 (some .int) rm_X12_sureOf Φ 2 [(0, .ref a0), (1, .int a1), (2, .int a2)] [] h nx 0 0 := by
  unfold b_X12_sureOf_2 at hF
  refine g_iload_n 2 dX12_sureOf_2 rfl ?_
  refine g_aload_n 0 dX12_sureOf_3 rfl ?_
  obtain ⟨x1, e2, hF⟩ := q_bind hF
  refine g_getfI fl_X12_276 e2 dX12_sureOf_4 ?_
  refine g_icmp_ge 41 dX12_sureOf_7 (by decide) (fun c3 => ?_) (fun c3 => ?_)
  · replace hF := q_t c3 hF
    cases hF
    refine g_sub [] rfl ?_
    exact hx1  rfl
  · replace hF := q_f c3 hF
    refine g_aload_n 0 dX12_sureOf_10 rfl ?_
    obtain ⟨x4, e5, hF⟩ := q_bind hF
    refine g_getfL fl_X12_449 e5 dX12_sureOf_11 ?_
    refine g_lconst (v := 0) dX12_sureOf_14 (by decide +kernel) ?_
    refine g_lcmp dX12_sureOf_15 ?_
    refine g_if_le 41 dX12_sureOf_16 (by decide) (fun c6 => ?_) (fun c6 => ?_)
    · replace hF := q_t c6 hF
      cases hF
      refine g_sub [] rfl ?_
      exact hx1  rfl
    · replace hF := q_f c6 hF
      refine g_aload_n 0 dX12_sureOf_19 rfl ?_
      refine g_iload_n 1 dX12_sureOf_20 rfl ?_
      refine g_iload_n 2 dX12_sureOf_21 rfl ?_
      obtain ⟨u7, e8, hF⟩ := q_bind hF
      obtain ⟨x9, e10, hF⟩ := q_bind hF
      refine g_callVr0 (ci := 12) (q := (RX12, TX12, 49)) qm_X12_through wd_2014 wd_2016 wd_145 rfl e8 (M_X12_through l b D z nx e10) (As := [.int a1, .int a2]) rfl rfl (Nat.le_of_ble_eq_true rfl) ⟨(Nat.le_of_ble_eq_true rfl), (Nat.le_of_ble_eq_true rfl)⟩ ⟨rfl, rfl⟩ ⟨(Nat.le_of_ble_eq_true rfl), (Nat.le_of_ble_eq_true rfl)⟩ dX12_sureOf_22 ?_
      refine g_aload_n 0 dX12_sureOf_25 rfl ?_
      obtain ⟨x11, e12, hF⟩ := q_bind hF
      refine g_getfL fl_X12_449 e12 dX12_sureOf_26 ?_
      refine g_lcmp dX12_sureOf_29 ?_
      refine g_if_ne 35 dX12_sureOf_30 (by decide) (fun c13 => ?_) (fun c13 => ?_)
      · replace hF := q_f c13 hF
        refine g_iinc [(2, .int (a2 + 1)), (0, .ref a0), (1, .int a1)] 2 dX12_sureOf_35 rfl (congrArg (a2 + ·) lt_iconst_1) (Nat.le_of_ble_eq_true rfl) rfl ?_
        refine g_goto 2 dX12_sureOf_38 (by decide) ?_
        cases hF
        refine g_sub [1, 2, 0] rfl ?_
        exact hback _ rfl
      · replace hF := q_t c13 hF
        cases hF
        refine g_sub [2] rfl ?_
        exact hx0 _ rfl
set_option maxRecDepth 100000 in
set_option maxHeartbeats 4000000 in
theorem L_X12_sureOf_2 (l : Launch) (b : Nat) (D : va_G) (z : Nat → Nat) {Φ : Option Value → qH → Nat → Prop} {nx : Nat} {h : qH} {a0 : Nat} {a1 : Int32} : ∀ (n : Nat) (a2 : Int32) (e : Int32 ⊕ Unit), q_lp (s_X12_sureOf_2 h a0 a1) n a2 = some e → (∀ (b2 : Int32), e = (.inl b2) → Go l b D z yX12_sureOf cX12_sureOf 3 (some .int) rm_X12_sureOf Φ 33 [(2, .int b2)] [] h nx 0 0) → (e = (.inr ()) → Go l b D z yX12_sureOf cX12_sureOf 3 (some .int) rm_X12_sureOf Φ 41 [] [] h nx 0 0) → Go l b D z yX12_sureOf cX12_sureOf 3 (some .int) rm_X12_sureOf Φ 2 [(0, .ref a0), (1, .int a1), (2, .int a2)] [] h nx 0 0 := by
  intro n
  induction n with
  | zero => intro a2 e he; cases (show none = some e from he)
  | succ n ih =>
    intro a2 e he hx0 hx1
    obtain ⟨o, ho, h1, h2⟩ := q_lp_succ he
    exact B_X12_sureOf_2 l b D z (show b_X12_sureOf_2 h a0 a1 a2 = some o from ho) (fun b2 hb => ih _ e (h1 _ hb) hx0 hx1) (fun p0 hr => hx0 p0 (h2 _ hr).symm) (fun  hr => hx1  (h2 _ hr).symm)
set_option maxRecDepth 100000 in
set_option maxHeartbeats 4000000 in
theorem M_X12_sureOf (l : Launch) (b : Nat) (D : va_G) (z : Nat → Nat) (nx : Nat) {h : qH} {a0 : Nat} {a1 : Int32} {r : Int32} (hF : F_X12_sureOf h a0 a1 = some r) : Me l b D z yX12_sureOf cX12_sureOf 3 (some .int) rm_X12_sureOf [.ref a0, .int a1] h nx (qE (some (.int r)) h nx) := by
  refine Me.of (by decide +kernel) (Nat.le_of_ble_eq_true rfl) ?_
  show Go l b D z yX12_sureOf cX12_sureOf 3 (some .int) rm_X12_sureOf (qE (some (.int r)) h nx) 0 [(0, .ref a0), (1, .int a1)] [] h nx 0 0
  unfold F_X12_sureOf at hF
  refine g_iconst dX12_sureOf_0 lt_iconst_0 ?_
  refine g_istore_n [(2, .int (0 : Int32)), (0, .ref a0), (1, .int a1)] dX12_sureOf_1 (Nat.le_of_ble_eq_true rfl) rfl ?_
  obtain ⟨e1, w2, hF⟩ := q_bind hF
  refine g_sub [1, 2, 0] rfl ?_
  refine L_X12_sureOf_2 l b D z q_N (0 : Int32) e1 w2 ?_ ?_
  · intro o3 w4
    replace w4 := w4.symm
    subst w4
    replace hF := q_sl hF
    refine g_iload_n 0 dX12_sureOf_33 rfl ?_
    cases hF
    exact g_iret dX12_sureOf_34 rfl ⟨rfl, rfl, rfl⟩ (Nat.le_of_ble_eq_true rfl) (Nat.le_of_ble_eq_true rfl)
  · intro  w6
    replace w6 := w6.symm
    subst w6
    replace hF := q_sr hF
    refine g_iconst dX12_sureOf_41 lt_iconst_m1 ?_
    cases hF
    exact g_iret dX12_sureOf_42 rfl ⟨rfl, rfl, rfl⟩ (Nat.le_of_ble_eq_true rfl) (Nat.le_of_ble_eq_true rfl)
def rm_X12_firstAt : Room := { frames := 1, cells := 0, slots := 0, locals := 22 }
set_option maxRecDepth 100000 in
set_option maxHeartbeats 4000000 in
theorem B_X12_firstAt_33 (l : Launch) (b : Nat) (D : va_G) (z : Nat → Nat) {Φ : Option Value → qH → Nat → Prop} {nx : Nat} {h : qH} {a0 : Nat} {a1 : Int32} {a2 : Int32} {a3 : Int32} {a4 : Int32} {a5 : Int32} {o : (Int32 × Int32) ⊕ Int32} (hF : b_X12_firstAt_33 h a0 a1 a2 a3 a4 a5 = some o) (hback : ∀ (b4 : Int32) (b5 : Int32), o = .inl (b4, b5) → Go l b D z yX12_firstAt cX12_firstAt 7 (some .int) rm_X12_firstAt Φ 33 [(0, .ref a0), (1, .int a1), (2, .int a2), (3, .int a3), (4, .int b4), (5, .int b5)] [] h nx 0 0) (hx0 : ∀ (b4 : Int32), o = .inr b4 → Go l b D z yX12_firstAt cX12_firstAt 7 (some .int) rm_X12_firstAt Φ 98 [(0, .ref a0), (1, .int a1), (3, .int a3), (4, .int b4)] [] h nx 0 0) : Go l b D z yX12_firstAt cX12_firstAt 7 (some .int) rm_X12_firstAt Φ 33 [(0, .ref a0), (1, .int a1), (2, .int a2), (3, .int a3), (4, .int a4), (5, .int a5)] [] h nx 0 0 := by
  unfold b_X12_firstAt_33 at hF
  refine g_iload 5 dX12_firstAt_33 rfl ?_
  refine g_aload_n 0 dX12_firstAt_35 rfl ?_
  obtain ⟨x1, e2, hF⟩ := q_bind hF
  refine g_getfR fl_X12_47 e2 dX12_firstAt_36 ?_
  refine g_iload_n 2 dX12_firstAt_39 rfl ?_
  obtain ⟨x3, e4, hF⟩ := q_bind hF
  refine g_iald e4 dX12_firstAt_40 ?_
  refine g_icmp_ge 98 dX12_firstAt_41 (by decide) (fun c5 => ?_) (fun c5 => ?_)
  · replace hF := q_t c5 hF
    cases hF
    refine g_sub [0, 1, 3, 4] rfl ?_
    exact hx0 _ rfl
  · replace hF := q_f c5 hF
    refine g_aload_n 0 dX12_firstAt_44 rfl ?_
    refine g_iload_n 2 dX12_firstAt_45 rfl ?_
    refine g_iload 5 dX12_firstAt_46 rfl ?_
    obtain ⟨u6, e7, hF⟩ := q_bind hF
    obtain ⟨x8, e9, hF⟩ := q_bind hF
    refine g_callVr0 (ci := 12) (q := (RX12, TX12, 49)) qm_X12_behind wd_1773 wd_1775 wd_104 rfl e7 (M_X12_behind l b D z nx e9) (As := [.int a2, .int a5]) rfl rfl (Nat.le_of_ble_eq_true rfl) ⟨(Nat.le_of_ble_eq_true rfl), (Nat.le_of_ble_eq_true rfl)⟩ ⟨rfl, rfl⟩ ⟨(Nat.le_of_ble_eq_true rfl), (Nat.le_of_ble_eq_true rfl)⟩ dX12_firstAt_48 ?_
    refine g_istore [(6, .int x8), (0, .ref a0), (1, .int a1), (2, .int a2), (3, .int a3), (4, .int a4), (5, .int a5)] dX12_firstAt_51 (Nat.le_of_ble_eq_true rfl) rfl ?_
    refine g_aload_n 1 dX12_firstAt_53 rfl ?_
    obtain ⟨x10, e11, hF⟩ := q_bind hF
    refine g_getfR fl_X12_78 e11 dX12_firstAt_54 ?_
    refine g_bipush dX12_firstAt_57 lt_bipush_20 ?_
    refine g_iload_n 4 dX12_firstAt_59 rfl ?_
    refine g_imul dX12_firstAt_60 ?_
    refine g_iload 0 dX12_firstAt_61 rfl ?_
    refine g_iadd dX12_firstAt_63 ?_
    obtain ⟨x12, e13, hF⟩ := q_bind hF
    refine g_lald e13 dX12_firstAt_64 ?_
    refine g_lconst (v := 0) dX12_firstAt_65 (by decide +kernel) ?_
    refine g_lcmp dX12_firstAt_66 ?_
    refine g_if_le 88 dX12_firstAt_67 (by decide) (fun c14 => ?_) (fun c14 => ?_)
    · replace hF := q_t c14 hF
      refine g_iload 5 dX12_firstAt_88 rfl ?_
      refine g_istore [(4, .int a4), (6, .int x8), (0, .ref a0), (1, .int a1), (2, .int a2), (3, .int a3), (5, .int a5)] dX12_firstAt_90 (Nat.le_of_ble_eq_true rfl) rfl ?_
      refine g_iinc [(5, .int (a5 + 1)), (4, .int a4), (6, .int x8), (0, .ref a0), (1, .int a1), (2, .int a2), (3, .int a3)] 6 dX12_firstAt_92 rfl (congrArg (a5 + ·) lt_iconst_1) (Nat.le_of_ble_eq_true rfl) rfl ?_
      refine g_goto 33 dX12_firstAt_95 (by decide) ?_
      cases hF
      refine g_sub [3, 4, 5, 6, 1, 0] rfl ?_
      exact hback _ _ rfl
    · replace hF := q_f c14 hF
      refine g_iload 5 dX12_firstAt_70 rfl ?_
      refine g_iconst dX12_firstAt_72 lt_iconst_m1 ?_
      refine g_icmp_eq 83 dX12_firstAt_73 (by decide) (fun c15 => ?_) (fun c15 => ?_)
      · replace hF := q_t c15 hF
        refine g_iload 0 dX12_firstAt_83 rfl ?_
        refine g_goto 90 dX12_firstAt_85 (by decide) ?_
        refine g_istore [(4, .int x8), (6, .int x8), (0, .ref a0), (1, .int a1), (2, .int a2), (3, .int a3), (5, .int a5)] dX12_firstAt_90 (Nat.le_of_ble_eq_true rfl) rfl ?_
        refine g_iinc [(5, .int (a5 + 1)), (4, .int x8), (6, .int x8), (0, .ref a0), (1, .int a1), (2, .int a2), (3, .int a3)] 6 dX12_firstAt_92 rfl (congrArg (a5 + ·) lt_iconst_1) (Nat.le_of_ble_eq_true rfl) rfl ?_
        refine g_goto 33 dX12_firstAt_95 (by decide) ?_
        cases hF
        refine g_sub [3, 4, 5, 6, 1, 0] rfl ?_
        exact hback _ _ rfl
      · replace hF := q_f c15 hF
        refine g_iload 0 dX12_firstAt_76 rfl ?_
        refine g_iload 5 dX12_firstAt_78 rfl ?_
        refine g_icmp_ge 88 dX12_firstAt_80 (by decide) (fun c16 => ?_) (fun c16 => ?_)
        · replace hF := q_t c16 hF
          refine g_iload 5 dX12_firstAt_88 rfl ?_
          refine g_istore [(4, .int a4), (6, .int x8), (0, .ref a0), (1, .int a1), (2, .int a2), (3, .int a3), (5, .int a5)] dX12_firstAt_90 (Nat.le_of_ble_eq_true rfl) rfl ?_
          refine g_iinc [(5, .int (a5 + 1)), (4, .int a4), (6, .int x8), (0, .ref a0), (1, .int a1), (2, .int a2), (3, .int a3)] 6 dX12_firstAt_92 rfl (congrArg (a5 + ·) lt_iconst_1) (Nat.le_of_ble_eq_true rfl) rfl ?_
          refine g_goto 33 dX12_firstAt_95 (by decide) ?_
          cases hF
          refine g_sub [3, 4, 5, 6, 1, 0] rfl ?_
          exact hback _ _ rfl
        · replace hF := q_f c16 hF
          refine g_iload 0 dX12_firstAt_83 rfl ?_
          refine g_goto 90 dX12_firstAt_85 (by decide) ?_
          refine g_istore [(4, .int x8), (6, .int x8), (0, .ref a0), (1, .int a1), (2, .int a2), (3, .int a3), (5, .int a5)] dX12_firstAt_90 (Nat.le_of_ble_eq_true rfl) rfl ?_
          refine g_iinc [(5, .int (a5 + 1)), (4, .int x8), (6, .int x8), (0, .ref a0), (1, .int a1), (2, .int a2), (3, .int a3)] 6 dX12_firstAt_92 rfl (congrArg (a5 + ·) lt_iconst_1) (Nat.le_of_ble_eq_true rfl) rfl ?_
          refine g_goto 33 dX12_firstAt_95 (by decide) ?_
          cases hF
          refine g_sub [3, 4, 5, 6, 1, 0] rfl ?_
          exact hback _ _ rfl
set_option maxRecDepth 100000 in
set_option maxHeartbeats 4000000 in
theorem L_X12_firstAt_33 (l : Launch) (b : Nat) (D : va_G) (z : Nat → Nat) {Φ : Option Value → qH → Nat → Prop} {nx : Nat} {h : qH} {a0 : Nat} {a1 : Int32} {a2 : Int32} {a3 : Int32} : ∀ (n : Nat) (a4 : Int32) (a5 : Int32) (e : Int32), q_lp (s_X12_firstAt_33 h a0 a1 a2 a3) n (a4, a5) = some e → (∀ (b4 : Int32), e = b4 → Go l b D z yX12_firstAt cX12_firstAt 7 (some .int) rm_X12_firstAt Φ 98 [(0, .ref a0), (1, .int a1), (3, .int a3), (4, .int b4)] [] h nx 0 0) → Go l b D z yX12_firstAt cX12_firstAt 7 (some .int) rm_X12_firstAt Φ 33 [(0, .ref a0), (1, .int a1), (2, .int a2), (3, .int a3), (4, .int a4), (5, .int a5)] [] h nx 0 0 := by
  intro n
  induction n with
  | zero => intro a4 a5 e he; cases (show none = some e from he)
  | succ n ih =>
    intro a4 a5 e he hx0
    obtain ⟨o, ho, h1, h2⟩ := q_lp_succ he
    exact B_X12_firstAt_33 l b D z (show b_X12_firstAt_33 h a0 a1 a2 a3 a4 a5 = some o from ho) (fun b4 b5 hb => ih _ _ e (h1 _ hb) hx0) (fun p0 hr => hx0 p0 (h2 _ hr).symm)
set_option maxRecDepth 100000 in
set_option maxHeartbeats 4000000 in
theorem B_X12_firstAt_17 (l : Launch) (b : Nat) (D : va_G) (z : Nat → Nat) {Φ : Option Value → qH → Nat → Prop} {nx : Nat} {h : qH} {a0 : Nat} {a1 : Int32} {a2 : Int32} {a3 : Int32} {o : (Int32 × Int32) ⊕ Int32} (hF : b_X12_firstAt_17 h a0 a1 a2 a3 = some o) (hback : ∀ (b2 : Int32) (b3 : Int32), o = .inl (b2, b3) → Go l b D z yX12_firstAt cX12_firstAt 7 (some .int) rm_X12_firstAt Φ 17 [(0, .ref a0), (1, .int a1), (2, .int b2), (3, .int b3)] [] h nx 0 0) (hx0 : ∀ (b2 : Int32), o = .inr b2 → Go l b D z yX12_firstAt cX12_firstAt 7 (some .int) rm_X12_firstAt Φ 107 [(2, .int b2)] [] h nx 0 0) : Go l b D z yX12_firstAt cX12_firstAt 7 (some .int) rm_X12_firstAt Φ 17 [(0, .ref a0), (1, .int a1), (2, .int a2), (3, .int a3)] [] h nx 0 0 := by
  unfold b_X12_firstAt_17 at hF
  refine g_iload_n 3 dX12_firstAt_17 rfl ?_
  refine g_iload_n 1 dX12_firstAt_18 rfl ?_
  refine g_icmp_gt 107 dX12_firstAt_19 (by decide) (fun c1 => ?_) (fun c1 => ?_)
  · replace hF := q_t c1 hF
    cases hF
    refine g_sub [2] rfl ?_
    exact hx0 _ rfl
  · replace hF := q_f c1 hF
    refine g_iload_n 2 dX12_firstAt_22 rfl ?_
    refine g_iconst dX12_firstAt_23 lt_iconst_m1 ?_
    refine g_icmp_eq 107 dX12_firstAt_24 (by decide) (fun c2 => ?_) (fun c2 => ?_)
    · replace hF := q_t c2 hF
      cases hF
      refine g_sub [2] rfl ?_
      exact hx0 _ rfl
    · replace hF := q_f c2 hF
      refine g_iconst dX12_firstAt_27 lt_iconst_m1 ?_
      refine g_istore [(4, .int (-1 : Int32)), (0, .ref a0), (1, .int a1), (2, .int a2), (3, .int a3)] dX12_firstAt_28 (Nat.le_of_ble_eq_true rfl) rfl ?_
      refine g_iconst dX12_firstAt_30 lt_iconst_0 ?_
      refine g_istore [(5, .int (0 : Int32)), (4, .int (-1 : Int32)), (0, .ref a0), (1, .int a1), (2, .int a2), (3, .int a3)] dX12_firstAt_31 (Nat.le_of_ble_eq_true rfl) rfl ?_
      obtain ⟨e3, w4, hF⟩ := q_bind hF
      refine g_sub [2, 3, 4, 5, 1, 0] rfl ?_
      refine L_X12_firstAt_33 l b D z q_N (-1 : Int32) (0 : Int32) e3 w4 ?_
      · intro o5 w6
        replace w6 := w6.symm
        subst w6
        refine g_iload 3 dX12_firstAt_98 rfl ?_
        refine g_istore_n [(2, .int o5), (0, .ref a0), (1, .int a1), (3, .int a3), (4, .int o5)] dX12_firstAt_100 (Nat.le_of_ble_eq_true rfl) rfl ?_
        refine g_iinc [(3, .int (a3 + 1)), (2, .int o5), (0, .ref a0), (1, .int a1), (4, .int o5)] 3 dX12_firstAt_101 rfl (congrArg (a3 + ·) lt_iconst_1) (Nat.le_of_ble_eq_true rfl) rfl ?_
        refine g_goto 17 dX12_firstAt_104 (by decide) ?_
        cases hF
        refine g_sub [2, 3, 1, 0] rfl ?_
        exact hback _ _ rfl
set_option maxRecDepth 100000 in
set_option maxHeartbeats 4000000 in
theorem L_X12_firstAt_17 (l : Launch) (b : Nat) (D : va_G) (z : Nat → Nat) {Φ : Option Value → qH → Nat → Prop} {nx : Nat} {h : qH} {a0 : Nat} {a1 : Int32} : ∀ (n : Nat) (a2 : Int32) (a3 : Int32) (e : Int32), q_lp (s_X12_firstAt_17 h a0 a1) n (a2, a3) = some e → (∀ (b2 : Int32), e = b2 → Go l b D z yX12_firstAt cX12_firstAt 7 (some .int) rm_X12_firstAt Φ 107 [(2, .int b2)] [] h nx 0 0) → Go l b D z yX12_firstAt cX12_firstAt 7 (some .int) rm_X12_firstAt Φ 17 [(0, .ref a0), (1, .int a1), (2, .int a2), (3, .int a3)] [] h nx 0 0 := by
  intro n
  induction n with
  | zero => intro a2 a3 e he; cases (show none = some e from he)
  | succ n ih =>
    intro a2 a3 e he hx0
    obtain ⟨o, ho, h1, h2⟩ := q_lp_succ he
    exact B_X12_firstAt_17 l b D z (show b_X12_firstAt_17 h a0 a1 a2 a3 = some o from ho) (fun b2 b3 hb => ih _ _ e (h1 _ hb) hx0) (fun p0 hr => hx0 p0 (h2 _ hr).symm)
set_option maxRecDepth 100000 in
set_option maxHeartbeats 4000000 in
theorem J_X12_firstAt_14 (l : Launch) (b : Nat) (D : va_G) (z : Nat → Nat) {nx : Nat} {h : qH} {a0 : Nat} {a1 : Int32} {t0 : Int32} {r : Int32} (hF : j_X12_firstAt_14 h a0 a1 t0 = some r) : Go l b D z yX12_firstAt cX12_firstAt 7 (some .int) rm_X12_firstAt (qE (some (.int r)) h nx) 14 [(0, .ref a0), (1, .int a1)] [.int t0] h nx 0 0 := by
  unfold j_X12_firstAt_14 at hF
  refine g_istore_n [(2, .int t0), (0, .ref a0), (1, .int a1)] dX12_firstAt_14 (Nat.le_of_ble_eq_true rfl) rfl ?_
  refine g_iconst dX12_firstAt_15 lt_iconst_1 ?_
  refine g_istore_n [(3, .int (1 : Int32)), (2, .int t0), (0, .ref a0), (1, .int a1)] dX12_firstAt_16 (Nat.le_of_ble_eq_true rfl) rfl ?_
  obtain ⟨e1, w2, hF⟩ := q_bind hF
  refine g_sub [2, 3, 1, 0] rfl ?_
  refine L_X12_firstAt_17 l b D z q_N t0 (1 : Int32) e1 w2 ?_
  · intro o3 w4
    replace w4 := w4.symm
    subst w4
    refine g_iload_n 0 dX12_firstAt_107 rfl ?_
    cases hF
    exact g_iret dX12_firstAt_108 rfl ⟨rfl, rfl, rfl⟩ (Nat.le_of_ble_eq_true rfl) (Nat.le_of_ble_eq_true rfl)
set_option maxRecDepth 100000 in
set_option maxHeartbeats 4000000 in
theorem M_X12_firstAt (l : Launch) (b : Nat) (D : va_G) (z : Nat → Nat) (nx : Nat) {h : qH} {a0 : Nat} {a1 : Int32} {r : Int32} (hF : F_X12_firstAt h a0 a1 = some r) : Me l b D z yX12_firstAt cX12_firstAt 7 (some .int) rm_X12_firstAt [.ref a0, .int a1] h nx (qE (some (.int r)) h nx) := by
  refine Me.of (by decide +kernel) (Nat.le_of_ble_eq_true rfl) ?_
  show Go l b D z yX12_firstAt cX12_firstAt 7 (some .int) rm_X12_firstAt (qE (some (.int r)) h nx) 0 [(0, .ref a0), (1, .int a1)] [] h nx 0 0
  unfold F_X12_firstAt at hF
  refine g_aload_n 0 dX12_firstAt_0 rfl ?_
  obtain ⟨x1, e2, hF⟩ := q_bind hF
  refine g_getfL fl_X12_449 e2 dX12_firstAt_1 ?_
  refine g_lconst (v := 0) dX12_firstAt_4 (by decide +kernel) ?_
  refine g_lcmp dX12_firstAt_5 ?_
  refine g_if_ne 13 dX12_firstAt_6 (by decide) (fun c3 => ?_) (fun c3 => ?_)
  · replace hF := q_f c3 hF
    refine g_iconst dX12_firstAt_13 lt_iconst_0 ?_
    exact J_X12_firstAt_14 l b D z hF
  · replace hF := q_t c3 hF
    refine g_iconst dX12_firstAt_9 lt_iconst_m1 ?_
    refine g_goto 14 dX12_firstAt_10 (by decide) ?_
    exact J_X12_firstAt_14 l b D z hF
def rm_X12_guess : Room := { frames := 2, cells := 0, slots := 0, locals := 42 }
set_option maxRecDepth 100000 in
set_option maxHeartbeats 4000000 in
theorem B_X12_guess_44 (l : Launch) (b : Nat) (D : va_G) (z : Nat → Nat) {Φ : Option Value → qH → Nat → Prop} {nx : Nat} {h : qH} {a0 : Nat} {a1 : Int32} {a2 : Int64} {a4 : Int32} {a5 : Int64} {a7 : Int32} {a8 : Int64} {a10 : Int32} {o : (Int64 × Int32) ⊕ Int64} (hF : b_X12_guess_44 h a0 a1 a2 a4 a5 a7 a8 a10 = some o) (hback : ∀ (b8 : Int64) (b10 : Int32), o = .inl (b8, b10) → Go l b D z yX12_guess cX12_guess 11 (some .int) rm_X12_guess Φ 44 [(0, .ref a0), (1, .int a1), (2, .long a2), (4, .int a4), (5, .long a5), (7, .int a7), (8, .long b8), (10, .int b10)] [] h nx 0 0) (hx0 : ∀ (b8 : Int64), o = .inr b8 → Go l b D z yX12_guess cX12_guess 11 (some .int) rm_X12_guess Φ 87 [(0, .ref a0), (1, .int a1), (2, .long a2), (4, .int a4), (5, .long a5), (7, .int a7), (8, .long b8)] [] h nx 0 0) : Go l b D z yX12_guess cX12_guess 11 (some .int) rm_X12_guess Φ 44 [(0, .ref a0), (1, .int a1), (2, .long a2), (4, .int a4), (5, .long a5), (7, .int a7), (8, .long a8), (10, .int a10)] [] h nx 0 0 := by
  unfold b_X12_guess_44 at hF
  refine g_iload 7 dX12_guess_44 rfl ?_
  refine g_aload_n 0 dX12_guess_46 rfl ?_
  obtain ⟨x1, e2, hF⟩ := q_bind hF
  refine g_getfI fl_X12_276 e2 dX12_guess_47 ?_
  refine g_icmp_ge 87 dX12_guess_50 (by decide) (fun c3 => ?_) (fun c3 => ?_)
  · replace hF := q_t c3 hF
    cases hF
    refine g_sub [0, 1, 2, 3, 4, 5, 6] rfl ?_
    exact hx0 _ rfl
  · replace hF := q_f c3 hF
    refine g_lload 6 dX12_guess_53 rfl ?_
    refine g_aload_n 0 dX12_guess_55 rfl ?_
    refine g_iload 7 dX12_guess_56 rfl ?_
    obtain ⟨u4, e5, hF⟩ := q_bind hF
    obtain ⟨x6, e7, hF⟩ := q_bind hF
    refine g_callVr0 (ci := 12) (q := (RX12, TX12, 49)) qm_X12_who wd_1836 wd_1838 wd_116 rfl e5 (M_X12_who l b D z nx e7) (As := [.int a10]) rfl rfl (Nat.le_of_ble_eq_true rfl) ⟨(Nat.le_of_ble_eq_true rfl), (Nat.le_of_ble_eq_true rfl)⟩ ⟨rfl, rfl⟩ ⟨(Nat.le_of_ble_eq_true rfl), (Nat.le_of_ble_eq_true rfl)⟩ dX12_guess_58 ?_
    refine g_iload 5 dX12_guess_61 rfl ?_
    refine g_icmp_ne 77 dX12_guess_63 (by decide) (fun c8 => ?_) (fun c8 => ?_)
    · replace hF := q_f c8 hF
      refine g_lconst (v := 0) dX12_guess_77 (by decide +kernel) ?_
      refine g_ladd dX12_guess_78 ?_
      refine g_lstore [(8, .long (a8 + (0 : Int64))), (0, .ref a0), (1, .int a1), (2, .long a2), (4, .int a4), (5, .long a5), (7, .int a7), (10, .int a10)] dX12_guess_79 (Nat.le_of_ble_eq_true rfl) rfl ?_
      refine g_iinc [(10, .int (a10 + 1)), (8, .long (a8 + (0 : Int64))), (0, .ref a0), (1, .int a1), (2, .long a2), (4, .int a4), (5, .long a5), (7, .int a7)] 7 dX12_guess_81 rfl (congrArg (a10 + ·) lt_iconst_1) (Nat.le_of_ble_eq_true rfl) rfl ?_
      refine g_goto 44 dX12_guess_84 (by decide) ?_
      cases hF
      refine g_sub [2, 3, 4, 5, 6, 7, 1, 0] rfl ?_
      exact hback _ _ rfl
    · replace hF := q_t c8 hF
      refine g_aload_n 0 dX12_guess_66 rfl ?_
      refine g_iload 3 dX12_guess_67 rfl ?_
      refine g_iload 7 dX12_guess_69 rfl ?_
      obtain ⟨u9, e10, hF⟩ := q_bind hF
      obtain ⟨x11, e12, hF⟩ := q_bind hF
      refine g_callVr0 (ci := 12) (q := (RX12, TX12, 49)) qm_X12_through wd_2014 wd_2016 wd_145 rfl e10 (M_X12_through l b D z nx e12) (As := [.int a4, .int a10]) rfl rfl (Nat.le_of_ble_eq_true rfl) ⟨(Nat.le_of_ble_eq_true rfl), (Nat.le_of_ble_eq_true rfl)⟩ ⟨rfl, rfl⟩ ⟨(Nat.le_of_ble_eq_true rfl), (Nat.le_of_ble_eq_true rfl)⟩ dX12_guess_71 ?_
      refine g_goto 78 dX12_guess_74 (by decide) ?_
      refine g_ladd dX12_guess_78 ?_
      refine g_lstore [(8, .long (a8 + x11)), (0, .ref a0), (1, .int a1), (2, .long a2), (4, .int a4), (5, .long a5), (7, .int a7), (10, .int a10)] dX12_guess_79 (Nat.le_of_ble_eq_true rfl) rfl ?_
      refine g_iinc [(10, .int (a10 + 1)), (8, .long (a8 + x11)), (0, .ref a0), (1, .int a1), (2, .long a2), (4, .int a4), (5, .long a5), (7, .int a7)] 7 dX12_guess_81 rfl (congrArg (a10 + ·) lt_iconst_1) (Nat.le_of_ble_eq_true rfl) rfl ?_
      refine g_goto 44 dX12_guess_84 (by decide) ?_
      cases hF
      refine g_sub [2, 3, 4, 5, 6, 7, 1, 0] rfl ?_
      exact hback _ _ rfl
set_option maxRecDepth 100000 in
set_option maxHeartbeats 4000000 in
theorem L_X12_guess_44 (l : Launch) (b : Nat) (D : va_G) (z : Nat → Nat) {Φ : Option Value → qH → Nat → Prop} {nx : Nat} {h : qH} {a0 : Nat} {a1 : Int32} {a2 : Int64} {a4 : Int32} {a5 : Int64} {a7 : Int32} : ∀ (n : Nat) (a8 : Int64) (a10 : Int32) (e : Int64), q_lp (s_X12_guess_44 h a0 a1 a2 a4 a5 a7) n (a8, a10) = some e → (∀ (b8 : Int64), e = b8 → Go l b D z yX12_guess cX12_guess 11 (some .int) rm_X12_guess Φ 87 [(0, .ref a0), (1, .int a1), (2, .long a2), (4, .int a4), (5, .long a5), (7, .int a7), (8, .long b8)] [] h nx 0 0) → Go l b D z yX12_guess cX12_guess 11 (some .int) rm_X12_guess Φ 44 [(0, .ref a0), (1, .int a1), (2, .long a2), (4, .int a4), (5, .long a5), (7, .int a7), (8, .long a8), (10, .int a10)] [] h nx 0 0 := by
  intro n
  induction n with
  | zero => intro a8 a10 e he; cases (show none = some e from he)
  | succ n ih =>
    intro a8 a10 e he hx0
    obtain ⟨o, ho, h1, h2⟩ := q_lp_succ he
    exact B_X12_guess_44 l b D z (show b_X12_guess_44 h a0 a1 a2 a4 a5 a7 a8 a10 = some o from ho) (fun b8 b10 hb => ih _ _ e (h1 _ hb) hx0) (fun p0 hr => hx0 p0 (h2 _ hr).symm)
set_option maxRecDepth 100000 in
set_option maxHeartbeats 4000000 in
theorem B_X12_guess_31 (l : Launch) (b : Nat) (D : va_G) (z : Nat → Nat) {Φ : Option Value → qH → Nat → Prop} {nx : Nat} {h : qH} {a0 : Nat} {a1 : Int32} {a2 : Int64} {a4 : Int32} {a5 : Int64} {a7 : Int32} {o : (Int64 × Int32) ⊕ Int64} (hF : b_X12_guess_31 h a0 a1 a2 a4 a5 a7 = some o) (hback : ∀ (b5 : Int64) (b7 : Int32), o = .inl (b5, b7) → Go l b D z yX12_guess cX12_guess 11 (some .int) rm_X12_guess Φ 31 [(0, .ref a0), (1, .int a1), (2, .long a2), (4, .int a4), (5, .long b5), (7, .int b7)] [] h nx 0 0) (hx0 : ∀ (b5 : Int64), o = .inr b5 → Go l b D z yX12_guess cX12_guess 11 (some .int) rm_X12_guess Φ 110 [(0, .ref a0), (1, .int a1), (2, .long a2), (4, .int a4), (5, .long b5)] [] h nx 0 0) : Go l b D z yX12_guess cX12_guess 11 (some .int) rm_X12_guess Φ 31 [(0, .ref a0), (1, .int a1), (2, .long a2), (4, .int a4), (5, .long a5), (7, .int a7)] [] h nx 0 0 := by
  unfold b_X12_guess_31 at hF
  refine g_iload 5 dX12_guess_31 rfl ?_
  refine g_bipush dX12_guess_33 lt_bipush_6 ?_
  refine g_icmp_ge 110 dX12_guess_35 (by decide) (fun c1 => ?_) (fun c1 => ?_)
  · replace hF := q_t c1 hF
    cases hF
    refine g_sub [0, 1, 2, 3, 4] rfl ?_
    exact hx0 _ rfl
  · replace hF := q_f c1 hF
    refine g_lconst (v := 0) dX12_guess_38 (by decide +kernel) ?_
    refine g_lstore [(8, .long (0 : Int64)), (0, .ref a0), (1, .int a1), (2, .long a2), (4, .int a4), (5, .long a5), (7, .int a7)] dX12_guess_39 (Nat.le_of_ble_eq_true rfl) rfl ?_
    refine g_iconst dX12_guess_41 lt_iconst_0 ?_
    refine g_istore [(10, .int (0 : Int32)), (8, .long (0 : Int64)), (0, .ref a0), (1, .int a1), (2, .long a2), (4, .int a4), (5, .long a5), (7, .int a7)] dX12_guess_42 (Nat.le_of_ble_eq_true rfl) rfl ?_
    obtain ⟨e2, w3, hF⟩ := q_bind hF
    refine g_sub [2, 3, 4, 5, 6, 7, 1, 0] rfl ?_
    refine L_X12_guess_44 l b D z q_N (0 : Int64) (0 : Int32) e2 w3 ?_
    · intro o4 w5
      replace w5 := w5.symm
      subst w5
      refine g_lload 6 dX12_guess_87 rfl ?_
      refine g_lload 4 dX12_guess_89 rfl ?_
      refine g_lcmp dX12_guess_91 ?_
      refine g_if_le 100 dX12_guess_92 (by decide) (fun c6 => ?_) (fun c6 => ?_)
      · replace hF := q_t c6 hF
        refine g_lload 4 dX12_guess_100 rfl ?_
        refine g_lstore [(5, .long a5), (0, .ref a0), (1, .int a1), (2, .long a2), (4, .int a4), (7, .int a7), (8, .long o4)] dX12_guess_102 (Nat.le_of_ble_eq_true rfl) rfl ?_
        refine g_iinc [(7, .int (a7 + 1)), (5, .long a5), (0, .ref a0), (1, .int a1), (2, .long a2), (4, .int a4), (8, .long o4)] 5 dX12_guess_104 rfl (congrArg (a7 + ·) lt_iconst_1) (Nat.le_of_ble_eq_true rfl) rfl ?_
        refine g_goto 31 dX12_guess_107 (by decide) ?_
        cases hF
        refine g_sub [2, 3, 4, 5, 1, 0] rfl ?_
        exact hback _ _ rfl
      · replace hF := q_f c6 hF
        refine g_lload 6 dX12_guess_95 rfl ?_
        refine g_goto 102 dX12_guess_97 (by decide) ?_
        refine g_lstore [(5, .long o4), (0, .ref a0), (1, .int a1), (2, .long a2), (4, .int a4), (7, .int a7), (8, .long o4)] dX12_guess_102 (Nat.le_of_ble_eq_true rfl) rfl ?_
        refine g_iinc [(7, .int (a7 + 1)), (5, .long o4), (0, .ref a0), (1, .int a1), (2, .long a2), (4, .int a4), (8, .long o4)] 5 dX12_guess_104 rfl (congrArg (a7 + ·) lt_iconst_1) (Nat.le_of_ble_eq_true rfl) rfl ?_
        refine g_goto 31 dX12_guess_107 (by decide) ?_
        cases hF
        refine g_sub [2, 3, 4, 5, 1, 0] rfl ?_
        exact hback _ _ rfl
set_option maxRecDepth 100000 in
set_option maxHeartbeats 4000000 in
theorem L_X12_guess_31 (l : Launch) (b : Nat) (D : va_G) (z : Nat → Nat) {Φ : Option Value → qH → Nat → Prop} {nx : Nat} {h : qH} {a0 : Nat} {a1 : Int32} {a2 : Int64} {a4 : Int32} : ∀ (n : Nat) (a5 : Int64) (a7 : Int32) (e : Int64), q_lp (s_X12_guess_31 h a0 a1 a2 a4) n (a5, a7) = some e → (∀ (b5 : Int64), e = b5 → Go l b D z yX12_guess cX12_guess 11 (some .int) rm_X12_guess Φ 110 [(0, .ref a0), (1, .int a1), (2, .long a2), (4, .int a4), (5, .long b5)] [] h nx 0 0) → Go l b D z yX12_guess cX12_guess 11 (some .int) rm_X12_guess Φ 31 [(0, .ref a0), (1, .int a1), (2, .long a2), (4, .int a4), (5, .long a5), (7, .int a7)] [] h nx 0 0 := by
  intro n
  induction n with
  | zero => intro a5 a7 e he; cases (show none = some e from he)
  | succ n ih =>
    intro a5 a7 e he hx0
    obtain ⟨o, ho, h1, h2⟩ := q_lp_succ he
    exact B_X12_guess_31 l b D z (show b_X12_guess_31 h a0 a1 a2 a4 a5 a7 = some o from ho) (fun b5 b7 hb => ih _ _ e (h1 _ hb) hx0) (fun p0 hr => hx0 p0 (h2 _ hr).symm)
set_option maxRecDepth 100000 in
set_option maxHeartbeats 4000000 in
theorem B_X12_guess_7 (l : Launch) (b : Nat) (D : va_G) (z : Nat → Nat) {Φ : Option Value → qH → Nat → Prop} {nx : Nat} {h : qH} {a0 : Nat} {a1 : Int32} {a2 : Int64} {a4 : Int32} {o : (Int32 × Int64 × Int32) ⊕ Int32} (hF : b_X12_guess_7 h a0 a1 a2 a4 = some o) (hback : ∀ (b1 : Int32) (b2 : Int64) (b4 : Int32), o = .inl (b1, b2, b4) → Go l b D z yX12_guess cX12_guess 11 (some .int) rm_X12_guess Φ 7 [(0, .ref a0), (1, .int b1), (2, .long b2), (4, .int b4)] [] h nx 0 0) (hx0 : ∀ (b1 : Int32), o = .inr b1 → Go l b D z yX12_guess cX12_guess 11 (some .int) rm_X12_guess Φ 145 [(1, .int b1)] [] h nx 0 0) : Go l b D z yX12_guess cX12_guess 11 (some .int) rm_X12_guess Φ 7 [(0, .ref a0), (1, .int a1), (2, .long a2), (4, .int a4)] [] h nx 0 0 := by
  unfold b_X12_guess_7 at hF
  refine g_iload 3 dX12_guess_7 rfl ?_
  refine g_aload_n 0 dX12_guess_9 rfl ?_
  obtain ⟨u1, e2, hF⟩ := q_bind hF
  obtain ⟨x3, e4, hF⟩ := q_bind hF
  refine g_callVr0 (ci := 12) (q := (RX12, TX12, 49)) qm_X12_voices wd_1977 wd_1979 wd_137 rfl e2 (M_X12_voices l b D z nx e4) (As := []) rfl rfl (Nat.le_of_ble_eq_true rfl) ⟨(Nat.le_of_ble_eq_true rfl), (Nat.le_of_ble_eq_true rfl)⟩ ⟨rfl, rfl⟩ ⟨(Nat.le_of_ble_eq_true rfl), (Nat.le_of_ble_eq_true rfl)⟩ dX12_guess_10 ?_
  refine g_icmp_ge 145 dX12_guess_13 (by decide) (fun c5 => ?_) (fun c5 => ?_)
  · replace hF := q_t c5 hF
    cases hF
    refine g_sub [1] rfl ?_
    exact hx0 _ rfl
  · replace hF := q_f c5 hF
    refine g_aload_n 0 dX12_guess_16 rfl ?_
    obtain ⟨x6, e7, hF⟩ := q_bind hF
    refine g_getfL fl_X12_449 e7 dX12_guess_17 ?_
    refine g_lconst (v := 0) dX12_guess_20 (by decide +kernel) ?_
    refine g_lcmp dX12_guess_21 ?_
    refine g_if_le 145 dX12_guess_22 (by decide) (fun c8 => ?_) (fun c8 => ?_)
    · replace hF := q_t c8 hF
      cases hF
      refine g_sub [1] rfl ?_
      exact hx0 _ rfl
    · replace hF := q_f c8 hF
      refine g_lconst (v := 0) dX12_guess_25 (by decide +kernel) ?_
      refine g_lstore [(5, .long (0 : Int64)), (0, .ref a0), (1, .int a1), (2, .long a2), (4, .int a4)] dX12_guess_26 (Nat.le_of_ble_eq_true rfl) rfl ?_
      refine g_iconst dX12_guess_28 lt_iconst_0 ?_
      refine g_istore [(7, .int (0 : Int32)), (5, .long (0 : Int64)), (0, .ref a0), (1, .int a1), (2, .long a2), (4, .int a4)] dX12_guess_29 (Nat.le_of_ble_eq_true rfl) rfl ?_
      obtain ⟨e9, w10, hF⟩ := q_bind hF
      refine g_sub [2, 3, 4, 5, 1, 0] rfl ?_
      refine L_X12_guess_31 l b D z q_N (0 : Int64) (0 : Int32) e9 w10 ?_
      · intro o11 w12
        replace w12 := w12.symm
        subst w12
        refine g_aload_n 0 dX12_guess_110 rfl ?_
        refine g_iload 3 dX12_guess_111 rfl ?_
        obtain ⟨u13, e14, hF⟩ := q_bind hF
        obtain ⟨x15, e16, hF⟩ := q_bind hF
        refine g_callVr0 (ci := 12) (q := (RX12, TX12, 49)) qm_X12_voiceOf wd_1981 wd_1983 wd_138 rfl e14 (M_X12_voiceOf l b D z nx e16) (As := [.int a4]) rfl rfl (Nat.le_of_ble_eq_true rfl) ⟨(Nat.le_of_ble_eq_true rfl), (Nat.le_of_ble_eq_true rfl)⟩ ⟨rfl, rfl⟩ ⟨(Nat.le_of_ble_eq_true rfl), (Nat.le_of_ble_eq_true rfl)⟩ dX12_guess_113 ?_
        refine g_bipush dX12_guess_116 lt_bipush_6 ?_
        refine g_icmp_ne 139 dX12_guess_118 (by decide) (fun c17 => ?_) (fun c17 => ?_)
        · replace hF := q_f c17 hF
          refine g_iinc [(4, .int (a4 + 1)), (0, .ref a0), (1, .int a1), (2, .long a2), (5, .long o11)] 3 dX12_guess_139 rfl (congrArg (a4 + ·) lt_iconst_1) (Nat.le_of_ble_eq_true rfl) rfl ?_
          refine g_goto 7 dX12_guess_142 (by decide) ?_
          cases hF
          refine g_sub [1, 2, 3, 0] rfl ?_
          exact hback _ _ _ rfl
        · replace hF := q_t c17 hF
          refine g_iload_n 1 dX12_guess_121 rfl ?_
          refine g_iconst dX12_guess_122 lt_iconst_m1 ?_
          refine g_icmp_eq 133 dX12_guess_123 (by decide) (fun c18 => ?_) (fun c18 => ?_)
          · replace hF := q_t c18 hF
            refine g_iload 3 dX12_guess_133 rfl ?_
            refine g_istore_n [(1, .int a4), (0, .ref a0), (2, .long a2), (4, .int a4), (5, .long o11)] dX12_guess_135 (Nat.le_of_ble_eq_true rfl) rfl ?_
            refine g_lload 4 dX12_guess_136 rfl ?_
            refine g_lstore_n [(2, .long o11), (1, .int a4), (0, .ref a0), (4, .int a4), (5, .long o11)] dX12_guess_138 (Nat.le_of_ble_eq_true rfl) rfl ?_
            refine g_iinc [(4, .int (a4 + 1)), (2, .long o11), (1, .int a4), (0, .ref a0), (5, .long o11)] 3 dX12_guess_139 rfl (congrArg (a4 + ·) lt_iconst_1) (Nat.le_of_ble_eq_true rfl) rfl ?_
            refine g_goto 7 dX12_guess_142 (by decide) ?_
            cases hF
            refine g_sub [3, 2, 1, 0] rfl ?_
            exact hback _ _ _ rfl
          · replace hF := q_f c18 hF
            refine g_lload 4 dX12_guess_126 rfl ?_
            refine g_lload_n 2 dX12_guess_128 rfl ?_
            refine g_lcmp dX12_guess_129 ?_
            refine g_if_ge 139 dX12_guess_130 (by decide) (fun c19 => ?_) (fun c19 => ?_)
            · replace hF := q_t c19 hF
              refine g_iinc [(4, .int (a4 + 1)), (0, .ref a0), (1, .int a1), (2, .long a2), (5, .long o11)] 3 dX12_guess_139 rfl (congrArg (a4 + ·) lt_iconst_1) (Nat.le_of_ble_eq_true rfl) rfl ?_
              refine g_goto 7 dX12_guess_142 (by decide) ?_
              cases hF
              refine g_sub [1, 2, 3, 0] rfl ?_
              exact hback _ _ _ rfl
            · replace hF := q_f c19 hF
              refine g_iload 3 dX12_guess_133 rfl ?_
              refine g_istore_n [(1, .int a4), (0, .ref a0), (2, .long a2), (4, .int a4), (5, .long o11)] dX12_guess_135 (Nat.le_of_ble_eq_true rfl) rfl ?_
              refine g_lload 4 dX12_guess_136 rfl ?_
              refine g_lstore_n [(2, .long o11), (1, .int a4), (0, .ref a0), (4, .int a4), (5, .long o11)] dX12_guess_138 (Nat.le_of_ble_eq_true rfl) rfl ?_
              refine g_iinc [(4, .int (a4 + 1)), (2, .long o11), (1, .int a4), (0, .ref a0), (5, .long o11)] 3 dX12_guess_139 rfl (congrArg (a4 + ·) lt_iconst_1) (Nat.le_of_ble_eq_true rfl) rfl ?_
              refine g_goto 7 dX12_guess_142 (by decide) ?_
              cases hF
              refine g_sub [3, 2, 1, 0] rfl ?_
              exact hback _ _ _ rfl
set_option maxRecDepth 100000 in
set_option maxHeartbeats 4000000 in
theorem L_X12_guess_7 (l : Launch) (b : Nat) (D : va_G) (z : Nat → Nat) {Φ : Option Value → qH → Nat → Prop} {nx : Nat} {h : qH} {a0 : Nat} : ∀ (n : Nat) (a1 : Int32) (a2 : Int64) (a4 : Int32) (e : Int32), q_lp (s_X12_guess_7 h a0) n (a1, a2, a4) = some e → (∀ (b1 : Int32), e = b1 → Go l b D z yX12_guess cX12_guess 11 (some .int) rm_X12_guess Φ 145 [(1, .int b1)] [] h nx 0 0) → Go l b D z yX12_guess cX12_guess 11 (some .int) rm_X12_guess Φ 7 [(0, .ref a0), (1, .int a1), (2, .long a2), (4, .int a4)] [] h nx 0 0 := by
  intro n
  induction n with
  | zero => intro a1 a2 a4 e he; cases (show none = some e from he)
  | succ n ih =>
    intro a1 a2 a4 e he hx0
    obtain ⟨o, ho, h1, h2⟩ := q_lp_succ he
    exact B_X12_guess_7 l b D z (show b_X12_guess_7 h a0 a1 a2 a4 = some o from ho) (fun b1 b2 b4 hb => ih _ _ _ e (h1 _ hb) hx0) (fun p0 hr => hx0 p0 (h2 _ hr).symm)
set_option maxRecDepth 100000 in
set_option maxHeartbeats 4000000 in
theorem M_X12_guess (l : Launch) (b : Nat) (D : va_G) (z : Nat → Nat) (nx : Nat) {h : qH} {a0 : Nat} {r : Int32} (hF : F_X12_guess h a0 = some r) : Me l b D z yX12_guess cX12_guess 11 (some .int) rm_X12_guess [.ref a0] h nx (qE (some (.int r)) h nx) := by
  refine Me.of (by decide +kernel) (Nat.le_of_ble_eq_true rfl) ?_
  show Go l b D z yX12_guess cX12_guess 11 (some .int) rm_X12_guess (qE (some (.int r)) h nx) 0 [(0, .ref a0)] [] h nx 0 0
  unfold F_X12_guess at hF
  refine g_iconst dX12_guess_0 lt_iconst_m1 ?_
  refine g_istore_n [(1, .int (-1 : Int32)), (0, .ref a0)] dX12_guess_1 (Nat.le_of_ble_eq_true rfl) rfl ?_
  refine g_lconst (v := 0) dX12_guess_2 (by decide +kernel) ?_
  refine g_lstore_n [(2, .long (0 : Int64)), (1, .int (-1 : Int32)), (0, .ref a0)] dX12_guess_3 (Nat.le_of_ble_eq_true rfl) rfl ?_
  refine g_iconst dX12_guess_4 lt_iconst_0 ?_
  refine g_istore [(4, .int (0 : Int32)), (2, .long (0 : Int64)), (1, .int (-1 : Int32)), (0, .ref a0)] dX12_guess_5 (Nat.le_of_ble_eq_true rfl) rfl ?_
  obtain ⟨e1, w2, hF⟩ := q_bind hF
  refine g_sub [3, 2, 1, 0] rfl ?_
  refine L_X12_guess_7 l b D z q_N (-1 : Int32) (0 : Int64) (0 : Int32) e1 w2 ?_
  · intro o3 w4
    replace w4 := w4.symm
    subst w4
    refine g_iload_n 0 dX12_guess_145 rfl ?_
    cases hF
    exact g_iret dX12_guess_146 rfl ⟨rfl, rfl, rfl⟩ (Nat.le_of_ble_eq_true rfl) (Nat.le_of_ble_eq_true rfl)
def rm_X12_fits : Room := { frames := 5, cells := 0, slots := 0, locals := 111 }
set_option maxRecDepth 100000 in
set_option maxHeartbeats 4000000 in
theorem M_X12_fits (l : Launch) (b : Nat) (D : va_G) (z : Nat → Nat) (nx : Nat) {h : qH} {a0 : Nat} {a1 : Int32} {a2 : Int32} {a3 : Int32} {r : Int64 × qH} (hF : F_X12_fits h a0 a1 a2 a3 = some r) : Me l b D z yX12_fits cX12_fits 4 (some .long) rm_X12_fits [.ref a0, .int a1, .int a2, .int a3] h nx (qE (some (.long r.1)) r.2 nx) := by
  refine Me.of (by decide +kernel) (Nat.le_of_ble_eq_true rfl) ?_
  show Go l b D z yX12_fits cX12_fits 4 (some .long) rm_X12_fits (qE (some (.long r.1)) r.2 nx) 0 [(0, .ref a0), (1, .int a1), (2, .int a2), (3, .int a3)] [] h nx 0 0
  unfold F_X12_fits at hF
  refine g_aload_n 0 dX12_fits_0 rfl ?_
  refine g_iconst dX12_fits_1 lt_iconst_0 ?_
  obtain ⟨h1, e2, hF⟩ := q_bind hF
  refine g_putf fl_X12_91 e2 rfl rfl dX12_fits_2 ?_
  refine g_aload_n 0 dX12_fits_5 rfl ?_
  refine g_iload_n 2 dX12_fits_6 rfl ?_
  obtain ⟨u3, e4, hF⟩ := q_bind hF
  obtain ⟨x5, e6, hF⟩ := q_bind hF
  refine g_callVr0 (ci := 12) (q := (RX12, TX12, 49)) qm_X12_hasLog wd_1973 wd_1975 wd_136 rfl e4 (M_X12_hasLog l b D z nx e6) (As := [.int a2]) rfl rfl (Nat.le_of_ble_eq_true rfl) ⟨(Nat.le_of_ble_eq_true rfl), (Nat.le_of_ble_eq_true rfl)⟩ ⟨rfl, rfl⟩ ⟨(Nat.le_of_ble_eq_true rfl), (Nat.le_of_ble_eq_true rfl)⟩ dX12_fits_7 ?_
  refine g_if_eq 21 dX12_fits_10 (by decide) (fun c7 => ?_) (fun c7 => ?_)
  · replace hF := q_t c7 hF
    refine g_ldc2 dX12_fits_21 wd_1989 ?_
    cases hF
    exact g_lret dX12_fits_24 rfl ⟨rfl, rfl, rfl⟩ (Nat.le_of_ble_eq_true rfl) (Nat.le_of_ble_eq_true rfl)
  · replace hF := q_f c7 hF
    refine g_aload_n 0 dX12_fits_13 rfl ?_
    refine g_iload_n 1 dX12_fits_14 rfl ?_
    obtain ⟨u8, e9, hF⟩ := q_bind hF
    obtain ⟨x10, e11, hF⟩ := q_bind hF
    refine g_callVr0 (ci := 12) (q := (RX12, TX12, 49)) qm_X12_hand wd_1750 wd_1752 wd_99 rfl e9 (M_X12_hand l b D z nx e11) (As := [.int a1]) rfl rfl (Nat.le_of_ble_eq_true rfl) ⟨(Nat.le_of_ble_eq_true rfl), (Nat.le_of_ble_eq_true rfl)⟩ ⟨rfl, rfl⟩ ⟨(Nat.le_of_ble_eq_true rfl), (Nat.le_of_ble_eq_true rfl)⟩ dX12_fits_15 ?_
    refine g_if_ne 25 dX12_fits_18 (by decide) (fun c12 => ?_) (fun c12 => ?_)
    · replace hF := q_f c12 hF
      refine g_aload_n 0 dX12_fits_25 rfl ?_
      obtain ⟨u13, e14, hF⟩ := q_bind hF
      obtain ⟨x15, e16, hF⟩ := q_bind hF
      refine g_callVv0 (ci := 12) (q := (RX12, TX12, 49)) qm_X12_findWays wd_1990 wd_1992 wd_139 rfl e14 (M_X12_findWays l b D z nx e16) (As := []) rfl rfl (Nat.le_of_ble_eq_true rfl) ⟨(Nat.le_of_ble_eq_true rfl), (Nat.le_of_ble_eq_true rfl)⟩ ⟨rfl, rfl⟩ ⟨(Nat.le_of_ble_eq_true rfl), (Nat.le_of_ble_eq_true rfl)⟩ dX12_fits_26 ?_
      refine g_iload_n 3 dX12_fits_29 rfl ?_
      refine g_bipush dX12_fits_30 lt_bipush_10 ?_
      refine g_bipush dX12_fits_32 lt_bipush_9 ?_
      refine g_aload_n 0 dX12_fits_34 rfl ?_
      obtain ⟨u17, e18, hF⟩ := q_bind hF
      obtain ⟨x19, e20, hF⟩ := q_bind hF
      refine g_callVr0 (ci := 12) (q := (RX12, TX12, 49)) qm_X12_voices wd_1977 wd_1979 wd_137 rfl e18 (M_X12_voices l b D z nx e20) (As := []) rfl rfl (Nat.le_of_ble_eq_true rfl) ⟨(Nat.le_of_ble_eq_true rfl), (Nat.le_of_ble_eq_true rfl)⟩ ⟨rfl, rfl⟩ ⟨(Nat.le_of_ble_eq_true rfl), (Nat.le_of_ble_eq_true rfl)⟩ dX12_fits_35 ?_
      refine g_iadd dX12_fits_38 ?_
      obtain ⟨x21, e22, hF⟩ := q_bind hF
      refine g_callSr0 qm_X12_in wd_1623 wd_1624 (M_X12_in l b D z nx e22) (As := [.int a3, .int (10 : Int32), .int ((9 : Int32) + x19)]) rfl rfl (Nat.le_of_ble_eq_true rfl) ⟨(Nat.le_of_ble_eq_true rfl), (Nat.le_of_ble_eq_true rfl)⟩ ⟨rfl, rfl⟩ ⟨(Nat.le_of_ble_eq_true rfl), (Nat.le_of_ble_eq_true rfl)⟩ dX12_fits_39 ?_
      refine g_if_eq 55 dX12_fits_42 (by decide) (fun c23 => ?_) (fun c23 => ?_)
      · replace hF := q_t c23 hF
        refine g_iload_n 3 dX12_fits_55 rfl ?_
        refine g_bipush dX12_fits_56 lt_bipush_30 ?_
        refine g_bipush dX12_fits_58 lt_bipush_29 ?_
        refine g_aload_n 0 dX12_fits_60 rfl ?_
        obtain ⟨u24, e25, hF⟩ := q_bind hF
        obtain ⟨x26, e27, hF⟩ := q_bind hF
        refine g_callVr0 (ci := 12) (q := (RX12, TX12, 49)) qm_X12_voices wd_1977 wd_1979 wd_137 rfl e25 (M_X12_voices l b D z nx e27) (As := []) rfl rfl (Nat.le_of_ble_eq_true rfl) ⟨(Nat.le_of_ble_eq_true rfl), (Nat.le_of_ble_eq_true rfl)⟩ ⟨rfl, rfl⟩ ⟨(Nat.le_of_ble_eq_true rfl), (Nat.le_of_ble_eq_true rfl)⟩ dX12_fits_61 ?_
        refine g_iadd dX12_fits_64 ?_
        obtain ⟨x28, e29, hF⟩ := q_bind hF
        refine g_callSr0 qm_X12_in wd_1623 wd_1624 (M_X12_in l b D z nx e29) (As := [.int a3, .int (30 : Int32), .int ((29 : Int32) + x26)]) rfl rfl (Nat.le_of_ble_eq_true rfl) ⟨(Nat.le_of_ble_eq_true rfl), (Nat.le_of_ble_eq_true rfl)⟩ ⟨rfl, rfl⟩ ⟨(Nat.le_of_ble_eq_true rfl), (Nat.le_of_ble_eq_true rfl)⟩ dX12_fits_65 ?_
        refine g_if_eq 81 dX12_fits_68 (by decide) (fun c30 => ?_) (fun c30 => ?_)
        · replace hF := q_t c30 hF
          refine g_iload_n 3 dX12_fits_81 rfl ?_
          refine g_iconst dX12_fits_82 lt_iconst_1 ?_
          refine g_icmp_ne 120 dX12_fits_83 (by decide) (fun c31 => ?_) (fun c31 => ?_)
          · replace hF := q_f c31 hF
            refine g_iload_n 3 dX12_fits_120 rfl ?_
            refine g_if_ne 131 dX12_fits_121 (by decide) (fun c32 => ?_) (fun c32 => ?_)
            · replace hF := q_f c32 hF
              refine g_iload_n 3 dX12_fits_131 rfl ?_
              refine g_iconst dX12_fits_132 lt_iconst_2 ?_
              refine g_icmp_ne 144 dX12_fits_133 (by decide) (fun c33 => ?_) (fun c33 => ?_)
              · replace hF := q_f c33 hF
                refine g_ldc2 dX12_fits_144 wd_1989 ?_
                cases hF
                exact g_lret dX12_fits_147 rfl ⟨rfl, rfl, rfl⟩ (Nat.le_of_ble_eq_true rfl) (Nat.le_of_ble_eq_true rfl)
              · replace hF := q_t c33 hF
                refine g_aload_n 0 dX12_fits_136 rfl ?_
                obtain ⟨u34, e35, hF⟩ := q_bind hF
                obtain ⟨x36, e37, hF⟩ := q_bind hF
                refine g_callVr0 (ci := 12) (q := (RX12, TX12, 49)) qm_X12_guess wd_2018 wd_2020 wd_146 rfl e35 (M_X12_guess l b D z nx e37) (As := []) rfl rfl (Nat.le_of_ble_eq_true rfl) ⟨(Nat.le_of_ble_eq_true rfl), (Nat.le_of_ble_eq_true rfl)⟩ ⟨rfl, rfl⟩ ⟨(Nat.le_of_ble_eq_true rfl), (Nat.le_of_ble_eq_true rfl)⟩ dX12_fits_137 ?_
                refine g_i2l dX12_fits_140 ?_
                refine g_goto 147 dX12_fits_141 (by decide) ?_
                cases hF
                exact g_lret dX12_fits_147 rfl ⟨rfl, rfl, rfl⟩ (Nat.le_of_ble_eq_true rfl) (Nat.le_of_ble_eq_true rfl)
            · replace hF := q_t c32 hF
              refine g_aload_n 0 dX12_fits_124 rfl ?_
              obtain ⟨x38, e39, hF⟩ := q_bind hF
              refine g_getfL fl_X12_449 e39 dX12_fits_125 ?_
              refine g_goto 147 dX12_fits_128 (by decide) ?_
              cases hF
              exact g_lret dX12_fits_147 rfl ⟨rfl, rfl, rfl⟩ (Nat.le_of_ble_eq_true rfl) (Nat.le_of_ble_eq_true rfl)
          · replace hF := q_t c31 hF
            refine g_aload_n 0 dX12_fits_86 rfl ?_
            obtain ⟨x40, e41, hF⟩ := q_bind hF
            refine g_getfL fl_X12_449 e41 dX12_fits_87 ?_
            refine g_lconst (v := 0) dX12_fits_90 (by decide +kernel) ?_
            refine g_lcmp dX12_fits_91 ?_
            refine g_if_ne 101 dX12_fits_92 (by decide) (fun c42 => ?_) (fun c42 => ?_)
            · replace hF := q_f c42 hF
              refine g_aload_n 0 dX12_fits_101 rfl ?_
              obtain ⟨u43, e44, hF⟩ := q_bind hF
              obtain ⟨x45, e46, hF⟩ := q_bind hF
              refine g_callVr0 (ci := 12) (q := (RX12, TX12, 49)) qm_X12_voices wd_1977 wd_1979 wd_137 rfl e44 (M_X12_voices l b D z nx e46) (As := []) rfl rfl (Nat.le_of_ble_eq_true rfl) ⟨(Nat.le_of_ble_eq_true rfl), (Nat.le_of_ble_eq_true rfl)⟩ ⟨rfl, rfl⟩ ⟨(Nat.le_of_ble_eq_true rfl), (Nat.le_of_ble_eq_true rfl)⟩ dX12_fits_102 ?_
              refine g_if_ne 112 dX12_fits_105 (by decide) (fun c47 => ?_) (fun c47 => ?_)
              · replace hF := q_f c47 hF
                refine g_aload_n 0 dX12_fits_112 rfl ?_
                obtain ⟨x48, e49, hF⟩ := q_bind hF
                refine g_getfR fl_X12_81 e49 dX12_fits_113 ?_
                refine g_iconst dX12_fits_116 lt_iconst_0 ?_
                obtain ⟨x50, e51, hF⟩ := q_bind hF
                refine g_iald e51 dX12_fits_117 ?_
                refine g_i2l dX12_fits_118 ?_
                cases hF
                exact g_lret dX12_fits_119 rfl ⟨rfl, rfl, rfl⟩ (Nat.le_of_ble_eq_true rfl) (Nat.le_of_ble_eq_true rfl)
              · replace hF := q_t c47 hF
                refine g_lconst (v := 0) dX12_fits_108 (by decide +kernel) ?_
                refine g_goto 119 dX12_fits_109 (by decide) ?_
                cases hF
                exact g_lret dX12_fits_119 rfl ⟨rfl, rfl, rfl⟩ (Nat.le_of_ble_eq_true rfl) (Nat.le_of_ble_eq_true rfl)
            · replace hF := q_t c42 hF
              refine g_ldc2 dX12_fits_95 wd_1922 ?_
              refine g_goto 119 dX12_fits_98 (by decide) ?_
              cases hF
              exact g_lret dX12_fits_119 rfl ⟨rfl, rfl, rfl⟩ (Nat.le_of_ble_eq_true rfl) (Nat.le_of_ble_eq_true rfl)
        · replace hF := q_f c30 hF
          refine g_aload_n 0 dX12_fits_71 rfl ?_
          refine g_iload_n 3 dX12_fits_72 rfl ?_
          refine g_bipush dX12_fits_73 lt_bipush_30 ?_
          refine g_isub dX12_fits_75 ?_
          obtain ⟨u52, e53, hF⟩ := q_bind hF
          obtain ⟨x54, e55, hF⟩ := q_bind hF
          refine g_callVr0 (ci := 12) (q := (RX12, TX12, 49)) qm_X12_sureOf wd_2010 wd_2012 wd_144 rfl e53 (M_X12_sureOf l b D z nx e55) (As := [.int (a3 - (30 : Int32))]) rfl rfl (Nat.le_of_ble_eq_true rfl) ⟨(Nat.le_of_ble_eq_true rfl), (Nat.le_of_ble_eq_true rfl)⟩ ⟨rfl, rfl⟩ ⟨(Nat.le_of_ble_eq_true rfl), (Nat.le_of_ble_eq_true rfl)⟩ dX12_fits_76 ?_
          refine g_i2l dX12_fits_79 ?_
          cases hF
          exact g_lret dX12_fits_80 rfl ⟨rfl, rfl, rfl⟩ (Nat.le_of_ble_eq_true rfl) (Nat.le_of_ble_eq_true rfl)
      · replace hF := q_f c23 hF
        refine g_aload_n 0 dX12_fits_45 rfl ?_
        refine g_iload_n 3 dX12_fits_46 rfl ?_
        refine g_bipush dX12_fits_47 lt_bipush_10 ?_
        refine g_isub dX12_fits_49 ?_
        obtain ⟨u56, e57, hF⟩ := q_bind hF
        obtain ⟨x58, e59, hF⟩ := q_bind hF
        refine g_callVr0 (ci := 12) (q := (RX12, TX12, 49)) qm_X12_firstAt wd_2006 wd_2008 wd_143 rfl e57 (M_X12_firstAt l b D z nx e59) (As := [.int (a3 - (10 : Int32))]) rfl rfl (Nat.le_of_ble_eq_true rfl) ⟨(Nat.le_of_ble_eq_true rfl), (Nat.le_of_ble_eq_true rfl)⟩ ⟨rfl, rfl⟩ ⟨(Nat.le_of_ble_eq_true rfl), (Nat.le_of_ble_eq_true rfl)⟩ dX12_fits_50 ?_
        refine g_i2l dX12_fits_53 ?_
        cases hF
        exact g_lret dX12_fits_54 rfl ⟨rfl, rfl, rfl⟩ (Nat.le_of_ble_eq_true rfl) (Nat.le_of_ble_eq_true rfl)
    · replace hF := q_t c12 hF
      refine g_ldc2 dX12_fits_21 wd_1989 ?_
      cases hF
      exact g_lret dX12_fits_24 rfl ⟨rfl, rfl, rfl⟩ (Nat.le_of_ble_eq_true rfl) (Nat.le_of_ble_eq_true rfl)
def rm_X12_townOf : Room := { frames := 0, cells := 0, slots := 0, locals := 0 }
set_option maxRecDepth 100000 in
set_option maxHeartbeats 4000000 in
theorem M_X12_townOf (l : Launch) (b : Nat) (D : va_G) (z : Nat → Nat) (nx : Nat) {h : qH} {a0 : Nat} {a1 : Int32} {r : Int32} (hF : F_X12_townOf h a0 a1 = some r) : Me l b D z yX12_townOf cX12_townOf 2 (some .int) rm_X12_townOf [.ref a0, .int a1] h nx (qE (some (.int r)) h nx) := by
  refine Me.of (by decide +kernel) (Nat.le_of_ble_eq_true rfl) ?_
  show Go l b D z yX12_townOf cX12_townOf 2 (some .int) rm_X12_townOf (qE (some (.int r)) h nx) 0 [(0, .ref a0), (1, .int a1)] [] h nx 0 0
  unfold F_X12_townOf at hF
  refine g_aload_n 0 dX12_townOf_0 rfl ?_
  obtain ⟨x1, e2, hF⟩ := q_bind hF
  refine g_getfR fl_X12_35 e2 dX12_townOf_1 ?_
  refine g_bipush dX12_townOf_4 lt_bipush_27 ?_
  refine g_aload_n 0 dX12_townOf_6 rfl ?_
  obtain ⟨x3, e4, hF⟩ := q_bind hF
  refine g_getfI fl_X12_470 e4 dX12_townOf_7 ?_
  refine g_imul dX12_townOf_10 ?_
  refine g_iload_n 1 dX12_townOf_11 rfl ?_
  refine g_iadd dX12_townOf_12 ?_
  obtain ⟨x5, e6, hF⟩ := q_bind hF
  refine g_iald e6 dX12_townOf_13 ?_
  cases hF
  exact g_iret dX12_townOf_14 rfl ⟨rfl, rfl, rfl⟩ (Nat.le_of_ble_eq_true rfl) (Nat.le_of_ble_eq_true rfl)
def rm_X12_between : Room := { frames := 1, cells := 0, slots := 0, locals := 21 }
set_option maxRecDepth 100000 in
set_option maxHeartbeats 4000000 in
theorem B_X12_between_9 (l : Launch) (b : Nat) (D : va_G) (z : Nat → Nat) {Φ : Option Value → qH → Nat → Prop} {nx : Nat} {h : qH} {a0 : Nat} {a1 : Int32} {a2 : Int32} {a3 : Int32} {a4 : Int32} {o : (Int32 × Int32) ⊕ Int32} (hF : b_X12_between_9 h a0 a1 a2 a3 a4 = some o) (hback : ∀ (b3 : Int32) (b4 : Int32), o = .inl (b3, b4) → Go l b D z yX12_between cX12_between 5 (some .int) rm_X12_between Φ 9 [(0, .ref a0), (1, .int a1), (2, .int a2), (3, .int b3), (4, .int b4)] [] h nx 0 0) (hx0 : ∀ (b3 : Int32), o = .inr b3 → Go l b D z yX12_between cX12_between 5 (some .int) rm_X12_between Φ 36 [(3, .int b3)] [] h nx 0 0) : Go l b D z yX12_between cX12_between 5 (some .int) rm_X12_between Φ 9 [(0, .ref a0), (1, .int a1), (2, .int a2), (3, .int a3), (4, .int a4)] [] h nx 0 0 := by
  unfold b_X12_between_9 at hF
  refine g_iload 4 dX12_between_9 rfl ?_
  refine g_iload_n 1 dX12_between_11 rfl ?_
  refine g_iload_n 2 dX12_between_12 rfl ?_
  obtain ⟨x1, e2, hF⟩ := q_bind hF
  refine g_callSr0 qm_X12_greater wd_1692 wd_1693 (M_X12_greater l b D z nx e2) (As := [.int a1, .int a2]) rfl rfl (Nat.le_of_ble_eq_true rfl) ⟨(Nat.le_of_ble_eq_true rfl), (Nat.le_of_ble_eq_true rfl)⟩ ⟨rfl, rfl⟩ ⟨(Nat.le_of_ble_eq_true rfl), (Nat.le_of_ble_eq_true rfl)⟩ dX12_between_13 ?_
  refine g_icmp_ge 36 dX12_between_16 (by decide) (fun c3 => ?_) (fun c3 => ?_)
  · replace hF := q_t c3 hF
    cases hF
    refine g_sub [3] rfl ?_
    exact hx0 _ rfl
  · replace hF := q_f c3 hF
    refine g_iload_n 3 dX12_between_19 rfl ?_
    refine g_aload_n 0 dX12_between_20 rfl ?_
    refine g_iconst dX12_between_21 lt_iconst_1 ?_
    refine g_iload 4 dX12_between_22 rfl ?_
    refine g_iadd dX12_between_24 ?_
    obtain ⟨u4, e5, hF⟩ := q_bind hF
    obtain ⟨x6, e7, hF⟩ := q_bind hF
    refine g_callVr0 (ci := 12) (q := (RX12, TX12, 49)) qm_X12_townOf wd_2026 wd_2028 wd_147 rfl e5 (M_X12_townOf l b D z nx e7) (As := [.int ((1 : Int32) + a4)]) rfl rfl (Nat.le_of_ble_eq_true rfl) ⟨(Nat.le_of_ble_eq_true rfl), (Nat.le_of_ble_eq_true rfl)⟩ ⟨rfl, rfl⟩ ⟨(Nat.le_of_ble_eq_true rfl), (Nat.le_of_ble_eq_true rfl)⟩ dX12_between_25 ?_
    refine g_iadd dX12_between_28 ?_
    refine g_istore_n [(3, .int (a3 + x6)), (0, .ref a0), (1, .int a1), (2, .int a2), (4, .int a4)] dX12_between_29 (Nat.le_of_ble_eq_true rfl) rfl ?_
    refine g_iinc [(4, .int (a4 + 1)), (3, .int (a3 + x6)), (0, .ref a0), (1, .int a1), (2, .int a2)] 4 dX12_between_30 rfl (congrArg (a4 + ·) lt_iconst_1) (Nat.le_of_ble_eq_true rfl) rfl ?_
    refine g_goto 9 dX12_between_33 (by decide) ?_
    cases hF
    refine g_sub [2, 3, 4, 1, 0] rfl ?_
    exact hback _ _ rfl
set_option maxRecDepth 100000 in
set_option maxHeartbeats 4000000 in
theorem L_X12_between_9 (l : Launch) (b : Nat) (D : va_G) (z : Nat → Nat) {Φ : Option Value → qH → Nat → Prop} {nx : Nat} {h : qH} {a0 : Nat} {a1 : Int32} {a2 : Int32} : ∀ (n : Nat) (a3 : Int32) (a4 : Int32) (e : Int32), q_lp (s_X12_between_9 h a0 a1 a2) n (a3, a4) = some e → (∀ (b3 : Int32), e = b3 → Go l b D z yX12_between cX12_between 5 (some .int) rm_X12_between Φ 36 [(3, .int b3)] [] h nx 0 0) → Go l b D z yX12_between cX12_between 5 (some .int) rm_X12_between Φ 9 [(0, .ref a0), (1, .int a1), (2, .int a2), (3, .int a3), (4, .int a4)] [] h nx 0 0 := by
  intro n
  induction n with
  | zero => intro a3 a4 e he; cases (show none = some e from he)
  | succ n ih =>
    intro a3 a4 e he hx0
    obtain ⟨o, ho, h1, h2⟩ := q_lp_succ he
    exact B_X12_between_9 l b D z (show b_X12_between_9 h a0 a1 a2 a3 a4 = some o from ho) (fun b3 b4 hb => ih _ _ e (h1 _ hb) hx0) (fun p0 hr => hx0 p0 (h2 _ hr).symm)
set_option maxRecDepth 100000 in
set_option maxHeartbeats 4000000 in
theorem M_X12_between (l : Launch) (b : Nat) (D : va_G) (z : Nat → Nat) (nx : Nat) {h : qH} {a0 : Nat} {a1 : Int32} {a2 : Int32} {r : Int32} (hF : F_X12_between h a0 a1 a2 = some r) : Me l b D z yX12_between cX12_between 5 (some .int) rm_X12_between [.ref a0, .int a1, .int a2] h nx (qE (some (.int r)) h nx) := by
  refine Me.of (by decide +kernel) (Nat.le_of_ble_eq_true rfl) ?_
  show Go l b D z yX12_between cX12_between 5 (some .int) rm_X12_between (qE (some (.int r)) h nx) 0 [(0, .ref a0), (1, .int a1), (2, .int a2)] [] h nx 0 0
  unfold F_X12_between at hF
  refine g_iconst dX12_between_0 lt_iconst_0 ?_
  refine g_istore_n [(3, .int (0 : Int32)), (0, .ref a0), (1, .int a1), (2, .int a2)] dX12_between_1 (Nat.le_of_ble_eq_true rfl) rfl ?_
  refine g_iload_n 2 dX12_between_2 rfl ?_
  refine g_iload_n 3 dX12_between_3 rfl ?_
  obtain ⟨x1, e2, hF⟩ := q_bind hF
  refine g_callSr0 qm_X12_lesser wd_1891 wd_1892 (M_X12_lesser l b D z nx e2) (As := [.int a1, .int a2]) rfl rfl (Nat.le_of_ble_eq_true rfl) ⟨(Nat.le_of_ble_eq_true rfl), (Nat.le_of_ble_eq_true rfl)⟩ ⟨rfl, rfl⟩ ⟨(Nat.le_of_ble_eq_true rfl), (Nat.le_of_ble_eq_true rfl)⟩ dX12_between_4 ?_
  refine g_istore [(4, .int x1), (3, .int (0 : Int32)), (0, .ref a0), (1, .int a1), (2, .int a2)] dX12_between_7 (Nat.le_of_ble_eq_true rfl) rfl ?_
  obtain ⟨e3, w4, hF⟩ := q_bind hF
  refine g_sub [2, 3, 4, 1, 0] rfl ?_
  refine L_X12_between_9 l b D z q_N (0 : Int32) x1 e3 w4 ?_
  · intro o5 w6
    replace w6 := w6.symm
    subst w6
    refine g_iload_n 0 dX12_between_36 rfl ?_
    cases hF
    exact g_iret dX12_between_37 rfl ⟨rfl, rfl, rfl⟩ (Nat.le_of_ble_eq_true rfl) (Nat.le_of_ble_eq_true rfl)
def rm_X12_isHeardIn : Room := { frames := 2, cells := 0, slots := 0, locals := 45 }
set_option maxRecDepth 100000 in
set_option maxHeartbeats 4000000 in
theorem M_X12_isHeardIn (l : Launch) (b : Nat) (D : va_G) (z : Nat → Nat) (nx : Nat) {h : qH} {a0 : Nat} {a1 : Int32} {a2 : Int32} {r : Int32} (hF : F_X12_isHeardIn h a0 a1 a2 = some r) : Me l b D z yX12_isHeardIn cX12_isHeardIn 3 (some .boolean) rm_X12_isHeardIn [.ref a0, .int a1, .int a2] h nx (qE (some (.int r)) h nx) := by
  refine Me.of (by decide +kernel) (Nat.le_of_ble_eq_true rfl) ?_
  show Go l b D z yX12_isHeardIn cX12_isHeardIn 3 (some .boolean) rm_X12_isHeardIn (qE (some (.int r)) h nx) 0 [(0, .ref a0), (1, .int a1), (2, .int a2)] [] h nx 0 0
  unfold F_X12_isHeardIn at hF
  refine g_aload_n 0 dX12_isHeardIn_0 rfl ?_
  refine g_iload_n 1 dX12_isHeardIn_1 rfl ?_
  refine g_iload_n 2 dX12_isHeardIn_2 rfl ?_
  obtain ⟨u1, e2, hF⟩ := q_bind hF
  obtain ⟨x3, e4, hF⟩ := q_bind hF
  refine g_callVr0 (ci := 12) (q := (RX12, TX12, 49)) qm_X12_between wd_2042 wd_2044 wd_151 rfl e2 (M_X12_between l b D z nx e4) (As := [.int a1, .int a2]) rfl rfl (Nat.le_of_ble_eq_true rfl) ⟨(Nat.le_of_ble_eq_true rfl), (Nat.le_of_ble_eq_true rfl)⟩ ⟨rfl, rfl⟩ ⟨(Nat.le_of_ble_eq_true rfl), (Nat.le_of_ble_eq_true rfl)⟩ dX12_isHeardIn_3 ?_
  refine g_aload_n 0 dX12_isHeardIn_6 rfl ?_
  refine g_bipush dX12_isHeardIn_7 lt_bipush_18 ?_
  refine g_iload_n 1 dX12_isHeardIn_9 rfl ?_
  refine g_iadd dX12_isHeardIn_10 ?_
  obtain ⟨u5, e6, hF⟩ := q_bind hF
  obtain ⟨x7, e8, hF⟩ := q_bind hF
  refine g_callVr0 (ci := 12) (q := (RX12, TX12, 49)) qm_X12_townOf wd_2026 wd_2028 wd_147 rfl e6 (M_X12_townOf l b D z nx e8) (As := [.int ((18 : Int32) + a1)]) rfl rfl (Nat.le_of_ble_eq_true rfl) ⟨(Nat.le_of_ble_eq_true rfl), (Nat.le_of_ble_eq_true rfl)⟩ ⟨rfl, rfl⟩ ⟨(Nat.le_of_ble_eq_true rfl), (Nat.le_of_ble_eq_true rfl)⟩ dX12_isHeardIn_11 ?_
  refine g_icmp_ge 21 dX12_isHeardIn_14 (by decide) (fun c9 => ?_) (fun c9 => ?_)
  · replace hF := q_t c9 hF
    refine g_iconst dX12_isHeardIn_21 lt_iconst_0 ?_
    cases hF
    exact g_zret dX12_isHeardIn_22 rfl zn_0 ⟨rfl, rfl, rfl⟩ (Nat.le_of_ble_eq_true rfl) (Nat.le_of_ble_eq_true rfl)
  · replace hF := q_f c9 hF
    refine g_iconst dX12_isHeardIn_17 lt_iconst_1 ?_
    refine g_goto 22 dX12_isHeardIn_18 (by decide) ?_
    cases hF
    exact g_zret dX12_isHeardIn_22 rfl zn_1 ⟨rfl, rfl, rfl⟩ (Nat.le_of_ble_eq_true rfl) (Nat.le_of_ble_eq_true rfl)
def rm_X12_heardIn : Room := { frames := 3, cells := 0, slots := 0, locals := 67 }
set_option maxRecDepth 100000 in
set_option maxHeartbeats 4000000 in
theorem B_X12_heardIn_4 (l : Launch) (b : Nat) (D : va_G) (z : Nat → Nat) {Φ : Option Value → qH → Nat → Prop} {nx : Nat} {h : qH} {a0 : Nat} {a1 : Int32} {a2 : Int32} {a3 : Int32} {o : (Int32 × Int32) ⊕ Int32} (hF : b_X12_heardIn_4 h a0 a1 a2 a3 = some o) (hback : ∀ (b2 : Int32) (b3 : Int32), o = .inl (b2, b3) → Go l b D z yX12_heardIn cX12_heardIn 4 (some .int) rm_X12_heardIn Φ 4 [(0, .ref a0), (1, .int a1), (2, .int b2), (3, .int b3)] [] h nx 0 0) (hx0 : ∀ (b2 : Int32), o = .inr b2 → Go l b D z yX12_heardIn cX12_heardIn 4 (some .int) rm_X12_heardIn Φ 37 [(2, .int b2)] [] h nx 0 0) : Go l b D z yX12_heardIn cX12_heardIn 4 (some .int) rm_X12_heardIn Φ 4 [(0, .ref a0), (1, .int a1), (2, .int a2), (3, .int a3)] [] h nx 0 0 := by
  unfold b_X12_heardIn_4 at hF
  refine g_iload_n 3 dX12_heardIn_4 rfl ?_
  refine g_aload_n 0 dX12_heardIn_5 rfl ?_
  obtain ⟨x1, e2, hF⟩ := q_bind hF
  refine g_getfI fl_X12_479 e2 dX12_heardIn_6 ?_
  refine g_icmp_ge 37 dX12_heardIn_9 (by decide) (fun c3 => ?_) (fun c3 => ?_)
  · replace hF := q_t c3 hF
    cases hF
    refine g_sub [2] rfl ?_
    exact hx0 _ rfl
  · replace hF := q_f c3 hF
    refine g_iload_n 2 dX12_heardIn_12 rfl ?_
    refine g_aload_n 0 dX12_heardIn_13 rfl ?_
    refine g_iload_n 1 dX12_heardIn_14 rfl ?_
    refine g_iload_n 3 dX12_heardIn_15 rfl ?_
    obtain ⟨u4, e5, hF⟩ := q_bind hF
    obtain ⟨x6, e7, hF⟩ := q_bind hF
    refine g_callVr0 (ci := 12) (q := (RX12, TX12, 49)) qm_X12_isHeardIn wd_2038 wd_2040 wd_150 rfl e5 (M_X12_isHeardIn l b D z nx e7) (As := [.int a1, .int a3]) rfl rfl (Nat.le_of_ble_eq_true rfl) ⟨(Nat.le_of_ble_eq_true rfl), (Nat.le_of_ble_eq_true rfl)⟩ ⟨rfl, rfl⟩ ⟨(Nat.le_of_ble_eq_true rfl), (Nat.le_of_ble_eq_true rfl)⟩ dX12_heardIn_16 ?_
    refine g_if_eq 28 dX12_heardIn_19 (by decide) (fun c8 => ?_) (fun c8 => ?_)
    · replace hF := q_t c8 hF
      refine g_iconst dX12_heardIn_28 lt_iconst_0 ?_
      refine g_ior dX12_heardIn_29 ?_
      refine g_istore_n [(2, .int (a2 ||| (0 : Int32))), (0, .ref a0), (1, .int a1), (3, .int a3)] dX12_heardIn_30 (Nat.le_of_ble_eq_true rfl) rfl ?_
      refine g_iinc [(3, .int (a3 + 1)), (2, .int (a2 ||| (0 : Int32))), (0, .ref a0), (1, .int a1)] 3 dX12_heardIn_31 rfl (congrArg (a3 + ·) lt_iconst_1) (Nat.le_of_ble_eq_true rfl) rfl ?_
      refine g_goto 4 dX12_heardIn_34 (by decide) ?_
      cases hF
      refine g_sub [2, 3, 1, 0] rfl ?_
      exact hback _ _ rfl
    · replace hF := q_f c8 hF
      refine g_iconst dX12_heardIn_22 lt_iconst_1 ?_
      refine g_iload_n 3 dX12_heardIn_23 rfl ?_
      refine g_ishl dX12_heardIn_24 ?_
      refine g_goto 29 dX12_heardIn_25 (by decide) ?_
      refine g_ior dX12_heardIn_29 ?_
      refine g_istore_n [(2, .int (a2 ||| (q_shl (1 : Int32) a3))), (0, .ref a0), (1, .int a1), (3, .int a3)] dX12_heardIn_30 (Nat.le_of_ble_eq_true rfl) rfl ?_
      refine g_iinc [(3, .int (a3 + 1)), (2, .int (a2 ||| (q_shl (1 : Int32) a3))), (0, .ref a0), (1, .int a1)] 3 dX12_heardIn_31 rfl (congrArg (a3 + ·) lt_iconst_1) (Nat.le_of_ble_eq_true rfl) rfl ?_
      refine g_goto 4 dX12_heardIn_34 (by decide) ?_
      cases hF
      refine g_sub [2, 3, 1, 0] rfl ?_
      exact hback _ _ rfl
set_option maxRecDepth 100000 in
set_option maxHeartbeats 4000000 in
theorem L_X12_heardIn_4 (l : Launch) (b : Nat) (D : va_G) (z : Nat → Nat) {Φ : Option Value → qH → Nat → Prop} {nx : Nat} {h : qH} {a0 : Nat} {a1 : Int32} : ∀ (n : Nat) (a2 : Int32) (a3 : Int32) (e : Int32), q_lp (s_X12_heardIn_4 h a0 a1) n (a2, a3) = some e → (∀ (b2 : Int32), e = b2 → Go l b D z yX12_heardIn cX12_heardIn 4 (some .int) rm_X12_heardIn Φ 37 [(2, .int b2)] [] h nx 0 0) → Go l b D z yX12_heardIn cX12_heardIn 4 (some .int) rm_X12_heardIn Φ 4 [(0, .ref a0), (1, .int a1), (2, .int a2), (3, .int a3)] [] h nx 0 0 := by
  intro n
  induction n with
  | zero => intro a2 a3 e he; cases (show none = some e from he)
  | succ n ih =>
    intro a2 a3 e he hx0
    obtain ⟨o, ho, h1, h2⟩ := q_lp_succ he
    exact B_X12_heardIn_4 l b D z (show b_X12_heardIn_4 h a0 a1 a2 a3 = some o from ho) (fun b2 b3 hb => ih _ _ e (h1 _ hb) hx0) (fun p0 hr => hx0 p0 (h2 _ hr).symm)
set_option maxRecDepth 100000 in
set_option maxHeartbeats 4000000 in
theorem M_X12_heardIn (l : Launch) (b : Nat) (D : va_G) (z : Nat → Nat) (nx : Nat) {h : qH} {a0 : Nat} {a1 : Int32} {r : Int32} (hF : F_X12_heardIn h a0 a1 = some r) : Me l b D z yX12_heardIn cX12_heardIn 4 (some .int) rm_X12_heardIn [.ref a0, .int a1] h nx (qE (some (.int r)) h nx) := by
  refine Me.of (by decide +kernel) (Nat.le_of_ble_eq_true rfl) ?_
  show Go l b D z yX12_heardIn cX12_heardIn 4 (some .int) rm_X12_heardIn (qE (some (.int r)) h nx) 0 [(0, .ref a0), (1, .int a1)] [] h nx 0 0
  unfold F_X12_heardIn at hF
  refine g_iconst dX12_heardIn_0 lt_iconst_0 ?_
  refine g_istore_n [(2, .int (0 : Int32)), (0, .ref a0), (1, .int a1)] dX12_heardIn_1 (Nat.le_of_ble_eq_true rfl) rfl ?_
  refine g_iconst dX12_heardIn_2 lt_iconst_0 ?_
  refine g_istore_n [(3, .int (0 : Int32)), (2, .int (0 : Int32)), (0, .ref a0), (1, .int a1)] dX12_heardIn_3 (Nat.le_of_ble_eq_true rfl) rfl ?_
  obtain ⟨e1, w2, hF⟩ := q_bind hF
  refine g_sub [2, 3, 1, 0] rfl ?_
  refine L_X12_heardIn_4 l b D z q_N (0 : Int32) (0 : Int32) e1 w2 ?_
  · intro o3 w4
    replace w4 := w4.symm
    subst w4
    refine g_iload_n 0 dX12_heardIn_37 rfl ?_
    cases hF
    exact g_iret dX12_heardIn_38 rfl ⟨rfl, rfl, rfl⟩ (Nat.le_of_ble_eq_true rfl) (Nat.le_of_ble_eq_true rfl)
def rm_X12_othersIn : Room := { frames := 3, cells := 0, slots := 0, locals := 67 }
set_option maxRecDepth 100000 in
set_option maxHeartbeats 4000000 in
theorem B_X12_othersIn_4 (l : Launch) (b : Nat) (D : va_G) (z : Nat → Nat) {Φ : Option Value → qH → Nat → Prop} {nx : Nat} {h : qH} {a0 : Nat} {a1 : Int32} {a2 : Int32} {a3 : Int32} {o : (Int32 × Int32) ⊕ Int32} (hF : b_X12_othersIn_4 h a0 a1 a2 a3 = some o) (hback : ∀ (b2 : Int32) (b3 : Int32), o = .inl (b2, b3) → Go l b D z yX12_othersIn cX12_othersIn 4 (some .int) rm_X12_othersIn Φ 4 [(0, .ref a0), (1, .int a1), (2, .int b2), (3, .int b3)] [] h nx 0 0) (hx0 : ∀ (b2 : Int32), o = .inr b2 → Go l b D z yX12_othersIn cX12_othersIn 4 (some .int) rm_X12_othersIn Φ 40 [(2, .int b2)] [] h nx 0 0) : Go l b D z yX12_othersIn cX12_othersIn 4 (some .int) rm_X12_othersIn Φ 4 [(0, .ref a0), (1, .int a1), (2, .int a2), (3, .int a3)] [] h nx 0 0 := by
  unfold b_X12_othersIn_4 at hF
  refine g_iload_n 3 dX12_othersIn_4 rfl ?_
  refine g_aload_n 0 dX12_othersIn_5 rfl ?_
  obtain ⟨x1, e2, hF⟩ := q_bind hF
  refine g_getfI fl_X12_479 e2 dX12_othersIn_6 ?_
  refine g_icmp_ge 40 dX12_othersIn_9 (by decide) (fun c3 => ?_) (fun c3 => ?_)
  · replace hF := q_t c3 hF
    cases hF
    refine g_sub [2] rfl ?_
    exact hx0 _ rfl
  · replace hF := q_f c3 hF
    refine g_iload_n 2 dX12_othersIn_12 rfl ?_
    refine g_iload_n 3 dX12_othersIn_13 rfl ?_
    refine g_iload_n 1 dX12_othersIn_14 rfl ?_
    refine g_icmp_eq 31 dX12_othersIn_15 (by decide) (fun c4 => ?_) (fun c4 => ?_)
    · replace hF := q_t c4 hF
      refine g_iconst dX12_othersIn_31 lt_iconst_0 ?_
      refine g_iadd dX12_othersIn_32 ?_
      refine g_istore_n [(2, .int (a2 + (0 : Int32))), (0, .ref a0), (1, .int a1), (3, .int a3)] dX12_othersIn_33 (Nat.le_of_ble_eq_true rfl) rfl ?_
      refine g_iinc [(3, .int (a3 + 1)), (2, .int (a2 + (0 : Int32))), (0, .ref a0), (1, .int a1)] 3 dX12_othersIn_34 rfl (congrArg (a3 + ·) lt_iconst_1) (Nat.le_of_ble_eq_true rfl) rfl ?_
      refine g_goto 4 dX12_othersIn_37 (by decide) ?_
      cases hF
      refine g_sub [2, 3, 1, 0] rfl ?_
      exact hback _ _ rfl
    · replace hF := q_f c4 hF
      refine g_aload_n 0 dX12_othersIn_18 rfl ?_
      refine g_iload_n 3 dX12_othersIn_19 rfl ?_
      refine g_iload_n 1 dX12_othersIn_20 rfl ?_
      obtain ⟨u5, e6, hF⟩ := q_bind hF
      obtain ⟨x7, e8, hF⟩ := q_bind hF
      refine g_callVr0 (ci := 12) (q := (RX12, TX12, 49)) qm_X12_isHeardIn wd_2038 wd_2040 wd_150 rfl e6 (M_X12_isHeardIn l b D z nx e8) (As := [.int a3, .int a1]) rfl rfl (Nat.le_of_ble_eq_true rfl) ⟨(Nat.le_of_ble_eq_true rfl), (Nat.le_of_ble_eq_true rfl)⟩ ⟨rfl, rfl⟩ ⟨(Nat.le_of_ble_eq_true rfl), (Nat.le_of_ble_eq_true rfl)⟩ dX12_othersIn_21 ?_
      refine g_if_eq 31 dX12_othersIn_24 (by decide) (fun c9 => ?_) (fun c9 => ?_)
      · replace hF := q_t c9 hF
        refine g_iconst dX12_othersIn_31 lt_iconst_0 ?_
        refine g_iadd dX12_othersIn_32 ?_
        refine g_istore_n [(2, .int (a2 + (0 : Int32))), (0, .ref a0), (1, .int a1), (3, .int a3)] dX12_othersIn_33 (Nat.le_of_ble_eq_true rfl) rfl ?_
        refine g_iinc [(3, .int (a3 + 1)), (2, .int (a2 + (0 : Int32))), (0, .ref a0), (1, .int a1)] 3 dX12_othersIn_34 rfl (congrArg (a3 + ·) lt_iconst_1) (Nat.le_of_ble_eq_true rfl) rfl ?_
        refine g_goto 4 dX12_othersIn_37 (by decide) ?_
        cases hF
        refine g_sub [2, 3, 1, 0] rfl ?_
        exact hback _ _ rfl
      · replace hF := q_f c9 hF
        refine g_iconst dX12_othersIn_27 lt_iconst_1 ?_
        refine g_goto 32 dX12_othersIn_28 (by decide) ?_
        refine g_iadd dX12_othersIn_32 ?_
        refine g_istore_n [(2, .int (a2 + (1 : Int32))), (0, .ref a0), (1, .int a1), (3, .int a3)] dX12_othersIn_33 (Nat.le_of_ble_eq_true rfl) rfl ?_
        refine g_iinc [(3, .int (a3 + 1)), (2, .int (a2 + (1 : Int32))), (0, .ref a0), (1, .int a1)] 3 dX12_othersIn_34 rfl (congrArg (a3 + ·) lt_iconst_1) (Nat.le_of_ble_eq_true rfl) rfl ?_
        refine g_goto 4 dX12_othersIn_37 (by decide) ?_
        cases hF
        refine g_sub [2, 3, 1, 0] rfl ?_
        exact hback _ _ rfl
set_option maxRecDepth 100000 in
set_option maxHeartbeats 4000000 in
theorem L_X12_othersIn_4 (l : Launch) (b : Nat) (D : va_G) (z : Nat → Nat) {Φ : Option Value → qH → Nat → Prop} {nx : Nat} {h : qH} {a0 : Nat} {a1 : Int32} : ∀ (n : Nat) (a2 : Int32) (a3 : Int32) (e : Int32), q_lp (s_X12_othersIn_4 h a0 a1) n (a2, a3) = some e → (∀ (b2 : Int32), e = b2 → Go l b D z yX12_othersIn cX12_othersIn 4 (some .int) rm_X12_othersIn Φ 40 [(2, .int b2)] [] h nx 0 0) → Go l b D z yX12_othersIn cX12_othersIn 4 (some .int) rm_X12_othersIn Φ 4 [(0, .ref a0), (1, .int a1), (2, .int a2), (3, .int a3)] [] h nx 0 0 := by
  intro n
  induction n with
  | zero => intro a2 a3 e he; cases (show none = some e from he)
  | succ n ih =>
    intro a2 a3 e he hx0
    obtain ⟨o, ho, h1, h2⟩ := q_lp_succ he
    exact B_X12_othersIn_4 l b D z (show b_X12_othersIn_4 h a0 a1 a2 a3 = some o from ho) (fun b2 b3 hb => ih _ _ e (h1 _ hb) hx0) (fun p0 hr => hx0 p0 (h2 _ hr).symm)
set_option maxRecDepth 100000 in
set_option maxHeartbeats 4000000 in
theorem M_X12_othersIn (l : Launch) (b : Nat) (D : va_G) (z : Nat → Nat) (nx : Nat) {h : qH} {a0 : Nat} {a1 : Int32} {r : Int32} (hF : F_X12_othersIn h a0 a1 = some r) : Me l b D z yX12_othersIn cX12_othersIn 4 (some .int) rm_X12_othersIn [.ref a0, .int a1] h nx (qE (some (.int r)) h nx) := by
  refine Me.of (by decide +kernel) (Nat.le_of_ble_eq_true rfl) ?_
  show Go l b D z yX12_othersIn cX12_othersIn 4 (some .int) rm_X12_othersIn (qE (some (.int r)) h nx) 0 [(0, .ref a0), (1, .int a1)] [] h nx 0 0
  unfold F_X12_othersIn at hF
  refine g_iconst dX12_othersIn_0 lt_iconst_0 ?_
  refine g_istore_n [(2, .int (0 : Int32)), (0, .ref a0), (1, .int a1)] dX12_othersIn_1 (Nat.le_of_ble_eq_true rfl) rfl ?_
  refine g_iconst dX12_othersIn_2 lt_iconst_0 ?_
  refine g_istore_n [(3, .int (0 : Int32)), (2, .int (0 : Int32)), (0, .ref a0), (1, .int a1)] dX12_othersIn_3 (Nat.le_of_ble_eq_true rfl) rfl ?_
  obtain ⟨e1, w2, hF⟩ := q_bind hF
  refine g_sub [2, 3, 1, 0] rfl ?_
  refine L_X12_othersIn_4 l b D z q_N (0 : Int32) (0 : Int32) e1 w2 ?_
  · intro o3 w4
    replace w4 := w4.symm
    subst w4
    refine g_iload_n 0 dX12_othersIn_40 rfl ?_
    cases hF
    exact g_iret dX12_othersIn_41 rfl ⟨rfl, rfl, rfl⟩ (Nat.le_of_ble_eq_true rfl) (Nat.le_of_ble_eq_true rfl)
def rm_X12_listen : Room := { frames := 4, cells := 0, slots := 0, locals := 90 }
set_option maxRecDepth 100000 in
set_option maxHeartbeats 4000000 in
theorem B_X12_listen_4 (l : Launch) (b : Nat) (D : va_G) (z : Nat → Nat) {Φ : Option Value → qH → Nat → Prop} {nx : Nat} {h : qH} {a0 : Nat} {a1 : Int32} {a2 : Int32} {o : (Int32 × Int32) ⊕ Int32} (hF : b_X12_listen_4 h a0 a1 a2 = some o) (hback : ∀ (b1 : Int32) (b2 : Int32), o = .inl (b1, b2) → Go l b D z yX12_listen cX12_listen 3 (some .int) rm_X12_listen Φ 4 [(0, .ref a0), (1, .int b1), (2, .int b2)] [] h nx 0 0) (hx0 : ∀ (b1 : Int32), o = .inr b1 → Go l b D z yX12_listen cX12_listen 3 (some .int) rm_X12_listen Φ 37 [(1, .int b1)] [] h nx 0 0) : Go l b D z yX12_listen cX12_listen 3 (some .int) rm_X12_listen Φ 4 [(0, .ref a0), (1, .int a1), (2, .int a2)] [] h nx 0 0 := by
  unfold b_X12_listen_4 at hF
  refine g_iload_n 2 dX12_listen_4 rfl ?_
  refine g_aload_n 0 dX12_listen_5 rfl ?_
  obtain ⟨x1, e2, hF⟩ := q_bind hF
  refine g_getfI fl_X12_479 e2 dX12_listen_6 ?_
  refine g_icmp_ge 37 dX12_listen_9 (by decide) (fun c3 => ?_) (fun c3 => ?_)
  · replace hF := q_t c3 hF
    cases hF
    refine g_sub [1] rfl ?_
    exact hx0 _ rfl
  · replace hF := q_f c3 hF
    refine g_aload_n 0 dX12_listen_12 rfl ?_
    refine g_iload_n 2 dX12_listen_13 rfl ?_
    obtain ⟨u4, e5, hF⟩ := q_bind hF
    obtain ⟨x6, e7, hF⟩ := q_bind hF
    refine g_callVr0 (ci := 12) (q := (RX12, TX12, 49)) qm_X12_othersIn wd_2050 wd_2052 wd_153 rfl e5 (M_X12_othersIn l b D z nx e7) (As := [.int a2]) rfl rfl (Nat.le_of_ble_eq_true rfl) ⟨(Nat.le_of_ble_eq_true rfl), (Nat.le_of_ble_eq_true rfl)⟩ ⟨rfl, rfl⟩ ⟨(Nat.le_of_ble_eq_true rfl), (Nat.le_of_ble_eq_true rfl)⟩ dX12_listen_14 ?_
    refine g_aload_n 0 dX12_listen_17 rfl ?_
    refine g_iload_n 1 dX12_listen_18 rfl ?_
    obtain ⟨u8, e9, hF⟩ := q_bind hF
    obtain ⟨x10, e11, hF⟩ := q_bind hF
    refine g_callVr0 (ci := 12) (q := (RX12, TX12, 49)) qm_X12_othersIn wd_2050 wd_2052 wd_153 rfl e9 (M_X12_othersIn l b D z nx e11) (As := [.int a1]) rfl rfl (Nat.le_of_ble_eq_true rfl) ⟨(Nat.le_of_ble_eq_true rfl), (Nat.le_of_ble_eq_true rfl)⟩ ⟨rfl, rfl⟩ ⟨(Nat.le_of_ble_eq_true rfl), (Nat.le_of_ble_eq_true rfl)⟩ dX12_listen_19 ?_
    refine g_icmp_le 29 dX12_listen_22 (by decide) (fun c12 => ?_) (fun c12 => ?_)
    · replace hF := q_t c12 hF
      refine g_iload_n 1 dX12_listen_29 rfl ?_
      refine g_istore_n [(1, .int a1), (0, .ref a0), (2, .int a2)] dX12_listen_30 (Nat.le_of_ble_eq_true rfl) rfl ?_
      refine g_iinc [(2, .int (a2 + 1)), (1, .int a1), (0, .ref a0)] 2 dX12_listen_31 rfl (congrArg (a2 + ·) lt_iconst_1) (Nat.le_of_ble_eq_true rfl) rfl ?_
      refine g_goto 4 dX12_listen_34 (by decide) ?_
      cases hF
      refine g_sub [2, 1, 0] rfl ?_
      exact hback _ _ rfl
    · replace hF := q_f c12 hF
      refine g_iload_n 2 dX12_listen_25 rfl ?_
      refine g_goto 30 dX12_listen_26 (by decide) ?_
      refine g_istore_n [(1, .int a2), (0, .ref a0), (2, .int a2)] dX12_listen_30 (Nat.le_of_ble_eq_true rfl) rfl ?_
      refine g_iinc [(2, .int (a2 + 1)), (1, .int a2), (0, .ref a0)] 2 dX12_listen_31 rfl (congrArg (a2 + ·) lt_iconst_1) (Nat.le_of_ble_eq_true rfl) rfl ?_
      refine g_goto 4 dX12_listen_34 (by decide) ?_
      cases hF
      refine g_sub [2, 1, 0] rfl ?_
      exact hback _ _ rfl
set_option maxRecDepth 100000 in
set_option maxHeartbeats 4000000 in
theorem L_X12_listen_4 (l : Launch) (b : Nat) (D : va_G) (z : Nat → Nat) {Φ : Option Value → qH → Nat → Prop} {nx : Nat} {h : qH} {a0 : Nat} : ∀ (n : Nat) (a1 : Int32) (a2 : Int32) (e : Int32), q_lp (s_X12_listen_4 h a0) n (a1, a2) = some e → (∀ (b1 : Int32), e = b1 → Go l b D z yX12_listen cX12_listen 3 (some .int) rm_X12_listen Φ 37 [(1, .int b1)] [] h nx 0 0) → Go l b D z yX12_listen cX12_listen 3 (some .int) rm_X12_listen Φ 4 [(0, .ref a0), (1, .int a1), (2, .int a2)] [] h nx 0 0 := by
  intro n
  induction n with
  | zero => intro a1 a2 e he; cases (show none = some e from he)
  | succ n ih =>
    intro a1 a2 e he hx0
    obtain ⟨o, ho, h1, h2⟩ := q_lp_succ he
    exact B_X12_listen_4 l b D z (show b_X12_listen_4 h a0 a1 a2 = some o from ho) (fun b1 b2 hb => ih _ _ e (h1 _ hb) hx0) (fun p0 hr => hx0 p0 (h2 _ hr).symm)
set_option maxRecDepth 100000 in
set_option maxHeartbeats 4000000 in
theorem M_X12_listen (l : Launch) (b : Nat) (D : va_G) (z : Nat → Nat) (nx : Nat) {h : qH} {a0 : Nat} {r : Int32} (hF : F_X12_listen h a0 = some r) : Me l b D z yX12_listen cX12_listen 3 (some .int) rm_X12_listen [.ref a0] h nx (qE (some (.int r)) h nx) := by
  refine Me.of (by decide +kernel) (Nat.le_of_ble_eq_true rfl) ?_
  show Go l b D z yX12_listen cX12_listen 3 (some .int) rm_X12_listen (qE (some (.int r)) h nx) 0 [(0, .ref a0)] [] h nx 0 0
  unfold F_X12_listen at hF
  refine g_iconst dX12_listen_0 lt_iconst_0 ?_
  refine g_istore_n [(1, .int (0 : Int32)), (0, .ref a0)] dX12_listen_1 (Nat.le_of_ble_eq_true rfl) rfl ?_
  refine g_iconst dX12_listen_2 lt_iconst_1 ?_
  refine g_istore_n [(2, .int (1 : Int32)), (1, .int (0 : Int32)), (0, .ref a0)] dX12_listen_3 (Nat.le_of_ble_eq_true rfl) rfl ?_
  obtain ⟨e1, w2, hF⟩ := q_bind hF
  refine g_sub [2, 1, 0] rfl ?_
  refine L_X12_listen_4 l b D z q_N (0 : Int32) (1 : Int32) e1 w2 ?_
  · intro o3 w4
    replace w4 := w4.symm
    subst w4
    refine g_iload_n 0 dX12_listen_37 rfl ?_
    cases hF
    exact g_iret dX12_listen_38 rfl ⟨rfl, rfl, rfl⟩ (Nat.le_of_ble_eq_true rfl) (Nat.le_of_ble_eq_true rfl)
def rm_X12_guard : Room := { frames := 4, cells := 0, slots := 0, locals := 90 }
set_option maxRecDepth 100000 in
set_option maxHeartbeats 4000000 in
theorem B_X12_guard_39 (l : Launch) (b : Nat) (D : va_G) (z : Nat → Nat) {Φ : Option Value → qH → Nat → Prop} {nx : Nat} {h : qH} {a0 : Nat} {a1 : Int32} {a2 : Int32} {a3 : Int32} {a4 : Int32} {o : (Int32 × Int32) ⊕ Int32} (hF : b_X12_guard_39 h a0 a1 a2 a3 a4 = some o) (hback : ∀ (b3 : Int32) (b4 : Int32), o = .inl (b3, b4) → Go l b D z yX12_guard cX12_guard 5 (some .int) rm_X12_guard Φ 39 [(0, .ref a0), (1, .int a1), (2, .int a2), (3, .int b3), (4, .int b4)] [] h nx 0 0) (hx0 : ∀ (b3 : Int32), o = .inr b3 → Go l b D z yX12_guard cX12_guard 5 (some .int) rm_X12_guard Φ 96 [(0, .ref a0), (1, .int a1), (2, .int a2), (3, .int b3)] [] h nx 0 0) : Go l b D z yX12_guard cX12_guard 5 (some .int) rm_X12_guard Φ 39 [(0, .ref a0), (1, .int a1), (2, .int a2), (3, .int a3), (4, .int a4)] [] h nx 0 0 := by
  unfold b_X12_guard_39 at hF
  refine g_iload 4 dX12_guard_39 rfl ?_
  refine g_aload_n 0 dX12_guard_41 rfl ?_
  obtain ⟨x1, e2, hF⟩ := q_bind hF
  refine g_getfI fl_X12_479 e2 dX12_guard_42 ?_
  refine g_icmp_ge 96 dX12_guard_45 (by decide) (fun c3 => ?_) (fun c3 => ?_)
  · replace hF := q_t c3 hF
    cases hF
    refine g_sub [0, 1, 2, 3] rfl ?_
    exact hx0 _ rfl
  · replace hF := q_f c3 hF
    refine g_iload_n 3 dX12_guard_48 rfl ?_
    refine g_if_eq 96 dX12_guard_49 (by decide) (fun c4 => ?_) (fun c4 => ?_)
    · replace hF := q_t c4 hF
      cases hF
      refine g_sub [0, 1, 2, 3] rfl ?_
      exact hx0 _ rfl
    · replace hF := q_f c4 hF
      refine g_iload_n 2 dX12_guard_52 rfl ?_
      refine g_iload 4 dX12_guard_53 rfl ?_
      obtain ⟨x5, e6, hF⟩ := q_bind hF
      refine g_callSr0 qm_X12_has wd_1825 wd_1826 (M_X12_has l b D z nx e6) (As := [.int a2, .int a4]) rfl rfl (Nat.le_of_ble_eq_true rfl) ⟨(Nat.le_of_ble_eq_true rfl), (Nat.le_of_ble_eq_true rfl)⟩ ⟨rfl, rfl⟩ ⟨(Nat.le_of_ble_eq_true rfl), (Nat.le_of_ble_eq_true rfl)⟩ dX12_guard_55 ?_
      refine g_if_ne 84 dX12_guard_58 (by decide) (fun c7 => ?_) (fun c7 => ?_)
      · replace hF := q_f c7 hF
        refine g_iconst dX12_guard_84 lt_iconst_1 ?_
        refine g_goto 89 dX12_guard_85 (by decide) ?_
        refine g_istore_n [(3, .int (1 : Int32)), (0, .ref a0), (1, .int a1), (2, .int a2), (4, .int a4)] dX12_guard_89 (Nat.le_of_ble_eq_true rfl) rfl ?_
        refine g_iinc [(4, .int (a4 + 1)), (3, .int (1 : Int32)), (0, .ref a0), (1, .int a1), (2, .int a2)] 4 dX12_guard_90 rfl (congrArg (a4 + ·) lt_iconst_1) (Nat.le_of_ble_eq_true rfl) rfl ?_
        refine g_goto 39 dX12_guard_93 (by decide) ?_
        cases hF
        refine g_sub [2, 3, 4, 1, 0] rfl ?_
        exact hback _ _ rfl
      · replace hF := q_t c7 hF
        refine g_aload_n 0 dX12_guard_61 rfl ?_
        refine g_bipush dX12_guard_62 lt_bipush_18 ?_
        refine g_iload 4 dX12_guard_64 rfl ?_
        refine g_iadd dX12_guard_66 ?_
        obtain ⟨u8, e9, hF⟩ := q_bind hF
        obtain ⟨x10, e11, hF⟩ := q_bind hF
        refine g_callVr0 (ci := 12) (q := (RX12, TX12, 49)) qm_X12_townOf wd_2026 wd_2028 wd_147 rfl e9 (M_X12_townOf l b D z nx e11) (As := [.int ((18 : Int32) + a4)]) rfl rfl (Nat.le_of_ble_eq_true rfl) ⟨(Nat.le_of_ble_eq_true rfl), (Nat.le_of_ble_eq_true rfl)⟩ ⟨rfl, rfl⟩ ⟨(Nat.le_of_ble_eq_true rfl), (Nat.le_of_ble_eq_true rfl)⟩ dX12_guard_67 ?_
        refine g_if_eq 84 dX12_guard_70 (by decide) (fun c12 => ?_) (fun c12 => ?_)
        · replace hF := q_t c12 hF
          refine g_iconst dX12_guard_84 lt_iconst_1 ?_
          refine g_goto 89 dX12_guard_85 (by decide) ?_
          refine g_istore_n [(3, .int (1 : Int32)), (0, .ref a0), (1, .int a1), (2, .int a2), (4, .int a4)] dX12_guard_89 (Nat.le_of_ble_eq_true rfl) rfl ?_
          refine g_iinc [(4, .int (a4 + 1)), (3, .int (1 : Int32)), (0, .ref a0), (1, .int a1), (2, .int a2)] 4 dX12_guard_90 rfl (congrArg (a4 + ·) lt_iconst_1) (Nat.le_of_ble_eq_true rfl) rfl ?_
          refine g_goto 39 dX12_guard_93 (by decide) ?_
          cases hF
          refine g_sub [2, 3, 4, 1, 0] rfl ?_
          exact hback _ _ rfl
        · replace hF := q_f c12 hF
          refine g_aload_n 0 dX12_guard_73 rfl ?_
          refine g_iload 4 dX12_guard_74 rfl ?_
          obtain ⟨u13, e14, hF⟩ := q_bind hF
          obtain ⟨x15, e16, hF⟩ := q_bind hF
          refine g_callVr0 (ci := 12) (q := (RX12, TX12, 49)) qm_X12_heardIn wd_2034 wd_2036 wd_149 rfl e14 (M_X12_heardIn l b D z nx e16) (As := [.int a4]) rfl rfl (Nat.le_of_ble_eq_true rfl) ⟨(Nat.le_of_ble_eq_true rfl), (Nat.le_of_ble_eq_true rfl)⟩ ⟨rfl, rfl⟩ ⟨(Nat.le_of_ble_eq_true rfl), (Nat.le_of_ble_eq_true rfl)⟩ dX12_guard_76 ?_
          refine g_iload_n 2 dX12_guard_79 rfl ?_
          refine g_iand dX12_guard_80 ?_
          refine g_if_eq 88 dX12_guard_81 (by decide) (fun c17 => ?_) (fun c17 => ?_)
          · replace hF := q_t c17 hF
            refine g_iconst dX12_guard_88 lt_iconst_0 ?_
            refine g_istore_n [(3, .int (0 : Int32)), (0, .ref a0), (1, .int a1), (2, .int a2), (4, .int a4)] dX12_guard_89 (Nat.le_of_ble_eq_true rfl) rfl ?_
            refine g_iinc [(4, .int (a4 + 1)), (3, .int (0 : Int32)), (0, .ref a0), (1, .int a1), (2, .int a2)] 4 dX12_guard_90 rfl (congrArg (a4 + ·) lt_iconst_1) (Nat.le_of_ble_eq_true rfl) rfl ?_
            refine g_goto 39 dX12_guard_93 (by decide) ?_
            cases hF
            refine g_sub [2, 3, 4, 1, 0] rfl ?_
            exact hback _ _ rfl
          · replace hF := q_f c17 hF
            refine g_iconst dX12_guard_84 lt_iconst_1 ?_
            refine g_goto 89 dX12_guard_85 (by decide) ?_
            refine g_istore_n [(3, .int (1 : Int32)), (0, .ref a0), (1, .int a1), (2, .int a2), (4, .int a4)] dX12_guard_89 (Nat.le_of_ble_eq_true rfl) rfl ?_
            refine g_iinc [(4, .int (a4 + 1)), (3, .int (1 : Int32)), (0, .ref a0), (1, .int a1), (2, .int a2)] 4 dX12_guard_90 rfl (congrArg (a4 + ·) lt_iconst_1) (Nat.le_of_ble_eq_true rfl) rfl ?_
            refine g_goto 39 dX12_guard_93 (by decide) ?_
            cases hF
            refine g_sub [2, 3, 4, 1, 0] rfl ?_
            exact hback _ _ rfl
set_option maxRecDepth 100000 in
set_option maxHeartbeats 4000000 in
theorem L_X12_guard_39 (l : Launch) (b : Nat) (D : va_G) (z : Nat → Nat) {Φ : Option Value → qH → Nat → Prop} {nx : Nat} {h : qH} {a0 : Nat} {a1 : Int32} {a2 : Int32} : ∀ (n : Nat) (a3 : Int32) (a4 : Int32) (e : Int32), q_lp (s_X12_guard_39 h a0 a1 a2) n (a3, a4) = some e → (∀ (b3 : Int32), e = b3 → Go l b D z yX12_guard cX12_guard 5 (some .int) rm_X12_guard Φ 96 [(0, .ref a0), (1, .int a1), (2, .int a2), (3, .int b3)] [] h nx 0 0) → Go l b D z yX12_guard cX12_guard 5 (some .int) rm_X12_guard Φ 39 [(0, .ref a0), (1, .int a1), (2, .int a2), (3, .int a3), (4, .int a4)] [] h nx 0 0 := by
  intro n
  induction n with
  | zero => intro a3 a4 e he; cases (show none = some e from he)
  | succ n ih =>
    intro a3 a4 e he hx0
    obtain ⟨o, ho, h1, h2⟩ := q_lp_succ he
    exact B_X12_guard_39 l b D z (show b_X12_guard_39 h a0 a1 a2 a3 a4 = some o from ho) (fun b3 b4 hb => ih _ _ e (h1 _ hb) hx0) (fun p0 hr => hx0 p0 (h2 _ hr).symm)
set_option maxRecDepth 100000 in
set_option maxHeartbeats 4000000 in
theorem J_X12_guard_96 (l : Launch) (b : Nat) (D : va_G) (z : Nat → Nat) {Φ : Option Value → qH → Nat → Prop} {nx : Nat} {h : qH} {a0 : Nat} {a1 : Int32} {a2 : Int32} {a3 : Int32} {o : (Int32 × Int32) ⊕ Int32} (hF : j_X12_guard_96 h a0 a1 a2 a3  = some o) (hback : ∀ (b1 : Int32) (b2 : Int32), o = .inl (b1, b2) → Go l b D z yX12_guard cX12_guard 5 (some .int) rm_X12_guard Φ 4 [(0, .ref a0), (1, .int b1), (2, .int b2)] [] h nx 0 0) (hx0 : ∀ (b1 : Int32), o = .inr b1 → Go l b D z yX12_guard cX12_guard 5 (some .int) rm_X12_guard Φ 112 [(1, .int b1)] [] h nx 0 0) : Go l b D z yX12_guard cX12_guard 5 (some .int) rm_X12_guard Φ 96 [(0, .ref a0), (1, .int a1), (2, .int a2), (3, .int a3)] [] h nx 0 0 := by
  unfold j_X12_guard_96 at hF
  refine g_iload_n 3 dX12_guard_96 rfl ?_
  refine g_if_eq 104 dX12_guard_97 (by decide) (fun c1 => ?_) (fun c1 => ?_)
  · replace hF := q_t c1 hF
    refine g_iload_n 1 dX12_guard_104 rfl ?_
    refine g_istore_n [(1, .int a1), (0, .ref a0), (2, .int a2), (3, .int a3)] dX12_guard_105 (Nat.le_of_ble_eq_true rfl) rfl ?_
    refine g_iinc [(2, .int (a2 + 1)), (1, .int a1), (0, .ref a0), (3, .int a3)] 2 dX12_guard_106 rfl (congrArg (a2 + ·) lt_iconst_1) (Nat.le_of_ble_eq_true rfl) rfl ?_
    refine g_goto 4 dX12_guard_109 (by decide) ?_
    cases hF
    refine g_sub [2, 1, 0] rfl ?_
    exact hback _ _ rfl
  · replace hF := q_f c1 hF
    refine g_iload_n 2 dX12_guard_100 rfl ?_
    refine g_goto 105 dX12_guard_101 (by decide) ?_
    refine g_istore_n [(1, .int a2), (0, .ref a0), (2, .int a2), (3, .int a3)] dX12_guard_105 (Nat.le_of_ble_eq_true rfl) rfl ?_
    refine g_iinc [(2, .int (a2 + 1)), (1, .int a2), (0, .ref a0), (3, .int a3)] 2 dX12_guard_106 rfl (congrArg (a2 + ·) lt_iconst_1) (Nat.le_of_ble_eq_true rfl) rfl ?_
    refine g_goto 4 dX12_guard_109 (by decide) ?_
    cases hF
    refine g_sub [2, 1, 0] rfl ?_
    exact hback _ _ rfl
set_option maxRecDepth 100000 in
set_option maxHeartbeats 4000000 in
theorem J_X12_guard_35 (l : Launch) (b : Nat) (D : va_G) (z : Nat → Nat) {Φ : Option Value → qH → Nat → Prop} {nx : Nat} {h : qH} {a0 : Nat} {a1 : Int32} {a2 : Int32} {t0 : Int32} {o : (Int32 × Int32) ⊕ Int32} (hF : j_X12_guard_35 h a0 a1 a2 t0 = some o) (hback : ∀ (b1 : Int32) (b2 : Int32), o = .inl (b1, b2) → Go l b D z yX12_guard cX12_guard 5 (some .int) rm_X12_guard Φ 4 [(0, .ref a0), (1, .int b1), (2, .int b2)] [] h nx 0 0) (hx0 : ∀ (b1 : Int32), o = .inr b1 → Go l b D z yX12_guard cX12_guard 5 (some .int) rm_X12_guard Φ 112 [(1, .int b1)] [] h nx 0 0) : Go l b D z yX12_guard cX12_guard 5 (some .int) rm_X12_guard Φ 35 [(0, .ref a0), (1, .int a1), (2, .int a2)] [.int t0] h nx 0 0 := by
  unfold j_X12_guard_35 at hF
  refine g_istore_n [(3, .int t0), (0, .ref a0), (1, .int a1), (2, .int a2)] dX12_guard_35 (Nat.le_of_ble_eq_true rfl) rfl ?_
  refine g_iconst dX12_guard_36 lt_iconst_0 ?_
  refine g_istore [(4, .int (0 : Int32)), (3, .int t0), (0, .ref a0), (1, .int a1), (2, .int a2)] dX12_guard_37 (Nat.le_of_ble_eq_true rfl) rfl ?_
  obtain ⟨e1, w2, hF⟩ := q_bind hF
  refine g_sub [2, 3, 4, 1, 0] rfl ?_
  refine L_X12_guard_39 l b D z q_N t0 (0 : Int32) e1 w2 ?_
  · intro o3 w4
    replace w4 := w4.symm
    subst w4
    exact J_X12_guard_96 l b D z hF hback hx0
set_option maxRecDepth 100000 in
set_option maxHeartbeats 4000000 in
theorem J_X12_guard_30 (l : Launch) (b : Nat) (D : va_G) (z : Nat → Nat) {Φ : Option Value → qH → Nat → Prop} {nx : Nat} {h : qH} {a0 : Nat} {a1 : Int32} {a2 : Int32} {o : (Int32 × Int32) ⊕ Int32} (hF : j_X12_guard_30 h a0 a1 a2  = some o) (hback : ∀ (b1 : Int32) (b2 : Int32), o = .inl (b1, b2) → Go l b D z yX12_guard cX12_guard 5 (some .int) rm_X12_guard Φ 4 [(0, .ref a0), (1, .int b1), (2, .int b2)] [] h nx 0 0) (hx0 : ∀ (b1 : Int32), o = .inr b1 → Go l b D z yX12_guard cX12_guard 5 (some .int) rm_X12_guard Φ 112 [(1, .int b1)] [] h nx 0 0) : Go l b D z yX12_guard cX12_guard 5 (some .int) rm_X12_guard Φ 30 [(0, .ref a0), (1, .int a1), (2, .int a2)] [] h nx 0 0 := by
  unfold j_X12_guard_30 at hF
  refine g_iconst dX12_guard_30 lt_iconst_1 ?_
  refine g_goto 35 dX12_guard_31 (by decide) ?_
  exact J_X12_guard_35 l b D z hF hback hx0
set_option maxRecDepth 100000 in
set_option maxHeartbeats 4000000 in
theorem B_X12_guard_4 (l : Launch) (b : Nat) (D : va_G) (z : Nat → Nat) {Φ : Option Value → qH → Nat → Prop} {nx : Nat} {h : qH} {a0 : Nat} {a1 : Int32} {a2 : Int32} {o : (Int32 × Int32) ⊕ Int32} (hF : b_X12_guard_4 h a0 a1 a2 = some o) (hback : ∀ (b1 : Int32) (b2 : Int32), o = .inl (b1, b2) → Go l b D z yX12_guard cX12_guard 5 (some .int) rm_X12_guard Φ 4 [(0, .ref a0), (1, .int b1), (2, .int b2)] [] h nx 0 0) (hx0 : ∀ (b1 : Int32), o = .inr b1 → Go l b D z yX12_guard cX12_guard 5 (some .int) rm_X12_guard Φ 112 [(1, .int b1)] [] h nx 0 0) : Go l b D z yX12_guard cX12_guard 5 (some .int) rm_X12_guard Φ 4 [(0, .ref a0), (1, .int a1), (2, .int a2)] [] h nx 0 0 := by
  unfold b_X12_guard_4 at hF
  refine g_iload_n 2 dX12_guard_4 rfl ?_
  refine g_iconst dX12_guard_5 lt_iconst_1 ?_
  refine g_aload_n 0 dX12_guard_6 rfl ?_
  obtain ⟨x1, e2, hF⟩ := q_bind hF
  refine g_getfI fl_X12_479 e2 dX12_guard_7 ?_
  refine g_ishl dX12_guard_10 ?_
  refine g_icmp_ge 112 dX12_guard_11 (by decide) (fun c3 => ?_) (fun c3 => ?_)
  · replace hF := q_t c3 hF
    cases hF
    refine g_sub [1] rfl ?_
    exact hx0 _ rfl
  · replace hF := q_f c3 hF
    refine g_iload_n 1 dX12_guard_14 rfl ?_
    refine g_iconst dX12_guard_15 lt_iconst_m1 ?_
    refine g_icmp_eq 30 dX12_guard_16 (by decide) (fun c4 => ?_) (fun c4 => ?_)
    · replace hF := q_t c4 hF
      exact J_X12_guard_30 l b D z hF hback hx0
    · replace hF := q_f c4 hF
      refine g_iload_n 2 dX12_guard_19 rfl ?_
      obtain ⟨x5, e6, hF⟩ := q_bind hF
      refine g_callSr0 qm_X12_ones wd_2058 wd_2059 (M_X12_ones l b D z nx e6) (As := [.int a2]) rfl rfl (Nat.le_of_ble_eq_true rfl) ⟨(Nat.le_of_ble_eq_true rfl), (Nat.le_of_ble_eq_true rfl)⟩ ⟨rfl, rfl⟩ ⟨(Nat.le_of_ble_eq_true rfl), (Nat.le_of_ble_eq_true rfl)⟩ dX12_guard_20 ?_
      refine g_iload_n 1 dX12_guard_23 rfl ?_
      obtain ⟨x7, e8, hF⟩ := q_bind hF
      refine g_callSr0 qm_X12_ones wd_2058 wd_2059 (M_X12_ones l b D z nx e8) (As := [.int a1]) rfl rfl (Nat.le_of_ble_eq_true rfl) ⟨(Nat.le_of_ble_eq_true rfl), (Nat.le_of_ble_eq_true rfl)⟩ ⟨rfl, rfl⟩ ⟨(Nat.le_of_ble_eq_true rfl), (Nat.le_of_ble_eq_true rfl)⟩ dX12_guard_24 ?_
      refine g_icmp_ge 34 dX12_guard_27 (by decide) (fun c9 => ?_) (fun c9 => ?_)
      · replace hF := q_t c9 hF
        refine g_iconst dX12_guard_34 lt_iconst_0 ?_
        exact J_X12_guard_35 l b D z hF hback hx0
      · replace hF := q_f c9 hF
        exact J_X12_guard_30 l b D z hF hback hx0
set_option maxRecDepth 100000 in
set_option maxHeartbeats 4000000 in
theorem L_X12_guard_4 (l : Launch) (b : Nat) (D : va_G) (z : Nat → Nat) {Φ : Option Value → qH → Nat → Prop} {nx : Nat} {h : qH} {a0 : Nat} : ∀ (n : Nat) (a1 : Int32) (a2 : Int32) (e : Int32), q_lp (s_X12_guard_4 h a0) n (a1, a2) = some e → (∀ (b1 : Int32), e = b1 → Go l b D z yX12_guard cX12_guard 5 (some .int) rm_X12_guard Φ 112 [(1, .int b1)] [] h nx 0 0) → Go l b D z yX12_guard cX12_guard 5 (some .int) rm_X12_guard Φ 4 [(0, .ref a0), (1, .int a1), (2, .int a2)] [] h nx 0 0 := by
  intro n
  induction n with
  | zero => intro a1 a2 e he; cases (show none = some e from he)
  | succ n ih =>
    intro a1 a2 e he hx0
    obtain ⟨o, ho, h1, h2⟩ := q_lp_succ he
    exact B_X12_guard_4 l b D z (show b_X12_guard_4 h a0 a1 a2 = some o from ho) (fun b1 b2 hb => ih _ _ e (h1 _ hb) hx0) (fun p0 hr => hx0 p0 (h2 _ hr).symm)
set_option maxRecDepth 100000 in
set_option maxHeartbeats 4000000 in
theorem M_X12_guard (l : Launch) (b : Nat) (D : va_G) (z : Nat → Nat) (nx : Nat) {h : qH} {a0 : Nat} {r : Int32} (hF : F_X12_guard h a0 = some r) : Me l b D z yX12_guard cX12_guard 5 (some .int) rm_X12_guard [.ref a0] h nx (qE (some (.int r)) h nx) := by
  refine Me.of (by decide +kernel) (Nat.le_of_ble_eq_true rfl) ?_
  show Go l b D z yX12_guard cX12_guard 5 (some .int) rm_X12_guard (qE (some (.int r)) h nx) 0 [(0, .ref a0)] [] h nx 0 0
  unfold F_X12_guard at hF
  refine g_iconst dX12_guard_0 lt_iconst_m1 ?_
  refine g_istore_n [(1, .int (-1 : Int32)), (0, .ref a0)] dX12_guard_1 (Nat.le_of_ble_eq_true rfl) rfl ?_
  refine g_iconst dX12_guard_2 lt_iconst_0 ?_
  refine g_istore_n [(2, .int (0 : Int32)), (1, .int (-1 : Int32)), (0, .ref a0)] dX12_guard_3 (Nat.le_of_ble_eq_true rfl) rfl ?_
  obtain ⟨e1, w2, hF⟩ := q_bind hF
  refine g_sub [2, 1, 0] rfl ?_
  refine L_X12_guard_4 l b D z q_N (-1 : Int32) (0 : Int32) e1 w2 ?_
  · intro o3 w4
    replace w4 := w4.symm
    subst w4
    refine g_iload_n 0 dX12_guard_112 rfl ?_
    cases hF
    exact g_iret dX12_guard_113 rfl ⟨rfl, rfl, rfl⟩ (Nat.le_of_ble_eq_true rfl) (Nat.le_of_ble_eq_true rfl)
def rm_X12_wrong : Room := { frames := 3, cells := 0, slots := 0, locals := 67 }
set_option maxRecDepth 100000 in
set_option maxHeartbeats 4000000 in
theorem B_X12_wrong_4 (l : Launch) (b : Nat) (D : va_G) (z : Nat → Nat) {Φ : Option Value → qH → Nat → Prop} {nx : Nat} {h : qH} {a0 : Nat} {a1 : Int32} {a2 : Int32} {o : (Int32 × Int32) ⊕ Int32} (hF : b_X12_wrong_4 h a0 a1 a2 = some o) (hback : ∀ (b1 : Int32) (b2 : Int32), o = .inl (b1, b2) → Go l b D z yX12_wrong cX12_wrong 3 (some .int) rm_X12_wrong Φ 4 [(0, .ref a0), (1, .int b1), (2, .int b2)] [] h nx 0 0) (hx0 : ∀ (b1 : Int32), o = .inr b1 → Go l b D z yX12_wrong cX12_wrong 3 (some .int) rm_X12_wrong Φ 71 [(1, .int b1)] [] h nx 0 0) : Go l b D z yX12_wrong cX12_wrong 3 (some .int) rm_X12_wrong Φ 4 [(0, .ref a0), (1, .int a1), (2, .int a2)] [] h nx 0 0 := by
  unfold b_X12_wrong_4 at hF
  refine g_iload_n 2 dX12_wrong_4 rfl ?_
  refine g_aload_n 0 dX12_wrong_5 rfl ?_
  obtain ⟨x1, e2, hF⟩ := q_bind hF
  refine g_getfI fl_X12_479 e2 dX12_wrong_6 ?_
  refine g_iconst dX12_wrong_9 lt_iconst_1 ?_
  refine g_isub dX12_wrong_10 ?_
  refine g_icmp_ge 71 dX12_wrong_11 (by decide) (fun c3 => ?_) (fun c3 => ?_)
  · replace hF := q_t c3 hF
    cases hF
    refine g_sub [1] rfl ?_
    exact hx0 _ rfl
  · replace hF := q_f c3 hF
    refine g_iload_n 1 dX12_wrong_14 rfl ?_
    refine g_aload_n 0 dX12_wrong_15 rfl ?_
    refine g_bipush dX12_wrong_16 lt_bipush_9 ?_
    refine g_iload_n 2 dX12_wrong_18 rfl ?_
    refine g_iadd dX12_wrong_19 ?_
    obtain ⟨u4, e5, hF⟩ := q_bind hF
    obtain ⟨x6, e7, hF⟩ := q_bind hF
    refine g_callVr0 (ci := 12) (q := (RX12, TX12, 49)) qm_X12_townOf wd_2026 wd_2028 wd_147 rfl e5 (M_X12_townOf l b D z nx e7) (As := [.int ((9 : Int32) + a2)]) rfl rfl (Nat.le_of_ble_eq_true rfl) ⟨(Nat.le_of_ble_eq_true rfl), (Nat.le_of_ble_eq_true rfl)⟩ ⟨rfl, rfl⟩ ⟨(Nat.le_of_ble_eq_true rfl), (Nat.le_of_ble_eq_true rfl)⟩ dX12_wrong_20 ?_
    refine g_aload_n 0 dX12_wrong_23 rfl ?_
    refine g_bipush dX12_wrong_24 lt_bipush_9 ?_
    refine g_iload_n 2 dX12_wrong_26 rfl ?_
    refine g_iadd dX12_wrong_27 ?_
    refine g_iconst dX12_wrong_28 lt_iconst_1 ?_
    refine g_iadd dX12_wrong_29 ?_
    obtain ⟨u8, e9, hF⟩ := q_bind hF
    obtain ⟨x10, e11, hF⟩ := q_bind hF
    refine g_callVr0 (ci := 12) (q := (RX12, TX12, 49)) qm_X12_townOf wd_2026 wd_2028 wd_147 rfl e9 (M_X12_townOf l b D z nx e11) (As := [.int (((9 : Int32) + a2) + (1 : Int32))]) rfl rfl (Nat.le_of_ble_eq_true rfl) ⟨(Nat.le_of_ble_eq_true rfl), (Nat.le_of_ble_eq_true rfl)⟩ ⟨rfl, rfl⟩ ⟨(Nat.le_of_ble_eq_true rfl), (Nat.le_of_ble_eq_true rfl)⟩ dX12_wrong_30 ?_
    refine g_icmp_eq 62 dX12_wrong_33 (by decide) (fun c12 => ?_) (fun c12 => ?_)
    · replace hF := q_t c12 hF
      refine g_iconst dX12_wrong_62 lt_iconst_0 ?_
      refine g_iadd dX12_wrong_63 ?_
      refine g_istore_n [(1, .int (a1 + (0 : Int32))), (0, .ref a0), (2, .int a2)] dX12_wrong_64 (Nat.le_of_ble_eq_true rfl) rfl ?_
      refine g_iinc [(2, .int (a2 + 1)), (1, .int (a1 + (0 : Int32))), (0, .ref a0)] 2 dX12_wrong_65 rfl (congrArg (a2 + ·) lt_iconst_1) (Nat.le_of_ble_eq_true rfl) rfl ?_
      refine g_goto 4 dX12_wrong_68 (by decide) ?_
      cases hF
      refine g_sub [2, 1, 0] rfl ?_
      exact hback _ _ rfl
    · replace hF := q_f c12 hF
      refine g_aload_n 0 dX12_wrong_36 rfl ?_
      refine g_iload_n 2 dX12_wrong_37 rfl ?_
      refine g_iload_n 2 dX12_wrong_38 rfl ?_
      refine g_iconst dX12_wrong_39 lt_iconst_1 ?_
      refine g_iadd dX12_wrong_40 ?_
      obtain ⟨u13, e14, hF⟩ := q_bind hF
      obtain ⟨x15, e16, hF⟩ := q_bind hF
      refine g_callVr0 (ci := 12) (q := (RX12, TX12, 49)) qm_X12_isHeardIn wd_2038 wd_2040 wd_150 rfl e14 (M_X12_isHeardIn l b D z nx e16) (As := [.int a2, .int (a2 + (1 : Int32))]) rfl rfl (Nat.le_of_ble_eq_true rfl) ⟨(Nat.le_of_ble_eq_true rfl), (Nat.le_of_ble_eq_true rfl)⟩ ⟨rfl, rfl⟩ ⟨(Nat.le_of_ble_eq_true rfl), (Nat.le_of_ble_eq_true rfl)⟩ dX12_wrong_41 ?_
      refine g_if_eq 62 dX12_wrong_44 (by decide) (fun c17 => ?_) (fun c17 => ?_)
      · replace hF := q_t c17 hF
        refine g_iconst dX12_wrong_62 lt_iconst_0 ?_
        refine g_iadd dX12_wrong_63 ?_
        refine g_istore_n [(1, .int (a1 + (0 : Int32))), (0, .ref a0), (2, .int a2)] dX12_wrong_64 (Nat.le_of_ble_eq_true rfl) rfl ?_
        refine g_iinc [(2, .int (a2 + 1)), (1, .int (a1 + (0 : Int32))), (0, .ref a0)] 2 dX12_wrong_65 rfl (congrArg (a2 + ·) lt_iconst_1) (Nat.le_of_ble_eq_true rfl) rfl ?_
        refine g_goto 4 dX12_wrong_68 (by decide) ?_
        cases hF
        refine g_sub [2, 1, 0] rfl ?_
        exact hback _ _ rfl
      · replace hF := q_f c17 hF
        refine g_aload_n 0 dX12_wrong_47 rfl ?_
        refine g_iload_n 2 dX12_wrong_48 rfl ?_
        refine g_iconst dX12_wrong_49 lt_iconst_1 ?_
        refine g_iadd dX12_wrong_50 ?_
        refine g_iload_n 2 dX12_wrong_51 rfl ?_
        obtain ⟨u18, e19, hF⟩ := q_bind hF
        obtain ⟨x20, e21, hF⟩ := q_bind hF
        refine g_callVr0 (ci := 12) (q := (RX12, TX12, 49)) qm_X12_isHeardIn wd_2038 wd_2040 wd_150 rfl e19 (M_X12_isHeardIn l b D z nx e21) (As := [.int (a2 + (1 : Int32)), .int a2]) rfl rfl (Nat.le_of_ble_eq_true rfl) ⟨(Nat.le_of_ble_eq_true rfl), (Nat.le_of_ble_eq_true rfl)⟩ ⟨rfl, rfl⟩ ⟨(Nat.le_of_ble_eq_true rfl), (Nat.le_of_ble_eq_true rfl)⟩ dX12_wrong_52 ?_
        refine g_if_eq 62 dX12_wrong_55 (by decide) (fun c22 => ?_) (fun c22 => ?_)
        · replace hF := q_t c22 hF
          refine g_iconst dX12_wrong_62 lt_iconst_0 ?_
          refine g_iadd dX12_wrong_63 ?_
          refine g_istore_n [(1, .int (a1 + (0 : Int32))), (0, .ref a0), (2, .int a2)] dX12_wrong_64 (Nat.le_of_ble_eq_true rfl) rfl ?_
          refine g_iinc [(2, .int (a2 + 1)), (1, .int (a1 + (0 : Int32))), (0, .ref a0)] 2 dX12_wrong_65 rfl (congrArg (a2 + ·) lt_iconst_1) (Nat.le_of_ble_eq_true rfl) rfl ?_
          refine g_goto 4 dX12_wrong_68 (by decide) ?_
          cases hF
          refine g_sub [2, 1, 0] rfl ?_
          exact hback _ _ rfl
        · replace hF := q_f c22 hF
          refine g_iconst dX12_wrong_58 lt_iconst_1 ?_
          refine g_goto 63 dX12_wrong_59 (by decide) ?_
          refine g_iadd dX12_wrong_63 ?_
          refine g_istore_n [(1, .int (a1 + (1 : Int32))), (0, .ref a0), (2, .int a2)] dX12_wrong_64 (Nat.le_of_ble_eq_true rfl) rfl ?_
          refine g_iinc [(2, .int (a2 + 1)), (1, .int (a1 + (1 : Int32))), (0, .ref a0)] 2 dX12_wrong_65 rfl (congrArg (a2 + ·) lt_iconst_1) (Nat.le_of_ble_eq_true rfl) rfl ?_
          refine g_goto 4 dX12_wrong_68 (by decide) ?_
          cases hF
          refine g_sub [2, 1, 0] rfl ?_
          exact hback _ _ rfl
set_option maxRecDepth 100000 in
set_option maxHeartbeats 4000000 in
theorem L_X12_wrong_4 (l : Launch) (b : Nat) (D : va_G) (z : Nat → Nat) {Φ : Option Value → qH → Nat → Prop} {nx : Nat} {h : qH} {a0 : Nat} : ∀ (n : Nat) (a1 : Int32) (a2 : Int32) (e : Int32), q_lp (s_X12_wrong_4 h a0) n (a1, a2) = some e → (∀ (b1 : Int32), e = b1 → Go l b D z yX12_wrong cX12_wrong 3 (some .int) rm_X12_wrong Φ 71 [(1, .int b1)] [] h nx 0 0) → Go l b D z yX12_wrong cX12_wrong 3 (some .int) rm_X12_wrong Φ 4 [(0, .ref a0), (1, .int a1), (2, .int a2)] [] h nx 0 0 := by
  intro n
  induction n with
  | zero => intro a1 a2 e he; cases (show none = some e from he)
  | succ n ih =>
    intro a1 a2 e he hx0
    obtain ⟨o, ho, h1, h2⟩ := q_lp_succ he
    exact B_X12_wrong_4 l b D z (show b_X12_wrong_4 h a0 a1 a2 = some o from ho) (fun b1 b2 hb => ih _ _ e (h1 _ hb) hx0) (fun p0 hr => hx0 p0 (h2 _ hr).symm)
set_option maxRecDepth 100000 in
set_option maxHeartbeats 4000000 in
theorem M_X12_wrong (l : Launch) (b : Nat) (D : va_G) (z : Nat → Nat) (nx : Nat) {h : qH} {a0 : Nat} {r : Int32} (hF : F_X12_wrong h a0 = some r) : Me l b D z yX12_wrong cX12_wrong 3 (some .int) rm_X12_wrong [.ref a0] h nx (qE (some (.int r)) h nx) := by
  refine Me.of (by decide +kernel) (Nat.le_of_ble_eq_true rfl) ?_
  show Go l b D z yX12_wrong cX12_wrong 3 (some .int) rm_X12_wrong (qE (some (.int r)) h nx) 0 [(0, .ref a0)] [] h nx 0 0
  unfold F_X12_wrong at hF
  refine g_iconst dX12_wrong_0 lt_iconst_0 ?_
  refine g_istore_n [(1, .int (0 : Int32)), (0, .ref a0)] dX12_wrong_1 (Nat.le_of_ble_eq_true rfl) rfl ?_
  refine g_iconst dX12_wrong_2 lt_iconst_0 ?_
  refine g_istore_n [(2, .int (0 : Int32)), (1, .int (0 : Int32)), (0, .ref a0)] dX12_wrong_3 (Nat.le_of_ble_eq_true rfl) rfl ?_
  obtain ⟨e1, w2, hF⟩ := q_bind hF
  refine g_sub [2, 1, 0] rfl ?_
  refine L_X12_wrong_4 l b D z q_N (0 : Int32) (0 : Int32) e1 w2 ?_
  · intro o3 w4
    replace w4 := w4.symm
    subst w4
    refine g_iload_n 0 dX12_wrong_71 rfl ?_
    cases hF
    exact g_iret dX12_wrong_72 rfl ⟨rfl, rfl, rfl⟩ (Nat.le_of_ble_eq_true rfl) (Nat.le_of_ble_eq_true rfl)
def rm_X12_hush : Room := { frames := 1, cells := 0, slots := 0, locals := 21 }
set_option maxRecDepth 100000 in
set_option maxHeartbeats 4000000 in
theorem B_X12_hush_4 (l : Launch) (b : Nat) (D : va_G) (z : Nat → Nat) {Φ : Option Value → qH → Nat → Prop} {nx : Nat} {h : qH} {a0 : Nat} {a1 : Int32} {a2 : Int32} {o : (Int32 × Int32) ⊕ Int32} (hF : b_X12_hush_4 h a0 a1 a2 = some o) (hback : ∀ (b1 : Int32) (b2 : Int32), o = .inl (b1, b2) → Go l b D z yX12_hush cX12_hush 3 (some .int) rm_X12_hush Φ 4 [(0, .ref a0), (1, .int b1), (2, .int b2)] [] h nx 0 0) (hx0 : ∀ (b1 : Int32), o = .inr b1 → Go l b D z yX12_hush cX12_hush 3 (some .int) rm_X12_hush Φ 54 [(1, .int b1)] [] h nx 0 0) : Go l b D z yX12_hush cX12_hush 3 (some .int) rm_X12_hush Φ 4 [(0, .ref a0), (1, .int a1), (2, .int a2)] [] h nx 0 0 := by
  unfold b_X12_hush_4 at hF
  refine g_iload_n 2 dX12_hush_4 rfl ?_
  refine g_aload_n 0 dX12_hush_5 rfl ?_
  obtain ⟨x1, e2, hF⟩ := q_bind hF
  refine g_getfI fl_X12_479 e2 dX12_hush_6 ?_
  refine g_iconst dX12_hush_9 lt_iconst_1 ?_
  refine g_isub dX12_hush_10 ?_
  refine g_icmp_ge 54 dX12_hush_11 (by decide) (fun c3 => ?_) (fun c3 => ?_)
  · replace hF := q_t c3 hF
    cases hF
    refine g_sub [1] rfl ?_
    exact hx0 _ rfl
  · replace hF := q_f c3 hF
    refine g_iload_n 1 dX12_hush_14 rfl ?_
    refine g_aload_n 0 dX12_hush_15 rfl ?_
    refine g_bipush dX12_hush_16 lt_bipush_18 ?_
    refine g_iload_n 2 dX12_hush_18 rfl ?_
    refine g_iadd dX12_hush_19 ?_
    obtain ⟨u4, e5, hF⟩ := q_bind hF
    obtain ⟨x6, e7, hF⟩ := q_bind hF
    refine g_callVr0 (ci := 12) (q := (RX12, TX12, 49)) qm_X12_townOf wd_2026 wd_2028 wd_147 rfl e5 (M_X12_townOf l b D z nx e7) (As := [.int ((18 : Int32) + a2)]) rfl rfl (Nat.le_of_ble_eq_true rfl) ⟨(Nat.le_of_ble_eq_true rfl), (Nat.le_of_ble_eq_true rfl)⟩ ⟨rfl, rfl⟩ ⟨(Nat.le_of_ble_eq_true rfl), (Nat.le_of_ble_eq_true rfl)⟩ dX12_hush_20 ?_
    refine g_aload_n 0 dX12_hush_23 rfl ?_
    refine g_bipush dX12_hush_24 lt_bipush_18 ?_
    refine g_iload_n 2 dX12_hush_26 rfl ?_
    refine g_iadd dX12_hush_27 ?_
    refine g_iconst dX12_hush_28 lt_iconst_1 ?_
    refine g_iadd dX12_hush_29 ?_
    obtain ⟨u8, e9, hF⟩ := q_bind hF
    obtain ⟨x10, e11, hF⟩ := q_bind hF
    refine g_callVr0 (ci := 12) (q := (RX12, TX12, 49)) qm_X12_townOf wd_2026 wd_2028 wd_147 rfl e9 (M_X12_townOf l b D z nx e11) (As := [.int (((18 : Int32) + a2) + (1 : Int32))]) rfl rfl (Nat.le_of_ble_eq_true rfl) ⟨(Nat.le_of_ble_eq_true rfl), (Nat.le_of_ble_eq_true rfl)⟩ ⟨rfl, rfl⟩ ⟨(Nat.le_of_ble_eq_true rfl), (Nat.le_of_ble_eq_true rfl)⟩ dX12_hush_30 ?_
    obtain ⟨x12, e13, hF⟩ := q_bind hF
    refine g_callSr0 qm_X12_greater wd_1692 wd_1693 (M_X12_greater l b D z nx e13) (As := [.int x6, .int x10]) rfl rfl (Nat.le_of_ble_eq_true rfl) ⟨(Nat.le_of_ble_eq_true rfl), (Nat.le_of_ble_eq_true rfl)⟩ ⟨rfl, rfl⟩ ⟨(Nat.le_of_ble_eq_true rfl), (Nat.le_of_ble_eq_true rfl)⟩ dX12_hush_33 ?_
    refine g_aload_n 0 dX12_hush_36 rfl ?_
    refine g_iconst dX12_hush_37 lt_iconst_1 ?_
    refine g_iload_n 2 dX12_hush_38 rfl ?_
    refine g_iadd dX12_hush_39 ?_
    obtain ⟨u14, e15, hF⟩ := q_bind hF
    obtain ⟨x16, e17, hF⟩ := q_bind hF
    refine g_callVr0 (ci := 12) (q := (RX12, TX12, 49)) qm_X12_townOf wd_2026 wd_2028 wd_147 rfl e15 (M_X12_townOf l b D z nx e17) (As := [.int ((1 : Int32) + a2)]) rfl rfl (Nat.le_of_ble_eq_true rfl) ⟨(Nat.le_of_ble_eq_true rfl), (Nat.le_of_ble_eq_true rfl)⟩ ⟨rfl, rfl⟩ ⟨(Nat.le_of_ble_eq_true rfl), (Nat.le_of_ble_eq_true rfl)⟩ dX12_hush_40 ?_
    refine g_isub dX12_hush_43 ?_
    obtain ⟨x18, e19, hF⟩ := q_bind hF
    refine g_callSr0 qm_X12_greater wd_1692 wd_1693 (M_X12_greater l b D z nx e19) (As := [.int a1, .int (x12 - x16)]) rfl rfl (Nat.le_of_ble_eq_true rfl) ⟨(Nat.le_of_ble_eq_true rfl), (Nat.le_of_ble_eq_true rfl)⟩ ⟨rfl, rfl⟩ ⟨(Nat.le_of_ble_eq_true rfl), (Nat.le_of_ble_eq_true rfl)⟩ dX12_hush_44 ?_
    refine g_istore_n [(1, .int x18), (0, .ref a0), (2, .int a2)] dX12_hush_47 (Nat.le_of_ble_eq_true rfl) rfl ?_
    refine g_iinc [(2, .int (a2 + 1)), (1, .int x18), (0, .ref a0)] 2 dX12_hush_48 rfl (congrArg (a2 + ·) lt_iconst_1) (Nat.le_of_ble_eq_true rfl) rfl ?_
    refine g_goto 4 dX12_hush_51 (by decide) ?_
    cases hF
    refine g_sub [2, 1, 0] rfl ?_
    exact hback _ _ rfl
set_option maxRecDepth 100000 in
set_option maxHeartbeats 4000000 in
theorem L_X12_hush_4 (l : Launch) (b : Nat) (D : va_G) (z : Nat → Nat) {Φ : Option Value → qH → Nat → Prop} {nx : Nat} {h : qH} {a0 : Nat} : ∀ (n : Nat) (a1 : Int32) (a2 : Int32) (e : Int32), q_lp (s_X12_hush_4 h a0) n (a1, a2) = some e → (∀ (b1 : Int32), e = b1 → Go l b D z yX12_hush cX12_hush 3 (some .int) rm_X12_hush Φ 54 [(1, .int b1)] [] h nx 0 0) → Go l b D z yX12_hush cX12_hush 3 (some .int) rm_X12_hush Φ 4 [(0, .ref a0), (1, .int a1), (2, .int a2)] [] h nx 0 0 := by
  intro n
  induction n with
  | zero => intro a1 a2 e he; cases (show none = some e from he)
  | succ n ih =>
    intro a1 a2 e he hx0
    obtain ⟨o, ho, h1, h2⟩ := q_lp_succ he
    exact B_X12_hush_4 l b D z (show b_X12_hush_4 h a0 a1 a2 = some o from ho) (fun b1 b2 hb => ih _ _ e (h1 _ hb) hx0) (fun p0 hr => hx0 p0 (h2 _ hr).symm)
set_option maxRecDepth 100000 in
set_option maxHeartbeats 4000000 in
theorem M_X12_hush (l : Launch) (b : Nat) (D : va_G) (z : Nat → Nat) (nx : Nat) {h : qH} {a0 : Nat} {r : Int32} (hF : F_X12_hush h a0 = some r) : Me l b D z yX12_hush cX12_hush 3 (some .int) rm_X12_hush [.ref a0] h nx (qE (some (.int r)) h nx) := by
  refine Me.of (by decide +kernel) (Nat.le_of_ble_eq_true rfl) ?_
  show Go l b D z yX12_hush cX12_hush 3 (some .int) rm_X12_hush (qE (some (.int r)) h nx) 0 [(0, .ref a0)] [] h nx 0 0
  unfold F_X12_hush at hF
  refine g_iconst dX12_hush_0 lt_iconst_0 ?_
  refine g_istore_n [(1, .int (0 : Int32)), (0, .ref a0)] dX12_hush_1 (Nat.le_of_ble_eq_true rfl) rfl ?_
  refine g_iconst dX12_hush_2 lt_iconst_0 ?_
  refine g_istore_n [(2, .int (0 : Int32)), (1, .int (0 : Int32)), (0, .ref a0)] dX12_hush_3 (Nat.le_of_ble_eq_true rfl) rfl ?_
  obtain ⟨e1, w2, hF⟩ := q_bind hF
  refine g_sub [2, 1, 0] rfl ?_
  refine L_X12_hush_4 l b D z q_N (0 : Int32) (0 : Int32) e1 w2 ?_
  · intro o3 w4
    replace w4 := w4.symm
    subst w4
    refine g_iload_n 0 dX12_hush_54 rfl ?_
    cases hF
    exact g_iret dX12_hush_55 rfl ⟨rfl, rfl, rfl⟩ (Nat.le_of_ble_eq_true rfl) (Nat.le_of_ble_eq_true rfl)
def rm_X12_ofHouse : Room := { frames := 4, cells := 0, slots := 0, locals := 90 }
set_option maxRecDepth 100000 in
set_option maxHeartbeats 4000000 in
theorem M_X12_ofHouse (l : Launch) (b : Nat) (D : va_G) (z : Nat → Nat) (nx : Nat) {h : qH} {a0 : Nat} {a1 : Int32} {a2 : Int32} {r : Int32} (hF : F_X12_ofHouse h a0 a1 a2 = some r) : Me l b D z yX12_ofHouse cX12_ofHouse 3 (some .int) rm_X12_ofHouse [.ref a0, .int a1, .int a2] h nx (qE (some (.int r)) h nx) := by
  refine Me.of (by decide +kernel) (Nat.le_of_ble_eq_true rfl) ?_
  show Go l b D z yX12_ofHouse cX12_ofHouse 3 (some .int) rm_X12_ofHouse (qE (some (.int r)) h nx) 0 [(0, .ref a0), (1, .int a1), (2, .int a2)] [] h nx 0 0
  unfold F_X12_ofHouse at hF
  refine g_iload_n 1 dX12_ofHouse_0 rfl ?_
  by_cases c1 : a1 = 1
  · replace hF := q_t c1 hF
    refine g_tabIn (off := 27) 28 dX12_ofHouse_1 (by rw [c1]; decide) (by rw [c1]; decide) (by rw [c1]; decide) (by decide) ?_
    refine g_iload_n 2 dX12_ofHouse_28 rfl ?_
    refine g_aload_n 0 dX12_ofHouse_29 rfl ?_
    obtain ⟨x2, e3, hF⟩ := q_bind hF
    refine g_getfI fl_X12_479 e3 dX12_ofHouse_30 ?_
    refine g_iconst dX12_ofHouse_33 lt_iconst_1 ?_
    refine g_isub dX12_ofHouse_34 ?_
    refine g_icmp_ge 48 dX12_ofHouse_35 (by decide) (fun c4 => ?_) (fun c4 => ?_)
    · replace hF := q_t c4 hF
      refine g_iconst dX12_ofHouse_48 lt_iconst_m1 ?_
      cases hF
      exact g_iret dX12_ofHouse_49 rfl ⟨rfl, rfl, rfl⟩ (Nat.le_of_ble_eq_true rfl) (Nat.le_of_ble_eq_true rfl)
    · replace hF := q_f c4 hF
      refine g_aload_n 0 dX12_ofHouse_38 rfl ?_
      refine g_iconst dX12_ofHouse_39 lt_iconst_1 ?_
      refine g_iload_n 2 dX12_ofHouse_40 rfl ?_
      refine g_iadd dX12_ofHouse_41 ?_
      obtain ⟨u5, e6, hF⟩ := q_bind hF
      obtain ⟨x7, e8, hF⟩ := q_bind hF
      refine g_callVr0 (ci := 12) (q := (RX12, TX12, 49)) qm_X12_townOf wd_2026 wd_2028 wd_147 rfl e6 (M_X12_townOf l b D z nx e8) (As := [.int ((1 : Int32) + a2)]) rfl rfl (Nat.le_of_ble_eq_true rfl) ⟨(Nat.le_of_ble_eq_true rfl), (Nat.le_of_ble_eq_true rfl)⟩ ⟨rfl, rfl⟩ ⟨(Nat.le_of_ble_eq_true rfl), (Nat.le_of_ble_eq_true rfl)⟩ dX12_ofHouse_42 ?_
      refine g_goto 49 dX12_ofHouse_45 (by decide) ?_
      cases hF
      exact g_iret dX12_ofHouse_49 rfl ⟨rfl, rfl, rfl⟩ (Nat.le_of_ble_eq_true rfl) (Nat.le_of_ble_eq_true rfl)
  replace hF := q_f c1 hF
  by_cases c9 : a1 = 2
  · replace hF := q_t c9 hF
    refine g_tabIn (off := 49) 50 dX12_ofHouse_1 (by rw [c9]; decide) (by rw [c9]; decide) (by rw [c9]; decide) (by decide) ?_
    refine g_aload_n 0 dX12_ofHouse_50 rfl ?_
    refine g_bipush dX12_ofHouse_51 lt_bipush_9 ?_
    refine g_iload_n 2 dX12_ofHouse_53 rfl ?_
    refine g_iadd dX12_ofHouse_54 ?_
    obtain ⟨u10, e11, hF⟩ := q_bind hF
    obtain ⟨x12, e13, hF⟩ := q_bind hF
    refine g_callVr0 (ci := 12) (q := (RX12, TX12, 49)) qm_X12_townOf wd_2026 wd_2028 wd_147 rfl e11 (M_X12_townOf l b D z nx e13) (As := [.int ((9 : Int32) + a2)]) rfl rfl (Nat.le_of_ble_eq_true rfl) ⟨(Nat.le_of_ble_eq_true rfl), (Nat.le_of_ble_eq_true rfl)⟩ ⟨rfl, rfl⟩ ⟨(Nat.le_of_ble_eq_true rfl), (Nat.le_of_ble_eq_true rfl)⟩ dX12_ofHouse_55 ?_
    cases hF
    exact g_iret dX12_ofHouse_58 rfl ⟨rfl, rfl, rfl⟩ (Nat.le_of_ble_eq_true rfl) (Nat.le_of_ble_eq_true rfl)
  replace hF := q_f c9 hF
  by_cases c14 : a1 = 3
  · replace hF := q_t c14 hF
    refine g_tabIn (off := 58) 59 dX12_ofHouse_1 (by rw [c14]; decide) (by rw [c14]; decide) (by rw [c14]; decide) (by decide) ?_
    refine g_aload_n 0 dX12_ofHouse_59 rfl ?_
    refine g_bipush dX12_ofHouse_60 lt_bipush_18 ?_
    refine g_iload_n 2 dX12_ofHouse_62 rfl ?_
    refine g_iadd dX12_ofHouse_63 ?_
    obtain ⟨u15, e16, hF⟩ := q_bind hF
    obtain ⟨x17, e18, hF⟩ := q_bind hF
    refine g_callVr0 (ci := 12) (q := (RX12, TX12, 49)) qm_X12_townOf wd_2026 wd_2028 wd_147 rfl e16 (M_X12_townOf l b D z nx e18) (As := [.int ((18 : Int32) + a2)]) rfl rfl (Nat.le_of_ble_eq_true rfl) ⟨(Nat.le_of_ble_eq_true rfl), (Nat.le_of_ble_eq_true rfl)⟩ ⟨rfl, rfl⟩ ⟨(Nat.le_of_ble_eq_true rfl), (Nat.le_of_ble_eq_true rfl)⟩ dX12_ofHouse_64 ?_
    cases hF
    exact g_iret dX12_ofHouse_67 rfl ⟨rfl, rfl, rfl⟩ (Nat.le_of_ble_eq_true rfl) (Nat.le_of_ble_eq_true rfl)
  replace hF := q_f c14 hF
  refine g_tabOut 68 dX12_ofHouse_1 ?_ (by decide) ?_
  · have t0 := lv_neT (a := 1) c1 (by decide); have t1 := lv_neT (a := 2) c9 (by decide); have t2 := lv_neT (a := 3) c14 (by decide); omega
  refine g_aload_n 0 dX12_ofHouse_68 rfl ?_
  refine g_iload_n 2 dX12_ofHouse_69 rfl ?_
  obtain ⟨u19, e20, hF⟩ := q_bind hF
  obtain ⟨x21, e22, hF⟩ := q_bind hF
  refine g_callVr0 (ci := 12) (q := (RX12, TX12, 49)) qm_X12_heardIn wd_2034 wd_2036 wd_149 rfl e20 (M_X12_heardIn l b D z nx e22) (As := [.int a2]) rfl rfl (Nat.le_of_ble_eq_true rfl) ⟨(Nat.le_of_ble_eq_true rfl), (Nat.le_of_ble_eq_true rfl)⟩ ⟨rfl, rfl⟩ ⟨(Nat.le_of_ble_eq_true rfl), (Nat.le_of_ble_eq_true rfl)⟩ dX12_ofHouse_70 ?_
  cases hF
  exact g_iret dX12_ofHouse_73 rfl ⟨rfl, rfl, rfl⟩ (Nat.le_of_ble_eq_true rfl) (Nat.le_of_ble_eq_true rfl)
def rm_X12_town : Room := { frames := 5, cells := 0, slots := 0, locals := 114 }
set_option maxRecDepth 100000 in
set_option maxHeartbeats 4000000 in
theorem M_X12_town (l : Launch) (b : Nat) (D : va_G) (z : Nat → Nat) (nx : Nat) {h : qH} {a0 : Nat} {a1 : Int32} {a2 : Int32} {r : Int32 × qH} (hF : F_X12_town h a0 a1 a2 = some r) : Me l b D z yX12_town cX12_town 3 (some .int) rm_X12_town [.ref a0, .int a1, .int a2] h nx (qE (some (.int r.1)) r.2 nx) := by
  refine Me.of (by decide +kernel) (Nat.le_of_ble_eq_true rfl) ?_
  show Go l b D z yX12_town cX12_town 3 (some .int) rm_X12_town (qE (some (.int r.1)) r.2 nx) 0 [(0, .ref a0), (1, .int a1), (2, .int a2)] [] h nx 0 0
  unfold F_X12_town at hF
  refine g_aload_n 0 dX12_town_0 rfl ?_
  refine g_iconst dX12_town_1 lt_iconst_0 ?_
  obtain ⟨h1, e2, hF⟩ := q_bind hF
  refine g_putf fl_X12_91 e2 rfl rfl dX12_town_2 ?_
  refine g_aload_n 0 dX12_town_5 rfl ?_
  refine g_iload_n 1 dX12_town_6 rfl ?_
  obtain ⟨h3, e4, hF⟩ := q_bind hF
  refine g_putf fl_X12_470 e4 rfl rfl dX12_town_7 ?_
  refine g_aload_n 0 dX12_town_10 rfl ?_
  refine g_iconst dX12_town_11 lt_iconst_3 ?_
  refine g_iload_n 1 dX12_town_12 rfl ?_
  obtain ⟨u5, e6, hF⟩ := q_bind hF
  obtain ⟨x7, e8, hF⟩ := q_bind hF
  refine g_callVr0 (ci := 12) (q := (RX12, TX12, 49)) qm_X12_is wd_1630 wd_1632 wd_77 rfl e6 (M_X12_is l b D z nx e8) (As := [.int (3 : Int32), .int a1]) rfl rfl (Nat.le_of_ble_eq_true rfl) ⟨(Nat.le_of_ble_eq_true rfl), (Nat.le_of_ble_eq_true rfl)⟩ ⟨rfl, rfl⟩ ⟨(Nat.le_of_ble_eq_true rfl), (Nat.le_of_ble_eq_true rfl)⟩ dX12_town_13 ?_
  refine g_if_ne 21 dX12_town_16 (by decide) (fun c9 => ?_) (fun c9 => ?_)
  · replace hF := q_f c9 hF
    refine g_aload_n 0 dX12_town_21 rfl ?_
    refine g_aload_n 0 dX12_town_22 rfl ?_
    refine g_iconst dX12_town_23 lt_iconst_0 ?_
    obtain ⟨u10, e11, hF⟩ := q_bind hF
    obtain ⟨x12, e13, hF⟩ := q_bind hF
    refine g_callVr0 (ci := 12) (q := (RX12, TX12, 49)) qm_X12_townOf wd_2026 wd_2028 wd_147 rfl e11 (M_X12_townOf l b D z nx e13) (As := [.int (0 : Int32)]) rfl rfl (Nat.le_of_ble_eq_true rfl) ⟨(Nat.le_of_ble_eq_true rfl), (Nat.le_of_ble_eq_true rfl)⟩ ⟨rfl, rfl⟩ ⟨(Nat.le_of_ble_eq_true rfl), (Nat.le_of_ble_eq_true rfl)⟩ dX12_town_24 ?_
    obtain ⟨h14, e15, hF⟩ := q_bind hF
    refine g_putf fl_X12_479 e15 rfl rfl dX12_town_27 ?_
    refine g_iload_n 2 dX12_town_30 rfl ?_
    refine g_bipush dX12_town_31 lt_bipush_10 ?_
    refine g_bipush dX12_town_33 lt_bipush_49 ?_
    obtain ⟨x16, e17, hF⟩ := q_bind hF
    refine g_callSr0 qm_X12_in wd_1623 wd_1624 (M_X12_in l b D z nx e17) (As := [.int a2, .int (10 : Int32), .int (49 : Int32)]) rfl rfl (Nat.le_of_ble_eq_true rfl) ⟨(Nat.le_of_ble_eq_true rfl), (Nat.le_of_ble_eq_true rfl)⟩ ⟨rfl, rfl⟩ ⟨(Nat.le_of_ble_eq_true rfl), (Nat.le_of_ble_eq_true rfl)⟩ dX12_town_35 ?_
    refine g_if_eq 69 dX12_town_38 (by decide) (fun c18 => ?_) (fun c18 => ?_)
    · replace hF := q_t c18 hF
      refine g_iload_n 2 dX12_town_69 rfl ?_
      by_cases c19 : a2 = 0
      · replace hF := q_t c19 hF
        refine g_tabIn (off := 38) 108 dX12_town_70 (by rw [c19]; decide) (by rw [c19]; decide) (by rw [c19]; decide) (by decide) ?_
        refine g_aload_n 0 dX12_town_108 rfl ?_
        obtain ⟨x20, e21, hF⟩ := q_bind hF
        refine g_getfI fl_X12_479 e21 dX12_town_109 ?_
        cases hF
        exact g_iret dX12_town_112 rfl ⟨rfl, rfl, rfl⟩ (Nat.le_of_ble_eq_true rfl) (Nat.le_of_ble_eq_true rfl)
      replace hF := q_f c19 hF
      by_cases c22 : a2 = 1
      · replace hF := q_t c22 hF
        refine g_tabIn (off := 43) 113 dX12_town_70 (by rw [c22]; decide) (by rw [c22]; decide) (by rw [c22]; decide) (by decide) ?_
        refine g_aload_n 0 dX12_town_113 rfl ?_
        obtain ⟨u23, e24, hF⟩ := q_bind hF
        obtain ⟨x25, e26, hF⟩ := q_bind hF
        refine g_callVr0 (ci := 12) (q := (RX12, TX12, 49)) qm_X12_listen wd_2046 wd_2048 wd_152 rfl e24 (M_X12_listen l b D z nx e26) (As := []) rfl rfl (Nat.le_of_ble_eq_true rfl) ⟨(Nat.le_of_ble_eq_true rfl), (Nat.le_of_ble_eq_true rfl)⟩ ⟨rfl, rfl⟩ ⟨(Nat.le_of_ble_eq_true rfl), (Nat.le_of_ble_eq_true rfl)⟩ dX12_town_114 ?_
        cases hF
        exact g_iret dX12_town_117 rfl ⟨rfl, rfl, rfl⟩ (Nat.le_of_ble_eq_true rfl) (Nat.le_of_ble_eq_true rfl)
      replace hF := q_f c22 hF
      by_cases c27 : a2 = 2
      · replace hF := q_t c27 hF
        refine g_tabIn (off := 48) 118 dX12_town_70 (by rw [c27]; decide) (by rw [c27]; decide) (by rw [c27]; decide) (by decide) ?_
        refine g_aload_n 0 dX12_town_118 rfl ?_
        refine g_aload_n 0 dX12_town_119 rfl ?_
        obtain ⟨u28, e29, hF⟩ := q_bind hF
        obtain ⟨x30, e31, hF⟩ := q_bind hF
        refine g_callVr0 (ci := 12) (q := (RX12, TX12, 49)) qm_X12_listen wd_2046 wd_2048 wd_152 rfl e29 (M_X12_listen l b D z nx e31) (As := []) rfl rfl (Nat.le_of_ble_eq_true rfl) ⟨(Nat.le_of_ble_eq_true rfl), (Nat.le_of_ble_eq_true rfl)⟩ ⟨rfl, rfl⟩ ⟨(Nat.le_of_ble_eq_true rfl), (Nat.le_of_ble_eq_true rfl)⟩ dX12_town_120 ?_
        obtain ⟨u32, e33, hF⟩ := q_bind hF
        obtain ⟨x34, e35, hF⟩ := q_bind hF
        refine g_callVr0 (ci := 12) (q := (RX12, TX12, 49)) qm_X12_othersIn wd_2050 wd_2052 wd_153 rfl e33 (M_X12_othersIn l b D z nx e35) (As := [.int x30]) rfl rfl (Nat.le_of_ble_eq_true rfl) ⟨(Nat.le_of_ble_eq_true rfl), (Nat.le_of_ble_eq_true rfl)⟩ ⟨rfl, rfl⟩ ⟨(Nat.le_of_ble_eq_true rfl), (Nat.le_of_ble_eq_true rfl)⟩ dX12_town_123 ?_
        cases hF
        exact g_iret dX12_town_126 rfl ⟨rfl, rfl, rfl⟩ (Nat.le_of_ble_eq_true rfl) (Nat.le_of_ble_eq_true rfl)
      replace hF := q_f c27 hF
      by_cases c36 : a2 = 3
      · replace hF := q_t c36 hF
        refine g_tabIn (off := 57) 127 dX12_town_70 (by rw [c36]; decide) (by rw [c36]; decide) (by rw [c36]; decide) (by decide) ?_
        refine g_aload_n 0 dX12_town_127 rfl ?_
        obtain ⟨u37, e38, hF⟩ := q_bind hF
        obtain ⟨x39, e40, hF⟩ := q_bind hF
        refine g_callVr0 (ci := 12) (q := (RX12, TX12, 49)) qm_X12_guard wd_2054 wd_2056 wd_154 rfl e38 (M_X12_guard l b D z nx e40) (As := []) rfl rfl (Nat.le_of_ble_eq_true rfl) ⟨(Nat.le_of_ble_eq_true rfl), (Nat.le_of_ble_eq_true rfl)⟩ ⟨rfl, rfl⟩ ⟨(Nat.le_of_ble_eq_true rfl), (Nat.le_of_ble_eq_true rfl)⟩ dX12_town_128 ?_
        cases hF
        exact g_iret dX12_town_131 rfl ⟨rfl, rfl, rfl⟩ (Nat.le_of_ble_eq_true rfl) (Nat.le_of_ble_eq_true rfl)
      replace hF := q_f c36 hF
      by_cases c41 : a2 = 4
      · replace hF := q_t c41 hF
        refine g_tabIn (off := 62) 132 dX12_town_70 (by rw [c41]; decide) (by rw [c41]; decide) (by rw [c41]; decide) (by decide) ?_
        refine g_aload_n 0 dX12_town_132 rfl ?_
        obtain ⟨u42, e43, hF⟩ := q_bind hF
        obtain ⟨x44, e45, hF⟩ := q_bind hF
        refine g_callVr0 (ci := 12) (q := (RX12, TX12, 49)) qm_X12_wrong wd_2061 wd_2063 wd_155 rfl e43 (M_X12_wrong l b D z nx e45) (As := []) rfl rfl (Nat.le_of_ble_eq_true rfl) ⟨(Nat.le_of_ble_eq_true rfl), (Nat.le_of_ble_eq_true rfl)⟩ ⟨rfl, rfl⟩ ⟨(Nat.le_of_ble_eq_true rfl), (Nat.le_of_ble_eq_true rfl)⟩ dX12_town_133 ?_
        cases hF
        exact g_iret dX12_town_136 rfl ⟨rfl, rfl, rfl⟩ (Nat.le_of_ble_eq_true rfl) (Nat.le_of_ble_eq_true rfl)
      replace hF := q_f c41 hF
      by_cases c46 : a2 = 5
      · replace hF := q_t c46 hF
        refine g_tabIn (off := 67) 137 dX12_town_70 (by rw [c46]; decide) (by rw [c46]; decide) (by rw [c46]; decide) (by decide) ?_
        refine g_aload_n 0 dX12_town_137 rfl ?_
        obtain ⟨u47, e48, hF⟩ := q_bind hF
        obtain ⟨x49, e50, hF⟩ := q_bind hF
        refine g_callVr0 (ci := 12) (q := (RX12, TX12, 49)) qm_X12_hush wd_2065 wd_2067 wd_156 rfl e48 (M_X12_hush l b D z nx e50) (As := []) rfl rfl (Nat.le_of_ble_eq_true rfl) ⟨(Nat.le_of_ble_eq_true rfl), (Nat.le_of_ble_eq_true rfl)⟩ ⟨rfl, rfl⟩ ⟨(Nat.le_of_ble_eq_true rfl), (Nat.le_of_ble_eq_true rfl)⟩ dX12_town_138 ?_
        cases hF
        exact g_iret dX12_town_141 rfl ⟨rfl, rfl, rfl⟩ (Nat.le_of_ble_eq_true rfl) (Nat.le_of_ble_eq_true rfl)
      replace hF := q_f c46 hF
      refine g_tabOut 142 dX12_town_70 ?_ (by decide) ?_
      · have t0 := lv_neT (a := 0) c19 (by decide); have t1 := lv_neT (a := 1) c22 (by decide); have t2 := lv_neT (a := 2) c27 (by decide); have t3 := lv_neT (a := 3) c36 (by decide); have t4 := lv_neT (a := 4) c41 (by decide); have t5 := lv_neT (a := 5) c46 (by decide); omega
      refine g_iconst dX12_town_142 lt_iconst_m1 ?_
      cases hF
      exact g_iret dX12_town_143 rfl ⟨rfl, rfl, rfl⟩ (Nat.le_of_ble_eq_true rfl) (Nat.le_of_ble_eq_true rfl)
    · replace hF := q_f c18 hF
      refine g_iload_n 2 dX12_town_41 rfl ?_
      refine g_bipush dX12_town_42 lt_bipush_10 ?_
      refine g_irem dX12_town_44 (by decide) ?_
      refine g_aload_n 0 dX12_town_45 rfl ?_
      obtain ⟨x51, e52, hF⟩ := q_bind hF
      refine g_getfI fl_X12_479 e52 dX12_town_46 ?_
      refine g_icmp_ge 67 dX12_town_49 (by decide) (fun c53 => ?_) (fun c53 => ?_)
      · replace hF := q_t c53 hF
        refine g_iconst dX12_town_67 lt_iconst_m1 ?_
        cases hF
        exact g_iret dX12_town_68 rfl ⟨rfl, rfl, rfl⟩ (Nat.le_of_ble_eq_true rfl) (Nat.le_of_ble_eq_true rfl)
      · replace hF := q_f c53 hF
        refine g_aload_n 0 dX12_town_52 rfl ?_
        refine g_iload_n 2 dX12_town_53 rfl ?_
        refine g_bipush dX12_town_54 lt_bipush_10 ?_
        refine g_idiv dX12_town_56 (by decide) ?_
        refine g_iload_n 2 dX12_town_57 rfl ?_
        refine g_bipush dX12_town_58 lt_bipush_10 ?_
        refine g_irem dX12_town_60 (by decide) ?_
        obtain ⟨u54, e55, hF⟩ := q_bind hF
        obtain ⟨x56, e57, hF⟩ := q_bind hF
        refine g_callVr0 (ci := 12) (q := (RX12, TX12, 49)) qm_X12_ofHouse wd_2030 wd_2032 wd_148 rfl e55 (M_X12_ofHouse l b D z nx e57) (As := [.int (a2 / (10 : Int32)), .int (q_rem a2 (10 : Int32))]) rfl rfl (Nat.le_of_ble_eq_true rfl) ⟨(Nat.le_of_ble_eq_true rfl), (Nat.le_of_ble_eq_true rfl)⟩ ⟨rfl, rfl⟩ ⟨(Nat.le_of_ble_eq_true rfl), (Nat.le_of_ble_eq_true rfl)⟩ dX12_town_61 ?_
        refine g_goto 68 dX12_town_64 (by decide) ?_
        cases hF
        exact g_iret dX12_town_68 rfl ⟨rfl, rfl, rfl⟩ (Nat.le_of_ble_eq_true rfl) (Nat.le_of_ble_eq_true rfl)
  · replace hF := q_t c9 hF
    refine g_iconst dX12_town_19 lt_iconst_m1 ?_
    cases hF
    exact g_iret dX12_town_20 rfl ⟨rfl, rfl, rfl⟩ (Nat.le_of_ble_eq_true rfl) (Nat.le_of_ble_eq_true rfl)
def rm_X12_draw : Room := { frames := 0, cells := 0, slots := 0, locals := 0 }
set_option maxRecDepth 100000 in
set_option maxHeartbeats 4000000 in
theorem M_X12_draw (l : Launch) (b : Nat) (D : va_G) (z : Nat → Nat) (nx : Nat) {h : qH} {a0 : Nat} {a1 : Int32} {r : Int32 × qH} (hF : F_X12_draw h a0 a1 = some r) : Me l b D z yX12_draw cX12_draw 2 (some .int) rm_X12_draw [.ref a0, .int a1] h nx (qE (some (.int r.1)) r.2 nx) := by
  refine Me.of (by decide +kernel) (Nat.le_of_ble_eq_true rfl) ?_
  show Go l b D z yX12_draw cX12_draw 2 (some .int) rm_X12_draw (qE (some (.int r.1)) r.2 nx) 0 [(0, .ref a0), (1, .int a1)] [] h nx 0 0
  unfold F_X12_draw at hF
  refine g_aload_n 0 dX12_draw_0 rfl ?_
  refine g_aload_n 0 dX12_draw_1 rfl ?_
  obtain ⟨x1, e2, hF⟩ := q_bind hF
  refine g_getfI fl_X12_509 e2 dX12_draw_2 ?_
  refine g_ldcw dX12_draw_5 wd_2081 ?_
  refine g_imul dX12_draw_8 ?_
  refine g_sipush dX12_draw_9 lt_sipush_12345 ?_
  refine g_iadd dX12_draw_12 ?_
  obtain ⟨h3, e4, hF⟩ := q_bind hF
  refine g_putf fl_X12_509 e4 rfl rfl dX12_draw_13 ?_
  refine g_aload_n 0 dX12_draw_16 rfl ?_
  obtain ⟨x5, e6, hF⟩ := q_bind hF
  refine g_getfI fl_X12_509 e6 dX12_draw_17 ?_
  refine g_bipush dX12_draw_20 lt_bipush_16 ?_
  refine g_iushr dX12_draw_22 ?_
  refine g_iload_n 1 dX12_draw_23 rfl ?_
  obtain ⟨u7, e8, hF⟩ := q_bind hF
  refine g_irem dX12_draw_24 (q_nz_spec e8) ?_
  cases hF
  exact g_iret dX12_draw_25 rfl ⟨rfl, rfl, rfl⟩ (Nat.le_of_ble_eq_true rfl) (Nat.le_of_ble_eq_true rfl)
def rm_X12_drawDeed : Room := { frames := 6, cells := 0, slots := 0, locals := 128 }
set_option maxRecDepth 100000 in
set_option maxHeartbeats 4000000 in
theorem M_X12_drawDeed (l : Launch) (b : Nat) (D : va_G) (z : Nat → Nat) (nx : Nat) {h : qH} {a0 : Nat} {r : qH} (hF : F_X12_drawDeed h a0 = some r) : Me l b D z yX12_drawDeed cX12_drawDeed 3 none rm_X12_drawDeed [.ref a0] h nx (qE none r nx) := by
  refine Me.of (by decide +kernel) (Nat.le_of_ble_eq_true rfl) ?_
  show Go l b D z yX12_drawDeed cX12_drawDeed 3 none rm_X12_drawDeed (qE none r nx) 0 [(0, .ref a0)] [] h nx 0 0
  unfold F_X12_drawDeed at hF
  refine g_aload_n 0 dX12_drawDeed_0 rfl ?_
  refine g_bipush dX12_drawDeed_1 lt_bipush_8 ?_
  obtain ⟨u1, e2, hF⟩ := q_bind hF
  obtain ⟨x3, e4, hF⟩ := q_bind hF
  refine g_callVr0 (ci := 12) (q := (RX12, TX12, 49)) qm_X12_draw wd_2077 wd_2079 wd_158 rfl e2 (M_X12_draw l b D z nx e4) (As := [.int (8 : Int32)]) rfl rfl (Nat.le_of_ble_eq_true rfl) ⟨(Nat.le_of_ble_eq_true rfl), (Nat.le_of_ble_eq_true rfl)⟩ ⟨rfl, rfl⟩ ⟨(Nat.le_of_ble_eq_true rfl), (Nat.le_of_ble_eq_true rfl)⟩ dX12_drawDeed_3 ?_
  refine g_istore_n [(1, .int x3.1), (0, .ref a0)] dX12_drawDeed_6 (Nat.le_of_ble_eq_true rfl) rfl ?_
  refine g_iload_n 0 dX12_drawDeed_7 rfl ?_
  refine g_iconst dX12_drawDeed_8 lt_iconst_3 ?_
  refine g_icmp_ge 27 dX12_drawDeed_9 (by decide) (fun c5 => ?_) (fun c5 => ?_)
  · replace hF := q_t c5 hF
    refine g_iload_n 0 dX12_drawDeed_27 rfl ?_
    refine g_iconst dX12_drawDeed_28 lt_iconst_3 ?_
    refine g_icmp_ne 77 dX12_drawDeed_29 (by decide) (fun c6 => ?_) (fun c6 => ?_)
    · replace hF := q_f c6 hF
      refine g_iload_n 0 dX12_drawDeed_77 rfl ?_
      refine g_bipush dX12_drawDeed_78 lt_bipush_7 ?_
      refine g_icmp_ge 112 dX12_drawDeed_80 (by decide) (fun c7 => ?_) (fun c7 => ?_)
      · replace hF := q_t c7 hF
        refine g_aload_n 1 dX12_drawDeed_112 rfl ?_
        refine g_bipush dX12_drawDeed_113 lt_bipush_6 ?_
        obtain ⟨u8, e9, hF⟩ := q_bind hF
        obtain ⟨x10, e11, hF⟩ := q_bind hF
        refine g_callVr0 (ci := 12) (q := (RX12, TX12, 49)) qm_X12_draw wd_2077 wd_2079 wd_158 rfl e9 (M_X12_draw l b D z nx e11) (As := [.int (6 : Int32)]) rfl rfl (Nat.le_of_ble_eq_true rfl) ⟨(Nat.le_of_ble_eq_true rfl), (Nat.le_of_ble_eq_true rfl)⟩ ⟨rfl, rfl⟩ ⟨(Nat.le_of_ble_eq_true rfl), (Nat.le_of_ble_eq_true rfl)⟩ dX12_drawDeed_115 ?_
        refine g_istore_n [(2, .int x10.1), (1, .int x3.1), (0, .ref a0)] dX12_drawDeed_118 (Nat.le_of_ble_eq_true rfl) rfl ?_
        refine g_aload_n 2 dX12_drawDeed_119 rfl ?_
        refine g_aload_n 2 dX12_drawDeed_120 rfl ?_
        refine g_iload_n 0 dX12_drawDeed_121 rfl ?_
        obtain ⟨u12, e13, hF⟩ := q_bind hF
        obtain ⟨x14, e15, hF⟩ := q_bind hF
        refine g_callVr0 (ci := 12) (q := (RX12, TX12, 49)) qm_X12_isThere wd_1821 wd_1823 wd_113 rfl e13 (M_X12_isThere l b D z nx e15) (As := [.int x10.1]) rfl rfl (Nat.le_of_ble_eq_true rfl) ⟨(Nat.le_of_ble_eq_true rfl), (Nat.le_of_ble_eq_true rfl)⟩ ⟨rfl, rfl⟩ ⟨(Nat.le_of_ble_eq_true rfl), (Nat.le_of_ble_eq_true rfl)⟩ dX12_drawDeed_122 ?_
        refine g_if_eq 132 dX12_drawDeed_125 (by decide) (fun c16 => ?_) (fun c16 => ?_)
        · replace hF := q_t c16 hF
          refine g_iconst dX12_drawDeed_132 lt_iconst_2 ?_
          refine g_iload_n 0 dX12_drawDeed_133 rfl ?_
          obtain ⟨u17, e18, hF⟩ := q_bind hF
          obtain ⟨x19, e20, hF⟩ := q_bind hF
          refine g_callVr0 (ci := 12) (q := (RX12, TX12, 49)) qm_X12_does wd_1813 wd_1815 wd_111 rfl e18 (M_X12_does l b D z nx e20) (As := [.int (2 : Int32), .int x10.1]) rfl rfl (Nat.le_of_ble_eq_true rfl) ⟨(Nat.le_of_ble_eq_true rfl), (Nat.le_of_ble_eq_true rfl)⟩ ⟨rfl, rfl⟩ ⟨(Nat.le_of_ble_eq_true rfl), (Nat.le_of_ble_eq_true rfl)⟩ dX12_drawDeed_134 ?_
          refine g_pop dX12_drawDeed_137 rfl ?_
          cases hF
          exact g_vret dX12_drawDeed_138 rfl ⟨rfl, rfl, rfl⟩ (Nat.le_of_ble_eq_true rfl) (Nat.le_of_ble_eq_true rfl)
        · replace hF := q_f c16 hF
          refine g_iconst dX12_drawDeed_128 lt_iconst_1 ?_
          refine g_goto 133 dX12_drawDeed_129 (by decide) ?_
          refine g_iload_n 0 dX12_drawDeed_133 rfl ?_
          obtain ⟨u21, e22, hF⟩ := q_bind hF
          obtain ⟨x23, e24, hF⟩ := q_bind hF
          refine g_callVr0 (ci := 12) (q := (RX12, TX12, 49)) qm_X12_does wd_1813 wd_1815 wd_111 rfl e22 (M_X12_does l b D z nx e24) (As := [.int (1 : Int32), .int x10.1]) rfl rfl (Nat.le_of_ble_eq_true rfl) ⟨(Nat.le_of_ble_eq_true rfl), (Nat.le_of_ble_eq_true rfl)⟩ ⟨rfl, rfl⟩ ⟨(Nat.le_of_ble_eq_true rfl), (Nat.le_of_ble_eq_true rfl)⟩ dX12_drawDeed_134 ?_
          refine g_pop dX12_drawDeed_137 rfl ?_
          cases hF
          exact g_vret dX12_drawDeed_138 rfl ⟨rfl, rfl, rfl⟩ (Nat.le_of_ble_eq_true rfl) (Nat.le_of_ble_eq_true rfl)
      · replace hF := q_f c7 hF
        refine g_aload_n 1 dX12_drawDeed_83 rfl ?_
        refine g_iload_n 0 dX12_drawDeed_84 rfl ?_
        refine g_iconst dX12_drawDeed_85 lt_iconst_4 ?_
        refine g_icmp_ne 93 dX12_drawDeed_86 (by decide) (fun c25 => ?_) (fun c25 => ?_)
        · replace hF := q_f c25 hF
          refine g_iload_n 0 dX12_drawDeed_93 rfl ?_
          refine g_iconst dX12_drawDeed_94 lt_iconst_5 ?_
          refine g_icmp_ne 102 dX12_drawDeed_95 (by decide) (fun c26 => ?_) (fun c26 => ?_)
          · replace hF := q_f c26 hF
            refine g_bipush dX12_drawDeed_102 lt_bipush_6 ?_
            refine g_iconst dX12_drawDeed_104 lt_iconst_m1 ?_
            obtain ⟨u27, e28, hF⟩ := q_bind hF
            obtain ⟨x29, e30, hF⟩ := q_bind hF
            refine g_callVr0 (ci := 12) (q := (RX12, TX12, 49)) qm_X12_does wd_1813 wd_1815 wd_111 rfl e28 (M_X12_does l b D z nx e30) (As := [.int (6 : Int32), .int (-1 : Int32)]) rfl rfl (Nat.le_of_ble_eq_true rfl) ⟨(Nat.le_of_ble_eq_true rfl), (Nat.le_of_ble_eq_true rfl)⟩ ⟨rfl, rfl⟩ ⟨(Nat.le_of_ble_eq_true rfl), (Nat.le_of_ble_eq_true rfl)⟩ dX12_drawDeed_105 ?_
            refine g_pop dX12_drawDeed_108 rfl ?_
            refine g_goto 138 dX12_drawDeed_109 (by decide) ?_
            cases hF
            exact g_vret dX12_drawDeed_138 rfl ⟨rfl, rfl, rfl⟩ (Nat.le_of_ble_eq_true rfl) (Nat.le_of_ble_eq_true rfl)
          · replace hF := q_t c26 hF
            refine g_iconst dX12_drawDeed_98 lt_iconst_4 ?_
            refine g_goto 104 dX12_drawDeed_99 (by decide) ?_
            refine g_iconst dX12_drawDeed_104 lt_iconst_m1 ?_
            obtain ⟨u31, e32, hF⟩ := q_bind hF
            obtain ⟨x33, e34, hF⟩ := q_bind hF
            refine g_callVr0 (ci := 12) (q := (RX12, TX12, 49)) qm_X12_does wd_1813 wd_1815 wd_111 rfl e32 (M_X12_does l b D z nx e34) (As := [.int (4 : Int32), .int (-1 : Int32)]) rfl rfl (Nat.le_of_ble_eq_true rfl) ⟨(Nat.le_of_ble_eq_true rfl), (Nat.le_of_ble_eq_true rfl)⟩ ⟨rfl, rfl⟩ ⟨(Nat.le_of_ble_eq_true rfl), (Nat.le_of_ble_eq_true rfl)⟩ dX12_drawDeed_105 ?_
            refine g_pop dX12_drawDeed_108 rfl ?_
            refine g_goto 138 dX12_drawDeed_109 (by decide) ?_
            cases hF
            exact g_vret dX12_drawDeed_138 rfl ⟨rfl, rfl, rfl⟩ (Nat.le_of_ble_eq_true rfl) (Nat.le_of_ble_eq_true rfl)
        · replace hF := q_t c25 hF
          refine g_iconst dX12_drawDeed_89 lt_iconst_3 ?_
          refine g_goto 104 dX12_drawDeed_90 (by decide) ?_
          refine g_iconst dX12_drawDeed_104 lt_iconst_m1 ?_
          obtain ⟨u35, e36, hF⟩ := q_bind hF
          obtain ⟨x37, e38, hF⟩ := q_bind hF
          refine g_callVr0 (ci := 12) (q := (RX12, TX12, 49)) qm_X12_does wd_1813 wd_1815 wd_111 rfl e36 (M_X12_does l b D z nx e38) (As := [.int (3 : Int32), .int (-1 : Int32)]) rfl rfl (Nat.le_of_ble_eq_true rfl) ⟨(Nat.le_of_ble_eq_true rfl), (Nat.le_of_ble_eq_true rfl)⟩ ⟨rfl, rfl⟩ ⟨(Nat.le_of_ble_eq_true rfl), (Nat.le_of_ble_eq_true rfl)⟩ dX12_drawDeed_105 ?_
          refine g_pop dX12_drawDeed_108 rfl ?_
          refine g_goto 138 dX12_drawDeed_109 (by decide) ?_
          cases hF
          exact g_vret dX12_drawDeed_138 rfl ⟨rfl, rfl, rfl⟩ (Nat.le_of_ble_eq_true rfl) (Nat.le_of_ble_eq_true rfl)
    · replace hF := q_t c6 hF
      refine g_aload_n 1 dX12_drawDeed_32 rfl ?_
      obtain ⟨x39, e40, hF⟩ := q_bind hF
      refine g_getfR fl_X12_50 e40 dX12_drawDeed_33 ?_
      refine g_iconst dX12_drawDeed_36 lt_iconst_1 ?_
      obtain ⟨x41, e42, hF⟩ := q_bind hF
      refine g_iald e42 dX12_drawDeed_37 ?_
      refine g_istore_n [(2, .int x41), (1, .int x3.1), (0, .ref a0)] dX12_drawDeed_38 (Nat.le_of_ble_eq_true rfl) rfl ?_
      refine g_iload_n 0 dX12_drawDeed_39 rfl ?_
      refine g_iconst dX12_drawDeed_40 lt_iconst_m1 ?_
      refine g_icmp_eq 74 dX12_drawDeed_41 (by decide) (fun c43 => ?_) (fun c43 => ?_)
      · replace hF := q_t c43 hF
        refine g_goto 138 dX12_drawDeed_74 (by decide) ?_
        cases hF
        exact g_vret dX12_drawDeed_138 rfl ⟨rfl, rfl, rfl⟩ (Nat.le_of_ble_eq_true rfl) (Nat.le_of_ble_eq_true rfl)
      · replace hF := q_f c43 hF
        refine g_aload_n 2 dX12_drawDeed_44 rfl ?_
        obtain ⟨x44, e45, hF⟩ := q_bind hF
        refine g_getfR fl_X12_47 e45 dX12_drawDeed_45 ?_
        refine g_iload_n 0 dX12_drawDeed_48 rfl ?_
        obtain ⟨x46, e47, hF⟩ := q_bind hF
        refine g_iald e47 dX12_drawDeed_49 ?_
        refine g_if_le 74 dX12_drawDeed_50 (by decide) (fun c48 => ?_) (fun c48 => ?_)
        · replace hF := q_t c48 hF
          refine g_goto 138 dX12_drawDeed_74 (by decide) ?_
          cases hF
          exact g_vret dX12_drawDeed_138 rfl ⟨rfl, rfl, rfl⟩ (Nat.le_of_ble_eq_true rfl) (Nat.le_of_ble_eq_true rfl)
        · replace hF := q_f c48 hF
          refine g_aload_n 2 dX12_drawDeed_53 rfl ?_
          refine g_iconst dX12_drawDeed_54 lt_iconst_0 ?_
          refine g_aload_n 2 dX12_drawDeed_55 rfl ?_
          refine g_iload_n 0 dX12_drawDeed_56 rfl ?_
          refine g_aload_n 2 dX12_drawDeed_57 rfl ?_
          refine g_aload_n 2 dX12_drawDeed_58 rfl ?_
          obtain ⟨x49, e50, hF⟩ := q_bind hF
          refine g_getfR fl_X12_47 e50 dX12_drawDeed_59 ?_
          refine g_iload_n 0 dX12_drawDeed_62 rfl ?_
          obtain ⟨x51, e52, hF⟩ := q_bind hF
          refine g_iald e52 dX12_drawDeed_63 ?_
          obtain ⟨u53, e54, hF⟩ := q_bind hF
          obtain ⟨x55, e56, hF⟩ := q_bind hF
          refine g_callVr0 (ci := 12) (q := (RX12, TX12, 49)) qm_X12_draw wd_2077 wd_2079 wd_158 rfl e54 (M_X12_draw l b D z nx e56) (As := [.int x51]) rfl rfl (Nat.le_of_ble_eq_true rfl) ⟨(Nat.le_of_ble_eq_true rfl), (Nat.le_of_ble_eq_true rfl)⟩ ⟨rfl, rfl⟩ ⟨(Nat.le_of_ble_eq_true rfl), (Nat.le_of_ble_eq_true rfl)⟩ dX12_drawDeed_64 ?_
          obtain ⟨u57, e58, hF⟩ := q_bind hF
          obtain ⟨x59, e60, hF⟩ := q_bind hF
          refine g_callVr0 (ci := 12) (q := (RX12, TX12, 49)) qm_X12_behind wd_1773 wd_1775 wd_104 rfl e58 (M_X12_behind l b D z nx e60) (As := [.int x41, .int x55.1]) rfl rfl (Nat.le_of_ble_eq_true rfl) ⟨(Nat.le_of_ble_eq_true rfl), (Nat.le_of_ble_eq_true rfl)⟩ ⟨rfl, rfl⟩ ⟨(Nat.le_of_ble_eq_true rfl), (Nat.le_of_ble_eq_true rfl)⟩ dX12_drawDeed_67 ?_
          obtain ⟨u61, e62, hF⟩ := q_bind hF
          obtain ⟨x63, e64, hF⟩ := q_bind hF
          refine g_callVr0 (ci := 12) (q := (RX12, TX12, 49)) qm_X12_does wd_1813 wd_1815 wd_111 rfl e62 (M_X12_does l b D z nx e64) (As := [.int (0 : Int32), .int x59]) rfl rfl (Nat.le_of_ble_eq_true rfl) ⟨(Nat.le_of_ble_eq_true rfl), (Nat.le_of_ble_eq_true rfl)⟩ ⟨rfl, rfl⟩ ⟨(Nat.le_of_ble_eq_true rfl), (Nat.le_of_ble_eq_true rfl)⟩ dX12_drawDeed_70 ?_
          refine g_pop dX12_drawDeed_73 rfl ?_
          refine g_goto 138 dX12_drawDeed_74 (by decide) ?_
          cases hF
          exact g_vret dX12_drawDeed_138 rfl ⟨rfl, rfl, rfl⟩ (Nat.le_of_ble_eq_true rfl) (Nat.le_of_ble_eq_true rfl)
  · replace hF := q_f c5 hF
    refine g_aload_n 1 dX12_drawDeed_12 rfl ?_
    refine g_iconst dX12_drawDeed_13 lt_iconst_0 ?_
    refine g_aload_n 1 dX12_drawDeed_14 rfl ?_
    obtain ⟨x65, e66, hF⟩ := q_bind hF
    refine g_getfR fl_X12_50 e66 dX12_drawDeed_15 ?_
    refine g_iconst dX12_drawDeed_18 lt_iconst_2 ?_
    obtain ⟨x67, e68, hF⟩ := q_bind hF
    refine g_iald e68 dX12_drawDeed_19 ?_
    obtain ⟨u69, e70, hF⟩ := q_bind hF
    obtain ⟨x71, e72, hF⟩ := q_bind hF
    refine g_callVr0 (ci := 12) (q := (RX12, TX12, 49)) qm_X12_does wd_1813 wd_1815 wd_111 rfl e70 (M_X12_does l b D z nx e72) (As := [.int (0 : Int32), .int x67]) rfl rfl (Nat.le_of_ble_eq_true rfl) ⟨(Nat.le_of_ble_eq_true rfl), (Nat.le_of_ble_eq_true rfl)⟩ ⟨rfl, rfl⟩ ⟨(Nat.le_of_ble_eq_true rfl), (Nat.le_of_ble_eq_true rfl)⟩ dX12_drawDeed_20 ?_
    refine g_pop dX12_drawDeed_23 rfl ?_
    refine g_goto 138 dX12_drawDeed_24 (by decide) ?_
    cases hF
    exact g_vret dX12_drawDeed_138 rfl ⟨rfl, rfl, rfl⟩ (Nat.le_of_ble_eq_true rfl) (Nat.le_of_ble_eq_true rfl)
