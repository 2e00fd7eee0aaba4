def rm_X7_fillLog : Room := { frames := 2, cells := 0, slots := 0, locals := 42 }
set_option maxRecDepth 100000 in
set_option maxHeartbeats 4000000 in
theorem B_X7_fillLog_12 (l : Launch) (b : Nat) (D : va_G) (z : Nat → Nat) {Φ : Option Value → qH → Nat → Prop} {nx : Nat} {a0 : Nat} {a1 : Nat} {a2 : Int32} {h : qH} {o : (Int32 × qH) ⊕ qH} (hF : b_X7_fillLog_12 z a0 a1 a2 h = some o) (hback : ∀ (b2 : Int32) (bh : qH), o = .inl (b2, bh) → Go l b D z yX7_fillLog cX7_fillLog 3 none rm_X7_fillLog Φ 12 [(0, .ref a0), (1, .ref a1), (2, .int b2)] [] bh nx 0 0) (hx0 : ∀  (bh : qH), o = .inr bh → Go l b D z yX7_fillLog cX7_fillLog 3 none rm_X7_fillLog Φ 55 [] [] bh nx 0 0) : Go l b D z yX7_fillLog cX7_fillLog 3 none rm_X7_fillLog Φ 12 [(0, .ref a0), (1, .ref a1), (2, .int a2)] [] h nx 0 0 := by
  unfold b_X7_fillLog_12 at hF
  refine g_iload_n 2 dX7_fillLog_12 rfl ?_
  refine g_aload_n 0 dX7_fillLog_13 rfl ?_
  obtain ⟨u1, e2, hF⟩ := q_bind hF
  obtain ⟨x3, e4, hF⟩ := q_bind hF
  refine g_callVr0 (ci := 7) (q := (RX7, TX7, 6)) qm_X7_lastToken wd_700 wd_702 wd_10 rfl e2 (M_X7_lastToken l b D z nx e4) (As := []) rfl rfl (Nat.le_of_ble_eq_true rfl) ⟨(Nat.le_of_ble_eq_true rfl), (Nat.le_of_ble_eq_true rfl)⟩ ⟨rfl, rfl⟩ ⟨(Nat.le_of_ble_eq_true rfl), (Nat.le_of_ble_eq_true rfl)⟩ dX7_fillLog_14 ?_
  refine g_icmp_ge 55 dX7_fillLog_17 (by decide) (fun c5 => ?_) (fun c5 => ?_)
  · replace hF := q_t c5 hF
    cases hF
    refine g_sub [] rfl ?_
    exact hx0 _ rfl
  · replace hF := q_f c5 hF
    refine g_aload_n 1 dX7_fillLog_20 rfl ?_
    refine g_aload_n 0 dX7_fillLog_21 rfl ?_
    refine g_iload_n 2 dX7_fillLog_22 rfl ?_
    obtain ⟨u6, e7, hF⟩ := q_bind hF
    obtain ⟨x8, e9, hF⟩ := q_bind hF
    refine g_callVr0 (ci := 7) (q := (RX7, TX7, 6)) qm_X7_valueAt wd_679 wd_681 wd_6 rfl e7 (M_X7_valueAt l b D z nx e9) (As := [.int a2]) rfl rfl (Nat.le_of_ble_eq_true rfl) ⟨(Nat.le_of_ble_eq_true rfl), (Nat.le_of_ble_eq_true rfl)⟩ ⟨rfl, rfl⟩ ⟨(Nat.le_of_ble_eq_true rfl), (Nat.le_of_ble_eq_true rfl)⟩ dX7_fillLog_23 ?_
    refine g_bipush dX7_fillLog_26 lt_bipush_13 ?_
    refine g_icmp_ne 41 dX7_fillLog_28 (by decide) (fun c10 => ?_) (fun c10 => ?_)
    · replace hF := q_f c10 hF
      refine g_bipush dX7_fillLog_41 lt_bipush_6 ?_
      obtain ⟨u11, e12, hF⟩ := q_bind hF
      obtain ⟨x13, e14, hF⟩ := q_bind hF
      refine g_callVv0 (ci := 3) (q := (RX3, TX3, 2)) qm_X3_add wd_818 wd_819 wd_820 rfl e12 (M_X3_add l b D z nx e14) (As := [.int (6 : Int32)]) rfl rfl (Nat.le_of_ble_eq_true rfl) ⟨(Nat.le_of_ble_eq_true rfl), (Nat.le_of_ble_eq_true rfl)⟩ ⟨rfl, rfl⟩ ⟨(Nat.le_of_ble_eq_true rfl), (Nat.le_of_ble_eq_true rfl)⟩ dX7_fillLog_43 ?_
      refine g_aload_n 0 dX7_fillLog_46 rfl ?_
      refine g_iload_n 2 dX7_fillLog_47 rfl ?_
      obtain ⟨u15, e16, hF⟩ := q_bind hF
      obtain ⟨x17, e18, hF⟩ := q_bind hF
      refine g_callVr0 (ci := 7) (q := (RX7, TX7, 6)) qm_X7_behindStatement wd_675 wd_677 wd_5 rfl e16 (M_X7_behindStatement l b D z nx e18) (As := [.int a2]) rfl rfl (Nat.le_of_ble_eq_true rfl) ⟨(Nat.le_of_ble_eq_true rfl), (Nat.le_of_ble_eq_true rfl)⟩ ⟨rfl, rfl⟩ ⟨(Nat.le_of_ble_eq_true rfl), (Nat.le_of_ble_eq_true rfl)⟩ dX7_fillLog_48 ?_
      refine g_istore_n [(2, .int x17), (0, .ref a0), (1, .ref a1)] dX7_fillLog_51 (Nat.le_of_ble_eq_true rfl) rfl ?_
      refine g_goto 12 dX7_fillLog_52 (by decide) ?_
      cases hF
      refine g_sub [1, 2, 0] rfl ?_
      exact hback _ _ rfl
    · replace hF := q_t c10 hF
      refine g_aload_n 0 dX7_fillLog_31 rfl ?_
      refine g_iload_n 2 dX7_fillLog_32 rfl ?_
      refine g_iconst dX7_fillLog_33 lt_iconst_1 ?_
      refine g_iadd dX7_fillLog_34 ?_
      obtain ⟨u19, e20, hF⟩ := q_bind hF
      obtain ⟨x21, e22, hF⟩ := q_bind hF
      refine g_callVr0 (ci := 7) (q := (RX7, TX7, 6)) qm_X7_valueAt wd_679 wd_681 wd_6 rfl e20 (M_X7_valueAt l b D z nx e22) (As := [.int (a2 + (1 : Int32))]) rfl rfl (Nat.le_of_ble_eq_true rfl) ⟨(Nat.le_of_ble_eq_true rfl), (Nat.le_of_ble_eq_true rfl)⟩ ⟨rfl, rfl⟩ ⟨(Nat.le_of_ble_eq_true rfl), (Nat.le_of_ble_eq_true rfl)⟩ dX7_fillLog_35 ?_
      refine g_goto 43 dX7_fillLog_38 (by decide) ?_
      obtain ⟨u23, e24, hF⟩ := q_bind hF
      obtain ⟨x25, e26, hF⟩ := q_bind hF
      refine g_callVv0 (ci := 3) (q := (RX3, TX3, 2)) qm_X3_add wd_818 wd_819 wd_820 rfl e24 (M_X3_add l b D z nx e26) (As := [.int x21]) rfl rfl (Nat.le_of_ble_eq_true rfl) ⟨(Nat.le_of_ble_eq_true rfl), (Nat.le_of_ble_eq_true rfl)⟩ ⟨rfl, rfl⟩ ⟨(Nat.le_of_ble_eq_true rfl), (Nat.le_of_ble_eq_true rfl)⟩ dX7_fillLog_43 ?_
      refine g_aload_n 0 dX7_fillLog_46 rfl ?_
      refine g_iload_n 2 dX7_fillLog_47 rfl ?_
      obtain ⟨u27, e28, hF⟩ := q_bind hF
      obtain ⟨x29, e30, hF⟩ := q_bind hF
      refine g_callVr0 (ci := 7) (q := (RX7, TX7, 6)) qm_X7_behindStatement wd_675 wd_677 wd_5 rfl e28 (M_X7_behindStatement l b D z nx e30) (As := [.int a2]) rfl rfl (Nat.le_of_ble_eq_true rfl) ⟨(Nat.le_of_ble_eq_true rfl), (Nat.le_of_ble_eq_true rfl)⟩ ⟨rfl, rfl⟩ ⟨(Nat.le_of_ble_eq_true rfl), (Nat.le_of_ble_eq_true rfl)⟩ dX7_fillLog_48 ?_
      refine g_istore_n [(2, .int x29), (0, .ref a0), (1, .ref a1)] dX7_fillLog_51 (Nat.le_of_ble_eq_true rfl) rfl ?_
      refine g_goto 12 dX7_fillLog_52 (by decide) ?_
      cases hF
      refine g_sub [1, 2, 0] rfl ?_
      exact hback _ _ rfl
set_option maxRecDepth 100000 in
set_option maxHeartbeats 4000000 in
theorem L_X7_fillLog_12 (l : Launch) (b : Nat) (D : va_G) (z : Nat → Nat) {Φ : Option Value → qH → Nat → Prop} {nx : Nat} {a0 : Nat} {a1 : Nat} : ∀ (n : Nat) (a2 : Int32) (h : qH) (e : qH), q_lp (s_X7_fillLog_12 z a0 a1) n (a2, h) = some e → (∀  (bh : qH), e = bh → Go l b D z yX7_fillLog cX7_fillLog 3 none rm_X7_fillLog Φ 55 [] [] bh nx 0 0) → Go l b D z yX7_fillLog cX7_fillLog 3 none rm_X7_fillLog Φ 12 [(0, .ref a0), (1, .ref a1), (2, .int a2)] [] h nx 0 0 := by
  intro n
  induction n with
  | zero => intro a2 h e he; cases (show none = some e from he)
  | succ n ih =>
    intro a2 h e he hx0
    obtain ⟨o, ho, h1, h2⟩ := q_lp_succ he
    exact B_X7_fillLog_12 l b D z (show b_X7_fillLog_12 z a0 a1 a2 h = some o from ho) (fun b2 bh hb => ih _ _ e (h1 _ hb) hx0) (fun p0 hr => hx0 p0 (h2 _ hr).symm)
set_option maxRecDepth 100000 in
set_option maxHeartbeats 4000000 in
theorem M_X7_fillLog (l : Launch) (b : Nat) (D : va_G) (z : Nat → Nat) (nx : Nat) {h : qH} {a0 : Nat} {a1 : Nat} {r : qH} (hF : F_X7_fillLog z h a0 a1 = some r) : Me l b D z yX7_fillLog cX7_fillLog 3 none rm_X7_fillLog [.ref a0, .ref a1] h nx (qE none r nx) := by
  refine Me.of (by decide +kernel) (Nat.le_of_ble_eq_true rfl) ?_
  show Go l b D z yX7_fillLog cX7_fillLog 3 none rm_X7_fillLog (qE none r nx) 0 [(0, .ref a0), (1, .ref a1)] [] h nx 0 0
  unfold F_X7_fillLog at hF
  refine g_aload_n 1 dX7_fillLog_0 rfl ?_
  refine g_ifnonnullR 5 dX7_fillLog_1 (by decide) ?_
  refine g_aload_n 1 dX7_fillLog_5 rfl ?_
  refine g_iconst dX7_fillLog_6 lt_iconst_0 ?_
  obtain ⟨h1, e2, hF⟩ := q_bind hF
  refine g_putf fl_X7_254 e2 rfl rfl dX7_fillLog_7 ?_
  refine g_iconst dX7_fillLog_10 lt_iconst_0 ?_
  refine g_istore_n [(2, .int (0 : Int32)), (0, .ref a0), (1, .ref a1)] dX7_fillLog_11 (Nat.le_of_ble_eq_true rfl) rfl ?_
  obtain ⟨e3, w4, hF⟩ := q_bind hF
  refine g_sub [1, 2, 0] rfl ?_
  refine L_X7_fillLog_12 l b D z q_N (0 : Int32) h1 e3 w4 ?_
  · intro h5 w6
    replace w6 := w6.symm
    subst w6
    cases hF
    exact g_vret dX7_fillLog_55 rfl ⟨rfl, rfl, rfl⟩ (Nat.le_of_ble_eq_true rfl) (Nat.le_of_ble_eq_true rfl)
def rm_X9_townAt : Room := { frames := 0, cells := 0, slots := 0, locals := 0 }
set_option maxRecDepth 100000 in
set_option maxHeartbeats 4000000 in
theorem M_X9_townAt (l : Launch) (b : Nat) (D : va_G) (z : Nat → Nat) (nx : Nat) {h : qH} {a0 : Nat} {a1 : Int32} {r : Option Nat} (hF : F_X9_townAt h a0 a1 = some r) : Me l b D z yX9_townAt cX9_townAt 2 (some (.object "CellarPrompter$Town")) rm_X9_townAt [.ref a0, .int a1] h nx (qE (some (va_rf r)) h nx) := by
  refine Me.of (by decide +kernel) (Nat.le_of_ble_eq_true rfl) ?_
  show Go l b D z yX9_townAt cX9_townAt 2 (some (.object "CellarPrompter$Town")) rm_X9_townAt (qE (some (va_rf r)) h nx) 0 [(0, .ref a0), (1, .int a1)] [] h nx 0 0
  unfold F_X9_townAt at hF
  refine g_iload_n 1 dX9_townAt_0 rfl ?_
  refine g_if_lt 28 dX9_townAt_1 (by decide) (fun c1 => ?_) (fun c1 => ?_)
  · replace hF := q_t c1 hF
    refine g_anull dX9_townAt_28 ?_
    cases hF
    exact g_aret dX9_townAt_29 rfl (Or.inl ⟨_, rfl⟩) (Or.inl rfl) ⟨rfl, rfl, rfl⟩ (Nat.le_of_ble_eq_true rfl) (Nat.le_of_ble_eq_true rfl)
  · replace hF := q_f c1 hF
    refine g_iload_n 1 dX9_townAt_4 rfl ?_
    refine g_aload_n 0 dX9_townAt_5 rfl ?_
    obtain ⟨x2, e3, hF⟩ := q_bind hF
    refine g_getfR fl_X9_15 e3 dX9_townAt_6 ?_
    refine g_iconst dX9_townAt_9 lt_iconst_3 ?_
    obtain ⟨x4, e5, hF⟩ := q_bind hF
    refine g_iald e5 dX9_townAt_10 ?_
    refine g_icmp_ge 28 dX9_townAt_11 (by decide) (fun c6 => ?_) (fun c6 => ?_)
    · replace hF := q_t c6 hF
      refine g_anull dX9_townAt_28 ?_
      cases hF
      exact g_aret dX9_townAt_29 rfl (Or.inl ⟨_, rfl⟩) (Or.inl rfl) ⟨rfl, rfl, rfl⟩ (Nat.le_of_ble_eq_true rfl) (Nat.le_of_ble_eq_true rfl)
    · replace hF := q_f c6 hF
      refine g_iload_n 1 dX9_townAt_14 rfl ?_
      refine g_iconst dX9_townAt_15 lt_iconst_2 ?_
      refine g_icmp_ge 28 dX9_townAt_16 (by decide) (fun c7 => ?_) (fun c7 => ?_)
      · replace hF := q_t c7 hF
        refine g_anull dX9_townAt_28 ?_
        cases hF
        exact g_aret dX9_townAt_29 rfl (Or.inl ⟨_, rfl⟩) (Or.inl rfl) ⟨rfl, rfl, rfl⟩ (Nat.le_of_ble_eq_true rfl) (Nat.le_of_ble_eq_true rfl)
      · replace hF := q_f c7 hF
        refine g_aload_n 0 dX9_townAt_19 rfl ?_
        obtain ⟨x8, e9, hF⟩ := q_bind hF
        refine g_getfR fl_X9_39 e9 dX9_townAt_20 ?_
        refine g_iload_n 1 dX9_townAt_23 rfl ?_
        obtain ⟨x10, e11, hF⟩ := q_bind hF
        refine g_aald e11 dX9_townAt_24 ?_
        rcases x10 with _ | x12
        · replace hF := q_en hF
          refine g_goto 29 dX9_townAt_25 (by decide) ?_
          cases hF
          exact g_aret dX9_townAt_29 rfl (Or.inl ⟨_, rfl⟩) (Or.inl rfl) ⟨rfl, rfl, rfl⟩ (Nat.le_of_ble_eq_true rfl) (Nat.le_of_ble_eq_true rfl)
        · replace hF := q_es hF
          refine g_goto 29 dX9_townAt_25 (by decide) ?_
          cases hF
          exact g_aret dX9_townAt_29 rfl (Or.inl ⟨_, rfl⟩) (Or.inr ⟨_, rfl⟩) ⟨rfl, rfl, rfl⟩ (Nat.le_of_ble_eq_true rfl) (Nat.le_of_ble_eq_true rfl)
def rm_X10_clear : Room := { frames := 0, cells := 0, slots := 0, locals := 0 }
set_option maxRecDepth 100000 in
set_option maxHeartbeats 4000000 in
theorem B_X10_clear_7 (l : Launch) (b : Nat) (D : va_G) (z : Nat → Nat) {Φ : Option Value → qH → Nat → Prop} {nx : Nat} {a0 : Nat} {a1 : Int32} {h : qH} {o : (Int32 × qH) ⊕ qH} (hF : b_X10_clear_7 a0 a1 h = some o) (hback : ∀ (b1 : Int32) (bh : qH), o = .inl (b1, bh) → Go l b D z yX10_clear cX10_clear 2 none rm_X10_clear Φ 7 [(0, .ref a0), (1, .int b1)] [] bh nx 0 0) (hx0 : ∀  (bh : qH), o = .inr bh → Go l b D z yX10_clear cX10_clear 2 none rm_X10_clear Φ 40 [] [] bh nx 0 0) : Go l b D z yX10_clear cX10_clear 2 none rm_X10_clear Φ 7 [(0, .ref a0), (1, .int a1)] [] h nx 0 0 := by
  unfold b_X10_clear_7 at hF
  refine g_iload_n 1 dX10_clear_7 rfl ?_
  refine g_bipush dX10_clear_8 lt_bipush_9 ?_
  refine g_icmp_ge 40 dX10_clear_10 (by decide) (fun c1 => ?_) (fun c1 => ?_)
  · replace hF := q_t c1 hF
    cases hF
    refine g_sub [] rfl ?_
    exact hx0 _ rfl
  · replace hF := q_f c1 hF
    refine g_aload_n 0 dX10_clear_13 rfl ?_
    obtain ⟨x2, e3, hF⟩ := q_bind hF
    refine g_getfR fl_X10_11 e3 dX10_clear_14 ?_
    refine g_iload_n 1 dX10_clear_17 rfl ?_
    refine g_iconst dX10_clear_18 lt_iconst_2 ?_
    obtain ⟨h4, e5, hF⟩ := q_bind hF
    refine g_iast e5 dX10_clear_19 ?_
    refine g_aload_n 0 dX10_clear_20 rfl ?_
    obtain ⟨x6, e7, hF⟩ := q_bind hF
    refine g_getfR fl_X10_15 e7 dX10_clear_21 ?_
    refine g_iload_n 1 dX10_clear_24 rfl ?_
    refine g_iconst dX10_clear_25 lt_iconst_0 ?_
    obtain ⟨h8, e9, hF⟩ := q_bind hF
    refine g_iast e9 dX10_clear_26 ?_
    refine g_aload_n 0 dX10_clear_27 rfl ?_
    obtain ⟨x10, e11, hF⟩ := q_bind hF
    refine g_getfR fl_X10_18 e11 dX10_clear_28 ?_
    refine g_iload_n 1 dX10_clear_31 rfl ?_
    refine g_iconst dX10_clear_32 lt_iconst_3 ?_
    obtain ⟨h12, e13, hF⟩ := q_bind hF
    refine g_iast e13 dX10_clear_33 ?_
    refine g_iinc [(1, .int (a1 + 1)), (0, .ref a0)] 1 dX10_clear_34 rfl (congrArg (a1 + ·) lt_iconst_1) (Nat.le_of_ble_eq_true rfl) rfl ?_
    refine g_goto 7 dX10_clear_37 (by decide) ?_
    cases hF
    refine g_sub [1, 0] rfl ?_
    exact hback _ _ rfl
set_option maxRecDepth 100000 in
set_option maxHeartbeats 4000000 in
theorem L_X10_clear_7 (l : Launch) (b : Nat) (D : va_G) (z : Nat → Nat) {Φ : Option Value → qH → Nat → Prop} {nx : Nat} {a0 : Nat} : ∀ (n : Nat) (a1 : Int32) (h : qH) (e : qH), q_lp (s_X10_clear_7 a0) n (a1, h) = some e → (∀  (bh : qH), e = bh → Go l b D z yX10_clear cX10_clear 2 none rm_X10_clear Φ 40 [] [] bh nx 0 0) → Go l b D z yX10_clear cX10_clear 2 none rm_X10_clear Φ 7 [(0, .ref a0), (1, .int a1)] [] h nx 0 0 := by
  intro n
  induction n with
  | zero => intro a1 h e he; cases (show none = some e from he)
  | succ n ih =>
    intro a1 h e he hx0
    obtain ⟨o, ho, h1, h2⟩ := q_lp_succ he
    exact B_X10_clear_7 l b D z (show b_X10_clear_7 a0 a1 h = some o from ho) (fun b1 bh hb => ih _ _ e (h1 _ hb) hx0) (fun p0 hr => hx0 p0 (h2 _ hr).symm)
set_option maxRecDepth 100000 in
set_option maxHeartbeats 4000000 in
theorem M_X10_clear (l : Launch) (b : Nat) (D : va_G) (z : Nat → Nat) (nx : Nat) {h : qH} {a0 : Nat} {r : qH} (hF : F_X10_clear h a0 = some r) : Me l b D z yX10_clear cX10_clear 2 none rm_X10_clear [.ref a0] h nx (qE none r nx) := by
  refine Me.of (by decide +kernel) (Nat.le_of_ble_eq_true rfl) ?_
  show Go l b D z yX10_clear cX10_clear 2 none rm_X10_clear (qE none r nx) 0 [(0, .ref a0)] [] h nx 0 0
  unfold F_X10_clear at hF
  refine g_aload_n 0 dX10_clear_0 rfl ?_
  refine g_iconst dX10_clear_1 lt_iconst_4 ?_
  obtain ⟨h1, e2, hF⟩ := q_bind hF
  refine g_putf fl_X10_24 e2 rfl rfl dX10_clear_2 ?_
  refine g_iconst dX10_clear_5 lt_iconst_0 ?_
  refine g_istore_n [(1, .int (0 : Int32)), (0, .ref a0)] dX10_clear_6 (Nat.le_of_ble_eq_true rfl) rfl ?_
  obtain ⟨e3, w4, hF⟩ := q_bind hF
  refine g_sub [1, 0] rfl ?_
  refine L_X10_clear_7 l b D z q_N (0 : Int32) h1 e3 w4 ?_
  · intro h5 w6
    replace w6 := w6.symm
    subst w6
    cases hF
    exact g_vret dX10_clear_40 rfl ⟨rfl, rfl, rfl⟩ (Nat.le_of_ble_eq_true rfl) (Nat.le_of_ble_eq_true rfl)
def rm_X10_setWall : Room := { frames := 0, cells := 0, slots := 0, locals := 0 }
set_option maxRecDepth 100000 in
set_option maxHeartbeats 4000000 in
theorem M_X10_setWall (l : Launch) (b : Nat) (D : va_G) (z : Nat → Nat) (nx : Nat) {h : qH} {a0 : Nat} {a1 : Int32} {a2 : Int32} {r : qH} (hF : F_X10_setWall h a0 a1 a2 = some r) : Me l b D z yX10_setWall cX10_setWall 3 none rm_X10_setWall [.ref a0, .int a1, .int a2] h nx (qE none r nx) := by
  refine Me.of (by decide +kernel) (Nat.le_of_ble_eq_true rfl) ?_
  show Go l b D z yX10_setWall cX10_setWall 3 none rm_X10_setWall (qE none r nx) 0 [(0, .ref a0), (1, .int a1), (2, .int a2)] [] h nx 0 0
  unfold F_X10_setWall at hF
  refine g_iload_n 1 dX10_setWall_0 rfl ?_
  refine g_if_lt 17 dX10_setWall_1 (by decide) (fun c1 => ?_) (fun c1 => ?_)
  · replace hF := q_t c1 hF
    cases hF
    exact g_vret dX10_setWall_17 rfl ⟨rfl, rfl, rfl⟩ (Nat.le_of_ble_eq_true rfl) (Nat.le_of_ble_eq_true rfl)
  · replace hF := q_f c1 hF
    refine g_iload_n 1 dX10_setWall_4 rfl ?_
    refine g_bipush dX10_setWall_5 lt_bipush_9 ?_
    refine g_icmp_ge 17 dX10_setWall_7 (by decide) (fun c2 => ?_) (fun c2 => ?_)
    · replace hF := q_t c2 hF
      cases hF
      exact g_vret dX10_setWall_17 rfl ⟨rfl, rfl, rfl⟩ (Nat.le_of_ble_eq_true rfl) (Nat.le_of_ble_eq_true rfl)
    · replace hF := q_f c2 hF
      refine g_aload_n 0 dX10_setWall_10 rfl ?_
      obtain ⟨x3, e4, hF⟩ := q_bind hF
      refine g_getfR fl_X10_11 e4 dX10_setWall_11 ?_
      refine g_iload_n 1 dX10_setWall_14 rfl ?_
      refine g_iload_n 2 dX10_setWall_15 rfl ?_
      obtain ⟨h5, e6, hF⟩ := q_bind hF
      refine g_iast e6 dX10_setWall_16 ?_
      cases hF
      exact g_vret dX10_setWall_17 rfl ⟨rfl, rfl, rfl⟩ (Nat.le_of_ble_eq_true rfl) (Nat.le_of_ble_eq_true rfl)
def rm_X10_setBook : Room := { frames := 0, cells := 0, slots := 0, locals := 0 }
set_option maxRecDepth 100000 in
set_option maxHeartbeats 4000000 in
theorem M_X10_setBook (l : Launch) (b : Nat) (D : va_G) (z : Nat → Nat) (nx : Nat) {h : qH} {a0 : Nat} {a1 : Int32} {a2 : Int32} {r : qH} (hF : F_X10_setBook h a0 a1 a2 = some r) : Me l b D z yX10_setBook cX10_setBook 3 none rm_X10_setBook [.ref a0, .int a1, .int a2] h nx (qE none r nx) := by
  refine Me.of (by decide +kernel) (Nat.le_of_ble_eq_true rfl) ?_
  show Go l b D z yX10_setBook cX10_setBook 3 none rm_X10_setBook (qE none r nx) 0 [(0, .ref a0), (1, .int a1), (2, .int a2)] [] h nx 0 0
  unfold F_X10_setBook at hF
  refine g_iload_n 1 dX10_setBook_0 rfl ?_
  refine g_if_lt 17 dX10_setBook_1 (by decide) (fun c1 => ?_) (fun c1 => ?_)
  · replace hF := q_t c1 hF
    cases hF
    exact g_vret dX10_setBook_17 rfl ⟨rfl, rfl, rfl⟩ (Nat.le_of_ble_eq_true rfl) (Nat.le_of_ble_eq_true rfl)
  · replace hF := q_f c1 hF
    refine g_iload_n 1 dX10_setBook_4 rfl ?_
    refine g_bipush dX10_setBook_5 lt_bipush_9 ?_
    refine g_icmp_ge 17 dX10_setBook_7 (by decide) (fun c2 => ?_) (fun c2 => ?_)
    · replace hF := q_t c2 hF
      cases hF
      exact g_vret dX10_setBook_17 rfl ⟨rfl, rfl, rfl⟩ (Nat.le_of_ble_eq_true rfl) (Nat.le_of_ble_eq_true rfl)
    · replace hF := q_f c2 hF
      refine g_aload_n 0 dX10_setBook_10 rfl ?_
      obtain ⟨x3, e4, hF⟩ := q_bind hF
      refine g_getfR fl_X10_15 e4 dX10_setBook_11 ?_
      refine g_iload_n 1 dX10_setBook_14 rfl ?_
      refine g_iload_n 2 dX10_setBook_15 rfl ?_
      obtain ⟨h5, e6, hF⟩ := q_bind hF
      refine g_iast e6 dX10_setBook_16 ?_
      cases hF
      exact g_vret dX10_setBook_17 rfl ⟨rfl, rfl, rfl⟩ (Nat.le_of_ble_eq_true rfl) (Nat.le_of_ble_eq_true rfl)
def rm_X10_setLoud : Room := { frames := 0, cells := 0, slots := 0, locals := 0 }
set_option maxRecDepth 100000 in
set_option maxHeartbeats 4000000 in
theorem M_X10_setLoud (l : Launch) (b : Nat) (D : va_G) (z : Nat → Nat) (nx : Nat) {h : qH} {a0 : Nat} {a1 : Int32} {a2 : Int32} {r : qH} (hF : F_X10_setLoud h a0 a1 a2 = some r) : Me l b D z yX10_setLoud cX10_setLoud 3 none rm_X10_setLoud [.ref a0, .int a1, .int a2] h nx (qE none r nx) := by
  refine Me.of (by decide +kernel) (Nat.le_of_ble_eq_true rfl) ?_
  show Go l b D z yX10_setLoud cX10_setLoud 3 none rm_X10_setLoud (qE none r nx) 0 [(0, .ref a0), (1, .int a1), (2, .int a2)] [] h nx 0 0
  unfold F_X10_setLoud at hF
  refine g_iload_n 1 dX10_setLoud_0 rfl ?_
  refine g_if_lt 17 dX10_setLoud_1 (by decide) (fun c1 => ?_) (fun c1 => ?_)
  · replace hF := q_t c1 hF
    cases hF
    exact g_vret dX10_setLoud_17 rfl ⟨rfl, rfl, rfl⟩ (Nat.le_of_ble_eq_true rfl) (Nat.le_of_ble_eq_true rfl)
  · replace hF := q_f c1 hF
    refine g_iload_n 1 dX10_setLoud_4 rfl ?_
    refine g_bipush dX10_setLoud_5 lt_bipush_9 ?_
    refine g_icmp_ge 17 dX10_setLoud_7 (by decide) (fun c2 => ?_) (fun c2 => ?_)
    · replace hF := q_t c2 hF
      cases hF
      exact g_vret dX10_setLoud_17 rfl ⟨rfl, rfl, rfl⟩ (Nat.le_of_ble_eq_true rfl) (Nat.le_of_ble_eq_true rfl)
    · replace hF := q_f c2 hF
      refine g_aload_n 0 dX10_setLoud_10 rfl ?_
      obtain ⟨x3, e4, hF⟩ := q_bind hF
      refine g_getfR fl_X10_18 e4 dX10_setLoud_11 ?_
      refine g_iload_n 1 dX10_setLoud_14 rfl ?_
      refine g_iload_n 2 dX10_setLoud_15 rfl ?_
      obtain ⟨h5, e6, hF⟩ := q_bind hF
      refine g_iast e6 dX10_setLoud_16 ?_
      cases hF
      exact g_vret dX10_setLoud_17 rfl ⟨rfl, rfl, rfl⟩ (Nat.le_of_ble_eq_true rfl) (Nat.le_of_ble_eq_true rfl)
def rm_X7_tellTown : Room := { frames := 1, cells := 0, slots := 0, locals := 22 }
set_option maxRecDepth 100000 in
set_option maxHeartbeats 4000000 in
theorem M_X7_tellTown (l : Launch) (b : Nat) (D : va_G) (z : Nat → Nat) (nx : Nat) {h : qH} {a0 : Nat} {a1 : Nat} {a2 : Int32} {r : qH} (hF : F_X7_tellTown h a0 a1 a2 = some r) : Me l b D z yX7_tellTown cX7_tellTown 5 none rm_X7_tellTown [.ref a0, .ref a1, .int a2] h nx (qE none r nx) := by
  refine Me.of (by decide +kernel) (Nat.le_of_ble_eq_true rfl) ?_
  show Go l b D z yX7_tellTown cX7_tellTown 5 none rm_X7_tellTown (qE none r nx) 0 [(0, .ref a0), (1, .ref a1), (2, .int a2)] [] h nx 0 0
  unfold F_X7_tellTown at hF
  refine g_aload_n 0 dX7_tellTown_0 rfl ?_
  refine g_iload_n 2 dX7_tellTown_1 rfl ?_
  refine g_iconst dX7_tellTown_2 lt_iconst_1 ?_
  refine g_iadd dX7_tellTown_3 ?_
  obtain ⟨u1, e2, hF⟩ := q_bind hF
  obtain ⟨x3, e4, hF⟩ := q_bind hF
  refine g_callVr0 (ci := 7) (q := (RX7, TX7, 6)) qm_X7_valueAt wd_679 wd_681 wd_6 rfl e2 (M_X7_valueAt l b D z nx e4) (As := [.int (a2 + (1 : Int32))]) rfl rfl (Nat.le_of_ble_eq_true rfl) ⟨(Nat.le_of_ble_eq_true rfl), (Nat.le_of_ble_eq_true rfl)⟩ ⟨rfl, rfl⟩ ⟨(Nat.le_of_ble_eq_true rfl), (Nat.le_of_ble_eq_true rfl)⟩ dX7_tellTown_4 ?_
  refine g_istore_n [(3, .int x3), (0, .ref a0), (1, .ref a1), (2, .int a2)] dX7_tellTown_7 (Nat.le_of_ble_eq_true rfl) rfl ?_
  refine g_aload_n 1 dX7_tellTown_8 rfl ?_
  refine g_iload_n 3 dX7_tellTown_9 rfl ?_
  refine g_iconst dX7_tellTown_10 lt_iconst_2 ?_
  refine g_iadd dX7_tellTown_11 ?_
  obtain ⟨u5, e6, hF⟩ := q_bind hF
  obtain ⟨x7, e8, hF⟩ := q_bind hF
  refine g_callVr0 (ci := 7) (q := (RX7, TX7, 6)) qm_X7_valueAt wd_679 wd_681 wd_6 rfl e6 (M_X7_valueAt l b D z nx e8) (As := [.int (a2 + (2 : Int32))]) rfl rfl (Nat.le_of_ble_eq_true rfl) ⟨(Nat.le_of_ble_eq_true rfl), (Nat.le_of_ble_eq_true rfl)⟩ ⟨rfl, rfl⟩ ⟨(Nat.le_of_ble_eq_true rfl), (Nat.le_of_ble_eq_true rfl)⟩ dX7_tellTown_12 ?_
  refine g_istore [(4, .int x7), (3, .int x3), (0, .ref a0), (1, .ref a1), (2, .int a2)] dX7_tellTown_15 (Nat.le_of_ble_eq_true rfl) rfl ?_
  refine g_aload_n 2 dX7_tellTown_17 rfl ?_
  refine g_iload_n 4 dX7_tellTown_18 rfl ?_
  obtain ⟨u9, e10, hF⟩ := q_bind hF
  obtain ⟨x11, e12, hF⟩ := q_bind hF
  refine g_callVr0 (ci := 7) (q := (RX7, TX7, 6)) qm_X7_valueAt wd_679 wd_681 wd_6 rfl e10 (M_X7_valueAt l b D z nx e12) (As := [.int a2]) rfl rfl (Nat.le_of_ble_eq_true rfl) ⟨(Nat.le_of_ble_eq_true rfl), (Nat.le_of_ble_eq_true rfl)⟩ ⟨rfl, rfl⟩ ⟨(Nat.le_of_ble_eq_true rfl), (Nat.le_of_ble_eq_true rfl)⟩ dX7_tellTown_19 ?_
  by_cases c13 : x11 = 15
  · replace hF := q_t c13 hF
    refine g_tabIn (off := 30) 52 dX7_tellTown_22 (by rw [c13]; decide) (by rw [c13]; decide) (by rw [c13]; decide) (by decide) ?_
    refine g_aload_n 3 dX7_tellTown_52 rfl ?_
    refine g_iload_n 1 dX7_tellTown_53 rfl ?_
    obtain ⟨h14, e15, hF⟩ := q_bind hF
    refine g_putf fl_X7_264 e15 rfl rfl dX7_tellTown_54 ?_
    refine g_goto 90 dX7_tellTown_57 (by decide) ?_
    cases hF
    exact g_vret dX7_tellTown_90 rfl ⟨rfl, rfl, rfl⟩ (Nat.le_of_ble_eq_true rfl) (Nat.le_of_ble_eq_true rfl)
  replace hF := q_f c13 hF
  by_cases c16 : x11 = 16
  · replace hF := q_t c16 hF
    refine g_tabIn (off := 38) 60 dX7_tellTown_22 (by rw [c16]; decide) (by rw [c16]; decide) (by rw [c16]; decide) (by decide) ?_
    refine g_aload_n 3 dX7_tellTown_60 rfl ?_
    refine g_iload_n 1 dX7_tellTown_61 rfl ?_
    refine g_iload 0 dX7_tellTown_62 rfl ?_
    obtain ⟨u17, e18, hF⟩ := q_bind hF
    obtain ⟨x19, e20, hF⟩ := q_bind hF
    refine g_callVv0 (ci := 10) (q := (RX10, TX10, 5)) qm_X10_setWall wd_838 wd_839 wd_840 rfl e18 (M_X10_setWall l b D z nx e20) (As := [.int x3, .int x7]) rfl rfl (Nat.le_of_ble_eq_true rfl) ⟨(Nat.le_of_ble_eq_true rfl), (Nat.le_of_ble_eq_true rfl)⟩ ⟨rfl, rfl⟩ ⟨(Nat.le_of_ble_eq_true rfl), (Nat.le_of_ble_eq_true rfl)⟩ dX7_tellTown_64 ?_
    refine g_goto 90 dX7_tellTown_67 (by decide) ?_
    cases hF
    exact g_vret dX7_tellTown_90 rfl ⟨rfl, rfl, rfl⟩ (Nat.le_of_ble_eq_true rfl) (Nat.le_of_ble_eq_true rfl)
  replace hF := q_f c16 hF
  by_cases c21 : x11 = 17
  · replace hF := q_t c21 hF
    refine g_tabIn (off := 48) 70 dX7_tellTown_22 (by rw [c21]; decide) (by rw [c21]; decide) (by rw [c21]; decide) (by decide) ?_
    refine g_aload_n 3 dX7_tellTown_70 rfl ?_
    refine g_iload_n 1 dX7_tellTown_71 rfl ?_
    refine g_iload 0 dX7_tellTown_72 rfl ?_
    obtain ⟨u22, e23, hF⟩ := q_bind hF
    obtain ⟨x24, e25, hF⟩ := q_bind hF
    refine g_callVv0 (ci := 10) (q := (RX10, TX10, 5)) qm_X10_setBook wd_842 wd_843 wd_844 rfl e23 (M_X10_setBook l b D z nx e25) (As := [.int x3, .int x7]) rfl rfl (Nat.le_of_ble_eq_true rfl) ⟨(Nat.le_of_ble_eq_true rfl), (Nat.le_of_ble_eq_true rfl)⟩ ⟨rfl, rfl⟩ ⟨(Nat.le_of_ble_eq_true rfl), (Nat.le_of_ble_eq_true rfl)⟩ dX7_tellTown_74 ?_
    refine g_goto 90 dX7_tellTown_77 (by decide) ?_
    cases hF
    exact g_vret dX7_tellTown_90 rfl ⟨rfl, rfl, rfl⟩ (Nat.le_of_ble_eq_true rfl) (Nat.le_of_ble_eq_true rfl)
  replace hF := q_f c21 hF
  by_cases c26 : x11 = 18
  · replace hF := q_t c26 hF
    refine g_tabIn (off := 58) 80 dX7_tellTown_22 (by rw [c26]; decide) (by rw [c26]; decide) (by rw [c26]; decide) (by decide) ?_
    refine g_aload_n 3 dX7_tellTown_80 rfl ?_
    refine g_iload_n 1 dX7_tellTown_81 rfl ?_
    refine g_iload 0 dX7_tellTown_82 rfl ?_
    obtain ⟨u27, e28, hF⟩ := q_bind hF
    obtain ⟨x29, e30, hF⟩ := q_bind hF
    refine g_callVv0 (ci := 10) (q := (RX10, TX10, 5)) qm_X10_setLoud wd_846 wd_847 wd_848 rfl e28 (M_X10_setLoud l b D z nx e30) (As := [.int x3, .int x7]) rfl rfl (Nat.le_of_ble_eq_true rfl) ⟨(Nat.le_of_ble_eq_true rfl), (Nat.le_of_ble_eq_true rfl)⟩ ⟨rfl, rfl⟩ ⟨(Nat.le_of_ble_eq_true rfl), (Nat.le_of_ble_eq_true rfl)⟩ dX7_tellTown_84 ?_
    refine g_goto 90 dX7_tellTown_87 (by decide) ?_
    cases hF
    exact g_vret dX7_tellTown_90 rfl ⟨rfl, rfl, rfl⟩ (Nat.le_of_ble_eq_true rfl) (Nat.le_of_ble_eq_true rfl)
  replace hF := q_f c26 hF
  refine g_tabOut 90 dX7_tellTown_22 ?_ (by decide) ?_
  · have t0 := lv_neT (a := 15) c13 (by decide); have t1 := lv_neT (a := 16) c16 (by decide); have t2 := lv_neT (a := 17) c21 (by decide); have t3 := lv_neT (a := 18) c26 (by decide); omega
  cases hF
  exact g_vret dX7_tellTown_90 rfl ⟨rfl, rfl, rfl⟩ (Nat.le_of_ble_eq_true rfl) (Nat.le_of_ble_eq_true rfl)
def rm_X7_fillTown : Room := { frames := 2, cells := 0, slots := 0, locals := 46 }
set_option maxRecDepth 100000 in
set_option maxHeartbeats 4000000 in
theorem B_X7_fillTown_11 (l : Launch) (b : Nat) (D : va_G) (z : Nat → Nat) {Φ : Option Value → qH → Nat → Prop} {nx : Nat} {a0 : Nat} {a1 : Nat} {a2 : Int32} {h : qH} {o : (Int32 × qH) ⊕ qH} (hF : b_X7_fillTown_11 z a0 a1 a2 h = some o) (hback : ∀ (b2 : Int32) (bh : qH), o = .inl (b2, bh) → Go l b D z yX7_fillTown cX7_fillTown 3 none rm_X7_fillTown Φ 11 [(0, .ref a0), (1, .ref a1), (2, .int b2)] [] bh nx 0 0) (hx0 : ∀  (bh : qH), o = .inr bh → Go l b D z yX7_fillTown cX7_fillTown 3 none rm_X7_fillTown Φ 34 [] [] bh nx 0 0) : Go l b D z yX7_fillTown cX7_fillTown 3 none rm_X7_fillTown Φ 11 [(0, .ref a0), (1, .ref a1), (2, .int a2)] [] h nx 0 0 := by
  unfold b_X7_fillTown_11 at hF
  refine g_iload_n 2 dX7_fillTown_11 rfl ?_
  refine g_aload_n 0 dX7_fillTown_12 rfl ?_
  obtain ⟨u1, e2, hF⟩ := q_bind hF
  obtain ⟨x3, e4, hF⟩ := q_bind hF
  refine g_callVr0 (ci := 7) (q := (RX7, TX7, 6)) qm_X7_lastToken wd_700 wd_702 wd_10 rfl e2 (M_X7_lastToken l b D z nx e4) (As := []) rfl rfl (Nat.le_of_ble_eq_true rfl) ⟨(Nat.le_of_ble_eq_true rfl), (Nat.le_of_ble_eq_true rfl)⟩ ⟨rfl, rfl⟩ ⟨(Nat.le_of_ble_eq_true rfl), (Nat.le_of_ble_eq_true rfl)⟩ dX7_fillTown_13 ?_
  refine g_icmp_ge 34 dX7_fillTown_16 (by decide) (fun c5 => ?_) (fun c5 => ?_)
  · replace hF := q_t c5 hF
    cases hF
    refine g_sub [] rfl ?_
    exact hx0 _ rfl
  · replace hF := q_f c5 hF
    refine g_aload_n 0 dX7_fillTown_19 rfl ?_
    refine g_aload_n 1 dX7_fillTown_20 rfl ?_
    refine g_iload_n 2 dX7_fillTown_21 rfl ?_
    obtain ⟨u6, e7, hF⟩ := q_bind hF
    obtain ⟨x8, e9, hF⟩ := q_bind hF
    refine g_callVv0 (ci := 7) (q := (RX7, TX7, 6)) qm_X7_tellTown wd_834 wd_836 wd_21 rfl e7 (M_X7_tellTown l b D z nx e9) (As := [.ref a1, .int a2]) rfl rfl (Nat.le_of_ble_eq_true rfl) ⟨(Nat.le_of_ble_eq_true rfl), (Nat.le_of_ble_eq_true rfl)⟩ ⟨rfl, rfl⟩ ⟨(Nat.le_of_ble_eq_true rfl), (Nat.le_of_ble_eq_true rfl)⟩ dX7_fillTown_22 ?_
    refine g_aload_n 0 dX7_fillTown_25 rfl ?_
    refine g_iload_n 2 dX7_fillTown_26 rfl ?_
    obtain ⟨u10, e11, hF⟩ := q_bind hF
    obtain ⟨x12, e13, hF⟩ := q_bind hF
    refine g_callVr0 (ci := 7) (q := (RX7, TX7, 6)) qm_X7_behindStatement wd_675 wd_677 wd_5 rfl e11 (M_X7_behindStatement l b D z nx e13) (As := [.int a2]) rfl rfl (Nat.le_of_ble_eq_true rfl) ⟨(Nat.le_of_ble_eq_true rfl), (Nat.le_of_ble_eq_true rfl)⟩ ⟨rfl, rfl⟩ ⟨(Nat.le_of_ble_eq_true rfl), (Nat.le_of_ble_eq_true rfl)⟩ dX7_fillTown_27 ?_
    refine g_istore_n [(2, .int x12), (0, .ref a0), (1, .ref a1)] dX7_fillTown_30 (Nat.le_of_ble_eq_true rfl) rfl ?_
    refine g_goto 11 dX7_fillTown_31 (by decide) ?_
    cases hF
    refine g_sub [1, 2, 0] rfl ?_
    exact hback _ _ rfl
set_option maxRecDepth 100000 in
set_option maxHeartbeats 4000000 in
theorem L_X7_fillTown_11 (l : Launch) (b : Nat) (D : va_G) (z : Nat → Nat) {Φ : Option Value → qH → Nat → Prop} {nx : Nat} {a0 : Nat} {a1 : Nat} : ∀ (n : Nat) (a2 : Int32) (h : qH) (e : qH), q_lp (s_X7_fillTown_11 z a0 a1) n (a2, h) = some e → (∀  (bh : qH), e = bh → Go l b D z yX7_fillTown cX7_fillTown 3 none rm_X7_fillTown Φ 34 [] [] bh nx 0 0) → Go l b D z yX7_fillTown cX7_fillTown 3 none rm_X7_fillTown Φ 11 [(0, .ref a0), (1, .ref a1), (2, .int a2)] [] h nx 0 0 := by
  intro n
  induction n with
  | zero => intro a2 h e he; cases (show none = some e from he)
  | succ n ih =>
    intro a2 h e he hx0
    obtain ⟨o, ho, h1, h2⟩ := q_lp_succ he
    exact B_X7_fillTown_11 l b D z (show b_X7_fillTown_11 z a0 a1 a2 h = some o from ho) (fun b2 bh hb => ih _ _ e (h1 _ hb) hx0) (fun p0 hr => hx0 p0 (h2 _ hr).symm)
set_option maxRecDepth 100000 in
set_option maxHeartbeats 4000000 in
theorem M_X7_fillTown (l : Launch) (b : Nat) (D : va_G) (z : Nat → Nat) (nx : Nat) {h : qH} {a0 : Nat} {a1 : Nat} {r : qH} (hF : F_X7_fillTown z h a0 a1 = some r) : Me l b D z yX7_fillTown cX7_fillTown 3 none rm_X7_fillTown [.ref a0, .ref a1] h nx (qE none r nx) := by
  refine Me.of (by decide +kernel) (Nat.le_of_ble_eq_true rfl) ?_
  show Go l b D z yX7_fillTown cX7_fillTown 3 none rm_X7_fillTown (qE none r nx) 0 [(0, .ref a0), (1, .ref a1)] [] h nx 0 0
  unfold F_X7_fillTown at hF
  refine g_aload_n 1 dX7_fillTown_0 rfl ?_
  refine g_ifnonnullR 5 dX7_fillTown_1 (by decide) ?_
  refine g_aload_n 1 dX7_fillTown_5 rfl ?_
  obtain ⟨u1, e2, hF⟩ := q_bind hF
  obtain ⟨x3, e4, hF⟩ := q_bind hF
  refine g_callVv0 (ci := 10) (q := (RX10, TX10, 5)) qm_X10_clear wd_830 wd_831 wd_832 rfl e2 (M_X10_clear l b D z nx e4) (As := []) rfl rfl (Nat.le_of_ble_eq_true rfl) ⟨(Nat.le_of_ble_eq_true rfl), (Nat.le_of_ble_eq_true rfl)⟩ ⟨rfl, rfl⟩ ⟨(Nat.le_of_ble_eq_true rfl), (Nat.le_of_ble_eq_true rfl)⟩ dX7_fillTown_6 ?_
  refine g_iconst dX7_fillTown_9 lt_iconst_0 ?_
  refine g_istore_n [(2, .int (0 : Int32)), (0, .ref a0), (1, .ref a1)] dX7_fillTown_10 (Nat.le_of_ble_eq_true rfl) rfl ?_
  obtain ⟨e5, w6, hF⟩ := q_bind hF
  refine g_sub [1, 2, 0] rfl ?_
  refine L_X7_fillTown_11 l b D z q_N (0 : Int32) x3 e5 w6 ?_
  · intro h7 w8
    replace w8 := w8.symm
    subst w8
    cases hF
    exact g_vret dX7_fillTown_34 rfl ⟨rfl, rfl, rfl⟩ (Nat.le_of_ble_eq_true rfl) (Nat.le_of_ble_eq_true rfl)
def rm_X7_fill : Room := { frames := 5, cells := 0, slots := 0, locals := 111 }
set_option maxRecDepth 100000 in
set_option maxHeartbeats 4000000 in
theorem M_X7_fill (l : Launch) (b : Nat) (D : va_G) (z : Nat → Nat) (nx : Nat) {h : qH} {a0 : Nat} {a1 : Nat} {a2 : Int32} {a3 : Int32} {r : qH} (hF : F_X7_fill z h a0 a1 a2 a3 = some r) : Me l b D z yX7_fill cX7_fill 4 none rm_X7_fill [.ref a0, .ref a1, .int a2, .int a3] h nx (qE none r nx) := by
  refine Me.of (by decide +kernel) (Nat.le_of_ble_eq_true rfl) ?_
  show Go l b D z yX7_fill cX7_fill 4 none rm_X7_fill (qE none r nx) 0 [(0, .ref a0), (1, .ref a1), (2, .int a2), (3, .int a3)] [] h nx 0 0
  unfold F_X7_fill at hF
  refine g_iload_n 2 dX7_fill_0 rfl ?_
  by_cases c1 : a2 = 0
  · replace hF := q_t c1 hF
    refine g_tabIn (off := 27) 28 dX7_fill_1 (by rw [c1]; decide) (by rw [c1]; decide) (by rw [c1]; decide) (by decide) ?_
    refine g_aload_n 0 dX7_fill_28 rfl ?_
    refine g_aload_n 1 dX7_fill_29 rfl ?_
    refine g_iload_n 3 dX7_fill_30 rfl ?_
    obtain ⟨u2, e3, hF⟩ := q_bind hF
    obtain ⟨x4, e5, hF⟩ := q_bind hF
    refine g_callVr0 (ci := 9) (q := (RX9, TX9, 9)) qm_X9_bookAt wd_735 wd_736 wd_737 rfl e3 (M_X9_bookAt l b D z nx e5) (As := [.int a3]) rfl rfl (Nat.le_of_ble_eq_true rfl) ⟨(Nat.le_of_ble_eq_true rfl), (Nat.le_of_ble_eq_true rfl)⟩ ⟨rfl, rfl⟩ ⟨(Nat.le_of_ble_eq_true rfl), (Nat.le_of_ble_eq_true rfl)⟩ dX7_fill_31 ?_
    rcases x4 with _ | x7
    · replace hF := q_en hF
      cases hF
    · replace hF := q_es hF
      obtain ⟨u8, e9, hF⟩ := q_bind hF
      obtain ⟨x10, e11, hF⟩ := q_bind hF
      refine g_callVv0 (ci := 7) (q := (RX7, TX7, 6)) qm_X7_fillBook wd_739 wd_741 wd_15 rfl e9 (M_X7_fillBook l b D z nx e11) (As := [.ref x7]) rfl rfl (Nat.le_of_ble_eq_true rfl) ⟨(Nat.le_of_ble_eq_true rfl), (Nat.le_of_ble_eq_true rfl)⟩ ⟨rfl, rfl⟩ ⟨(Nat.le_of_ble_eq_true rfl), (Nat.le_of_ble_eq_true rfl)⟩ dX7_fill_34 ?_
      refine g_goto 73 dX7_fill_37 (by decide) ?_
      cases hF
      exact g_vret dX7_fill_73 rfl ⟨rfl, rfl, rfl⟩ (Nat.le_of_ble_eq_true rfl) (Nat.le_of_ble_eq_true rfl)
  replace hF := q_f c1 hF
  by_cases c12 : a2 = 1
  · replace hF := q_t c12 hF
    refine g_tabIn (off := 39) 40 dX7_fill_1 (by rw [c12]; decide) (by rw [c12]; decide) (by rw [c12]; decide) (by decide) ?_
    refine g_aload_n 0 dX7_fill_40 rfl ?_
    refine g_aload_n 1 dX7_fill_41 rfl ?_
    refine g_iload_n 3 dX7_fill_42 rfl ?_
    obtain ⟨u13, e14, hF⟩ := q_bind hF
    obtain ⟨x15, e16, hF⟩ := q_bind hF
    refine g_callVr0 (ci := 9) (q := (RX9, TX9, 9)) qm_X9_eveningAt wd_798 wd_799 wd_800 rfl e14 (M_X9_eveningAt l b D z nx e16) (As := [.int a3]) rfl rfl (Nat.le_of_ble_eq_true rfl) ⟨(Nat.le_of_ble_eq_true rfl), (Nat.le_of_ble_eq_true rfl)⟩ ⟨rfl, rfl⟩ ⟨(Nat.le_of_ble_eq_true rfl), (Nat.le_of_ble_eq_true rfl)⟩ dX7_fill_43 ?_
    rcases x15 with _ | x18
    · replace hF := q_en hF
      cases hF
    · replace hF := q_es hF
      obtain ⟨u19, e20, hF⟩ := q_bind hF
      obtain ⟨x21, e22, hF⟩ := q_bind hF
      refine g_callVv0 (ci := 7) (q := (RX7, TX7, 6)) qm_X7_fillEvening wd_802 wd_804 wd_18 rfl e20 (M_X7_fillEvening l b D z nx e22) (As := [.ref x18]) rfl rfl (Nat.le_of_ble_eq_true rfl) ⟨(Nat.le_of_ble_eq_true rfl), (Nat.le_of_ble_eq_true rfl)⟩ ⟨rfl, rfl⟩ ⟨(Nat.le_of_ble_eq_true rfl), (Nat.le_of_ble_eq_true rfl)⟩ dX7_fill_46 ?_
      refine g_goto 73 dX7_fill_49 (by decide) ?_
      cases hF
      exact g_vret dX7_fill_73 rfl ⟨rfl, rfl, rfl⟩ (Nat.le_of_ble_eq_true rfl) (Nat.le_of_ble_eq_true rfl)
  replace hF := q_f c12 hF
  by_cases c23 : a2 = 2
  · replace hF := q_t c23 hF
    refine g_tabIn (off := 51) 52 dX7_fill_1 (by rw [c23]; decide) (by rw [c23]; decide) (by rw [c23]; decide) (by decide) ?_
    refine g_aload_n 0 dX7_fill_52 rfl ?_
    refine g_aload_n 1 dX7_fill_53 rfl ?_
    refine g_iload_n 3 dX7_fill_54 rfl ?_
    obtain ⟨u24, e25, hF⟩ := q_bind hF
    obtain ⟨x26, e27, hF⟩ := q_bind hF
    refine g_callVr0 (ci := 9) (q := (RX9, TX9, 9)) qm_X9_logAt wd_810 wd_811 wd_812 rfl e25 (M_X9_logAt l b D z nx e27) (As := [.int a3]) rfl rfl (Nat.le_of_ble_eq_true rfl) ⟨(Nat.le_of_ble_eq_true rfl), (Nat.le_of_ble_eq_true rfl)⟩ ⟨rfl, rfl⟩ ⟨(Nat.le_of_ble_eq_true rfl), (Nat.le_of_ble_eq_true rfl)⟩ dX7_fill_55 ?_
    rcases x26 with _ | x29
    · replace hF := q_en hF
      cases hF
    · replace hF := q_es hF
      obtain ⟨u30, e31, hF⟩ := q_bind hF
      obtain ⟨x32, e33, hF⟩ := q_bind hF
      refine g_callVv0 (ci := 7) (q := (RX7, TX7, 6)) qm_X7_fillLog wd_814 wd_816 wd_19 rfl e31 (M_X7_fillLog l b D z nx e33) (As := [.ref x29]) rfl rfl (Nat.le_of_ble_eq_true rfl) ⟨(Nat.le_of_ble_eq_true rfl), (Nat.le_of_ble_eq_true rfl)⟩ ⟨rfl, rfl⟩ ⟨(Nat.le_of_ble_eq_true rfl), (Nat.le_of_ble_eq_true rfl)⟩ dX7_fill_58 ?_
      refine g_goto 73 dX7_fill_61 (by decide) ?_
      cases hF
      exact g_vret dX7_fill_73 rfl ⟨rfl, rfl, rfl⟩ (Nat.le_of_ble_eq_true rfl) (Nat.le_of_ble_eq_true rfl)
  replace hF := q_f c23 hF
  refine g_tabOut 64 dX7_fill_1 ?_ (by decide) ?_
  · have t0 := lv_neT (a := 0) c1 (by decide); have t1 := lv_neT (a := 1) c12 (by decide); have t2 := lv_neT (a := 2) c23 (by decide); omega
  refine g_aload_n 0 dX7_fill_64 rfl ?_
  refine g_aload_n 1 dX7_fill_65 rfl ?_
  refine g_iload_n 3 dX7_fill_66 rfl ?_
  obtain ⟨u34, e35, hF⟩ := q_bind hF
  obtain ⟨x36, e37, hF⟩ := q_bind hF
  refine g_callVr0 (ci := 9) (q := (RX9, TX9, 9)) qm_X9_townAt wd_822 wd_823 wd_824 rfl e35 (M_X9_townAt l b D z nx e37) (As := [.int a3]) rfl rfl (Nat.le_of_ble_eq_true rfl) ⟨(Nat.le_of_ble_eq_true rfl), (Nat.le_of_ble_eq_true rfl)⟩ ⟨rfl, rfl⟩ ⟨(Nat.le_of_ble_eq_true rfl), (Nat.le_of_ble_eq_true rfl)⟩ dX7_fill_67 ?_
  rcases x36 with _ | x39
  · replace hF := q_en hF
    cases hF
  · replace hF := q_es hF
    obtain ⟨u40, e41, hF⟩ := q_bind hF
    obtain ⟨x42, e43, hF⟩ := q_bind hF
    refine g_callVv0 (ci := 7) (q := (RX7, TX7, 6)) qm_X7_fillTown wd_826 wd_828 wd_20 rfl e41 (M_X7_fillTown l b D z nx e43) (As := [.ref x39]) rfl rfl (Nat.le_of_ble_eq_true rfl) ⟨(Nat.le_of_ble_eq_true rfl), (Nat.le_of_ble_eq_true rfl)⟩ ⟨rfl, rfl⟩ ⟨(Nat.le_of_ble_eq_true rfl), (Nat.le_of_ble_eq_true rfl)⟩ dX7_fill_70 ?_
    cases hF
    exact g_vret dX7_fill_73 rfl ⟨rfl, rfl, rfl⟩ (Nat.le_of_ble_eq_true rfl) (Nat.le_of_ble_eq_true rfl)
def rm_X8_init : Room := { frames := 1, cells := 2, slots := 12, locals := 20 }
theorem rmc_X8_init : rm_X8_init.cells = 2 := rfl
theorem rms_X8_init : rm_X8_init.slots = 12 := rfl
set_option maxRecDepth 100000 in
set_option maxHeartbeats 4000000 in
theorem M_X8_init (l : Launch) (b : Nat) (D : va_G) (z : Nat → Nat) (nx : Nat) {h : qH} {a0 : Nat} {r : qH × Nat} (hF : F_X8_init h nx a0 = some r) : Me l b D z yX8_init cX8_init 1 none rm_X8_init [.ref a0] h nx (qE none r.1 r.2) := by
  refine Me.of (by decide +kernel) (Nat.le_of_ble_eq_true rfl) ?_
  show Go l b D z yX8_init cX8_init 1 none rm_X8_init (qE none r.1 r.2) 0 [(0, .ref a0)] [] h nx 0 0
  unfold F_X8_init at hF
  refine g_aload_n 0 dX8_init_0 rfl ?_
  refine g_obj wd_386 wd_190 wd_191 (Nat.le_of_ble_eq_true rfl) (Nat.le_of_ble_eq_true rfl) dX8_init_1 ?_
  refine g_aload_n 0 dX8_init_4 rfl ?_
  refine g_bipush dX8_init_5 lt_bipush_6 ?_
  refine g_newi (N := 6) wd_266 (by decide) (by decide) (Nat.le_of_ble_eq_true rfl) (Nat.le_of_ble_eq_true rfl) (Nat.le_of_ble_eq_true rfl) dX8_init_7 ?_
  obtain ⟨h1, e2, hF⟩ := q_bind hF
  refine g_putF fl_X8_9 e2 rfl rfl rfl (fun q hq => by cases hq; rfl) dX8_init_9 ?_
  refine g_aload_n 0 dX8_init_12 rfl ?_
  refine g_bipush dX8_init_13 lt_bipush_6 ?_
  refine g_newi (N := 6) wd_266 (by decide) (by decide) (Nat.le_of_ble_eq_true rfl) (Nat.le_of_ble_eq_true rfl) (Nat.le_of_ble_eq_true rfl) dX8_init_15 ?_
  obtain ⟨h3, e4, hF⟩ := q_bind hF
  refine g_putF fl_X8_15 e4 rfl rfl rfl (fun q hq => by cases hq; rfl) dX8_init_17 ?_
  cases hF
  exact g_vret dX8_init_20 rfl ⟨rfl, rfl, rfl⟩ (Nat.le_of_ble_eq_true rfl) (Nat.le_of_ble_eq_true rfl)
def rm_X8_begin : Room := { frames := 0, cells := 0, slots := 0, locals := 0 }
set_option maxRecDepth 100000 in
set_option maxHeartbeats 4000000 in
theorem B_X8_begin_43 (l : Launch) (b : Nat) (D : va_G) (z : Nat → Nat) {Φ : Option Value → qH → Nat → Prop} {nx : Nat} {a0 : Nat} {a1 : Int32} {h : qH} {o : (Int32 × qH) ⊕ qH} (hF : b_X8_begin_43 a0 a1 h = some o) (hback : ∀ (b1 : Int32) (bh : qH), o = .inl (b1, bh) → Go l b D z yX8_begin cX8_begin 2 none rm_X8_begin Φ 43 [(0, .ref a0), (1, .int b1)] [] bh nx 0 0) (hx0 : ∀  (bh : qH), o = .inr bh → Go l b D z yX8_begin cX8_begin 2 none rm_X8_begin Φ 69 [] [] bh nx 0 0) : Go l b D z yX8_begin cX8_begin 2 none rm_X8_begin Φ 43 [(0, .ref a0), (1, .int a1)] [] h nx 0 0 := by
  unfold b_X8_begin_43 at hF
  refine g_iload_n 1 dX8_begin_43 rfl ?_
  refine g_bipush dX8_begin_44 lt_bipush_6 ?_
  refine g_icmp_ge 69 dX8_begin_46 (by decide) (fun c1 => ?_) (fun c1 => ?_)
  · replace hF := q_t c1 hF
    cases hF
    refine g_sub [] rfl ?_
    exact hx0 _ rfl
  · replace hF := q_f c1 hF
    refine g_aload_n 0 dX8_begin_49 rfl ?_
    obtain ⟨x2, e3, hF⟩ := q_bind hF
    refine g_getfR fl_X8_9 e3 dX8_begin_50 ?_
    refine g_iload_n 1 dX8_begin_53 rfl ?_
    refine g_iconst dX8_begin_54 lt_iconst_0 ?_
    obtain ⟨h4, e5, hF⟩ := q_bind hF
    refine g_iast e5 dX8_begin_55 ?_
    refine g_aload_n 0 dX8_begin_56 rfl ?_
    obtain ⟨x6, e7, hF⟩ := q_bind hF
    refine g_getfR fl_X8_15 e7 dX8_begin_57 ?_
    refine g_iload_n 1 dX8_begin_60 rfl ?_
    refine g_iconst dX8_begin_61 lt_iconst_0 ?_
    obtain ⟨h8, e9, hF⟩ := q_bind hF
    refine g_iast e9 dX8_begin_62 ?_
    refine g_iinc [(1, .int (a1 + 1)), (0, .ref a0)] 1 dX8_begin_63 rfl (congrArg (a1 + ·) lt_iconst_1) (Nat.le_of_ble_eq_true rfl) rfl ?_
    refine g_goto 43 dX8_begin_66 (by decide) ?_
    cases hF
    refine g_sub [1, 0] rfl ?_
    exact hback _ _ rfl
set_option maxRecDepth 100000 in
set_option maxHeartbeats 4000000 in
theorem L_X8_begin_43 (l : Launch) (b : Nat) (D : va_G) (z : Nat → Nat) {Φ : Option Value → qH → Nat → Prop} {nx : Nat} {a0 : Nat} : ∀ (n : Nat) (a1 : Int32) (h : qH) (e : qH), q_lp (s_X8_begin_43 a0) n (a1, h) = some e → (∀  (bh : qH), e = bh → Go l b D z yX8_begin cX8_begin 2 none rm_X8_begin Φ 69 [] [] bh nx 0 0) → Go l b D z yX8_begin cX8_begin 2 none rm_X8_begin Φ 43 [(0, .ref a0), (1, .int a1)] [] h nx 0 0 := by
  intro n
  induction n with
  | zero => intro a1 h e he; cases (show none = some e from he)
  | succ n ih =>
    intro a1 h e he hx0
    obtain ⟨o, ho, h1, h2⟩ := q_lp_succ he
    exact B_X8_begin_43 l b D z (show b_X8_begin_43 a0 a1 h = some o from ho) (fun b1 bh hb => ih _ _ e (h1 _ hb) hx0) (fun p0 hr => hx0 p0 (h2 _ hr).symm)
set_option maxRecDepth 100000 in
set_option maxHeartbeats 4000000 in
theorem M_X8_begin (l : Launch) (b : Nat) (D : va_G) (z : Nat → Nat) (nx : Nat) {h : qH} {a0 : Nat} {r : qH} (hF : F_X8_begin h a0 = some r) : Me l b D z yX8_begin cX8_begin 2 none rm_X8_begin [.ref a0] h nx (qE none r nx) := by
  refine Me.of (by decide +kernel) (Nat.le_of_ble_eq_true rfl) ?_
  show Go l b D z yX8_begin cX8_begin 2 none rm_X8_begin (qE none r nx) 0 [(0, .ref a0)] [] h nx 0 0
  unfold F_X8_begin at hF
  refine g_aload_n 0 dX8_begin_0 rfl ?_
  refine g_iconst dX8_begin_1 lt_iconst_0 ?_
  obtain ⟨h1, e2, hF⟩ := q_bind hF
  refine g_putf fl_X8_18 e2 rfl rfl dX8_begin_2 ?_
  refine g_aload_n 0 dX8_begin_5 rfl ?_
  refine g_iconst dX8_begin_6 lt_iconst_m1 ?_
  obtain ⟨h3, e4, hF⟩ := q_bind hF
  refine g_putf fl_X8_22 e4 rfl rfl dX8_begin_7 ?_
  refine g_aload_n 0 dX8_begin_10 rfl ?_
  refine g_iconst dX8_begin_11 lt_iconst_0 ?_
  obtain ⟨h5, e6, hF⟩ := q_bind hF
  refine g_putf fl_X8_25 e6 rfl rfl dX8_begin_12 ?_
  refine g_aload_n 0 dX8_begin_15 rfl ?_
  refine g_iconst dX8_begin_16 lt_iconst_0 ?_
  obtain ⟨h7, e8, hF⟩ := q_bind hF
  refine g_putf fl_X8_28 e8 rfl rfl dX8_begin_17 ?_
  refine g_aload_n 0 dX8_begin_20 rfl ?_
  refine g_iconst dX8_begin_21 lt_iconst_0 ?_
  obtain ⟨h9, e10, hF⟩ := q_bind hF
  refine g_putf fl_X8_31 e10 rfl rfl dX8_begin_22 ?_
  refine g_aload_n 0 dX8_begin_25 rfl ?_
  refine g_iconst dX8_begin_26 lt_iconst_0 ?_
  obtain ⟨h11, e12, hF⟩ := q_bind hF
  refine g_putf fl_X8_34 e12 rfl rfl dX8_begin_27 ?_
  refine g_aload_n 0 dX8_begin_30 rfl ?_
  refine g_iconst dX8_begin_31 lt_iconst_0 ?_
  obtain ⟨h13, e14, hF⟩ := q_bind hF
  refine g_putf fl_X8_37 e14 rfl rfl dX8_begin_32 ?_
  refine g_aload_n 0 dX8_begin_35 rfl ?_
  refine g_bipush dX8_begin_36 lt_bipush_63 ?_
  obtain ⟨h15, e16, hF⟩ := q_bind hF
  refine g_putf fl_X8_40 e16 rfl rfl dX8_begin_38 ?_
  refine g_iconst dX8_begin_41 lt_iconst_0 ?_
  refine g_istore_n [(1, .int (0 : Int32)), (0, .ref a0)] dX8_begin_42 (Nat.le_of_ble_eq_true rfl) rfl ?_
  obtain ⟨e17, w18, hF⟩ := q_bind hF
  refine g_sub [1, 0] rfl ?_
  refine L_X8_begin_43 l b D z q_N (0 : Int32) h15 e17 w18 ?_
  · intro h19 w20
    replace w20 := w20.symm
    subst w20
    cases hF
    exact g_vret dX8_begin_69 rfl ⟨rfl, rfl, rfl⟩ (Nat.le_of_ble_eq_true rfl) (Nat.le_of_ble_eq_true rfl)
def rm_X8_due : Room := { frames := 1, cells := 0, slots := 0, locals := 22 }
set_option maxRecDepth 100000 in
set_option maxHeartbeats 4000000 in
theorem M_X8_due (l : Launch) (b : Nat) (D : va_G) (z : Nat → Nat) (nx : Nat) {h : qH} {a0 : Nat} {a1 : Nat} {r : Int32} (hF : F_X8_due h a0 a1 = some r) : Me l b D z yX8_due cX8_due 2 (some .int) rm_X8_due [.ref a0, .ref a1] h nx (qE (some (.int r)) h nx) := by
  refine Me.of (by decide +kernel) (Nat.le_of_ble_eq_true rfl) ?_
  show Go l b D z yX8_due cX8_due 2 (some .int) rm_X8_due (qE (some (.int r)) h nx) 0 [(0, .ref a0), (1, .ref a1)] [] h nx 0 0
  unfold F_X8_due at hF
  refine g_aload_n 0 dX8_due_0 rfl ?_
  obtain ⟨x1, e2, hF⟩ := q_bind hF
  refine g_getfI fl_X8_22 e2 dX8_due_1 ?_
  refine g_iconst dX8_due_4 lt_iconst_m1 ?_
  refine g_icmp_ne 22 dX8_due_5 (by decide) (fun c3 => ?_) (fun c3 => ?_)
  · replace hF := q_f c3 hF
    refine g_aload_n 1 dX8_due_22 rfl ?_
    refine g_aload_n 0 dX8_due_23 rfl ?_
    obtain ⟨x4, e5, hF⟩ := q_bind hF
    refine g_getfI fl_X8_22 e5 dX8_due_24 ?_
    refine g_iconst dX8_due_27 lt_iconst_0 ?_
    obtain ⟨u6, e7, hF⟩ := q_bind hF
    obtain ⟨x8, e9, hF⟩ := q_bind hF
    refine g_callVr0 (ci := 0) (q := (RX0, TX0, 15)) qm_X0_following wd_928 wd_795 wd_796 rfl e7 (M_X0_following l b D z nx e9) (As := [.int x4, .int (0 : Int32)]) rfl rfl (Nat.le_of_ble_eq_true rfl) ⟨(Nat.le_of_ble_eq_true rfl), (Nat.le_of_ble_eq_true rfl)⟩ ⟨rfl, rfl⟩ ⟨(Nat.le_of_ble_eq_true rfl), (Nat.le_of_ble_eq_true rfl)⟩ dX8_due_28 ?_
    cases hF
    exact g_iret dX8_due_31 rfl ⟨rfl, rfl, rfl⟩ (Nat.le_of_ble_eq_true rfl) (Nat.le_of_ble_eq_true rfl)
  · replace hF := q_t c3 hF
    refine g_aload_n 1 dX8_due_8 rfl ?_
    refine g_iconst dX8_due_9 lt_iconst_0 ?_
    obtain ⟨u10, e11, hF⟩ := q_bind hF
    obtain ⟨x12, e13, hF⟩ := q_bind hF
    refine g_callVr0 (ci := 0) (q := (RX0, TX0, 15)) qm_X0_has wd_927 wd_783 wd_784 rfl e11 (M_X0_has l b D z nx e13) (As := [.int (0 : Int32)]) rfl rfl (Nat.le_of_ble_eq_true rfl) ⟨(Nat.le_of_ble_eq_true rfl), (Nat.le_of_ble_eq_true rfl)⟩ ⟨rfl, rfl⟩ ⟨(Nat.le_of_ble_eq_true rfl), (Nat.le_of_ble_eq_true rfl)⟩ dX8_due_10 ?_
    refine g_if_eq 20 dX8_due_13 (by decide) (fun c14 => ?_) (fun c14 => ?_)
    · replace hF := q_t c14 hF
      refine g_iconst dX8_due_20 lt_iconst_m1 ?_
      cases hF
      exact g_iret dX8_due_21 rfl ⟨rfl, rfl, rfl⟩ (Nat.le_of_ble_eq_true rfl) (Nat.le_of_ble_eq_true rfl)
    · replace hF := q_f c14 hF
      refine g_iconst dX8_due_16 lt_iconst_0 ?_
      refine g_goto 21 dX8_due_17 (by decide) ?_
      cases hF
      exact g_iret dX8_due_21 rfl ⟨rfl, rfl, rfl⟩ (Nat.le_of_ble_eq_true rfl) (Nat.le_of_ble_eq_true rfl)
def rm_X8_isIn : Room := { frames := 1, cells := 0, slots := 0, locals := 20 }
set_option maxRecDepth 100000 in
set_option maxHeartbeats 4000000 in
theorem M_X8_isIn (l : Launch) (b : Nat) (D : va_G) (z : Nat → Nat) (nx : Nat) {h : qH} {a0 : Nat} {a1 : Int32} {r : Int32} (hF : F_X8_isIn h a0 a1 = some r) : Me l b D z yX8_isIn cX8_isIn 2 (some .boolean) rm_X8_isIn [.ref a0, .int a1] h nx (qE (some (.int r)) h nx) := by
  refine Me.of (by decide +kernel) (Nat.le_of_ble_eq_true rfl) ?_
  show Go l b D z yX8_isIn cX8_isIn 2 (some .boolean) rm_X8_isIn (qE (some (.int r)) h nx) 0 [(0, .ref a0), (1, .int a1)] [] h nx 0 0
  unfold F_X8_isIn at hF
  refine g_iload_n 1 dX8_isIn_0 rfl ?_
  obtain ⟨x1, e2, hF⟩ := q_bind hF
  refine g_callSNr0 qm_X11_isPerson (by decide +kernel) wd_760 (M_X11_isPerson l b D z nx e2) (As := [.int a1]) rfl rfl (Nat.le_of_ble_eq_true rfl) ⟨(Nat.le_of_ble_eq_true rfl), (Nat.le_of_ble_eq_true rfl)⟩ ⟨rfl, rfl⟩ ⟨(Nat.le_of_ble_eq_true rfl), (Nat.le_of_ble_eq_true rfl)⟩ dX8_isIn_1 ?_
  refine g_if_eq 23 dX8_isIn_4 (by decide) (fun c3 => ?_) (fun c3 => ?_)
  · replace hF := q_t c3 hF
    refine g_iconst dX8_isIn_23 lt_iconst_0 ?_
    cases hF
    exact g_zret dX8_isIn_24 rfl zn_0 ⟨rfl, rfl, rfl⟩ (Nat.le_of_ble_eq_true rfl) (Nat.le_of_ble_eq_true rfl)
  · replace hF := q_f c3 hF
    refine g_aload_n 0 dX8_isIn_7 rfl ?_
    obtain ⟨x4, e5, hF⟩ := q_bind hF
    refine g_getfI fl_X8_40 e5 dX8_isIn_8 ?_
    refine g_iload_n 1 dX8_isIn_11 rfl ?_
    refine g_ishr dX8_isIn_12 ?_
    refine g_iconst dX8_isIn_13 lt_iconst_1 ?_
    refine g_iand dX8_isIn_14 ?_
    refine g_iconst dX8_isIn_15 lt_iconst_1 ?_
    refine g_icmp_ne 23 dX8_isIn_16 (by decide) (fun c6 => ?_) (fun c6 => ?_)
    · replace hF := q_f c6 hF
      refine g_iconst dX8_isIn_23 lt_iconst_0 ?_
      cases hF
      exact g_zret dX8_isIn_24 rfl zn_0 ⟨rfl, rfl, rfl⟩ (Nat.le_of_ble_eq_true rfl) (Nat.le_of_ble_eq_true rfl)
    · replace hF := q_t c6 hF
      refine g_iconst dX8_isIn_19 lt_iconst_1 ?_
      refine g_goto 24 dX8_isIn_20 (by decide) ?_
      cases hF
      exact g_zret dX8_isIn_24 rfl zn_1 ⟨rfl, rfl, rfl⟩ (Nat.le_of_ble_eq_true rfl) (Nat.le_of_ble_eq_true rfl)
def rm_X8_speak : Room := { frames := 1, cells := 0, slots := 0, locals := 21 }
set_option maxRecDepth 100000 in
set_option maxHeartbeats 4000000 in
theorem J_X8_speak_23 (l : Launch) (b : Nat) (D : va_G) (z : Nat → Nat) {nx : Nat} {h : qH} {a0 : Nat} {a1 : Nat} {a2 : Int32} {r : qH} (hF : j_X8_speak_23 h a0 a1 a2  = some r) : Go l b D z yX8_speak cX8_speak 4 none rm_X8_speak (qE none r nx) 23 [(0, .ref a0), (1, .ref a1), (2, .int a2)] [] h nx 0 0 := by
  unfold j_X8_speak_23 at hF
  refine g_aload_n 0 dX8_speak_23 rfl ?_
  refine g_dup dX8_speak_24 rfl ?_
  obtain ⟨x1, e2, hF⟩ := q_bind hF
  refine g_getfI fl_X8_28 e2 dX8_speak_25 ?_
  refine g_aload_n 1 dX8_speak_28 rfl ?_
  refine g_iload_n 2 dX8_speak_29 rfl ?_
  obtain ⟨u3, e4, hF⟩ := q_bind hF
  obtain ⟨x5, e6, hF⟩ := q_bind hF
  refine g_callVr0 (ci := 0) (q := (RX0, TX0, 15)) qm_X0_harmDone wd_943 wd_944 wd_945 rfl e4 (M_X0_harmDone l b D z nx e6) (As := [.int a2]) rfl rfl (Nat.le_of_ble_eq_true rfl) ⟨(Nat.le_of_ble_eq_true rfl), (Nat.le_of_ble_eq_true rfl)⟩ ⟨rfl, rfl⟩ ⟨(Nat.le_of_ble_eq_true rfl), (Nat.le_of_ble_eq_true rfl)⟩ dX8_speak_30 ?_
  refine g_iadd dX8_speak_33 ?_
  obtain ⟨h7, e8, hF⟩ := q_bind hF
  refine g_putf fl_X8_28 e8 rfl rfl dX8_speak_34 ?_
  refine g_aload_n 0 dX8_speak_37 rfl ?_
  refine g_iload_n 2 dX8_speak_38 rfl ?_
  obtain ⟨h9, e10, hF⟩ := q_bind hF
  refine g_putf fl_X8_22 e10 rfl rfl dX8_speak_39 ?_
  refine g_aload_n 0 dX8_speak_42 rfl ?_
  refine g_iconst dX8_speak_43 lt_iconst_0 ?_
  obtain ⟨h11, e12, hF⟩ := q_bind hF
  refine g_putf fl_X8_25 e12 rfl rfl dX8_speak_44 ?_
  cases hF
  exact g_vret dX8_speak_47 rfl ⟨rfl, rfl, rfl⟩ (Nat.le_of_ble_eq_true rfl) (Nat.le_of_ble_eq_true rfl)
set_option maxRecDepth 100000 in
set_option maxHeartbeats 4000000 in
theorem M_X8_speak (l : Launch) (b : Nat) (D : va_G) (z : Nat → Nat) (nx : Nat) {h : qH} {a0 : Nat} {a1 : Nat} {a2 : Int32} {r : qH} (hF : F_X8_speak h a0 a1 a2 = some r) : Me l b D z yX8_speak cX8_speak 4 none rm_X8_speak [.ref a0, .ref a1, .int a2] h nx (qE none r nx) := by
  refine Me.of (by decide +kernel) (Nat.le_of_ble_eq_true rfl) ?_
  show Go l b D z yX8_speak cX8_speak 4 none rm_X8_speak (qE none r nx) 0 [(0, .ref a0), (1, .ref a1), (2, .int a2)] [] h nx 0 0
  unfold F_X8_speak at hF
  refine g_aload_n 1 dX8_speak_0 rfl ?_
  refine g_iload_n 2 dX8_speak_1 rfl ?_
  obtain ⟨u1, e2, hF⟩ := q_bind hF
  obtain ⟨x3, e4, hF⟩ := q_bind hF
  refine g_callVr0 (ci := 0) (q := (RX0, TX0, 15)) qm_X0_whoSays wd_930 wd_931 wd_932 rfl e2 (M_X0_whoSays l b D z nx e4) (As := [.int a2]) rfl rfl (Nat.le_of_ble_eq_true rfl) ⟨(Nat.le_of_ble_eq_true rfl), (Nat.le_of_ble_eq_true rfl)⟩ ⟨rfl, rfl⟩ ⟨(Nat.le_of_ble_eq_true rfl), (Nat.le_of_ble_eq_true rfl)⟩ dX8_speak_2 ?_
  refine g_istore_n [(3, .int x3), (0, .ref a0), (1, .ref a1), (2, .int a2)] dX8_speak_5 (Nat.le_of_ble_eq_true rfl) rfl ?_
  refine g_iload_n 0 dX8_speak_6 rfl ?_
  obtain ⟨x5, e6, hF⟩ := q_bind hF
  refine g_callSNr0 qm_X11_isPerson (by decide +kernel) wd_760 (M_X11_isPerson l b D z nx e6) (As := [.int x3]) rfl rfl (Nat.le_of_ble_eq_true rfl) ⟨(Nat.le_of_ble_eq_true rfl), (Nat.le_of_ble_eq_true rfl)⟩ ⟨rfl, rfl⟩ ⟨(Nat.le_of_ble_eq_true rfl), (Nat.le_of_ble_eq_true rfl)⟩ dX8_speak_7 ?_
  refine g_if_eq 23 dX8_speak_10 (by decide) (fun c7 => ?_) (fun c7 => ?_)
  · replace hF := q_t c7 hF
    refine g_sub [1, 2, 3] rfl ?_
    exact J_X8_speak_23 l b D z hF
  · replace hF := q_f c7 hF
    refine g_aload_n 1 dX8_speak_13 rfl ?_
    obtain ⟨x8, e9, hF⟩ := q_bind hF
    refine g_getfR fl_X8_9 e9 dX8_speak_14 ?_
    refine g_iload_n 0 dX8_speak_17 rfl ?_
    refine g_dup2 dX8_speak_18 rfl rfl ?_
    obtain ⟨x10, e11, hF⟩ := q_bind hF
    refine g_iald e11 dX8_speak_19 ?_
    refine g_iconst dX8_speak_20 lt_iconst_1 ?_
    refine g_iadd dX8_speak_21 ?_
    obtain ⟨h12, e13, hF⟩ := q_bind hF
    refine g_iast e13 dX8_speak_22 ?_
    refine g_sub [1, 2, 3] rfl ?_
    exact J_X8_speak_23 l b D z hF
def rm_X8_sayLine : Room := { frames := 2, cells := 0, slots := 0, locals := 45 }
set_option maxRecDepth 100000 in
set_option maxHeartbeats 4000000 in
theorem J_X8_sayLine_36 (l : Launch) (b : Nat) (D : va_G) (z : Nat → Nat) {nx : Nat} {h : qH} {a0 : Nat} {a1 : Nat} {a2 : Int32} {a3 : Int32} {r : Int32 × qH} (hF : j_X8_sayLine_36 h a0 a1 a2 a3  = some r) : Go l b D z yX8_sayLine cX8_sayLine 4 (some .boolean) rm_X8_sayLine (qE (some (.int r.1)) r.2 nx) 36 [(0, .ref a0), (1, .ref a1), (2, .int a2), (3, .int a3)] [] h nx 0 0 := by
  unfold j_X8_sayLine_36 at hF
  refine g_aload_n 0 dX8_sayLine_36 rfl ?_
  refine g_aload_n 1 dX8_sayLine_37 rfl ?_
  refine g_iload_n 2 dX8_sayLine_38 rfl ?_
  obtain ⟨u1, e2, hF⟩ := q_bind hF
  obtain ⟨x3, e4, hF⟩ := q_bind hF
  refine g_callVr0 (ci := 0) (q := (RX0, TX0, 15)) qm_X0_whoSays wd_930 wd_931 wd_932 rfl e2 (M_X0_whoSays l b D z nx e4) (As := [.int a2]) rfl rfl (Nat.le_of_ble_eq_true rfl) ⟨(Nat.le_of_ble_eq_true rfl), (Nat.le_of_ble_eq_true rfl)⟩ ⟨rfl, rfl⟩ ⟨(Nat.le_of_ble_eq_true rfl), (Nat.le_of_ble_eq_true rfl)⟩ dX8_sayLine_39 ?_
  obtain ⟨u5, e6, hF⟩ := q_bind hF
  obtain ⟨x7, e8, hF⟩ := q_bind hF
  refine g_callVr0 (ci := 8) (q := (RX8, TX8, 11)) qm_X8_isIn wd_934 wd_936 wd_28 rfl e6 (M_X8_isIn l b D z nx e8) (As := [.int x3]) rfl rfl (Nat.le_of_ble_eq_true rfl) ⟨(Nat.le_of_ble_eq_true rfl), (Nat.le_of_ble_eq_true rfl)⟩ ⟨rfl, rfl⟩ ⟨(Nat.le_of_ble_eq_true rfl), (Nat.le_of_ble_eq_true rfl)⟩ dX8_sayLine_42 ?_
  refine g_if_ne 50 dX8_sayLine_45 (by decide) (fun c9 => ?_) (fun c9 => ?_)
  · replace hF := q_f c9 hF
    refine g_iload_n 3 dX8_sayLine_50 rfl ?_
    refine g_if_ne 64 dX8_sayLine_51 (by decide) (fun c10 => ?_) (fun c10 => ?_)
    · replace hF := q_f c10 hF
      refine g_aload_n 0 dX8_sayLine_64 rfl ?_
      refine g_aload_n 1 dX8_sayLine_65 rfl ?_
      refine g_iload_n 2 dX8_sayLine_66 rfl ?_
      obtain ⟨u11, e12, hF⟩ := q_bind hF
      obtain ⟨x13, e14, hF⟩ := q_bind hF
      refine g_callVv0 (ci := 8) (q := (RX8, TX8, 11)) qm_X8_speak wd_939 wd_941 wd_29 rfl e12 (M_X8_speak l b D z nx e14) (As := [.ref a1, .int a2]) rfl rfl (Nat.le_of_ble_eq_true rfl) ⟨(Nat.le_of_ble_eq_true rfl), (Nat.le_of_ble_eq_true rfl)⟩ ⟨rfl, rfl⟩ ⟨(Nat.le_of_ble_eq_true rfl), (Nat.le_of_ble_eq_true rfl)⟩ dX8_sayLine_67 ?_
      refine g_iconst dX8_sayLine_70 lt_iconst_1 ?_
      cases hF
      exact g_zret dX8_sayLine_71 rfl zn_1 ⟨rfl, rfl, rfl⟩ (Nat.le_of_ble_eq_true rfl) (Nat.le_of_ble_eq_true rfl)
    · replace hF := q_t c10 hF
      refine g_aload_n 0 dX8_sayLine_54 rfl ?_
      refine g_dup dX8_sayLine_55 rfl ?_
      obtain ⟨x15, e16, hF⟩ := q_bind hF
      refine g_getfI fl_X8_31 e16 dX8_sayLine_56 ?_
      refine g_iconst dX8_sayLine_59 lt_iconst_1 ?_
      refine g_iadd dX8_sayLine_60 ?_
      obtain ⟨h17, e18, hF⟩ := q_bind hF
      refine g_putf fl_X8_31 e18 rfl rfl dX8_sayLine_61 ?_
      refine g_aload_n 0 dX8_sayLine_64 rfl ?_
      refine g_aload_n 1 dX8_sayLine_65 rfl ?_
      refine g_iload_n 2 dX8_sayLine_66 rfl ?_
      obtain ⟨u19, e20, hF⟩ := q_bind hF
      obtain ⟨x21, e22, hF⟩ := q_bind hF
      refine g_callVv0 (ci := 8) (q := (RX8, TX8, 11)) qm_X8_speak wd_939 wd_941 wd_29 rfl e20 (M_X8_speak l b D z nx e22) (As := [.ref a1, .int a2]) rfl rfl (Nat.le_of_ble_eq_true rfl) ⟨(Nat.le_of_ble_eq_true rfl), (Nat.le_of_ble_eq_true rfl)⟩ ⟨rfl, rfl⟩ ⟨(Nat.le_of_ble_eq_true rfl), (Nat.le_of_ble_eq_true rfl)⟩ dX8_sayLine_67 ?_
      refine g_iconst dX8_sayLine_70 lt_iconst_1 ?_
      cases hF
      exact g_zret dX8_sayLine_71 rfl zn_1 ⟨rfl, rfl, rfl⟩ (Nat.le_of_ble_eq_true rfl) (Nat.le_of_ble_eq_true rfl)
  · replace hF := q_t c9 hF
    refine g_iconst dX8_sayLine_48 lt_iconst_0 ?_
    cases hF
    exact g_zret dX8_sayLine_49 rfl zn_0 ⟨rfl, rfl, rfl⟩ (Nat.le_of_ble_eq_true rfl) (Nat.le_of_ble_eq_true rfl)
set_option maxRecDepth 100000 in
set_option maxHeartbeats 4000000 in
theorem J_X8_sayLine_19 (l : Launch) (b : Nat) (D : va_G) (z : Nat → Nat) {nx : Nat} {h : qH} {a0 : Nat} {a1 : Nat} {a2 : Int32} {t0 : Int32} {r : Int32 × qH} (hF : j_X8_sayLine_19 h a0 a1 a2 t0 = some r) : Go l b D z yX8_sayLine cX8_sayLine 4 (some .boolean) rm_X8_sayLine (qE (some (.int r.1)) r.2 nx) 19 [(0, .ref a0), (1, .ref a1), (2, .int a2)] [.int t0] h nx 0 0 := by
  unfold j_X8_sayLine_19 at hF
  refine g_istore_n [(3, .int t0), (0, .ref a0), (1, .ref a1), (2, .int a2)] dX8_sayLine_19 (Nat.le_of_ble_eq_true rfl) rfl ?_
  refine g_iload_n 0 dX8_sayLine_20 rfl ?_
  refine g_if_ne 36 dX8_sayLine_21 (by decide) (fun c1 => ?_) (fun c1 => ?_)
  · replace hF := q_f c1 hF
    refine g_sub [1, 2, 3, 0] rfl ?_
    exact J_X8_sayLine_36 l b D z hF
  · replace hF := q_t c1 hF
    refine g_aload_n 2 dX8_sayLine_24 rfl ?_
    refine g_aload_n 1 dX8_sayLine_25 rfl ?_
    obtain ⟨x2, e3, hF⟩ := q_bind hF
    refine g_getfI fl_X8_22 e3 dX8_sayLine_26 ?_
    refine g_iload_n 3 dX8_sayLine_29 rfl ?_
    obtain ⟨u4, e5, hF⟩ := q_bind hF
    obtain ⟨x6, e7, hF⟩ := q_bind hF
    refine g_callVr0 (ci := 0) (q := (RX0, TX0, 15)) qm_X0_follows wd_929 wd_787 wd_788 rfl e5 (M_X0_follows l b D z nx e7) (As := [.int x2, .int a2]) rfl rfl (Nat.le_of_ble_eq_true rfl) ⟨(Nat.le_of_ble_eq_true rfl), (Nat.le_of_ble_eq_true rfl)⟩ ⟨rfl, rfl⟩ ⟨(Nat.le_of_ble_eq_true rfl), (Nat.le_of_ble_eq_true rfl)⟩ dX8_sayLine_30 ?_
    refine g_if_eq 48 dX8_sayLine_33 (by decide) (fun c8 => ?_) (fun c8 => ?_)
    · replace hF := q_t c8 hF
      refine g_iconst dX8_sayLine_48 lt_iconst_0 ?_
      cases hF
      exact g_zret dX8_sayLine_49 rfl zn_0 ⟨rfl, rfl, rfl⟩ (Nat.le_of_ble_eq_true rfl) (Nat.le_of_ble_eq_true rfl)
    · replace hF := q_f c8 hF
      refine g_sub [1, 2, 3, 0] rfl ?_
      exact J_X8_sayLine_36 l b D z hF
set_option maxRecDepth 100000 in
set_option maxHeartbeats 4000000 in
theorem J_X8_sayLine_18 (l : Launch) (b : Nat) (D : va_G) (z : Nat → Nat) {nx : Nat} {h : qH} {a0 : Nat} {a1 : Nat} {a2 : Int32} {r : Int32 × qH} (hF : j_X8_sayLine_18 h a0 a1 a2  = some r) : Go l b D z yX8_sayLine cX8_sayLine 4 (some .boolean) rm_X8_sayLine (qE (some (.int r.1)) r.2 nx) 18 [(0, .ref a0), (1, .ref a1), (2, .int a2)] [] h nx 0 0 := by
  unfold j_X8_sayLine_18 at hF
  refine g_iconst dX8_sayLine_18 lt_iconst_0 ?_
  exact J_X8_sayLine_19 l b D z hF
set_option maxRecDepth 100000 in
set_option maxHeartbeats 4000000 in
theorem M_X8_sayLine (l : Launch) (b : Nat) (D : va_G) (z : Nat → Nat) (nx : Nat) {h : qH} {a0 : Nat} {a1 : Nat} {a2 : Int32} {r : Int32 × qH} (hF : F_X8_sayLine h a0 a1 a2 = some r) : Me l b D z yX8_sayLine cX8_sayLine 4 (some .boolean) rm_X8_sayLine [.ref a0, .ref a1, .int a2] h nx (qE (some (.int r.1)) r.2 nx) := by
  refine Me.of (by decide +kernel) (Nat.le_of_ble_eq_true rfl) ?_
  show Go l b D z yX8_sayLine cX8_sayLine 4 (some .boolean) rm_X8_sayLine (qE (some (.int r.1)) r.2 nx) 0 [(0, .ref a0), (1, .ref a1), (2, .int a2)] [] h nx 0 0
  unfold F_X8_sayLine at hF
  refine g_iload_n 2 dX8_sayLine_0 rfl ?_
  refine g_iconst dX8_sayLine_1 lt_iconst_m1 ?_
  refine g_icmp_eq 18 dX8_sayLine_2 (by decide) (fun c1 => ?_) (fun c1 => ?_)
  · replace hF := q_t c1 hF
    exact J_X8_sayLine_18 l b D z hF
  · replace hF := q_f c1 hF
    refine g_iload_n 2 dX8_sayLine_5 rfl ?_
    refine g_aload_n 0 dX8_sayLine_6 rfl ?_
    refine g_aload_n 1 dX8_sayLine_7 rfl ?_
    obtain ⟨u2, e3, hF⟩ := q_bind hF
    obtain ⟨x4, e5, hF⟩ := q_bind hF
    refine g_callVr0 (ci := 8) (q := (RX8, TX8, 11)) qm_X8_due wd_923 wd_925 wd_27 rfl e3 (M_X8_due l b D z nx e5) (As := [.ref a1]) rfl rfl (Nat.le_of_ble_eq_true rfl) ⟨(Nat.le_of_ble_eq_true rfl), (Nat.le_of_ble_eq_true rfl)⟩ ⟨rfl, rfl⟩ ⟨(Nat.le_of_ble_eq_true rfl), (Nat.le_of_ble_eq_true rfl)⟩ dX8_sayLine_8 ?_
    refine g_icmp_ne 18 dX8_sayLine_11 (by decide) (fun c6 => ?_) (fun c6 => ?_)
    · replace hF := q_f c6 hF
      exact J_X8_sayLine_18 l b D z hF
    · replace hF := q_t c6 hF
      refine g_iconst dX8_sayLine_14 lt_iconst_1 ?_
      refine g_goto 19 dX8_sayLine_15 (by decide) ?_
      exact J_X8_sayLine_19 l b D z hF
def rm_X8_move : Room := { frames := 2, cells := 0, slots := 0, locals := 41 }
set_option maxRecDepth 100000 in
set_option maxHeartbeats 4000000 in
theorem M_X8_move (l : Launch) (b : Nat) (D : va_G) (z : Nat → Nat) (nx : Nat) {h : qH} {a0 : Nat} {a1 : Int32} {a2 : Int32} {r : Int32 × qH} (hF : F_X8_move h a0 a1 a2 = some r) : Me l b D z yX8_move cX8_move 3 (some .boolean) rm_X8_move [.ref a0, .int a1, .int a2] h nx (qE (some (.int r.1)) r.2 nx) := by
  refine Me.of (by decide +kernel) (Nat.le_of_ble_eq_true rfl) ?_
  show Go l b D z yX8_move cX8_move 3 (some .boolean) rm_X8_move (qE (some (.int r.1)) r.2 nx) 0 [(0, .ref a0), (1, .int a1), (2, .int a2)] [] h nx 0 0
  unfold F_X8_move at hF
  refine g_iload_n 1 dX8_move_0 rfl ?_
  obtain ⟨x1, e2, hF⟩ := q_bind hF
  refine g_callSNr0 qm_X11_isPerson (by decide +kernel) wd_760 (M_X11_isPerson l b D z nx e2) (As := [.int a1]) rfl rfl (Nat.le_of_ble_eq_true rfl) ⟨(Nat.le_of_ble_eq_true rfl), (Nat.le_of_ble_eq_true rfl)⟩ ⟨rfl, rfl⟩ ⟨(Nat.le_of_ble_eq_true rfl), (Nat.le_of_ble_eq_true rfl)⟩ dX8_move_1 ?_
  refine g_if_eq 16 dX8_move_4 (by decide) (fun c3 => ?_) (fun c3 => ?_)
  · replace hF := q_t c3 hF
    refine g_iconst dX8_move_16 lt_iconst_0 ?_
    cases hF
    exact g_zret dX8_move_17 rfl zn_0 ⟨rfl, rfl, rfl⟩ (Nat.le_of_ble_eq_true rfl) (Nat.le_of_ble_eq_true rfl)
  · replace hF := q_f c3 hF
    refine g_aload_n 0 dX8_move_7 rfl ?_
    refine g_iload_n 1 dX8_move_8 rfl ?_
    obtain ⟨u4, e5, hF⟩ := q_bind hF
    obtain ⟨x6, e7, hF⟩ := q_bind hF
    refine g_callVr0 (ci := 8) (q := (RX8, TX8, 11)) qm_X8_isIn wd_934 wd_936 wd_28 rfl e5 (M_X8_isIn l b D z nx e7) (As := [.int a1]) rfl rfl (Nat.le_of_ble_eq_true rfl) ⟨(Nat.le_of_ble_eq_true rfl), (Nat.le_of_ble_eq_true rfl)⟩ ⟨rfl, rfl⟩ ⟨(Nat.le_of_ble_eq_true rfl), (Nat.le_of_ble_eq_true rfl)⟩ dX8_move_9 ?_
    refine g_iload_n 2 dX8_move_12 rfl ?_
    refine g_icmp_eq 18 dX8_move_13 (by decide) (fun c8 => ?_) (fun c8 => ?_)
    · replace hF := q_t c8 hF
      refine g_aload_n 0 dX8_move_18 rfl ?_
      refine g_dup dX8_move_19 rfl ?_
      obtain ⟨x9, e10, hF⟩ := q_bind hF
      refine g_getfI fl_X8_40 e10 dX8_move_20 ?_
      refine g_iconst dX8_move_23 lt_iconst_1 ?_
      refine g_iload_n 1 dX8_move_24 rfl ?_
      refine g_ishl dX8_move_25 ?_
      refine g_ixor dX8_move_26 ?_
      obtain ⟨h11, e12, hF⟩ := q_bind hF
      refine g_putf fl_X8_40 e12 rfl rfl dX8_move_27 ?_
      refine g_iconst dX8_move_30 lt_iconst_1 ?_
      cases hF
      exact g_zret dX8_move_31 rfl zn_1 ⟨rfl, rfl, rfl⟩ (Nat.le_of_ble_eq_true rfl) (Nat.le_of_ble_eq_true rfl)
    · replace hF := q_f c8 hF
      refine g_iconst dX8_move_16 lt_iconst_0 ?_
      cases hF
      exact g_zret dX8_move_17 rfl zn_0 ⟨rfl, rfl, rfl⟩ (Nat.le_of_ble_eq_true rfl) (Nat.le_of_ble_eq_true rfl)
def rm_X8_dryUp : Room := { frames := 2, cells := 0, slots := 0, locals := 43 }
set_option maxRecDepth 100000 in
set_option maxHeartbeats 4000000 in
theorem M_X8_dryUp (l : Launch) (b : Nat) (D : va_G) (z : Nat → Nat) (nx : Nat) {h : qH} {a0 : Nat} {a1 : Nat} {r : Int32 × qH} (hF : F_X8_dryUp h a0 a1 = some r) : Me l b D z yX8_dryUp cX8_dryUp 3 (some .boolean) rm_X8_dryUp [.ref a0, .ref a1] h nx (qE (some (.int r.1)) r.2 nx) := by
  refine Me.of (by decide +kernel) (Nat.le_of_ble_eq_true rfl) ?_
  show Go l b D z yX8_dryUp cX8_dryUp 3 (some .boolean) rm_X8_dryUp (qE (some (.int r.1)) r.2 nx) 0 [(0, .ref a0), (1, .ref a1)] [] h nx 0 0
  unfold F_X8_dryUp at hF
  refine g_aload_n 1 dX8_dryUp_0 rfl ?_
  refine g_aload_n 0 dX8_dryUp_1 rfl ?_
  refine g_aload_n 1 dX8_dryUp_2 rfl ?_
  obtain ⟨u1, e2, hF⟩ := q_bind hF
  obtain ⟨x3, e4, hF⟩ := q_bind hF
  refine g_callVr0 (ci := 8) (q := (RX8, TX8, 11)) qm_X8_due wd_923 wd_925 wd_27 rfl e2 (M_X8_due l b D z nx e4) (As := [.ref a1]) rfl rfl (Nat.le_of_ble_eq_true rfl) ⟨(Nat.le_of_ble_eq_true rfl), (Nat.le_of_ble_eq_true rfl)⟩ ⟨rfl, rfl⟩ ⟨(Nat.le_of_ble_eq_true rfl), (Nat.le_of_ble_eq_true rfl)⟩ dX8_dryUp_3 ?_
  obtain ⟨u5, e6, hF⟩ := q_bind hF
  obtain ⟨x7, e8, hF⟩ := q_bind hF
  refine g_callVr0 (ci := 0) (q := (RX0, TX0, 15)) qm_X0_whoSays wd_930 wd_931 wd_932 rfl e6 (M_X0_whoSays l b D z nx e8) (As := [.int x3]) rfl rfl (Nat.le_of_ble_eq_true rfl) ⟨(Nat.le_of_ble_eq_true rfl), (Nat.le_of_ble_eq_true rfl)⟩ ⟨rfl, rfl⟩ ⟨(Nat.le_of_ble_eq_true rfl), (Nat.le_of_ble_eq_true rfl)⟩ dX8_dryUp_6 ?_
  refine g_istore_n [(2, .int x7), (0, .ref a0), (1, .ref a1)] dX8_dryUp_9 (Nat.le_of_ble_eq_true rfl) rfl ?_
  refine g_iload_n 0 dX8_dryUp_10 rfl ?_
  obtain ⟨x9, e10, hF⟩ := q_bind hF
  refine g_callSNr0 qm_X11_isPerson (by decide +kernel) wd_760 (M_X11_isPerson l b D z nx e10) (As := [.int x7]) rfl rfl (Nat.le_of_ble_eq_true rfl) ⟨(Nat.le_of_ble_eq_true rfl), (Nat.le_of_ble_eq_true rfl)⟩ ⟨rfl, rfl⟩ ⟨(Nat.le_of_ble_eq_true rfl), (Nat.le_of_ble_eq_true rfl)⟩ dX8_dryUp_11 ?_
  refine g_if_eq 25 dX8_dryUp_14 (by decide) (fun c11 => ?_) (fun c11 => ?_)
  · replace hF := q_t c11 hF
    refine g_iconst dX8_dryUp_25 lt_iconst_0 ?_
    cases hF
    exact g_zret dX8_dryUp_26 rfl zn_0 ⟨rfl, rfl, rfl⟩ (Nat.le_of_ble_eq_true rfl) (Nat.le_of_ble_eq_true rfl)
  · replace hF := q_f c11 hF
    refine g_aload_n 1 dX8_dryUp_17 rfl ?_
    refine g_iload_n 0 dX8_dryUp_18 rfl ?_
    obtain ⟨u12, e13, hF⟩ := q_bind hF
    obtain ⟨x14, e15, hF⟩ := q_bind hF
    refine g_callVr0 (ci := 8) (q := (RX8, TX8, 11)) qm_X8_isIn wd_934 wd_936 wd_28 rfl e13 (M_X8_isIn l b D z nx e15) (As := [.int x7]) rfl rfl (Nat.le_of_ble_eq_true rfl) ⟨(Nat.le_of_ble_eq_true rfl), (Nat.le_of_ble_eq_true rfl)⟩ ⟨rfl, rfl⟩ ⟨(Nat.le_of_ble_eq_true rfl), (Nat.le_of_ble_eq_true rfl)⟩ dX8_dryUp_19 ?_
    refine g_if_ne 27 dX8_dryUp_22 (by decide) (fun c16 => ?_) (fun c16 => ?_)
    · replace hF := q_f c16 hF
      refine g_aload_n 1 dX8_dryUp_27 rfl ?_
      obtain ⟨x17, e18, hF⟩ := q_bind hF
      refine g_getfR fl_X8_15 e18 dX8_dryUp_28 ?_
      refine g_iload_n 0 dX8_dryUp_31 rfl ?_
      refine g_dup2 dX8_dryUp_32 rfl rfl ?_
      obtain ⟨x19, e20, hF⟩ := q_bind hF
      refine g_iald e20 dX8_dryUp_33 ?_
      refine g_iconst dX8_dryUp_34 lt_iconst_1 ?_
      refine g_iadd dX8_dryUp_35 ?_
      obtain ⟨h21, e22, hF⟩ := q_bind hF
      refine g_iast e22 dX8_dryUp_36 ?_
      refine g_aload_n 1 dX8_dryUp_37 rfl ?_
      refine g_dup dX8_dryUp_38 rfl ?_
      obtain ⟨x23, e24, hF⟩ := q_bind hF
      refine g_getfI fl_X8_25 e24 dX8_dryUp_39 ?_
      refine g_iconst dX8_dryUp_42 lt_iconst_1 ?_
      refine g_iadd dX8_dryUp_43 ?_
      obtain ⟨h25, e26, hF⟩ := q_bind hF
      refine g_putf fl_X8_25 e26 rfl rfl dX8_dryUp_44 ?_
      refine g_iconst dX8_dryUp_47 lt_iconst_1 ?_
      cases hF
      exact g_zret dX8_dryUp_48 rfl zn_1 ⟨rfl, rfl, rfl⟩ (Nat.le_of_ble_eq_true rfl) (Nat.le_of_ble_eq_true rfl)
    · replace hF := q_t c16 hF
      refine g_iconst dX8_dryUp_25 lt_iconst_0 ?_
      cases hF
      exact g_zret dX8_dryUp_26 rfl zn_0 ⟨rfl, rfl, rfl⟩ (Nat.le_of_ble_eq_true rfl) (Nat.le_of_ble_eq_true rfl)
def rm_X8_promptDue : Room := { frames := 2, cells := 0, slots := 0, locals := 44 }
set_option maxRecDepth 100000 in
set_option maxHeartbeats 4000000 in
theorem M_X8_promptDue (l : Launch) (b : Nat) (D : va_G) (z : Nat → Nat) (nx : Nat) {h : qH} {a0 : Nat} {a1 : Nat} {r : Int32 × qH} (hF : F_X8_promptDue h a0 a1 = some r) : Me l b D z yX8_promptDue cX8_promptDue 3 (some .boolean) rm_X8_promptDue [.ref a0, .ref a1] h nx (qE (some (.int r.1)) r.2 nx) := by
  refine Me.of (by decide +kernel) (Nat.le_of_ble_eq_true rfl) ?_
  show Go l b D z yX8_promptDue cX8_promptDue 3 (some .boolean) rm_X8_promptDue (qE (some (.int r.1)) r.2 nx) 0 [(0, .ref a0), (1, .ref a1)] [] h nx 0 0
  unfold F_X8_promptDue at hF
  refine g_aload_n 0 dX8_promptDue_0 rfl ?_
  refine g_aload_n 1 dX8_promptDue_1 rfl ?_
  obtain ⟨u1, e2, hF⟩ := q_bind hF
  obtain ⟨x3, e4, hF⟩ := q_bind hF
  refine g_callVr0 (ci := 8) (q := (RX8, TX8, 11)) qm_X8_due wd_923 wd_925 wd_27 rfl e2 (M_X8_due l b D z nx e4) (As := [.ref a1]) rfl rfl (Nat.le_of_ble_eq_true rfl) ⟨(Nat.le_of_ble_eq_true rfl), (Nat.le_of_ble_eq_true rfl)⟩ ⟨rfl, rfl⟩ ⟨(Nat.le_of_ble_eq_true rfl), (Nat.le_of_ble_eq_true rfl)⟩ dX8_promptDue_2 ?_
  refine g_istore_n [(2, .int x3), (0, .ref a0), (1, .ref a1)] dX8_promptDue_5 (Nat.le_of_ble_eq_true rfl) rfl ?_
  refine g_aload_n 1 dX8_promptDue_6 rfl ?_
  obtain ⟨x5, e6, hF⟩ := q_bind hF
  refine g_getfI fl_X8_25 e6 dX8_promptDue_7 ?_
  refine g_if_eq 25 dX8_promptDue_10 (by decide) (fun c7 => ?_) (fun c7 => ?_)
  · replace hF := q_t c7 hF
    refine g_iconst dX8_promptDue_25 lt_iconst_0 ?_
    cases hF
    exact g_zret dX8_promptDue_26 rfl zn_0 ⟨rfl, rfl, rfl⟩ (Nat.le_of_ble_eq_true rfl) (Nat.le_of_ble_eq_true rfl)
  · replace hF := q_f c7 hF
    refine g_aload_n 1 dX8_promptDue_13 rfl ?_
    refine g_aload_n 2 dX8_promptDue_14 rfl ?_
    refine g_iload_n 0 dX8_promptDue_15 rfl ?_
    obtain ⟨u8, e9, hF⟩ := q_bind hF
    obtain ⟨x10, e11, hF⟩ := q_bind hF
    refine g_callVr0 (ci := 0) (q := (RX0, TX0, 15)) qm_X0_whoSays wd_930 wd_931 wd_932 rfl e9 (M_X0_whoSays l b D z nx e11) (As := [.int x3]) rfl rfl (Nat.le_of_ble_eq_true rfl) ⟨(Nat.le_of_ble_eq_true rfl), (Nat.le_of_ble_eq_true rfl)⟩ ⟨rfl, rfl⟩ ⟨(Nat.le_of_ble_eq_true rfl), (Nat.le_of_ble_eq_true rfl)⟩ dX8_promptDue_16 ?_
    obtain ⟨u12, e13, hF⟩ := q_bind hF
    obtain ⟨x14, e15, hF⟩ := q_bind hF
    refine g_callVr0 (ci := 8) (q := (RX8, TX8, 11)) qm_X8_isIn wd_934 wd_936 wd_28 rfl e13 (M_X8_isIn l b D z nx e15) (As := [.int x10]) rfl rfl (Nat.le_of_ble_eq_true rfl) ⟨(Nat.le_of_ble_eq_true rfl), (Nat.le_of_ble_eq_true rfl)⟩ ⟨rfl, rfl⟩ ⟨(Nat.le_of_ble_eq_true rfl), (Nat.le_of_ble_eq_true rfl)⟩ dX8_promptDue_19 ?_
    refine g_if_ne 27 dX8_promptDue_22 (by decide) (fun c16 => ?_) (fun c16 => ?_)
    · replace hF := q_f c16 hF
      refine g_aload_n 1 dX8_promptDue_27 rfl ?_
      refine g_dup dX8_promptDue_28 rfl ?_
      obtain ⟨x17, e18, hF⟩ := q_bind hF
      refine g_getfI fl_X8_34 e18 dX8_promptDue_29 ?_
      refine g_iconst dX8_promptDue_32 lt_iconst_1 ?_
      refine g_iadd dX8_promptDue_33 ?_
      obtain ⟨h19, e20, hF⟩ := q_bind hF
      refine g_putf fl_X8_34 e20 rfl rfl dX8_promptDue_34 ?_
      refine g_aload_n 1 dX8_promptDue_37 rfl ?_
      refine g_aload_n 2 dX8_promptDue_38 rfl ?_
      refine g_iload_n 0 dX8_promptDue_39 rfl ?_
      obtain ⟨u21, e22, hF⟩ := q_bind hF
      obtain ⟨x23, e24, hF⟩ := q_bind hF
      refine g_callVv0 (ci := 8) (q := (RX8, TX8, 11)) qm_X8_speak wd_939 wd_941 wd_29 rfl e22 (M_X8_speak l b D z nx e24) (As := [.ref a1, .int x3]) rfl rfl (Nat.le_of_ble_eq_true rfl) ⟨(Nat.le_of_ble_eq_true rfl), (Nat.le_of_ble_eq_true rfl)⟩ ⟨rfl, rfl⟩ ⟨(Nat.le_of_ble_eq_true rfl), (Nat.le_of_ble_eq_true rfl)⟩ dX8_promptDue_40 ?_
      refine g_iconst dX8_promptDue_43 lt_iconst_1 ?_
      cases hF
      exact g_zret dX8_promptDue_44 rfl zn_1 ⟨rfl, rfl, rfl⟩ (Nat.le_of_ble_eq_true rfl) (Nat.le_of_ble_eq_true rfl)
    · replace hF := q_t c16 hF
      refine g_iconst dX8_promptDue_25 lt_iconst_0 ?_
      cases hF
      exact g_zret dX8_promptDue_26 rfl zn_0 ⟨rfl, rfl, rfl⟩ (Nat.le_of_ble_eq_true rfl) (Nat.le_of_ble_eq_true rfl)
def rm_X8_cutDue : Room := { frames := 2, cells := 0, slots := 0, locals := 43 }
set_option maxRecDepth 100000 in
set_option maxHeartbeats 4000000 in
theorem J_X8_cutDue_36 (l : Launch) (b : Nat) (D : va_G) (z : Nat → Nat) {nx : Nat} {h : qH} {a0 : Nat} {a2 : Int32} {r : Int32 × qH} (hF : j_X8_cutDue_36 h a0 a2  = some r) : Go l b D z yX8_cutDue cX8_cutDue 3 (some .boolean) rm_X8_cutDue (qE (some (.int r.1)) r.2 nx) 36 [(0, .ref a0), (2, .int a2)] [] h nx 0 0 := by
  unfold j_X8_cutDue_36 at hF
  refine g_aload_n 0 dX8_cutDue_36 rfl ?_
  refine g_dup dX8_cutDue_37 rfl ?_
  obtain ⟨x1, e2, hF⟩ := q_bind hF
  refine g_getfI fl_X8_37 e2 dX8_cutDue_38 ?_
  refine g_iconst dX8_cutDue_41 lt_iconst_1 ?_
  refine g_iadd dX8_cutDue_42 ?_
  obtain ⟨h3, e4, hF⟩ := q_bind hF
  refine g_putf fl_X8_37 e4 rfl rfl dX8_cutDue_43 ?_
  refine g_aload_n 0 dX8_cutDue_46 rfl ?_
  refine g_iload_n 1 dX8_cutDue_47 rfl ?_
  obtain ⟨h5, e6, hF⟩ := q_bind hF
  refine g_putf fl_X8_22 e6 rfl rfl dX8_cutDue_48 ?_
  refine g_aload_n 0 dX8_cutDue_51 rfl ?_
  refine g_iconst dX8_cutDue_52 lt_iconst_0 ?_
  obtain ⟨h7, e8, hF⟩ := q_bind hF
  refine g_putf fl_X8_25 e8 rfl rfl dX8_cutDue_53 ?_
  refine g_iconst dX8_cutDue_56 lt_iconst_1 ?_
  cases hF
  exact g_zret dX8_cutDue_57 rfl zn_1 ⟨rfl, rfl, rfl⟩ (Nat.le_of_ble_eq_true rfl) (Nat.le_of_ble_eq_true rfl)
set_option maxRecDepth 100000 in
set_option maxHeartbeats 4000000 in
theorem M_X8_cutDue (l : Launch) (b : Nat) (D : va_G) (z : Nat → Nat) (nx : Nat) {h : qH} {a0 : Nat} {a1 : Nat} {r : Int32 × qH} (hF : F_X8_cutDue h a0 a1 = some r) : Me l b D z yX8_cutDue cX8_cutDue 3 (some .boolean) rm_X8_cutDue [.ref a0, .ref a1] h nx (qE (some (.int r.1)) r.2 nx) := by
  refine Me.of (by decide +kernel) (Nat.le_of_ble_eq_true rfl) ?_
  show Go l b D z yX8_cutDue cX8_cutDue 3 (some .boolean) rm_X8_cutDue (qE (some (.int r.1)) r.2 nx) 0 [(0, .ref a0), (1, .ref a1)] [] h nx 0 0
  unfold F_X8_cutDue at hF
  refine g_aload_n 0 dX8_cutDue_0 rfl ?_
  refine g_aload_n 1 dX8_cutDue_1 rfl ?_
  obtain ⟨u1, e2, hF⟩ := q_bind hF
  obtain ⟨x3, e4, hF⟩ := q_bind hF
  refine g_callVr0 (ci := 8) (q := (RX8, TX8, 11)) qm_X8_due wd_923 wd_925 wd_27 rfl e2 (M_X8_due l b D z nx e4) (As := [.ref a1]) rfl rfl (Nat.le_of_ble_eq_true rfl) ⟨(Nat.le_of_ble_eq_true rfl), (Nat.le_of_ble_eq_true rfl)⟩ ⟨rfl, rfl⟩ ⟨(Nat.le_of_ble_eq_true rfl), (Nat.le_of_ble_eq_true rfl)⟩ dX8_cutDue_2 ?_
  refine g_istore_n [(2, .int x3), (0, .ref a0), (1, .ref a1)] dX8_cutDue_5 (Nat.le_of_ble_eq_true rfl) rfl ?_
  refine g_iload_n 0 dX8_cutDue_6 rfl ?_
  refine g_iconst dX8_cutDue_7 lt_iconst_m1 ?_
  refine g_icmp_eq 34 dX8_cutDue_8 (by decide) (fun c5 => ?_) (fun c5 => ?_)
  · replace hF := q_t c5 hF
    refine g_iconst dX8_cutDue_34 lt_iconst_0 ?_
    cases hF
    exact g_zret dX8_cutDue_35 rfl zn_0 ⟨rfl, rfl, rfl⟩ (Nat.le_of_ble_eq_true rfl) (Nat.le_of_ble_eq_true rfl)
  · replace hF := q_f c5 hF
    refine g_aload_n 1 dX8_cutDue_11 rfl ?_
    obtain ⟨x6, e7, hF⟩ := q_bind hF
    refine g_getfI fl_X8_25 e7 dX8_cutDue_12 ?_
    refine g_aload_n 2 dX8_cutDue_15 rfl ?_
    obtain ⟨x8, e9, hF⟩ := q_bind hF
    refine g_getfI fl_X8_145 e9 dX8_cutDue_16 ?_
    refine g_icmp_ge 36 dX8_cutDue_19 (by decide) (fun c10 => ?_) (fun c10 => ?_)
    · replace hF := q_t c10 hF
      refine g_sub [1, 0] rfl ?_
      exact J_X8_cutDue_36 l b D z hF
    · replace hF := q_f c10 hF
      refine g_aload_n 1 dX8_cutDue_22 rfl ?_
      refine g_aload_n 2 dX8_cutDue_23 rfl ?_
      refine g_iload_n 0 dX8_cutDue_24 rfl ?_
      obtain ⟨u11, e12, hF⟩ := q_bind hF
      obtain ⟨x13, e14, hF⟩ := q_bind hF
      refine g_callVr0 (ci := 0) (q := (RX0, TX0, 15)) qm_X0_whoSays wd_930 wd_931 wd_932 rfl e12 (M_X0_whoSays l b D z nx e14) (As := [.int x3]) rfl rfl (Nat.le_of_ble_eq_true rfl) ⟨(Nat.le_of_ble_eq_true rfl), (Nat.le_of_ble_eq_true rfl)⟩ ⟨rfl, rfl⟩ ⟨(Nat.le_of_ble_eq_true rfl), (Nat.le_of_ble_eq_true rfl)⟩ dX8_cutDue_25 ?_
      obtain ⟨u15, e16, hF⟩ := q_bind hF
      obtain ⟨x17, e18, hF⟩ := q_bind hF
      refine g_callVr0 (ci := 8) (q := (RX8, TX8, 11)) qm_X8_isIn wd_934 wd_936 wd_28 rfl e16 (M_X8_isIn l b D z nx e18) (As := [.int x13]) rfl rfl (Nat.le_of_ble_eq_true rfl) ⟨(Nat.le_of_ble_eq_true rfl), (Nat.le_of_ble_eq_true rfl)⟩ ⟨rfl, rfl⟩ ⟨(Nat.le_of_ble_eq_true rfl), (Nat.le_of_ble_eq_true rfl)⟩ dX8_cutDue_28 ?_
      refine g_if_eq 36 dX8_cutDue_31 (by decide) (fun c19 => ?_) (fun c19 => ?_)
      · replace hF := q_t c19 hF
        refine g_sub [1, 0] rfl ?_
        exact J_X8_cutDue_36 l b D z hF
      · replace hF := q_f c19 hF
        refine g_iconst dX8_cutDue_34 lt_iconst_0 ?_
        cases hF
        exact g_zret dX8_cutDue_35 rfl zn_0 ⟨rfl, rfl, rfl⟩ (Nat.le_of_ble_eq_true rfl) (Nat.le_of_ble_eq_true rfl)
def rm_X8_perform : Room := { frames := 3, cells := 0, slots := 0, locals := 68 }
set_option maxRecDepth 100000 in
set_option maxHeartbeats 4000000 in
theorem J_X8_perform_117 (l : Launch) (b : Nat) (D : va_G) (z : Nat → Nat) {nx : Nat} {h : qH} {a0 : Nat} {a4 : Int32} {r : Int32 × qH} (hF : j_X8_perform_117 h a0 a4  = some r) : Go l b D z yX8_perform cX8_perform 5 (some .boolean) rm_X8_perform (qE (some (.int r.1)) r.2 nx) 117 [(0, .ref a0), (4, .int a4)] [] h nx 0 0 := by
  unfold j_X8_perform_117 at hF
  refine g_iload 1 dX8_perform_117 rfl ?_
  refine g_if_eq 132 dX8_perform_119 (by decide) (fun c1 => ?_) (fun c1 => ?_)
  · replace hF := q_t c1 hF
    refine g_iload 1 dX8_perform_132 rfl ?_
    obtain ⟨u2, e3, hF⟩ := q_bind hF
    cases hF
    exact g_zret dX8_perform_134 rfl (q_z_spec e3).2.1 ⟨rfl, rfl, rfl⟩ (Nat.le_of_ble_eq_true rfl) (Nat.le_of_ble_eq_true rfl)
  · replace hF := q_f c1 hF
    refine g_aload_n 0 dX8_perform_122 rfl ?_
    refine g_dup dX8_perform_123 rfl ?_
    obtain ⟨x4, e5, hF⟩ := q_bind hF
    refine g_getfI fl_X8_18 e5 dX8_perform_124 ?_
    refine g_iconst dX8_perform_127 lt_iconst_1 ?_
    refine g_iadd dX8_perform_128 ?_
    obtain ⟨h6, e7, hF⟩ := q_bind hF
    refine g_putf fl_X8_18 e7 rfl rfl dX8_perform_129 ?_
    refine g_iload 1 dX8_perform_132 rfl ?_
    obtain ⟨u8, e9, hF⟩ := q_bind hF
    cases hF
    exact g_zret dX8_perform_134 rfl (q_z_spec e9).2.1 ⟨rfl, rfl, rfl⟩ (Nat.le_of_ble_eq_true rfl) (Nat.le_of_ble_eq_true rfl)
set_option maxRecDepth 100000 in
set_option maxHeartbeats 4000000 in
theorem M_X8_perform (l : Launch) (b : Nat) (D : va_G) (z : Nat → Nat) (nx : Nat) {h : qH} {a0 : Nat} {a1 : Nat} {a2 : Int32} {a3 : Int32} {r : Int32 × qH} (hF : F_X8_perform h a0 a1 a2 a3 = some r) : Me l b D z yX8_perform cX8_perform 5 (some .boolean) rm_X8_perform [.ref a0, .ref a1, .int a2, .int a3] h nx (qE (some (.int r.1)) r.2 nx) := by
  refine Me.of (by decide +kernel) (Nat.le_of_ble_eq_true rfl) ?_
  show Go l b D z yX8_perform cX8_perform 5 (some .boolean) rm_X8_perform (qE (some (.int r.1)) r.2 nx) 0 [(0, .ref a0), (1, .ref a1), (2, .int a2), (3, .int a3)] [] h nx 0 0
  unfold F_X8_perform at hF
  refine g_iload_n 2 dX8_perform_0 rfl ?_
  by_cases c1 : a2 = 0
  · replace hF := q_t c1 hF
    refine g_tabIn (off := 43) 44 dX8_perform_1 (by rw [c1]; decide) (by rw [c1]; decide) (by rw [c1]; decide) (by decide) ?_
    refine g_aload_n 0 dX8_perform_44 rfl ?_
    refine g_aload_n 1 dX8_perform_45 rfl ?_
    refine g_iload_n 3 dX8_perform_46 rfl ?_
    obtain ⟨u2, e3, hF⟩ := q_bind hF
    obtain ⟨x4, e5, hF⟩ := q_bind hF
    refine g_callVr0 (ci := 8) (q := (RX8, TX8, 11)) qm_X8_sayLine wd_919 wd_921 wd_26 rfl e3 (M_X8_sayLine l b D z nx e5) (As := [.ref a1, .int a3]) rfl rfl (Nat.le_of_ble_eq_true rfl) ⟨(Nat.le_of_ble_eq_true rfl), (Nat.le_of_ble_eq_true rfl)⟩ ⟨rfl, rfl⟩ ⟨(Nat.le_of_ble_eq_true rfl), (Nat.le_of_ble_eq_true rfl)⟩ dX8_perform_47 ?_
    refine g_istore [(4, .int x4.1), (0, .ref a0), (1, .ref a1), (2, .int a2), (3, .int a3)] dX8_perform_50 (Nat.le_of_ble_eq_true rfl) rfl ?_
    refine g_goto 117 dX8_perform_52 (by decide) ?_
    refine g_sub [1, 0] rfl ?_
    exact J_X8_perform_117 l b D z hF
  replace hF := q_f c1 hF
  by_cases c6 : a2 = 1
  · replace hF := q_t c6 hF
    refine g_tabIn (off := 54) 55 dX8_perform_1 (by rw [c6]; decide) (by rw [c6]; decide) (by rw [c6]; decide) (by decide) ?_
    refine g_aload_n 0 dX8_perform_55 rfl ?_
    refine g_iload_n 3 dX8_perform_56 rfl ?_
    refine g_iconst dX8_perform_57 lt_iconst_1 ?_
    obtain ⟨u7, e8, hF⟩ := q_bind hF
    obtain ⟨x9, e10, hF⟩ := q_bind hF
    refine g_callVr0 (ci := 8) (q := (RX8, TX8, 11)) qm_X8_move wd_947 wd_949 wd_30 rfl e8 (M_X8_move l b D z nx e10) (As := [.int a3, .int (1 : Int32)]) rfl rfl (Nat.le_of_ble_eq_true rfl) ⟨(Nat.le_of_ble_eq_true rfl), (Nat.le_of_ble_eq_true rfl)⟩ ⟨rfl, rfl⟩ ⟨(Nat.le_of_ble_eq_true rfl), (Nat.le_of_ble_eq_true rfl)⟩ dX8_perform_58 ?_
    obtain ⟨u11, e12, hF⟩ := q_bind hF
    cases hF
    exact g_zret dX8_perform_61 rfl (q_z_spec e12).2.1 ⟨rfl, rfl, rfl⟩ (Nat.le_of_ble_eq_true rfl) (Nat.le_of_ble_eq_true rfl)
  replace hF := q_f c6 hF
  by_cases c13 : a2 = 2
  · replace hF := q_t c13 hF
    refine g_tabIn (off := 61) 62 dX8_perform_1 (by rw [c13]; decide) (by rw [c13]; decide) (by rw [c13]; decide) (by decide) ?_
    refine g_aload_n 0 dX8_perform_62 rfl ?_
    refine g_iload_n 3 dX8_perform_63 rfl ?_
    refine g_iconst dX8_perform_64 lt_iconst_0 ?_
    obtain ⟨u14, e15, hF⟩ := q_bind hF
    obtain ⟨x16, e17, hF⟩ := q_bind hF
    refine g_callVr0 (ci := 8) (q := (RX8, TX8, 11)) qm_X8_move wd_947 wd_949 wd_30 rfl e15 (M_X8_move l b D z nx e17) (As := [.int a3, .int (0 : Int32)]) rfl rfl (Nat.le_of_ble_eq_true rfl) ⟨(Nat.le_of_ble_eq_true rfl), (Nat.le_of_ble_eq_true rfl)⟩ ⟨rfl, rfl⟩ ⟨(Nat.le_of_ble_eq_true rfl), (Nat.le_of_ble_eq_true rfl)⟩ dX8_perform_65 ?_
    obtain ⟨u18, e19, hF⟩ := q_bind hF
    cases hF
    exact g_zret dX8_perform_68 rfl (q_z_spec e19).2.1 ⟨rfl, rfl, rfl⟩ (Nat.le_of_ble_eq_true rfl) (Nat.le_of_ble_eq_true rfl)
  replace hF := q_f c13 hF
  by_cases c20 : a2 = 3
  · replace hF := q_t c20 hF
    refine g_tabIn (off := 68) 69 dX8_perform_1 (by rw [c20]; decide) (by rw [c20]; decide) (by rw [c20]; decide) (by decide) ?_
    refine g_aload_n 0 dX8_perform_69 rfl ?_
    refine g_aload_n 1 dX8_perform_70 rfl ?_
    obtain ⟨u21, e22, hF⟩ := q_bind hF
    obtain ⟨x23, e24, hF⟩ := q_bind hF
    refine g_callVr0 (ci := 8) (q := (RX8, TX8, 11)) qm_X8_dryUp wd_951 wd_953 wd_31 rfl e22 (M_X8_dryUp l b D z nx e24) (As := [.ref a1]) rfl rfl (Nat.le_of_ble_eq_true rfl) ⟨(Nat.le_of_ble_eq_true rfl), (Nat.le_of_ble_eq_true rfl)⟩ ⟨rfl, rfl⟩ ⟨(Nat.le_of_ble_eq_true rfl), (Nat.le_of_ble_eq_true rfl)⟩ dX8_perform_71 ?_
    refine g_istore [(4, .int x23.1), (0, .ref a0), (1, .ref a1), (2, .int a2), (3, .int a3)] dX8_perform_74 (Nat.le_of_ble_eq_true rfl) rfl ?_
    refine g_goto 117 dX8_perform_76 (by decide) ?_
    refine g_sub [1, 0] rfl ?_
    exact J_X8_perform_117 l b D z hF
  replace hF := q_f c20 hF
  by_cases c25 : a2 = 4
  · replace hF := q_t c25 hF
    refine g_tabIn (off := 78) 79 dX8_perform_1 (by rw [c25]; decide) (by rw [c25]; decide) (by rw [c25]; decide) (by decide) ?_
    refine g_aload_n 0 dX8_perform_79 rfl ?_
    refine g_aload_n 1 dX8_perform_80 rfl ?_
    obtain ⟨u26, e27, hF⟩ := q_bind hF
    obtain ⟨x28, e29, hF⟩ := q_bind hF
    refine g_callVr0 (ci := 8) (q := (RX8, TX8, 11)) qm_X8_promptDue wd_955 wd_957 wd_32 rfl e27 (M_X8_promptDue l b D z nx e29) (As := [.ref a1]) rfl rfl (Nat.le_of_ble_eq_true rfl) ⟨(Nat.le_of_ble_eq_true rfl), (Nat.le_of_ble_eq_true rfl)⟩ ⟨rfl, rfl⟩ ⟨(Nat.le_of_ble_eq_true rfl), (Nat.le_of_ble_eq_true rfl)⟩ dX8_perform_81 ?_
    refine g_istore [(4, .int x28.1), (0, .ref a0), (1, .ref a1), (2, .int a2), (3, .int a3)] dX8_perform_84 (Nat.le_of_ble_eq_true rfl) rfl ?_
    refine g_goto 117 dX8_perform_86 (by decide) ?_
    refine g_sub [1, 0] rfl ?_
    exact J_X8_perform_117 l b D z hF
  replace hF := q_f c25 hF
  by_cases c30 : a2 = 5
  · replace hF := q_t c30 hF
    refine g_tabIn (off := 88) 89 dX8_perform_1 (by rw [c30]; decide) (by rw [c30]; decide) (by rw [c30]; decide) (by decide) ?_
    refine g_aload_n 0 dX8_perform_89 rfl ?_
    refine g_dup dX8_perform_90 rfl ?_
    obtain ⟨x31, e32, hF⟩ := q_bind hF
    refine g_getfI fl_X8_25 e32 dX8_perform_91 ?_
    refine g_iconst dX8_perform_94 lt_iconst_1 ?_
    refine g_iadd dX8_perform_95 ?_
    obtain ⟨h33, e34, hF⟩ := q_bind hF
    refine g_putf fl_X8_25 e34 rfl rfl dX8_perform_96 ?_
    refine g_iconst dX8_perform_99 lt_iconst_1 ?_
    refine g_istore [(4, .int (1 : Int32)), (0, .ref a0), (1, .ref a1), (2, .int a2), (3, .int a3)] dX8_perform_100 (Nat.le_of_ble_eq_true rfl) rfl ?_
    refine g_goto 117 dX8_perform_102 (by decide) ?_
    refine g_sub [1, 0] rfl ?_
    exact J_X8_perform_117 l b D z hF
  replace hF := q_f c30 hF
  by_cases c35 : a2 = 6
  · replace hF := q_t c35 hF
    refine g_tabIn (off := 104) 105 dX8_perform_1 (by rw [c35]; decide) (by rw [c35]; decide) (by rw [c35]; decide) (by decide) ?_
    refine g_aload_n 0 dX8_perform_105 rfl ?_
    refine g_aload_n 1 dX8_perform_106 rfl ?_
    obtain ⟨u36, e37, hF⟩ := q_bind hF
    obtain ⟨x38, e39, hF⟩ := q_bind hF
    refine g_callVr0 (ci := 8) (q := (RX8, TX8, 11)) qm_X8_cutDue wd_959 wd_961 wd_33 rfl e37 (M_X8_cutDue l b D z nx e39) (As := [.ref a1]) rfl rfl (Nat.le_of_ble_eq_true rfl) ⟨(Nat.le_of_ble_eq_true rfl), (Nat.le_of_ble_eq_true rfl)⟩ ⟨rfl, rfl⟩ ⟨(Nat.le_of_ble_eq_true rfl), (Nat.le_of_ble_eq_true rfl)⟩ dX8_perform_107 ?_
    refine g_istore [(4, .int x38.1), (0, .ref a0), (1, .ref a1), (2, .int a2), (3, .int a3)] dX8_perform_110 (Nat.le_of_ble_eq_true rfl) rfl ?_
    refine g_goto 117 dX8_perform_112 (by decide) ?_
    refine g_sub [1, 0] rfl ?_
    exact J_X8_perform_117 l b D z hF
  replace hF := q_f c35 hF
  refine g_tabOut 115 dX8_perform_1 ?_ (by decide) ?_
  · have t0 := lv_neT (a := 0) c1 (by decide); have t1 := lv_neT (a := 1) c6 (by decide); have t2 := lv_neT (a := 2) c13 (by decide); have t3 := lv_neT (a := 3) c20 (by decide); have t4 := lv_neT (a := 4) c25 (by decide); have t5 := lv_neT (a := 5) c30 (by decide); have t6 := lv_neT (a := 6) c35 (by decide); omega
  refine g_iconst dX8_perform_115 lt_iconst_0 ?_
  cases hF
  exact g_zret dX8_perform_116 rfl zn_0 ⟨rfl, rfl, rfl⟩ (Nat.le_of_ble_eq_true rfl) (Nat.le_of_ble_eq_true rfl)
def rm_X8_play : Room := { frames := 4, cells := 0, slots := 0, locals := 92 }
set_option maxRecDepth 100000 in
set_option maxHeartbeats 4000000 in
theorem B_X8_play_7 (l : Launch) (b : Nat) (D : va_G) (z : Nat → Nat) {Φ : Option Value → qH → Nat → Prop} {nx : Nat} {a0 : Nat} {a1 : Nat} {a2 : Nat} {a3 : Int32} {a4 : Int32} {h : qH} {o : (Int32 × qH) ⊕ ((Int32 × qH) ⊕ qH)} (hF : b_X8_play_7 a0 a1 a2 a3 a4 h = some o) (hback : ∀ (b4 : Int32) (bh : qH), o = .inl (b4, bh) → Go l b D z yX8_play cX8_play 5 (some .int) rm_X8_play Φ 7 [(0, .ref a0), (1, .ref a1), (2, .ref a2), (3, .int a3), (4, .int b4)] [] bh nx 0 0) (hx0 : ∀ (b4 : Int32) (bh : qH), o = .inr (.inl (b4, bh)) → Go l b D z yX8_play cX8_play 5 (some .int) rm_X8_play Φ 40 [(4, .int b4)] [] bh nx 0 0) (hx1 : ∀  (bh : qH), o = .inr (.inr bh) → Go l b D z yX8_play cX8_play 5 (some .int) rm_X8_play Φ 49 [(3, .int a3)] [] bh nx 0 0) : Go l b D z yX8_play cX8_play 5 (some .int) rm_X8_play Φ 7 [(0, .ref a0), (1, .ref a1), (2, .ref a2), (3, .int a3), (4, .int a4)] [] h nx 0 0 := by
  unfold b_X8_play_7 at hF
  refine g_iload 4 dX8_play_7 rfl ?_
  refine g_iload_n 3 dX8_play_9 rfl ?_
  refine g_icmp_ge 49 dX8_play_10 (by decide) (fun c1 => ?_) (fun c1 => ?_)
  · replace hF := q_t c1 hF
    cases hF
    refine g_sub [3] rfl ?_
    exact hx1 _ rfl
  · replace hF := q_f c1 hF
    refine g_iload 4 dX8_play_13 rfl ?_
    refine g_bipush dX8_play_15 lt_bipush_40 ?_
    refine g_icmp_ge 49 dX8_play_17 (by decide) (fun c2 => ?_) (fun c2 => ?_)
    · replace hF := q_t c2 hF
      cases hF
      refine g_sub [3] rfl ?_
      exact hx1 _ rfl
    · replace hF := q_f c2 hF
      refine g_aload_n 0 dX8_play_20 rfl ?_
      refine g_aload_n 1 dX8_play_21 rfl ?_
      refine g_aload_n 2 dX8_play_22 rfl ?_
      refine g_iload 4 dX8_play_23 rfl ?_
      obtain ⟨u3, e4, hF⟩ := q_bind hF
      obtain ⟨x5, e6, hF⟩ := q_bind hF
      refine g_callVr0 (ci := 1) (q := (RX1, TX1, 3)) qm_X1_deedAt wd_913 wd_890 wd_891 rfl e4 (M_X1_deedAt l b D z nx e6) (As := [.int a4]) rfl rfl (Nat.le_of_ble_eq_true rfl) ⟨(Nat.le_of_ble_eq_true rfl), (Nat.le_of_ble_eq_true rfl)⟩ ⟨rfl, rfl⟩ ⟨(Nat.le_of_ble_eq_true rfl), (Nat.le_of_ble_eq_true rfl)⟩ dX8_play_25 ?_
      refine g_aload_n 2 dX8_play_28 rfl ?_
      refine g_iload 4 dX8_play_29 rfl ?_
      obtain ⟨u7, e8, hF⟩ := q_bind hF
      obtain ⟨x9, e10, hF⟩ := q_bind hF
      refine g_callVr0 (ci := 1) (q := (RX1, TX1, 3)) qm_X1_numberAt wd_914 wd_898 wd_899 rfl e8 (M_X1_numberAt l b D z nx e10) (As := [.int a4]) rfl rfl (Nat.le_of_ble_eq_true rfl) ⟨(Nat.le_of_ble_eq_true rfl), (Nat.le_of_ble_eq_true rfl)⟩ ⟨rfl, rfl⟩ ⟨(Nat.le_of_ble_eq_true rfl), (Nat.le_of_ble_eq_true rfl)⟩ dX8_play_31 ?_
      obtain ⟨u11, e12, hF⟩ := q_bind hF
      obtain ⟨x13, e14, hF⟩ := q_bind hF
      refine g_callVr0 (ci := 8) (q := (RX8, TX8, 11)) qm_X8_perform wd_915 wd_917 wd_25 rfl e12 (M_X8_perform l b D z nx e14) (As := [.ref a1, .int x5, .int x9]) rfl rfl (Nat.le_of_ble_eq_true rfl) ⟨(Nat.le_of_ble_eq_true rfl), (Nat.le_of_ble_eq_true rfl)⟩ ⟨rfl, rfl⟩ ⟨(Nat.le_of_ble_eq_true rfl), (Nat.le_of_ble_eq_true rfl)⟩ dX8_play_34 ?_
      refine g_if_ne 43 dX8_play_37 (by decide) (fun c15 => ?_) (fun c15 => ?_)
      · replace hF := q_f c15 hF
        refine g_iinc [(4, .int (a4 + 1)), (0, .ref a0), (1, .ref a1), (2, .ref a2), (3, .int a3)] 4 dX8_play_43 rfl (congrArg (a4 + ·) lt_iconst_1) (Nat.le_of_ble_eq_true rfl) rfl ?_
        refine g_goto 7 dX8_play_46 (by decide) ?_
        cases hF
        refine g_sub [1, 2, 3, 4, 0] rfl ?_
        exact hback _ _ rfl
      · replace hF := q_t c15 hF
        cases hF
        refine g_sub [4] rfl ?_
        exact hx0 _ _ rfl
set_option maxRecDepth 100000 in
set_option maxHeartbeats 4000000 in
theorem L_X8_play_7 (l : Launch) (b : Nat) (D : va_G) (z : Nat → Nat) {Φ : Option Value → qH → Nat → Prop} {nx : Nat} {a0 : Nat} {a1 : Nat} {a2 : Nat} {a3 : Int32} : ∀ (n : Nat) (a4 : Int32) (h : qH) (e : (Int32 × qH) ⊕ qH), q_lp (s_X8_play_7 a0 a1 a2 a3) n (a4, h) = some e → (∀ (b4 : Int32) (bh : qH), e = (.inl (b4, bh)) → Go l b D z yX8_play cX8_play 5 (some .int) rm_X8_play Φ 40 [(4, .int b4)] [] bh nx 0 0) → (∀  (bh : qH), e = (.inr bh) → Go l b D z yX8_play cX8_play 5 (some .int) rm_X8_play Φ 49 [(3, .int a3)] [] bh nx 0 0) → Go l b D z yX8_play cX8_play 5 (some .int) rm_X8_play Φ 7 [(0, .ref a0), (1, .ref a1), (2, .ref a2), (3, .int a3), (4, .int a4)] [] h nx 0 0 := by
  intro n
  induction n with
  | zero => intro a4 h e he; cases (show none = some e from he)
  | succ n ih =>
    intro a4 h e he hx0 hx1
    obtain ⟨o, ho, h1, h2⟩ := q_lp_succ he
    exact B_X8_play_7 l b D z (show b_X8_play_7 a0 a1 a2 a3 a4 h = some o from ho) (fun b4 bh hb => ih _ _ e (h1 _ hb) hx0 hx1) (fun p0 p1 hr => hx0 p0 p1 (h2 _ hr).symm) (fun p0 hr => hx1 p0 (h2 _ hr).symm)
set_option maxRecDepth 100000 in
set_option maxHeartbeats 4000000 in
theorem M_X8_play (l : Launch) (b : Nat) (D : va_G) (z : Nat → Nat) (nx : Nat) {h : qH} {a0 : Nat} {a1 : Nat} {a2 : Nat} {a3 : Int32} {r : Int32 × qH} (hF : F_X8_play h a0 a1 a2 a3 = some r) : Me l b D z yX8_play cX8_play 5 (some .int) rm_X8_play [.ref a0, .ref a1, .ref a2, .int a3] h nx (qE (some (.int r.1)) r.2 nx) := by
  refine Me.of (by decide +kernel) (Nat.le_of_ble_eq_true rfl) ?_
  show Go l b D z yX8_play cX8_play 5 (some .int) rm_X8_play (qE (some (.int r.1)) r.2 nx) 0 [(0, .ref a0), (1, .ref a1), (2, .ref a2), (3, .int a3)] [] h nx 0 0
  unfold F_X8_play at hF
  refine g_aload_n 0 dX8_play_0 rfl ?_
  obtain ⟨u1, e2, hF⟩ := q_bind hF
  obtain ⟨x3, e4, hF⟩ := q_bind hF
  refine g_callVv0 (ci := 8) (q := (RX8, TX8, 11)) qm_X8_begin wd_909 wd_911 wd_24 rfl e2 (M_X8_begin l b D z nx e4) (As := []) rfl rfl (Nat.le_of_ble_eq_true rfl) ⟨(Nat.le_of_ble_eq_true rfl), (Nat.le_of_ble_eq_true rfl)⟩ ⟨rfl, rfl⟩ ⟨(Nat.le_of_ble_eq_true rfl), (Nat.le_of_ble_eq_true rfl)⟩ dX8_play_1 ?_
  refine g_iconst dX8_play_4 lt_iconst_0 ?_
  refine g_istore [(4, .int (0 : Int32)), (0, .ref a0), (1, .ref a1), (2, .ref a2), (3, .int a3)] dX8_play_5 (Nat.le_of_ble_eq_true rfl) rfl ?_
  obtain ⟨e5, w6, hF⟩ := q_bind hF
  refine g_sub [1, 2, 3, 4, 0] rfl ?_
  refine L_X8_play_7 l b D z q_N (0 : Int32) x3 e5 w6 ?_ ?_
  · intro o7 h8 w9
    replace w9 := w9.symm
    subst w9
    replace hF := q_sl hF
    dsimp only at hF
    refine g_iload 0 dX8_play_40 rfl ?_
    cases hF
    exact g_iret dX8_play_42 rfl ⟨rfl, rfl, rfl⟩ (Nat.le_of_ble_eq_true rfl) (Nat.le_of_ble_eq_true rfl)
  · intro h11 w12
    replace w12 := w12.symm
    subst w12
    replace hF := q_sr hF
    refine g_iload_n 0 dX8_play_49 rfl ?_
    cases hF
    exact g_iret dX8_play_50 rfl ⟨rfl, rfl, rfl⟩ (Nat.le_of_ble_eq_true rfl) (Nat.le_of_ble_eq_true rfl)
def rm_X8_longestSilence : Room := { frames := 4, cells := 0, slots := 0, locals := 92 }
set_option maxRecDepth 100000 in
set_option maxHeartbeats 4000000 in
theorem B_X8_longestSilence_9 (l : Launch) (b : Nat) (D : va_G) (z : Nat → Nat) {Φ : Option Value → qH → Nat → Prop} {nx : Nat} {a0 : Nat} {a1 : Nat} {a2 : Nat} {a3 : Int32} {a4 : Int32} {h : qH} {o : (Int32 × Int32 × qH) ⊕ ((Int32 × qH) ⊕ (Int32 × qH))} (hF : b_X8_longestSilence_9 a0 a1 a2 a3 a4 h = some o) (hback : ∀ (b3 : Int32) (b4 : Int32) (bh : qH), o = .inl (b3, b4, bh) → Go l b D z yX8_longestSilence cX8_longestSilence 5 (some .int) rm_X8_longestSilence Φ 9 [(0, .ref a0), (1, .ref a1), (2, .ref a2), (3, .int b3), (4, .int b4)] [] bh nx 0 0) (hx0 : ∀ (b3 : Int32) (bh : qH), o = .inr (.inl (b3, bh)) → Go l b D z yX8_longestSilence cX8_longestSilence 5 (some .int) rm_X8_longestSilence Φ 38 [(3, .int b3)] [] bh nx 0 0) (hx1 : ∀ (b3 : Int32) (bh : qH), o = .inr (.inr (b3, bh)) → Go l b D z yX8_longestSilence cX8_longestSilence 5 (some .int) rm_X8_longestSilence Φ 55 [(3, .int b3)] [] bh nx 0 0) : Go l b D z yX8_longestSilence cX8_longestSilence 5 (some .int) rm_X8_longestSilence Φ 9 [(0, .ref a0), (1, .ref a1), (2, .ref a2), (3, .int a3), (4, .int a4)] [] h nx 0 0 := by
  unfold b_X8_longestSilence_9 at hF
  refine g_iload 4 dX8_longestSilence_9 rfl ?_
  refine g_aload_n 2 dX8_longestSilence_11 rfl ?_
  obtain ⟨x1, e2, hF⟩ := q_bind hF
  refine g_getfI fl_X8_59 e2 dX8_longestSilence_12 ?_
  refine g_icmp_ge 55 dX8_longestSilence_15 (by decide) (fun c3 => ?_) (fun c3 => ?_)
  · replace hF := q_t c3 hF
    cases hF
    refine g_sub [3] rfl ?_
    exact hx1 _ _ rfl
  · replace hF := q_f c3 hF
    refine g_aload_n 0 dX8_longestSilence_18 rfl ?_
    refine g_aload_n 1 dX8_longestSilence_19 rfl ?_
    refine g_aload_n 2 dX8_longestSilence_20 rfl ?_
    refine g_iload 4 dX8_longestSilence_21 rfl ?_
    obtain ⟨u4, e5, hF⟩ := q_bind hF
    obtain ⟨x6, e7, hF⟩ := q_bind hF
    refine g_callVr0 (ci := 1) (q := (RX1, TX1, 3)) qm_X1_deedAt wd_913 wd_890 wd_891 rfl e5 (M_X1_deedAt l b D z nx e7) (As := [.int a4]) rfl rfl (Nat.le_of_ble_eq_true rfl) ⟨(Nat.le_of_ble_eq_true rfl), (Nat.le_of_ble_eq_true rfl)⟩ ⟨rfl, rfl⟩ ⟨(Nat.le_of_ble_eq_true rfl), (Nat.le_of_ble_eq_true rfl)⟩ dX8_longestSilence_23 ?_
    refine g_aload_n 2 dX8_longestSilence_26 rfl ?_
    refine g_iload 4 dX8_longestSilence_27 rfl ?_
    obtain ⟨u8, e9, hF⟩ := q_bind hF
    obtain ⟨x10, e11, hF⟩ := q_bind hF
    refine g_callVr0 (ci := 1) (q := (RX1, TX1, 3)) qm_X1_numberAt wd_914 wd_898 wd_899 rfl e9 (M_X1_numberAt l b D z nx e11) (As := [.int a4]) rfl rfl (Nat.le_of_ble_eq_true rfl) ⟨(Nat.le_of_ble_eq_true rfl), (Nat.le_of_ble_eq_true rfl)⟩ ⟨rfl, rfl⟩ ⟨(Nat.le_of_ble_eq_true rfl), (Nat.le_of_ble_eq_true rfl)⟩ dX8_longestSilence_29 ?_
    obtain ⟨u12, e13, hF⟩ := q_bind hF
    obtain ⟨x14, e15, hF⟩ := q_bind hF
    refine g_callVr0 (ci := 8) (q := (RX8, TX8, 11)) qm_X8_perform wd_915 wd_917 wd_25 rfl e13 (M_X8_perform l b D z nx e15) (As := [.ref a1, .int x6, .int x10]) rfl rfl (Nat.le_of_ble_eq_true rfl) ⟨(Nat.le_of_ble_eq_true rfl), (Nat.le_of_ble_eq_true rfl)⟩ ⟨rfl, rfl⟩ ⟨(Nat.le_of_ble_eq_true rfl), (Nat.le_of_ble_eq_true rfl)⟩ dX8_longestSilence_32 ?_
    refine g_if_ne 40 dX8_longestSilence_35 (by decide) (fun c16 => ?_) (fun c16 => ?_)
    · replace hF := q_f c16 hF
      refine g_iload_n 3 dX8_longestSilence_40 rfl ?_
      refine g_aload_n 0 dX8_longestSilence_41 rfl ?_
      obtain ⟨x17, e18, hF⟩ := q_bind hF
      refine g_getfI fl_X8_25 e18 dX8_longestSilence_42 ?_
      obtain ⟨x19, e20, hF⟩ := q_bind hF
      refine g_callSr0 qm_J9_max_7cf53 wd_975 wd_721 (M_J9_max_7cf53 l b D z nx e20) (As := [.int a3, .int x17]) rfl rfl (Nat.le_of_ble_eq_true rfl) ⟨(Nat.le_of_ble_eq_true rfl), (Nat.le_of_ble_eq_true rfl)⟩ ⟨rfl, rfl⟩ ⟨(Nat.le_of_ble_eq_true rfl), (Nat.le_of_ble_eq_true rfl)⟩ dX8_longestSilence_45 ?_
      refine g_istore_n [(3, .int x19), (0, .ref a0), (1, .ref a1), (2, .ref a2), (4, .int a4)] dX8_longestSilence_48 (Nat.le_of_ble_eq_true rfl) rfl ?_
      refine g_iinc [(4, .int (a4 + 1)), (3, .int x19), (0, .ref a0), (1, .ref a1), (2, .ref a2)] 4 dX8_longestSilence_49 rfl (congrArg (a4 + ·) lt_iconst_1) (Nat.le_of_ble_eq_true rfl) rfl ?_
      refine g_goto 9 dX8_longestSilence_52 (by decide) ?_
      cases hF
      refine g_sub [2, 3, 4, 1, 0] rfl ?_
      exact hback _ _ _ rfl
    · replace hF := q_t c16 hF
      cases hF
      refine g_sub [3] rfl ?_
      exact hx0 _ _ rfl
set_option maxRecDepth 100000 in
set_option maxHeartbeats 4000000 in
theorem L_X8_longestSilence_9 (l : Launch) (b : Nat) (D : va_G) (z : Nat → Nat) {Φ : Option Value → qH → Nat → Prop} {nx : Nat} {a0 : Nat} {a1 : Nat} {a2 : Nat} : ∀ (n : Nat) (a3 : Int32) (a4 : Int32) (h : qH) (e : (Int32 × qH) ⊕ (Int32 × qH)), q_lp (s_X8_longestSilence_9 a0 a1 a2) n (a3, a4, h) = some e → (∀ (b3 : Int32) (bh : qH), e = (.inl (b3, bh)) → Go l b D z yX8_longestSilence cX8_longestSilence 5 (some .int) rm_X8_longestSilence Φ 38 [(3, .int b3)] [] bh nx 0 0) → (∀ (b3 : Int32) (bh : qH), e = (.inr (b3, bh)) → Go l b D z yX8_longestSilence cX8_longestSilence 5 (some .int) rm_X8_longestSilence Φ 55 [(3, .int b3)] [] bh nx 0 0) → Go l b D z yX8_longestSilence cX8_longestSilence 5 (some .int) rm_X8_longestSilence Φ 9 [(0, .ref a0), (1, .ref a1), (2, .ref a2), (3, .int a3), (4, .int a4)] [] h nx 0 0 := by
  intro n
  induction n with
  | zero => intro a3 a4 h e he; cases (show none = some e from he)
  | succ n ih =>
    intro a3 a4 h e he hx0 hx1
    obtain ⟨o, ho, h1, h2⟩ := q_lp_succ he
    exact B_X8_longestSilence_9 l b D z (show b_X8_longestSilence_9 a0 a1 a2 a3 a4 h = some o from ho) (fun b3 b4 bh hb => ih _ _ _ e (h1 _ hb) hx0 hx1) (fun p0 p1 hr => hx0 p0 p1 (h2 _ hr).symm) (fun p0 p1 hr => hx1 p0 p1 (h2 _ hr).symm)
set_option maxRecDepth 100000 in
set_option maxHeartbeats 4000000 in
theorem M_X8_longestSilence (l : Launch) (b : Nat) (D : va_G) (z : Nat → Nat) (nx : Nat) {h : qH} {a0 : Nat} {a1 : Nat} {a2 : Nat} {r : Int32 × qH} (hF : F_X8_longestSilence h a0 a1 a2 = some r) : Me l b D z yX8_longestSilence cX8_longestSilence 5 (some .int) rm_X8_longestSilence [.ref a0, .ref a1, .ref a2] h nx (qE (some (.int r.1)) r.2 nx) := by
  refine Me.of (by decide +kernel) (Nat.le_of_ble_eq_true rfl) ?_
  show Go l b D z yX8_longestSilence cX8_longestSilence 5 (some .int) rm_X8_longestSilence (qE (some (.int r.1)) r.2 nx) 0 [(0, .ref a0), (1, .ref a1), (2, .ref a2)] [] h nx 0 0
  unfold F_X8_longestSilence at hF
  refine g_aload_n 0 dX8_longestSilence_0 rfl ?_
  obtain ⟨u1, e2, hF⟩ := q_bind hF
  obtain ⟨x3, e4, hF⟩ := q_bind hF
  refine g_callVv0 (ci := 8) (q := (RX8, TX8, 11)) qm_X8_begin wd_909 wd_911 wd_24 rfl e2 (M_X8_begin l b D z nx e4) (As := []) rfl rfl (Nat.le_of_ble_eq_true rfl) ⟨(Nat.le_of_ble_eq_true rfl), (Nat.le_of_ble_eq_true rfl)⟩ ⟨rfl, rfl⟩ ⟨(Nat.le_of_ble_eq_true rfl), (Nat.le_of_ble_eq_true rfl)⟩ dX8_longestSilence_1 ?_
  refine g_iconst dX8_longestSilence_4 lt_iconst_0 ?_
  refine g_istore_n [(3, .int (0 : Int32)), (0, .ref a0), (1, .ref a1), (2, .ref a2)] dX8_longestSilence_5 (Nat.le_of_ble_eq_true rfl) rfl ?_
  refine g_iconst dX8_longestSilence_6 lt_iconst_0 ?_
  refine g_istore [(4, .int (0 : Int32)), (3, .int (0 : Int32)), (0, .ref a0), (1, .ref a1), (2, .ref a2)] dX8_longestSilence_7 (Nat.le_of_ble_eq_true rfl) rfl ?_
  obtain ⟨e5, w6, hF⟩ := q_bind hF
  refine g_sub [2, 3, 4, 1, 0] rfl ?_
  refine L_X8_longestSilence_9 l b D z q_N (0 : Int32) (0 : Int32) x3 e5 w6 ?_ ?_
  · intro o7 h8 w9
    replace w9 := w9.symm
    subst w9
    replace hF := q_sl hF
    dsimp only at hF
    refine g_iload_n 0 dX8_longestSilence_38 rfl ?_
    cases hF
    exact g_iret dX8_longestSilence_39 rfl ⟨rfl, rfl, rfl⟩ (Nat.le_of_ble_eq_true rfl) (Nat.le_of_ble_eq_true rfl)
  · intro o11 h12 w13
    replace w13 := w13.symm
    subst w13
    replace hF := q_sr hF
    dsimp only at hF
    refine g_iload_n 0 dX8_longestSilence_55 rfl ?_
    cases hF
    exact g_iret dX8_longestSilence_56 rfl ⟨rfl, rfl, rfl⟩ (Nat.le_of_ble_eq_true rfl) (Nat.le_of_ble_eq_true rfl)
def rm_X8_loudest : Room := { frames := 5, cells := 0, slots := 0, locals := 116 }
set_option maxRecDepth 100000 in
set_option maxHeartbeats 4000000 in
theorem B_X8_loudest_19 (l : Launch) (b : Nat) (D : va_G) (z : Nat → Nat) {Φ : Option Value → qH → Nat → Prop} {nx : Nat} {h : qH} {a0 : Nat} {a3 : Int32} {a4 : Int32} {a5 : Int32} {o : (Int32 × Int32 × Int32) ⊕ Int32} (hF : b_X8_loudest_19 h a0 a3 a4 a5 = some o) (hback : ∀ (b3 : Int32) (b4 : Int32) (b5 : Int32), o = .inl (b3, b4, b5) → Go l b D z yX8_loudest cX8_loudest 6 (some .int) rm_X8_loudest Φ 19 [(0, .ref a0), (3, .int b3), (4, .int b4), (5, .int b5)] [] h nx 0 0) (hx0 : ∀ (b3 : Int32), o = .inr b3 → Go l b D z yX8_loudest cX8_loudest 6 (some .int) rm_X8_loudest Φ 56 [(3, .int b3)] [] h nx 0 0) : Go l b D z yX8_loudest cX8_loudest 6 (some .int) rm_X8_loudest Φ 19 [(0, .ref a0), (3, .int a3), (4, .int a4), (5, .int a5)] [] h nx 0 0 := by
  unfold b_X8_loudest_19 at hF
  refine g_iload 3 dX8_loudest_19 rfl ?_
  refine g_bipush dX8_loudest_21 lt_bipush_6 ?_
  refine g_icmp_ge 56 dX8_loudest_23 (by decide) (fun c1 => ?_) (fun c1 => ?_)
  · replace hF := q_t c1 hF
    cases hF
    refine g_sub [1] rfl ?_
    exact hx0 _ rfl
  · replace hF := q_f c1 hF
    refine g_aload_n 0 dX8_loudest_26 rfl ?_
    obtain ⟨x2, e3, hF⟩ := q_bind hF
    refine g_getfR fl_X8_9 e3 dX8_loudest_27 ?_
    refine g_iload 3 dX8_loudest_30 rfl ?_
    obtain ⟨x4, e5, hF⟩ := q_bind hF
    refine g_iald e5 dX8_loudest_32 ?_
    refine g_iload 2 dX8_loudest_33 rfl ?_
    refine g_icmp_le 50 dX8_loudest_35 (by decide) (fun c6 => ?_) (fun c6 => ?_)
    · replace hF := q_t c6 hF
      refine g_iinc [(5, .int (a5 + 1)), (0, .ref a0), (3, .int a3), (4, .int a4)] 3 dX8_loudest_50 rfl (congrArg (a5 + ·) lt_iconst_1) (Nat.le_of_ble_eq_true rfl) rfl ?_
      refine g_goto 19 dX8_loudest_53 (by decide) ?_
      cases hF
      refine g_sub [1, 2, 3, 0] rfl ?_
      exact hback _ _ _ rfl
    · replace hF := q_f c6 hF
      refine g_aload_n 0 dX8_loudest_38 rfl ?_
      obtain ⟨x7, e8, hF⟩ := q_bind hF
      refine g_getfR fl_X8_9 e8 dX8_loudest_39 ?_
      refine g_iload 3 dX8_loudest_42 rfl ?_
      obtain ⟨x9, e10, hF⟩ := q_bind hF
      refine g_iald e10 dX8_loudest_44 ?_
      refine g_istore [(4, .int x9), (0, .ref a0), (3, .int a3), (5, .int a5)] dX8_loudest_45 (Nat.le_of_ble_eq_true rfl) rfl ?_
      refine g_iload 3 dX8_loudest_47 rfl ?_
      refine g_istore_n [(3, .int a5), (4, .int x9), (0, .ref a0), (5, .int a5)] dX8_loudest_49 (Nat.le_of_ble_eq_true rfl) rfl ?_
      refine g_iinc [(5, .int (a5 + 1)), (3, .int a5), (4, .int x9), (0, .ref a0)] 3 dX8_loudest_50 rfl (congrArg (a5 + ·) lt_iconst_1) (Nat.le_of_ble_eq_true rfl) rfl ?_
      refine g_goto 19 dX8_loudest_53 (by decide) ?_
      cases hF
      refine g_sub [3, 1, 2, 0] rfl ?_
      exact hback _ _ _ rfl
set_option maxRecDepth 100000 in
set_option maxHeartbeats 4000000 in
theorem L_X8_loudest_19 (l : Launch) (b : Nat) (D : va_G) (z : Nat → Nat) {Φ : Option Value → qH → Nat → Prop} {nx : Nat} {h : qH} {a0 : Nat} : ∀ (n : Nat) (a3 : Int32) (a4 : Int32) (a5 : Int32) (e : Int32), q_lp (s_X8_loudest_19 h a0) n (a3, a4, a5) = some e → (∀ (b3 : Int32), e = b3 → Go l b D z yX8_loudest cX8_loudest 6 (some .int) rm_X8_loudest Φ 56 [(3, .int b3)] [] h nx 0 0) → Go l b D z yX8_loudest cX8_loudest 6 (some .int) rm_X8_loudest Φ 19 [(0, .ref a0), (3, .int a3), (4, .int a4), (5, .int a5)] [] h nx 0 0 := by
  intro n
  induction n with
  | zero => intro a3 a4 a5 e he; cases (show none = some e from he)
  | succ n ih =>
    intro a3 a4 a5 e he hx0
    obtain ⟨o, ho, h1, h2⟩ := q_lp_succ he
    exact B_X8_loudest_19 l b D z (show b_X8_loudest_19 h a0 a3 a4 a5 = some o from ho) (fun b3 b4 b5 hb => ih _ _ _ e (h1 _ hb) hx0) (fun p0 hr => hx0 p0 (h2 _ hr).symm)
set_option maxRecDepth 100000 in
set_option maxHeartbeats 4000000 in
theorem M_X8_loudest (l : Launch) (b : Nat) (D : va_G) (z : Nat → Nat) (nx : Nat) {h : qH} {a0 : Nat} {a1 : Nat} {a2 : Nat} {r : Int32 × qH} (hF : F_X8_loudest h a0 a1 a2 = some r) : Me l b D z yX8_loudest cX8_loudest 6 (some .int) rm_X8_loudest [.ref a0, .ref a1, .ref a2] h nx (qE (some (.int r.1)) r.2 nx) := by
  refine Me.of (by decide +kernel) (Nat.le_of_ble_eq_true rfl) ?_
  show Go l b D z yX8_loudest cX8_loudest 6 (some .int) rm_X8_loudest (qE (some (.int r.1)) r.2 nx) 0 [(0, .ref a0), (1, .ref a1), (2, .ref a2)] [] h nx 0 0
  unfold F_X8_loudest at hF
  refine g_aload_n 0 dX8_loudest_0 rfl ?_
  refine g_aload_n 1 dX8_loudest_1 rfl ?_
  refine g_aload_n 2 dX8_loudest_2 rfl ?_
  refine g_aload_n 2 dX8_loudest_3 rfl ?_
  obtain ⟨x1, e2, hF⟩ := q_bind hF
  refine g_getfI fl_X8_59 e2 dX8_loudest_4 ?_
  obtain ⟨u3, e4, hF⟩ := q_bind hF
  obtain ⟨x5, e6, hF⟩ := q_bind hF
  refine g_callVr0 (ci := 8) (q := (RX8, TX8, 11)) qm_X8_play wd_1414 wd_906 wd_907 rfl e4 (M_X8_play l b D z nx e6) (As := [.ref a1, .ref a2, .int x1]) rfl rfl (Nat.le_of_ble_eq_true rfl) ⟨(Nat.le_of_ble_eq_true rfl), (Nat.le_of_ble_eq_true rfl)⟩ ⟨rfl, rfl⟩ ⟨(Nat.le_of_ble_eq_true rfl), (Nat.le_of_ble_eq_true rfl)⟩ dX8_loudest_7 ?_
  refine g_pop dX8_loudest_10 rfl ?_
  refine g_iconst dX8_loudest_11 lt_iconst_m1 ?_
  refine g_istore_n [(3, .int (-1 : Int32)), (0, .ref a0), (1, .ref a1), (2, .ref a2)] dX8_loudest_12 (Nat.le_of_ble_eq_true rfl) rfl ?_
  refine g_iconst dX8_loudest_13 lt_iconst_0 ?_
  refine g_istore [(4, .int (0 : Int32)), (3, .int (-1 : Int32)), (0, .ref a0), (1, .ref a1), (2, .ref a2)] dX8_loudest_14 (Nat.le_of_ble_eq_true rfl) rfl ?_
  refine g_iconst dX8_loudest_16 lt_iconst_0 ?_
  refine g_istore [(5, .int (0 : Int32)), (4, .int (0 : Int32)), (3, .int (-1 : Int32)), (0, .ref a0), (1, .ref a1), (2, .ref a2)] dX8_loudest_17 (Nat.le_of_ble_eq_true rfl) rfl ?_
  obtain ⟨e7, w8, hF⟩ := q_bind hF
  refine g_sub [3, 2, 1, 0] rfl ?_
  refine L_X8_loudest_19 l b D z q_N (-1 : Int32) (0 : Int32) (0 : Int32) e7 w8 ?_
  · intro o9 w10
    replace w10 := w10.symm
    subst w10
    refine g_iload_n 0 dX8_loudest_56 rfl ?_
    cases hF
    exact g_iret dX8_loudest_57 rfl ⟨rfl, rfl, rfl⟩ (Nat.le_of_ble_eq_true rfl) (Nat.le_of_ble_eq_true rfl)
def rm_X8_fines : Room := { frames := 1, cells := 0, slots := 0, locals := 21 }
set_option maxRecDepth 100000 in
set_option maxHeartbeats 4000000 in
theorem M_X8_fines (l : Launch) (b : Nat) (D : va_G) (z : Nat → Nat) (nx : Nat) {h : qH} {a0 : Nat} {a1 : Nat} {r : Int32} (hF : F_X8_fines h a0 a1 = some r) : Me l b D z yX8_fines cX8_fines 2 (some .int) rm_X8_fines [.ref a0, .ref a1] h nx (qE (some (.int r)) h nx) := by
  refine Me.of (by decide +kernel) (Nat.le_of_ble_eq_true rfl) ?_
  show Go l b D z yX8_fines cX8_fines 2 (some .int) rm_X8_fines (qE (some (.int r)) h nx) 0 [(0, .ref a0), (1, .ref a1)] [] h nx 0 0
  unfold F_X8_fines at hF
  refine g_iconst dX8_fines_0 lt_iconst_0 ?_
  refine g_aload_n 0 dX8_fines_1 rfl ?_
  obtain ⟨x1, e2, hF⟩ := q_bind hF
  refine g_getfI fl_X8_31 e2 dX8_fines_2 ?_
  refine g_aload_n 1 dX8_fines_5 rfl ?_
  obtain ⟨x3, e4, hF⟩ := q_bind hF
  refine g_getfI fl_X8_111 e4 dX8_fines_6 ?_
  refine g_isub dX8_fines_9 ?_
  obtain ⟨x5, e6, hF⟩ := q_bind hF
  refine g_callSr0 qm_J9_max_7cf53 wd_975 wd_721 (M_J9_max_7cf53 l b D z nx e6) (As := [.int (0 : Int32), .int (x1 - x3)]) rfl rfl (Nat.le_of_ble_eq_true rfl) ⟨(Nat.le_of_ble_eq_true rfl), (Nat.le_of_ble_eq_true rfl)⟩ ⟨rfl, rfl⟩ ⟨(Nat.le_of_ble_eq_true rfl), (Nat.le_of_ble_eq_true rfl)⟩ dX8_fines_10 ?_
  cases hF
  exact g_iret dX8_fines_13 rfl ⟨rfl, rfl, rfl⟩ (Nat.le_of_ble_eq_true rfl) (Nat.le_of_ble_eq_true rfl)
def rm_X8_firstFined : Room := { frames := 4, cells := 0, slots := 0, locals := 92 }
set_option maxRecDepth 100000 in
set_option maxHeartbeats 4000000 in
theorem B_X8_firstFined_6 (l : Launch) (b : Nat) (D : va_G) (z : Nat → Nat) {Φ : Option Value → qH → Nat → Prop} {nx : Nat} {a0 : Nat} {a1 : Nat} {a2 : Nat} {a3 : Int32} {h : qH} {o : (Int32 × qH) ⊕ ((qH ⊕ ((Int32 × qH) ⊕ qH)))} (hF : b_X8_firstFined_6 a0 a1 a2 a3 h = some o) (hback : ∀ (b3 : Int32) (bh : qH), o = .inl (b3, bh) → Go l b D z yX8_firstFined cX8_firstFined 4 (some .int) rm_X8_firstFined Φ 6 [(0, .ref a0), (1, .ref a1), (2, .ref a2), (3, .int b3)] [] bh nx 0 0) (hx0 : ∀  (bh : qH), o = .inr (.inl bh) → Go l b D z yX8_firstFined cX8_firstFined 4 (some .int) rm_X8_firstFined Φ 32 [] [] bh nx 0 0) (hx1 : ∀ (b3 : Int32) (bh : qH), o = .inr (.inr (.inl (b3, bh))) → Go l b D z yX8_firstFined cX8_firstFined 4 (some .int) rm_X8_firstFined Φ 42 [(3, .int b3)] [] bh nx 0 0) (hx2 : ∀  (bh : qH), o = .inr (.inr (.inr bh)) → Go l b D z yX8_firstFined cX8_firstFined 4 (some .int) rm_X8_firstFined Φ 52 [] [] bh nx 0 0) : Go l b D z yX8_firstFined cX8_firstFined 4 (some .int) rm_X8_firstFined Φ 6 [(0, .ref a0), (1, .ref a1), (2, .ref a2), (3, .int a3)] [] h nx 0 0 := by
  unfold b_X8_firstFined_6 at hF
  refine g_iload_n 3 dX8_firstFined_6 rfl ?_
  refine g_aload_n 2 dX8_firstFined_7 rfl ?_
  obtain ⟨x1, e2, hF⟩ := q_bind hF
  refine g_getfI fl_X8_59 e2 dX8_firstFined_8 ?_
  refine g_icmp_ge 52 dX8_firstFined_11 (by decide) (fun c3 => ?_) (fun c3 => ?_)
  · replace hF := q_t c3 hF
    cases hF
    refine g_sub [] rfl ?_
    exact hx2 _ rfl
  · replace hF := q_f c3 hF
    refine g_aload_n 0 dX8_firstFined_14 rfl ?_
    refine g_aload_n 1 dX8_firstFined_15 rfl ?_
    refine g_aload_n 2 dX8_firstFined_16 rfl ?_
    refine g_iload_n 3 dX8_firstFined_17 rfl ?_
    obtain ⟨u4, e5, hF⟩ := q_bind hF
    obtain ⟨x6, e7, hF⟩ := q_bind hF
    refine g_callVr0 (ci := 1) (q := (RX1, TX1, 3)) qm_X1_deedAt wd_913 wd_890 wd_891 rfl e5 (M_X1_deedAt l b D z nx e7) (As := [.int a3]) rfl rfl (Nat.le_of_ble_eq_true rfl) ⟨(Nat.le_of_ble_eq_true rfl), (Nat.le_of_ble_eq_true rfl)⟩ ⟨rfl, rfl⟩ ⟨(Nat.le_of_ble_eq_true rfl), (Nat.le_of_ble_eq_true rfl)⟩ dX8_firstFined_18 ?_
    refine g_aload_n 2 dX8_firstFined_21 rfl ?_
    refine g_iload_n 3 dX8_firstFined_22 rfl ?_
    obtain ⟨u8, e9, hF⟩ := q_bind hF
    obtain ⟨x10, e11, hF⟩ := q_bind hF
    refine g_callVr0 (ci := 1) (q := (RX1, TX1, 3)) qm_X1_numberAt wd_914 wd_898 wd_899 rfl e9 (M_X1_numberAt l b D z nx e11) (As := [.int a3]) rfl rfl (Nat.le_of_ble_eq_true rfl) ⟨(Nat.le_of_ble_eq_true rfl), (Nat.le_of_ble_eq_true rfl)⟩ ⟨rfl, rfl⟩ ⟨(Nat.le_of_ble_eq_true rfl), (Nat.le_of_ble_eq_true rfl)⟩ dX8_firstFined_23 ?_
    obtain ⟨u12, e13, hF⟩ := q_bind hF
    obtain ⟨x14, e15, hF⟩ := q_bind hF
    refine g_callVr0 (ci := 8) (q := (RX8, TX8, 11)) qm_X8_perform wd_915 wd_917 wd_25 rfl e13 (M_X8_perform l b D z nx e15) (As := [.ref a1, .int x6, .int x10]) rfl rfl (Nat.le_of_ble_eq_true rfl) ⟨(Nat.le_of_ble_eq_true rfl), (Nat.le_of_ble_eq_true rfl)⟩ ⟨rfl, rfl⟩ ⟨(Nat.le_of_ble_eq_true rfl), (Nat.le_of_ble_eq_true rfl)⟩ dX8_firstFined_26 ?_
    refine g_if_ne 34 dX8_firstFined_29 (by decide) (fun c16 => ?_) (fun c16 => ?_)
    · replace hF := q_f c16 hF
      refine g_aload_n 0 dX8_firstFined_34 rfl ?_
      refine g_aload_n 1 dX8_firstFined_35 rfl ?_
      obtain ⟨u17, e18, hF⟩ := q_bind hF
      obtain ⟨x19, e20, hF⟩ := q_bind hF
      refine g_callVr0 (ci := 8) (q := (RX8, TX8, 11)) qm_X8_fines wd_971 wd_973 wd_34 rfl e18 (M_X8_fines l b D z nx e20) (As := [.ref a1]) rfl rfl (Nat.le_of_ble_eq_true rfl) ⟨(Nat.le_of_ble_eq_true rfl), (Nat.le_of_ble_eq_true rfl)⟩ ⟨rfl, rfl⟩ ⟨(Nat.le_of_ble_eq_true rfl), (Nat.le_of_ble_eq_true rfl)⟩ dX8_firstFined_36 ?_
      refine g_if_le 46 dX8_firstFined_39 (by decide) (fun c21 => ?_) (fun c21 => ?_)
      · replace hF := q_t c21 hF
        refine g_iinc [(3, .int (a3 + 1)), (0, .ref a0), (1, .ref a1), (2, .ref a2)] 3 dX8_firstFined_46 rfl (congrArg (a3 + ·) lt_iconst_1) (Nat.le_of_ble_eq_true rfl) rfl ?_
        refine g_goto 6 dX8_firstFined_49 (by decide) ?_
        cases hF
        refine g_sub [1, 2, 3, 0] rfl ?_
        exact hback _ _ rfl
      · replace hF := q_f c21 hF
        cases hF
        refine g_sub [3] rfl ?_
        exact hx1 _ _ rfl
    · replace hF := q_t c16 hF
      cases hF
      refine g_sub [] rfl ?_
      exact hx0 _ rfl
set_option maxRecDepth 100000 in
set_option maxHeartbeats 4000000 in
theorem L_X8_firstFined_6 (l : Launch) (b : Nat) (D : va_G) (z : Nat → Nat) {Φ : Option Value → qH → Nat → Prop} {nx : Nat} {a0 : Nat} {a1 : Nat} {a2 : Nat} : ∀ (n : Nat) (a3 : Int32) (h : qH) (e : (qH ⊕ ((Int32 × qH) ⊕ qH))), q_lp (s_X8_firstFined_6 a0 a1 a2) n (a3, h) = some e → (∀  (bh : qH), e = (.inl bh) → Go l b D z yX8_firstFined cX8_firstFined 4 (some .int) rm_X8_firstFined Φ 32 [] [] bh nx 0 0) → (∀ (b3 : Int32) (bh : qH), e = (.inr (.inl (b3, bh))) → Go l b D z yX8_firstFined cX8_firstFined 4 (some .int) rm_X8_firstFined Φ 42 [(3, .int b3)] [] bh nx 0 0) → (∀  (bh : qH), e = (.inr (.inr bh)) → Go l b D z yX8_firstFined cX8_firstFined 4 (some .int) rm_X8_firstFined Φ 52 [] [] bh nx 0 0) → Go l b D z yX8_firstFined cX8_firstFined 4 (some .int) rm_X8_firstFined Φ 6 [(0, .ref a0), (1, .ref a1), (2, .ref a2), (3, .int a3)] [] h nx 0 0 := by
  intro n
  induction n with
  | zero => intro a3 h e he; cases (show none = some e from he)
  | succ n ih =>
    intro a3 h e he hx0 hx1 hx2
    obtain ⟨o, ho, h1, h2⟩ := q_lp_succ he
    exact B_X8_firstFined_6 l b D z (show b_X8_firstFined_6 a0 a1 a2 a3 h = some o from ho) (fun b3 bh hb => ih _ _ e (h1 _ hb) hx0 hx1 hx2) (fun p0 hr => hx0 p0 (h2 _ hr).symm) (fun p0 p1 hr => hx1 p0 p1 (h2 _ hr).symm) (fun p0 hr => hx2 p0 (h2 _ hr).symm)
set_option maxRecDepth 100000 in
set_option maxHeartbeats 4000000 in
theorem M_X8_firstFined (l : Launch) (b : Nat) (D : va_G) (z : Nat → Nat) (nx : Nat) {h : qH} {a0 : Nat} {a1 : Nat} {a2 : Nat} {r : Int32 × qH} (hF : F_X8_firstFined h a0 a1 a2 = some r) : Me l b D z yX8_firstFined cX8_firstFined 4 (some .int) rm_X8_firstFined [.ref a0, .ref a1, .ref a2] h nx (qE (some (.int r.1)) r.2 nx) := by
  refine Me.of (by decide +kernel) (Nat.le_of_ble_eq_true rfl) ?_
  show Go l b D z yX8_firstFined cX8_firstFined 4 (some .int) rm_X8_firstFined (qE (some (.int r.1)) r.2 nx) 0 [(0, .ref a0), (1, .ref a1), (2, .ref a2)] [] h nx 0 0
  unfold F_X8_firstFined at hF
  refine g_aload_n 0 dX8_firstFined_0 rfl ?_
  obtain ⟨u1, e2, hF⟩ := q_bind hF
  obtain ⟨x3, e4, hF⟩ := q_bind hF
  refine g_callVv0 (ci := 8) (q := (RX8, TX8, 11)) qm_X8_begin wd_909 wd_911 wd_24 rfl e2 (M_X8_begin l b D z nx e4) (As := []) rfl rfl (Nat.le_of_ble_eq_true rfl) ⟨(Nat.le_of_ble_eq_true rfl), (Nat.le_of_ble_eq_true rfl)⟩ ⟨rfl, rfl⟩ ⟨(Nat.le_of_ble_eq_true rfl), (Nat.le_of_ble_eq_true rfl)⟩ dX8_firstFined_1 ?_
  refine g_iconst dX8_firstFined_4 lt_iconst_0 ?_
  refine g_istore_n [(3, .int (0 : Int32)), (0, .ref a0), (1, .ref a1), (2, .ref a2)] dX8_firstFined_5 (Nat.le_of_ble_eq_true rfl) rfl ?_
  obtain ⟨e5, w6, hF⟩ := q_bind hF
  refine g_sub [1, 2, 3, 0] rfl ?_
  refine L_X8_firstFined_6 l b D z q_N (0 : Int32) x3 e5 w6 ?_ ?_ ?_
  · intro h7 w8
    replace w8 := w8.symm
    subst w8
    replace hF := q_sl hF
    refine g_iconst dX8_firstFined_32 lt_iconst_m1 ?_
    cases hF
    exact g_iret dX8_firstFined_33 rfl ⟨rfl, rfl, rfl⟩ (Nat.le_of_ble_eq_true rfl) (Nat.le_of_ble_eq_true rfl)
  · intro o10 h11 w12
    replace w12 := w12.symm
    subst w12
    replace hF := q_sr hF
    replace hF := q_sl hF
    dsimp only at hF
    refine g_iload_n 0 dX8_firstFined_42 rfl ?_
    refine g_iconst dX8_firstFined_43 lt_iconst_1 ?_
    refine g_iadd dX8_firstFined_44 ?_
    cases hF
    exact g_iret dX8_firstFined_45 rfl ⟨rfl, rfl, rfl⟩ (Nat.le_of_ble_eq_true rfl) (Nat.le_of_ble_eq_true rfl)
  · intro h14 w15
    replace w15 := w15.symm
    subst w15
    replace hF := q_sr hF
    replace hF := q_sr hF
    refine g_iconst dX8_firstFined_52 lt_iconst_m1 ?_
    cases hF
    exact g_iret dX8_firstFined_53 rfl ⟨rfl, rfl, rfl⟩ (Nat.le_of_ble_eq_true rfl) (Nat.le_of_ble_eq_true rfl)
def rm_X8_draw : Room := { frames := 0, cells := 0, slots := 0, locals := 0 }
set_option maxRecDepth 100000 in
set_option maxHeartbeats 4000000 in
theorem M_X8_draw (l : Launch) (b : Nat) (D : va_G) (z : Nat → Nat) (nx : Nat) {h : qH} {a0 : Nat} {a1 : Int32} {r : Int32 × qH} (hF : F_X8_draw h a0 a1 = some r) : Me l b D z yX8_draw cX8_draw 2 (some .int) rm_X8_draw [.ref a0, .int a1] h nx (qE (some (.int r.1)) r.2 nx) := by
  refine Me.of (by decide +kernel) (Nat.le_of_ble_eq_true rfl) ?_
  show Go l b D z yX8_draw cX8_draw 2 (some .int) rm_X8_draw (qE (some (.int r.1)) r.2 nx) 0 [(0, .ref a0), (1, .int a1)] [] h nx 0 0
  unfold F_X8_draw at hF
  refine g_aload_n 0 dX8_draw_0 rfl ?_
  refine g_aload_n 0 dX8_draw_1 rfl ?_
  obtain ⟨x1, e2, hF⟩ := q_bind hF
  refine g_getfI fl_X8_76 e2 dX8_draw_2 ?_
  refine g_ldc dX8_draw_5 wd_1306 ?_
  refine g_imul dX8_draw_7 ?_
  refine g_sipush dX8_draw_8 lt_sipush_12345 ?_
  refine g_iadd dX8_draw_11 ?_
  obtain ⟨h3, e4, hF⟩ := q_bind hF
  refine g_putf fl_X8_76 e4 rfl rfl dX8_draw_12 ?_
  refine g_iload_n 1 dX8_draw_15 rfl ?_
  refine g_if_le 31 dX8_draw_16 (by decide) (fun c5 => ?_) (fun c5 => ?_)
  · replace hF := q_t c5 hF
    refine g_iconst dX8_draw_31 lt_iconst_0 ?_
    cases hF
    exact g_iret dX8_draw_32 rfl ⟨rfl, rfl, rfl⟩ (Nat.le_of_ble_eq_true rfl) (Nat.le_of_ble_eq_true rfl)
  · replace hF := q_f c5 hF
    refine g_aload_n 0 dX8_draw_19 rfl ?_
    obtain ⟨x6, e7, hF⟩ := q_bind hF
    refine g_getfI fl_X8_76 e7 dX8_draw_20 ?_
    refine g_bipush dX8_draw_23 lt_bipush_16 ?_
    refine g_iushr dX8_draw_25 ?_
    refine g_iload_n 1 dX8_draw_26 rfl ?_
    obtain ⟨u8, e9, hF⟩ := q_bind hF
    refine g_irem dX8_draw_27 (q_nz_spec e9) ?_
    refine g_goto 32 dX8_draw_28 (by decide) ?_
    cases hF
    exact g_iret dX8_draw_32 rfl ⟨rfl, rfl, rfl⟩ (Nat.le_of_ble_eq_true rfl) (Nat.le_of_ble_eq_true rfl)
def rm_X8_drawFollower : Room := { frames := 1, cells := 0, slots := 0, locals := 22 }
set_option maxRecDepth 100000 in
set_option maxHeartbeats 4000000 in
theorem M_X8_drawFollower (l : Launch) (b : Nat) (D : va_G) (z : Nat → Nat) (nx : Nat) {h : qH} {a0 : Nat} {a1 : Nat} {r : Int32 × qH} (hF : F_X8_drawFollower h a0 a1 = some r) : Me l b D z yX8_drawFollower cX8_drawFollower 3 (some .int) rm_X8_drawFollower [.ref a0, .ref a1] h nx (qE (some (.int r.1)) r.2 nx) := by
  refine Me.of (by decide +kernel) (Nat.le_of_ble_eq_true rfl) ?_
  show Go l b D z yX8_drawFollower cX8_drawFollower 3 (some .int) rm_X8_drawFollower (qE (some (.int r.1)) r.2 nx) 0 [(0, .ref a0), (1, .ref a1)] [] h nx 0 0
  unfold F_X8_drawFollower at hF
  refine g_aload_n 1 dX8_drawFollower_0 rfl ?_
  refine g_aload_n 0 dX8_drawFollower_1 rfl ?_
  obtain ⟨x1, e2, hF⟩ := q_bind hF
  refine g_getfI fl_X8_22 e2 dX8_drawFollower_2 ?_
  obtain ⟨u3, e4, hF⟩ := q_bind hF
  obtain ⟨x5, e6, hF⟩ := q_bind hF
  refine g_callVr0 (ci := 0) (q := (RX0, TX0, 15)) qm_X0_howManyFollow wd_1311 wd_791 wd_792 rfl e4 (M_X0_howManyFollow l b D z nx e6) (As := [.int x1]) rfl rfl (Nat.le_of_ble_eq_true rfl) ⟨(Nat.le_of_ble_eq_true rfl), (Nat.le_of_ble_eq_true rfl)⟩ ⟨rfl, rfl⟩ ⟨(Nat.le_of_ble_eq_true rfl), (Nat.le_of_ble_eq_true rfl)⟩ dX8_drawFollower_5 ?_
  refine g_istore_n [(2, .int x5), (0, .ref a0), (1, .ref a1)] dX8_drawFollower_8 (Nat.le_of_ble_eq_true rfl) rfl ?_
  refine g_iload_n 0 dX8_drawFollower_9 rfl ?_
  refine g_if_le 29 dX8_drawFollower_10 (by decide) (fun c7 => ?_) (fun c7 => ?_)
  · replace hF := q_t c7 hF
    refine g_iconst dX8_drawFollower_29 lt_iconst_m1 ?_
    cases hF
    exact g_iret dX8_drawFollower_30 rfl ⟨rfl, rfl, rfl⟩ (Nat.le_of_ble_eq_true rfl) (Nat.le_of_ble_eq_true rfl)
  · replace hF := q_f c7 hF
    refine g_aload_n 2 dX8_drawFollower_13 rfl ?_
    refine g_aload_n 1 dX8_drawFollower_14 rfl ?_
    obtain ⟨x8, e9, hF⟩ := q_bind hF
    refine g_getfI fl_X8_22 e9 dX8_drawFollower_15 ?_
    refine g_aload_n 1 dX8_drawFollower_18 rfl ?_
    refine g_iload_n 0 dX8_drawFollower_19 rfl ?_
    obtain ⟨u10, e11, hF⟩ := q_bind hF
    obtain ⟨x12, e13, hF⟩ := q_bind hF
    refine g_callVr0 (ci := 8) (q := (RX8, TX8, 11)) qm_X8_draw wd_1302 wd_1304 wd_70 rfl e11 (M_X8_draw l b D z nx e13) (As := [.int x5]) rfl rfl (Nat.le_of_ble_eq_true rfl) ⟨(Nat.le_of_ble_eq_true rfl), (Nat.le_of_ble_eq_true rfl)⟩ ⟨rfl, rfl⟩ ⟨(Nat.le_of_ble_eq_true rfl), (Nat.le_of_ble_eq_true rfl)⟩ dX8_drawFollower_20 ?_
    obtain ⟨u14, e15, hF⟩ := q_bind hF
    obtain ⟨x16, e17, hF⟩ := q_bind hF
    refine g_callVr0 (ci := 0) (q := (RX0, TX0, 15)) qm_X0_following wd_928 wd_795 wd_796 rfl e15 (M_X0_following l b D z nx e17) (As := [.int x8, .int x12.1]) rfl rfl (Nat.le_of_ble_eq_true rfl) ⟨(Nat.le_of_ble_eq_true rfl), (Nat.le_of_ble_eq_true rfl)⟩ ⟨rfl, rfl⟩ ⟨(Nat.le_of_ble_eq_true rfl), (Nat.le_of_ble_eq_true rfl)⟩ dX8_drawFollower_23 ?_
    refine g_goto 30 dX8_drawFollower_26 (by decide) ?_
    cases hF
    exact g_iret dX8_drawFollower_30 rfl ⟨rfl, rfl, rfl⟩ (Nat.le_of_ble_eq_true rfl) (Nat.le_of_ble_eq_true rfl)
def rm_X8_drawDeed : Room := { frames := 4, cells := 0, slots := 0, locals := 92 }
set_option maxRecDepth 100000 in
set_option maxHeartbeats 4000000 in
theorem J_X8_drawDeed_23 (l : Launch) (b : Nat) (D : va_G) (z : Nat → Nat) {nx : Nat} {h : qH} {a0 : Nat} {a1 : Nat} {a2 : Int32} {t0 : Int32} {r : qH} (hF : j_X8_drawDeed_23 h a0 a1 a2 t0 = some r) : Go l b D z yX8_drawDeed cX8_drawDeed 4 none rm_X8_drawDeed (qE none r nx) 23 [(0, .ref a0), (1, .ref a1), (2, .int a2)] [.int t0] h nx 0 0 := by
  unfold j_X8_drawDeed_23 at hF
  refine g_istore_n [(3, .int t0), (0, .ref a0), (1, .ref a1), (2, .int a2)] dX8_drawDeed_23 (Nat.le_of_ble_eq_true rfl) rfl ?_
  refine g_iload_n 3 dX8_drawDeed_24 rfl ?_
  by_cases c1 : a2 = 3
  · replace hF := q_t c1 hF
    refine g_tabIn (off := 35) 60 dX8_drawDeed_25 (by rw [c1]; decide) (by rw [c1]; decide) (by rw [c1]; decide) (by decide) ?_
    refine g_aload_n 1 dX8_drawDeed_60 rfl ?_
    refine g_aload_n 2 dX8_drawDeed_61 rfl ?_
    refine g_iconst dX8_drawDeed_62 lt_iconst_0 ?_
    refine g_aload_n 1 dX8_drawDeed_63 rfl ?_
    refine g_aload_n 2 dX8_drawDeed_64 rfl ?_
    obtain ⟨u2, e3, hF⟩ := q_bind hF
    obtain ⟨x4, e5, hF⟩ := q_bind hF
    refine g_callVr0 (ci := 8) (q := (RX8, TX8, 11)) qm_X8_drawFollower wd_1307 wd_1309 wd_71 rfl e3 (M_X8_drawFollower l b D z nx e5) (As := [.ref a1]) rfl rfl (Nat.le_of_ble_eq_true rfl) ⟨(Nat.le_of_ble_eq_true rfl), (Nat.le_of_ble_eq_true rfl)⟩ ⟨rfl, rfl⟩ ⟨(Nat.le_of_ble_eq_true rfl), (Nat.le_of_ble_eq_true rfl)⟩ dX8_drawDeed_65 ?_
    obtain ⟨u6, e7, hF⟩ := q_bind hF
    obtain ⟨x8, e9, hF⟩ := q_bind hF
    refine g_callVr0 (ci := 8) (q := (RX8, TX8, 11)) qm_X8_perform wd_915 wd_917 wd_25 rfl e7 (M_X8_perform l b D z nx e9) (As := [.ref a1, .int (0 : Int32), .int x4.1]) rfl rfl (Nat.le_of_ble_eq_true rfl) ⟨(Nat.le_of_ble_eq_true rfl), (Nat.le_of_ble_eq_true rfl)⟩ ⟨rfl, rfl⟩ ⟨(Nat.le_of_ble_eq_true rfl), (Nat.le_of_ble_eq_true rfl)⟩ dX8_drawDeed_68 ?_
    refine g_pop dX8_drawDeed_71 rfl ?_
    refine g_goto 144 dX8_drawDeed_72 (by decide) ?_
    cases hF
    exact g_vret dX8_drawDeed_144 rfl ⟨rfl, rfl, rfl⟩ (Nat.le_of_ble_eq_true rfl) (Nat.le_of_ble_eq_true rfl)
  replace hF := q_f c1 hF
  by_cases c10 : a2 = 4
  · replace hF := q_t c10 hF
    refine g_tabIn (off := 50) 75 dX8_drawDeed_25 (by rw [c10]; decide) (by rw [c10]; decide) (by rw [c10]; decide) (by decide) ?_
    refine g_aload_n 1 dX8_drawDeed_75 rfl ?_
    refine g_aload_n 2 dX8_drawDeed_76 rfl ?_
    refine g_iconst dX8_drawDeed_77 lt_iconst_3 ?_
    refine g_iconst dX8_drawDeed_78 lt_iconst_m1 ?_
    obtain ⟨u11, e12, hF⟩ := q_bind hF
    obtain ⟨x13, e14, hF⟩ := q_bind hF
    refine g_callVr0 (ci := 8) (q := (RX8, TX8, 11)) qm_X8_perform wd_915 wd_917 wd_25 rfl e12 (M_X8_perform l b D z nx e14) (As := [.ref a1, .int (3 : Int32), .int (-1 : Int32)]) rfl rfl (Nat.le_of_ble_eq_true rfl) ⟨(Nat.le_of_ble_eq_true rfl), (Nat.le_of_ble_eq_true rfl)⟩ ⟨rfl, rfl⟩ ⟨(Nat.le_of_ble_eq_true rfl), (Nat.le_of_ble_eq_true rfl)⟩ dX8_drawDeed_79 ?_
    refine g_pop dX8_drawDeed_82 rfl ?_
    refine g_goto 144 dX8_drawDeed_83 (by decide) ?_
    cases hF
    exact g_vret dX8_drawDeed_144 rfl ⟨rfl, rfl, rfl⟩ (Nat.le_of_ble_eq_true rfl) (Nat.le_of_ble_eq_true rfl)
  replace hF := q_f c10 hF
  by_cases c15 : a2 = 5
  · replace hF := q_t c15 hF
    refine g_tabIn (off := 61) 86 dX8_drawDeed_25 (by rw [c15]; decide) (by rw [c15]; decide) (by rw [c15]; decide) (by decide) ?_
    refine g_aload_n 1 dX8_drawDeed_86 rfl ?_
    refine g_aload_n 2 dX8_drawDeed_87 rfl ?_
    refine g_iconst dX8_drawDeed_88 lt_iconst_4 ?_
    refine g_iconst dX8_drawDeed_89 lt_iconst_m1 ?_
    obtain ⟨u16, e17, hF⟩ := q_bind hF
    obtain ⟨x18, e19, hF⟩ := q_bind hF
    refine g_callVr0 (ci := 8) (q := (RX8, TX8, 11)) qm_X8_perform wd_915 wd_917 wd_25 rfl e17 (M_X8_perform l b D z nx e19) (As := [.ref a1, .int (4 : Int32), .int (-1 : Int32)]) rfl rfl (Nat.le_of_ble_eq_true rfl) ⟨(Nat.le_of_ble_eq_true rfl), (Nat.le_of_ble_eq_true rfl)⟩ ⟨rfl, rfl⟩ ⟨(Nat.le_of_ble_eq_true rfl), (Nat.le_of_ble_eq_true rfl)⟩ dX8_drawDeed_90 ?_
    refine g_pop dX8_drawDeed_93 rfl ?_
    refine g_goto 144 dX8_drawDeed_94 (by decide) ?_
    cases hF
    exact g_vret dX8_drawDeed_144 rfl ⟨rfl, rfl, rfl⟩ (Nat.le_of_ble_eq_true rfl) (Nat.le_of_ble_eq_true rfl)
  replace hF := q_f c15 hF
  by_cases c20 : a2 = 6
  · replace hF := q_t c20 hF
    refine g_tabIn (off := 72) 97 dX8_drawDeed_25 (by rw [c20]; decide) (by rw [c20]; decide) (by rw [c20]; decide) (by decide) ?_
    refine g_aload_n 1 dX8_drawDeed_97 rfl ?_
    refine g_aload_n 2 dX8_drawDeed_98 rfl ?_
    refine g_bipush dX8_drawDeed_99 lt_bipush_6 ?_
    refine g_iconst dX8_drawDeed_101 lt_iconst_m1 ?_
    obtain ⟨u21, e22, hF⟩ := q_bind hF
    obtain ⟨x23, e24, hF⟩ := q_bind hF
    refine g_callVr0 (ci := 8) (q := (RX8, TX8, 11)) qm_X8_perform wd_915 wd_917 wd_25 rfl e22 (M_X8_perform l b D z nx e24) (As := [.ref a1, .int (6 : Int32), .int (-1 : Int32)]) rfl rfl (Nat.le_of_ble_eq_true rfl) ⟨(Nat.le_of_ble_eq_true rfl), (Nat.le_of_ble_eq_true rfl)⟩ ⟨rfl, rfl⟩ ⟨(Nat.le_of_ble_eq_true rfl), (Nat.le_of_ble_eq_true rfl)⟩ dX8_drawDeed_102 ?_
    refine g_pop dX8_drawDeed_105 rfl ?_
    refine g_goto 144 dX8_drawDeed_106 (by decide) ?_
    cases hF
    exact g_vret dX8_drawDeed_144 rfl ⟨rfl, rfl, rfl⟩ (Nat.le_of_ble_eq_true rfl) (Nat.le_of_ble_eq_true rfl)
  replace hF := q_f c20 hF
  by_cases c25 : a2 = 7
  · replace hF := q_t c25 hF
    refine g_tabIn (off := 84) 109 dX8_drawDeed_25 (by rw [c25]; decide) (by rw [c25]; decide) (by rw [c25]; decide) (by decide) ?_
    refine g_aload_n 1 dX8_drawDeed_109 rfl ?_
    refine g_aload_n 2 dX8_drawDeed_110 rfl ?_
    refine g_aload_n 1 dX8_drawDeed_111 rfl ?_
    refine g_iload_n 0 dX8_drawDeed_112 rfl ?_
    obtain ⟨u26, e27, hF⟩ := q_bind hF
    obtain ⟨x28, e29, hF⟩ := q_bind hF
    refine g_callVr0 (ci := 8) (q := (RX8, TX8, 11)) qm_X8_isIn wd_934 wd_936 wd_28 rfl e27 (M_X8_isIn l b D z nx e29) (As := [.int t0]) rfl rfl (Nat.le_of_ble_eq_true rfl) ⟨(Nat.le_of_ble_eq_true rfl), (Nat.le_of_ble_eq_true rfl)⟩ ⟨rfl, rfl⟩ ⟨(Nat.le_of_ble_eq_true rfl), (Nat.le_of_ble_eq_true rfl)⟩ dX8_drawDeed_113 ?_
    refine g_if_eq 123 dX8_drawDeed_116 (by decide) (fun c30 => ?_) (fun c30 => ?_)
    · replace hF := q_t c30 hF
      refine g_iconst dX8_drawDeed_123 lt_iconst_2 ?_
      refine g_iload_n 0 dX8_drawDeed_124 rfl ?_
      obtain ⟨u31, e32, hF⟩ := q_bind hF
      obtain ⟨x33, e34, hF⟩ := q_bind hF
      refine g_callVr0 (ci := 8) (q := (RX8, TX8, 11)) qm_X8_perform wd_915 wd_917 wd_25 rfl e32 (M_X8_perform l b D z nx e34) (As := [.ref a1, .int (2 : Int32), .int t0]) rfl rfl (Nat.le_of_ble_eq_true rfl) ⟨(Nat.le_of_ble_eq_true rfl), (Nat.le_of_ble_eq_true rfl)⟩ ⟨rfl, rfl⟩ ⟨(Nat.le_of_ble_eq_true rfl), (Nat.le_of_ble_eq_true rfl)⟩ dX8_drawDeed_125 ?_
      refine g_pop dX8_drawDeed_128 rfl ?_
      refine g_goto 144 dX8_drawDeed_129 (by decide) ?_
      cases hF
      exact g_vret dX8_drawDeed_144 rfl ⟨rfl, rfl, rfl⟩ (Nat.le_of_ble_eq_true rfl) (Nat.le_of_ble_eq_true rfl)
    · replace hF := q_f c30 hF
      refine g_iconst dX8_drawDeed_119 lt_iconst_1 ?_
      refine g_goto 124 dX8_drawDeed_120 (by decide) ?_
      refine g_iload_n 0 dX8_drawDeed_124 rfl ?_
      obtain ⟨u35, e36, hF⟩ := q_bind hF
      obtain ⟨x37, e38, hF⟩ := q_bind hF
      refine g_callVr0 (ci := 8) (q := (RX8, TX8, 11)) qm_X8_perform wd_915 wd_917 wd_25 rfl e36 (M_X8_perform l b D z nx e38) (As := [.ref a1, .int (1 : Int32), .int t0]) rfl rfl (Nat.le_of_ble_eq_true rfl) ⟨(Nat.le_of_ble_eq_true rfl), (Nat.le_of_ble_eq_true rfl)⟩ ⟨rfl, rfl⟩ ⟨(Nat.le_of_ble_eq_true rfl), (Nat.le_of_ble_eq_true rfl)⟩ dX8_drawDeed_125 ?_
      refine g_pop dX8_drawDeed_128 rfl ?_
      refine g_goto 144 dX8_drawDeed_129 (by decide) ?_
      cases hF
      exact g_vret dX8_drawDeed_144 rfl ⟨rfl, rfl, rfl⟩ (Nat.le_of_ble_eq_true rfl) (Nat.le_of_ble_eq_true rfl)
  replace hF := q_f c25 hF
  refine g_tabOut 132 dX8_drawDeed_25 ?_ (by decide) ?_
  · have t0 := lv_neT (a := 3) c1 (by decide); have t1 := lv_neT (a := 4) c10 (by decide); have t2 := lv_neT (a := 5) c15 (by decide); have t3 := lv_neT (a := 6) c20 (by decide); have t4 := lv_neT (a := 7) c25 (by decide); omega
  refine g_aload_n 1 dX8_drawDeed_132 rfl ?_
  refine g_aload_n 2 dX8_drawDeed_133 rfl ?_
  refine g_iconst dX8_drawDeed_134 lt_iconst_0 ?_
  refine g_aload_n 1 dX8_drawDeed_135 rfl ?_
  refine g_aload_n 2 dX8_drawDeed_136 rfl ?_
  obtain ⟨u39, e40, hF⟩ := q_bind hF
  obtain ⟨x41, e42, hF⟩ := q_bind hF
  refine g_callVr0 (ci := 8) (q := (RX8, TX8, 11)) qm_X8_due wd_923 wd_925 wd_27 rfl e40 (M_X8_due l b D z nx e42) (As := [.ref a1]) rfl rfl (Nat.le_of_ble_eq_true rfl) ⟨(Nat.le_of_ble_eq_true rfl), (Nat.le_of_ble_eq_true rfl)⟩ ⟨rfl, rfl⟩ ⟨(Nat.le_of_ble_eq_true rfl), (Nat.le_of_ble_eq_true rfl)⟩ dX8_drawDeed_137 ?_
  obtain ⟨u43, e44, hF⟩ := q_bind hF
  obtain ⟨x45, e46, hF⟩ := q_bind hF
  refine g_callVr0 (ci := 8) (q := (RX8, TX8, 11)) qm_X8_perform wd_915 wd_917 wd_25 rfl e44 (M_X8_perform l b D z nx e46) (As := [.ref a1, .int (0 : Int32), .int x41]) rfl rfl (Nat.le_of_ble_eq_true rfl) ⟨(Nat.le_of_ble_eq_true rfl), (Nat.le_of_ble_eq_true rfl)⟩ ⟨rfl, rfl⟩ ⟨(Nat.le_of_ble_eq_true rfl), (Nat.le_of_ble_eq_true rfl)⟩ dX8_drawDeed_140 ?_
  refine g_pop dX8_drawDeed_143 rfl ?_
  cases hF
  exact g_vret dX8_drawDeed_144 rfl ⟨rfl, rfl, rfl⟩ (Nat.le_of_ble_eq_true rfl) (Nat.le_of_ble_eq_true rfl)
set_option maxRecDepth 100000 in
set_option maxHeartbeats 4000000 in
theorem M_X8_drawDeed (l : Launch) (b : Nat) (D : va_G) (z : Nat → Nat) (nx : Nat) {h : qH} {a0 : Nat} {a1 : Nat} {r : qH} (hF : F_X8_drawDeed h a0 a1 = some r) : Me l b D z yX8_drawDeed cX8_drawDeed 4 none rm_X8_drawDeed [.ref a0, .ref a1] h nx (qE none r nx) := by
  refine Me.of (by decide +kernel) (Nat.le_of_ble_eq_true rfl) ?_
  show Go l b D z yX8_drawDeed cX8_drawDeed 4 none rm_X8_drawDeed (qE none r nx) 0 [(0, .ref a0), (1, .ref a1)] [] h nx 0 0
  unfold F_X8_drawDeed at hF
  refine g_aload_n 0 dX8_drawDeed_0 rfl ?_
  refine g_bipush dX8_drawDeed_1 lt_bipush_8 ?_
  obtain ⟨u1, e2, hF⟩ := q_bind hF
  obtain ⟨x3, e4, hF⟩ := q_bind hF
  refine g_callVr0 (ci := 8) (q := (RX8, TX8, 11)) qm_X8_draw wd_1302 wd_1304 wd_70 rfl e2 (M_X8_draw l b D z nx e4) (As := [.int (8 : Int32)]) rfl rfl (Nat.le_of_ble_eq_true rfl) ⟨(Nat.le_of_ble_eq_true rfl), (Nat.le_of_ble_eq_true rfl)⟩ ⟨rfl, rfl⟩ ⟨(Nat.le_of_ble_eq_true rfl), (Nat.le_of_ble_eq_true rfl)⟩ dX8_drawDeed_3 ?_
  refine g_istore_n [(2, .int x3.1), (0, .ref a0), (1, .ref a1)] dX8_drawDeed_6 (Nat.le_of_ble_eq_true rfl) rfl ?_
  refine g_iload_n 0 dX8_drawDeed_7 rfl ?_
  refine g_bipush dX8_drawDeed_8 lt_bipush_7 ?_
  refine g_icmp_ne 22 dX8_drawDeed_10 (by decide) (fun c5 => ?_) (fun c5 => ?_)
  · replace hF := q_f c5 hF
    refine g_iconst dX8_drawDeed_22 lt_iconst_m1 ?_
    refine g_sub [1, 2, 0] rfl ?_
    exact J_X8_drawDeed_23 l b D z hF
  · replace hF := q_t c5 hF
    refine g_aload_n 1 dX8_drawDeed_13 rfl ?_
    refine g_bipush dX8_drawDeed_14 lt_bipush_6 ?_
    obtain ⟨u6, e7, hF⟩ := q_bind hF
    obtain ⟨x8, e9, hF⟩ := q_bind hF
    refine g_callVr0 (ci := 8) (q := (RX8, TX8, 11)) qm_X8_draw wd_1302 wd_1304 wd_70 rfl e7 (M_X8_draw l b D z nx e9) (As := [.int (6 : Int32)]) rfl rfl (Nat.le_of_ble_eq_true rfl) ⟨(Nat.le_of_ble_eq_true rfl), (Nat.le_of_ble_eq_true rfl)⟩ ⟨rfl, rfl⟩ ⟨(Nat.le_of_ble_eq_true rfl), (Nat.le_of_ble_eq_true rfl)⟩ dX8_drawDeed_16 ?_
    refine g_goto 23 dX8_drawDeed_19 (by decide) ?_
    refine g_sub [1, 2, 0] rfl ?_
    exact J_X8_drawDeed_23 l b D z hF
def rm_X8_playDrawn : Room := { frames := 5, cells := 0, slots := 0, locals := 115 }
set_option maxRecDepth 100000 in
set_option maxHeartbeats 4000000 in
theorem B_X8_playDrawn_12 (l : Launch) (b : Nat) (D : va_G) (z : Nat → Nat) {Φ : Option Value → qH → Nat → Prop} {nx : Nat} {a0 : Nat} {a1 : Nat} {a3 : Int32} {a4 : Int32} {h : qH} {o : (Int32 × qH) ⊕ qH} (hF : b_X8_playDrawn_12 a0 a1 a3 a4 h = some o) (hback : ∀ (b4 : Int32) (bh : qH), o = .inl (b4, bh) → Go l b D z yX8_playDrawn cX8_playDrawn 5 none rm_X8_playDrawn Φ 12 [(0, .ref a0), (1, .ref a1), (3, .int a3), (4, .int b4)] [] bh nx 0 0) (hx0 : ∀  (bh : qH), o = .inr bh → Go l b D z yX8_playDrawn cX8_playDrawn 5 none rm_X8_playDrawn Φ 29 [] [] bh nx 0 0) : Go l b D z yX8_playDrawn cX8_playDrawn 5 none rm_X8_playDrawn Φ 12 [(0, .ref a0), (1, .ref a1), (3, .int a3), (4, .int a4)] [] h nx 0 0 := by
  unfold b_X8_playDrawn_12 at hF
  refine g_iload 3 dX8_playDrawn_12 rfl ?_
  refine g_iload_n 2 dX8_playDrawn_14 rfl ?_
  refine g_icmp_ge 29 dX8_playDrawn_15 (by decide) (fun c1 => ?_) (fun c1 => ?_)
  · replace hF := q_t c1 hF
    cases hF
    refine g_sub [] rfl ?_
    exact hx0 _ rfl
  · replace hF := q_f c1 hF
    refine g_aload_n 0 dX8_playDrawn_18 rfl ?_
    refine g_aload_n 1 dX8_playDrawn_19 rfl ?_
    obtain ⟨u2, e3, hF⟩ := q_bind hF
    obtain ⟨x4, e5, hF⟩ := q_bind hF
    refine g_callVv0 (ci := 8) (q := (RX8, TX8, 11)) qm_X8_drawDeed wd_1298 wd_1300 wd_69 rfl e3 (M_X8_drawDeed l b D z nx e5) (As := [.ref a1]) rfl rfl (Nat.le_of_ble_eq_true rfl) ⟨(Nat.le_of_ble_eq_true rfl), (Nat.le_of_ble_eq_true rfl)⟩ ⟨rfl, rfl⟩ ⟨(Nat.le_of_ble_eq_true rfl), (Nat.le_of_ble_eq_true rfl)⟩ dX8_playDrawn_20 ?_
    refine g_iinc [(4, .int (a4 + 1)), (0, .ref a0), (1, .ref a1), (3, .int a3)] 3 dX8_playDrawn_23 rfl (congrArg (a4 + ·) lt_iconst_1) (Nat.le_of_ble_eq_true rfl) rfl ?_
    refine g_goto 12 dX8_playDrawn_26 (by decide) ?_
    cases hF
    refine g_sub [1, 2, 3, 0] rfl ?_
    exact hback _ _ rfl
set_option maxRecDepth 100000 in
set_option maxHeartbeats 4000000 in
theorem L_X8_playDrawn_12 (l : Launch) (b : Nat) (D : va_G) (z : Nat → Nat) {Φ : Option Value → qH → Nat → Prop} {nx : Nat} {a0 : Nat} {a1 : Nat} {a3 : Int32} : ∀ (n : Nat) (a4 : Int32) (h : qH) (e : qH), q_lp (s_X8_playDrawn_12 a0 a1 a3) n (a4, h) = some e → (∀  (bh : qH), e = bh → Go l b D z yX8_playDrawn cX8_playDrawn 5 none rm_X8_playDrawn Φ 29 [] [] bh nx 0 0) → Go l b D z yX8_playDrawn cX8_playDrawn 5 none rm_X8_playDrawn Φ 12 [(0, .ref a0), (1, .ref a1), (3, .int a3), (4, .int a4)] [] h nx 0 0 := by
  intro n
  induction n with
  | zero => intro a4 h e he; cases (show none = some e from he)
  | succ n ih =>
    intro a4 h e he hx0
    obtain ⟨o, ho, h1, h2⟩ := q_lp_succ he
    exact B_X8_playDrawn_12 l b D z (show b_X8_playDrawn_12 a0 a1 a3 a4 h = some o from ho) (fun b4 bh hb => ih _ _ e (h1 _ hb) hx0) (fun p0 hr => hx0 p0 (h2 _ hr).symm)
set_option maxRecDepth 100000 in
set_option maxHeartbeats 4000000 in
theorem M_X8_playDrawn (l : Launch) (b : Nat) (D : va_G) (z : Nat → Nat) (nx : Nat) {h : qH} {a0 : Nat} {a1 : Nat} {a2 : Int32} {a3 : Int32} {r : qH} (hF : F_X8_playDrawn h a0 a1 a2 a3 = some r) : Me l b D z yX8_playDrawn cX8_playDrawn 5 none rm_X8_playDrawn [.ref a0, .ref a1, .int a2, .int a3] h nx (qE none r nx) := by
  refine Me.of (by decide +kernel) (Nat.le_of_ble_eq_true rfl) ?_
  show Go l b D z yX8_playDrawn cX8_playDrawn 5 none rm_X8_playDrawn (qE none r nx) 0 [(0, .ref a0), (1, .ref a1), (2, .int a2), (3, .int a3)] [] h nx 0 0
  unfold F_X8_playDrawn at hF
  refine g_aload_n 0 dX8_playDrawn_0 rfl ?_
  obtain ⟨u1, e2, hF⟩ := q_bind hF
  obtain ⟨x3, e4, hF⟩ := q_bind hF
  refine g_callVv0 (ci := 8) (q := (RX8, TX8, 11)) qm_X8_begin wd_909 wd_911 wd_24 rfl e2 (M_X8_begin l b D z nx e4) (As := []) rfl rfl (Nat.le_of_ble_eq_true rfl) ⟨(Nat.le_of_ble_eq_true rfl), (Nat.le_of_ble_eq_true rfl)⟩ ⟨rfl, rfl⟩ ⟨(Nat.le_of_ble_eq_true rfl), (Nat.le_of_ble_eq_true rfl)⟩ dX8_playDrawn_1 ?_
  refine g_aload_n 0 dX8_playDrawn_4 rfl ?_
  refine g_iload_n 2 dX8_playDrawn_5 rfl ?_
  obtain ⟨h5, e6, hF⟩ := q_bind hF
  refine g_putf fl_X8_76 e6 rfl rfl dX8_playDrawn_6 ?_
  refine g_iconst dX8_playDrawn_9 lt_iconst_0 ?_
  refine g_istore [(4, .int (0 : Int32)), (0, .ref a0), (1, .ref a1), (2, .int a2), (3, .int a3)] dX8_playDrawn_10 (Nat.le_of_ble_eq_true rfl) rfl ?_
  obtain ⟨e7, w8, hF⟩ := q_bind hF
  refine g_sub [1, 2, 4, 0] rfl ?_
  refine L_X8_playDrawn_12 l b D z q_N (0 : Int32) h5 e7 w8 ?_
  · intro h9 w10
    replace w10 := w10.symm
    subst w10
    cases hF
    exact g_vret dX8_playDrawn_29 rfl ⟨rfl, rfl, rfl⟩ (Nat.le_of_ble_eq_true rfl) (Nat.le_of_ble_eq_true rfl)
