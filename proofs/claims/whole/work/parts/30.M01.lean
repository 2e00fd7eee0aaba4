def rm_X2_at : Room := { frames := 0, cells := 0, slots := 0, locals := 0 }
set_option maxRecDepth 100000 in
set_option maxHeartbeats 4000000 in
theorem M_X2_at (l : Launch) (b : Nat) (D : va_G) (z : Nat → Nat) (nx : Nat) {h : qH} {a0 : Nat} {a1 : Int32} {a2 : Int32} {r : Int64} (hF : F_X2_at h a0 a1 a2 = some r) : Me l b D z yX2_at cX2_at 4 (some .long) rm_X2_at [.ref a0, .int a1, .int a2] h nx (qE (some (.long r)) h nx) := by
  refine Me.of (by decide +kernel) (Nat.le_of_ble_eq_true rfl) ?_
  show Go l b D z yX2_at cX2_at 4 (some .long) rm_X2_at (qE (some (.long r)) h nx) 0 [(0, .ref a0), (1, .int a1), (2, .int a2)] [] h nx 0 0
  unfold F_X2_at at hF
  refine g_iload_n 1 dX2_at_0 rfl ?_
  refine g_bipush dX2_at_1 lt_bipush_20 ?_
  refine g_imul dX2_at_3 ?_
  refine g_iload_n 2 dX2_at_4 rfl ?_
  refine g_iadd dX2_at_5 ?_
  refine g_istore_n [(3, .int ((a1 * (20 : Int32)) + a2)), (0, .ref a0), (1, .int a1), (2, .int a2)] dX2_at_6 (Nat.le_of_ble_eq_true rfl) rfl ?_
  refine g_iload_n 3 dX2_at_7 rfl ?_
  refine g_if_lt 33 dX2_at_8 (by decide) (fun c1 => ?_) (fun c1 => ?_)
  · replace hF := q_t c1 hF
    refine g_lconst (v := 0) dX2_at_33 (by decide +kernel) ?_
    cases hF
    exact g_lret dX2_at_34 rfl ⟨rfl, rfl, rfl⟩ (Nat.le_of_ble_eq_true rfl) (Nat.le_of_ble_eq_true rfl)
  · replace hF := q_f c1 hF
    refine g_iload_n 3 dX2_at_11 rfl ?_
    refine g_bipush dX2_at_12 lt_bipush_20 ?_
    refine g_icmp_ge 33 dX2_at_14 (by decide) (fun c2 => ?_) (fun c2 => ?_)
    · replace hF := q_t c2 hF
      refine g_lconst (v := 0) dX2_at_33 (by decide +kernel) ?_
      cases hF
      exact g_lret dX2_at_34 rfl ⟨rfl, rfl, rfl⟩ (Nat.le_of_ble_eq_true rfl) (Nat.le_of_ble_eq_true rfl)
    · replace hF := q_f c2 hF
      refine g_iload_n 0 dX2_at_17 rfl ?_
      refine g_if_lt 33 dX2_at_18 (by decide) (fun c3 => ?_) (fun c3 => ?_)
      · replace hF := q_t c3 hF
        refine g_lconst (v := 0) dX2_at_33 (by decide +kernel) ?_
        cases hF
        exact g_lret dX2_at_34 rfl ⟨rfl, rfl, rfl⟩ (Nat.le_of_ble_eq_true rfl) (Nat.le_of_ble_eq_true rfl)
      · replace hF := q_f c3 hF
        refine g_iload_n 0 dX2_at_21 rfl ?_
        refine g_aload_n 1 dX2_at_22 rfl ?_
        obtain ⟨x4, e5, hF⟩ := q_bind hF
        refine g_alen e5 dX2_at_23 ?_
        refine g_icmp_ge 33 dX2_at_24 (by decide) (fun c6 => ?_) (fun c6 => ?_)
        · replace hF := q_t c6 hF
          refine g_lconst (v := 0) dX2_at_33 (by decide +kernel) ?_
          cases hF
          exact g_lret dX2_at_34 rfl ⟨rfl, rfl, rfl⟩ (Nat.le_of_ble_eq_true rfl) (Nat.le_of_ble_eq_true rfl)
        · replace hF := q_f c6 hF
          refine g_aload_n 1 dX2_at_27 rfl ?_
          refine g_iload_n 0 dX2_at_28 rfl ?_
          obtain ⟨x7, e8, hF⟩ := q_bind hF
          refine g_lald e8 dX2_at_29 ?_
          refine g_goto 34 dX2_at_30 (by decide) ?_
          cases hF
          exact g_lret dX2_at_34 rfl ⟨rfl, rfl, rfl⟩ (Nat.le_of_ble_eq_true rfl) (Nat.le_of_ble_eq_true rfl)
def rm_X2_behind : Room := { frames := 1, cells := 0, slots := 0, locals := 23 }
set_option maxRecDepth 100000 in
set_option maxHeartbeats 4000000 in
theorem B_X2_behind_18 (l : Launch) (b : Nat) (D : va_G) (z : Nat → Nat) {Φ : Option Value → qH → Nat → Prop} {nx : Nat} {h : qH} {a0 : Nat} {a1 : Nat} {a3 : Int32} {a4 : Int32} {a5 : Int64} {a7 : Int32} {o : (Int64 × Int32) ⊕ Int64} (hF : b_X2_behind_18 h a0 a1 a3 a4 a5 a7 = some o) (hback : ∀ (b5 : Int64) (b7 : Int32), o = .inl (b5, b7) → Go l b D z yX2_behind cX2_behind 8 (some .long) rm_X2_behind Φ 18 [(0, .ref a0), (1, .ref a1), (3, .int a3), (4, .int a4), (5, .long b5), (7, .int b7)] [] h nx 0 0) (hx0 : ∀ (b5 : Int64), o = .inr b5 → Go l b D z yX2_behind cX2_behind 8 (some .long) rm_X2_behind Φ 58 [(5, .long b5)] [] h nx 0 0) : Go l b D z yX2_behind cX2_behind 8 (some .long) rm_X2_behind Φ 18 [(0, .ref a0), (1, .ref a1), (3, .int a3), (4, .int a4), (5, .long a5), (7, .int a7)] [] h nx 0 0 := by
  unfold b_X2_behind_18 at hF
  refine g_iload 5 dX2_behind_18 rfl ?_
  refine g_aload_n 1 dX2_behind_20 rfl ?_
  refine g_iload 3 dX2_behind_21 rfl ?_
  obtain ⟨u1, e2, hF⟩ := q_bind hF
  obtain ⟨x3, e4, hF⟩ := q_bind hF
  refine g_callVr0 (ci := 0) (q := (RX0, TX0, 15)) qm_X0_howManyFollow wd_1183 wd_791 wd_792 rfl e2 (M_X0_howManyFollow l b D z nx e4) (As := [.int a4]) rfl rfl (Nat.le_of_ble_eq_true rfl) ⟨(Nat.le_of_ble_eq_true rfl), (Nat.le_of_ble_eq_true rfl)⟩ ⟨rfl, rfl⟩ ⟨(Nat.le_of_ble_eq_true rfl), (Nat.le_of_ble_eq_true rfl)⟩ dX2_behind_23 ?_
  refine g_icmp_ge 58 dX2_behind_26 (by decide) (fun c5 => ?_) (fun c5 => ?_)
  · replace hF := q_t c5 hF
    cases hF
    refine g_sub [4] rfl ?_
    exact hx0 _ rfl
  · replace hF := q_f c5 hF
    refine g_lload 4 dX2_behind_29 rfl ?_
    refine g_aload_n 0 dX2_behind_31 rfl ?_
    obtain ⟨x6, e7, hF⟩ := q_bind hF
    refine g_getfR fl_X2_15 e7 dX2_behind_32 ?_
    refine g_iload_n 2 dX2_behind_35 rfl ?_
    refine g_iconst dX2_behind_36 lt_iconst_1 ?_
    refine g_iadd dX2_behind_37 ?_
    refine g_aload_n 1 dX2_behind_38 rfl ?_
    refine g_iload 3 dX2_behind_39 rfl ?_
    refine g_iload 5 dX2_behind_41 rfl ?_
    obtain ⟨u8, e9, hF⟩ := q_bind hF
    obtain ⟨x10, e11, hF⟩ := q_bind hF
    refine g_callVr0 (ci := 0) (q := (RX0, TX0, 15)) qm_X0_following wd_1184 wd_795 wd_796 rfl e9 (M_X0_following l b D z nx e11) (As := [.int a4, .int a7]) rfl rfl (Nat.le_of_ble_eq_true rfl) ⟨(Nat.le_of_ble_eq_true rfl), (Nat.le_of_ble_eq_true rfl)⟩ ⟨rfl, rfl⟩ ⟨(Nat.le_of_ble_eq_true rfl), (Nat.le_of_ble_eq_true rfl)⟩ dX2_behind_43 ?_
    obtain ⟨x12, e13, hF⟩ := q_bind hF
    refine g_callSr0 qm_X2_at wd_1185 wd_1186 (M_X2_at l b D z nx e13) (As := [.ref x6, .int (a3 + (1 : Int32)), .int x10]) rfl rfl (Nat.le_of_ble_eq_true rfl) ⟨(Nat.le_of_ble_eq_true rfl), (Nat.le_of_ble_eq_true rfl)⟩ ⟨rfl, rfl⟩ ⟨(Nat.le_of_ble_eq_true rfl), (Nat.le_of_ble_eq_true rfl)⟩ dX2_behind_46 ?_
    refine g_ladd dX2_behind_49 ?_
    refine g_lstore [(5, .long (a5 + x12)), (0, .ref a0), (1, .ref a1), (3, .int a3), (4, .int a4), (7, .int a7)] dX2_behind_50 (Nat.le_of_ble_eq_true rfl) rfl ?_
    refine g_iinc [(7, .int (a7 + 1)), (5, .long (a5 + x12)), (0, .ref a0), (1, .ref a1), (3, .int a3), (4, .int a4)] 5 dX2_behind_52 rfl (congrArg (a7 + ·) lt_iconst_1) (Nat.le_of_ble_eq_true rfl) rfl ?_
    refine g_goto 18 dX2_behind_55 (by decide) ?_
    cases hF
    refine g_sub [2, 3, 4, 5, 1, 0] rfl ?_
    exact hback _ _ rfl
set_option maxRecDepth 100000 in
set_option maxHeartbeats 4000000 in
theorem L_X2_behind_18 (l : Launch) (b : Nat) (D : va_G) (z : Nat → Nat) {Φ : Option Value → qH → Nat → Prop} {nx : Nat} {h : qH} {a0 : Nat} {a1 : Nat} {a3 : Int32} {a4 : Int32} : ∀ (n : Nat) (a5 : Int64) (a7 : Int32) (e : Int64), q_lp (s_X2_behind_18 h a0 a1 a3 a4) n (a5, a7) = some e → (∀ (b5 : Int64), e = b5 → Go l b D z yX2_behind cX2_behind 8 (some .long) rm_X2_behind Φ 58 [(5, .long b5)] [] h nx 0 0) → Go l b D z yX2_behind cX2_behind 8 (some .long) rm_X2_behind Φ 18 [(0, .ref a0), (1, .ref a1), (3, .int a3), (4, .int a4), (5, .long a5), (7, .int a7)] [] h nx 0 0 := by
  intro n
  induction n with
  | zero => intro a5 a7 e he; cases (show none = some e from he)
  | succ n ih =>
    intro a5 a7 e he hx0
    obtain ⟨o, ho, h1, h2⟩ := q_lp_succ he
    exact B_X2_behind_18 l b D z (show b_X2_behind_18 h a0 a1 a3 a4 a5 a7 = some o from ho) (fun b5 b7 hb => ih _ _ e (h1 _ hb) hx0) (fun p0 hr => hx0 p0 (h2 _ hr).symm)
set_option maxRecDepth 100000 in
set_option maxHeartbeats 4000000 in
theorem M_X2_behind (l : Launch) (b : Nat) (D : va_G) (z : Nat → Nat) (nx : Nat) {h : qH} {a0 : Nat} {a1 : Nat} {a2 : Nat} {a3 : Int32} {a4 : Int32} {r : Int64} (hF : F_X2_behind h a0 a1 a2 a3 a4 = some r) : Me l b D z yX2_behind cX2_behind 8 (some .long) rm_X2_behind [.ref a0, .ref a1, .ref a2, .int a3, .int a4] h nx (qE (some (.long r)) h nx) := by
  refine Me.of (by decide +kernel) (Nat.le_of_ble_eq_true rfl) ?_
  show Go l b D z yX2_behind cX2_behind 8 (some .long) rm_X2_behind (qE (some (.long r)) h nx) 0 [(0, .ref a0), (1, .ref a1), (2, .ref a2), (3, .int a3), (4, .int a4)] [] h nx 0 0
  unfold F_X2_behind at hF
  refine g_iload_n 3 dX2_behind_0 rfl ?_
  refine g_aload_n 2 dX2_behind_1 rfl ?_
  obtain ⟨x1, e2, hF⟩ := q_bind hF
  refine g_getfI fl_X2_30 e2 dX2_behind_2 ?_
  refine g_iconst dX2_behind_5 lt_iconst_1 ?_
  refine g_isub dX2_behind_6 ?_
  refine g_icmp_ne 12 dX2_behind_7 (by decide) (fun c3 => ?_) (fun c3 => ?_)
  · replace hF := q_f c3 hF
    refine g_lconst (v := 0) dX2_behind_12 (by decide +kernel) ?_
    refine g_lstore [(5, .long (0 : Int64)), (0, .ref a0), (1, .ref a1), (2, .ref a2), (3, .int a3), (4, .int a4)] dX2_behind_13 (Nat.le_of_ble_eq_true rfl) rfl ?_
    refine g_iconst dX2_behind_15 lt_iconst_0 ?_
    refine g_istore [(7, .int (0 : Int32)), (5, .long (0 : Int64)), (0, .ref a0), (1, .ref a1), (2, .ref a2), (3, .int a3), (4, .int a4)] dX2_behind_16 (Nat.le_of_ble_eq_true rfl) rfl ?_
    obtain ⟨e4, w5, hF⟩ := q_bind hF
    refine g_sub [2, 3, 5, 6, 1, 0] rfl ?_
    refine L_X2_behind_18 l b D z q_N (0 : Int64) (0 : Int32) e4 w5 ?_
    · intro o6 w7
      replace w7 := w7.symm
      subst w7
      refine g_lload 0 dX2_behind_58 rfl ?_
      cases hF
      exact g_lret dX2_behind_60 rfl ⟨rfl, rfl, rfl⟩ (Nat.le_of_ble_eq_true rfl) (Nat.le_of_ble_eq_true rfl)
  · replace hF := q_t c3 hF
    refine g_lconst (v := 1) dX2_behind_10 (by decide +kernel) ?_
    cases hF
    exact g_lret dX2_behind_11 rfl ⟨rfl, rfl, rfl⟩ (Nat.le_of_ble_eq_true rfl) (Nat.le_of_ble_eq_true rfl)
def rm_J9_min_7cf53 : Room := { frames := 0, cells := 0, slots := 0, locals := 0 }
set_option maxRecDepth 100000 in
set_option maxHeartbeats 4000000 in
theorem M_J9_min_7cf53 (l : Launch) (b : Nat) (D : va_G) (z : Nat → Nat) (nx : Nat) {h : qH} {a0 : Int32} {a1 : Int32} {r : Int32} (hF : F_J9_min_7cf53 h a0 a1 = some r) : Me l b D z yJ9_min_7cf53 cJ9_min_7cf53 2 (some .int) rm_J9_min_7cf53 [.int a0, .int a1] h nx (qE (some (.int r)) h nx) := by
  refine Me.ofF (by decide +kernel) (Nat.le_of_ble_eq_true rfl) ?_
  show Go l b D z yJ9_min_7cf53 cJ9_min_7cf53 2 (some .int) rm_J9_min_7cf53 (qE (some (.int r)) h nx) 0 [(0, .int a0), (1, .int a1)] [] h nx 0 0
  unfold F_J9_min_7cf53 at hF
  refine g_iload_n 0 dJ9_min_7cf53_0 rfl ?_
  refine g_iload_n 1 dJ9_min_7cf53_1 rfl ?_
  refine g_icmp_gt 9 dJ9_min_7cf53_2 (by decide) (fun c1 => ?_) (fun c1 => ?_)
  · replace hF := q_t c1 hF
    refine g_iload_n 1 dJ9_min_7cf53_9 rfl ?_
    cases hF
    exact g_iret dJ9_min_7cf53_10 rfl ⟨rfl, rfl, rfl⟩ (Nat.le_of_ble_eq_true rfl) (Nat.le_of_ble_eq_true rfl)
  · replace hF := q_f c1 hF
    refine g_iload_n 0 dJ9_min_7cf53_5 rfl ?_
    refine g_goto 10 dJ9_min_7cf53_6 (by decide) ?_
    cases hF
    exact g_iret dJ9_min_7cf53_10 rfl ⟨rfl, rfl, rfl⟩ (Nat.le_of_ble_eq_true rfl) (Nat.le_of_ble_eq_true rfl)
def rm_X2_fewestBehind : Room := { frames := 3, cells := 0, slots := 0, locals := 65 }
set_option maxRecDepth 100000 in
set_option maxHeartbeats 4000000 in
theorem B_X2_fewestBehind_19 (l : Launch) (b : Nat) (D : va_G) (z : Nat → Nat) {Φ : Option Value → qH → Nat → Prop} {nx : Nat} {h : qH} {a0 : Nat} {a1 : Nat} {a3 : Int32} {a4 : Int32} {a5 : Int32} {a6 : Int32} {o : (Int32 × Int32) ⊕ Int32} (hF : b_X2_fewestBehind_19 h a0 a1 a3 a4 a5 a6 = some o) (hback : ∀ (b5 : Int32) (b6 : Int32), o = .inl (b5, b6) → Go l b D z yX2_fewestBehind cX2_fewestBehind 9 (some .int) rm_X2_fewestBehind Φ 19 [(0, .ref a0), (1, .ref a1), (3, .int a3), (4, .int a4), (5, .int b5), (6, .int b6)] [] h nx 0 0) (hx0 : ∀ (b5 : Int32), o = .inr b5 → Go l b D z yX2_fewestBehind cX2_fewestBehind 9 (some .int) rm_X2_fewestBehind Φ 93 [(5, .int b5)] [] h nx 0 0) : Go l b D z yX2_fewestBehind cX2_fewestBehind 9 (some .int) rm_X2_fewestBehind Φ 19 [(0, .ref a0), (1, .ref a1), (3, .int a3), (4, .int a4), (5, .int a5), (6, .int a6)] [] h nx 0 0 := by
  unfold b_X2_fewestBehind_19 at hF
  refine g_iload 5 dX2_fewestBehind_19 rfl ?_
  refine g_aload_n 1 dX2_fewestBehind_21 rfl ?_
  refine g_iload 3 dX2_fewestBehind_22 rfl ?_
  obtain ⟨u1, e2, hF⟩ := q_bind hF
  obtain ⟨x3, e4, hF⟩ := q_bind hF
  refine g_callVr0 (ci := 0) (q := (RX0, TX0, 15)) qm_X0_howManyFollow wd_1183 wd_791 wd_792 rfl e2 (M_X0_howManyFollow l b D z nx e4) (As := [.int a4]) rfl rfl (Nat.le_of_ble_eq_true rfl) ⟨(Nat.le_of_ble_eq_true rfl), (Nat.le_of_ble_eq_true rfl)⟩ ⟨rfl, rfl⟩ ⟨(Nat.le_of_ble_eq_true rfl), (Nat.le_of_ble_eq_true rfl)⟩ dX2_fewestBehind_24 ?_
  refine g_icmp_ge 93 dX2_fewestBehind_27 (by decide) (fun c5 => ?_) (fun c5 => ?_)
  · replace hF := q_t c5 hF
    cases hF
    refine g_sub [4] rfl ?_
    exact hx0 _ rfl
  · replace hF := q_f c5 hF
    refine g_aload_n 1 dX2_fewestBehind_30 rfl ?_
    refine g_iload 3 dX2_fewestBehind_31 rfl ?_
    refine g_iload 5 dX2_fewestBehind_33 rfl ?_
    obtain ⟨u6, e7, hF⟩ := q_bind hF
    obtain ⟨x8, e9, hF⟩ := q_bind hF
    refine g_callVr0 (ci := 0) (q := (RX0, TX0, 15)) qm_X0_following wd_1184 wd_795 wd_796 rfl e7 (M_X0_following l b D z nx e9) (As := [.int a4, .int a6]) rfl rfl (Nat.le_of_ble_eq_true rfl) ⟨(Nat.le_of_ble_eq_true rfl), (Nat.le_of_ble_eq_true rfl)⟩ ⟨rfl, rfl⟩ ⟨(Nat.le_of_ble_eq_true rfl), (Nat.le_of_ble_eq_true rfl)⟩ dX2_fewestBehind_35 ?_
    refine g_istore [(7, .int x8), (0, .ref a0), (1, .ref a1), (3, .int a3), (4, .int a4), (5, .int a5), (6, .int a6)] dX2_fewestBehind_38 (Nat.le_of_ble_eq_true rfl) rfl ?_
    refine g_iload_n 3 dX2_fewestBehind_40 rfl ?_
    refine g_iconst dX2_fewestBehind_41 lt_iconst_1 ?_
    refine g_iadd dX2_fewestBehind_42 ?_
    refine g_bipush dX2_fewestBehind_43 lt_bipush_20 ?_
    refine g_imul dX2_fewestBehind_45 ?_
    refine g_iload 0 dX2_fewestBehind_46 rfl ?_
    refine g_iadd dX2_fewestBehind_48 ?_
    refine g_istore [(8, .int (((a3 + (1 : Int32)) * (20 : Int32)) + x8)), (7, .int x8), (0, .ref a0), (1, .ref a1), (3, .int a3), (4, .int a4), (5, .int a5), (6, .int a6)] dX2_fewestBehind_49 (Nat.le_of_ble_eq_true rfl) rfl ?_
    refine g_iload 0 dX2_fewestBehind_51 rfl ?_
    refine g_if_lt 87 dX2_fewestBehind_53 (by decide) (fun c10 => ?_) (fun c10 => ?_)
    · replace hF := q_t c10 hF
      refine g_iinc [(6, .int (a6 + 1)), (8, .int (((a3 + (1 : Int32)) * (20 : Int32)) + x8)), (7, .int x8), (0, .ref a0), (1, .ref a1), (3, .int a3), (4, .int a4), (5, .int a5)] 7 dX2_fewestBehind_87 rfl (congrArg (a6 + ·) lt_iconst_1) (Nat.le_of_ble_eq_true rfl) rfl ?_
      refine g_goto 19 dX2_fewestBehind_90 (by decide) ?_
      cases hF
      refine g_sub [3, 4, 5, 6, 7, 0] rfl ?_
      exact hback _ _ rfl
    · replace hF := q_f c10 hF
      refine g_iload 0 dX2_fewestBehind_56 rfl ?_
      refine g_sipush dX2_fewestBehind_58 lt_sipush_240 ?_
      refine g_icmp_ge 87 dX2_fewestBehind_61 (by decide) (fun c11 => ?_) (fun c11 => ?_)
      · replace hF := q_t c11 hF
        refine g_iinc [(6, .int (a6 + 1)), (8, .int (((a3 + (1 : Int32)) * (20 : Int32)) + x8)), (7, .int x8), (0, .ref a0), (1, .ref a1), (3, .int a3), (4, .int a4), (5, .int a5)] 7 dX2_fewestBehind_87 rfl (congrArg (a6 + ·) lt_iconst_1) (Nat.le_of_ble_eq_true rfl) rfl ?_
        refine g_goto 19 dX2_fewestBehind_90 (by decide) ?_
        cases hF
        refine g_sub [3, 4, 5, 6, 7, 0] rfl ?_
        exact hback _ _ rfl
      · replace hF := q_f c11 hF
        refine g_iload 6 dX2_fewestBehind_64 rfl ?_
        refine g_aload_n 2 dX2_fewestBehind_66 rfl ?_
        obtain ⟨x12, e13, hF⟩ := q_bind hF
        refine g_getfR fl_X2_22 e13 dX2_fewestBehind_67 ?_
        refine g_iload 0 dX2_fewestBehind_70 rfl ?_
        obtain ⟨x14, e15, hF⟩ := q_bind hF
        refine g_iald e15 dX2_fewestBehind_72 ?_
        refine g_aload_n 3 dX2_fewestBehind_73 rfl ?_
        refine g_iload 5 dX2_fewestBehind_74 rfl ?_
        refine g_iload 1 dX2_fewestBehind_76 rfl ?_
        obtain ⟨u16, e17, hF⟩ := q_bind hF
        obtain ⟨x18, e19, hF⟩ := q_bind hF
        refine g_callVr0 (ci := 0) (q := (RX0, TX0, 15)) qm_X0_strayingOf wd_1192 wd_1004 wd_1005 rfl e17 (M_X0_strayingOf l b D z nx e19) (As := [.int a4, .int x8]) rfl rfl (Nat.le_of_ble_eq_true rfl) ⟨(Nat.le_of_ble_eq_true rfl), (Nat.le_of_ble_eq_true rfl)⟩ ⟨rfl, rfl⟩ ⟨(Nat.le_of_ble_eq_true rfl), (Nat.le_of_ble_eq_true rfl)⟩ dX2_fewestBehind_78 ?_
        refine g_iadd dX2_fewestBehind_81 ?_
        obtain ⟨x20, e21, hF⟩ := q_bind hF
        refine g_callSr0 qm_J9_min_7cf53 wd_1193 wd_1008 (M_J9_min_7cf53 l b D z nx e21) (As := [.int a5, .int (x14 + x18)]) rfl rfl (Nat.le_of_ble_eq_true rfl) ⟨(Nat.le_of_ble_eq_true rfl), (Nat.le_of_ble_eq_true rfl)⟩ ⟨rfl, rfl⟩ ⟨(Nat.le_of_ble_eq_true rfl), (Nat.le_of_ble_eq_true rfl)⟩ dX2_fewestBehind_82 ?_
        refine g_istore [(5, .int x20), (8, .int (((a3 + (1 : Int32)) * (20 : Int32)) + x8)), (7, .int x8), (0, .ref a0), (1, .ref a1), (3, .int a3), (4, .int a4), (6, .int a6)] dX2_fewestBehind_85 (Nat.le_of_ble_eq_true rfl) rfl ?_
        refine g_iinc [(6, .int (a6 + 1)), (5, .int x20), (8, .int (((a3 + (1 : Int32)) * (20 : Int32)) + x8)), (7, .int x8), (0, .ref a0), (1, .ref a1), (3, .int a3), (4, .int a4)] 7 dX2_fewestBehind_87 rfl (congrArg (a6 + ·) lt_iconst_1) (Nat.le_of_ble_eq_true rfl) rfl ?_
        refine g_goto 19 dX2_fewestBehind_90 (by decide) ?_
        cases hF
        refine g_sub [4, 5, 6, 7, 1, 0] rfl ?_
        exact hback _ _ rfl
set_option maxRecDepth 100000 in
set_option maxHeartbeats 4000000 in
theorem L_X2_fewestBehind_19 (l : Launch) (b : Nat) (D : va_G) (z : Nat → Nat) {Φ : Option Value → qH → Nat → Prop} {nx : Nat} {h : qH} {a0 : Nat} {a1 : Nat} {a3 : Int32} {a4 : Int32} : ∀ (n : Nat) (a5 : Int32) (a6 : Int32) (e : Int32), q_lp (s_X2_fewestBehind_19 h a0 a1 a3 a4) n (a5, a6) = some e → (∀ (b5 : Int32), e = b5 → Go l b D z yX2_fewestBehind cX2_fewestBehind 9 (some .int) rm_X2_fewestBehind Φ 93 [(5, .int b5)] [] h nx 0 0) → Go l b D z yX2_fewestBehind cX2_fewestBehind 9 (some .int) rm_X2_fewestBehind Φ 19 [(0, .ref a0), (1, .ref a1), (3, .int a3), (4, .int a4), (5, .int a5), (6, .int a6)] [] h nx 0 0 := by
  intro n
  induction n with
  | zero => intro a5 a6 e he; cases (show none = some e from he)
  | succ n ih =>
    intro a5 a6 e he hx0
    obtain ⟨o, ho, h1, h2⟩ := q_lp_succ he
    exact B_X2_fewestBehind_19 l b D z (show b_X2_fewestBehind_19 h a0 a1 a3 a4 a5 a6 = some o from ho) (fun b5 b6 hb => ih _ _ e (h1 _ hb) hx0) (fun p0 hr => hx0 p0 (h2 _ hr).symm)
set_option maxRecDepth 100000 in
set_option maxHeartbeats 4000000 in
theorem M_X2_fewestBehind (l : Launch) (b : Nat) (D : va_G) (z : Nat → Nat) (nx : Nat) {h : qH} {a0 : Nat} {a1 : Nat} {a2 : Nat} {a3 : Int32} {a4 : Int32} {r : Int32} (hF : F_X2_fewestBehind h a0 a1 a2 a3 a4 = some r) : Me l b D z yX2_fewestBehind cX2_fewestBehind 9 (some .int) rm_X2_fewestBehind [.ref a0, .ref a1, .ref a2, .int a3, .int a4] h nx (qE (some (.int r)) h nx) := by
  refine Me.of (by decide +kernel) (Nat.le_of_ble_eq_true rfl) ?_
  show Go l b D z yX2_fewestBehind cX2_fewestBehind 9 (some .int) rm_X2_fewestBehind (qE (some (.int r)) h nx) 0 [(0, .ref a0), (1, .ref a1), (2, .ref a2), (3, .int a3), (4, .int a4)] [] h nx 0 0
  unfold F_X2_fewestBehind at hF
  refine g_iload_n 3 dX2_fewestBehind_0 rfl ?_
  refine g_aload_n 2 dX2_fewestBehind_1 rfl ?_
  obtain ⟨x1, e2, hF⟩ := q_bind hF
  refine g_getfI fl_X2_30 e2 dX2_fewestBehind_2 ?_
  refine g_iconst dX2_fewestBehind_5 lt_iconst_1 ?_
  refine g_isub dX2_fewestBehind_6 ?_
  refine g_icmp_ne 12 dX2_fewestBehind_7 (by decide) (fun c3 => ?_) (fun c3 => ?_)
  · replace hF := q_f c3 hF
    refine g_ldc dX2_fewestBehind_12 wd_1173 ?_
    refine g_istore [(5, .int (1000000 : Int32)), (0, .ref a0), (1, .ref a1), (2, .ref a2), (3, .int a3), (4, .int a4)] dX2_fewestBehind_14 (Nat.le_of_ble_eq_true rfl) rfl ?_
    refine g_iconst dX2_fewestBehind_16 lt_iconst_0 ?_
    refine g_istore [(6, .int (0 : Int32)), (5, .int (1000000 : Int32)), (0, .ref a0), (1, .ref a1), (2, .ref a2), (3, .int a3), (4, .int a4)] dX2_fewestBehind_17 (Nat.le_of_ble_eq_true rfl) rfl ?_
    obtain ⟨e4, w5, hF⟩ := q_bind hF
    refine g_sub [2, 3, 5, 6, 1, 0] rfl ?_
    refine L_X2_fewestBehind_19 l b D z q_N (1000000 : Int32) (0 : Int32) e4 w5 ?_
    · intro o6 w7
      replace w7 := w7.symm
      subst w7
      refine g_iload 0 dX2_fewestBehind_93 rfl ?_
      cases hF
      exact g_iret dX2_fewestBehind_95 rfl ⟨rfl, rfl, rfl⟩ (Nat.le_of_ble_eq_true rfl) (Nat.le_of_ble_eq_true rfl)
  · replace hF := q_t c3 hF
    refine g_iconst dX2_fewestBehind_10 lt_iconst_0 ?_
    cases hF
    exact g_iret dX2_fewestBehind_11 rfl ⟨rfl, rfl, rfl⟩ (Nat.le_of_ble_eq_true rfl) (Nat.le_of_ble_eq_true rfl)
def rm_X2_countFrom : Room := { frames := 4, cells := 0, slots := 0, locals := 93 }
set_option maxRecDepth 100000 in
set_option maxHeartbeats 4000000 in
theorem B_X2_countFrom_2 (l : Launch) (b : Nat) (D : va_G) (z : Nat → Nat) {Φ : Option Value → qH → Nat → Prop} {nx : Nat} {a0 : Nat} {a1 : Nat} {a2 : Nat} {a3 : Int32} {h : qH} {o : (Int32 × qH) ⊕ qH} (hF : b_X2_countFrom_2 a0 a1 a2 a3 h = some o) (hback : ∀ (b3 : Int32) (bh : qH), o = .inl (b3, bh) → Go l b D z yX2_countFrom cX2_countFrom 5 none rm_X2_countFrom Φ 2 [(0, .ref a0), (1, .ref a1), (2, .ref a2), (3, .int b3)] [] bh nx 0 0) (hx0 : ∀  (bh : qH), o = .inr bh → Go l b D z yX2_countFrom cX2_countFrom 5 none rm_X2_countFrom Φ 30 [(0, .ref a0), (1, .ref a1), (2, .ref a2)] [] bh nx 0 0) : Go l b D z yX2_countFrom cX2_countFrom 5 none rm_X2_countFrom Φ 2 [(0, .ref a0), (1, .ref a1), (2, .ref a2), (3, .int a3)] [] h nx 0 0 := by
  unfold b_X2_countFrom_2 at hF
  refine g_iload_n 3 dX2_countFrom_2 rfl ?_
  refine g_sipush dX2_countFrom_3 lt_sipush_240 ?_
  refine g_icmp_ge 30 dX2_countFrom_6 (by decide) (fun c1 => ?_) (fun c1 => ?_)
  · replace hF := q_t c1 hF
    cases hF
    refine g_sub [0, 1, 2] rfl ?_
    exact hx0 _ rfl
  · replace hF := q_f c1 hF
    refine g_aload_n 0 dX2_countFrom_9 rfl ?_
    obtain ⟨x2, e3, hF⟩ := q_bind hF
    refine g_getfR fl_X2_15 e3 dX2_countFrom_10 ?_
    refine g_iload_n 3 dX2_countFrom_13 rfl ?_
    refine g_lconst (v := 0) dX2_countFrom_14 (by decide +kernel) ?_
    obtain ⟨h4, e5, hF⟩ := q_bind hF
    refine g_last e5 dX2_countFrom_15 ?_
    refine g_aload_n 0 dX2_countFrom_16 rfl ?_
    obtain ⟨x6, e7, hF⟩ := q_bind hF
    refine g_getfR fl_X2_22 e7 dX2_countFrom_17 ?_
    refine g_iload_n 3 dX2_countFrom_20 rfl ?_
    refine g_ldc dX2_countFrom_21 wd_1173 ?_
    obtain ⟨h8, e9, hF⟩ := q_bind hF
    refine g_iast e9 dX2_countFrom_23 ?_
    refine g_iinc [(3, .int (a3 + 1)), (0, .ref a0), (1, .ref a1), (2, .ref a2)] 3 dX2_countFrom_24 rfl (congrArg (a3 + ·) lt_iconst_1) (Nat.le_of_ble_eq_true rfl) rfl ?_
    refine g_goto 2 dX2_countFrom_27 (by decide) ?_
    cases hF
    refine g_sub [1, 2, 3, 0] rfl ?_
    exact hback _ _ rfl
set_option maxRecDepth 100000 in
set_option maxHeartbeats 4000000 in
theorem L_X2_countFrom_2 (l : Launch) (b : Nat) (D : va_G) (z : Nat → Nat) {Φ : Option Value → qH → Nat → Prop} {nx : Nat} {a0 : Nat} {a1 : Nat} {a2 : Nat} : ∀ (n : Nat) (a3 : Int32) (h : qH) (e : qH), q_lp (s_X2_countFrom_2 a0 a1 a2) n (a3, h) = some e → (∀  (bh : qH), e = bh → Go l b D z yX2_countFrom cX2_countFrom 5 none rm_X2_countFrom Φ 30 [(0, .ref a0), (1, .ref a1), (2, .ref a2)] [] bh nx 0 0) → Go l b D z yX2_countFrom cX2_countFrom 5 none rm_X2_countFrom Φ 2 [(0, .ref a0), (1, .ref a1), (2, .ref a2), (3, .int a3)] [] h nx 0 0 := by
  intro n
  induction n with
  | zero => intro a3 h e he; cases (show none = some e from he)
  | succ n ih =>
    intro a3 h e he hx0
    obtain ⟨o, ho, h1, h2⟩ := q_lp_succ he
    exact B_X2_countFrom_2 l b D z (show b_X2_countFrom_2 a0 a1 a2 a3 h = some o from ho) (fun b3 bh hb => ih _ _ e (h1 _ hb) hx0) (fun p0 hr => hx0 p0 (h2 _ hr).symm)
set_option maxRecDepth 100000 in
set_option maxHeartbeats 4000000 in
theorem B_X2_countFrom_50 (l : Launch) (b : Nat) (D : va_G) (z : Nat → Nat) {Φ : Option Value → qH → Nat → Prop} {nx : Nat} {a0 : Nat} {a1 : Nat} {a2 : Nat} {a3 : Int32} {a4 : Int32} {h : qH} {o : (Int32 × qH) ⊕ qH} (hF : b_X2_countFrom_50 a0 a1 a2 a3 a4 h = some o) (hback : ∀ (b4 : Int32) (bh : qH), o = .inl (b4, bh) → Go l b D z yX2_countFrom cX2_countFrom 5 none rm_X2_countFrom Φ 50 [(0, .ref a0), (1, .ref a1), (2, .ref a2), (3, .int a3), (4, .int b4)] [] bh nx 0 0) (hx0 : ∀  (bh : qH), o = .inr bh → Go l b D z yX2_countFrom cX2_countFrom 5 none rm_X2_countFrom Φ 128 [(0, .ref a0), (1, .ref a1), (2, .ref a2), (3, .int a3)] [] bh nx 0 0) : Go l b D z yX2_countFrom cX2_countFrom 5 none rm_X2_countFrom Φ 50 [(0, .ref a0), (1, .ref a1), (2, .ref a2), (3, .int a3), (4, .int a4)] [] h nx 0 0 := by
  unfold b_X2_countFrom_50 at hF
  refine g_iload 4 dX2_countFrom_50 rfl ?_
  refine g_aload_n 1 dX2_countFrom_52 rfl ?_
  obtain ⟨x1, e2, hF⟩ := q_bind hF
  refine g_getfI fl_X2_59 e2 dX2_countFrom_53 ?_
  refine g_icmp_ge 128 dX2_countFrom_56 (by decide) (fun c3 => ?_) (fun c3 => ?_)
  · replace hF := q_t c3 hF
    cases hF
    refine g_sub [0, 1, 2, 3] rfl ?_
    exact hx0 _ rfl
  · replace hF := q_f c3 hF
    refine g_iload 4 dX2_countFrom_59 rfl ?_
    refine g_bipush dX2_countFrom_61 lt_bipush_20 ?_
    refine g_icmp_ge 128 dX2_countFrom_63 (by decide) (fun c4 => ?_) (fun c4 => ?_)
    · replace hF := q_t c4 hF
      cases hF
      refine g_sub [0, 1, 2, 3] rfl ?_
      exact hx0 _ rfl
    · replace hF := q_f c4 hF
      refine g_aload_n 2 dX2_countFrom_66 rfl ?_
      refine g_iload_n 3 dX2_countFrom_67 rfl ?_
      refine g_aload_n 1 dX2_countFrom_68 rfl ?_
      refine g_iload 4 dX2_countFrom_69 rfl ?_
      obtain ⟨u5, e6, hF⟩ := q_bind hF
      obtain ⟨x7, e8, hF⟩ := q_bind hF
      refine g_callVr0 (ci := 0) (q := (RX0, TX0, 15)) qm_X0_whoSays wd_1174 wd_931 wd_932 rfl e6 (M_X0_whoSays l b D z nx e8) (As := [.int a4]) rfl rfl (Nat.le_of_ble_eq_true rfl) ⟨(Nat.le_of_ble_eq_true rfl), (Nat.le_of_ble_eq_true rfl)⟩ ⟨rfl, rfl⟩ ⟨(Nat.le_of_ble_eq_true rfl), (Nat.le_of_ble_eq_true rfl)⟩ dX2_countFrom_71 ?_
      obtain ⟨u9, e10, hF⟩ := q_bind hF
      obtain ⟨x11, e12, hF⟩ := q_bind hF
      refine g_callVr0 (ci := 3) (q := (RX3, TX3, 2)) qm_X3_mayBe wd_1175 wd_1176 wd_1177 rfl e10 (M_X3_mayBe l b D z nx e12) (As := [.int a3, .int x7]) rfl rfl (Nat.le_of_ble_eq_true rfl) ⟨(Nat.le_of_ble_eq_true rfl), (Nat.le_of_ble_eq_true rfl)⟩ ⟨rfl, rfl⟩ ⟨(Nat.le_of_ble_eq_true rfl), (Nat.le_of_ble_eq_true rfl)⟩ dX2_countFrom_74 ?_
      refine g_if_eq 122 dX2_countFrom_77 (by decide) (fun c13 => ?_) (fun c13 => ?_)
      · replace hF := q_t c13 hF
        refine g_iinc [(4, .int (a4 + 1)), (0, .ref a0), (1, .ref a1), (2, .ref a2), (3, .int a3)] 4 dX2_countFrom_122 rfl (congrArg (a4 + ·) lt_iconst_1) (Nat.le_of_ble_eq_true rfl) rfl ?_
        refine g_goto 50 dX2_countFrom_125 (by decide) ?_
        cases hF
        refine g_sub [1, 2, 3, 4, 0] rfl ?_
        exact hback _ _ rfl
      · replace hF := q_f c13 hF
        refine g_aload_n 0 dX2_countFrom_80 rfl ?_
        obtain ⟨x14, e15, hF⟩ := q_bind hF
        refine g_getfR fl_X2_15 e15 dX2_countFrom_81 ?_
        refine g_iload_n 3 dX2_countFrom_84 rfl ?_
        refine g_bipush dX2_countFrom_85 lt_bipush_20 ?_
        refine g_imul dX2_countFrom_87 ?_
        refine g_iload 4 dX2_countFrom_88 rfl ?_
        refine g_iadd dX2_countFrom_90 ?_
        refine g_aload_n 0 dX2_countFrom_91 rfl ?_
        refine g_aload_n 1 dX2_countFrom_92 rfl ?_
        refine g_aload_n 2 dX2_countFrom_93 rfl ?_
        refine g_iload_n 3 dX2_countFrom_94 rfl ?_
        refine g_iload 4 dX2_countFrom_95 rfl ?_
        obtain ⟨u16, e17, hF⟩ := q_bind hF
        obtain ⟨x18, e19, hF⟩ := q_bind hF
        refine g_callVr0 (ci := 2) (q := (RX2, TX2, 3)) qm_X2_behind wd_1179 wd_1181 wd_50 rfl e17 (M_X2_behind l b D z nx e19) (As := [.ref a1, .ref a2, .int a3, .int a4]) rfl rfl (Nat.le_of_ble_eq_true rfl) ⟨(Nat.le_of_ble_eq_true rfl), (Nat.le_of_ble_eq_true rfl)⟩ ⟨rfl, rfl⟩ ⟨(Nat.le_of_ble_eq_true rfl), (Nat.le_of_ble_eq_true rfl)⟩ dX2_countFrom_97 ?_
        obtain ⟨h20, e21, hF⟩ := q_bind hF
        refine g_last e21 dX2_countFrom_100 ?_
        refine g_aload_n 0 dX2_countFrom_101 rfl ?_
        obtain ⟨x22, e23, hF⟩ := q_bind hF
        refine g_getfR fl_X2_22 e23 dX2_countFrom_102 ?_
        refine g_iload_n 3 dX2_countFrom_105 rfl ?_
        refine g_bipush dX2_countFrom_106 lt_bipush_20 ?_
        refine g_imul dX2_countFrom_108 ?_
        refine g_iload 4 dX2_countFrom_109 rfl ?_
        refine g_iadd dX2_countFrom_111 ?_
        refine g_aload_n 0 dX2_countFrom_112 rfl ?_
        refine g_aload_n 1 dX2_countFrom_113 rfl ?_
        refine g_aload_n 2 dX2_countFrom_114 rfl ?_
        refine g_iload_n 3 dX2_countFrom_115 rfl ?_
        refine g_iload 4 dX2_countFrom_116 rfl ?_
        obtain ⟨u24, e25, hF⟩ := q_bind hF
        obtain ⟨x26, e27, hF⟩ := q_bind hF
        refine g_callVr0 (ci := 2) (q := (RX2, TX2, 3)) qm_X2_fewestBehind wd_1188 wd_1190 wd_51 rfl e25 (M_X2_fewestBehind l b D z nx e27) (As := [.ref a1, .ref a2, .int a3, .int a4]) rfl rfl (Nat.le_of_ble_eq_true rfl) ⟨(Nat.le_of_ble_eq_true rfl), (Nat.le_of_ble_eq_true rfl)⟩ ⟨rfl, rfl⟩ ⟨(Nat.le_of_ble_eq_true rfl), (Nat.le_of_ble_eq_true rfl)⟩ dX2_countFrom_118 ?_
        obtain ⟨h28, e29, hF⟩ := q_bind hF
        refine g_iast e29 dX2_countFrom_121 ?_
        refine g_iinc [(4, .int (a4 + 1)), (0, .ref a0), (1, .ref a1), (2, .ref a2), (3, .int a3)] 4 dX2_countFrom_122 rfl (congrArg (a4 + ·) lt_iconst_1) (Nat.le_of_ble_eq_true rfl) rfl ?_
        refine g_goto 50 dX2_countFrom_125 (by decide) ?_
        cases hF
        refine g_sub [1, 2, 3, 4, 0] rfl ?_
        exact hback _ _ rfl
set_option maxRecDepth 100000 in
set_option maxHeartbeats 4000000 in
theorem L_X2_countFrom_50 (l : Launch) (b : Nat) (D : va_G) (z : Nat → Nat) {Φ : Option Value → qH → Nat → Prop} {nx : Nat} {a0 : Nat} {a1 : Nat} {a2 : Nat} {a3 : Int32} : ∀ (n : Nat) (a4 : Int32) (h : qH) (e : qH), q_lp (s_X2_countFrom_50 a0 a1 a2 a3) n (a4, h) = some e → (∀  (bh : qH), e = bh → Go l b D z yX2_countFrom cX2_countFrom 5 none rm_X2_countFrom Φ 128 [(0, .ref a0), (1, .ref a1), (2, .ref a2), (3, .int a3)] [] bh nx 0 0) → Go l b D z yX2_countFrom cX2_countFrom 5 none rm_X2_countFrom Φ 50 [(0, .ref a0), (1, .ref a1), (2, .ref a2), (3, .int a3), (4, .int a4)] [] h nx 0 0 := by
  intro n
  induction n with
  | zero => intro a4 h e he; cases (show none = some e from he)
  | succ n ih =>
    intro a4 h e he hx0
    obtain ⟨o, ho, h1, h2⟩ := q_lp_succ he
    exact B_X2_countFrom_50 l b D z (show b_X2_countFrom_50 a0 a1 a2 a3 a4 h = some o from ho) (fun b4 bh hb => ih _ _ e (h1 _ hb) hx0) (fun p0 hr => hx0 p0 (h2 _ hr).symm)
set_option maxRecDepth 100000 in
set_option maxHeartbeats 4000000 in
theorem B_X2_countFrom_37 (l : Launch) (b : Nat) (D : va_G) (z : Nat → Nat) {Φ : Option Value → qH → Nat → Prop} {nx : Nat} {a0 : Nat} {a1 : Nat} {a2 : Nat} {a3 : Int32} {h : qH} {o : (Int32 × qH) ⊕ qH} (hF : b_X2_countFrom_37 a0 a1 a2 a3 h = some o) (hback : ∀ (b3 : Int32) (bh : qH), o = .inl (b3, bh) → Go l b D z yX2_countFrom cX2_countFrom 5 none rm_X2_countFrom Φ 37 [(0, .ref a0), (1, .ref a1), (2, .ref a2), (3, .int b3)] [] bh nx 0 0) (hx0 : ∀  (bh : qH), o = .inr bh → Go l b D z yX2_countFrom cX2_countFrom 5 none rm_X2_countFrom Φ 134 [] [] bh nx 0 0) : Go l b D z yX2_countFrom cX2_countFrom 5 none rm_X2_countFrom Φ 37 [(0, .ref a0), (1, .ref a1), (2, .ref a2), (3, .int a3)] [] h nx 0 0 := by
  unfold b_X2_countFrom_37 at hF
  refine g_iload_n 3 dX2_countFrom_37 rfl ?_
  refine g_if_lt 134 dX2_countFrom_38 (by decide) (fun c1 => ?_) (fun c1 => ?_)
  · replace hF := q_t c1 hF
    cases hF
    refine g_sub [] rfl ?_
    exact hx0 _ rfl
  · replace hF := q_f c1 hF
    refine g_iload_n 3 dX2_countFrom_41 rfl ?_
    refine g_bipush dX2_countFrom_42 lt_bipush_12 ?_
    refine g_icmp_ge 134 dX2_countFrom_44 (by decide) (fun c2 => ?_) (fun c2 => ?_)
    · replace hF := q_t c2 hF
      cases hF
      refine g_sub [] rfl ?_
      exact hx0 _ rfl
    · replace hF := q_f c2 hF
      refine g_iconst dX2_countFrom_47 lt_iconst_0 ?_
      refine g_istore [(4, .int (0 : Int32)), (0, .ref a0), (1, .ref a1), (2, .ref a2), (3, .int a3)] dX2_countFrom_48 (Nat.le_of_ble_eq_true rfl) rfl ?_
      obtain ⟨e3, w4, hF⟩ := q_bind hF
      refine g_sub [1, 2, 3, 4, 0] rfl ?_
      refine L_X2_countFrom_50 l b D z q_N (0 : Int32) h e3 w4 ?_
      · intro h5 w6
        replace w6 := w6.symm
        subst w6
        refine g_iinc [(3, .int (a3 + (-1))), (0, .ref a0), (1, .ref a1), (2, .ref a2)] 3 dX2_countFrom_128 rfl (congrArg (a3 + ·) lt_iconst_m1) (Nat.le_of_ble_eq_true rfl) rfl ?_
        refine g_goto 37 dX2_countFrom_131 (by decide) ?_
        cases hF
        refine g_sub [1, 2, 3, 0] rfl ?_
        exact hback _ _ rfl
set_option maxRecDepth 100000 in
set_option maxHeartbeats 4000000 in
theorem L_X2_countFrom_37 (l : Launch) (b : Nat) (D : va_G) (z : Nat → Nat) {Φ : Option Value → qH → Nat → Prop} {nx : Nat} {a0 : Nat} {a1 : Nat} {a2 : Nat} : ∀ (n : Nat) (a3 : Int32) (h : qH) (e : qH), q_lp (s_X2_countFrom_37 a0 a1 a2) n (a3, h) = some e → (∀  (bh : qH), e = bh → Go l b D z yX2_countFrom cX2_countFrom 5 none rm_X2_countFrom Φ 134 [] [] bh nx 0 0) → Go l b D z yX2_countFrom cX2_countFrom 5 none rm_X2_countFrom Φ 37 [(0, .ref a0), (1, .ref a1), (2, .ref a2), (3, .int a3)] [] h nx 0 0 := by
  intro n
  induction n with
  | zero => intro a3 h e he; cases (show none = some e from he)
  | succ n ih =>
    intro a3 h e he hx0
    obtain ⟨o, ho, h1, h2⟩ := q_lp_succ he
    exact B_X2_countFrom_37 l b D z (show b_X2_countFrom_37 a0 a1 a2 a3 h = some o from ho) (fun b3 bh hb => ih _ _ e (h1 _ hb) hx0) (fun p0 hr => hx0 p0 (h2 _ hr).symm)
set_option maxRecDepth 100000 in
set_option maxHeartbeats 4000000 in
theorem M_X2_countFrom (l : Launch) (b : Nat) (D : va_G) (z : Nat → Nat) (nx : Nat) {h : qH} {a0 : Nat} {a1 : Nat} {a2 : Nat} {r : qH} (hF : F_X2_countFrom h a0 a1 a2 = some r) : Me l b D z yX2_countFrom cX2_countFrom 5 none rm_X2_countFrom [.ref a0, .ref a1, .ref a2] h nx (qE none r nx) := by
  refine Me.of (by decide +kernel) (Nat.le_of_ble_eq_true rfl) ?_
  show Go l b D z yX2_countFrom cX2_countFrom 5 none rm_X2_countFrom (qE none r nx) 0 [(0, .ref a0), (1, .ref a1), (2, .ref a2)] [] h nx 0 0
  unfold F_X2_countFrom at hF
  refine g_iconst dX2_countFrom_0 lt_iconst_0 ?_
  refine g_istore_n [(3, .int (0 : Int32)), (0, .ref a0), (1, .ref a1), (2, .ref a2)] dX2_countFrom_1 (Nat.le_of_ble_eq_true rfl) rfl ?_
  obtain ⟨e1, w2, hF⟩ := q_bind hF
  refine g_sub [1, 2, 3, 0] rfl ?_
  refine L_X2_countFrom_2 l b D z q_N (0 : Int32) h e1 w2 ?_
  · intro h3 w4
    replace w4 := w4.symm
    subst w4
    refine g_aload_n 2 dX2_countFrom_30 rfl ?_
    obtain ⟨x5, e6, hF⟩ := q_bind hF
    refine g_getfI fl_X2_30 e6 dX2_countFrom_31 ?_
    refine g_iconst dX2_countFrom_34 lt_iconst_1 ?_
    refine g_isub dX2_countFrom_35 ?_
    refine g_istore_n [(3, .int (x5 - (1 : Int32))), (0, .ref a0), (1, .ref a1), (2, .ref a2)] dX2_countFrom_36 (Nat.le_of_ble_eq_true rfl) rfl ?_
    obtain ⟨e7, w8, hF⟩ := q_bind hF
    refine g_sub [1, 2, 3, 0] rfl ?_
    refine L_X2_countFrom_37 l b D z q_N (x5 - (1 : Int32)) h3 e7 w8 ?_
    · intro h9 w10
      replace w10 := w10.symm
      subst w10
      cases hF
      exact g_vret dX2_countFrom_134 rfl ⟨rfl, rfl, rfl⟩ (Nat.le_of_ble_eq_true rfl) (Nat.le_of_ble_eq_true rfl)
def rm_X2_countUpTo : Room := { frames := 2, cells := 0, slots := 0, locals := 43 }
set_option maxRecDepth 100000 in
set_option maxHeartbeats 4000000 in
theorem B_X2_countUpTo_2 (l : Launch) (b : Nat) (D : va_G) (z : Nat → Nat) {Φ : Option Value → qH → Nat → Prop} {nx : Nat} {a0 : Nat} {a1 : Nat} {a2 : Nat} {a3 : Int32} {h : qH} {o : (Int32 × qH) ⊕ qH} (hF : b_X2_countUpTo_2 a0 a1 a2 a3 h = some o) (hback : ∀ (b3 : Int32) (bh : qH), o = .inl (b3, bh) → Go l b D z yX2_countUpTo cX2_countUpTo 7 none rm_X2_countUpTo Φ 2 [(0, .ref a0), (1, .ref a1), (2, .ref a2), (3, .int b3)] [] bh nx 0 0) (hx0 : ∀  (bh : qH), o = .inr bh → Go l b D z yX2_countUpTo cX2_countUpTo 7 none rm_X2_countUpTo Φ 22 [(0, .ref a0), (1, .ref a1), (2, .ref a2)] [] bh nx 0 0) : Go l b D z yX2_countUpTo cX2_countUpTo 7 none rm_X2_countUpTo Φ 2 [(0, .ref a0), (1, .ref a1), (2, .ref a2), (3, .int a3)] [] h nx 0 0 := by
  unfold b_X2_countUpTo_2 at hF
  refine g_iload_n 3 dX2_countUpTo_2 rfl ?_
  refine g_sipush dX2_countUpTo_3 lt_sipush_240 ?_
  refine g_icmp_ge 22 dX2_countUpTo_6 (by decide) (fun c1 => ?_) (fun c1 => ?_)
  · replace hF := q_t c1 hF
    cases hF
    refine g_sub [0, 1, 2] rfl ?_
    exact hx0 _ rfl
  · replace hF := q_f c1 hF
    refine g_aload_n 0 dX2_countUpTo_9 rfl ?_
    obtain ⟨x2, e3, hF⟩ := q_bind hF
    refine g_getfR fl_X2_19 e3 dX2_countUpTo_10 ?_
    refine g_iload_n 3 dX2_countUpTo_13 rfl ?_
    refine g_lconst (v := 0) dX2_countUpTo_14 (by decide +kernel) ?_
    obtain ⟨h4, e5, hF⟩ := q_bind hF
    refine g_last e5 dX2_countUpTo_15 ?_
    refine g_iinc [(3, .int (a3 + 1)), (0, .ref a0), (1, .ref a1), (2, .ref a2)] 3 dX2_countUpTo_16 rfl (congrArg (a3 + ·) lt_iconst_1) (Nat.le_of_ble_eq_true rfl) rfl ?_
    refine g_goto 2 dX2_countUpTo_19 (by decide) ?_
    cases hF
    refine g_sub [1, 2, 3, 0] rfl ?_
    exact hback _ _ rfl
set_option maxRecDepth 100000 in
set_option maxHeartbeats 4000000 in
theorem L_X2_countUpTo_2 (l : Launch) (b : Nat) (D : va_G) (z : Nat → Nat) {Φ : Option Value → qH → Nat → Prop} {nx : Nat} {a0 : Nat} {a1 : Nat} {a2 : Nat} : ∀ (n : Nat) (a3 : Int32) (h : qH) (e : qH), q_lp (s_X2_countUpTo_2 a0 a1 a2) n (a3, h) = some e → (∀  (bh : qH), e = bh → Go l b D z yX2_countUpTo cX2_countUpTo 7 none rm_X2_countUpTo Φ 22 [(0, .ref a0), (1, .ref a1), (2, .ref a2)] [] bh nx 0 0) → Go l b D z yX2_countUpTo cX2_countUpTo 7 none rm_X2_countUpTo Φ 2 [(0, .ref a0), (1, .ref a1), (2, .ref a2), (3, .int a3)] [] h nx 0 0 := by
  intro n
  induction n with
  | zero => intro a3 h e he; cases (show none = some e from he)
  | succ n ih =>
    intro a3 h e he hx0
    obtain ⟨o, ho, h1, h2⟩ := q_lp_succ he
    exact B_X2_countUpTo_2 l b D z (show b_X2_countUpTo_2 a0 a1 a2 a3 h = some o from ho) (fun b3 bh hb => ih _ _ e (h1 _ hb) hx0) (fun p0 hr => hx0 p0 (h2 _ hr).symm)
set_option maxRecDepth 100000 in
set_option maxHeartbeats 4000000 in
theorem B_X2_countUpTo_89 (l : Launch) (b : Nat) (D : va_G) (z : Nat → Nat) {Φ : Option Value → qH → Nat → Prop} {nx : Nat} {a0 : Nat} {a1 : Nat} {a2 : Nat} {a3 : Int32} {a4 : Int32} {a5 : Int32} {h : qH} {o : (Int32 × qH) ⊕ qH} (hF : b_X2_countUpTo_89 a0 a1 a2 a3 a4 a5 h = some o) (hback : ∀ (b5 : Int32) (bh : qH), o = .inl (b5, bh) → Go l b D z yX2_countUpTo cX2_countUpTo 7 none rm_X2_countUpTo Φ 89 [(0, .ref a0), (1, .ref a1), (2, .ref a2), (3, .int a3), (4, .int a4), (5, .int b5)] [] bh nx 0 0) (hx0 : ∀  (bh : qH), o = .inr bh → Go l b D z yX2_countUpTo cX2_countUpTo 7 none rm_X2_countUpTo Φ 170 [(0, .ref a0), (1, .ref a1), (2, .ref a2), (3, .int a3), (4, .int a4)] [] bh nx 0 0) : Go l b D z yX2_countUpTo cX2_countUpTo 7 none rm_X2_countUpTo Φ 89 [(0, .ref a0), (1, .ref a1), (2, .ref a2), (3, .int a3), (4, .int a4), (5, .int a5)] [] h nx 0 0 := by
  unfold b_X2_countUpTo_89 at hF
  refine g_iload 5 dX2_countUpTo_89 rfl ?_
  refine g_aload_n 1 dX2_countUpTo_91 rfl ?_
  refine g_iload 4 dX2_countUpTo_92 rfl ?_
  obtain ⟨u1, e2, hF⟩ := q_bind hF
  obtain ⟨x3, e4, hF⟩ := q_bind hF
  refine g_callVr0 (ci := 0) (q := (RX0, TX0, 15)) qm_X0_howManyFollow wd_1183 wd_791 wd_792 rfl e2 (M_X0_howManyFollow l b D z nx e4) (As := [.int a4]) rfl rfl (Nat.le_of_ble_eq_true rfl) ⟨(Nat.le_of_ble_eq_true rfl), (Nat.le_of_ble_eq_true rfl)⟩ ⟨rfl, rfl⟩ ⟨(Nat.le_of_ble_eq_true rfl), (Nat.le_of_ble_eq_true rfl)⟩ dX2_countUpTo_94 ?_
  refine g_icmp_ge 170 dX2_countUpTo_97 (by decide) (fun c5 => ?_) (fun c5 => ?_)
  · replace hF := q_t c5 hF
    cases hF
    refine g_sub [0, 1, 2, 3, 4] rfl ?_
    exact hx0 _ rfl
  · replace hF := q_f c5 hF
    refine g_aload_n 1 dX2_countUpTo_100 rfl ?_
    refine g_iload 4 dX2_countUpTo_101 rfl ?_
    refine g_iload 5 dX2_countUpTo_103 rfl ?_
    obtain ⟨u6, e7, hF⟩ := q_bind hF
    obtain ⟨x8, e9, hF⟩ := q_bind hF
    refine g_callVr0 (ci := 0) (q := (RX0, TX0, 15)) qm_X0_following wd_1184 wd_795 wd_796 rfl e7 (M_X0_following l b D z nx e9) (As := [.int a4, .int a5]) rfl rfl (Nat.le_of_ble_eq_true rfl) ⟨(Nat.le_of_ble_eq_true rfl), (Nat.le_of_ble_eq_true rfl)⟩ ⟨rfl, rfl⟩ ⟨(Nat.le_of_ble_eq_true rfl), (Nat.le_of_ble_eq_true rfl)⟩ dX2_countUpTo_105 ?_
    refine g_istore [(6, .int x8), (0, .ref a0), (1, .ref a1), (2, .ref a2), (3, .int a3), (4, .int a4), (5, .int a5)] dX2_countUpTo_108 (Nat.le_of_ble_eq_true rfl) rfl ?_
    refine g_aload_n 2 dX2_countUpTo_110 rfl ?_
    refine g_iload 0 dX2_countUpTo_111 rfl ?_
    obtain ⟨u10, e11, hF⟩ := q_bind hF
    obtain ⟨x12, e13, hF⟩ := q_bind hF
    refine g_callVr0 (ci := 0) (q := (RX0, TX0, 15)) qm_X0_has wd_1203 wd_783 wd_784 rfl e11 (M_X0_has l b D z nx e13) (As := [.int x8]) rfl rfl (Nat.le_of_ble_eq_true rfl) ⟨(Nat.le_of_ble_eq_true rfl), (Nat.le_of_ble_eq_true rfl)⟩ ⟨rfl, rfl⟩ ⟨(Nat.le_of_ble_eq_true rfl), (Nat.le_of_ble_eq_true rfl)⟩ dX2_countUpTo_113 ?_
    refine g_if_eq 164 dX2_countUpTo_116 (by decide) (fun c14 => ?_) (fun c14 => ?_)
    · replace hF := q_t c14 hF
      refine g_iinc [(5, .int (a5 + 1)), (6, .int x8), (0, .ref a0), (1, .ref a1), (2, .ref a2), (3, .int a3), (4, .int a4)] 6 dX2_countUpTo_164 rfl (congrArg (a5 + ·) lt_iconst_1) (Nat.le_of_ble_eq_true rfl) rfl ?_
      refine g_goto 89 dX2_countUpTo_167 (by decide) ?_
      cases hF
      refine g_sub [2, 3, 4, 5, 6, 0] rfl ?_
      exact hback _ _ rfl
    · replace hF := q_f c14 hF
      refine g_aload_n 3 dX2_countUpTo_119 rfl ?_
      refine g_iload_n 4 dX2_countUpTo_120 rfl ?_
      refine g_iconst dX2_countUpTo_121 lt_iconst_1 ?_
      refine g_iadd dX2_countUpTo_122 ?_
      refine g_aload_n 2 dX2_countUpTo_123 rfl ?_
      refine g_iload 0 dX2_countUpTo_124 rfl ?_
      obtain ⟨u15, e16, hF⟩ := q_bind hF
      obtain ⟨x17, e18, hF⟩ := q_bind hF
      refine g_callVr0 (ci := 0) (q := (RX0, TX0, 15)) qm_X0_whoSays wd_1174 wd_931 wd_932 rfl e16 (M_X0_whoSays l b D z nx e18) (As := [.int x8]) rfl rfl (Nat.le_of_ble_eq_true rfl) ⟨(Nat.le_of_ble_eq_true rfl), (Nat.le_of_ble_eq_true rfl)⟩ ⟨rfl, rfl⟩ ⟨(Nat.le_of_ble_eq_true rfl), (Nat.le_of_ble_eq_true rfl)⟩ dX2_countUpTo_126 ?_
      obtain ⟨u19, e20, hF⟩ := q_bind hF
      obtain ⟨x21, e22, hF⟩ := q_bind hF
      refine g_callVr0 (ci := 3) (q := (RX3, TX3, 2)) qm_X3_mayBe wd_1175 wd_1176 wd_1177 rfl e20 (M_X3_mayBe l b D z nx e22) (As := [.int (a3 + (1 : Int32)), .int x17]) rfl rfl (Nat.le_of_ble_eq_true rfl) ⟨(Nat.le_of_ble_eq_true rfl), (Nat.le_of_ble_eq_true rfl)⟩ ⟨rfl, rfl⟩ ⟨(Nat.le_of_ble_eq_true rfl), (Nat.le_of_ble_eq_true rfl)⟩ dX2_countUpTo_129 ?_
      refine g_if_eq 164 dX2_countUpTo_132 (by decide) (fun c23 => ?_) (fun c23 => ?_)
      · replace hF := q_t c23 hF
        refine g_iinc [(5, .int (a5 + 1)), (6, .int x8), (0, .ref a0), (1, .ref a1), (2, .ref a2), (3, .int a3), (4, .int a4)] 6 dX2_countUpTo_164 rfl (congrArg (a5 + ·) lt_iconst_1) (Nat.le_of_ble_eq_true rfl) rfl ?_
        refine g_goto 89 dX2_countUpTo_167 (by decide) ?_
        cases hF
        refine g_sub [2, 3, 4, 5, 6, 0] rfl ?_
        exact hback _ _ rfl
      · replace hF := q_f c23 hF
        refine g_aload_n 1 dX2_countUpTo_135 rfl ?_
        obtain ⟨x24, e25, hF⟩ := q_bind hF
        refine g_getfR fl_X2_19 e25 dX2_countUpTo_136 ?_
        refine g_iload_n 4 dX2_countUpTo_139 rfl ?_
        refine g_iconst dX2_countUpTo_140 lt_iconst_1 ?_
        refine g_iadd dX2_countUpTo_141 ?_
        refine g_bipush dX2_countUpTo_142 lt_bipush_20 ?_
        refine g_imul dX2_countUpTo_144 ?_
        refine g_iload 0 dX2_countUpTo_145 rfl ?_
        refine g_iadd dX2_countUpTo_147 ?_
        refine g_dup2 dX2_countUpTo_148 rfl rfl ?_
        obtain ⟨x26, e27, hF⟩ := q_bind hF
        refine g_lald e27 dX2_countUpTo_149 ?_
        refine g_aload_n 1 dX2_countUpTo_150 rfl ?_
        obtain ⟨x28, e29, hF⟩ := q_bind hF
        refine g_getfR fl_X2_19 e29 dX2_countUpTo_151 ?_
        refine g_iload_n 4 dX2_countUpTo_154 rfl ?_
        refine g_bipush dX2_countUpTo_155 lt_bipush_20 ?_
        refine g_imul dX2_countUpTo_157 ?_
        refine g_iload 5 dX2_countUpTo_158 rfl ?_
        refine g_iadd dX2_countUpTo_160 ?_
        obtain ⟨x30, e31, hF⟩ := q_bind hF
        refine g_lald e31 dX2_countUpTo_161 ?_
        refine g_ladd dX2_countUpTo_162 ?_
        obtain ⟨h32, e33, hF⟩ := q_bind hF
        refine g_last e33 dX2_countUpTo_163 ?_
        refine g_iinc [(5, .int (a5 + 1)), (6, .int x8), (0, .ref a0), (1, .ref a1), (2, .ref a2), (3, .int a3), (4, .int a4)] 6 dX2_countUpTo_164 rfl (congrArg (a5 + ·) lt_iconst_1) (Nat.le_of_ble_eq_true rfl) rfl ?_
        refine g_goto 89 dX2_countUpTo_167 (by decide) ?_
        cases hF
        refine g_sub [2, 3, 4, 5, 6, 0] rfl ?_
        exact hback _ _ rfl
set_option maxRecDepth 100000 in
set_option maxHeartbeats 4000000 in
theorem L_X2_countUpTo_89 (l : Launch) (b : Nat) (D : va_G) (z : Nat → Nat) {Φ : Option Value → qH → Nat → Prop} {nx : Nat} {a0 : Nat} {a1 : Nat} {a2 : Nat} {a3 : Int32} {a4 : Int32} : ∀ (n : Nat) (a5 : Int32) (h : qH) (e : qH), q_lp (s_X2_countUpTo_89 a0 a1 a2 a3 a4) n (a5, h) = some e → (∀  (bh : qH), e = bh → Go l b D z yX2_countUpTo cX2_countUpTo 7 none rm_X2_countUpTo Φ 170 [(0, .ref a0), (1, .ref a1), (2, .ref a2), (3, .int a3), (4, .int a4)] [] bh nx 0 0) → Go l b D z yX2_countUpTo cX2_countUpTo 7 none rm_X2_countUpTo Φ 89 [(0, .ref a0), (1, .ref a1), (2, .ref a2), (3, .int a3), (4, .int a4), (5, .int a5)] [] h nx 0 0 := by
  intro n
  induction n with
  | zero => intro a5 h e he; cases (show none = some e from he)
  | succ n ih =>
    intro a5 h e he hx0
    obtain ⟨o, ho, h1, h2⟩ := q_lp_succ he
    exact B_X2_countUpTo_89 l b D z (show b_X2_countUpTo_89 a0 a1 a2 a3 a4 a5 h = some o from ho) (fun b5 bh hb => ih _ _ e (h1 _ hb) hx0) (fun p0 hr => hx0 p0 (h2 _ hr).symm)
set_option maxRecDepth 100000 in
set_option maxHeartbeats 4000000 in
theorem B_X2_countUpTo_70 (l : Launch) (b : Nat) (D : va_G) (z : Nat → Nat) {Φ : Option Value → qH → Nat → Prop} {nx : Nat} {a0 : Nat} {a1 : Nat} {a2 : Nat} {a3 : Int32} {a4 : Int32} {h : qH} {o : (Int32 × qH) ⊕ qH} (hF : b_X2_countUpTo_70 a0 a1 a2 a3 a4 h = some o) (hback : ∀ (b4 : Int32) (bh : qH), o = .inl (b4, bh) → Go l b D z yX2_countUpTo cX2_countUpTo 7 none rm_X2_countUpTo Φ 70 [(0, .ref a0), (1, .ref a1), (2, .ref a2), (3, .int a3), (4, .int b4)] [] bh nx 0 0) (hx0 : ∀  (bh : qH), o = .inr bh → Go l b D z yX2_countUpTo cX2_countUpTo 7 none rm_X2_countUpTo Φ 176 [(0, .ref a0), (1, .ref a1), (2, .ref a2), (3, .int a3)] [] bh nx 0 0) : Go l b D z yX2_countUpTo cX2_countUpTo 7 none rm_X2_countUpTo Φ 70 [(0, .ref a0), (1, .ref a1), (2, .ref a2), (3, .int a3), (4, .int a4)] [] h nx 0 0 := by
  unfold b_X2_countUpTo_70 at hF
  refine g_iload 4 dX2_countUpTo_70 rfl ?_
  refine g_aload_n 1 dX2_countUpTo_72 rfl ?_
  obtain ⟨x1, e2, hF⟩ := q_bind hF
  refine g_getfI fl_X2_59 e2 dX2_countUpTo_73 ?_
  refine g_icmp_ge 176 dX2_countUpTo_76 (by decide) (fun c3 => ?_) (fun c3 => ?_)
  · replace hF := q_t c3 hF
    cases hF
    refine g_sub [0, 1, 2, 3] rfl ?_
    exact hx0 _ rfl
  · replace hF := q_f c3 hF
    refine g_iload 4 dX2_countUpTo_79 rfl ?_
    refine g_bipush dX2_countUpTo_81 lt_bipush_20 ?_
    refine g_icmp_ge 176 dX2_countUpTo_83 (by decide) (fun c4 => ?_) (fun c4 => ?_)
    · replace hF := q_t c4 hF
      cases hF
      refine g_sub [0, 1, 2, 3] rfl ?_
      exact hx0 _ rfl
    · replace hF := q_f c4 hF
      refine g_iconst dX2_countUpTo_86 lt_iconst_0 ?_
      refine g_istore [(5, .int (0 : Int32)), (0, .ref a0), (1, .ref a1), (2, .ref a2), (3, .int a3), (4, .int a4)] dX2_countUpTo_87 (Nat.le_of_ble_eq_true rfl) rfl ?_
      obtain ⟨e5, w6, hF⟩ := q_bind hF
      refine g_sub [1, 2, 3, 4, 5, 0] rfl ?_
      refine L_X2_countUpTo_89 l b D z q_N (0 : Int32) h e5 w6 ?_
      · intro h7 w8
        replace w8 := w8.symm
        subst w8
        refine g_iinc [(4, .int (a4 + 1)), (0, .ref a0), (1, .ref a1), (2, .ref a2), (3, .int a3)] 4 dX2_countUpTo_170 rfl (congrArg (a4 + ·) lt_iconst_1) (Nat.le_of_ble_eq_true rfl) rfl ?_
        refine g_goto 70 dX2_countUpTo_173 (by decide) ?_
        cases hF
        refine g_sub [1, 2, 3, 4, 0] rfl ?_
        exact hback _ _ rfl
set_option maxRecDepth 100000 in
set_option maxHeartbeats 4000000 in
theorem L_X2_countUpTo_70 (l : Launch) (b : Nat) (D : va_G) (z : Nat → Nat) {Φ : Option Value → qH → Nat → Prop} {nx : Nat} {a0 : Nat} {a1 : Nat} {a2 : Nat} {a3 : Int32} : ∀ (n : Nat) (a4 : Int32) (h : qH) (e : qH), q_lp (s_X2_countUpTo_70 a0 a1 a2 a3) n (a4, h) = some e → (∀  (bh : qH), e = bh → Go l b D z yX2_countUpTo cX2_countUpTo 7 none rm_X2_countUpTo Φ 176 [(0, .ref a0), (1, .ref a1), (2, .ref a2), (3, .int a3)] [] bh nx 0 0) → Go l b D z yX2_countUpTo cX2_countUpTo 7 none rm_X2_countUpTo Φ 70 [(0, .ref a0), (1, .ref a1), (2, .ref a2), (3, .int a3), (4, .int a4)] [] h nx 0 0 := by
  intro n
  induction n with
  | zero => intro a4 h e he; cases (show none = some e from he)
  | succ n ih =>
    intro a4 h e he hx0
    obtain ⟨o, ho, h1, h2⟩ := q_lp_succ he
    exact B_X2_countUpTo_70 l b D z (show b_X2_countUpTo_70 a0 a1 a2 a3 a4 h = some o from ho) (fun b4 bh hb => ih _ _ e (h1 _ hb) hx0) (fun p0 hr => hx0 p0 (h2 _ hr).symm)
set_option maxRecDepth 100000 in
set_option maxHeartbeats 4000000 in
theorem B_X2_countUpTo_49 (l : Launch) (b : Nat) (D : va_G) (z : Nat → Nat) {Φ : Option Value → qH → Nat → Prop} {nx : Nat} {a0 : Nat} {a1 : Nat} {a2 : Nat} {a3 : Int32} {h : qH} {o : (Int32 × qH) ⊕ qH} (hF : b_X2_countUpTo_49 a0 a1 a2 a3 h = some o) (hback : ∀ (b3 : Int32) (bh : qH), o = .inl (b3, bh) → Go l b D z yX2_countUpTo cX2_countUpTo 7 none rm_X2_countUpTo Φ 49 [(0, .ref a0), (1, .ref a1), (2, .ref a2), (3, .int b3)] [] bh nx 0 0) (hx0 : ∀  (bh : qH), o = .inr bh → Go l b D z yX2_countUpTo cX2_countUpTo 7 none rm_X2_countUpTo Φ 182 [] [] bh nx 0 0) : Go l b D z yX2_countUpTo cX2_countUpTo 7 none rm_X2_countUpTo Φ 49 [(0, .ref a0), (1, .ref a1), (2, .ref a2), (3, .int a3)] [] h nx 0 0 := by
  unfold b_X2_countUpTo_49 at hF
  refine g_iload_n 3 dX2_countUpTo_49 rfl ?_
  refine g_iconst dX2_countUpTo_50 lt_iconst_1 ?_
  refine g_iadd dX2_countUpTo_51 ?_
  refine g_aload_n 2 dX2_countUpTo_52 rfl ?_
  obtain ⟨x1, e2, hF⟩ := q_bind hF
  refine g_getfI fl_X2_30 e2 dX2_countUpTo_53 ?_
  refine g_icmp_ge 182 dX2_countUpTo_56 (by decide) (fun c3 => ?_) (fun c3 => ?_)
  · replace hF := q_t c3 hF
    cases hF
    refine g_sub [] rfl ?_
    exact hx0 _ rfl
  · replace hF := q_f c3 hF
    refine g_iload_n 3 dX2_countUpTo_59 rfl ?_
    refine g_iconst dX2_countUpTo_60 lt_iconst_1 ?_
    refine g_iadd dX2_countUpTo_61 ?_
    refine g_bipush dX2_countUpTo_62 lt_bipush_12 ?_
    refine g_icmp_ge 182 dX2_countUpTo_64 (by decide) (fun c4 => ?_) (fun c4 => ?_)
    · replace hF := q_t c4 hF
      cases hF
      refine g_sub [] rfl ?_
      exact hx0 _ rfl
    · replace hF := q_f c4 hF
      refine g_iconst dX2_countUpTo_67 lt_iconst_0 ?_
      refine g_istore [(4, .int (0 : Int32)), (0, .ref a0), (1, .ref a1), (2, .ref a2), (3, .int a3)] dX2_countUpTo_68 (Nat.le_of_ble_eq_true rfl) rfl ?_
      obtain ⟨e5, w6, hF⟩ := q_bind hF
      refine g_sub [1, 2, 3, 4, 0] rfl ?_
      refine L_X2_countUpTo_70 l b D z q_N (0 : Int32) h e5 w6 ?_
      · intro h7 w8
        replace w8 := w8.symm
        subst w8
        refine g_iinc [(3, .int (a3 + 1)), (0, .ref a0), (1, .ref a1), (2, .ref a2)] 3 dX2_countUpTo_176 rfl (congrArg (a3 + ·) lt_iconst_1) (Nat.le_of_ble_eq_true rfl) rfl ?_
        refine g_goto 49 dX2_countUpTo_179 (by decide) ?_
        cases hF
        refine g_sub [1, 2, 3, 0] rfl ?_
        exact hback _ _ rfl
set_option maxRecDepth 100000 in
set_option maxHeartbeats 4000000 in
theorem L_X2_countUpTo_49 (l : Launch) (b : Nat) (D : va_G) (z : Nat → Nat) {Φ : Option Value → qH → Nat → Prop} {nx : Nat} {a0 : Nat} {a1 : Nat} {a2 : Nat} : ∀ (n : Nat) (a3 : Int32) (h : qH) (e : qH), q_lp (s_X2_countUpTo_49 a0 a1 a2) n (a3, h) = some e → (∀  (bh : qH), e = bh → Go l b D z yX2_countUpTo cX2_countUpTo 7 none rm_X2_countUpTo Φ 182 [] [] bh nx 0 0) → Go l b D z yX2_countUpTo cX2_countUpTo 7 none rm_X2_countUpTo Φ 49 [(0, .ref a0), (1, .ref a1), (2, .ref a2), (3, .int a3)] [] h nx 0 0 := by
  intro n
  induction n with
  | zero => intro a3 h e he; cases (show none = some e from he)
  | succ n ih =>
    intro a3 h e he hx0
    obtain ⟨o, ho, h1, h2⟩ := q_lp_succ he
    exact B_X2_countUpTo_49 l b D z (show b_X2_countUpTo_49 a0 a1 a2 a3 h = some o from ho) (fun b3 bh hb => ih _ _ e (h1 _ hb) hx0) (fun p0 hr => hx0 p0 (h2 _ hr).symm)
set_option maxRecDepth 100000 in
set_option maxHeartbeats 4000000 in
theorem J_X2_countUpTo_46 (l : Launch) (b : Nat) (D : va_G) (z : Nat → Nat) {nx : Nat} {h : qH} {a0 : Nat} {a1 : Nat} {a2 : Nat} {t0 : Int64} {t1 : Int32} {t2 : Nat} {r : qH} (hF : j_X2_countUpTo_46 h a0 a1 a2 t0 t1 t2 = some r) : Go l b D z yX2_countUpTo cX2_countUpTo 7 none rm_X2_countUpTo (qE none r nx) 46 [(0, .ref a0), (1, .ref a1), (2, .ref a2)] [.long t0, .int t1, .ref t2] h nx 0 0 := by
  unfold j_X2_countUpTo_46 at hF
  obtain ⟨h1, e2, hF⟩ := q_bind hF
  refine g_last e2 dX2_countUpTo_46 ?_
  refine g_iconst dX2_countUpTo_47 lt_iconst_0 ?_
  refine g_istore_n [(3, .int (0 : Int32)), (0, .ref a0), (1, .ref a1), (2, .ref a2)] dX2_countUpTo_48 (Nat.le_of_ble_eq_true rfl) rfl ?_
  obtain ⟨e3, w4, hF⟩ := q_bind hF
  refine g_sub [1, 2, 3, 0] rfl ?_
  refine L_X2_countUpTo_49 l b D z q_N (0 : Int32) h1 e3 w4 ?_
  · intro h5 w6
    replace w6 := w6.symm
    subst w6
    cases hF
    exact g_vret dX2_countUpTo_182 rfl ⟨rfl, rfl, rfl⟩ (Nat.le_of_ble_eq_true rfl) (Nat.le_of_ble_eq_true rfl)
set_option maxRecDepth 100000 in
set_option maxHeartbeats 4000000 in
theorem M_X2_countUpTo (l : Launch) (b : Nat) (D : va_G) (z : Nat → Nat) (nx : Nat) {h : qH} {a0 : Nat} {a1 : Nat} {a2 : Nat} {r : qH} (hF : F_X2_countUpTo h a0 a1 a2 = some r) : Me l b D z yX2_countUpTo cX2_countUpTo 7 none rm_X2_countUpTo [.ref a0, .ref a1, .ref a2] h nx (qE none r nx) := by
  refine Me.of (by decide +kernel) (Nat.le_of_ble_eq_true rfl) ?_
  show Go l b D z yX2_countUpTo cX2_countUpTo 7 none rm_X2_countUpTo (qE none r nx) 0 [(0, .ref a0), (1, .ref a1), (2, .ref a2)] [] h nx 0 0
  unfold F_X2_countUpTo at hF
  refine g_iconst dX2_countUpTo_0 lt_iconst_0 ?_
  refine g_istore_n [(3, .int (0 : Int32)), (0, .ref a0), (1, .ref a1), (2, .ref a2)] dX2_countUpTo_1 (Nat.le_of_ble_eq_true rfl) rfl ?_
  obtain ⟨e1, w2, hF⟩ := q_bind hF
  refine g_sub [1, 2, 3, 0] rfl ?_
  refine L_X2_countUpTo_2 l b D z q_N (0 : Int32) h e1 w2 ?_
  · intro h3 w4
    replace w4 := w4.symm
    subst w4
    refine g_aload_n 0 dX2_countUpTo_22 rfl ?_
    obtain ⟨x5, e6, hF⟩ := q_bind hF
    refine g_getfR fl_X2_19 e6 dX2_countUpTo_23 ?_
    refine g_iconst dX2_countUpTo_26 lt_iconst_0 ?_
    refine g_aload_n 0 dX2_countUpTo_27 rfl ?_
    obtain ⟨x7, e8, hF⟩ := q_bind hF
    refine g_getfR fl_X2_15 e8 dX2_countUpTo_28 ?_
    refine g_iconst dX2_countUpTo_31 lt_iconst_0 ?_
    refine g_iconst dX2_countUpTo_32 lt_iconst_0 ?_
    obtain ⟨x9, e10, hF⟩ := q_bind hF
    refine g_callSr0 qm_X2_at wd_1185 wd_1186 (M_X2_at l b D z nx e10) (As := [.ref x7, .int (0 : Int32), .int (0 : Int32)]) rfl rfl (Nat.le_of_ble_eq_true rfl) ⟨(Nat.le_of_ble_eq_true rfl), (Nat.le_of_ble_eq_true rfl)⟩ ⟨rfl, rfl⟩ ⟨(Nat.le_of_ble_eq_true rfl), (Nat.le_of_ble_eq_true rfl)⟩ dX2_countUpTo_33 ?_
    refine g_lconst (v := 0) dX2_countUpTo_36 (by decide +kernel) ?_
    refine g_lcmp dX2_countUpTo_37 ?_
    refine g_if_ne 45 dX2_countUpTo_38 (by decide) (fun c11 => ?_) (fun c11 => ?_)
    · replace hF := q_f c11 hF
      refine g_lconst (v := 1) dX2_countUpTo_45 (by decide +kernel) ?_
      exact J_X2_countUpTo_46 l b D z hF
    · replace hF := q_t c11 hF
      refine g_lconst (v := 0) dX2_countUpTo_41 (by decide +kernel) ?_
      refine g_goto 46 dX2_countUpTo_42 (by decide) ?_
      exact J_X2_countUpTo_46 l b D z hF
def rm_X3_isGap : Room := { frames := 1, cells := 0, slots := 0, locals := 21 }
set_option maxRecDepth 100000 in
set_option maxHeartbeats 4000000 in
theorem M_X3_isGap (l : Launch) (b : Nat) (D : va_G) (z : Nat → Nat) (nx : Nat) {h : qH} {a0 : Nat} {a1 : Int32} {r : Int32} (hF : F_X3_isGap h a0 a1 = some r) : Me l b D z yX3_isGap cX3_isGap 2 (some .boolean) rm_X3_isGap [.ref a0, .int a1] h nx (qE (some (.int r)) h nx) := by
  refine Me.of (by decide +kernel) (Nat.le_of_ble_eq_true rfl) ?_
  show Go l b D z yX3_isGap cX3_isGap 2 (some .boolean) rm_X3_isGap (qE (some (.int r)) h nx) 0 [(0, .ref a0), (1, .int a1)] [] h nx 0 0
  unfold F_X3_isGap at hF
  refine g_aload_n 0 dX3_isGap_0 rfl ?_
  refine g_iload_n 1 dX3_isGap_1 rfl ?_
  obtain ⟨u1, e2, hF⟩ := q_bind hF
  obtain ⟨x3, e4, hF⟩ := q_bind hF
  refine g_callVr0 (ci := 3) (q := (RX3, TX3, 2)) qm_X3_has wd_1156 wd_1157 wd_1158 rfl e2 (M_X3_has l b D z nx e4) (As := [.int a1]) rfl rfl (Nat.le_of_ble_eq_true rfl) ⟨(Nat.le_of_ble_eq_true rfl), (Nat.le_of_ble_eq_true rfl)⟩ ⟨rfl, rfl⟩ ⟨(Nat.le_of_ble_eq_true rfl), (Nat.le_of_ble_eq_true rfl)⟩ dX3_isGap_2 ?_
  refine g_if_eq 23 dX3_isGap_5 (by decide) (fun c5 => ?_) (fun c5 => ?_)
  · replace hF := q_t c5 hF
    refine g_iconst dX3_isGap_23 lt_iconst_0 ?_
    cases hF
    exact g_zret dX3_isGap_24 rfl zn_0 ⟨rfl, rfl, rfl⟩ (Nat.le_of_ble_eq_true rfl) (Nat.le_of_ble_eq_true rfl)
  · replace hF := q_f c5 hF
    refine g_aload_n 0 dX3_isGap_8 rfl ?_
    obtain ⟨x6, e7, hF⟩ := q_bind hF
    refine g_getfR fl_X3_11 e7 dX3_isGap_9 ?_
    refine g_iload_n 1 dX3_isGap_12 rfl ?_
    obtain ⟨x8, e9, hF⟩ := q_bind hF
    refine g_iald e9 dX3_isGap_13 ?_
    refine g_bipush dX3_isGap_14 lt_bipush_6 ?_
    refine g_icmp_ne 23 dX3_isGap_16 (by decide) (fun c10 => ?_) (fun c10 => ?_)
    · replace hF := q_f c10 hF
      refine g_iconst dX3_isGap_23 lt_iconst_0 ?_
      cases hF
      exact g_zret dX3_isGap_24 rfl zn_0 ⟨rfl, rfl, rfl⟩ (Nat.le_of_ble_eq_true rfl) (Nat.le_of_ble_eq_true rfl)
    · replace hF := q_t c10 hF
      refine g_iconst dX3_isGap_19 lt_iconst_1 ?_
      refine g_goto 24 dX3_isGap_20 (by decide) ?_
      cases hF
      exact g_zret dX3_isGap_24 rfl zn_1 ⟨rfl, rfl, rfl⟩ (Nat.le_of_ble_eq_true rfl) (Nat.le_of_ble_eq_true rfl)
def rm_X2_through : Room := { frames := 1, cells := 0, slots := 0, locals := 23 }
set_option maxRecDepth 100000 in
set_option maxHeartbeats 4000000 in
theorem M_X2_through (l : Launch) (b : Nat) (D : va_G) (z : Nat → Nat) (nx : Nat) {h : qH} {a0 : Nat} {a1 : Int32} {a2 : Int32} {r : Int64} (hF : F_X2_through h a0 a1 a2 = some r) : Me l b D z yX2_through cX2_through 3 (some .long) rm_X2_through [.ref a0, .int a1, .int a2] h nx (qE (some (.long r)) h nx) := by
  refine Me.of (by decide +kernel) (Nat.le_of_ble_eq_true rfl) ?_
  show Go l b D z yX2_through cX2_through 3 (some .long) rm_X2_through (qE (some (.long r)) h nx) 0 [(0, .ref a0), (1, .int a1), (2, .int a2)] [] h nx 0 0
  unfold F_X2_through at hF
  refine g_aload_n 0 dX2_through_0 rfl ?_
  obtain ⟨x1, e2, hF⟩ := q_bind hF
  refine g_getfR fl_X2_19 e2 dX2_through_1 ?_
  refine g_iload_n 1 dX2_through_4 rfl ?_
  refine g_iload_n 2 dX2_through_5 rfl ?_
  obtain ⟨x3, e4, hF⟩ := q_bind hF
  refine g_callSr0 qm_X2_at wd_1185 wd_1186 (M_X2_at l b D z nx e4) (As := [.ref x1, .int a1, .int a2]) rfl rfl (Nat.le_of_ble_eq_true rfl) ⟨(Nat.le_of_ble_eq_true rfl), (Nat.le_of_ble_eq_true rfl)⟩ ⟨rfl, rfl⟩ ⟨(Nat.le_of_ble_eq_true rfl), (Nat.le_of_ble_eq_true rfl)⟩ dX2_through_6 ?_
  refine g_aload_n 0 dX2_through_9 rfl ?_
  obtain ⟨x5, e6, hF⟩ := q_bind hF
  refine g_getfR fl_X2_15 e6 dX2_through_10 ?_
  refine g_iload_n 1 dX2_through_13 rfl ?_
  refine g_iload_n 2 dX2_through_14 rfl ?_
  obtain ⟨x7, e8, hF⟩ := q_bind hF
  refine g_callSr0 qm_X2_at wd_1185 wd_1186 (M_X2_at l b D z nx e8) (As := [.ref x5, .int a1, .int a2]) rfl rfl (Nat.le_of_ble_eq_true rfl) ⟨(Nat.le_of_ble_eq_true rfl), (Nat.le_of_ble_eq_true rfl)⟩ ⟨rfl, rfl⟩ ⟨(Nat.le_of_ble_eq_true rfl), (Nat.le_of_ble_eq_true rfl)⟩ dX2_through_15 ?_
  refine g_lmul dX2_through_18 ?_
  cases hF
  exact g_lret dX2_through_19 rfl ⟨rfl, rfl, rfl⟩ (Nat.le_of_ble_eq_true rfl) (Nat.le_of_ble_eq_true rfl)
def rm_J9_max_f86c9 : Room := { frames := 0, cells := 0, slots := 0, locals := 0 }
set_option maxRecDepth 100000 in
set_option maxHeartbeats 4000000 in
theorem M_J9_max_f86c9 (l : Launch) (b : Nat) (D : va_G) (z : Nat → Nat) (nx : Nat) {h : qH} {a0 : Int64} {a2 : Int64} {r : Int64} (hF : F_J9_max_f86c9 h a0 a2 = some r) : Me l b D z yJ9_max_f86c9 cJ9_max_f86c9 4 (some .long) rm_J9_max_f86c9 [.long a0, .long a2] h nx (qE (some (.long r)) h nx) := by
  refine Me.ofF (by decide +kernel) (Nat.le_of_ble_eq_true rfl) ?_
  show Go l b D z yJ9_max_f86c9 cJ9_max_f86c9 4 (some .long) rm_J9_max_f86c9 (qE (some (.long r)) h nx) 0 [(0, .long a0), (2, .long a2)] [] h nx 0 0
  unfold F_J9_max_f86c9 at hF
  refine g_lload_n 0 dJ9_max_f86c9_0 rfl ?_
  refine g_lload_n 1 dJ9_max_f86c9_1 rfl ?_
  refine g_lcmp dJ9_max_f86c9_2 ?_
  refine g_if_lt 10 dJ9_max_f86c9_3 (by decide) (fun c1 => ?_) (fun c1 => ?_)
  · replace hF := q_t c1 hF
    refine g_lload_n 1 dJ9_max_f86c9_10 rfl ?_
    cases hF
    exact g_lret dJ9_max_f86c9_11 rfl ⟨rfl, rfl, rfl⟩ (Nat.le_of_ble_eq_true rfl) (Nat.le_of_ble_eq_true rfl)
  · replace hF := q_f c1 hF
    refine g_lload_n 0 dJ9_max_f86c9_6 rfl ?_
    refine g_goto 11 dJ9_max_f86c9_7 (by decide) ?_
    cases hF
    exact g_lret dJ9_max_f86c9_11 rfl ⟨rfl, rfl, rfl⟩ (Nat.le_of_ble_eq_true rfl) (Nat.le_of_ble_eq_true rfl)
def rm_X2_mostOfOnePerson : Room := { frames := 2, cells := 0, slots := 0, locals := 45 }
set_option maxRecDepth 100000 in
set_option maxHeartbeats 4000000 in
theorem B_X2_mostOfOnePerson_18 (l : Launch) (b : Nat) (D : va_G) (z : Nat → Nat) {Φ : Option Value → qH → Nat → Prop} {nx : Nat} {h : qH} {a0 : Nat} {a1 : Nat} {a2 : Int32} {a3 : Int64} {a5 : Int32} {a6 : Int64} {a8 : Int32} {o : (Int64 × Int32) ⊕ Int64} (hF : b_X2_mostOfOnePerson_18 h a0 a1 a2 a3 a5 a6 a8 = some o) (hback : ∀ (b6 : Int64) (b8 : Int32), o = .inl (b6, b8) → Go l b D z yX2_mostOfOnePerson cX2_mostOfOnePerson 9 (some .long) rm_X2_mostOfOnePerson Φ 18 [(0, .ref a0), (1, .ref a1), (2, .int a2), (3, .long a3), (5, .int a5), (6, .long b6), (8, .int b8)] [] h nx 0 0) (hx0 : ∀ (b6 : Int64), o = .inr b6 → Go l b D z yX2_mostOfOnePerson cX2_mostOfOnePerson 9 (some .long) rm_X2_mostOfOnePerson Φ 60 [(0, .ref a0), (1, .ref a1), (2, .int a2), (3, .long a3), (5, .int a5), (6, .long b6)] [] h nx 0 0) : Go l b D z yX2_mostOfOnePerson cX2_mostOfOnePerson 9 (some .long) rm_X2_mostOfOnePerson Φ 18 [(0, .ref a0), (1, .ref a1), (2, .int a2), (3, .long a3), (5, .int a5), (6, .long a6), (8, .int a8)] [] h nx 0 0 := by
  unfold b_X2_mostOfOnePerson_18 at hF
  refine g_iload 6 dX2_mostOfOnePerson_18 rfl ?_
  refine g_aload_n 1 dX2_mostOfOnePerson_20 rfl ?_
  obtain ⟨x1, e2, hF⟩ := q_bind hF
  refine g_getfI fl_X2_59 e2 dX2_mostOfOnePerson_21 ?_
  refine g_icmp_ge 60 dX2_mostOfOnePerson_24 (by decide) (fun c3 => ?_) (fun c3 => ?_)
  · replace hF := q_t c3 hF
    cases hF
    refine g_sub [0, 1, 2, 3, 4, 5] rfl ?_
    exact hx0 _ rfl
  · replace hF := q_f c3 hF
    refine g_lload 5 dX2_mostOfOnePerson_27 rfl ?_
    refine g_aload_n 1 dX2_mostOfOnePerson_29 rfl ?_
    refine g_iload 6 dX2_mostOfOnePerson_30 rfl ?_
    obtain ⟨u4, e5, hF⟩ := q_bind hF
    obtain ⟨x6, e7, hF⟩ := q_bind hF
    refine g_callVr0 (ci := 0) (q := (RX0, TX0, 15)) qm_X0_whoSays wd_1174 wd_931 wd_932 rfl e5 (M_X0_whoSays l b D z nx e7) (As := [.int a8]) rfl rfl (Nat.le_of_ble_eq_true rfl) ⟨(Nat.le_of_ble_eq_true rfl), (Nat.le_of_ble_eq_true rfl)⟩ ⟨rfl, rfl⟩ ⟨(Nat.le_of_ble_eq_true rfl), (Nat.le_of_ble_eq_true rfl)⟩ dX2_mostOfOnePerson_32 ?_
    refine g_iload 4 dX2_mostOfOnePerson_35 rfl ?_
    refine g_icmp_ne 50 dX2_mostOfOnePerson_37 (by decide) (fun c8 => ?_) (fun c8 => ?_)
    · replace hF := q_f c8 hF
      refine g_lconst (v := 0) dX2_mostOfOnePerson_50 (by decide +kernel) ?_
      refine g_ladd dX2_mostOfOnePerson_51 ?_
      refine g_lstore [(6, .long (a6 + (0 : Int64))), (0, .ref a0), (1, .ref a1), (2, .int a2), (3, .long a3), (5, .int a5), (8, .int a8)] dX2_mostOfOnePerson_52 (Nat.le_of_ble_eq_true rfl) rfl ?_
      refine g_iinc [(8, .int (a8 + 1)), (6, .long (a6 + (0 : Int64))), (0, .ref a0), (1, .ref a1), (2, .int a2), (3, .long a3), (5, .int a5)] 6 dX2_mostOfOnePerson_54 rfl (congrArg (a8 + ·) lt_iconst_1) (Nat.le_of_ble_eq_true rfl) rfl ?_
      refine g_goto 18 dX2_mostOfOnePerson_57 (by decide) ?_
      cases hF
      refine g_sub [2, 3, 4, 5, 6, 1, 0] rfl ?_
      exact hback _ _ rfl
    · replace hF := q_t c8 hF
      refine g_aload_n 0 dX2_mostOfOnePerson_40 rfl ?_
      refine g_iload_n 2 dX2_mostOfOnePerson_41 rfl ?_
      refine g_iload 6 dX2_mostOfOnePerson_42 rfl ?_
      obtain ⟨u9, e10, hF⟩ := q_bind hF
      obtain ⟨x11, e12, hF⟩ := q_bind hF
      refine g_callVr0 (ci := 2) (q := (RX2, TX2, 3)) qm_X2_through wd_1212 wd_1214 wd_55 rfl e10 (M_X2_through l b D z nx e12) (As := [.int a2, .int a8]) rfl rfl (Nat.le_of_ble_eq_true rfl) ⟨(Nat.le_of_ble_eq_true rfl), (Nat.le_of_ble_eq_true rfl)⟩ ⟨rfl, rfl⟩ ⟨(Nat.le_of_ble_eq_true rfl), (Nat.le_of_ble_eq_true rfl)⟩ dX2_mostOfOnePerson_44 ?_
      refine g_goto 51 dX2_mostOfOnePerson_47 (by decide) ?_
      refine g_ladd dX2_mostOfOnePerson_51 ?_
      refine g_lstore [(6, .long (a6 + x11)), (0, .ref a0), (1, .ref a1), (2, .int a2), (3, .long a3), (5, .int a5), (8, .int a8)] dX2_mostOfOnePerson_52 (Nat.le_of_ble_eq_true rfl) rfl ?_
      refine g_iinc [(8, .int (a8 + 1)), (6, .long (a6 + x11)), (0, .ref a0), (1, .ref a1), (2, .int a2), (3, .long a3), (5, .int a5)] 6 dX2_mostOfOnePerson_54 rfl (congrArg (a8 + ·) lt_iconst_1) (Nat.le_of_ble_eq_true rfl) rfl ?_
      refine g_goto 18 dX2_mostOfOnePerson_57 (by decide) ?_
      cases hF
      refine g_sub [2, 3, 4, 5, 6, 1, 0] rfl ?_
      exact hback _ _ rfl
set_option maxRecDepth 100000 in
set_option maxHeartbeats 4000000 in
theorem L_X2_mostOfOnePerson_18 (l : Launch) (b : Nat) (D : va_G) (z : Nat → Nat) {Φ : Option Value → qH → Nat → Prop} {nx : Nat} {h : qH} {a0 : Nat} {a1 : Nat} {a2 : Int32} {a3 : Int64} {a5 : Int32} : ∀ (n : Nat) (a6 : Int64) (a8 : Int32) (e : Int64), q_lp (s_X2_mostOfOnePerson_18 h a0 a1 a2 a3 a5) n (a6, a8) = some e → (∀ (b6 : Int64), e = b6 → Go l b D z yX2_mostOfOnePerson cX2_mostOfOnePerson 9 (some .long) rm_X2_mostOfOnePerson Φ 60 [(0, .ref a0), (1, .ref a1), (2, .int a2), (3, .long a3), (5, .int a5), (6, .long b6)] [] h nx 0 0) → Go l b D z yX2_mostOfOnePerson cX2_mostOfOnePerson 9 (some .long) rm_X2_mostOfOnePerson Φ 18 [(0, .ref a0), (1, .ref a1), (2, .int a2), (3, .long a3), (5, .int a5), (6, .long a6), (8, .int a8)] [] h nx 0 0 := by
  intro n
  induction n with
  | zero => intro a6 a8 e he; cases (show none = some e from he)
  | succ n ih =>
    intro a6 a8 e he hx0
    obtain ⟨o, ho, h1, h2⟩ := q_lp_succ he
    exact B_X2_mostOfOnePerson_18 l b D z (show b_X2_mostOfOnePerson_18 h a0 a1 a2 a3 a5 a6 a8 = some o from ho) (fun b6 b8 hb => ih _ _ e (h1 _ hb) hx0) (fun p0 hr => hx0 p0 (h2 _ hr).symm)
set_option maxRecDepth 100000 in
set_option maxHeartbeats 4000000 in
theorem B_X2_mostOfOnePerson_5 (l : Launch) (b : Nat) (D : va_G) (z : Nat → Nat) {Φ : Option Value → qH → Nat → Prop} {nx : Nat} {h : qH} {a0 : Nat} {a1 : Nat} {a2 : Int32} {a3 : Int64} {a5 : Int32} {o : (Int64 × Int32) ⊕ Int64} (hF : b_X2_mostOfOnePerson_5 h a0 a1 a2 a3 a5 = some o) (hback : ∀ (b3 : Int64) (b5 : Int32), o = .inl (b3, b5) → Go l b D z yX2_mostOfOnePerson cX2_mostOfOnePerson 9 (some .long) rm_X2_mostOfOnePerson Φ 5 [(0, .ref a0), (1, .ref a1), (2, .int a2), (3, .long b3), (5, .int b5)] [] h nx 0 0) (hx0 : ∀ (b3 : Int64), o = .inr b3 → Go l b D z yX2_mostOfOnePerson cX2_mostOfOnePerson 9 (some .long) rm_X2_mostOfOnePerson Φ 73 [(3, .long b3)] [] h nx 0 0) : Go l b D z yX2_mostOfOnePerson cX2_mostOfOnePerson 9 (some .long) rm_X2_mostOfOnePerson Φ 5 [(0, .ref a0), (1, .ref a1), (2, .int a2), (3, .long a3), (5, .int a5)] [] h nx 0 0 := by
  unfold b_X2_mostOfOnePerson_5 at hF
  refine g_iload 4 dX2_mostOfOnePerson_5 rfl ?_
  refine g_bipush dX2_mostOfOnePerson_7 lt_bipush_6 ?_
  refine g_icmp_ge 73 dX2_mostOfOnePerson_9 (by decide) (fun c1 => ?_) (fun c1 => ?_)
  · replace hF := q_t c1 hF
    cases hF
    refine g_sub [3] rfl ?_
    exact hx0 _ rfl
  · replace hF := q_f c1 hF
    refine g_lconst (v := 0) dX2_mostOfOnePerson_12 (by decide +kernel) ?_
    refine g_lstore [(6, .long (0 : Int64)), (0, .ref a0), (1, .ref a1), (2, .int a2), (3, .long a3), (5, .int a5)] dX2_mostOfOnePerson_13 (Nat.le_of_ble_eq_true rfl) rfl ?_
    refine g_iconst dX2_mostOfOnePerson_15 lt_iconst_0 ?_
    refine g_istore [(8, .int (0 : Int32)), (6, .long (0 : Int64)), (0, .ref a0), (1, .ref a1), (2, .int a2), (3, .long a3), (5, .int a5)] dX2_mostOfOnePerson_16 (Nat.le_of_ble_eq_true rfl) rfl ?_
    obtain ⟨e2, w3, hF⟩ := q_bind hF
    refine g_sub [2, 3, 4, 5, 6, 1, 0] rfl ?_
    refine L_X2_mostOfOnePerson_18 l b D z q_N (0 : Int64) (0 : Int32) e2 w3 ?_
    · intro o4 w5
      replace w5 := w5.symm
      subst w5
      refine g_lload_n 3 dX2_mostOfOnePerson_60 rfl ?_
      refine g_lload 5 dX2_mostOfOnePerson_61 rfl ?_
      obtain ⟨x6, e7, hF⟩ := q_bind hF
      refine g_callSr0 qm_J9_max_f86c9 wd_1216 wd_1217 (M_J9_max_f86c9 l b D z nx e7) (As := [.long a3, .long o4]) rfl rfl (Nat.le_of_ble_eq_true rfl) ⟨(Nat.le_of_ble_eq_true rfl), (Nat.le_of_ble_eq_true rfl)⟩ ⟨rfl, rfl⟩ ⟨(Nat.le_of_ble_eq_true rfl), (Nat.le_of_ble_eq_true rfl)⟩ dX2_mostOfOnePerson_63 ?_
      refine g_lstore_n [(3, .long x6), (0, .ref a0), (1, .ref a1), (2, .int a2), (5, .int a5), (6, .long o4)] dX2_mostOfOnePerson_66 (Nat.le_of_ble_eq_true rfl) rfl ?_
      refine g_iinc [(5, .int (a5 + 1)), (3, .long x6), (0, .ref a0), (1, .ref a1), (2, .int a2), (6, .long o4)] 4 dX2_mostOfOnePerson_67 rfl (congrArg (a5 + ·) lt_iconst_1) (Nat.le_of_ble_eq_true rfl) rfl ?_
      refine g_goto 5 dX2_mostOfOnePerson_70 (by decide) ?_
      cases hF
      refine g_sub [2, 3, 4, 1, 0] rfl ?_
      exact hback _ _ rfl
set_option maxRecDepth 100000 in
set_option maxHeartbeats 4000000 in
theorem L_X2_mostOfOnePerson_5 (l : Launch) (b : Nat) (D : va_G) (z : Nat → Nat) {Φ : Option Value → qH → Nat → Prop} {nx : Nat} {h : qH} {a0 : Nat} {a1 : Nat} {a2 : Int32} : ∀ (n : Nat) (a3 : Int64) (a5 : Int32) (e : Int64), q_lp (s_X2_mostOfOnePerson_5 h a0 a1 a2) n (a3, a5) = some e → (∀ (b3 : Int64), e = b3 → Go l b D z yX2_mostOfOnePerson cX2_mostOfOnePerson 9 (some .long) rm_X2_mostOfOnePerson Φ 73 [(3, .long b3)] [] h nx 0 0) → Go l b D z yX2_mostOfOnePerson cX2_mostOfOnePerson 9 (some .long) rm_X2_mostOfOnePerson Φ 5 [(0, .ref a0), (1, .ref a1), (2, .int a2), (3, .long a3), (5, .int a5)] [] h nx 0 0 := by
  intro n
  induction n with
  | zero => intro a3 a5 e he; cases (show none = some e from he)
  | succ n ih =>
    intro a3 a5 e he hx0
    obtain ⟨o, ho, h1, h2⟩ := q_lp_succ he
    exact B_X2_mostOfOnePerson_5 l b D z (show b_X2_mostOfOnePerson_5 h a0 a1 a2 a3 a5 = some o from ho) (fun b3 b5 hb => ih _ _ e (h1 _ hb) hx0) (fun p0 hr => hx0 p0 (h2 _ hr).symm)
set_option maxRecDepth 100000 in
set_option maxHeartbeats 4000000 in
theorem M_X2_mostOfOnePerson (l : Launch) (b : Nat) (D : va_G) (z : Nat → Nat) (nx : Nat) {h : qH} {a0 : Nat} {a1 : Nat} {a2 : Int32} {r : Int64} (hF : F_X2_mostOfOnePerson h a0 a1 a2 = some r) : Me l b D z yX2_mostOfOnePerson cX2_mostOfOnePerson 9 (some .long) rm_X2_mostOfOnePerson [.ref a0, .ref a1, .int a2] h nx (qE (some (.long r)) h nx) := by
  refine Me.of (by decide +kernel) (Nat.le_of_ble_eq_true rfl) ?_
  show Go l b D z yX2_mostOfOnePerson cX2_mostOfOnePerson 9 (some .long) rm_X2_mostOfOnePerson (qE (some (.long r)) h nx) 0 [(0, .ref a0), (1, .ref a1), (2, .int a2)] [] h nx 0 0
  unfold F_X2_mostOfOnePerson at hF
  refine g_lconst (v := 0) dX2_mostOfOnePerson_0 (by decide +kernel) ?_
  refine g_lstore_n [(3, .long (0 : Int64)), (0, .ref a0), (1, .ref a1), (2, .int a2)] dX2_mostOfOnePerson_1 (Nat.le_of_ble_eq_true rfl) rfl ?_
  refine g_iconst dX2_mostOfOnePerson_2 lt_iconst_0 ?_
  refine g_istore [(5, .int (0 : Int32)), (3, .long (0 : Int64)), (0, .ref a0), (1, .ref a1), (2, .int a2)] dX2_mostOfOnePerson_3 (Nat.le_of_ble_eq_true rfl) rfl ?_
  obtain ⟨e1, w2, hF⟩ := q_bind hF
  refine g_sub [2, 3, 4, 1, 0] rfl ?_
  refine L_X2_mostOfOnePerson_5 l b D z q_N (0 : Int64) (0 : Int32) e1 w2 ?_
  · intro o3 w4
    replace w4 := w4.symm
    subst w4
    refine g_lload_n 0 dX2_mostOfOnePerson_73 rfl ?_
    cases hF
    exact g_lret dX2_mostOfOnePerson_74 rfl ⟨rfl, rfl, rfl⟩ (Nat.le_of_ble_eq_true rfl) (Nat.le_of_ble_eq_true rfl)
def rm_X2_bestGuess : Room := { frames := 3, cells := 0, slots := 0, locals := 73 }
set_option maxRecDepth 100000 in
set_option maxHeartbeats 4000000 in
theorem B_X2_bestGuess_14 (l : Launch) (b : Nat) (D : va_G) (z : Nat → Nat) {Φ : Option Value → qH → Nat → Prop} {nx : Nat} {h : qH} {a0 : Nat} {a1 : Nat} {a2 : Nat} {a3 : Int32} {a4 : Int64} {a6 : Int32} {o : (Int32 × Int64 × Int32) ⊕ Int32} (hF : b_X2_bestGuess_14 h a0 a1 a2 a3 a4 a6 = some o) (hback : ∀ (b3 : Int32) (b4 : Int64) (b6 : Int32), o = .inl (b3, b4, b6) → Go l b D z yX2_bestGuess cX2_bestGuess 9 (some .int) rm_X2_bestGuess Φ 14 [(0, .ref a0), (1, .ref a1), (2, .ref a2), (3, .int b3), (4, .long b4), (6, .int b6)] [] h nx 0 0) (hx0 : ∀ (b3 : Int32), o = .inr b3 → Go l b D z yX2_bestGuess cX2_bestGuess 9 (some .int) rm_X2_bestGuess Φ 70 [(3, .int b3)] [] h nx 0 0) : Go l b D z yX2_bestGuess cX2_bestGuess 9 (some .int) rm_X2_bestGuess Φ 14 [(0, .ref a0), (1, .ref a1), (2, .ref a2), (3, .int a3), (4, .long a4), (6, .int a6)] [] h nx 0 0 := by
  unfold b_X2_bestGuess_14 at hF
  refine g_iload 5 dX2_bestGuess_14 rfl ?_
  refine g_aload_n 2 dX2_bestGuess_16 rfl ?_
  obtain ⟨x1, e2, hF⟩ := q_bind hF
  refine g_getfI fl_X2_30 e2 dX2_bestGuess_17 ?_
  refine g_icmp_ge 70 dX2_bestGuess_20 (by decide) (fun c3 => ?_) (fun c3 => ?_)
  · replace hF := q_t c3 hF
    cases hF
    refine g_sub [3] rfl ?_
    exact hx0 _ rfl
  · replace hF := q_f c3 hF
    refine g_aload_n 2 dX2_bestGuess_23 rfl ?_
    refine g_iload 5 dX2_bestGuess_24 rfl ?_
    obtain ⟨u4, e5, hF⟩ := q_bind hF
    obtain ⟨x6, e7, hF⟩ := q_bind hF
    refine g_callVr0 (ci := 3) (q := (RX3, TX3, 2)) qm_X3_isGap wd_1204 wd_1205 wd_1206 rfl e5 (M_X3_isGap l b D z nx e7) (As := [.int a6]) rfl rfl (Nat.le_of_ble_eq_true rfl) ⟨(Nat.le_of_ble_eq_true rfl), (Nat.le_of_ble_eq_true rfl)⟩ ⟨rfl, rfl⟩ ⟨(Nat.le_of_ble_eq_true rfl), (Nat.le_of_ble_eq_true rfl)⟩ dX2_bestGuess_26 ?_
    refine g_if_ne 35 dX2_bestGuess_29 (by decide) (fun c8 => ?_) (fun c8 => ?_)
    · replace hF := q_f c8 hF
      refine g_aload_n 0 dX2_bestGuess_35 rfl ?_
      refine g_aload_n 1 dX2_bestGuess_36 rfl ?_
      refine g_iload 5 dX2_bestGuess_37 rfl ?_
      obtain ⟨u9, e10, hF⟩ := q_bind hF
      obtain ⟨x11, e12, hF⟩ := q_bind hF
      refine g_callVr0 (ci := 2) (q := (RX2, TX2, 3)) qm_X2_mostOfOnePerson wd_1208 wd_1210 wd_54 rfl e10 (M_X2_mostOfOnePerson l b D z nx e12) (As := [.ref a1, .int a6]) rfl rfl (Nat.le_of_ble_eq_true rfl) ⟨(Nat.le_of_ble_eq_true rfl), (Nat.le_of_ble_eq_true rfl)⟩ ⟨rfl, rfl⟩ ⟨(Nat.le_of_ble_eq_true rfl), (Nat.le_of_ble_eq_true rfl)⟩ dX2_bestGuess_39 ?_
      refine g_lstore [(7, .long x11), (0, .ref a0), (1, .ref a1), (2, .ref a2), (3, .int a3), (4, .long a4), (6, .int a6)] dX2_bestGuess_42 (Nat.le_of_ble_eq_true rfl) rfl ?_
      refine g_iload_n 4 dX2_bestGuess_44 rfl ?_
      refine g_iconst dX2_bestGuess_45 lt_iconst_m1 ?_
      refine g_icmp_eq 57 dX2_bestGuess_46 (by decide) (fun c13 => ?_) (fun c13 => ?_)
      · replace hF := q_t c13 hF
        refine g_lload 0 dX2_bestGuess_57 rfl ?_
        refine g_lstore [(4, .long x11), (7, .long x11), (0, .ref a0), (1, .ref a1), (2, .ref a2), (3, .int a3), (6, .int a6)] dX2_bestGuess_59 (Nat.le_of_ble_eq_true rfl) rfl ?_
        refine g_iload 6 dX2_bestGuess_61 rfl ?_
        refine g_istore_n [(3, .int a6), (4, .long x11), (7, .long x11), (0, .ref a0), (1, .ref a1), (2, .ref a2), (6, .int a6)] dX2_bestGuess_63 (Nat.le_of_ble_eq_true rfl) rfl ?_
        refine g_iinc [(6, .int (a6 + 1)), (3, .int a6), (4, .long x11), (7, .long x11), (0, .ref a0), (1, .ref a1), (2, .ref a2)] 6 dX2_bestGuess_64 rfl (congrArg (a6 + ·) lt_iconst_1) (Nat.le_of_ble_eq_true rfl) rfl ?_
        refine g_goto 14 dX2_bestGuess_67 (by decide) ?_
        cases hF
        refine g_sub [4, 5, 6, 1, 2, 0] rfl ?_
        exact hback _ _ _ rfl
      · replace hF := q_f c13 hF
        refine g_lload 0 dX2_bestGuess_49 rfl ?_
        refine g_lload 5 dX2_bestGuess_51 rfl ?_
        refine g_lcmp dX2_bestGuess_53 ?_
        refine g_if_ge 64 dX2_bestGuess_54 (by decide) (fun c14 => ?_) (fun c14 => ?_)
        · replace hF := q_t c14 hF
          refine g_iinc [(6, .int (a6 + 1)), (7, .long x11), (0, .ref a0), (1, .ref a1), (2, .ref a2), (3, .int a3), (4, .long a4)] 6 dX2_bestGuess_64 rfl (congrArg (a6 + ·) lt_iconst_1) (Nat.le_of_ble_eq_true rfl) rfl ?_
          refine g_goto 14 dX2_bestGuess_67 (by decide) ?_
          cases hF
          refine g_sub [2, 3, 4, 5, 6, 0] rfl ?_
          exact hback _ _ _ rfl
        · replace hF := q_f c14 hF
          refine g_lload 0 dX2_bestGuess_57 rfl ?_
          refine g_lstore [(4, .long x11), (7, .long x11), (0, .ref a0), (1, .ref a1), (2, .ref a2), (3, .int a3), (6, .int a6)] dX2_bestGuess_59 (Nat.le_of_ble_eq_true rfl) rfl ?_
          refine g_iload 6 dX2_bestGuess_61 rfl ?_
          refine g_istore_n [(3, .int a6), (4, .long x11), (7, .long x11), (0, .ref a0), (1, .ref a1), (2, .ref a2), (6, .int a6)] dX2_bestGuess_63 (Nat.le_of_ble_eq_true rfl) rfl ?_
          refine g_iinc [(6, .int (a6 + 1)), (3, .int a6), (4, .long x11), (7, .long x11), (0, .ref a0), (1, .ref a1), (2, .ref a2)] 6 dX2_bestGuess_64 rfl (congrArg (a6 + ·) lt_iconst_1) (Nat.le_of_ble_eq_true rfl) rfl ?_
          refine g_goto 14 dX2_bestGuess_67 (by decide) ?_
          cases hF
          refine g_sub [4, 5, 6, 1, 2, 0] rfl ?_
          exact hback _ _ _ rfl
    · replace hF := q_t c8 hF
      refine g_goto 64 dX2_bestGuess_32 (by decide) ?_
      refine g_iinc [(6, .int (a6 + 1)), (0, .ref a0), (1, .ref a1), (2, .ref a2), (3, .int a3), (4, .long a4)] 5 dX2_bestGuess_64 rfl (congrArg (a6 + ·) lt_iconst_1) (Nat.le_of_ble_eq_true rfl) rfl ?_
      refine g_goto 14 dX2_bestGuess_67 (by decide) ?_
      cases hF
      refine g_sub [1, 2, 3, 4, 5, 0] rfl ?_
      exact hback _ _ _ rfl
set_option maxRecDepth 100000 in
set_option maxHeartbeats 4000000 in
theorem L_X2_bestGuess_14 (l : Launch) (b : Nat) (D : va_G) (z : Nat → Nat) {Φ : Option Value → qH → Nat → Prop} {nx : Nat} {h : qH} {a0 : Nat} {a1 : Nat} {a2 : Nat} : ∀ (n : Nat) (a3 : Int32) (a4 : Int64) (a6 : Int32) (e : Int32), q_lp (s_X2_bestGuess_14 h a0 a1 a2) n (a3, a4, a6) = some e → (∀ (b3 : Int32), e = b3 → Go l b D z yX2_bestGuess cX2_bestGuess 9 (some .int) rm_X2_bestGuess Φ 70 [(3, .int b3)] [] h nx 0 0) → Go l b D z yX2_bestGuess cX2_bestGuess 9 (some .int) rm_X2_bestGuess Φ 14 [(0, .ref a0), (1, .ref a1), (2, .ref a2), (3, .int a3), (4, .long a4), (6, .int a6)] [] h nx 0 0 := by
  intro n
  induction n with
  | zero => intro a3 a4 a6 e he; cases (show none = some e from he)
  | succ n ih =>
    intro a3 a4 a6 e he hx0
    obtain ⟨o, ho, h1, h2⟩ := q_lp_succ he
    exact B_X2_bestGuess_14 l b D z (show b_X2_bestGuess_14 h a0 a1 a2 a3 a4 a6 = some o from ho) (fun b3 b4 b6 hb => ih _ _ _ e (h1 _ hb) hx0) (fun p0 hr => hx0 p0 (h2 _ hr).symm)
set_option maxRecDepth 100000 in
set_option maxHeartbeats 4000000 in
theorem M_X2_bestGuess (l : Launch) (b : Nat) (D : va_G) (z : Nat → Nat) (nx : Nat) {h : qH} {a0 : Nat} {a1 : Nat} {a2 : Nat} {r : Int32 × qH} (hF : F_X2_bestGuess h a0 a1 a2 = some r) : Me l b D z yX2_bestGuess cX2_bestGuess 9 (some .int) rm_X2_bestGuess [.ref a0, .ref a1, .ref a2] h nx (qE (some (.int r.1)) r.2 nx) := by
  refine Me.of (by decide +kernel) (Nat.le_of_ble_eq_true rfl) ?_
  show Go l b D z yX2_bestGuess cX2_bestGuess 9 (some .int) rm_X2_bestGuess (qE (some (.int r.1)) r.2 nx) 0 [(0, .ref a0), (1, .ref a1), (2, .ref a2)] [] h nx 0 0
  unfold F_X2_bestGuess at hF
  refine g_aload_n 0 dX2_bestGuess_0 rfl ?_
  refine g_aload_n 1 dX2_bestGuess_1 rfl ?_
  refine g_aload_n 2 dX2_bestGuess_2 rfl ?_
  obtain ⟨u1, e2, hF⟩ := q_bind hF
  obtain ⟨x3, e4, hF⟩ := q_bind hF
  refine g_callVv0 (ci := 2) (q := (RX2, TX2, 3)) qm_X2_countUpTo wd_1199 wd_1201 wd_53 rfl e2 (M_X2_countUpTo l b D z nx e4) (As := [.ref a1, .ref a2]) rfl rfl (Nat.le_of_ble_eq_true rfl) ⟨(Nat.le_of_ble_eq_true rfl), (Nat.le_of_ble_eq_true rfl)⟩ ⟨rfl, rfl⟩ ⟨(Nat.le_of_ble_eq_true rfl), (Nat.le_of_ble_eq_true rfl)⟩ dX2_bestGuess_3 ?_
  refine g_iconst dX2_bestGuess_6 lt_iconst_m1 ?_
  refine g_istore_n [(3, .int (-1 : Int32)), (0, .ref a0), (1, .ref a1), (2, .ref a2)] dX2_bestGuess_7 (Nat.le_of_ble_eq_true rfl) rfl ?_
  refine g_lconst (v := 0) dX2_bestGuess_8 (by decide +kernel) ?_
  refine g_lstore [(4, .long (0 : Int64)), (3, .int (-1 : Int32)), (0, .ref a0), (1, .ref a1), (2, .ref a2)] dX2_bestGuess_9 (Nat.le_of_ble_eq_true rfl) rfl ?_
  refine g_iconst dX2_bestGuess_11 lt_iconst_0 ?_
  refine g_istore [(6, .int (0 : Int32)), (4, .long (0 : Int64)), (3, .int (-1 : Int32)), (0, .ref a0), (1, .ref a1), (2, .ref a2)] dX2_bestGuess_12 (Nat.le_of_ble_eq_true rfl) rfl ?_
  obtain ⟨e5, w6, hF⟩ := q_bind hF
  refine g_sub [3, 4, 5, 2, 1, 0] rfl ?_
  refine L_X2_bestGuess_14 l b D z q_N (-1 : Int32) (0 : Int64) (0 : Int32) e5 w6 ?_
  · intro o7 w8
    replace w8 := w8.symm
    subst w8
    refine g_iload_n 0 dX2_bestGuess_70 rfl ?_
    cases hF
    exact g_iret dX2_bestGuess_71 rfl ⟨rfl, rfl, rfl⟩ (Nat.le_of_ble_eq_true rfl) (Nat.le_of_ble_eq_true rfl)
def rm_X2_firstWayAt : Room := { frames := 1, cells := 0, slots := 0, locals := 23 }
set_option maxRecDepth 100000 in
set_option maxHeartbeats 4000000 in
theorem B_X2_firstWayAt_17 (l : Launch) (b : Nat) (D : va_G) (z : Nat → Nat) {Φ : Option Value → qH → Nat → Prop} {nx : Nat} {h : qH} {a0 : Nat} {a1 : Nat} {a2 : Int32} {a3 : Int32} {a4 : Int32} {a5 : Int32} {a6 : Int32} {o : (Int32 × Int32) ⊕ Int32} (hF : b_X2_firstWayAt_17 h a0 a1 a2 a3 a4 a5 a6 = some o) (hback : ∀ (b5 : Int32) (b6 : Int32), o = .inl (b5, b6) → Go l b D z yX2_firstWayAt cX2_firstWayAt 8 (some .int) rm_X2_firstWayAt Φ 17 [(0, .ref a0), (1, .ref a1), (2, .int a2), (3, .int a3), (4, .int a4), (5, .int b5), (6, .int b6)] [] h nx 0 0) (hx0 : ∀ (b5 : Int32), o = .inr b5 → Go l b D z yX2_firstWayAt cX2_firstWayAt 8 (some .int) rm_X2_firstWayAt Φ 75 [(0, .ref a0), (1, .ref a1), (2, .int a2), (4, .int a4), (5, .int b5)] [] h nx 0 0) : Go l b D z yX2_firstWayAt cX2_firstWayAt 8 (some .int) rm_X2_firstWayAt Φ 17 [(0, .ref a0), (1, .ref a1), (2, .int a2), (3, .int a3), (4, .int a4), (5, .int a5), (6, .int a6)] [] h nx 0 0 := by
  unfold b_X2_firstWayAt_17 at hF
  refine g_iload 6 dX2_firstWayAt_17 rfl ?_
  refine g_aload_n 1 dX2_firstWayAt_19 rfl ?_
  refine g_iload_n 3 dX2_firstWayAt_20 rfl ?_
  obtain ⟨u1, e2, hF⟩ := q_bind hF
  obtain ⟨x3, e4, hF⟩ := q_bind hF
  refine g_callVr0 (ci := 0) (q := (RX0, TX0, 15)) qm_X0_howManyFollow wd_1183 wd_791 wd_792 rfl e2 (M_X0_howManyFollow l b D z nx e4) (As := [.int a3]) rfl rfl (Nat.le_of_ble_eq_true rfl) ⟨(Nat.le_of_ble_eq_true rfl), (Nat.le_of_ble_eq_true rfl)⟩ ⟨rfl, rfl⟩ ⟨(Nat.le_of_ble_eq_true rfl), (Nat.le_of_ble_eq_true rfl)⟩ dX2_firstWayAt_21 ?_
  refine g_icmp_ge 75 dX2_firstWayAt_24 (by decide) (fun c5 => ?_) (fun c5 => ?_)
  · replace hF := q_t c5 hF
    cases hF
    refine g_sub [0, 1, 2, 4, 5] rfl ?_
    exact hx0 _ rfl
  · replace hF := q_f c5 hF
    refine g_aload_n 1 dX2_firstWayAt_27 rfl ?_
    refine g_iload_n 3 dX2_firstWayAt_28 rfl ?_
    refine g_iload 6 dX2_firstWayAt_29 rfl ?_
    obtain ⟨u6, e7, hF⟩ := q_bind hF
    obtain ⟨x8, e9, hF⟩ := q_bind hF
    refine g_callVr0 (ci := 0) (q := (RX0, TX0, 15)) qm_X0_following wd_1184 wd_795 wd_796 rfl e7 (M_X0_following l b D z nx e9) (As := [.int a3, .int a6]) rfl rfl (Nat.le_of_ble_eq_true rfl) ⟨(Nat.le_of_ble_eq_true rfl), (Nat.le_of_ble_eq_true rfl)⟩ ⟨rfl, rfl⟩ ⟨(Nat.le_of_ble_eq_true rfl), (Nat.le_of_ble_eq_true rfl)⟩ dX2_firstWayAt_31 ?_
    refine g_istore [(7, .int x8), (0, .ref a0), (1, .ref a1), (2, .int a2), (3, .int a3), (4, .int a4), (5, .int a5), (6, .int a6)] dX2_firstWayAt_34 (Nat.le_of_ble_eq_true rfl) rfl ?_
    refine g_aload_n 1 dX2_firstWayAt_36 rfl ?_
    obtain ⟨x10, e11, hF⟩ := q_bind hF
    refine g_getfR fl_X2_15 e11 dX2_firstWayAt_37 ?_
    refine g_iload 5 dX2_firstWayAt_40 rfl ?_
    refine g_iload 0 dX2_firstWayAt_42 rfl ?_
    obtain ⟨x12, e13, hF⟩ := q_bind hF
    refine g_callSr0 qm_X2_at wd_1185 wd_1186 (M_X2_at l b D z nx e13) (As := [.ref x10, .int a4, .int x8]) rfl rfl (Nat.le_of_ble_eq_true rfl) ⟨(Nat.le_of_ble_eq_true rfl), (Nat.le_of_ble_eq_true rfl)⟩ ⟨rfl, rfl⟩ ⟨(Nat.le_of_ble_eq_true rfl), (Nat.le_of_ble_eq_true rfl)⟩ dX2_firstWayAt_44 ?_
    refine g_lconst (v := 0) dX2_firstWayAt_47 (by decide +kernel) ?_
    refine g_lcmp dX2_firstWayAt_48 ?_
    refine g_if_le 69 dX2_firstWayAt_49 (by decide) (fun c14 => ?_) (fun c14 => ?_)
    · replace hF := q_t c14 hF
      refine g_iinc [(6, .int (a6 + 1)), (7, .int x8), (0, .ref a0), (1, .ref a1), (2, .int a2), (3, .int a3), (4, .int a4), (5, .int a5)] 7 dX2_firstWayAt_69 rfl (congrArg (a6 + ·) lt_iconst_1) (Nat.le_of_ble_eq_true rfl) rfl ?_
      refine g_goto 17 dX2_firstWayAt_72 (by decide) ?_
      cases hF
      refine g_sub [2, 3, 4, 5, 6, 7, 0] rfl ?_
      exact hback _ _ rfl
    · replace hF := q_f c14 hF
      refine g_iload 6 dX2_firstWayAt_52 rfl ?_
      refine g_iconst dX2_firstWayAt_54 lt_iconst_m1 ?_
      refine g_icmp_eq 65 dX2_firstWayAt_55 (by decide) (fun c15 => ?_) (fun c15 => ?_)
      · replace hF := q_t c15 hF
        refine g_iload 0 dX2_firstWayAt_65 rfl ?_
        refine g_istore [(5, .int x8), (7, .int x8), (0, .ref a0), (1, .ref a1), (2, .int a2), (3, .int a3), (4, .int a4), (6, .int a6)] dX2_firstWayAt_67 (Nat.le_of_ble_eq_true rfl) rfl ?_
        refine g_iinc [(6, .int (a6 + 1)), (5, .int x8), (7, .int x8), (0, .ref a0), (1, .ref a1), (2, .int a2), (3, .int a3), (4, .int a4)] 7 dX2_firstWayAt_69 rfl (congrArg (a6 + ·) lt_iconst_1) (Nat.le_of_ble_eq_true rfl) rfl ?_
        refine g_goto 17 dX2_firstWayAt_72 (by decide) ?_
        cases hF
        refine g_sub [3, 4, 5, 6, 7, 1, 0] rfl ?_
        exact hback _ _ rfl
      · replace hF := q_f c15 hF
        refine g_iload 0 dX2_firstWayAt_58 rfl ?_
        refine g_iload 6 dX2_firstWayAt_60 rfl ?_
        refine g_icmp_ge 69 dX2_firstWayAt_62 (by decide) (fun c16 => ?_) (fun c16 => ?_)
        · replace hF := q_t c16 hF
          refine g_iinc [(6, .int (a6 + 1)), (7, .int x8), (0, .ref a0), (1, .ref a1), (2, .int a2), (3, .int a3), (4, .int a4), (5, .int a5)] 7 dX2_firstWayAt_69 rfl (congrArg (a6 + ·) lt_iconst_1) (Nat.le_of_ble_eq_true rfl) rfl ?_
          refine g_goto 17 dX2_firstWayAt_72 (by decide) ?_
          cases hF
          refine g_sub [2, 3, 4, 5, 6, 7, 0] rfl ?_
          exact hback _ _ rfl
        · replace hF := q_f c16 hF
          refine g_iload 0 dX2_firstWayAt_65 rfl ?_
          refine g_istore [(5, .int x8), (7, .int x8), (0, .ref a0), (1, .ref a1), (2, .int a2), (3, .int a3), (4, .int a4), (6, .int a6)] dX2_firstWayAt_67 (Nat.le_of_ble_eq_true rfl) rfl ?_
          refine g_iinc [(6, .int (a6 + 1)), (5, .int x8), (7, .int x8), (0, .ref a0), (1, .ref a1), (2, .int a2), (3, .int a3), (4, .int a4)] 7 dX2_firstWayAt_69 rfl (congrArg (a6 + ·) lt_iconst_1) (Nat.le_of_ble_eq_true rfl) rfl ?_
          refine g_goto 17 dX2_firstWayAt_72 (by decide) ?_
          cases hF
          refine g_sub [3, 4, 5, 6, 7, 1, 0] rfl ?_
          exact hback _ _ rfl
set_option maxRecDepth 100000 in
set_option maxHeartbeats 4000000 in
theorem L_X2_firstWayAt_17 (l : Launch) (b : Nat) (D : va_G) (z : Nat → Nat) {Φ : Option Value → qH → Nat → Prop} {nx : Nat} {h : qH} {a0 : Nat} {a1 : Nat} {a2 : Int32} {a3 : Int32} {a4 : Int32} : ∀ (n : Nat) (a5 : Int32) (a6 : Int32) (e : Int32), q_lp (s_X2_firstWayAt_17 h a0 a1 a2 a3 a4) n (a5, a6) = some e → (∀ (b5 : Int32), e = b5 → Go l b D z yX2_firstWayAt cX2_firstWayAt 8 (some .int) rm_X2_firstWayAt Φ 75 [(0, .ref a0), (1, .ref a1), (2, .int a2), (4, .int a4), (5, .int b5)] [] h nx 0 0) → Go l b D z yX2_firstWayAt cX2_firstWayAt 8 (some .int) rm_X2_firstWayAt Φ 17 [(0, .ref a0), (1, .ref a1), (2, .int a2), (3, .int a3), (4, .int a4), (5, .int a5), (6, .int a6)] [] h nx 0 0 := by
  intro n
  induction n with
  | zero => intro a5 a6 e he; cases (show none = some e from he)
  | succ n ih =>
    intro a5 a6 e he hx0
    obtain ⟨o, ho, h1, h2⟩ := q_lp_succ he
    exact B_X2_firstWayAt_17 l b D z (show b_X2_firstWayAt_17 h a0 a1 a2 a3 a4 a5 a6 = some o from ho) (fun b5 b6 hb => ih _ _ e (h1 _ hb) hx0) (fun p0 hr => hx0 p0 (h2 _ hr).symm)
set_option maxRecDepth 100000 in
set_option maxHeartbeats 4000000 in
theorem B_X2_firstWayAt_5 (l : Launch) (b : Nat) (D : va_G) (z : Nat → Nat) {Φ : Option Value → qH → Nat → Prop} {nx : Nat} {h : qH} {a0 : Nat} {a1 : Nat} {a2 : Int32} {a3 : Int32} {a4 : Int32} {o : (Int32 × Int32) ⊕ Int32} (hF : b_X2_firstWayAt_5 h a0 a1 a2 a3 a4 = some o) (hback : ∀ (b3 : Int32) (b4 : Int32), o = .inl (b3, b4) → Go l b D z yX2_firstWayAt cX2_firstWayAt 8 (some .int) rm_X2_firstWayAt Φ 5 [(0, .ref a0), (1, .ref a1), (2, .int a2), (3, .int b3), (4, .int b4)] [] h nx 0 0) (hx0 : ∀ (b3 : Int32), o = .inr b3 → Go l b D z yX2_firstWayAt cX2_firstWayAt 8 (some .int) rm_X2_firstWayAt Φ 84 [(3, .int b3)] [] h nx 0 0) : Go l b D z yX2_firstWayAt cX2_firstWayAt 8 (some .int) rm_X2_firstWayAt Φ 5 [(0, .ref a0), (1, .ref a1), (2, .int a2), (3, .int a3), (4, .int a4)] [] h nx 0 0 := by
  unfold b_X2_firstWayAt_5 at hF
  refine g_iload 4 dX2_firstWayAt_5 rfl ?_
  refine g_iload_n 2 dX2_firstWayAt_7 rfl ?_
  refine g_icmp_gt 84 dX2_firstWayAt_8 (by decide) (fun c1 => ?_) (fun c1 => ?_)
  · replace hF := q_t c1 hF
    cases hF
    refine g_sub [3] rfl ?_
    exact hx0 _ rfl
  · replace hF := q_f c1 hF
    refine g_iconst dX2_firstWayAt_11 lt_iconst_m1 ?_
    refine g_istore [(5, .int (-1 : Int32)), (0, .ref a0), (1, .ref a1), (2, .int a2), (3, .int a3), (4, .int a4)] dX2_firstWayAt_12 (Nat.le_of_ble_eq_true rfl) rfl ?_
    refine g_iconst dX2_firstWayAt_14 lt_iconst_0 ?_
    refine g_istore [(6, .int (0 : Int32)), (5, .int (-1 : Int32)), (0, .ref a0), (1, .ref a1), (2, .int a2), (3, .int a3), (4, .int a4)] dX2_firstWayAt_15 (Nat.le_of_ble_eq_true rfl) rfl ?_
    obtain ⟨e2, w3, hF⟩ := q_bind hF
    refine g_sub [2, 3, 4, 5, 6, 1, 0] rfl ?_
    refine L_X2_firstWayAt_17 l b D z q_N (-1 : Int32) (0 : Int32) e2 w3 ?_
    · intro o4 w5
      replace w5 := w5.symm
      subst w5
      refine g_iload 4 dX2_firstWayAt_75 rfl ?_
      refine g_istore_n [(3, .int o4), (0, .ref a0), (1, .ref a1), (2, .int a2), (4, .int a4), (5, .int o4)] dX2_firstWayAt_77 (Nat.le_of_ble_eq_true rfl) rfl ?_
      refine g_iinc [(4, .int (a4 + 1)), (3, .int o4), (0, .ref a0), (1, .ref a1), (2, .int a2), (5, .int o4)] 4 dX2_firstWayAt_78 rfl (congrArg (a4 + ·) lt_iconst_1) (Nat.le_of_ble_eq_true rfl) rfl ?_
      refine g_goto 5 dX2_firstWayAt_81 (by decide) ?_
      cases hF
      refine g_sub [2, 3, 4, 1, 0] rfl ?_
      exact hback _ _ rfl
set_option maxRecDepth 100000 in
set_option maxHeartbeats 4000000 in
theorem L_X2_firstWayAt_5 (l : Launch) (b : Nat) (D : va_G) (z : Nat → Nat) {Φ : Option Value → qH → Nat → Prop} {nx : Nat} {h : qH} {a0 : Nat} {a1 : Nat} {a2 : Int32} : ∀ (n : Nat) (a3 : Int32) (a4 : Int32) (e : Int32), q_lp (s_X2_firstWayAt_5 h a0 a1 a2) n (a3, a4) = some e → (∀ (b3 : Int32), e = b3 → Go l b D z yX2_firstWayAt cX2_firstWayAt 8 (some .int) rm_X2_firstWayAt Φ 84 [(3, .int b3)] [] h nx 0 0) → Go l b D z yX2_firstWayAt cX2_firstWayAt 8 (some .int) rm_X2_firstWayAt Φ 5 [(0, .ref a0), (1, .ref a1), (2, .int a2), (3, .int a3), (4, .int a4)] [] h nx 0 0 := by
  intro n
  induction n with
  | zero => intro a3 a4 e he; cases (show none = some e from he)
  | succ n ih =>
    intro a3 a4 e he hx0
    obtain ⟨o, ho, h1, h2⟩ := q_lp_succ he
    exact B_X2_firstWayAt_5 l b D z (show b_X2_firstWayAt_5 h a0 a1 a2 a3 a4 = some o from ho) (fun b3 b4 hb => ih _ _ e (h1 _ hb) hx0) (fun p0 hr => hx0 p0 (h2 _ hr).symm)
set_option maxRecDepth 100000 in
set_option maxHeartbeats 4000000 in
theorem M_X2_firstWayAt (l : Launch) (b : Nat) (D : va_G) (z : Nat → Nat) (nx : Nat) {h : qH} {a0 : Nat} {a1 : Nat} {a2 : Int32} {r : Int32} (hF : F_X2_firstWayAt h a0 a1 a2 = some r) : Me l b D z yX2_firstWayAt cX2_firstWayAt 8 (some .int) rm_X2_firstWayAt [.ref a0, .ref a1, .int a2] h nx (qE (some (.int r)) h nx) := by
  refine Me.of (by decide +kernel) (Nat.le_of_ble_eq_true rfl) ?_
  show Go l b D z yX2_firstWayAt cX2_firstWayAt 8 (some .int) rm_X2_firstWayAt (qE (some (.int r)) h nx) 0 [(0, .ref a0), (1, .ref a1), (2, .int a2)] [] h nx 0 0
  unfold F_X2_firstWayAt at hF
  refine g_iconst dX2_firstWayAt_0 lt_iconst_0 ?_
  refine g_istore_n [(3, .int (0 : Int32)), (0, .ref a0), (1, .ref a1), (2, .int a2)] dX2_firstWayAt_1 (Nat.le_of_ble_eq_true rfl) rfl ?_
  refine g_iconst dX2_firstWayAt_2 lt_iconst_1 ?_
  refine g_istore [(4, .int (1 : Int32)), (3, .int (0 : Int32)), (0, .ref a0), (1, .ref a1), (2, .int a2)] dX2_firstWayAt_3 (Nat.le_of_ble_eq_true rfl) rfl ?_
  obtain ⟨e1, w2, hF⟩ := q_bind hF
  refine g_sub [2, 3, 4, 1, 0] rfl ?_
  refine L_X2_firstWayAt_5 l b D z q_N (0 : Int32) (1 : Int32) e1 w2 ?_
  · intro o3 w4
    replace w4 := w4.symm
    subst w4
    refine g_iload_n 0 dX2_firstWayAt_84 rfl ?_
    cases hF
    exact g_iret dX2_firstWayAt_85 rfl ⟨rfl, rfl, rfl⟩ (Nat.le_of_ble_eq_true rfl) (Nat.le_of_ble_eq_true rfl)
def rm_X2_sureAt : Room := { frames := 3, cells := 0, slots := 0, locals := 69 }
set_option maxRecDepth 100000 in
set_option maxHeartbeats 4000000 in
theorem B_X2_sureAt_9 (l : Launch) (b : Nat) (D : va_G) (z : Nat → Nat) {Φ : Option Value → qH → Nat → Prop} {nx : Nat} {h : qH} {a0 : Nat} {a1 : Nat} {a3 : Int32} {a4 : Int32} {o : Int32 ⊕ (Int32 ⊕ Unit)} (hF : b_X2_sureAt_9 h a0 a1 a3 a4 = some o) (hback : ∀ (b4 : Int32), o = .inl b4 → Go l b D z yX2_sureAt cX2_sureAt 5 (some .int) rm_X2_sureAt Φ 9 [(0, .ref a0), (1, .ref a1), (3, .int a3), (4, .int b4)] [] h nx 0 0) (hx0 : ∀ (b4 : Int32), o = .inr (.inl b4) → Go l b D z yX2_sureAt cX2_sureAt 5 (some .int) rm_X2_sureAt Φ 38 [(4, .int b4)] [] h nx 0 0) (hx1 : o = .inr (.inr ()) → Go l b D z yX2_sureAt cX2_sureAt 5 (some .int) rm_X2_sureAt Φ 47 [] [] h nx 0 0) : Go l b D z yX2_sureAt cX2_sureAt 5 (some .int) rm_X2_sureAt Φ 9 [(0, .ref a0), (1, .ref a1), (3, .int a3), (4, .int a4)] [] h nx 0 0 := by
  unfold b_X2_sureAt_9 at hF
  refine g_iload 3 dX2_sureAt_9 rfl ?_
  refine g_aload_n 1 dX2_sureAt_11 rfl ?_
  obtain ⟨x1, e2, hF⟩ := q_bind hF
  refine g_getfI fl_X2_59 e2 dX2_sureAt_12 ?_
  refine g_icmp_ge 47 dX2_sureAt_15 (by decide) (fun c3 => ?_) (fun c3 => ?_)
  · replace hF := q_t c3 hF
    cases hF
    refine g_sub [] rfl ?_
    exact hx1  rfl
  · replace hF := q_f c3 hF
    refine g_aload_n 0 dX2_sureAt_18 rfl ?_
    refine g_iload_n 2 dX2_sureAt_19 rfl ?_
    refine g_iload 3 dX2_sureAt_20 rfl ?_
    obtain ⟨u4, e5, hF⟩ := q_bind hF
    obtain ⟨x6, e7, hF⟩ := q_bind hF
    refine g_callVr0 (ci := 2) (q := (RX2, TX2, 3)) qm_X2_through wd_1212 wd_1214 wd_55 rfl e5 (M_X2_through l b D z nx e7) (As := [.int a3, .int a4]) rfl rfl (Nat.le_of_ble_eq_true rfl) ⟨(Nat.le_of_ble_eq_true rfl), (Nat.le_of_ble_eq_true rfl)⟩ ⟨rfl, rfl⟩ ⟨(Nat.le_of_ble_eq_true rfl), (Nat.le_of_ble_eq_true rfl)⟩ dX2_sureAt_22 ?_
    refine g_aload_n 0 dX2_sureAt_25 rfl ?_
    obtain ⟨x8, e9, hF⟩ := q_bind hF
    refine g_getfR fl_X2_15 e9 dX2_sureAt_26 ?_
    refine g_iconst dX2_sureAt_29 lt_iconst_0 ?_
    refine g_iconst dX2_sureAt_30 lt_iconst_0 ?_
    obtain ⟨x10, e11, hF⟩ := q_bind hF
    refine g_callSr0 qm_X2_at wd_1185 wd_1186 (M_X2_at l b D z nx e11) (As := [.ref x8, .int (0 : Int32), .int (0 : Int32)]) rfl rfl (Nat.le_of_ble_eq_true rfl) ⟨(Nat.le_of_ble_eq_true rfl), (Nat.le_of_ble_eq_true rfl)⟩ ⟨rfl, rfl⟩ ⟨(Nat.le_of_ble_eq_true rfl), (Nat.le_of_ble_eq_true rfl)⟩ dX2_sureAt_31 ?_
    refine g_lcmp dX2_sureAt_34 ?_
    refine g_if_ne 41 dX2_sureAt_35 (by decide) (fun c12 => ?_) (fun c12 => ?_)
    · replace hF := q_f c12 hF
      refine g_iinc [(4, .int (a4 + 1)), (0, .ref a0), (1, .ref a1), (3, .int a3)] 3 dX2_sureAt_41 rfl (congrArg (a4 + ·) lt_iconst_1) (Nat.le_of_ble_eq_true rfl) rfl ?_
      refine g_goto 9 dX2_sureAt_44 (by decide) ?_
      cases hF
      refine g_sub [1, 2, 3, 0] rfl ?_
      exact hback _ rfl
    · replace hF := q_t c12 hF
      cases hF
      refine g_sub [3] rfl ?_
      exact hx0 _ rfl
set_option maxRecDepth 100000 in
set_option maxHeartbeats 4000000 in
theorem L_X2_sureAt_9 (l : Launch) (b : Nat) (D : va_G) (z : Nat → Nat) {Φ : Option Value → qH → Nat → Prop} {nx : Nat} {h : qH} {a0 : Nat} {a1 : Nat} {a3 : Int32} : ∀ (n : Nat) (a4 : Int32) (e : Int32 ⊕ Unit), q_lp (s_X2_sureAt_9 h a0 a1 a3) n a4 = some e → (∀ (b4 : Int32), e = (.inl b4) → Go l b D z yX2_sureAt cX2_sureAt 5 (some .int) rm_X2_sureAt Φ 38 [(4, .int b4)] [] h nx 0 0) → (e = (.inr ()) → Go l b D z yX2_sureAt cX2_sureAt 5 (some .int) rm_X2_sureAt Φ 47 [] [] h nx 0 0) → Go l b D z yX2_sureAt cX2_sureAt 5 (some .int) rm_X2_sureAt Φ 9 [(0, .ref a0), (1, .ref a1), (3, .int a3), (4, .int a4)] [] h nx 0 0 := by
  intro n
  induction n with
  | zero => intro a4 e he; cases (show none = some e from he)
  | succ n ih =>
    intro a4 e he hx0 hx1
    obtain ⟨o, ho, h1, h2⟩ := q_lp_succ he
    exact B_X2_sureAt_9 l b D z (show b_X2_sureAt_9 h a0 a1 a3 a4 = some o from ho) (fun b4 hb => ih _ e (h1 _ hb) hx0 hx1) (fun p0 hr => hx0 p0 (h2 _ hr).symm) (fun  hr => hx1  (h2 _ hr).symm)
set_option maxRecDepth 100000 in
set_option maxHeartbeats 4000000 in
theorem M_X2_sureAt (l : Launch) (b : Nat) (D : va_G) (z : Nat → Nat) (nx : Nat) {h : qH} {a0 : Nat} {a1 : Nat} {a2 : Nat} {a3 : Int32} {r : Int32 × qH} (hF : F_X2_sureAt h a0 a1 a2 a3 = some r) : Me l b D z yX2_sureAt cX2_sureAt 5 (some .int) rm_X2_sureAt [.ref a0, .ref a1, .ref a2, .int a3] h nx (qE (some (.int r.1)) r.2 nx) := by
  refine Me.of (by decide +kernel) (Nat.le_of_ble_eq_true rfl) ?_
  show Go l b D z yX2_sureAt cX2_sureAt 5 (some .int) rm_X2_sureAt (qE (some (.int r.1)) r.2 nx) 0 [(0, .ref a0), (1, .ref a1), (2, .ref a2), (3, .int a3)] [] h nx 0 0
  unfold F_X2_sureAt at hF
  refine g_aload_n 0 dX2_sureAt_0 rfl ?_
  refine g_aload_n 1 dX2_sureAt_1 rfl ?_
  refine g_aload_n 2 dX2_sureAt_2 rfl ?_
  obtain ⟨u1, e2, hF⟩ := q_bind hF
  obtain ⟨x3, e4, hF⟩ := q_bind hF
  refine g_callVv0 (ci := 2) (q := (RX2, TX2, 3)) qm_X2_countUpTo wd_1199 wd_1201 wd_53 rfl e2 (M_X2_countUpTo l b D z nx e4) (As := [.ref a1, .ref a2]) rfl rfl (Nat.le_of_ble_eq_true rfl) ⟨(Nat.le_of_ble_eq_true rfl), (Nat.le_of_ble_eq_true rfl)⟩ ⟨rfl, rfl⟩ ⟨(Nat.le_of_ble_eq_true rfl), (Nat.le_of_ble_eq_true rfl)⟩ dX2_sureAt_3 ?_
  refine g_iconst dX2_sureAt_6 lt_iconst_0 ?_
  refine g_istore [(4, .int (0 : Int32)), (0, .ref a0), (1, .ref a1), (2, .ref a2), (3, .int a3)] dX2_sureAt_7 (Nat.le_of_ble_eq_true rfl) rfl ?_
  obtain ⟨e5, w6, hF⟩ := q_bind hF
  refine g_sub [1, 2, 4, 0] rfl ?_
  refine L_X2_sureAt_9 l b D z q_N (0 : Int32) e5 w6 ?_ ?_
  · intro o7 w8
    replace w8 := w8.symm
    subst w8
    replace hF := q_sl hF
    refine g_iload 0 dX2_sureAt_38 rfl ?_
    cases hF
    exact g_iret dX2_sureAt_40 rfl ⟨rfl, rfl, rfl⟩ (Nat.le_of_ble_eq_true rfl) (Nat.le_of_ble_eq_true rfl)
  · intro  w10
    replace w10 := w10.symm
    subst w10
    replace hF := q_sr hF
    refine g_iconst dX2_sureAt_47 lt_iconst_m1 ?_
    cases hF
    exact g_iret dX2_sureAt_48 rfl ⟨rfl, rfl, rfl⟩ (Nat.le_of_ble_eq_true rfl) (Nat.le_of_ble_eq_true rfl)
def rm_X2_show : Room := { frames := 5, cells := 0, slots := 0, locals := 117 }
set_option maxRecDepth 100000 in
set_option maxHeartbeats 4000000 in
theorem J_X2_show_174 (l : Launch) (b : Nat) (D : va_G) (z : Nat → Nat) {nx : Nat} {h : qH} {a0 : Nat} {a1 : Nat} {a2 : Nat} {a3 : Int32} {a4 : Int64} {a6 : Int32} {r : Int64 × qH} (hF : j_X2_show_174 h a0 a1 a2 a3 a4 a6  = some r) : Go l b D z yX2_show cX2_show 8 (some .long) rm_X2_show (qE (some (.long r.1)) r.2 nx) 174 [(0, .ref a0), (1, .ref a1), (2, .ref a2), (3, .int a3), (4, .long a4), (6, .int a6)] [] h nx 0 0 := by
  unfold j_X2_show_174 at hF
  refine g_lload 4 dX2_show_174 rfl ?_
  refine g_lconst (v := 0) dX2_show_176 (by decide +kernel) ?_
  refine g_lcmp dX2_show_177 ?_
  refine g_if_ne 185 dX2_show_178 (by decide) (fun c1 => ?_) (fun c1 => ?_)
  · replace hF := q_f c1 hF
    refine g_iload 5 dX2_show_185 rfl ?_
    refine g_if_eq 203 dX2_show_187 (by decide) (fun c2 => ?_) (fun c2 => ?_)
    · replace hF := q_t c2 hF
      refine g_aload_n 0 dX2_show_203 rfl ?_
      refine g_aload_n 1 dX2_show_204 rfl ?_
      refine g_aload_n 2 dX2_show_205 rfl ?_
      refine g_iload_n 3 dX2_show_206 rfl ?_
      refine g_bipush dX2_show_207 lt_bipush_30 ?_
      refine g_isub dX2_show_209 ?_
      obtain ⟨u3, e4, hF⟩ := q_bind hF
      obtain ⟨x5, e6, hF⟩ := q_bind hF
      refine g_callVr0 (ci := 2) (q := (RX2, TX2, 3)) qm_X2_sureAt wd_1225 wd_1227 wd_57 rfl e4 (M_X2_sureAt l b D z nx e6) (As := [.ref a1, .ref a2, .int (a3 - (30 : Int32))]) rfl rfl (Nat.le_of_ble_eq_true rfl) ⟨(Nat.le_of_ble_eq_true rfl), (Nat.le_of_ble_eq_true rfl)⟩ ⟨rfl, rfl⟩ ⟨(Nat.le_of_ble_eq_true rfl), (Nat.le_of_ble_eq_true rfl)⟩ dX2_show_210 ?_
      refine g_i2l dX2_show_213 ?_
      cases hF
      exact g_lret dX2_show_214 rfl ⟨rfl, rfl, rfl⟩ (Nat.le_of_ble_eq_true rfl) (Nat.le_of_ble_eq_true rfl)
    · replace hF := q_f c2 hF
      refine g_aload_n 0 dX2_show_190 rfl ?_
      refine g_aload_n 1 dX2_show_191 rfl ?_
      refine g_iload_n 3 dX2_show_192 rfl ?_
      refine g_bipush dX2_show_193 lt_bipush_10 ?_
      refine g_isub dX2_show_195 ?_
      obtain ⟨u7, e8, hF⟩ := q_bind hF
      obtain ⟨x9, e10, hF⟩ := q_bind hF
      refine g_callVr0 (ci := 2) (q := (RX2, TX2, 3)) qm_X2_firstWayAt wd_1221 wd_1223 wd_56 rfl e8 (M_X2_firstWayAt l b D z nx e10) (As := [.ref a1, .int (a3 - (10 : Int32))]) rfl rfl (Nat.le_of_ble_eq_true rfl) ⟨(Nat.le_of_ble_eq_true rfl), (Nat.le_of_ble_eq_true rfl)⟩ ⟨rfl, rfl⟩ ⟨(Nat.le_of_ble_eq_true rfl), (Nat.le_of_ble_eq_true rfl)⟩ dX2_show_196 ?_
      refine g_i2l dX2_show_199 ?_
      refine g_goto 214 dX2_show_200 (by decide) ?_
      cases hF
      exact g_lret dX2_show_214 rfl ⟨rfl, rfl, rfl⟩ (Nat.le_of_ble_eq_true rfl) (Nat.le_of_ble_eq_true rfl)
  · replace hF := q_t c1 hF
    refine g_ldc2 dX2_show_181 wd_1194 ?_
    cases hF
    exact g_lret dX2_show_184 rfl ⟨rfl, rfl, rfl⟩ (Nat.le_of_ble_eq_true rfl) (Nat.le_of_ble_eq_true rfl)
set_option maxRecDepth 100000 in
set_option maxHeartbeats 4000000 in
theorem J_X2_show_158 (l : Launch) (b : Nat) (D : va_G) (z : Nat → Nat) {nx : Nat} {h : qH} {a0 : Nat} {a1 : Nat} {a2 : Nat} {a3 : Int32} {a4 : Int64} {a6 : Int32} {t0 : Int32} {r : Int64 × qH} (hF : j_X2_show_158 h a0 a1 a2 a3 a4 a6 t0 = some r) : Go l b D z yX2_show cX2_show 8 (some .long) rm_X2_show (qE (some (.long r.1)) r.2 nx) 158 [(0, .ref a0), (1, .ref a1), (2, .ref a2), (3, .int a3), (4, .long a4), (6, .int a6)] [.int t0] h nx 0 0 := by
  unfold j_X2_show_158 at hF
  refine g_istore [(7, .int t0), (0, .ref a0), (1, .ref a1), (2, .ref a2), (3, .int a3), (4, .long a4), (6, .int a6)] dX2_show_158 (Nat.le_of_ble_eq_true rfl) rfl ?_
  refine g_iload 6 dX2_show_160 rfl ?_
  refine g_if_ne 174 dX2_show_162 (by decide) (fun c1 => ?_) (fun c1 => ?_)
  · replace hF := q_f c1 hF
    refine g_sub [1, 2, 3, 4, 5, 6] rfl ?_
    exact J_X2_show_174 l b D z hF
  · replace hF := q_t c1 hF
    refine g_iload 0 dX2_show_165 rfl ?_
    refine g_if_ne 174 dX2_show_167 (by decide) (fun c2 => ?_) (fun c2 => ?_)
    · replace hF := q_f c2 hF
      refine g_sub [1, 2, 3, 4, 5, 6] rfl ?_
      exact J_X2_show_174 l b D z hF
    · replace hF := q_t c2 hF
      refine g_ldc2 dX2_show_170 wd_1220 ?_
      cases hF
      exact g_lret dX2_show_173 rfl ⟨rfl, rfl, rfl⟩ (Nat.le_of_ble_eq_true rfl) (Nat.le_of_ble_eq_true rfl)
set_option maxRecDepth 100000 in
set_option maxHeartbeats 4000000 in
theorem J_X2_show_157 (l : Launch) (b : Nat) (D : va_G) (z : Nat → Nat) {nx : Nat} {h : qH} {a0 : Nat} {a1 : Nat} {a2 : Nat} {a3 : Int32} {a4 : Int64} {a6 : Int32} {r : Int64 × qH} (hF : j_X2_show_157 h a0 a1 a2 a3 a4 a6  = some r) : Go l b D z yX2_show cX2_show 8 (some .long) rm_X2_show (qE (some (.long r.1)) r.2 nx) 157 [(0, .ref a0), (1, .ref a1), (2, .ref a2), (3, .int a3), (4, .long a4), (6, .int a6)] [] h nx 0 0 := by
  unfold j_X2_show_157 at hF
  refine g_iconst dX2_show_157 lt_iconst_0 ?_
  exact J_X2_show_158 l b D z hF
set_option maxRecDepth 100000 in
set_option maxHeartbeats 4000000 in
theorem J_X2_show_134 (l : Launch) (b : Nat) (D : va_G) (z : Nat → Nat) {nx : Nat} {h : qH} {a0 : Nat} {a1 : Nat} {a2 : Nat} {a3 : Int32} {a4 : Int64} {t0 : Int32} {r : Int64 × qH} (hF : j_X2_show_134 h a0 a1 a2 a3 a4 t0 = some r) : Go l b D z yX2_show cX2_show 8 (some .long) rm_X2_show (qE (some (.long r.1)) r.2 nx) 134 [(0, .ref a0), (1, .ref a1), (2, .ref a2), (3, .int a3), (4, .long a4)] [.int t0] h nx 0 0 := by
  unfold j_X2_show_134 at hF
  refine g_istore [(6, .int t0), (0, .ref a0), (1, .ref a1), (2, .ref a2), (3, .int a3), (4, .long a4)] dX2_show_134 (Nat.le_of_ble_eq_true rfl) rfl ?_
  refine g_iload_n 4 dX2_show_136 rfl ?_
  refine g_bipush dX2_show_137 lt_bipush_30 ?_
  refine g_icmp_lt 157 dX2_show_139 (by decide) (fun c1 => ?_) (fun c1 => ?_)
  · replace hF := q_t c1 hF
    refine g_sub [1, 2, 3, 4, 5, 0] rfl ?_
    exact J_X2_show_157 l b D z hF
  · replace hF := q_f c1 hF
    refine g_aload_n 3 dX2_show_142 rfl ?_
    refine g_iload_n 4 dX2_show_143 rfl ?_
    refine g_bipush dX2_show_144 lt_bipush_30 ?_
    refine g_isub dX2_show_146 ?_
    obtain ⟨u2, e3, hF⟩ := q_bind hF
    obtain ⟨x4, e5, hF⟩ := q_bind hF
    refine g_callVr0 (ci := 3) (q := (RX3, TX3, 2)) qm_X3_has wd_1219 wd_1157 wd_1158 rfl e3 (M_X3_has l b D z nx e5) (As := [.int (a3 - (30 : Int32))]) rfl rfl (Nat.le_of_ble_eq_true rfl) ⟨(Nat.le_of_ble_eq_true rfl), (Nat.le_of_ble_eq_true rfl)⟩ ⟨rfl, rfl⟩ ⟨(Nat.le_of_ble_eq_true rfl), (Nat.le_of_ble_eq_true rfl)⟩ dX2_show_147 ?_
    refine g_if_eq 157 dX2_show_150 (by decide) (fun c6 => ?_) (fun c6 => ?_)
    · replace hF := q_t c6 hF
      refine g_sub [1, 2, 3, 4, 5, 0] rfl ?_
      exact J_X2_show_157 l b D z hF
    · replace hF := q_f c6 hF
      refine g_iconst dX2_show_153 lt_iconst_1 ?_
      refine g_goto 158 dX2_show_154 (by decide) ?_
      refine g_sub [1, 2, 3, 4, 5, 0] rfl ?_
      exact J_X2_show_158 l b D z hF
set_option maxRecDepth 100000 in
set_option maxHeartbeats 4000000 in
theorem J_X2_show_133 (l : Launch) (b : Nat) (D : va_G) (z : Nat → Nat) {nx : Nat} {h : qH} {a0 : Nat} {a1 : Nat} {a2 : Nat} {a3 : Int32} {a4 : Int64} {r : Int64 × qH} (hF : j_X2_show_133 h a0 a1 a2 a3 a4  = some r) : Go l b D z yX2_show cX2_show 8 (some .long) rm_X2_show (qE (some (.long r.1)) r.2 nx) 133 [(0, .ref a0), (1, .ref a1), (2, .ref a2), (3, .int a3), (4, .long a4)] [] h nx 0 0 := by
  unfold j_X2_show_133 at hF
  refine g_iconst dX2_show_133 lt_iconst_0 ?_
  exact J_X2_show_134 l b D z hF
set_option maxRecDepth 100000 in
set_option maxHeartbeats 4000000 in
theorem J_X2_show_26 (l : Launch) (b : Nat) (D : va_G) (z : Nat → Nat) {nx : Nat} {h : qH} {a0 : Nat} {a1 : Nat} {a2 : Nat} {a3 : Int32} {t0 : Int64} {r : Int64 × qH} (hF : j_X2_show_26 h a0 a1 a2 a3 t0 = some r) : Go l b D z yX2_show cX2_show 8 (some .long) rm_X2_show (qE (some (.long r.1)) r.2 nx) 26 [(0, .ref a0), (1, .ref a1), (2, .ref a2), (3, .int a3)] [.long t0] h nx 0 0 := by
  unfold j_X2_show_26 at hF
  refine g_lstore [(4, .long t0), (0, .ref a0), (1, .ref a1), (2, .ref a2), (3, .int a3)] dX2_show_26 (Nat.le_of_ble_eq_true rfl) rfl ?_
  refine g_iload_n 4 dX2_show_28 rfl ?_
  by_cases c1 : a3 = 0
  · replace hF := q_t c1 hF
    refine g_tabIn (off := 27) 56 dX2_show_29 (by rw [c1]; decide) (by rw [c1]; decide) (by rw [c1]; decide) (by decide) ?_
    refine g_lload 0 dX2_show_56 rfl ?_
    cases hF
    exact g_lret dX2_show_58 rfl ⟨rfl, rfl, rfl⟩ (Nat.le_of_ble_eq_true rfl) (Nat.le_of_ble_eq_true rfl)
  replace hF := q_f c1 hF
  by_cases c2 : a3 = 1
  · replace hF := q_t c2 hF
    refine g_tabIn (off := 30) 59 dX2_show_29 (by rw [c2]; decide) (by rw [c2]; decide) (by rw [c2]; decide) (by decide) ?_
    refine g_lload 0 dX2_show_59 rfl ?_
    refine g_lconst (v := 0) dX2_show_61 (by decide +kernel) ?_
    refine g_lcmp dX2_show_62 ?_
    refine g_if_ne 72 dX2_show_63 (by decide) (fun c3 => ?_) (fun c3 => ?_)
    · replace hF := q_f c3 hF
      refine g_aload_n 3 dX2_show_72 rfl ?_
      obtain ⟨x4, e5, hF⟩ := q_bind hF
      refine g_getfI fl_X2_30 e5 dX2_show_73 ?_
      refine g_if_ne 83 dX2_show_76 (by decide) (fun c6 => ?_) (fun c6 => ?_)
      · replace hF := q_f c6 hF
        refine g_aload_n 1 dX2_show_83 rfl ?_
        obtain ⟨x7, e8, hF⟩ := q_bind hF
        refine g_getfR fl_X2_22 e8 dX2_show_84 ?_
        refine g_iconst dX2_show_87 lt_iconst_0 ?_
        obtain ⟨x9, e10, hF⟩ := q_bind hF
        refine g_iald e10 dX2_show_88 ?_
        refine g_i2l dX2_show_89 ?_
        cases hF
        exact g_lret dX2_show_90 rfl ⟨rfl, rfl, rfl⟩ (Nat.le_of_ble_eq_true rfl) (Nat.le_of_ble_eq_true rfl)
      · replace hF := q_t c6 hF
        refine g_lconst (v := 0) dX2_show_79 (by decide +kernel) ?_
        refine g_goto 90 dX2_show_80 (by decide) ?_
        cases hF
        exact g_lret dX2_show_90 rfl ⟨rfl, rfl, rfl⟩ (Nat.le_of_ble_eq_true rfl) (Nat.le_of_ble_eq_true rfl)
    · replace hF := q_t c3 hF
      refine g_ldc2 dX2_show_66 wd_1194 ?_
      refine g_goto 90 dX2_show_69 (by decide) ?_
      cases hF
      exact g_lret dX2_show_90 rfl ⟨rfl, rfl, rfl⟩ (Nat.le_of_ble_eq_true rfl) (Nat.le_of_ble_eq_true rfl)
  replace hF := q_f c2 hF
  by_cases c11 : a3 = 2
  · replace hF := q_t c11 hF
    refine g_tabIn (off := 62) 91 dX2_show_29 (by rw [c11]; decide) (by rw [c11]; decide) (by rw [c11]; decide) (by decide) ?_
    refine g_lload 0 dX2_show_91 rfl ?_
    refine g_lconst (v := 0) dX2_show_93 (by decide +kernel) ?_
    refine g_lcmp dX2_show_94 ?_
    refine g_if_ne 104 dX2_show_95 (by decide) (fun c12 => ?_) (fun c12 => ?_)
    · replace hF := q_f c12 hF
      refine g_aload_n 1 dX2_show_104 rfl ?_
      refine g_aload_n 2 dX2_show_105 rfl ?_
      refine g_aload_n 3 dX2_show_106 rfl ?_
      obtain ⟨u13, e14, hF⟩ := q_bind hF
      obtain ⟨x15, e16, hF⟩ := q_bind hF
      refine g_callVr0 (ci := 2) (q := (RX2, TX2, 3)) qm_X2_bestGuess wd_1195 wd_1197 wd_52 rfl e14 (M_X2_bestGuess l b D z nx e16) (As := [.ref a1, .ref a2]) rfl rfl (Nat.le_of_ble_eq_true rfl) ⟨(Nat.le_of_ble_eq_true rfl), (Nat.le_of_ble_eq_true rfl)⟩ ⟨rfl, rfl⟩ ⟨(Nat.le_of_ble_eq_true rfl), (Nat.le_of_ble_eq_true rfl)⟩ dX2_show_107 ?_
      refine g_i2l dX2_show_110 ?_
      cases hF
      exact g_lret dX2_show_111 rfl ⟨rfl, rfl, rfl⟩ (Nat.le_of_ble_eq_true rfl) (Nat.le_of_ble_eq_true rfl)
    · replace hF := q_t c12 hF
      refine g_ldc2 dX2_show_98 wd_1194 ?_
      refine g_goto 111 dX2_show_101 (by decide) ?_
      cases hF
      exact g_lret dX2_show_111 rfl ⟨rfl, rfl, rfl⟩ (Nat.le_of_ble_eq_true rfl) (Nat.le_of_ble_eq_true rfl)
  replace hF := q_f c11 hF
  refine g_tabOut 112 dX2_show_29 ?_ (by decide) ?_
  · have t0 := lv_neT (a := 0) c1 (by decide); have t1 := lv_neT (a := 1) c2 (by decide); have t2 := lv_neT (a := 2) c11 (by decide); omega
  refine g_iload_n 4 dX2_show_112 rfl ?_
  refine g_bipush dX2_show_113 lt_bipush_10 ?_
  refine g_icmp_lt 133 dX2_show_115 (by decide) (fun c17 => ?_) (fun c17 => ?_)
  · replace hF := q_t c17 hF
    refine g_sub [1, 2, 3, 4, 0] rfl ?_
    exact J_X2_show_133 l b D z hF
  · replace hF := q_f c17 hF
    refine g_aload_n 3 dX2_show_118 rfl ?_
    refine g_iload_n 4 dX2_show_119 rfl ?_
    refine g_bipush dX2_show_120 lt_bipush_10 ?_
    refine g_isub dX2_show_122 ?_
    obtain ⟨u18, e19, hF⟩ := q_bind hF
    obtain ⟨x20, e21, hF⟩ := q_bind hF
    refine g_callVr0 (ci := 3) (q := (RX3, TX3, 2)) qm_X3_has wd_1219 wd_1157 wd_1158 rfl e19 (M_X3_has l b D z nx e21) (As := [.int (a3 - (10 : Int32))]) rfl rfl (Nat.le_of_ble_eq_true rfl) ⟨(Nat.le_of_ble_eq_true rfl), (Nat.le_of_ble_eq_true rfl)⟩ ⟨rfl, rfl⟩ ⟨(Nat.le_of_ble_eq_true rfl), (Nat.le_of_ble_eq_true rfl)⟩ dX2_show_123 ?_
    refine g_if_eq 133 dX2_show_126 (by decide) (fun c22 => ?_) (fun c22 => ?_)
    · replace hF := q_t c22 hF
      refine g_sub [1, 2, 3, 4, 0] rfl ?_
      exact J_X2_show_133 l b D z hF
    · replace hF := q_f c22 hF
      refine g_iconst dX2_show_129 lt_iconst_1 ?_
      refine g_goto 134 dX2_show_130 (by decide) ?_
      refine g_sub [1, 2, 3, 4, 0] rfl ?_
      exact J_X2_show_134 l b D z hF
set_option maxRecDepth 100000 in
set_option maxHeartbeats 4000000 in
theorem M_X2_show (l : Launch) (b : Nat) (D : va_G) (z : Nat → Nat) (nx : Nat) {h : qH} {a0 : Nat} {a1 : Nat} {a2 : Nat} {a3 : Int32} {r : Int64 × qH} (hF : F_X2_show h a0 a1 a2 a3 = some r) : Me l b D z yX2_show cX2_show 8 (some .long) rm_X2_show [.ref a0, .ref a1, .ref a2, .int a3] h nx (qE (some (.long r.1)) r.2 nx) := by
  refine Me.of (by decide +kernel) (Nat.le_of_ble_eq_true rfl) ?_
  show Go l b D z yX2_show cX2_show 8 (some .long) rm_X2_show (qE (some (.long r.1)) r.2 nx) 0 [(0, .ref a0), (1, .ref a1), (2, .ref a2), (3, .int a3)] [] h nx 0 0
  unfold F_X2_show at hF
  refine g_aload_n 0 dX2_show_0 rfl ?_
  refine g_aload_n 1 dX2_show_1 rfl ?_
  refine g_aload_n 2 dX2_show_2 rfl ?_
  obtain ⟨u1, e2, hF⟩ := q_bind hF
  obtain ⟨x3, e4, hF⟩ := q_bind hF
  refine g_callVv0 (ci := 2) (q := (RX2, TX2, 3)) qm_X2_countFrom wd_1169 wd_1171 wd_49 rfl e2 (M_X2_countFrom l b D z nx e4) (As := [.ref a1, .ref a2]) rfl rfl (Nat.le_of_ble_eq_true rfl) ⟨(Nat.le_of_ble_eq_true rfl), (Nat.le_of_ble_eq_true rfl)⟩ ⟨rfl, rfl⟩ ⟨(Nat.le_of_ble_eq_true rfl), (Nat.le_of_ble_eq_true rfl)⟩ dX2_show_3 ?_
  refine g_aload_n 2 dX2_show_6 rfl ?_
  obtain ⟨x5, e6, hF⟩ := q_bind hF
  refine g_getfI fl_X2_30 e6 dX2_show_7 ?_
  refine g_if_ne 17 dX2_show_10 (by decide) (fun c7 => ?_) (fun c7 => ?_)
  · replace hF := q_f c7 hF
    refine g_aload_n 0 dX2_show_17 rfl ?_
    obtain ⟨x8, e9, hF⟩ := q_bind hF
    refine g_getfR fl_X2_15 e9 dX2_show_18 ?_
    refine g_iconst dX2_show_21 lt_iconst_0 ?_
    refine g_iconst dX2_show_22 lt_iconst_0 ?_
    obtain ⟨x10, e11, hF⟩ := q_bind hF
    refine g_callSr0 qm_X2_at wd_1185 wd_1186 (M_X2_at l b D z nx e11) (As := [.ref x8, .int (0 : Int32), .int (0 : Int32)]) rfl rfl (Nat.le_of_ble_eq_true rfl) ⟨(Nat.le_of_ble_eq_true rfl), (Nat.le_of_ble_eq_true rfl)⟩ ⟨rfl, rfl⟩ ⟨(Nat.le_of_ble_eq_true rfl), (Nat.le_of_ble_eq_true rfl)⟩ dX2_show_23 ?_
    exact J_X2_show_26 l b D z hF
  · replace hF := q_t c7 hF
    refine g_lconst (v := 1) dX2_show_13 (by decide +kernel) ?_
    refine g_goto 26 dX2_show_14 (by decide) ?_
    exact J_X2_show_26 l b D z hF
def rm_X3_init : Room := { frames := 1, cells := 1, slots := 12, locals := 20 }
theorem rmc_X3_init : rm_X3_init.cells = 1 := rfl
theorem rms_X3_init : rm_X3_init.slots = 12 := rfl
set_option maxRecDepth 100000 in
set_option maxHeartbeats 4000000 in
theorem M_X3_init (l : Launch) (b : Nat) (D : va_G) (z : Nat → Nat) (nx : Nat) {h : qH} {a0 : Nat} {r : qH × Nat} (hF : F_X3_init h nx a0 = some r) : Me l b D z yX3_init cX3_init 1 none rm_X3_init [.ref a0] h nx (qE none r.1 r.2) := by
  refine Me.of (by decide +kernel) (Nat.le_of_ble_eq_true rfl) ?_
  show Go l b D z yX3_init cX3_init 1 none rm_X3_init (qE none r.1 r.2) 0 [(0, .ref a0)] [] h nx 0 0
  unfold F_X3_init at hF
  refine g_aload_n 0 dX3_init_0 rfl ?_
  refine g_obj wd_289 wd_190 wd_191 (Nat.le_of_ble_eq_true rfl) (Nat.le_of_ble_eq_true rfl) dX3_init_1 ?_
  refine g_aload_n 0 dX3_init_4 rfl ?_
  refine g_bipush dX3_init_5 lt_bipush_12 ?_
  refine g_newi (N := 12) wd_266 (by decide) (by decide) (Nat.le_of_ble_eq_true rfl) (Nat.le_of_ble_eq_true rfl) (Nat.le_of_ble_eq_true rfl) dX3_init_7 ?_
  obtain ⟨h1, e2, hF⟩ := q_bind hF
  refine g_putF fl_X3_11 e2 rfl rfl rfl (fun q hq => by cases hq; rfl) dX3_init_9 ?_
  cases hF
  exact g_vret dX3_init_12 rfl ⟨rfl, rfl, rfl⟩ (Nat.le_of_ble_eq_true rfl) (Nat.le_of_ble_eq_true rfl)
def rm_X3_add : Room := { frames := 0, cells := 0, slots := 0, locals := 0 }
set_option maxRecDepth 100000 in
set_option maxHeartbeats 4000000 in
theorem M_X3_add (l : Launch) (b : Nat) (D : va_G) (z : Nat → Nat) (nx : Nat) {h : qH} {a0 : Nat} {a1 : Int32} {r : qH} (hF : F_X3_add h a0 a1 = some r) : Me l b D z yX3_add cX3_add 2 none rm_X3_add [.ref a0, .int a1] h nx (qE none r nx) := by
  refine Me.of (by decide +kernel) (Nat.le_of_ble_eq_true rfl) ?_
  show Go l b D z yX3_add cX3_add 2 none rm_X3_add (qE none r nx) 0 [(0, .ref a0), (1, .int a1)] [] h nx 0 0
  unfold F_X3_add at hF
  refine g_aload_n 0 dX3_add_0 rfl ?_
  obtain ⟨x1, e2, hF⟩ := q_bind hF
  refine g_getfI fl_X3_15 e2 dX3_add_1 ?_
  refine g_bipush dX3_add_4 lt_bipush_12 ?_
  refine g_icmp_ge 29 dX3_add_6 (by decide) (fun c3 => ?_) (fun c3 => ?_)
  · replace hF := q_t c3 hF
    cases hF
    exact g_vret dX3_add_29 rfl ⟨rfl, rfl, rfl⟩ (Nat.le_of_ble_eq_true rfl) (Nat.le_of_ble_eq_true rfl)
  · replace hF := q_f c3 hF
    refine g_aload_n 0 dX3_add_9 rfl ?_
    obtain ⟨x4, e5, hF⟩ := q_bind hF
    refine g_getfR fl_X3_11 e5 dX3_add_10 ?_
    refine g_aload_n 0 dX3_add_13 rfl ?_
    obtain ⟨x6, e7, hF⟩ := q_bind hF
    refine g_getfI fl_X3_15 e7 dX3_add_14 ?_
    refine g_iload_n 1 dX3_add_17 rfl ?_
    obtain ⟨h8, e9, hF⟩ := q_bind hF
    refine g_iast e9 dX3_add_18 ?_
    refine g_aload_n 0 dX3_add_19 rfl ?_
    refine g_dup dX3_add_20 rfl ?_
    obtain ⟨x10, e11, hF⟩ := q_bind hF
    refine g_getfI fl_X3_15 e11 dX3_add_21 ?_
    refine g_iconst dX3_add_24 lt_iconst_1 ?_
    refine g_iadd dX3_add_25 ?_
    obtain ⟨h12, e13, hF⟩ := q_bind hF
    refine g_putf fl_X3_15 e13 rfl rfl dX3_add_26 ?_
    cases hF
    exact g_vret dX3_add_29 rfl ⟨rfl, rfl, rfl⟩ (Nat.le_of_ble_eq_true rfl) (Nat.le_of_ble_eq_true rfl)
def rm_X3_copy : Room := { frames := 1, cells := 0, slots := 0, locals := 40 }
set_option maxRecDepth 100000 in
set_option maxHeartbeats 4000000 in
theorem M_X3_copy (l : Launch) (b : Nat) (D : va_G) (z : Nat → Nat) (nx : Nat) {h : qH} {a0 : Nat} {a1 : Nat} {r : qH} (hF : F_X3_copy h a0 a1 = some r) : Me l b D z yX3_copy cX3_copy 2 none rm_X3_copy [.ref a0, .ref a1] h nx (qE none r nx) := by
  refine Me.of (by decide +kernel) (Nat.le_of_ble_eq_true rfl) ?_
  show Go l b D z yX3_copy cX3_copy 2 none rm_X3_copy (qE none r nx) 0 [(0, .ref a0), (1, .ref a1)] [] h nx 0 0
  unfold F_X3_copy at hF
  refine g_aload_n 1 dX3_copy_0 rfl ?_
  obtain ⟨x1, e2, hF⟩ := q_bind hF
  refine g_getfR fl_X3_11 e2 dX3_copy_1 ?_
  refine g_iconst dX3_copy_4 lt_iconst_0 ?_
  refine g_aload_n 0 dX3_copy_5 rfl ?_
  obtain ⟨x3, e4, hF⟩ := q_bind hF
  refine g_getfR fl_X3_11 e4 dX3_copy_6 ?_
  refine g_iconst dX3_copy_9 lt_iconst_0 ?_
  refine g_bipush dX3_copy_10 lt_bipush_12 ?_
  obtain ⟨h5, e6, hF⟩ := q_bind hF
  refine g_copyI rfl e6 wd_1446 wd_1028 wd_1027 wd_182 (Nat.le_of_ble_eq_true rfl) (Nat.le_of_ble_eq_true rfl) dX3_copy_12 ?_
  refine g_aload_n 0 dX3_copy_15 rfl ?_
  refine g_aload_n 1 dX3_copy_16 rfl ?_
  obtain ⟨x7, e8, hF⟩ := q_bind hF
  refine g_getfI fl_X3_15 e8 dX3_copy_17 ?_
  obtain ⟨h9, e10, hF⟩ := q_bind hF
  refine g_putf fl_X3_15 e10 rfl rfl dX3_copy_20 ?_
  cases hF
  exact g_vret dX3_copy_23 rfl ⟨rfl, rfl, rfl⟩ (Nat.le_of_ble_eq_true rfl) (Nat.le_of_ble_eq_true rfl)
def rm_X3_show : Room := { frames := 1, cells := 0, slots := 0, locals := 21 }
set_option maxRecDepth 100000 in
set_option maxHeartbeats 4000000 in
theorem M_X3_show (l : Launch) (b : Nat) (D : va_G) (z : Nat → Nat) (nx : Nat) {h : qH} {a0 : Nat} {a1 : Int32} {r : Int32} (hF : F_X3_show h a0 a1 = some r) : Me l b D z yX3_show cX3_show 2 (some .int) rm_X3_show [.ref a0, .int a1] h nx (qE (some (.int r)) h nx) := by
  refine Me.of (by decide +kernel) (Nat.le_of_ble_eq_true rfl) ?_
  show Go l b D z yX3_show cX3_show 2 (some .int) rm_X3_show (qE (some (.int r)) h nx) 0 [(0, .ref a0), (1, .int a1)] [] h nx 0 0
  unfold F_X3_show at hF
  refine g_iload_n 1 dX3_show_0 rfl ?_
  refine g_iconst dX3_show_1 lt_iconst_m1 ?_
  refine g_icmp_ne 10 dX3_show_2 (by decide) (fun c1 => ?_) (fun c1 => ?_)
  · replace hF := q_f c1 hF
    refine g_aload_n 0 dX3_show_10 rfl ?_
    refine g_iload_n 1 dX3_show_11 rfl ?_
    obtain ⟨u2, e3, hF⟩ := q_bind hF
    obtain ⟨x4, e5, hF⟩ := q_bind hF
    refine g_callVr0 (ci := 3) (q := (RX3, TX3, 2)) qm_X3_has wd_1156 wd_1157 wd_1158 rfl e3 (M_X3_has l b D z nx e5) (As := [.int a1]) rfl rfl (Nat.le_of_ble_eq_true rfl) ⟨(Nat.le_of_ble_eq_true rfl), (Nat.le_of_ble_eq_true rfl)⟩ ⟨rfl, rfl⟩ ⟨(Nat.le_of_ble_eq_true rfl), (Nat.le_of_ble_eq_true rfl)⟩ dX3_show_12 ?_
    refine g_if_eq 27 dX3_show_15 (by decide) (fun c6 => ?_) (fun c6 => ?_)
    · replace hF := q_t c6 hF
      refine g_iconst dX3_show_27 lt_iconst_m1 ?_
      cases hF
      exact g_iret dX3_show_28 rfl ⟨rfl, rfl, rfl⟩ (Nat.le_of_ble_eq_true rfl) (Nat.le_of_ble_eq_true rfl)
    · replace hF := q_f c6 hF
      refine g_aload_n 0 dX3_show_18 rfl ?_
      obtain ⟨x7, e8, hF⟩ := q_bind hF
      refine g_getfR fl_X3_11 e8 dX3_show_19 ?_
      refine g_iload_n 1 dX3_show_22 rfl ?_
      obtain ⟨x9, e10, hF⟩ := q_bind hF
      refine g_iald e10 dX3_show_23 ?_
      refine g_goto 28 dX3_show_24 (by decide) ?_
      cases hF
      exact g_iret dX3_show_28 rfl ⟨rfl, rfl, rfl⟩ (Nat.le_of_ble_eq_true rfl) (Nat.le_of_ble_eq_true rfl)
  · replace hF := q_t c1 hF
    refine g_aload_n 0 dX3_show_5 rfl ?_
    obtain ⟨x11, e12, hF⟩ := q_bind hF
    refine g_getfI fl_X3_15 e12 dX3_show_6 ?_
    cases hF
    exact g_iret dX3_show_9 rfl ⟨rfl, rfl, rfl⟩ (Nat.le_of_ble_eq_true rfl) (Nat.le_of_ble_eq_true rfl)
def rm_X4_init : Room := { frames := 1, cells := 4, slots := 217, locals := 20 }
theorem rmc_X4_init : rm_X4_init.cells = 4 := rfl
theorem rms_X4_init : rm_X4_init.slots = 217 := rfl
set_option maxRecDepth 100000 in
set_option maxHeartbeats 4000000 in
theorem M_X4_init (l : Launch) (b : Nat) (D : va_G) (z : Nat → Nat) (nx : Nat) {h : qH} {a0 : Nat} {r : qH × Nat} (hF : F_X4_init h nx a0 = some r) : Me l b D z yX4_init cX4_init 1 none rm_X4_init [.ref a0] h nx (qE none r.1 r.2) := by
  refine Me.of (by decide +kernel) (Nat.le_of_ble_eq_true rfl) ?_
  show Go l b D z yX4_init cX4_init 1 none rm_X4_init (qE none r.1 r.2) 0 [(0, .ref a0)] [] h nx 0 0
  unfold F_X4_init at hF
  refine g_aload_n 0 dX4_init_0 rfl ?_
  refine g_obj wd_476 wd_190 wd_191 (Nat.le_of_ble_eq_true rfl) (Nat.le_of_ble_eq_true rfl) dX4_init_1 ?_
  refine g_aload_n 0 dX4_init_4 rfl ?_
  refine g_bipush dX4_init_5 lt_bipush_12 ?_
  refine g_newi (N := 12) wd_266 (by decide) (by decide) (Nat.le_of_ble_eq_true rfl) (Nat.le_of_ble_eq_true rfl) (Nat.le_of_ble_eq_true rfl) dX4_init_7 ?_
  obtain ⟨h1, e2, hF⟩ := q_bind hF
  refine g_putF fl_X4_11 e2 rfl rfl rfl (fun q hq => by cases hq; rfl) dX4_init_9 ?_
  refine g_aload_n 0 dX4_init_12 rfl ?_
  refine g_bipush dX4_init_13 lt_bipush_12 ?_
  refine g_newi (N := 12) wd_266 (by decide) (by decide) (Nat.le_of_ble_eq_true rfl) (Nat.le_of_ble_eq_true rfl) (Nat.le_of_ble_eq_true rfl) dX4_init_15 ?_
  obtain ⟨h3, e4, hF⟩ := q_bind hF
  refine g_putF fl_X4_15 e4 rfl rfl rfl (fun q hq => by cases hq; rfl) dX4_init_17 ?_
  refine g_aload_n 0 dX4_init_20 rfl ?_
  refine g_sipush dX4_init_21 lt_sipush_169 ?_
  refine g_newi (N := 169) wd_266 (by decide) (by decide) (Nat.le_of_ble_eq_true rfl) (Nat.le_of_ble_eq_true rfl) (Nat.le_of_ble_eq_true rfl) dX4_init_24 ?_
  obtain ⟨h5, e6, hF⟩ := q_bind hF
  refine g_putF fl_X4_18 e6 rfl rfl rfl (fun q hq => by cases hq; rfl) dX4_init_26 ?_
  refine g_aload_n 0 dX4_init_29 rfl ?_
  refine g_bipush dX4_init_30 lt_bipush_24 ?_
  refine g_newi (N := 24) wd_266 (by decide) (by decide) (Nat.le_of_ble_eq_true rfl) (Nat.le_of_ble_eq_true rfl) (Nat.le_of_ble_eq_true rfl) dX4_init_32 ?_
  obtain ⟨h7, e8, hF⟩ := q_bind hF
  refine g_putF fl_X4_21 e8 rfl rfl rfl (fun q hq => by cases hq; rfl) dX4_init_34 ?_
  cases hF
  exact g_vret dX4_init_37 rfl ⟨rfl, rfl, rfl⟩ (Nat.le_of_ble_eq_true rfl) (Nat.le_of_ble_eq_true rfl)
def rm_X4_fillByNext : Room := { frames := 2, cells := 0, slots := 0, locals := 43 }
set_option maxRecDepth 100000 in
set_option maxHeartbeats 4000000 in
theorem B_X4_fillByNext_17 (l : Launch) (b : Nat) (D : va_G) (z : Nat → Nat) {Φ : Option Value → qH → Nat → Prop} {nx : Nat} {a0 : Nat} {a1 : Nat} {a2 : Int32} {a3 : Int32} {a4 : Int32} {h : qH} {o : (Int32 × Int32 × qH) ⊕ ((Int32 × qH))} (hF : b_X4_fillByNext_17 a0 a1 a2 a3 a4 h = some o) (hback : ∀ (b3 : Int32) (b4 : Int32) (bh : qH), o = .inl (b3, b4, bh) → Go l b D z yX4_fillByNext cX4_fillByNext 5 (some .int) rm_X4_fillByNext Φ 17 [(0, .ref a0), (1, .ref a1), (2, .int a2), (3, .int b3), (4, .int b4)] [] bh nx 0 0) (hx0 : ∀ (b3 : Int32) (bh : qH), o = .inr (b3, bh) → Go l b D z yX4_fillByNext cX4_fillByNext 5 (some .int) rm_X4_fillByNext Φ 57 [(3, .int b3)] [] bh nx 0 0) : Go l b D z yX4_fillByNext cX4_fillByNext 5 (some .int) rm_X4_fillByNext Φ 17 [(0, .ref a0), (1, .ref a1), (2, .int a2), (3, .int a3), (4, .int a4)] [] h nx 0 0 := by
  unfold b_X4_fillByNext_17 at hF
  refine g_iload_n 3 dX4_fillByNext_17 rfl ?_
  refine g_iload_n 2 dX4_fillByNext_18 rfl ?_
  refine g_icmp_ge 57 dX4_fillByNext_19 (by decide) (fun c1 => ?_) (fun c1 => ?_)
  · replace hF := q_t c1 hF
    cases hF
    refine g_sub [3] rfl ?_
    exact hx0 _ _ rfl
  · replace hF := q_f c1 hF
    refine g_iload_n 3 dX4_fillByNext_22 rfl ?_
    refine g_aload_n 1 dX4_fillByNext_23 rfl ?_
    obtain ⟨x2, e3, hF⟩ := q_bind hF
    refine g_alen e3 dX4_fillByNext_24 ?_
    refine g_icmp_ge 57 dX4_fillByNext_25 (by decide) (fun c4 => ?_) (fun c4 => ?_)
    · replace hF := q_t c4 hF
      cases hF
      refine g_sub [3] rfl ?_
      exact hx0 _ _ rfl
    · replace hF := q_f c4 hF
      refine g_iload 4 dX4_fillByNext_28 rfl ?_
      refine g_iconst dX4_fillByNext_30 lt_iconst_m1 ?_
      refine g_icmp_eq 57 dX4_fillByNext_31 (by decide) (fun c5 => ?_) (fun c5 => ?_)
      · replace hF := q_t c5 hF
        cases hF
        refine g_sub [3] rfl ?_
        exact hx0 _ _ rfl
      · replace hF := q_f c5 hF
        refine g_aload_n 1 dX4_fillByNext_34 rfl ?_
        refine g_iload_n 3 dX4_fillByNext_35 rfl ?_
        refine g_aload_n 0 dX4_fillByNext_36 rfl ?_
        refine g_iload 4 dX4_fillByNext_37 rfl ?_
        obtain ⟨u6, e7, hF⟩ := q_bind hF
        obtain ⟨x8, e9, hF⟩ := q_bind hF
        refine g_callVr0 (ci := 0) (q := (RX0, TX0, 15)) qm_X0_whoSays wd_1115 wd_931 wd_932 rfl e7 (M_X0_whoSays l b D z nx e9) (As := [.int a4]) rfl rfl (Nat.le_of_ble_eq_true rfl) ⟨(Nat.le_of_ble_eq_true rfl), (Nat.le_of_ble_eq_true rfl)⟩ ⟨rfl, rfl⟩ ⟨(Nat.le_of_ble_eq_true rfl), (Nat.le_of_ble_eq_true rfl)⟩ dX4_fillByNext_39 ?_
        obtain ⟨h10, e11, hF⟩ := q_bind hF
        refine g_iast e11 dX4_fillByNext_42 ?_
        refine g_iinc [(3, .int (a3 + 1)), (0, .ref a0), (1, .ref a1), (2, .int a2), (4, .int a4)] 3 dX4_fillByNext_43 rfl (congrArg (a3 + ·) lt_iconst_1) (Nat.le_of_ble_eq_true rfl) rfl ?_
        refine g_aload_n 1 dX4_fillByNext_46 rfl ?_
        refine g_iload 4 dX4_fillByNext_47 rfl ?_
        obtain ⟨u12, e13, hF⟩ := q_bind hF
        obtain ⟨x14, e15, hF⟩ := q_bind hF
        refine g_callVr0 (ci := 0) (q := (RX0, TX0, 15)) qm_X0_nextOf wd_1116 wd_868 wd_869 rfl e13 (M_X0_nextOf l b D z nx e15) (As := [.int a4]) rfl rfl (Nat.le_of_ble_eq_true rfl) ⟨(Nat.le_of_ble_eq_true rfl), (Nat.le_of_ble_eq_true rfl)⟩ ⟨rfl, rfl⟩ ⟨(Nat.le_of_ble_eq_true rfl), (Nat.le_of_ble_eq_true rfl)⟩ dX4_fillByNext_49 ?_
        refine g_istore [(4, .int x14), (3, .int (a3 + 1)), (0, .ref a0), (1, .ref a1), (2, .int a2)] dX4_fillByNext_52 (Nat.le_of_ble_eq_true rfl) rfl ?_
        refine g_goto 17 dX4_fillByNext_54 (by decide) ?_
        cases hF
        refine g_sub [2, 3, 4, 1, 0] rfl ?_
        exact hback _ _ _ rfl
set_option maxRecDepth 100000 in
set_option maxHeartbeats 4000000 in
theorem L_X4_fillByNext_17 (l : Launch) (b : Nat) (D : va_G) (z : Nat → Nat) {Φ : Option Value → qH → Nat → Prop} {nx : Nat} {a0 : Nat} {a1 : Nat} {a2 : Int32} : ∀ (n : Nat) (a3 : Int32) (a4 : Int32) (h : qH) (e : (Int32 × qH)), q_lp (s_X4_fillByNext_17 a0 a1 a2) n (a3, a4, h) = some e → (∀ (b3 : Int32) (bh : qH), e = (b3, bh) → Go l b D z yX4_fillByNext cX4_fillByNext 5 (some .int) rm_X4_fillByNext Φ 57 [(3, .int b3)] [] bh nx 0 0) → Go l b D z yX4_fillByNext cX4_fillByNext 5 (some .int) rm_X4_fillByNext Φ 17 [(0, .ref a0), (1, .ref a1), (2, .int a2), (3, .int a3), (4, .int a4)] [] h nx 0 0 := by
  intro n
  induction n with
  | zero => intro a3 a4 h e he; cases (show none = some e from he)
  | succ n ih =>
    intro a3 a4 h e he hx0
    obtain ⟨o, ho, h1, h2⟩ := q_lp_succ he
    exact B_X4_fillByNext_17 l b D z (show b_X4_fillByNext_17 a0 a1 a2 a3 a4 h = some o from ho) (fun b3 b4 bh hb => ih _ _ _ e (h1 _ hb) hx0) (fun p0 p1 hr => hx0 p0 p1 (h2 _ hr).symm)
set_option maxRecDepth 100000 in
set_option maxHeartbeats 4000000 in
theorem J_X4_fillByNext_15 (l : Launch) (b : Nat) (D : va_G) (z : Nat → Nat) {nx : Nat} {h : qH} {a0 : Nat} {a1 : Nat} {a2 : Int32} {a3 : Int32} {t0 : Int32} {r : Int32 × qH} (hF : j_X4_fillByNext_15 h a0 a1 a2 a3 t0 = some r) : Go l b D z yX4_fillByNext cX4_fillByNext 5 (some .int) rm_X4_fillByNext (qE (some (.int r.1)) r.2 nx) 15 [(0, .ref a0), (1, .ref a1), (2, .int a2), (3, .int a3)] [.int t0] h nx 0 0 := by
  unfold j_X4_fillByNext_15 at hF
  refine g_istore [(4, .int t0), (0, .ref a0), (1, .ref a1), (2, .int a2), (3, .int a3)] dX4_fillByNext_15 (Nat.le_of_ble_eq_true rfl) rfl ?_
  obtain ⟨e1, w2, hF⟩ := q_bind hF
  refine g_sub [1, 2, 3, 4, 0] rfl ?_
  refine L_X4_fillByNext_17 l b D z q_N a3 t0 h e1 w2 ?_
  · intro o3 h4 w5
    replace w5 := w5.symm
    subst w5
    dsimp only at hF
    refine g_iload_n 0 dX4_fillByNext_57 rfl ?_
    cases hF
    exact g_iret dX4_fillByNext_58 rfl ⟨rfl, rfl, rfl⟩ (Nat.le_of_ble_eq_true rfl) (Nat.le_of_ble_eq_true rfl)
set_option maxRecDepth 100000 in
set_option maxHeartbeats 4000000 in
theorem M_X4_fillByNext (l : Launch) (b : Nat) (D : va_G) (z : Nat → Nat) (nx : Nat) {h : qH} {a0 : Nat} {a1 : Nat} {a2 : Int32} {r : Int32 × qH} (hF : F_X4_fillByNext h a0 a1 a2 = some r) : Me l b D z yX4_fillByNext cX4_fillByNext 5 (some .int) rm_X4_fillByNext [.ref a0, .ref a1, .int a2] h nx (qE (some (.int r.1)) r.2 nx) := by
  refine Me.of (by decide +kernel) (Nat.le_of_ble_eq_true rfl) ?_
  show Go l b D z yX4_fillByNext cX4_fillByNext 5 (some .int) rm_X4_fillByNext (qE (some (.int r.1)) r.2 nx) 0 [(0, .ref a0), (1, .ref a1), (2, .int a2)] [] h nx 0 0
  unfold F_X4_fillByNext at hF
  refine g_iconst dX4_fillByNext_0 lt_iconst_0 ?_
  refine g_istore_n [(3, .int (0 : Int32)), (0, .ref a0), (1, .ref a1), (2, .int a2)] dX4_fillByNext_1 (Nat.le_of_ble_eq_true rfl) rfl ?_
  refine g_aload_n 1 dX4_fillByNext_2 rfl ?_
  refine g_iconst dX4_fillByNext_3 lt_iconst_0 ?_
  obtain ⟨u1, e2, hF⟩ := q_bind hF
  obtain ⟨x3, e4, hF⟩ := q_bind hF
  refine g_callVr0 (ci := 0) (q := (RX0, TX0, 15)) qm_X0_has wd_1114 wd_783 wd_784 rfl e2 (M_X0_has l b D z nx e4) (As := [.int (0 : Int32)]) rfl rfl (Nat.le_of_ble_eq_true rfl) ⟨(Nat.le_of_ble_eq_true rfl), (Nat.le_of_ble_eq_true rfl)⟩ ⟨rfl, rfl⟩ ⟨(Nat.le_of_ble_eq_true rfl), (Nat.le_of_ble_eq_true rfl)⟩ dX4_fillByNext_4 ?_
  refine g_if_eq 14 dX4_fillByNext_7 (by decide) (fun c5 => ?_) (fun c5 => ?_)
  · replace hF := q_t c5 hF
    refine g_iconst dX4_fillByNext_14 lt_iconst_m1 ?_
    refine g_sub [1, 2, 3, 0] rfl ?_
    exact J_X4_fillByNext_15 l b D z hF
  · replace hF := q_f c5 hF
    refine g_iconst dX4_fillByNext_10 lt_iconst_0 ?_
    refine g_goto 15 dX4_fillByNext_11 (by decide) ?_
    refine g_sub [1, 2, 3, 0] rfl ?_
    exact J_X4_fillByNext_15 l b D z hF
def rm_X4_isShared : Room := { frames := 0, cells := 0, slots := 0, locals := 0 }
set_option maxRecDepth 100000 in
set_option maxHeartbeats 4000000 in
theorem M_X4_isShared (l : Launch) (b : Nat) (D : va_G) (z : Nat → Nat) (nx : Nat) {h : qH} {a0 : Nat} {a1 : Int32} {a2 : Int32} {r : Int32} (hF : F_X4_isShared h a0 a1 a2 = some r) : Me l b D z yX4_isShared cX4_isShared 3 (some .boolean) rm_X4_isShared [.ref a0, .int a1, .int a2] h nx (qE (some (.int r)) h nx) := by
  refine Me.of (by decide +kernel) (Nat.le_of_ble_eq_true rfl) ?_
  show Go l b D z yX4_isShared cX4_isShared 3 (some .boolean) rm_X4_isShared (qE (some (.int r)) h nx) 0 [(0, .ref a0), (1, .int a1), (2, .int a2)] [] h nx 0 0
  unfold F_X4_isShared at hF
  refine g_iload_n 1 dX4_isShared_0 rfl ?_
  refine g_aload_n 0 dX4_isShared_1 rfl ?_
  obtain ⟨x1, e2, hF⟩ := q_bind hF
  refine g_getfI fl_X4_28 e2 dX4_isShared_2 ?_
  refine g_icmp_ge 35 dX4_isShared_5 (by decide) (fun c3 => ?_) (fun c3 => ?_)
  · replace hF := q_t c3 hF
    refine g_iconst dX4_isShared_35 lt_iconst_0 ?_
    cases hF
    exact g_zret dX4_isShared_36 rfl zn_0 ⟨rfl, rfl, rfl⟩ (Nat.le_of_ble_eq_true rfl) (Nat.le_of_ble_eq_true rfl)
  · replace hF := q_f c3 hF
    refine g_iload_n 2 dX4_isShared_8 rfl ?_
    refine g_aload_n 0 dX4_isShared_9 rfl ?_
    obtain ⟨x4, e5, hF⟩ := q_bind hF
    refine g_getfI fl_X4_32 e5 dX4_isShared_10 ?_
    refine g_icmp_ge 35 dX4_isShared_13 (by decide) (fun c6 => ?_) (fun c6 => ?_)
    · replace hF := q_t c6 hF
      refine g_iconst dX4_isShared_35 lt_iconst_0 ?_
      cases hF
      exact g_zret dX4_isShared_36 rfl zn_0 ⟨rfl, rfl, rfl⟩ (Nat.le_of_ble_eq_true rfl) (Nat.le_of_ble_eq_true rfl)
    · replace hF := q_f c6 hF
      refine g_aload_n 0 dX4_isShared_16 rfl ?_
      obtain ⟨x7, e8, hF⟩ := q_bind hF
      refine g_getfR fl_X4_11 e8 dX4_isShared_17 ?_
      refine g_iload_n 1 dX4_isShared_20 rfl ?_
      obtain ⟨x9, e10, hF⟩ := q_bind hF
      refine g_iald e10 dX4_isShared_21 ?_
      refine g_aload_n 0 dX4_isShared_22 rfl ?_
      obtain ⟨x11, e12, hF⟩ := q_bind hF
      refine g_getfR fl_X4_15 e12 dX4_isShared_23 ?_
      refine g_iload_n 2 dX4_isShared_26 rfl ?_
      obtain ⟨x13, e14, hF⟩ := q_bind hF
      refine g_iald e14 dX4_isShared_27 ?_
      refine g_icmp_ne 35 dX4_isShared_28 (by decide) (fun c15 => ?_) (fun c15 => ?_)
      · replace hF := q_f c15 hF
        refine g_iconst dX4_isShared_35 lt_iconst_0 ?_
        cases hF
        exact g_zret dX4_isShared_36 rfl zn_0 ⟨rfl, rfl, rfl⟩ (Nat.le_of_ble_eq_true rfl) (Nat.le_of_ble_eq_true rfl)
      · replace hF := q_t c15 hF
        refine g_iconst dX4_isShared_31 lt_iconst_1 ?_
        refine g_goto 36 dX4_isShared_32 (by decide) ?_
        cases hF
        exact g_zret dX4_isShared_36 rfl zn_1 ⟨rfl, rfl, rfl⟩ (Nat.le_of_ble_eq_true rfl) (Nat.le_of_ble_eq_true rfl)
def rm_X4_shortestAt : Room := { frames := 0, cells := 0, slots := 0, locals := 0 }
set_option maxRecDepth 100000 in
set_option maxHeartbeats 4000000 in
theorem M_X4_shortestAt (l : Launch) (b : Nat) (D : va_G) (z : Nat → Nat) (nx : Nat) {h : qH} {a0 : Nat} {a1 : Int32} {a2 : Int32} {r : Int32} (hF : F_X4_shortestAt h a0 a1 a2 = some r) : Me l b D z yX4_shortestAt cX4_shortestAt 3 (some .int) rm_X4_shortestAt [.ref a0, .int a1, .int a2] h nx (qE (some (.int r)) h nx) := by
  refine Me.of (by decide +kernel) (Nat.le_of_ble_eq_true rfl) ?_
  show Go l b D z yX4_shortestAt cX4_shortestAt 3 (some .int) rm_X4_shortestAt (qE (some (.int r)) h nx) 0 [(0, .ref a0), (1, .int a1), (2, .int a2)] [] h nx 0 0
  unfold F_X4_shortestAt at hF
  refine g_iload_n 1 dX4_shortestAt_0 rfl ?_
  refine g_if_lt 38 dX4_shortestAt_1 (by decide) (fun c1 => ?_) (fun c1 => ?_)
  · replace hF := q_t c1 hF
    refine g_ldc dX4_shortestAt_38 wd_1129 ?_
    cases hF
    exact g_iret dX4_shortestAt_40 rfl ⟨rfl, rfl, rfl⟩ (Nat.le_of_ble_eq_true rfl) (Nat.le_of_ble_eq_true rfl)
  · replace hF := q_f c1 hF
    refine g_iload_n 1 dX4_shortestAt_4 rfl ?_
    refine g_aload_n 0 dX4_shortestAt_5 rfl ?_
    obtain ⟨x2, e3, hF⟩ := q_bind hF
    refine g_getfI fl_X4_28 e3 dX4_shortestAt_6 ?_
    refine g_icmp_gt 38 dX4_shortestAt_9 (by decide) (fun c4 => ?_) (fun c4 => ?_)
    · replace hF := q_t c4 hF
      refine g_ldc dX4_shortestAt_38 wd_1129 ?_
      cases hF
      exact g_iret dX4_shortestAt_40 rfl ⟨rfl, rfl, rfl⟩ (Nat.le_of_ble_eq_true rfl) (Nat.le_of_ble_eq_true rfl)
    · replace hF := q_f c4 hF
      refine g_iload_n 2 dX4_shortestAt_12 rfl ?_
      refine g_if_lt 38 dX4_shortestAt_13 (by decide) (fun c5 => ?_) (fun c5 => ?_)
      · replace hF := q_t c5 hF
        refine g_ldc dX4_shortestAt_38 wd_1129 ?_
        cases hF
        exact g_iret dX4_shortestAt_40 rfl ⟨rfl, rfl, rfl⟩ (Nat.le_of_ble_eq_true rfl) (Nat.le_of_ble_eq_true rfl)
      · replace hF := q_f c5 hF
        refine g_iload_n 2 dX4_shortestAt_16 rfl ?_
        refine g_aload_n 0 dX4_shortestAt_17 rfl ?_
        obtain ⟨x6, e7, hF⟩ := q_bind hF
        refine g_getfI fl_X4_32 e7 dX4_shortestAt_18 ?_
        refine g_icmp_gt 38 dX4_shortestAt_21 (by decide) (fun c8 => ?_) (fun c8 => ?_)
        · replace hF := q_t c8 hF
          refine g_ldc dX4_shortestAt_38 wd_1129 ?_
          cases hF
          exact g_iret dX4_shortestAt_40 rfl ⟨rfl, rfl, rfl⟩ (Nat.le_of_ble_eq_true rfl) (Nat.le_of_ble_eq_true rfl)
        · replace hF := q_f c8 hF
          refine g_aload_n 0 dX4_shortestAt_24 rfl ?_
          obtain ⟨x9, e10, hF⟩ := q_bind hF
          refine g_getfR fl_X4_18 e10 dX4_shortestAt_25 ?_
          refine g_iload_n 1 dX4_shortestAt_28 rfl ?_
          refine g_bipush dX4_shortestAt_29 lt_bipush_13 ?_
          refine g_imul dX4_shortestAt_31 ?_
          refine g_iload_n 2 dX4_shortestAt_32 rfl ?_
          refine g_iadd dX4_shortestAt_33 ?_
          obtain ⟨x11, e12, hF⟩ := q_bind hF
          refine g_iald e12 dX4_shortestAt_34 ?_
          refine g_goto 40 dX4_shortestAt_35 (by decide) ?_
          cases hF
          exact g_iret dX4_shortestAt_40 rfl ⟨rfl, rfl, rfl⟩ (Nat.le_of_ble_eq_true rfl) (Nat.le_of_ble_eq_true rfl)
