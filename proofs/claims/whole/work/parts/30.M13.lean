def rm_X12_lengthWithout : Room := { frames := 2, cells := 0, slots := 0, locals := 45 }
set_option maxRecDepth 100000 in
set_option maxHeartbeats 4000000 in
theorem B_X12_lengthWithout_18 (l : Launch) (b : Nat) (D : va_G) (z : Nat → Nat) {Φ : Option Value → qH → Nat → Prop} {nx : Nat} {h : qH} {a0 : Nat} {a1 : Int32} {a2 : Int32} {a3 : Int32} {a4 : Int32} {o : (Int32 × Int32 × Int32) ⊕ ((Int32 × Int32))} (hF : b_X12_lengthWithout_18 h a0 a1 a2 a3 a4 = some o) (hback : ∀ (b2 : Int32) (b3 : Int32) (b4 : Int32), o = .inl (b2, b3, b4) → Go l b D z yX12_lengthWithout cX12_lengthWithout 5 (some .int) rm_X12_lengthWithout Φ 18 [(0, .ref a0), (1, .int a1), (2, .int b2), (3, .int b3), (4, .int b4)] [] h nx 0 0) (hx0 : ∀ (b3 : Int32) (b4 : Int32), o = .inr (b3, b4) → Go l b D z yX12_lengthWithout cX12_lengthWithout 5 (some .int) rm_X12_lengthWithout Φ 55 [(0, .ref a0), (3, .int b3), (4, .int b4)] [] h nx 0 0) : Go l b D z yX12_lengthWithout cX12_lengthWithout 5 (some .int) rm_X12_lengthWithout Φ 18 [(0, .ref a0), (1, .int a1), (2, .int a2), (3, .int a3), (4, .int a4)] [] h nx 0 0 := by
  unfold b_X12_lengthWithout_18 at hF
  refine g_iload 4 dX12_lengthWithout_18 rfl ?_
  refine g_iconst dX12_lengthWithout_20 lt_iconst_m1 ?_
  refine g_icmp_eq 55 dX12_lengthWithout_21 (by decide) (fun c1 => ?_) (fun c1 => ?_)
  · replace hF := q_t c1 hF
    cases hF
    refine g_sub [0, 3, 4] rfl ?_
    exact hx0 _ _ rfl
  · replace hF := q_f c1 hF
    refine g_iload_n 2 dX12_lengthWithout_24 rfl ?_
    refine g_iload 4 dX12_lengthWithout_25 rfl ?_
    obtain ⟨x2, e3, hF⟩ := q_bind hF
    refine g_callSr0 qm_X12_has wd_1825 wd_1826 (M_X12_has l b D z nx e3) (As := [.int a2, .int a4]) rfl rfl (Nat.le_of_ble_eq_true rfl) ⟨(Nat.le_of_ble_eq_true rfl), (Nat.le_of_ble_eq_true rfl)⟩ ⟨rfl, rfl⟩ ⟨(Nat.le_of_ble_eq_true rfl), (Nat.le_of_ble_eq_true rfl)⟩ dX12_lengthWithout_27 ?_
    refine g_if_ne 55 dX12_lengthWithout_30 (by decide) (fun c4 => ?_) (fun c4 => ?_)
    · replace hF := q_f c4 hF
      cases hF
      refine g_sub [0, 3, 4] rfl ?_
      exact hx0 _ _ rfl
    · replace hF := q_t c4 hF
      refine g_iload_n 2 dX12_lengthWithout_33 rfl ?_
      refine g_iconst dX12_lengthWithout_34 lt_iconst_1 ?_
      refine g_iload 4 dX12_lengthWithout_35 rfl ?_
      refine g_ishl dX12_lengthWithout_37 ?_
      refine g_ior dX12_lengthWithout_38 ?_
      refine g_istore_n [(2, .int (a2 ||| (q_shl (1 : Int32) a4))), (0, .ref a0), (1, .int a1), (3, .int a3), (4, .int a4)] dX12_lengthWithout_39 (Nat.le_of_ble_eq_true rfl) rfl ?_
      refine g_iinc [(3, .int (a3 + 1)), (2, .int (a2 ||| (q_shl (1 : Int32) a4))), (0, .ref a0), (1, .int a1), (4, .int a4)] 3 dX12_lengthWithout_40 rfl (congrArg (a3 + ·) lt_iconst_1) (Nat.le_of_ble_eq_true rfl) rfl ?_
      refine g_aload_n 2 dX12_lengthWithout_43 rfl ?_
      refine g_iload 4 dX12_lengthWithout_44 rfl ?_
      refine g_iload_n 3 dX12_lengthWithout_46 rfl ?_
      obtain ⟨u5, e6, hF⟩ := q_bind hF
      obtain ⟨x7, e8, hF⟩ := q_bind hF
      refine g_callVr0 (ci := 12) (q := (RX12, TX12, 49)) qm_X12_next wd_1949 wd_1951 wd_132 rfl e6 (M_X12_next l b D z nx e8) (As := [.int a4, .int a1]) rfl rfl (Nat.le_of_ble_eq_true rfl) ⟨(Nat.le_of_ble_eq_true rfl), (Nat.le_of_ble_eq_true rfl)⟩ ⟨rfl, rfl⟩ ⟨(Nat.le_of_ble_eq_true rfl), (Nat.le_of_ble_eq_true rfl)⟩ dX12_lengthWithout_47 ?_
      refine g_istore [(4, .int x7), (3, .int (a3 + 1)), (2, .int (a2 ||| (q_shl (1 : Int32) a4))), (0, .ref a0), (1, .int a1)] dX12_lengthWithout_50 (Nat.le_of_ble_eq_true rfl) rfl ?_
      refine g_goto 18 dX12_lengthWithout_52 (by decide) ?_
      cases hF
      refine g_sub [3, 4, 2, 1, 0] rfl ?_
      exact hback _ _ _ rfl
set_option maxRecDepth 100000 in
set_option maxHeartbeats 4000000 in
theorem L_X12_lengthWithout_18 (l : Launch) (b : Nat) (D : va_G) (z : Nat → Nat) {Φ : Option Value → qH → Nat → Prop} {nx : Nat} {h : qH} {a0 : Nat} {a1 : Int32} : ∀ (n : Nat) (a2 : Int32) (a3 : Int32) (a4 : Int32) (e : (Int32 × Int32)), q_lp (s_X12_lengthWithout_18 h a0 a1) n (a2, a3, a4) = some e → (∀ (b3 : Int32) (b4 : Int32), e = (b3, b4) → Go l b D z yX12_lengthWithout cX12_lengthWithout 5 (some .int) rm_X12_lengthWithout Φ 55 [(0, .ref a0), (3, .int b3), (4, .int b4)] [] h nx 0 0) → Go l b D z yX12_lengthWithout cX12_lengthWithout 5 (some .int) rm_X12_lengthWithout Φ 18 [(0, .ref a0), (1, .int a1), (2, .int a2), (3, .int a3), (4, .int a4)] [] h nx 0 0 := by
  intro n
  induction n with
  | zero => intro a2 a3 a4 e he; cases (show none = some e from he)
  | succ n ih =>
    intro a2 a3 a4 e he hx0
    obtain ⟨o, ho, h1, h2⟩ := q_lp_succ he
    exact B_X12_lengthWithout_18 l b D z (show b_X12_lengthWithout_18 h a0 a1 a2 a3 a4 = some o from ho) (fun b2 b3 b4 hb => ih _ _ _ e (h1 _ hb) hx0) (fun p0 p1 hr => hx0 p0 p1 (h2 _ hr).symm)
set_option maxRecDepth 100000 in
set_option maxHeartbeats 4000000 in
theorem J_X12_lengthWithout_16 (l : Launch) (b : Nat) (D : va_G) (z : Nat → Nat) {nx : Nat} {h : qH} {a0 : Nat} {a1 : Int32} {a2 : Int32} {a3 : Int32} {t0 : Int32} {r : Int32 × qH} (hF : j_X12_lengthWithout_16 h a0 a1 a2 a3 t0 = some r) : Go l b D z yX12_lengthWithout cX12_lengthWithout 5 (some .int) rm_X12_lengthWithout (qE (some (.int r.1)) r.2 nx) 16 [(0, .ref a0), (1, .int a1), (2, .int a2), (3, .int a3)] [.int t0] h nx 0 0 := by
  unfold j_X12_lengthWithout_16 at hF
  refine g_istore [(4, .int t0), (0, .ref a0), (1, .int a1), (2, .int a2), (3, .int a3)] dX12_lengthWithout_16 (Nat.le_of_ble_eq_true rfl) rfl ?_
  obtain ⟨e1, w2, hF⟩ := q_bind hF
  refine g_sub [1, 2, 3, 4, 0] rfl ?_
  refine L_X12_lengthWithout_18 l b D z q_N a2 a3 t0 e1 w2 ?_
  · intro o3 o4 w5
    replace w5 := w5.symm
    subst w5
    dsimp only at hF
    refine g_aload_n 0 dX12_lengthWithout_55 rfl ?_
    refine g_iload 2 dX12_lengthWithout_56 rfl ?_
    obtain ⟨h6, e7, hF⟩ := q_bind hF
    refine g_putf fl_X12_406 e7 rfl rfl dX12_lengthWithout_58 ?_
    refine g_iload_n 1 dX12_lengthWithout_61 rfl ?_
    cases hF
    exact g_iret dX12_lengthWithout_62 rfl ⟨rfl, rfl, rfl⟩ (Nat.le_of_ble_eq_true rfl) (Nat.le_of_ble_eq_true rfl)
set_option maxRecDepth 100000 in
set_option maxHeartbeats 4000000 in
theorem M_X12_lengthWithout (l : Launch) (b : Nat) (D : va_G) (z : Nat → Nat) (nx : Nat) {h : qH} {a0 : Nat} {a1 : Int32} {r : Int32 × qH} (hF : F_X12_lengthWithout h a0 a1 = some r) : Me l b D z yX12_lengthWithout cX12_lengthWithout 5 (some .int) rm_X12_lengthWithout [.ref a0, .int a1] h nx (qE (some (.int r.1)) r.2 nx) := by
  refine Me.of (by decide +kernel) (Nat.le_of_ble_eq_true rfl) ?_
  show Go l b D z yX12_lengthWithout cX12_lengthWithout 5 (some .int) rm_X12_lengthWithout (qE (some (.int r.1)) r.2 nx) 0 [(0, .ref a0), (1, .int a1)] [] h nx 0 0
  unfold F_X12_lengthWithout at hF
  refine g_iconst dX12_lengthWithout_0 lt_iconst_0 ?_
  refine g_istore_n [(2, .int (0 : Int32)), (0, .ref a0), (1, .int a1)] dX12_lengthWithout_1 (Nat.le_of_ble_eq_true rfl) rfl ?_
  refine g_iconst dX12_lengthWithout_2 lt_iconst_0 ?_
  refine g_istore_n [(3, .int (0 : Int32)), (2, .int (0 : Int32)), (0, .ref a0), (1, .int a1)] dX12_lengthWithout_3 (Nat.le_of_ble_eq_true rfl) rfl ?_
  refine g_aload_n 2 dX12_lengthWithout_4 rfl ?_
  obtain ⟨x1, e2, hF⟩ := q_bind hF
  refine g_getfI fl_X12_276 e2 dX12_lengthWithout_5 ?_
  refine g_if_le 15 dX12_lengthWithout_8 (by decide) (fun c3 => ?_) (fun c3 => ?_)
  · replace hF := q_t c3 hF
    refine g_iconst dX12_lengthWithout_15 lt_iconst_m1 ?_
    refine g_sub [2, 3, 1, 0] rfl ?_
    exact J_X12_lengthWithout_16 l b D z hF
  · replace hF := q_f c3 hF
    refine g_iconst dX12_lengthWithout_11 lt_iconst_0 ?_
    refine g_goto 16 dX12_lengthWithout_12 (by decide) ?_
    refine g_sub [2, 3, 1, 0] rfl ?_
    exact J_X12_lengthWithout_16 l b D z hF
def rm_X12_loop : Room := { frames := 3, cells := 0, slots := 0, locals := 69 }
set_option maxRecDepth 100000 in
set_option maxHeartbeats 4000000 in
theorem J_X12_loop_56 (l : Launch) (b : Nat) (D : va_G) (z : Nat → Nat) {Φ : Option Value → qH → Nat → Prop} {nx : Nat} {h : qH} {a0 : Nat} {a4 : Int32} {a5 : Int32} {o : (Int32 × Int32) ⊕ Int32} (hF : j_X12_loop_56 h a0 a4 a5  = some o) (hback : ∀ (b4 : Int32) (b5 : Int32), o = .inl (b4, b5) → Go l b D z yX12_loop cX12_loop 6 (some .int) rm_X12_loop Φ 36 [(0, .ref a0), (4, .int b4), (5, .int b5)] [] h nx 0 0) (hx0 : ∀ (b4 : Int32), o = .inr b4 → Go l b D z yX12_loop cX12_loop 6 (some .int) rm_X12_loop Φ 71 [(4, .int b4)] [] h nx 0 0) : Go l b D z yX12_loop cX12_loop 6 (some .int) rm_X12_loop Φ 56 [(0, .ref a0), (4, .int a4), (5, .int a5)] [] h nx 0 0 := by
  unfold j_X12_loop_56 at hF
  refine g_iinc [(4, .int (a4 + 1)), (0, .ref a0), (5, .int a5)] 1 dX12_loop_56 rfl (congrArg (a4 + ·) lt_iconst_1) (Nat.le_of_ble_eq_true rfl) rfl ?_
  refine g_aload_n 1 dX12_loop_59 rfl ?_
  refine g_iload 2 dX12_loop_60 rfl ?_
  refine g_iconst dX12_loop_62 lt_iconst_0 ?_
  obtain ⟨u1, e2, hF⟩ := q_bind hF
  obtain ⟨x3, e4, hF⟩ := q_bind hF
  refine g_callVr0 (ci := 12) (q := (RX12, TX12, 49)) qm_X12_behind wd_1773 wd_1775 wd_104 rfl e2 (M_X12_behind l b D z nx e4) (As := [.int a5, .int (0 : Int32)]) rfl rfl (Nat.le_of_ble_eq_true rfl) ⟨(Nat.le_of_ble_eq_true rfl), (Nat.le_of_ble_eq_true rfl)⟩ ⟨rfl, rfl⟩ ⟨(Nat.le_of_ble_eq_true rfl), (Nat.le_of_ble_eq_true rfl)⟩ dX12_loop_63 ?_
  refine g_istore [(5, .int x3), (4, .int (a4 + 1)), (0, .ref a0)] dX12_loop_66 (Nat.le_of_ble_eq_true rfl) rfl ?_
  refine g_goto 36 dX12_loop_68 (by decide) ?_
  cases hF
  refine g_sub [2, 1, 0] rfl ?_
  exact hback _ _ rfl
set_option maxRecDepth 100000 in
set_option maxHeartbeats 4000000 in
theorem B_X12_loop_36 (l : Launch) (b : Nat) (D : va_G) (z : Nat → Nat) {Φ : Option Value → qH → Nat → Prop} {nx : Nat} {h : qH} {a0 : Nat} {a4 : Int32} {a5 : Int32} {o : (Int32 × Int32) ⊕ Int32} (hF : b_X12_loop_36 h a0 a4 a5 = some o) (hback : ∀ (b4 : Int32) (b5 : Int32), o = .inl (b4, b5) → Go l b D z yX12_loop cX12_loop 6 (some .int) rm_X12_loop Φ 36 [(0, .ref a0), (4, .int b4), (5, .int b5)] [] h nx 0 0) (hx0 : ∀ (b4 : Int32), o = .inr b4 → Go l b D z yX12_loop cX12_loop 6 (some .int) rm_X12_loop Φ 71 [(4, .int b4)] [] h nx 0 0) : Go l b D z yX12_loop cX12_loop 6 (some .int) rm_X12_loop Φ 36 [(0, .ref a0), (4, .int a4), (5, .int a5)] [] h nx 0 0 := by
  unfold b_X12_loop_36 at hF
  refine g_iload 2 dX12_loop_36 rfl ?_
  refine g_iconst dX12_loop_38 lt_iconst_m1 ?_
  refine g_icmp_eq 71 dX12_loop_39 (by decide) (fun c1 => ?_) (fun c1 => ?_)
  · replace hF := q_t c1 hF
    cases hF
    refine g_sub [1] rfl ?_
    exact hx0 _ rfl
  · replace hF := q_f c1 hF
    refine g_iload 1 dX12_loop_42 rfl ?_
    refine g_if_eq 56 dX12_loop_44 (by decide) (fun c2 => ?_) (fun c2 => ?_)
    · replace hF := q_t c2 hF
      exact J_X12_loop_56 l b D z hF hback hx0
    · replace hF := q_f c2 hF
      refine g_iload 2 dX12_loop_47 rfl ?_
      refine g_aload_n 0 dX12_loop_49 rfl ?_
      obtain ⟨x3, e4, hF⟩ := q_bind hF
      refine g_getfI fl_X12_406 e4 dX12_loop_50 ?_
      refine g_icmp_eq 71 dX12_loop_53 (by decide) (fun c5 => ?_) (fun c5 => ?_)
      · replace hF := q_t c5 hF
        cases hF
        refine g_sub [1] rfl ?_
        exact hx0 _ rfl
      · replace hF := q_f c5 hF
        exact J_X12_loop_56 l b D z hF hback hx0
set_option maxRecDepth 100000 in
set_option maxHeartbeats 4000000 in
theorem L_X12_loop_36 (l : Launch) (b : Nat) (D : va_G) (z : Nat → Nat) {Φ : Option Value → qH → Nat → Prop} {nx : Nat} {h : qH} {a0 : Nat} : ∀ (n : Nat) (a4 : Int32) (a5 : Int32) (e : Int32), q_lp (s_X12_loop_36 h a0) n (a4, a5) = some e → (∀ (b4 : Int32), e = b4 → Go l b D z yX12_loop cX12_loop 6 (some .int) rm_X12_loop Φ 71 [(4, .int b4)] [] h nx 0 0) → Go l b D z yX12_loop cX12_loop 6 (some .int) rm_X12_loop Φ 36 [(0, .ref a0), (4, .int a4), (5, .int a5)] [] h nx 0 0 := by
  intro n
  induction n with
  | zero => intro a4 a5 e he; cases (show none = some e from he)
  | succ n ih =>
    intro a4 a5 e he hx0
    obtain ⟨o, ho, h1, h2⟩ := q_lp_succ he
    exact B_X12_loop_36 l b D z (show b_X12_loop_36 h a0 a4 a5 = some o from ho) (fun b4 b5 hb => ih _ _ e (h1 _ hb) hx0) (fun p0 hr => hx0 p0 (h2 _ hr).symm)
set_option maxRecDepth 100000 in
set_option maxHeartbeats 4000000 in
theorem M_X12_loop (l : Launch) (b : Nat) (D : va_G) (z : Nat → Nat) (nx : Nat) {h : qH} {a0 : Nat} {a1 : Int32} {a2 : Int32} {r : Int32 × qH} (hF : F_X12_loop h a0 a1 a2 = some r) : Me l b D z yX12_loop cX12_loop 6 (some .int) rm_X12_loop [.ref a0, .int a1, .int a2] h nx (qE (some (.int r.1)) r.2 nx) := by
  refine Me.of (by decide +kernel) (Nat.le_of_ble_eq_true rfl) ?_
  show Go l b D z yX12_loop cX12_loop 6 (some .int) rm_X12_loop (qE (some (.int r.1)) r.2 nx) 0 [(0, .ref a0), (1, .int a1), (2, .int a2)] [] h nx 0 0
  unfold F_X12_loop at hF
  refine g_aload_n 0 dX12_loop_0 rfl ?_
  refine g_iconst dX12_loop_1 lt_iconst_0 ?_
  obtain ⟨h1, e2, hF⟩ := q_bind hF
  refine g_putf fl_X12_91 e2 rfl rfl dX12_loop_2 ?_
  refine g_aload_n 0 dX12_loop_5 rfl ?_
  refine g_iload_n 1 dX12_loop_6 rfl ?_
  obtain ⟨u3, e4, hF⟩ := q_bind hF
  obtain ⟨x5, e6, hF⟩ := q_bind hF
  refine g_callVr0 (ci := 12) (q := (RX12, TX12, 49)) qm_X12_hand wd_1750 wd_1752 wd_99 rfl e4 (M_X12_hand l b D z nx e6) (As := [.int a1]) rfl rfl (Nat.le_of_ble_eq_true rfl) ⟨(Nat.le_of_ble_eq_true rfl), (Nat.le_of_ble_eq_true rfl)⟩ ⟨rfl, rfl⟩ ⟨(Nat.le_of_ble_eq_true rfl), (Nat.le_of_ble_eq_true rfl)⟩ dX12_loop_7 ?_
  refine g_if_ne 15 dX12_loop_10 (by decide) (fun c7 => ?_) (fun c7 => ?_)
  · replace hF := q_f c7 hF
    refine g_aload_n 0 dX12_loop_15 rfl ?_
    refine g_iconst dX12_loop_16 lt_iconst_m1 ?_
    obtain ⟨u8, e9, hF⟩ := q_bind hF
    obtain ⟨x10, e11, hF⟩ := q_bind hF
    refine g_callVr0 (ci := 12) (q := (RX12, TX12, 49)) qm_X12_lengthWithout wd_1945 wd_1947 wd_131 rfl e9 (M_X12_lengthWithout l b D z nx e11) (As := [.int (-1 : Int32)]) rfl rfl (Nat.le_of_ble_eq_true rfl) ⟨(Nat.le_of_ble_eq_true rfl), (Nat.le_of_ble_eq_true rfl)⟩ ⟨rfl, rfl⟩ ⟨(Nat.le_of_ble_eq_true rfl), (Nat.le_of_ble_eq_true rfl)⟩ dX12_loop_17 ?_
    refine g_istore_n [(3, .int x10.1), (0, .ref a0), (1, .int a1), (2, .int a2)] dX12_loop_20 (Nat.le_of_ble_eq_true rfl) rfl ?_
    refine g_iload_n 3 dX12_loop_21 rfl ?_
    refine g_if_eq 27 dX12_loop_22 (by decide) (fun c12 => ?_) (fun c12 => ?_)
    · replace hF := q_t c12 hF
      refine g_iconst dX12_loop_27 lt_iconst_0 ?_
      refine g_istore [(4, .int (0 : Int32)), (3, .int x10.1), (0, .ref a0), (1, .int a1), (2, .int a2)] dX12_loop_28 (Nat.le_of_ble_eq_true rfl) rfl ?_
      refine g_aload_n 2 dX12_loop_30 rfl ?_
      obtain ⟨x13, e14, hF⟩ := q_bind hF
      refine g_getfI fl_X12_406 e14 dX12_loop_31 ?_
      refine g_istore [(5, .int x13), (4, .int (0 : Int32)), (3, .int x10.1), (0, .ref a0), (1, .int a1), (2, .int a2)] dX12_loop_34 (Nat.le_of_ble_eq_true rfl) rfl ?_
      obtain ⟨e15, w16, hF⟩ := q_bind hF
      refine g_sub [3, 1, 0] rfl ?_
      refine L_X12_loop_36 l b D z q_N (0 : Int32) x13 e15 w16 ?_
      · intro o17 w18
        replace w18 := w18.symm
        subst w18
        refine g_iload 0 dX12_loop_71 rfl ?_
        cases hF
        exact g_iret dX12_loop_73 rfl ⟨rfl, rfl, rfl⟩ (Nat.le_of_ble_eq_true rfl) (Nat.le_of_ble_eq_true rfl)
    · replace hF := q_f c12 hF
      refine g_iload_n 0 dX12_loop_25 rfl ?_
      cases hF
      exact g_iret dX12_loop_26 rfl ⟨rfl, rfl, rfl⟩ (Nat.le_of_ble_eq_true rfl) (Nat.le_of_ble_eq_true rfl)
  · replace hF := q_t c7 hF
    refine g_iconst dX12_loop_13 lt_iconst_m1 ?_
    cases hF
    exact g_iret dX12_loop_14 rfl ⟨rfl, rfl, rfl⟩ (Nat.le_of_ble_eq_true rfl) (Nat.le_of_ble_eq_true rfl)
def rm_X12_layRow : Room := { frames := 2, cells := 0, slots := 0, locals := 42 }
set_option maxRecDepth 100000 in
set_option maxHeartbeats 4000000 in
theorem B_X12_layRow_16 (l : Launch) (b : Nat) (D : va_G) (z : Nat → Nat) {Φ : Option Value → qH → Nat → Prop} {nx : Nat} {a0 : Nat} {a1 : Nat} {a2 : Int32} {a3 : Int32} {a4 : Int32} {h : qH} {o : (Int32 × Int32 × qH) ⊕ ((Int32 × qH))} (hF : b_X12_layRow_16 a0 a1 a2 a3 a4 h = some o) (hback : ∀ (b3 : Int32) (b4 : Int32) (bh : qH), o = .inl (b3, b4, bh) → Go l b D z yX12_layRow cX12_layRow 5 (some .int) rm_X12_layRow Φ 16 [(0, .ref a0), (1, .ref a1), (2, .int a2), (3, .int b3), (4, .int b4)] [] bh nx 0 0) (hx0 : ∀ (b4 : Int32) (bh : qH), o = .inr (b4, bh) → Go l b D z yX12_layRow cX12_layRow 5 (some .int) rm_X12_layRow Φ 49 [(4, .int b4)] [] bh nx 0 0) : Go l b D z yX12_layRow cX12_layRow 5 (some .int) rm_X12_layRow Φ 16 [(0, .ref a0), (1, .ref a1), (2, .int a2), (3, .int a3), (4, .int a4)] [] h nx 0 0 := by
  unfold b_X12_layRow_16 at hF
  refine g_iload 4 dX12_layRow_16 rfl ?_
  refine g_iload_n 2 dX12_layRow_18 rfl ?_
  refine g_icmp_ge 49 dX12_layRow_19 (by decide) (fun c1 => ?_) (fun c1 => ?_)
  · replace hF := q_t c1 hF
    cases hF
    refine g_sub [4] rfl ?_
    exact hx0 _ _ rfl
  · replace hF := q_f c1 hF
    refine g_iload_n 3 dX12_layRow_22 rfl ?_
    refine g_iconst dX12_layRow_23 lt_iconst_m1 ?_
    refine g_icmp_eq 49 dX12_layRow_24 (by decide) (fun c2 => ?_) (fun c2 => ?_)
    · replace hF := q_t c2 hF
      cases hF
      refine g_sub [4] rfl ?_
      exact hx0 _ _ rfl
    · replace hF := q_f c2 hF
      refine g_aload_n 1 dX12_layRow_27 rfl ?_
      refine g_iload 4 dX12_layRow_28 rfl ?_
      refine g_aload_n 0 dX12_layRow_30 rfl ?_
      refine g_iload_n 3 dX12_layRow_31 rfl ?_
      obtain ⟨u3, e4, hF⟩ := q_bind hF
      obtain ⟨x5, e6, hF⟩ := q_bind hF
      refine g_callVr0 (ci := 12) (q := (RX12, TX12, 49)) qm_X12_who wd_1836 wd_1838 wd_116 rfl e4 (M_X12_who l b D z nx e6) (As := [.int a3]) rfl rfl (Nat.le_of_ble_eq_true rfl) ⟨(Nat.le_of_ble_eq_true rfl), (Nat.le_of_ble_eq_true rfl)⟩ ⟨rfl, rfl⟩ ⟨(Nat.le_of_ble_eq_true rfl), (Nat.le_of_ble_eq_true rfl)⟩ dX12_layRow_32 ?_
      obtain ⟨h7, e8, hF⟩ := q_bind hF
      refine g_iast e8 dX12_layRow_35 ?_
      refine g_iinc [(4, .int (a4 + 1)), (0, .ref a0), (1, .ref a1), (2, .int a2), (3, .int a3)] 4 dX12_layRow_36 rfl (congrArg (a4 + ·) lt_iconst_1) (Nat.le_of_ble_eq_true rfl) rfl ?_
      refine g_aload_n 1 dX12_layRow_39 rfl ?_
      refine g_iload_n 4 dX12_layRow_40 rfl ?_
      refine g_iconst dX12_layRow_41 lt_iconst_0 ?_
      obtain ⟨u9, e10, hF⟩ := q_bind hF
      obtain ⟨x11, e12, hF⟩ := q_bind hF
      refine g_callVr0 (ci := 12) (q := (RX12, TX12, 49)) qm_X12_behind wd_1773 wd_1775 wd_104 rfl e10 (M_X12_behind l b D z nx e12) (As := [.int a3, .int (0 : Int32)]) rfl rfl (Nat.le_of_ble_eq_true rfl) ⟨(Nat.le_of_ble_eq_true rfl), (Nat.le_of_ble_eq_true rfl)⟩ ⟨rfl, rfl⟩ ⟨(Nat.le_of_ble_eq_true rfl), (Nat.le_of_ble_eq_true rfl)⟩ dX12_layRow_42 ?_
      refine g_istore_n [(3, .int x11), (4, .int (a4 + 1)), (0, .ref a0), (1, .ref a1), (2, .int a2)] dX12_layRow_45 (Nat.le_of_ble_eq_true rfl) rfl ?_
      refine g_goto 16 dX12_layRow_46 (by decide) ?_
      cases hF
      refine g_sub [2, 3, 4, 0, 1] rfl ?_
      exact hback _ _ _ rfl
set_option maxRecDepth 100000 in
set_option maxHeartbeats 4000000 in
theorem L_X12_layRow_16 (l : Launch) (b : Nat) (D : va_G) (z : Nat → Nat) {Φ : Option Value → qH → Nat → Prop} {nx : Nat} {a0 : Nat} {a1 : Nat} {a2 : Int32} : ∀ (n : Nat) (a3 : Int32) (a4 : Int32) (h : qH) (e : (Int32 × qH)), q_lp (s_X12_layRow_16 a0 a1 a2) n (a3, a4, h) = some e → (∀ (b4 : Int32) (bh : qH), e = (b4, bh) → Go l b D z yX12_layRow cX12_layRow 5 (some .int) rm_X12_layRow Φ 49 [(4, .int b4)] [] bh nx 0 0) → Go l b D z yX12_layRow cX12_layRow 5 (some .int) rm_X12_layRow Φ 16 [(0, .ref a0), (1, .ref a1), (2, .int a2), (3, .int a3), (4, .int a4)] [] h nx 0 0 := by
  intro n
  induction n with
  | zero => intro a3 a4 h e he; cases (show none = some e from he)
  | succ n ih =>
    intro a3 a4 h e he hx0
    obtain ⟨o, ho, h1, h2⟩ := q_lp_succ he
    exact B_X12_layRow_16 l b D z (show b_X12_layRow_16 a0 a1 a2 a3 a4 h = some o from ho) (fun b3 b4 bh hb => ih _ _ _ e (h1 _ hb) hx0) (fun p0 p1 hr => hx0 p0 p1 (h2 _ hr).symm)
set_option maxRecDepth 100000 in
set_option maxHeartbeats 4000000 in
theorem J_X12_layRow_12 (l : Launch) (b : Nat) (D : va_G) (z : Nat → Nat) {nx : Nat} {h : qH} {a0 : Nat} {a1 : Nat} {a2 : Int32} {t0 : Int32} {r : Int32 × qH} (hF : j_X12_layRow_12 h a0 a1 a2 t0 = some r) : Go l b D z yX12_layRow cX12_layRow 5 (some .int) rm_X12_layRow (qE (some (.int r.1)) r.2 nx) 12 [(0, .ref a0), (1, .ref a1), (2, .int a2)] [.int t0] h nx 0 0 := by
  unfold j_X12_layRow_12 at hF
  refine g_istore_n [(3, .int t0), (0, .ref a0), (1, .ref a1), (2, .int a2)] dX12_layRow_12 (Nat.le_of_ble_eq_true rfl) rfl ?_
  refine g_iconst dX12_layRow_13 lt_iconst_0 ?_
  refine g_istore [(4, .int (0 : Int32)), (3, .int t0), (0, .ref a0), (1, .ref a1), (2, .int a2)] dX12_layRow_14 (Nat.le_of_ble_eq_true rfl) rfl ?_
  obtain ⟨e1, w2, hF⟩ := q_bind hF
  refine g_sub [2, 3, 4, 1, 0] rfl ?_
  refine L_X12_layRow_16 l b D z q_N t0 (0 : Int32) h e1 w2 ?_
  · intro o3 h4 w5
    replace w5 := w5.symm
    subst w5
    dsimp only at hF
    refine g_iload 0 dX12_layRow_49 rfl ?_
    cases hF
    exact g_iret dX12_layRow_51 rfl ⟨rfl, rfl, rfl⟩ (Nat.le_of_ble_eq_true rfl) (Nat.le_of_ble_eq_true rfl)
set_option maxRecDepth 100000 in
set_option maxHeartbeats 4000000 in
theorem M_X12_layRow (l : Launch) (b : Nat) (D : va_G) (z : Nat → Nat) (nx : Nat) {h : qH} {a0 : Nat} {a1 : Nat} {a2 : Int32} {r : Int32 × qH} (hF : F_X12_layRow h a0 a1 a2 = some r) : Me l b D z yX12_layRow cX12_layRow 5 (some .int) rm_X12_layRow [.ref a0, .ref a1, .int a2] h nx (qE (some (.int r.1)) r.2 nx) := by
  refine Me.of (by decide +kernel) (Nat.le_of_ble_eq_true rfl) ?_
  show Go l b D z yX12_layRow cX12_layRow 5 (some .int) rm_X12_layRow (qE (some (.int r.1)) r.2 nx) 0 [(0, .ref a0), (1, .ref a1), (2, .int a2)] [] h nx 0 0
  unfold F_X12_layRow at hF
  refine g_aload_n 0 dX12_layRow_0 rfl ?_
  obtain ⟨x1, e2, hF⟩ := q_bind hF
  refine g_getfI fl_X12_276 e2 dX12_layRow_1 ?_
  refine g_if_le 11 dX12_layRow_4 (by decide) (fun c3 => ?_) (fun c3 => ?_)
  · replace hF := q_t c3 hF
    refine g_iconst dX12_layRow_11 lt_iconst_m1 ?_
    exact J_X12_layRow_12 l b D z hF
  · replace hF := q_f c3 hF
    refine g_iconst dX12_layRow_7 lt_iconst_0 ?_
    refine g_goto 12 dX12_layRow_8 (by decide) ?_
    exact J_X12_layRow_12 l b D z hF
def rm_X12_findShortest : Room := { frames := 1, cells := 0, slots := 0, locals := 21 }
set_option maxRecDepth 100000 in
set_option maxHeartbeats 4000000 in
theorem J_X12_findShortest_130 (l : Launch) (b : Nat) (D : va_G) (z : Nat → Nat) {Φ : Option Value → qH → Nat → Prop} {nx : Nat} {h : qH} {a0 : Nat} {a1 : Int32} {a2 : Int32} {a3 : Int32} {o : (Int32 × qH) ⊕ qH} (hF : j_X12_findShortest_130 h a0 a1 a2 a3  = some o) (hback : ∀ (b2 : Int32) (bh : qH), o = .inl (b2, bh) → Go l b D z yX12_findShortest cX12_findShortest 4 none rm_X12_findShortest Φ 14 [(0, .ref a0), (1, .int a1), (2, .int b2)] [] bh nx 0 0) (hx0 : ∀  (bh : qH), o = .inr bh → Go l b D z yX12_findShortest cX12_findShortest 4 none rm_X12_findShortest Φ 148 [(0, .ref a0), (1, .int a1)] [] bh nx 0 0) : Go l b D z yX12_findShortest cX12_findShortest 4 none rm_X12_findShortest Φ 130 [(0, .ref a0), (1, .int a1), (2, .int a2), (3, .int a3)] [] h nx 0 0 := by
  unfold j_X12_findShortest_130 at hF
  refine g_aload_n 0 dX12_findShortest_130 rfl ?_
  obtain ⟨x1, e2, hF⟩ := q_bind hF
  refine g_getfR fl_X12_72 e2 dX12_findShortest_131 ?_
  refine g_bipush dX12_findShortest_134 lt_bipush_13 ?_
  refine g_iload_n 1 dX12_findShortest_136 rfl ?_
  refine g_imul dX12_findShortest_137 ?_
  refine g_iload_n 2 dX12_findShortest_138 rfl ?_
  refine g_iadd dX12_findShortest_139 ?_
  refine g_iload_n 3 dX12_findShortest_140 rfl ?_
  obtain ⟨h3, e4, hF⟩ := q_bind hF
  refine g_iast e4 dX12_findShortest_141 ?_
  refine g_iinc [(2, .int (a2 + (-1))), (0, .ref a0), (1, .int a1), (3, .int a3)] 2 dX12_findShortest_142 rfl (congrArg (a2 + ·) lt_iconst_m1) (Nat.le_of_ble_eq_true rfl) rfl ?_
  refine g_goto 14 dX12_findShortest_145 (by decide) ?_
  cases hF
  refine g_sub [1, 2, 0] rfl ?_
  exact hback _ _ rfl
set_option maxRecDepth 100000 in
set_option maxHeartbeats 4000000 in
theorem J_X12_findShortest_129 (l : Launch) (b : Nat) (D : va_G) (z : Nat → Nat) {Φ : Option Value → qH → Nat → Prop} {nx : Nat} {h : qH} {a0 : Nat} {a1 : Int32} {a2 : Int32} {t0 : Int32} {o : (Int32 × qH) ⊕ qH} (hF : j_X12_findShortest_129 h a0 a1 a2 t0 = some o) (hback : ∀ (b2 : Int32) (bh : qH), o = .inl (b2, bh) → Go l b D z yX12_findShortest cX12_findShortest 4 none rm_X12_findShortest Φ 14 [(0, .ref a0), (1, .int a1), (2, .int b2)] [] bh nx 0 0) (hx0 : ∀  (bh : qH), o = .inr bh → Go l b D z yX12_findShortest cX12_findShortest 4 none rm_X12_findShortest Φ 148 [(0, .ref a0), (1, .int a1)] [] bh nx 0 0) : Go l b D z yX12_findShortest cX12_findShortest 4 none rm_X12_findShortest Φ 129 [(0, .ref a0), (1, .int a1), (2, .int a2)] [.int t0] h nx 0 0 := by
  unfold j_X12_findShortest_129 at hF
  refine g_istore_n [(3, .int t0), (0, .ref a0), (1, .int a1), (2, .int a2)] dX12_findShortest_129 (Nat.le_of_ble_eq_true rfl) rfl ?_
  refine g_sub [1, 2, 3, 0] rfl ?_
  exact J_X12_findShortest_130 l b D z hF hback hx0
set_option maxRecDepth 100000 in
set_option maxHeartbeats 4000000 in
theorem J_X12_findShortest_55 (l : Launch) (b : Nat) (D : va_G) (z : Nat → Nat) {Φ : Option Value → qH → Nat → Prop} {nx : Nat} {h : qH} {a0 : Nat} {a1 : Int32} {a2 : Int32} {t0 : Int32} {o : (Int32 × qH) ⊕ qH} (hF : j_X12_findShortest_55 h a0 a1 a2 t0 = some o) (hback : ∀ (b2 : Int32) (bh : qH), o = .inl (b2, bh) → Go l b D z yX12_findShortest cX12_findShortest 4 none rm_X12_findShortest Φ 14 [(0, .ref a0), (1, .int a1), (2, .int b2)] [] bh nx 0 0) (hx0 : ∀  (bh : qH), o = .inr bh → Go l b D z yX12_findShortest cX12_findShortest 4 none rm_X12_findShortest Φ 148 [(0, .ref a0), (1, .int a1)] [] bh nx 0 0) : Go l b D z yX12_findShortest cX12_findShortest 4 none rm_X12_findShortest Φ 55 [(0, .ref a0), (1, .int a1), (2, .int a2)] [.int t0] h nx 0 0 := by
  unfold j_X12_findShortest_55 at hF
  refine g_istore_n [(3, .int t0), (0, .ref a0), (1, .int a1), (2, .int a2)] dX12_findShortest_55 (Nat.le_of_ble_eq_true rfl) rfl ?_
  refine g_iload_n 0 dX12_findShortest_56 rfl ?_
  refine g_ldcw dX12_findShortest_57 wd_1887 ?_
  refine g_icmp_ne 130 dX12_findShortest_60 (by decide) (fun c1 => ?_) (fun c1 => ?_)
  · replace hF := q_f c1 hF
    refine g_sub [1, 2, 3, 0] rfl ?_
    exact J_X12_findShortest_130 l b D z hF hback hx0
  · replace hF := q_t c1 hF
    refine g_aload_n 1 dX12_findShortest_63 rfl ?_
    obtain ⟨x2, e3, hF⟩ := q_bind hF
    refine g_getfR fl_X12_66 e3 dX12_findShortest_64 ?_
    refine g_iload_n 2 dX12_findShortest_67 rfl ?_
    obtain ⟨x4, e5, hF⟩ := q_bind hF
    refine g_iald e5 dX12_findShortest_68 ?_
    refine g_aload_n 1 dX12_findShortest_69 rfl ?_
    obtain ⟨x6, e7, hF⟩ := q_bind hF
    refine g_getfR fl_X12_69 e7 dX12_findShortest_70 ?_
    refine g_iload_n 3 dX12_findShortest_73 rfl ?_
    obtain ⟨x8, e9, hF⟩ := q_bind hF
    refine g_iald e9 dX12_findShortest_74 ?_
    refine g_icmp_ne 97 dX12_findShortest_75 (by decide) (fun c10 => ?_) (fun c10 => ?_)
    · replace hF := q_f c10 hF
      refine g_iconst dX12_findShortest_97 lt_iconst_1 ?_
      refine g_aload_n 1 dX12_findShortest_98 rfl ?_
      obtain ⟨x11, e12, hF⟩ := q_bind hF
      refine g_getfR fl_X12_72 e12 dX12_findShortest_99 ?_
      refine g_bipush dX12_findShortest_102 lt_bipush_13 ?_
      refine g_iload_n 2 dX12_findShortest_104 rfl ?_
      refine g_imul dX12_findShortest_105 ?_
      refine g_iload_n 3 dX12_findShortest_106 rfl ?_
      refine g_iadd dX12_findShortest_107 ?_
      refine g_bipush dX12_findShortest_108 lt_bipush_13 ?_
      refine g_iadd dX12_findShortest_110 ?_
      obtain ⟨x13, e14, hF⟩ := q_bind hF
      refine g_iald e14 dX12_findShortest_111 ?_
      refine g_aload_n 1 dX12_findShortest_112 rfl ?_
      obtain ⟨x15, e16, hF⟩ := q_bind hF
      refine g_getfR fl_X12_72 e16 dX12_findShortest_113 ?_
      refine g_bipush dX12_findShortest_116 lt_bipush_13 ?_
      refine g_iload_n 2 dX12_findShortest_118 rfl ?_
      refine g_imul dX12_findShortest_119 ?_
      refine g_iload_n 3 dX12_findShortest_120 rfl ?_
      refine g_iadd dX12_findShortest_121 ?_
      refine g_iconst dX12_findShortest_122 lt_iconst_1 ?_
      refine g_iadd dX12_findShortest_123 ?_
      obtain ⟨x17, e18, hF⟩ := q_bind hF
      refine g_iald e18 dX12_findShortest_124 ?_
      obtain ⟨x19, e20, hF⟩ := q_bind hF
      refine g_callSr0 qm_X12_lesser wd_1891 wd_1892 (M_X12_lesser l b D z nx e20) (As := [.int x13, .int x17]) rfl rfl (Nat.le_of_ble_eq_true rfl) ⟨(Nat.le_of_ble_eq_true rfl), (Nat.le_of_ble_eq_true rfl)⟩ ⟨rfl, rfl⟩ ⟨(Nat.le_of_ble_eq_true rfl), (Nat.le_of_ble_eq_true rfl)⟩ dX12_findShortest_125 ?_
      refine g_iadd dX12_findShortest_128 ?_
      refine g_sub [1, 2, 3] rfl ?_
      exact J_X12_findShortest_129 l b D z hF hback hx0
    · replace hF := q_t c10 hF
      refine g_iconst dX12_findShortest_78 lt_iconst_1 ?_
      refine g_aload_n 1 dX12_findShortest_79 rfl ?_
      obtain ⟨x21, e22, hF⟩ := q_bind hF
      refine g_getfR fl_X12_72 e22 dX12_findShortest_80 ?_
      refine g_bipush dX12_findShortest_83 lt_bipush_13 ?_
      refine g_iload_n 2 dX12_findShortest_85 rfl ?_
      refine g_imul dX12_findShortest_86 ?_
      refine g_iload_n 3 dX12_findShortest_87 rfl ?_
      refine g_iadd dX12_findShortest_88 ?_
      refine g_bipush dX12_findShortest_89 lt_bipush_14 ?_
      refine g_iadd dX12_findShortest_91 ?_
      obtain ⟨x23, e24, hF⟩ := q_bind hF
      refine g_iald e24 dX12_findShortest_92 ?_
      refine g_iadd dX12_findShortest_93 ?_
      refine g_goto 129 dX12_findShortest_94 (by decide) ?_
      refine g_sub [1, 2, 3] rfl ?_
      exact J_X12_findShortest_129 l b D z hF hback hx0
set_option maxRecDepth 100000 in
set_option maxHeartbeats 4000000 in
theorem B_X12_findShortest_14 (l : Launch) (b : Nat) (D : va_G) (z : Nat → Nat) {Φ : Option Value → qH → Nat → Prop} {nx : Nat} {a0 : Nat} {a1 : Int32} {a2 : Int32} {h : qH} {o : (Int32 × qH) ⊕ qH} (hF : b_X12_findShortest_14 a0 a1 a2 h = some o) (hback : ∀ (b2 : Int32) (bh : qH), o = .inl (b2, bh) → Go l b D z yX12_findShortest cX12_findShortest 4 none rm_X12_findShortest Φ 14 [(0, .ref a0), (1, .int a1), (2, .int b2)] [] bh nx 0 0) (hx0 : ∀  (bh : qH), o = .inr bh → Go l b D z yX12_findShortest cX12_findShortest 4 none rm_X12_findShortest Φ 148 [(0, .ref a0), (1, .int a1)] [] bh nx 0 0) : Go l b D z yX12_findShortest cX12_findShortest 4 none rm_X12_findShortest Φ 14 [(0, .ref a0), (1, .int a1), (2, .int a2)] [] h nx 0 0 := by
  unfold b_X12_findShortest_14 at hF
  refine g_iload_n 2 dX12_findShortest_14 rfl ?_
  refine g_if_lt 148 dX12_findShortest_15 (by decide) (fun c1 => ?_) (fun c1 => ?_)
  · replace hF := q_t c1 hF
    cases hF
    refine g_sub [0, 1] rfl ?_
    exact hx0 _ rfl
  · replace hF := q_f c1 hF
    refine g_iload_n 1 dX12_findShortest_18 rfl ?_
    refine g_aload_n 0 dX12_findShortest_19 rfl ?_
    obtain ⟨x2, e3, hF⟩ := q_bind hF
    refine g_getfI fl_X12_412 e3 dX12_findShortest_20 ?_
    refine g_icmp_ne 35 dX12_findShortest_23 (by decide) (fun c4 => ?_) (fun c4 => ?_)
    · replace hF := q_f c4 hF
      refine g_iload_n 2 dX12_findShortest_35 rfl ?_
      refine g_aload_n 0 dX12_findShortest_36 rfl ?_
      obtain ⟨x5, e6, hF⟩ := q_bind hF
      refine g_getfI fl_X12_415 e6 dX12_findShortest_37 ?_
      refine g_icmp_ne 52 dX12_findShortest_40 (by decide) (fun c7 => ?_) (fun c7 => ?_)
      · replace hF := q_f c7 hF
        refine g_ldcw dX12_findShortest_52 wd_1887 ?_
        exact J_X12_findShortest_55 l b D z hF hback hx0
      · replace hF := q_t c7 hF
        refine g_aload_n 0 dX12_findShortest_43 rfl ?_
        obtain ⟨x8, e9, hF⟩ := q_bind hF
        refine g_getfI fl_X12_412 e9 dX12_findShortest_44 ?_
        refine g_iload_n 1 dX12_findShortest_47 rfl ?_
        refine g_isub dX12_findShortest_48 ?_
        refine g_goto 55 dX12_findShortest_49 (by decide) ?_
        exact J_X12_findShortest_55 l b D z hF hback hx0
    · replace hF := q_t c4 hF
      refine g_aload_n 0 dX12_findShortest_26 rfl ?_
      obtain ⟨x10, e11, hF⟩ := q_bind hF
      refine g_getfI fl_X12_415 e11 dX12_findShortest_27 ?_
      refine g_iload_n 2 dX12_findShortest_30 rfl ?_
      refine g_isub dX12_findShortest_31 ?_
      refine g_goto 55 dX12_findShortest_32 (by decide) ?_
      exact J_X12_findShortest_55 l b D z hF hback hx0
set_option maxRecDepth 100000 in
set_option maxHeartbeats 4000000 in
theorem L_X12_findShortest_14 (l : Launch) (b : Nat) (D : va_G) (z : Nat → Nat) {Φ : Option Value → qH → Nat → Prop} {nx : Nat} {a0 : Nat} {a1 : Int32} : ∀ (n : Nat) (a2 : Int32) (h : qH) (e : qH), q_lp (s_X12_findShortest_14 a0 a1) n (a2, h) = some e → (∀  (bh : qH), e = bh → Go l b D z yX12_findShortest cX12_findShortest 4 none rm_X12_findShortest Φ 148 [(0, .ref a0), (1, .int a1)] [] bh nx 0 0) → Go l b D z yX12_findShortest cX12_findShortest 4 none rm_X12_findShortest Φ 14 [(0, .ref a0), (1, .int a1), (2, .int a2)] [] h nx 0 0 := by
  intro n
  induction n with
  | zero => intro a2 h e he; cases (show none = some e from he)
  | succ n ih =>
    intro a2 h e he hx0
    obtain ⟨o, ho, h1, h2⟩ := q_lp_succ he
    exact B_X12_findShortest_14 l b D z (show b_X12_findShortest_14 a0 a1 a2 h = some o from ho) (fun b2 bh hb => ih _ _ e (h1 _ hb) hx0) (fun p0 hr => hx0 p0 (h2 _ hr).symm)
set_option maxRecDepth 100000 in
set_option maxHeartbeats 4000000 in
theorem B_X12_findShortest_5 (l : Launch) (b : Nat) (D : va_G) (z : Nat → Nat) {Φ : Option Value → qH → Nat → Prop} {nx : Nat} {a0 : Nat} {a1 : Int32} {h : qH} {o : (Int32 × qH) ⊕ qH} (hF : b_X12_findShortest_5 a0 a1 h = some o) (hback : ∀ (b1 : Int32) (bh : qH), o = .inl (b1, bh) → Go l b D z yX12_findShortest cX12_findShortest 4 none rm_X12_findShortest Φ 5 [(0, .ref a0), (1, .int b1)] [] bh nx 0 0) (hx0 : ∀  (bh : qH), o = .inr bh → Go l b D z yX12_findShortest cX12_findShortest 4 none rm_X12_findShortest Φ 154 [] [] bh nx 0 0) : Go l b D z yX12_findShortest cX12_findShortest 4 none rm_X12_findShortest Φ 5 [(0, .ref a0), (1, .int a1)] [] h nx 0 0 := by
  unfold b_X12_findShortest_5 at hF
  refine g_iload_n 1 dX12_findShortest_5 rfl ?_
  refine g_if_lt 154 dX12_findShortest_6 (by decide) (fun c1 => ?_) (fun c1 => ?_)
  · replace hF := q_t c1 hF
    cases hF
    refine g_sub [] rfl ?_
    exact hx0 _ rfl
  · replace hF := q_f c1 hF
    refine g_aload_n 0 dX12_findShortest_9 rfl ?_
    obtain ⟨x2, e3, hF⟩ := q_bind hF
    refine g_getfI fl_X12_415 e3 dX12_findShortest_10 ?_
    refine g_istore_n [(2, .int x2), (0, .ref a0), (1, .int a1)] dX12_findShortest_13 (Nat.le_of_ble_eq_true rfl) rfl ?_
    obtain ⟨e4, w5, hF⟩ := q_bind hF
    refine g_sub [1, 2, 0] rfl ?_
    refine L_X12_findShortest_14 l b D z q_N x2 h e4 w5 ?_
    · intro h6 w7
      replace w7 := w7.symm
      subst w7
      refine g_iinc [(1, .int (a1 + (-1))), (0, .ref a0)] 1 dX12_findShortest_148 rfl (congrArg (a1 + ·) lt_iconst_m1) (Nat.le_of_ble_eq_true rfl) rfl ?_
      refine g_goto 5 dX12_findShortest_151 (by decide) ?_
      cases hF
      refine g_sub [1, 0] rfl ?_
      exact hback _ _ rfl
set_option maxRecDepth 100000 in
set_option maxHeartbeats 4000000 in
theorem L_X12_findShortest_5 (l : Launch) (b : Nat) (D : va_G) (z : Nat → Nat) {Φ : Option Value → qH → Nat → Prop} {nx : Nat} {a0 : Nat} : ∀ (n : Nat) (a1 : Int32) (h : qH) (e : qH), q_lp (s_X12_findShortest_5 a0) n (a1, h) = some e → (∀  (bh : qH), e = bh → Go l b D z yX12_findShortest cX12_findShortest 4 none rm_X12_findShortest Φ 154 [] [] bh nx 0 0) → Go l b D z yX12_findShortest cX12_findShortest 4 none rm_X12_findShortest Φ 5 [(0, .ref a0), (1, .int a1)] [] h nx 0 0 := by
  intro n
  induction n with
  | zero => intro a1 h e he; cases (show none = some e from he)
  | succ n ih =>
    intro a1 h e he hx0
    obtain ⟨o, ho, h1, h2⟩ := q_lp_succ he
    exact B_X12_findShortest_5 l b D z (show b_X12_findShortest_5 a0 a1 h = some o from ho) (fun b1 bh hb => ih _ _ e (h1 _ hb) hx0) (fun p0 hr => hx0 p0 (h2 _ hr).symm)
set_option maxRecDepth 100000 in
set_option maxHeartbeats 4000000 in
theorem M_X12_findShortest (l : Launch) (b : Nat) (D : va_G) (z : Nat → Nat) (nx : Nat) {h : qH} {a0 : Nat} {r : qH} (hF : F_X12_findShortest h a0 = some r) : Me l b D z yX12_findShortest cX12_findShortest 4 none rm_X12_findShortest [.ref a0] h nx (qE none r nx) := by
  refine Me.of (by decide +kernel) (Nat.le_of_ble_eq_true rfl) ?_
  show Go l b D z yX12_findShortest cX12_findShortest 4 none rm_X12_findShortest (qE none r nx) 0 [(0, .ref a0)] [] h nx 0 0
  unfold F_X12_findShortest at hF
  refine g_aload_n 0 dX12_findShortest_0 rfl ?_
  obtain ⟨x1, e2, hF⟩ := q_bind hF
  refine g_getfI fl_X12_412 e2 dX12_findShortest_1 ?_
  refine g_istore_n [(1, .int x1), (0, .ref a0)] dX12_findShortest_4 (Nat.le_of_ble_eq_true rfl) rfl ?_
  obtain ⟨e3, w4, hF⟩ := q_bind hF
  refine g_sub [1, 0] rfl ?_
  refine L_X12_findShortest_5 l b D z q_N x1 h e3 w4 ?_
  · intro h5 w6
    replace w6 := w6.symm
    subst w6
    cases hF
    exact g_vret dX12_findShortest_154 rfl ⟨rfl, rfl, rfl⟩ (Nat.le_of_ble_eq_true rfl) (Nat.le_of_ble_eq_true rfl)
def rm_X12_mergedAt : Room := { frames := 0, cells := 0, slots := 0, locals := 0 }
set_option maxRecDepth 100000 in
set_option maxHeartbeats 4000000 in
theorem J_X12_mergedAt_223 (l : Launch) (b : Nat) (D : va_G) (z : Nat → Nat) {Φ : Option Value → qH → Nat → Prop} {nx : Nat} {h : qH} {a0 : Nat} {a1 : Int32} {a3 : Int32} {a4 : Int32} {a5 : Int32} {a6 : Int32} {a9 : Int32} {t0 : Int32} {t1 : Int32} {o : (Int32 × Int32 × Int32 × Int32) ⊕ Int32} (hF : j_X12_mergedAt_223 h a0 a1 a3 a4 a5 a6 a9 t0 t1 = some o) (hback : ∀ (b2 : Int32) (b3 : Int32) (b4 : Int32) (b5 : Int32), o = .inl (b2, b3, b4, b5) → Go l b D z yX12_mergedAt cX12_mergedAt 10 (some .int) rm_X12_mergedAt Φ 10 [(0, .ref a0), (1, .int a1), (2, .int b2), (3, .int b3), (4, .int b4), (5, .int b5)] [] h nx 0 0) (hx0 : ∀ (b4 : Int32), o = .inr b4 → Go l b D z yX12_mergedAt cX12_mergedAt 10 (some .int) rm_X12_mergedAt Φ 249 [(4, .int b4)] [] h nx 0 0) : Go l b D z yX12_mergedAt cX12_mergedAt 10 (some .int) rm_X12_mergedAt Φ 223 [(0, .ref a0), (1, .int a1), (3, .int a3), (4, .int a4), (5, .int a5), (6, .int a6), (9, .int a9)] [.int t0, .int t1] h nx 0 0 := by
  unfold j_X12_mergedAt_223 at hF
  refine g_iadd dX12_mergedAt_223 ?_
  refine g_istore_n [(2, .int (t1 + t0)), (0, .ref a0), (1, .int a1), (3, .int a3), (4, .int a4), (5, .int a5), (6, .int a6), (9, .int a9)] dX12_mergedAt_224 (Nat.le_of_ble_eq_true rfl) rfl ?_
  refine g_iload_n 3 dX12_mergedAt_225 rfl ?_
  refine g_iload 7 dX12_mergedAt_226 rfl ?_
  refine g_if_eq 236 dX12_mergedAt_228 (by decide) (fun c1 => ?_) (fun c1 => ?_)
  · replace hF := q_t c1 hF
    refine g_iconst dX12_mergedAt_236 lt_iconst_1 ?_
    refine g_goto 241 dX12_mergedAt_237 (by decide) ?_
    refine g_iadd dX12_mergedAt_241 ?_
    refine g_istore_n [(3, .int (a3 + (1 : Int32))), (2, .int (t1 + t0)), (0, .ref a0), (1, .int a1), (4, .int a4), (5, .int a5), (6, .int a6), (9, .int a9)] dX12_mergedAt_242 (Nat.le_of_ble_eq_true rfl) rfl ?_
    refine g_iinc [(5, .int (a5 + 1)), (3, .int (a3 + (1 : Int32))), (2, .int (t1 + t0)), (0, .ref a0), (1, .int a1), (4, .int a4), (6, .int a6), (9, .int a9)] 5 dX12_mergedAt_243 rfl (congrArg (a5 + ·) lt_iconst_1) (Nat.le_of_ble_eq_true rfl) rfl ?_
    refine g_goto 10 dX12_mergedAt_246 (by decide) ?_
    cases hF
    refine g_sub [3, 4, 2, 1, 5, 0] rfl ?_
    exact hback _ _ _ _ rfl
  · replace hF := q_f c1 hF
    refine g_iload 6 dX12_mergedAt_231 rfl ?_
    refine g_if_eq 240 dX12_mergedAt_233 (by decide) (fun c2 => ?_) (fun c2 => ?_)
    · replace hF := q_t c2 hF
      refine g_iconst dX12_mergedAt_240 lt_iconst_0 ?_
      refine g_iadd dX12_mergedAt_241 ?_
      refine g_istore_n [(3, .int (a3 + (0 : Int32))), (2, .int (t1 + t0)), (0, .ref a0), (1, .int a1), (4, .int a4), (5, .int a5), (6, .int a6), (9, .int a9)] dX12_mergedAt_242 (Nat.le_of_ble_eq_true rfl) rfl ?_
      refine g_iinc [(5, .int (a5 + 1)), (3, .int (a3 + (0 : Int32))), (2, .int (t1 + t0)), (0, .ref a0), (1, .int a1), (4, .int a4), (6, .int a6), (9, .int a9)] 5 dX12_mergedAt_243 rfl (congrArg (a5 + ·) lt_iconst_1) (Nat.le_of_ble_eq_true rfl) rfl ?_
      refine g_goto 10 dX12_mergedAt_246 (by decide) ?_
      cases hF
      refine g_sub [3, 4, 2, 1, 5, 0] rfl ?_
      exact hback _ _ _ _ rfl
    · replace hF := q_f c2 hF
      refine g_iconst dX12_mergedAt_236 lt_iconst_1 ?_
      refine g_goto 241 dX12_mergedAt_237 (by decide) ?_
      refine g_iadd dX12_mergedAt_241 ?_
      refine g_istore_n [(3, .int (a3 + (1 : Int32))), (2, .int (t1 + t0)), (0, .ref a0), (1, .int a1), (4, .int a4), (5, .int a5), (6, .int a6), (9, .int a9)] dX12_mergedAt_242 (Nat.le_of_ble_eq_true rfl) rfl ?_
      refine g_iinc [(5, .int (a5 + 1)), (3, .int (a3 + (1 : Int32))), (2, .int (t1 + t0)), (0, .ref a0), (1, .int a1), (4, .int a4), (6, .int a6), (9, .int a9)] 5 dX12_mergedAt_243 rfl (congrArg (a5 + ·) lt_iconst_1) (Nat.le_of_ble_eq_true rfl) rfl ?_
      refine g_goto 10 dX12_mergedAt_246 (by decide) ?_
      cases hF
      refine g_sub [3, 4, 2, 1, 5, 0] rfl ?_
      exact hback _ _ _ _ rfl
set_option maxRecDepth 100000 in
set_option maxHeartbeats 4000000 in
theorem J_X12_mergedAt_218 (l : Launch) (b : Nat) (D : va_G) (z : Nat → Nat) {Φ : Option Value → qH → Nat → Prop} {nx : Nat} {h : qH} {a0 : Nat} {a1 : Int32} {a3 : Int32} {a4 : Int32} {a5 : Int32} {a6 : Int32} {a9 : Int32} {t0 : Int32} {o : (Int32 × Int32 × Int32 × Int32) ⊕ Int32} (hF : j_X12_mergedAt_218 h a0 a1 a3 a4 a5 a6 a9 t0 = some o) (hback : ∀ (b2 : Int32) (b3 : Int32) (b4 : Int32) (b5 : Int32), o = .inl (b2, b3, b4, b5) → Go l b D z yX12_mergedAt cX12_mergedAt 10 (some .int) rm_X12_mergedAt Φ 10 [(0, .ref a0), (1, .int a1), (2, .int b2), (3, .int b3), (4, .int b4), (5, .int b5)] [] h nx 0 0) (hx0 : ∀ (b4 : Int32), o = .inr b4 → Go l b D z yX12_mergedAt cX12_mergedAt 10 (some .int) rm_X12_mergedAt Φ 249 [(4, .int b4)] [] h nx 0 0) : Go l b D z yX12_mergedAt cX12_mergedAt 10 (some .int) rm_X12_mergedAt Φ 218 [(0, .ref a0), (1, .int a1), (3, .int a3), (4, .int a4), (5, .int a5), (6, .int a6), (9, .int a9)] [.int t0] h nx 0 0 := by
  unfold j_X12_mergedAt_218 at hF
  refine g_iconst dX12_mergedAt_218 lt_iconst_1 ?_
  refine g_goto 223 dX12_mergedAt_219 (by decide) ?_
  exact J_X12_mergedAt_223 l b D z hF hback hx0
set_option maxRecDepth 100000 in
set_option maxHeartbeats 4000000 in
theorem J_X12_mergedAt_205 (l : Launch) (b : Nat) (D : va_G) (z : Nat → Nat) {Φ : Option Value → qH → Nat → Prop} {nx : Nat} {h : qH} {a0 : Nat} {a1 : Int32} {a2 : Int32} {a3 : Int32} {a5 : Int32} {a6 : Int32} {a9 : Int32} {t0 : Int32} {o : (Int32 × Int32 × Int32 × Int32) ⊕ Int32} (hF : j_X12_mergedAt_205 h a0 a1 a2 a3 a5 a6 a9 t0 = some o) (hback : ∀ (b2 : Int32) (b3 : Int32) (b4 : Int32) (b5 : Int32), o = .inl (b2, b3, b4, b5) → Go l b D z yX12_mergedAt cX12_mergedAt 10 (some .int) rm_X12_mergedAt Φ 10 [(0, .ref a0), (1, .int a1), (2, .int b2), (3, .int b3), (4, .int b4), (5, .int b5)] [] h nx 0 0) (hx0 : ∀ (b4 : Int32), o = .inr b4 → Go l b D z yX12_mergedAt cX12_mergedAt 10 (some .int) rm_X12_mergedAt Φ 249 [(4, .int b4)] [] h nx 0 0) : Go l b D z yX12_mergedAt cX12_mergedAt 10 (some .int) rm_X12_mergedAt Φ 205 [(0, .ref a0), (1, .int a1), (2, .int a2), (3, .int a3), (5, .int a5), (6, .int a6), (9, .int a9)] [.int t0] h nx 0 0 := by
  unfold j_X12_mergedAt_205 at hF
  refine g_istore [(4, .int t0), (0, .ref a0), (1, .int a1), (2, .int a2), (3, .int a3), (5, .int a5), (6, .int a6), (9, .int a9)] dX12_mergedAt_205 (Nat.le_of_ble_eq_true rfl) rfl ?_
  refine g_iload_n 3 dX12_mergedAt_207 rfl ?_
  refine g_iload 7 dX12_mergedAt_208 rfl ?_
  refine g_if_ne 218 dX12_mergedAt_210 (by decide) (fun c1 => ?_) (fun c1 => ?_)
  · replace hF := q_f c1 hF
    refine g_sub [1, 2, 4, 0, 5, 6, 7] rfl ?_
    exact J_X12_mergedAt_218 l b D z hF hback hx0
  · replace hF := q_t c1 hF
    refine g_iload 6 dX12_mergedAt_213 rfl ?_
    refine g_if_eq 222 dX12_mergedAt_215 (by decide) (fun c2 => ?_) (fun c2 => ?_)
    · replace hF := q_t c2 hF
      refine g_iconst dX12_mergedAt_222 lt_iconst_0 ?_
      refine g_sub [1, 2, 4, 0, 5, 6, 7] rfl ?_
      exact J_X12_mergedAt_223 l b D z hF hback hx0
    · replace hF := q_f c2 hF
      refine g_sub [1, 2, 4, 0, 5, 6, 7] rfl ?_
      exact J_X12_mergedAt_218 l b D z hF hback hx0
set_option maxRecDepth 100000 in
set_option maxHeartbeats 4000000 in
theorem J_X12_mergedAt_183 (l : Launch) (b : Nat) (D : va_G) (z : Nat → Nat) {Φ : Option Value → qH → Nat → Prop} {nx : Nat} {h : qH} {a0 : Nat} {a1 : Int32} {a2 : Int32} {a3 : Int32} {a5 : Int32} {a6 : Int32} {t0 : Int32} {o : (Int32 × Int32 × Int32 × Int32) ⊕ Int32} (hF : j_X12_mergedAt_183 h a0 a1 a2 a3 a5 a6 t0 = some o) (hback : ∀ (b2 : Int32) (b3 : Int32) (b4 : Int32) (b5 : Int32), o = .inl (b2, b3, b4, b5) → Go l b D z yX12_mergedAt cX12_mergedAt 10 (some .int) rm_X12_mergedAt Φ 10 [(0, .ref a0), (1, .int a1), (2, .int b2), (3, .int b3), (4, .int b4), (5, .int b5)] [] h nx 0 0) (hx0 : ∀ (b4 : Int32), o = .inr b4 → Go l b D z yX12_mergedAt cX12_mergedAt 10 (some .int) rm_X12_mergedAt Φ 249 [(4, .int b4)] [] h nx 0 0) : Go l b D z yX12_mergedAt cX12_mergedAt 10 (some .int) rm_X12_mergedAt Φ 183 [(0, .ref a0), (1, .int a1), (2, .int a2), (3, .int a3), (5, .int a5), (6, .int a6)] [.int t0] h nx 0 0 := by
  unfold j_X12_mergedAt_183 at hF
  refine g_istore [(9, .int t0), (0, .ref a0), (1, .int a1), (2, .int a2), (3, .int a3), (5, .int a5), (6, .int a6)] dX12_mergedAt_183 (Nat.le_of_ble_eq_true rfl) rfl ?_
  refine g_iload 0 dX12_mergedAt_185 rfl ?_
  refine g_if_eq 199 dX12_mergedAt_187 (by decide) (fun c1 => ?_) (fun c1 => ?_)
  · replace hF := q_t c1 hF
    refine g_aload_n 1 dX12_mergedAt_199 rfl ?_
    obtain ⟨x2, e3, hF⟩ := q_bind hF
    refine g_getfR fl_X12_69 e3 dX12_mergedAt_200 ?_
    refine g_iload_n 4 dX12_mergedAt_203 rfl ?_
    obtain ⟨x4, e5, hF⟩ := q_bind hF
    refine g_iald e5 dX12_mergedAt_204 ?_
    refine g_sub [1, 2, 3, 4, 5, 6, 0] rfl ?_
    exact J_X12_mergedAt_205 l b D z hF hback hx0
  · replace hF := q_f c1 hF
    refine g_aload_n 1 dX12_mergedAt_190 rfl ?_
    obtain ⟨x6, e7, hF⟩ := q_bind hF
    refine g_getfR fl_X12_66 e7 dX12_mergedAt_191 ?_
    refine g_iload_n 3 dX12_mergedAt_194 rfl ?_
    obtain ⟨x8, e9, hF⟩ := q_bind hF
    refine g_iald e9 dX12_mergedAt_195 ?_
    refine g_goto 205 dX12_mergedAt_196 (by decide) ?_
    refine g_sub [1, 2, 3, 4, 5, 6, 0] rfl ?_
    exact J_X12_mergedAt_205 l b D z hF hback hx0
set_option maxRecDepth 100000 in
set_option maxHeartbeats 4000000 in
theorem J_X12_mergedAt_182 (l : Launch) (b : Nat) (D : va_G) (z : Nat → Nat) {Φ : Option Value → qH → Nat → Prop} {nx : Nat} {h : qH} {a0 : Nat} {a1 : Int32} {a2 : Int32} {a3 : Int32} {a5 : Int32} {a6 : Int32} {o : (Int32 × Int32 × Int32 × Int32) ⊕ Int32} (hF : j_X12_mergedAt_182 h a0 a1 a2 a3 a5 a6  = some o) (hback : ∀ (b2 : Int32) (b3 : Int32) (b4 : Int32) (b5 : Int32), o = .inl (b2, b3, b4, b5) → Go l b D z yX12_mergedAt cX12_mergedAt 10 (some .int) rm_X12_mergedAt Φ 10 [(0, .ref a0), (1, .int a1), (2, .int b2), (3, .int b3), (4, .int b4), (5, .int b5)] [] h nx 0 0) (hx0 : ∀ (b4 : Int32), o = .inr b4 → Go l b D z yX12_mergedAt cX12_mergedAt 10 (some .int) rm_X12_mergedAt Φ 249 [(4, .int b4)] [] h nx 0 0) : Go l b D z yX12_mergedAt cX12_mergedAt 10 (some .int) rm_X12_mergedAt Φ 182 [(0, .ref a0), (1, .int a1), (2, .int a2), (3, .int a3), (5, .int a5), (6, .int a6)] [] h nx 0 0 := by
  unfold j_X12_mergedAt_182 at hF
  refine g_iconst dX12_mergedAt_182 lt_iconst_0 ?_
  exact J_X12_mergedAt_183 l b D z hF hback hx0
set_option maxRecDepth 100000 in
set_option maxHeartbeats 4000000 in
theorem J_X12_mergedAt_178 (l : Launch) (b : Nat) (D : va_G) (z : Nat → Nat) {Φ : Option Value → qH → Nat → Prop} {nx : Nat} {h : qH} {a0 : Nat} {a1 : Int32} {a2 : Int32} {a3 : Int32} {a5 : Int32} {a6 : Int32} {o : (Int32 × Int32 × Int32 × Int32) ⊕ Int32} (hF : j_X12_mergedAt_178 h a0 a1 a2 a3 a5 a6  = some o) (hback : ∀ (b2 : Int32) (b3 : Int32) (b4 : Int32) (b5 : Int32), o = .inl (b2, b3, b4, b5) → Go l b D z yX12_mergedAt cX12_mergedAt 10 (some .int) rm_X12_mergedAt Φ 10 [(0, .ref a0), (1, .int a1), (2, .int b2), (3, .int b3), (4, .int b4), (5, .int b5)] [] h nx 0 0) (hx0 : ∀ (b4 : Int32), o = .inr b4 → Go l b D z yX12_mergedAt cX12_mergedAt 10 (some .int) rm_X12_mergedAt Φ 249 [(4, .int b4)] [] h nx 0 0) : Go l b D z yX12_mergedAt cX12_mergedAt 10 (some .int) rm_X12_mergedAt Φ 178 [(0, .ref a0), (1, .int a1), (2, .int a2), (3, .int a3), (5, .int a5), (6, .int a6)] [] h nx 0 0 := by
  unfold j_X12_mergedAt_178 at hF
  refine g_iconst dX12_mergedAt_178 lt_iconst_1 ?_
  refine g_goto 183 dX12_mergedAt_179 (by decide) ?_
  exact J_X12_mergedAt_183 l b D z hF hback hx0
set_option maxRecDepth 100000 in
set_option maxHeartbeats 4000000 in
theorem J_X12_mergedAt_151 (l : Launch) (b : Nat) (D : va_G) (z : Nat → Nat) {Φ : Option Value → qH → Nat → Prop} {nx : Nat} {h : qH} {a0 : Nat} {a1 : Int32} {a2 : Int32} {a3 : Int32} {a5 : Int32} {a6 : Int32} {a7 : Int32} {t0 : Int32} {o : (Int32 × Int32 × Int32 × Int32) ⊕ Int32} (hF : j_X12_mergedAt_151 h a0 a1 a2 a3 a5 a6 a7 t0 = some o) (hback : ∀ (b2 : Int32) (b3 : Int32) (b4 : Int32) (b5 : Int32), o = .inl (b2, b3, b4, b5) → Go l b D z yX12_mergedAt cX12_mergedAt 10 (some .int) rm_X12_mergedAt Φ 10 [(0, .ref a0), (1, .int a1), (2, .int b2), (3, .int b3), (4, .int b4), (5, .int b5)] [] h nx 0 0) (hx0 : ∀ (b4 : Int32), o = .inr b4 → Go l b D z yX12_mergedAt cX12_mergedAt 10 (some .int) rm_X12_mergedAt Φ 249 [(4, .int b4)] [] h nx 0 0) : Go l b D z yX12_mergedAt cX12_mergedAt 10 (some .int) rm_X12_mergedAt Φ 151 [(0, .ref a0), (1, .int a1), (2, .int a2), (3, .int a3), (5, .int a5), (6, .int a6), (7, .int a7)] [.int t0] h nx 0 0 := by
  unfold j_X12_mergedAt_151 at hF
  refine g_istore [(8, .int t0), (0, .ref a0), (1, .int a1), (2, .int a2), (3, .int a3), (5, .int a5), (6, .int a6), (7, .int a7)] dX12_mergedAt_151 (Nat.le_of_ble_eq_true rfl) rfl ?_
  refine g_iload 7 dX12_mergedAt_153 rfl ?_
  refine g_if_eq 182 dX12_mergedAt_155 (by decide) (fun c1 => ?_) (fun c1 => ?_)
  · replace hF := q_t c1 hF
    refine g_sub [1, 2, 3, 4, 5, 6] rfl ?_
    exact J_X12_mergedAt_182 l b D z hF hback hx0
  · replace hF := q_f c1 hF
    refine g_iload 0 dX12_mergedAt_158 rfl ?_
    refine g_if_eq 178 dX12_mergedAt_160 (by decide) (fun c2 => ?_) (fun c2 => ?_)
    · replace hF := q_t c2 hF
      refine g_sub [1, 2, 3, 4, 5, 6] rfl ?_
      exact J_X12_mergedAt_178 l b D z hF hback hx0
    · replace hF := q_f c2 hF
      refine g_aload_n 1 dX12_mergedAt_163 rfl ?_
      obtain ⟨x3, e4, hF⟩ := q_bind hF
      refine g_getfR fl_X12_66 e4 dX12_mergedAt_164 ?_
      refine g_iload_n 3 dX12_mergedAt_167 rfl ?_
      obtain ⟨x5, e6, hF⟩ := q_bind hF
      refine g_iald e6 dX12_mergedAt_168 ?_
      refine g_aload_n 1 dX12_mergedAt_169 rfl ?_
      obtain ⟨x7, e8, hF⟩ := q_bind hF
      refine g_getfR fl_X12_69 e8 dX12_mergedAt_170 ?_
      refine g_iload_n 4 dX12_mergedAt_173 rfl ?_
      obtain ⟨x9, e10, hF⟩ := q_bind hF
      refine g_iald e10 dX12_mergedAt_174 ?_
      refine g_icmp_gt 182 dX12_mergedAt_175 (by decide) (fun c11 => ?_) (fun c11 => ?_)
      · replace hF := q_t c11 hF
        refine g_sub [1, 2, 3, 4, 5, 6] rfl ?_
        exact J_X12_mergedAt_182 l b D z hF hback hx0
      · replace hF := q_f c11 hF
        refine g_sub [1, 2, 3, 4, 5, 6] rfl ?_
        exact J_X12_mergedAt_178 l b D z hF hback hx0
set_option maxRecDepth 100000 in
set_option maxHeartbeats 4000000 in
theorem J_X12_mergedAt_150 (l : Launch) (b : Nat) (D : va_G) (z : Nat → Nat) {Φ : Option Value → qH → Nat → Prop} {nx : Nat} {h : qH} {a0 : Nat} {a1 : Int32} {a2 : Int32} {a3 : Int32} {a5 : Int32} {a6 : Int32} {a7 : Int32} {o : (Int32 × Int32 × Int32 × Int32) ⊕ Int32} (hF : j_X12_mergedAt_150 h a0 a1 a2 a3 a5 a6 a7  = some o) (hback : ∀ (b2 : Int32) (b3 : Int32) (b4 : Int32) (b5 : Int32), o = .inl (b2, b3, b4, b5) → Go l b D z yX12_mergedAt cX12_mergedAt 10 (some .int) rm_X12_mergedAt Φ 10 [(0, .ref a0), (1, .int a1), (2, .int b2), (3, .int b3), (4, .int b4), (5, .int b5)] [] h nx 0 0) (hx0 : ∀ (b4 : Int32), o = .inr b4 → Go l b D z yX12_mergedAt cX12_mergedAt 10 (some .int) rm_X12_mergedAt Φ 249 [(4, .int b4)] [] h nx 0 0) : Go l b D z yX12_mergedAt cX12_mergedAt 10 (some .int) rm_X12_mergedAt Φ 150 [(0, .ref a0), (1, .int a1), (2, .int a2), (3, .int a3), (5, .int a5), (6, .int a6), (7, .int a7)] [] h nx 0 0 := by
  unfold j_X12_mergedAt_150 at hF
  refine g_iconst dX12_mergedAt_150 lt_iconst_0 ?_
  exact J_X12_mergedAt_151 l b D z hF hback hx0
set_option maxRecDepth 100000 in
set_option maxHeartbeats 4000000 in
theorem J_X12_mergedAt_146 (l : Launch) (b : Nat) (D : va_G) (z : Nat → Nat) {Φ : Option Value → qH → Nat → Prop} {nx : Nat} {h : qH} {a0 : Nat} {a1 : Int32} {a2 : Int32} {a3 : Int32} {a5 : Int32} {a6 : Int32} {a7 : Int32} {o : (Int32 × Int32 × Int32 × Int32) ⊕ Int32} (hF : j_X12_mergedAt_146 h a0 a1 a2 a3 a5 a6 a7  = some o) (hback : ∀ (b2 : Int32) (b3 : Int32) (b4 : Int32) (b5 : Int32), o = .inl (b2, b3, b4, b5) → Go l b D z yX12_mergedAt cX12_mergedAt 10 (some .int) rm_X12_mergedAt Φ 10 [(0, .ref a0), (1, .int a1), (2, .int b2), (3, .int b3), (4, .int b4), (5, .int b5)] [] h nx 0 0) (hx0 : ∀ (b4 : Int32), o = .inr b4 → Go l b D z yX12_mergedAt cX12_mergedAt 10 (some .int) rm_X12_mergedAt Φ 249 [(4, .int b4)] [] h nx 0 0) : Go l b D z yX12_mergedAt cX12_mergedAt 10 (some .int) rm_X12_mergedAt Φ 146 [(0, .ref a0), (1, .int a1), (2, .int a2), (3, .int a3), (5, .int a5), (6, .int a6), (7, .int a7)] [] h nx 0 0 := by
  unfold j_X12_mergedAt_146 at hF
  refine g_iconst dX12_mergedAt_146 lt_iconst_1 ?_
  refine g_goto 151 dX12_mergedAt_147 (by decide) ?_
  exact J_X12_mergedAt_151 l b D z hF hback hx0
set_option maxRecDepth 100000 in
set_option maxHeartbeats 4000000 in
theorem J_X12_mergedAt_102 (l : Launch) (b : Nat) (D : va_G) (z : Nat → Nat) {Φ : Option Value → qH → Nat → Prop} {nx : Nat} {h : qH} {a0 : Nat} {a1 : Int32} {a2 : Int32} {a3 : Int32} {a5 : Int32} {a6 : Int32} {t0 : Int32} {o : (Int32 × Int32 × Int32 × Int32) ⊕ Int32} (hF : j_X12_mergedAt_102 h a0 a1 a2 a3 a5 a6 t0 = some o) (hback : ∀ (b2 : Int32) (b3 : Int32) (b4 : Int32) (b5 : Int32), o = .inl (b2, b3, b4, b5) → Go l b D z yX12_mergedAt cX12_mergedAt 10 (some .int) rm_X12_mergedAt Φ 10 [(0, .ref a0), (1, .int a1), (2, .int b2), (3, .int b3), (4, .int b4), (5, .int b5)] [] h nx 0 0) (hx0 : ∀ (b4 : Int32), o = .inr b4 → Go l b D z yX12_mergedAt cX12_mergedAt 10 (some .int) rm_X12_mergedAt Φ 249 [(4, .int b4)] [] h nx 0 0) : Go l b D z yX12_mergedAt cX12_mergedAt 10 (some .int) rm_X12_mergedAt Φ 102 [(0, .ref a0), (1, .int a1), (2, .int a2), (3, .int a3), (5, .int a5), (6, .int a6)] [.int t0] h nx 0 0 := by
  unfold j_X12_mergedAt_102 at hF
  refine g_istore [(7, .int t0), (0, .ref a0), (1, .int a1), (2, .int a2), (3, .int a3), (5, .int a5), (6, .int a6)] dX12_mergedAt_102 (Nat.le_of_ble_eq_true rfl) rfl ?_
  refine g_iload_n 4 dX12_mergedAt_104 rfl ?_
  refine g_aload_n 1 dX12_mergedAt_105 rfl ?_
  obtain ⟨x1, e2, hF⟩ := q_bind hF
  refine g_getfI fl_X12_415 e2 dX12_mergedAt_106 ?_
  refine g_icmp_ge 150 dX12_mergedAt_109 (by decide) (fun c3 => ?_) (fun c3 => ?_)
  · replace hF := q_t c3 hF
    refine g_sub [1, 2, 3, 4, 5, 6, 0] rfl ?_
    exact J_X12_mergedAt_150 l b D z hF hback hx0
  · replace hF := q_f c3 hF
    refine g_iload 6 dX12_mergedAt_112 rfl ?_
    refine g_if_ne 146 dX12_mergedAt_114 (by decide) (fun c4 => ?_) (fun c4 => ?_)
    · replace hF := q_f c4 hF
      refine g_sub [1, 2, 3, 4, 5, 6, 0] rfl ?_
      exact J_X12_mergedAt_146 l b D z hF hback hx0
    · replace hF := q_t c4 hF
      refine g_aload_n 1 dX12_mergedAt_117 rfl ?_
      obtain ⟨x5, e6, hF⟩ := q_bind hF
      refine g_getfR fl_X12_72 e6 dX12_mergedAt_118 ?_
      refine g_bipush dX12_mergedAt_121 lt_bipush_13 ?_
      refine g_iload_n 3 dX12_mergedAt_123 rfl ?_
      refine g_imul dX12_mergedAt_124 ?_
      refine g_iload_n 4 dX12_mergedAt_125 rfl ?_
      refine g_iadd dX12_mergedAt_126 ?_
      refine g_iconst dX12_mergedAt_127 lt_iconst_1 ?_
      refine g_iadd dX12_mergedAt_128 ?_
      obtain ⟨x7, e8, hF⟩ := q_bind hF
      refine g_iald e8 dX12_mergedAt_129 ?_
      refine g_iconst dX12_mergedAt_130 lt_iconst_1 ?_
      refine g_iadd dX12_mergedAt_131 ?_
      refine g_aload_n 1 dX12_mergedAt_132 rfl ?_
      obtain ⟨x9, e10, hF⟩ := q_bind hF
      refine g_getfR fl_X12_72 e10 dX12_mergedAt_133 ?_
      refine g_bipush dX12_mergedAt_136 lt_bipush_13 ?_
      refine g_iload_n 3 dX12_mergedAt_138 rfl ?_
      refine g_imul dX12_mergedAt_139 ?_
      refine g_iload_n 4 dX12_mergedAt_140 rfl ?_
      refine g_iadd dX12_mergedAt_141 ?_
      obtain ⟨x11, e12, hF⟩ := q_bind hF
      refine g_iald e12 dX12_mergedAt_142 ?_
      refine g_icmp_ne 150 dX12_mergedAt_143 (by decide) (fun c13 => ?_) (fun c13 => ?_)
      · replace hF := q_f c13 hF
        refine g_sub [1, 2, 3, 4, 5, 6, 0] rfl ?_
        exact J_X12_mergedAt_150 l b D z hF hback hx0
      · replace hF := q_t c13 hF
        refine g_sub [1, 2, 3, 4, 5, 6, 0] rfl ?_
        exact J_X12_mergedAt_146 l b D z hF hback hx0
set_option maxRecDepth 100000 in
set_option maxHeartbeats 4000000 in
theorem J_X12_mergedAt_101 (l : Launch) (b : Nat) (D : va_G) (z : Nat → Nat) {Φ : Option Value → qH → Nat → Prop} {nx : Nat} {h : qH} {a0 : Nat} {a1 : Int32} {a2 : Int32} {a3 : Int32} {a5 : Int32} {a6 : Int32} {o : (Int32 × Int32 × Int32 × Int32) ⊕ Int32} (hF : j_X12_mergedAt_101 h a0 a1 a2 a3 a5 a6  = some o) (hback : ∀ (b2 : Int32) (b3 : Int32) (b4 : Int32) (b5 : Int32), o = .inl (b2, b3, b4, b5) → Go l b D z yX12_mergedAt cX12_mergedAt 10 (some .int) rm_X12_mergedAt Φ 10 [(0, .ref a0), (1, .int a1), (2, .int b2), (3, .int b3), (4, .int b4), (5, .int b5)] [] h nx 0 0) (hx0 : ∀ (b4 : Int32), o = .inr b4 → Go l b D z yX12_mergedAt cX12_mergedAt 10 (some .int) rm_X12_mergedAt Φ 249 [(4, .int b4)] [] h nx 0 0) : Go l b D z yX12_mergedAt cX12_mergedAt 10 (some .int) rm_X12_mergedAt Φ 101 [(0, .ref a0), (1, .int a1), (2, .int a2), (3, .int a3), (5, .int a5), (6, .int a6)] [] h nx 0 0 := by
  unfold j_X12_mergedAt_101 at hF
  refine g_iconst dX12_mergedAt_101 lt_iconst_0 ?_
  exact J_X12_mergedAt_102 l b D z hF hback hx0
set_option maxRecDepth 100000 in
set_option maxHeartbeats 4000000 in
theorem J_X12_mergedAt_97 (l : Launch) (b : Nat) (D : va_G) (z : Nat → Nat) {Φ : Option Value → qH → Nat → Prop} {nx : Nat} {h : qH} {a0 : Nat} {a1 : Int32} {a2 : Int32} {a3 : Int32} {a5 : Int32} {a6 : Int32} {o : (Int32 × Int32 × Int32 × Int32) ⊕ Int32} (hF : j_X12_mergedAt_97 h a0 a1 a2 a3 a5 a6  = some o) (hback : ∀ (b2 : Int32) (b3 : Int32) (b4 : Int32) (b5 : Int32), o = .inl (b2, b3, b4, b5) → Go l b D z yX12_mergedAt cX12_mergedAt 10 (some .int) rm_X12_mergedAt Φ 10 [(0, .ref a0), (1, .int a1), (2, .int b2), (3, .int b3), (4, .int b4), (5, .int b5)] [] h nx 0 0) (hx0 : ∀ (b4 : Int32), o = .inr b4 → Go l b D z yX12_mergedAt cX12_mergedAt 10 (some .int) rm_X12_mergedAt Φ 249 [(4, .int b4)] [] h nx 0 0) : Go l b D z yX12_mergedAt cX12_mergedAt 10 (some .int) rm_X12_mergedAt Φ 97 [(0, .ref a0), (1, .int a1), (2, .int a2), (3, .int a3), (5, .int a5), (6, .int a6)] [] h nx 0 0 := by
  unfold j_X12_mergedAt_97 at hF
  refine g_iconst dX12_mergedAt_97 lt_iconst_1 ?_
  refine g_goto 102 dX12_mergedAt_98 (by decide) ?_
  exact J_X12_mergedAt_102 l b D z hF hback hx0
set_option maxRecDepth 100000 in
set_option maxHeartbeats 4000000 in
theorem J_X12_mergedAt_52 (l : Launch) (b : Nat) (D : va_G) (z : Nat → Nat) {Φ : Option Value → qH → Nat → Prop} {nx : Nat} {h : qH} {a0 : Nat} {a1 : Int32} {a2 : Int32} {a3 : Int32} {a5 : Int32} {t0 : Int32} {o : (Int32 × Int32 × Int32 × Int32) ⊕ Int32} (hF : j_X12_mergedAt_52 h a0 a1 a2 a3 a5 t0 = some o) (hback : ∀ (b2 : Int32) (b3 : Int32) (b4 : Int32) (b5 : Int32), o = .inl (b2, b3, b4, b5) → Go l b D z yX12_mergedAt cX12_mergedAt 10 (some .int) rm_X12_mergedAt Φ 10 [(0, .ref a0), (1, .int a1), (2, .int b2), (3, .int b3), (4, .int b4), (5, .int b5)] [] h nx 0 0) (hx0 : ∀ (b4 : Int32), o = .inr b4 → Go l b D z yX12_mergedAt cX12_mergedAt 10 (some .int) rm_X12_mergedAt Φ 249 [(4, .int b4)] [] h nx 0 0) : Go l b D z yX12_mergedAt cX12_mergedAt 10 (some .int) rm_X12_mergedAt Φ 52 [(0, .ref a0), (1, .int a1), (2, .int a2), (3, .int a3), (5, .int a5)] [.int t0] h nx 0 0 := by
  unfold j_X12_mergedAt_52 at hF
  refine g_istore [(6, .int t0), (0, .ref a0), (1, .int a1), (2, .int a2), (3, .int a3), (5, .int a5)] dX12_mergedAt_52 (Nat.le_of_ble_eq_true rfl) rfl ?_
  refine g_iload_n 3 dX12_mergedAt_54 rfl ?_
  refine g_aload_n 1 dX12_mergedAt_55 rfl ?_
  obtain ⟨x1, e2, hF⟩ := q_bind hF
  refine g_getfI fl_X12_412 e2 dX12_mergedAt_56 ?_
  refine g_icmp_ge 101 dX12_mergedAt_59 (by decide) (fun c3 => ?_) (fun c3 => ?_)
  · replace hF := q_t c3 hF
    refine g_sub [1, 2, 3, 4, 5, 0] rfl ?_
    exact J_X12_mergedAt_101 l b D z hF hback hx0
  · replace hF := q_f c3 hF
    refine g_iload 0 dX12_mergedAt_62 rfl ?_
    refine g_if_ne 97 dX12_mergedAt_64 (by decide) (fun c4 => ?_) (fun c4 => ?_)
    · replace hF := q_f c4 hF
      refine g_sub [1, 2, 3, 4, 5, 0] rfl ?_
      exact J_X12_mergedAt_97 l b D z hF hback hx0
    · replace hF := q_t c4 hF
      refine g_aload_n 1 dX12_mergedAt_67 rfl ?_
      obtain ⟨x5, e6, hF⟩ := q_bind hF
      refine g_getfR fl_X12_72 e6 dX12_mergedAt_68 ?_
      refine g_bipush dX12_mergedAt_71 lt_bipush_13 ?_
      refine g_iload_n 3 dX12_mergedAt_73 rfl ?_
      refine g_imul dX12_mergedAt_74 ?_
      refine g_iload_n 4 dX12_mergedAt_75 rfl ?_
      refine g_iadd dX12_mergedAt_76 ?_
      refine g_bipush dX12_mergedAt_77 lt_bipush_13 ?_
      refine g_iadd dX12_mergedAt_79 ?_
      obtain ⟨x7, e8, hF⟩ := q_bind hF
      refine g_iald e8 dX12_mergedAt_80 ?_
      refine g_iconst dX12_mergedAt_81 lt_iconst_1 ?_
      refine g_iadd dX12_mergedAt_82 ?_
      refine g_aload_n 1 dX12_mergedAt_83 rfl ?_
      obtain ⟨x9, e10, hF⟩ := q_bind hF
      refine g_getfR fl_X12_72 e10 dX12_mergedAt_84 ?_
      refine g_bipush dX12_mergedAt_87 lt_bipush_13 ?_
      refine g_iload_n 3 dX12_mergedAt_89 rfl ?_
      refine g_imul dX12_mergedAt_90 ?_
      refine g_iload_n 4 dX12_mergedAt_91 rfl ?_
      refine g_iadd dX12_mergedAt_92 ?_
      obtain ⟨x11, e12, hF⟩ := q_bind hF
      refine g_iald e12 dX12_mergedAt_93 ?_
      refine g_icmp_ne 101 dX12_mergedAt_94 (by decide) (fun c13 => ?_) (fun c13 => ?_)
      · replace hF := q_f c13 hF
        refine g_sub [1, 2, 3, 4, 5, 0] rfl ?_
        exact J_X12_mergedAt_101 l b D z hF hback hx0
      · replace hF := q_t c13 hF
        refine g_sub [1, 2, 3, 4, 5, 0] rfl ?_
        exact J_X12_mergedAt_97 l b D z hF hback hx0
set_option maxRecDepth 100000 in
set_option maxHeartbeats 4000000 in
theorem J_X12_mergedAt_51 (l : Launch) (b : Nat) (D : va_G) (z : Nat → Nat) {Φ : Option Value → qH → Nat → Prop} {nx : Nat} {h : qH} {a0 : Nat} {a1 : Int32} {a2 : Int32} {a3 : Int32} {a5 : Int32} {o : (Int32 × Int32 × Int32 × Int32) ⊕ Int32} (hF : j_X12_mergedAt_51 h a0 a1 a2 a3 a5  = some o) (hback : ∀ (b2 : Int32) (b3 : Int32) (b4 : Int32) (b5 : Int32), o = .inl (b2, b3, b4, b5) → Go l b D z yX12_mergedAt cX12_mergedAt 10 (some .int) rm_X12_mergedAt Φ 10 [(0, .ref a0), (1, .int a1), (2, .int b2), (3, .int b3), (4, .int b4), (5, .int b5)] [] h nx 0 0) (hx0 : ∀ (b4 : Int32), o = .inr b4 → Go l b D z yX12_mergedAt cX12_mergedAt 10 (some .int) rm_X12_mergedAt Φ 249 [(4, .int b4)] [] h nx 0 0) : Go l b D z yX12_mergedAt cX12_mergedAt 10 (some .int) rm_X12_mergedAt Φ 51 [(0, .ref a0), (1, .int a1), (2, .int a2), (3, .int a3), (5, .int a5)] [] h nx 0 0 := by
  unfold j_X12_mergedAt_51 at hF
  refine g_iconst dX12_mergedAt_51 lt_iconst_0 ?_
  exact J_X12_mergedAt_52 l b D z hF hback hx0
set_option maxRecDepth 100000 in
set_option maxHeartbeats 4000000 in
theorem B_X12_mergedAt_10 (l : Launch) (b : Nat) (D : va_G) (z : Nat → Nat) {Φ : Option Value → qH → Nat → Prop} {nx : Nat} {h : qH} {a0 : Nat} {a1 : Int32} {a2 : Int32} {a3 : Int32} {a4 : Int32} {a5 : Int32} {o : (Int32 × Int32 × Int32 × Int32) ⊕ Int32} (hF : b_X12_mergedAt_10 h a0 a1 a2 a3 a4 a5 = some o) (hback : ∀ (b2 : Int32) (b3 : Int32) (b4 : Int32) (b5 : Int32), o = .inl (b2, b3, b4, b5) → Go l b D z yX12_mergedAt cX12_mergedAt 10 (some .int) rm_X12_mergedAt Φ 10 [(0, .ref a0), (1, .int a1), (2, .int b2), (3, .int b3), (4, .int b4), (5, .int b5)] [] h nx 0 0) (hx0 : ∀ (b4 : Int32), o = .inr b4 → Go l b D z yX12_mergedAt cX12_mergedAt 10 (some .int) rm_X12_mergedAt Φ 249 [(4, .int b4)] [] h nx 0 0) : Go l b D z yX12_mergedAt cX12_mergedAt 10 (some .int) rm_X12_mergedAt Φ 10 [(0, .ref a0), (1, .int a1), (2, .int a2), (3, .int a3), (4, .int a4), (5, .int a5)] [] h nx 0 0 := by
  unfold b_X12_mergedAt_10 at hF
  refine g_iload 5 dX12_mergedAt_10 rfl ?_
  refine g_iload_n 1 dX12_mergedAt_12 rfl ?_
  refine g_icmp_gt 249 dX12_mergedAt_13 (by decide) (fun c1 => ?_) (fun c1 => ?_)
  · replace hF := q_t c1 hF
    cases hF
    refine g_sub [4] rfl ?_
    exact hx0 _ rfl
  · replace hF := q_f c1 hF
    refine g_iload_n 2 dX12_mergedAt_16 rfl ?_
    refine g_aload_n 0 dX12_mergedAt_17 rfl ?_
    obtain ⟨x2, e3, hF⟩ := q_bind hF
    refine g_getfI fl_X12_412 e3 dX12_mergedAt_18 ?_
    refine g_icmp_ge 51 dX12_mergedAt_21 (by decide) (fun c4 => ?_) (fun c4 => ?_)
    · replace hF := q_t c4 hF
      refine g_sub [0, 1, 2, 3, 5] rfl ?_
      exact J_X12_mergedAt_51 l b D z hF hback hx0
    · replace hF := q_f c4 hF
      refine g_iload_n 3 dX12_mergedAt_24 rfl ?_
      refine g_aload_n 0 dX12_mergedAt_25 rfl ?_
      obtain ⟨x5, e6, hF⟩ := q_bind hF
      refine g_getfI fl_X12_415 e6 dX12_mergedAt_26 ?_
      refine g_icmp_ge 51 dX12_mergedAt_29 (by decide) (fun c7 => ?_) (fun c7 => ?_)
      · replace hF := q_t c7 hF
        refine g_sub [0, 1, 2, 3, 5] rfl ?_
        exact J_X12_mergedAt_51 l b D z hF hback hx0
      · replace hF := q_f c7 hF
        refine g_aload_n 0 dX12_mergedAt_32 rfl ?_
        obtain ⟨x8, e9, hF⟩ := q_bind hF
        refine g_getfR fl_X12_66 e9 dX12_mergedAt_33 ?_
        refine g_iload_n 2 dX12_mergedAt_36 rfl ?_
        obtain ⟨x10, e11, hF⟩ := q_bind hF
        refine g_iald e11 dX12_mergedAt_37 ?_
        refine g_aload_n 0 dX12_mergedAt_38 rfl ?_
        obtain ⟨x12, e13, hF⟩ := q_bind hF
        refine g_getfR fl_X12_69 e13 dX12_mergedAt_39 ?_
        refine g_iload_n 3 dX12_mergedAt_42 rfl ?_
        obtain ⟨x14, e15, hF⟩ := q_bind hF
        refine g_iald e15 dX12_mergedAt_43 ?_
        refine g_icmp_ne 51 dX12_mergedAt_44 (by decide) (fun c16 => ?_) (fun c16 => ?_)
        · replace hF := q_f c16 hF
          refine g_sub [0, 1, 2, 3, 5] rfl ?_
          exact J_X12_mergedAt_51 l b D z hF hback hx0
        · replace hF := q_t c16 hF
          refine g_iconst dX12_mergedAt_47 lt_iconst_1 ?_
          refine g_goto 52 dX12_mergedAt_48 (by decide) ?_
          refine g_sub [0, 1, 2, 3, 5] rfl ?_
          exact J_X12_mergedAt_52 l b D z hF hback hx0
set_option maxRecDepth 100000 in
set_option maxHeartbeats 4000000 in
theorem L_X12_mergedAt_10 (l : Launch) (b : Nat) (D : va_G) (z : Nat → Nat) {Φ : Option Value → qH → Nat → Prop} {nx : Nat} {h : qH} {a0 : Nat} {a1 : Int32} : ∀ (n : Nat) (a2 : Int32) (a3 : Int32) (a4 : Int32) (a5 : Int32) (e : Int32), q_lp (s_X12_mergedAt_10 h a0 a1) n (a2, a3, a4, a5) = some e → (∀ (b4 : Int32), e = b4 → Go l b D z yX12_mergedAt cX12_mergedAt 10 (some .int) rm_X12_mergedAt Φ 249 [(4, .int b4)] [] h nx 0 0) → Go l b D z yX12_mergedAt cX12_mergedAt 10 (some .int) rm_X12_mergedAt Φ 10 [(0, .ref a0), (1, .int a1), (2, .int a2), (3, .int a3), (4, .int a4), (5, .int a5)] [] h nx 0 0 := by
  intro n
  induction n with
  | zero => intro a2 a3 a4 a5 e he; cases (show none = some e from he)
  | succ n ih =>
    intro a2 a3 a4 a5 e he hx0
    obtain ⟨o, ho, h1, h2⟩ := q_lp_succ he
    exact B_X12_mergedAt_10 l b D z (show b_X12_mergedAt_10 h a0 a1 a2 a3 a4 a5 = some o from ho) (fun b2 b3 b4 b5 hb => ih _ _ _ _ e (h1 _ hb) hx0) (fun p0 hr => hx0 p0 (h2 _ hr).symm)
set_option maxRecDepth 100000 in
set_option maxHeartbeats 4000000 in
theorem M_X12_mergedAt (l : Launch) (b : Nat) (D : va_G) (z : Nat → Nat) (nx : Nat) {h : qH} {a0 : Nat} {a1 : Int32} {r : Int32} (hF : F_X12_mergedAt h a0 a1 = some r) : Me l b D z yX12_mergedAt cX12_mergedAt 10 (some .int) rm_X12_mergedAt [.ref a0, .int a1] h nx (qE (some (.int r)) h nx) := by
  refine Me.of (by decide +kernel) (Nat.le_of_ble_eq_true rfl) ?_
  show Go l b D z yX12_mergedAt cX12_mergedAt 10 (some .int) rm_X12_mergedAt (qE (some (.int r)) h nx) 0 [(0, .ref a0), (1, .int a1)] [] h nx 0 0
  unfold F_X12_mergedAt at hF
  refine g_iconst dX12_mergedAt_0 lt_iconst_0 ?_
  refine g_istore_n [(2, .int (0 : Int32)), (0, .ref a0), (1, .int a1)] dX12_mergedAt_1 (Nat.le_of_ble_eq_true rfl) rfl ?_
  refine g_iconst dX12_mergedAt_2 lt_iconst_0 ?_
  refine g_istore_n [(3, .int (0 : Int32)), (2, .int (0 : Int32)), (0, .ref a0), (1, .int a1)] dX12_mergedAt_3 (Nat.le_of_ble_eq_true rfl) rfl ?_
  refine g_iconst dX12_mergedAt_4 lt_iconst_m1 ?_
  refine g_istore [(4, .int (-1 : Int32)), (3, .int (0 : Int32)), (2, .int (0 : Int32)), (0, .ref a0), (1, .int a1)] dX12_mergedAt_5 (Nat.le_of_ble_eq_true rfl) rfl ?_
  refine g_iconst dX12_mergedAt_7 lt_iconst_0 ?_
  refine g_istore [(5, .int (0 : Int32)), (4, .int (-1 : Int32)), (3, .int (0 : Int32)), (2, .int (0 : Int32)), (0, .ref a0), (1, .int a1)] dX12_mergedAt_8 (Nat.le_of_ble_eq_true rfl) rfl ?_
  obtain ⟨e1, w2, hF⟩ := q_bind hF
  refine g_sub [4, 5, 3, 2, 1, 0] rfl ?_
  refine L_X12_mergedAt_10 l b D z q_N (0 : Int32) (0 : Int32) (-1 : Int32) (0 : Int32) e1 w2 ?_
  · intro o3 w4
    replace w4 := w4.symm
    subst w4
    refine g_iload 0 dX12_mergedAt_249 rfl ?_
    cases hF
    exact g_iret dX12_mergedAt_251 rfl ⟨rfl, rfl, rfl⟩ (Nat.le_of_ble_eq_true rfl) (Nat.le_of_ble_eq_true rfl)
def rm_X12_merged : Room := { frames := 3, cells := 0, slots := 0, locals := 66 }
set_option maxRecDepth 100000 in
set_option maxHeartbeats 4000000 in
theorem M_X12_merged (l : Launch) (b : Nat) (D : va_G) (z : Nat → Nat) (nx : Nat) {h : qH} {a0 : Nat} {a1 : Int32} {a2 : Int32} {a3 : Int32} {a4 : Int32} {r : Int32 × qH} (hF : F_X12_merged h a0 a1 a2 a3 a4 = some r) : Me l b D z yX12_merged cX12_merged 5 (some .int) rm_X12_merged [.ref a0, .int a1, .int a2, .int a3, .int a4] h nx (qE (some (.int r.1)) r.2 nx) := by
  refine Me.of (by decide +kernel) (Nat.le_of_ble_eq_true rfl) ?_
  show Go l b D z yX12_merged cX12_merged 5 (some .int) rm_X12_merged (qE (some (.int r.1)) r.2 nx) 0 [(0, .ref a0), (1, .int a1), (2, .int a2), (3, .int a3), (4, .int a4)] [] h nx 0 0
  unfold F_X12_merged at hF
  refine g_aload_n 0 dX12_merged_0 rfl ?_
  refine g_iconst dX12_merged_1 lt_iconst_0 ?_
  obtain ⟨h1, e2, hF⟩ := q_bind hF
  refine g_putf fl_X12_91 e2 rfl rfl dX12_merged_2 ?_
  refine g_iload_n 3 dX12_merged_5 rfl ?_
  refine g_iconst dX12_merged_6 lt_iconst_1 ?_
  refine g_bipush dX12_merged_7 lt_bipush_12 ?_
  obtain ⟨x3, e4, hF⟩ := q_bind hF
  refine g_callSr0 qm_X12_in wd_1623 wd_1624 (M_X12_in l b D z nx e4) (As := [.int a3, .int (1 : Int32), .int (12 : Int32)]) rfl rfl (Nat.le_of_ble_eq_true rfl) ⟨(Nat.le_of_ble_eq_true rfl), (Nat.le_of_ble_eq_true rfl)⟩ ⟨rfl, rfl⟩ ⟨(Nat.le_of_ble_eq_true rfl), (Nat.le_of_ble_eq_true rfl)⟩ dX12_merged_9 ?_
  refine g_if_eq 23 dX12_merged_12 (by decide) (fun c5 => ?_) (fun c5 => ?_)
  · replace hF := q_t c5 hF
    refine g_iconst dX12_merged_23 lt_iconst_m1 ?_
    cases hF
    exact g_iret dX12_merged_24 rfl ⟨rfl, rfl, rfl⟩ (Nat.le_of_ble_eq_true rfl) (Nat.le_of_ble_eq_true rfl)
  · replace hF := q_f c5 hF
    refine g_aload_n 0 dX12_merged_15 rfl ?_
    refine g_iload_n 1 dX12_merged_16 rfl ?_
    obtain ⟨u6, e7, hF⟩ := q_bind hF
    obtain ⟨x8, e9, hF⟩ := q_bind hF
    refine g_callVr0 (ci := 12) (q := (RX12, TX12, 49)) qm_X12_hand wd_1750 wd_1752 wd_99 rfl e7 (M_X12_hand l b D z nx e9) (As := [.int a1]) rfl rfl (Nat.le_of_ble_eq_true rfl) ⟨(Nat.le_of_ble_eq_true rfl), (Nat.le_of_ble_eq_true rfl)⟩ ⟨rfl, rfl⟩ ⟨(Nat.le_of_ble_eq_true rfl), (Nat.le_of_ble_eq_true rfl)⟩ dX12_merged_17 ?_
    refine g_if_ne 25 dX12_merged_20 (by decide) (fun c10 => ?_) (fun c10 => ?_)
    · replace hF := q_f c10 hF
      refine g_aload_n 0 dX12_merged_25 rfl ?_
      refine g_aload_n 0 dX12_merged_26 rfl ?_
      refine g_aload_n 0 dX12_merged_27 rfl ?_
      obtain ⟨x11, e12, hF⟩ := q_bind hF
      refine g_getfR fl_X12_66 e12 dX12_merged_28 ?_
      refine g_iload_n 3 dX12_merged_31 rfl ?_
      obtain ⟨u13, e14, hF⟩ := q_bind hF
      obtain ⟨x15, e16, hF⟩ := q_bind hF
      refine g_callVr0 (ci := 12) (q := (RX12, TX12, 49)) qm_X12_layRow wd_1957 wd_1959 wd_133 rfl e14 (M_X12_layRow l b D z nx e16) (As := [.ref x11, .int a3]) rfl rfl (Nat.le_of_ble_eq_true rfl) ⟨(Nat.le_of_ble_eq_true rfl), (Nat.le_of_ble_eq_true rfl)⟩ ⟨rfl, rfl⟩ ⟨(Nat.le_of_ble_eq_true rfl), (Nat.le_of_ble_eq_true rfl)⟩ dX12_merged_32 ?_
      obtain ⟨h17, e18, hF⟩ := q_bind hF
      refine g_putf fl_X12_412 e18 rfl rfl dX12_merged_35 ?_
      refine g_aload_n 0 dX12_merged_38 rfl ?_
      refine g_iload_n 2 dX12_merged_39 rfl ?_
      obtain ⟨u19, e20, hF⟩ := q_bind hF
      obtain ⟨x21, e22, hF⟩ := q_bind hF
      refine g_callVr0 (ci := 12) (q := (RX12, TX12, 49)) qm_X12_hand wd_1750 wd_1752 wd_99 rfl e20 (M_X12_hand l b D z nx e22) (As := [.int a2]) rfl rfl (Nat.le_of_ble_eq_true rfl) ⟨(Nat.le_of_ble_eq_true rfl), (Nat.le_of_ble_eq_true rfl)⟩ ⟨rfl, rfl⟩ ⟨(Nat.le_of_ble_eq_true rfl), (Nat.le_of_ble_eq_true rfl)⟩ dX12_merged_40 ?_
      refine g_if_ne 48 dX12_merged_43 (by decide) (fun c23 => ?_) (fun c23 => ?_)
      · replace hF := q_f c23 hF
        refine g_aload_n 0 dX12_merged_48 rfl ?_
        refine g_aload_n 0 dX12_merged_49 rfl ?_
        refine g_aload_n 0 dX12_merged_50 rfl ?_
        obtain ⟨x24, e25, hF⟩ := q_bind hF
        refine g_getfR fl_X12_69 e25 dX12_merged_51 ?_
        refine g_iload_n 3 dX12_merged_54 rfl ?_
        obtain ⟨u26, e27, hF⟩ := q_bind hF
        obtain ⟨x28, e29, hF⟩ := q_bind hF
        refine g_callVr0 (ci := 12) (q := (RX12, TX12, 49)) qm_X12_layRow wd_1957 wd_1959 wd_133 rfl e27 (M_X12_layRow l b D z nx e29) (As := [.ref x24, .int a3]) rfl rfl (Nat.le_of_ble_eq_true rfl) ⟨(Nat.le_of_ble_eq_true rfl), (Nat.le_of_ble_eq_true rfl)⟩ ⟨rfl, rfl⟩ ⟨(Nat.le_of_ble_eq_true rfl), (Nat.le_of_ble_eq_true rfl)⟩ dX12_merged_55 ?_
        obtain ⟨h30, e31, hF⟩ := q_bind hF
        refine g_putf fl_X12_415 e31 rfl rfl dX12_merged_58 ?_
        refine g_aload_n 0 dX12_merged_61 rfl ?_
        obtain ⟨u32, e33, hF⟩ := q_bind hF
        obtain ⟨x34, e35, hF⟩ := q_bind hF
        refine g_callVv0 (ci := 12) (q := (RX12, TX12, 49)) qm_X12_findShortest wd_1961 wd_1963 wd_134 rfl e33 (M_X12_findShortest l b D z nx e35) (As := []) rfl rfl (Nat.le_of_ble_eq_true rfl) ⟨(Nat.le_of_ble_eq_true rfl), (Nat.le_of_ble_eq_true rfl)⟩ ⟨rfl, rfl⟩ ⟨(Nat.le_of_ble_eq_true rfl), (Nat.le_of_ble_eq_true rfl)⟩ dX12_merged_62 ?_
        refine g_iload 4 dX12_merged_65 rfl ?_
        refine g_iconst dX12_merged_67 lt_iconst_m1 ?_
        refine g_icmp_ne 80 dX12_merged_68 (by decide) (fun c36 => ?_) (fun c36 => ?_)
        · replace hF := q_f c36 hF
          refine g_iload 4 dX12_merged_80 rfl ?_
          refine g_bipush dX12_merged_82 lt_bipush_m2 ?_
          refine g_icmp_ne 106 dX12_merged_84 (by decide) (fun c37 => ?_) (fun c37 => ?_)
          · replace hF := q_f c37 hF
            refine g_iload 4 dX12_merged_106 rfl ?_
            refine g_iconst dX12_merged_108 lt_iconst_0 ?_
            refine g_aload_n 0 dX12_merged_109 rfl ?_
            obtain ⟨x38, e39, hF⟩ := q_bind hF
            refine g_getfR fl_X12_72 e39 dX12_merged_110 ?_
            refine g_iconst dX12_merged_113 lt_iconst_0 ?_
            obtain ⟨x40, e41, hF⟩ := q_bind hF
            refine g_iald e41 dX12_merged_114 ?_
            refine g_iconst dX12_merged_115 lt_iconst_1 ?_
            refine g_isub dX12_merged_116 ?_
            obtain ⟨x42, e43, hF⟩ := q_bind hF
            refine g_callSr0 qm_X12_in wd_1623 wd_1624 (M_X12_in l b D z nx e43) (As := [.int a4, .int (0 : Int32), .int (x40 - (1 : Int32))]) rfl rfl (Nat.le_of_ble_eq_true rfl) ⟨(Nat.le_of_ble_eq_true rfl), (Nat.le_of_ble_eq_true rfl)⟩ ⟨rfl, rfl⟩ ⟨(Nat.le_of_ble_eq_true rfl), (Nat.le_of_ble_eq_true rfl)⟩ dX12_merged_117 ?_
            refine g_if_eq 132 dX12_merged_120 (by decide) (fun c44 => ?_) (fun c44 => ?_)
            · replace hF := q_t c44 hF
              refine g_iconst dX12_merged_132 lt_iconst_m1 ?_
              cases hF
              exact g_iret dX12_merged_133 rfl ⟨rfl, rfl, rfl⟩ (Nat.le_of_ble_eq_true rfl) (Nat.le_of_ble_eq_true rfl)
            · replace hF := q_f c44 hF
              refine g_aload_n 0 dX12_merged_123 rfl ?_
              refine g_iload 4 dX12_merged_124 rfl ?_
              obtain ⟨u45, e46, hF⟩ := q_bind hF
              obtain ⟨x47, e48, hF⟩ := q_bind hF
              refine g_callVr0 (ci := 12) (q := (RX12, TX12, 49)) qm_X12_mergedAt wd_1965 wd_1967 wd_135 rfl e46 (M_X12_mergedAt l b D z nx e48) (As := [.int a4]) rfl rfl (Nat.le_of_ble_eq_true rfl) ⟨(Nat.le_of_ble_eq_true rfl), (Nat.le_of_ble_eq_true rfl)⟩ ⟨rfl, rfl⟩ ⟨(Nat.le_of_ble_eq_true rfl), (Nat.le_of_ble_eq_true rfl)⟩ dX12_merged_126 ?_
              refine g_goto 133 dX12_merged_129 (by decide) ?_
              cases hF
              exact g_iret dX12_merged_133 rfl ⟨rfl, rfl, rfl⟩ (Nat.le_of_ble_eq_true rfl) (Nat.le_of_ble_eq_true rfl)
          · replace hF := q_t c37 hF
            refine g_aload_n 0 dX12_merged_87 rfl ?_
            obtain ⟨x49, e50, hF⟩ := q_bind hF
            refine g_getfI fl_X12_412 e50 dX12_merged_88 ?_
            refine g_aload_n 0 dX12_merged_91 rfl ?_
            obtain ⟨x51, e52, hF⟩ := q_bind hF
            refine g_getfI fl_X12_415 e52 dX12_merged_92 ?_
            refine g_iadd dX12_merged_95 ?_
            refine g_aload_n 0 dX12_merged_96 rfl ?_
            obtain ⟨x53, e54, hF⟩ := q_bind hF
            refine g_getfR fl_X12_72 e54 dX12_merged_97 ?_
            refine g_iconst dX12_merged_100 lt_iconst_0 ?_
            obtain ⟨x55, e56, hF⟩ := q_bind hF
            refine g_iald e56 dX12_merged_101 ?_
            refine g_isub dX12_merged_102 ?_
            refine g_goto 133 dX12_merged_103 (by decide) ?_
            cases hF
            exact g_iret dX12_merged_133 rfl ⟨rfl, rfl, rfl⟩ (Nat.le_of_ble_eq_true rfl) (Nat.le_of_ble_eq_true rfl)
        · replace hF := q_t c36 hF
          refine g_aload_n 0 dX12_merged_71 rfl ?_
          obtain ⟨x57, e58, hF⟩ := q_bind hF
          refine g_getfR fl_X12_72 e58 dX12_merged_72 ?_
          refine g_iconst dX12_merged_75 lt_iconst_0 ?_
          obtain ⟨x59, e60, hF⟩ := q_bind hF
          refine g_iald e60 dX12_merged_76 ?_
          refine g_goto 133 dX12_merged_77 (by decide) ?_
          cases hF
          exact g_iret dX12_merged_133 rfl ⟨rfl, rfl, rfl⟩ (Nat.le_of_ble_eq_true rfl) (Nat.le_of_ble_eq_true rfl)
      · replace hF := q_t c23 hF
        refine g_iconst dX12_merged_46 lt_iconst_m1 ?_
        cases hF
        exact g_iret dX12_merged_47 rfl ⟨rfl, rfl, rfl⟩ (Nat.le_of_ble_eq_true rfl) (Nat.le_of_ble_eq_true rfl)
    · replace hF := q_t c10 hF
      refine g_iconst dX12_merged_23 lt_iconst_m1 ?_
      cases hF
      exact g_iret dX12_merged_24 rfl ⟨rfl, rfl, rfl⟩ (Nat.le_of_ble_eq_true rfl) (Nat.le_of_ble_eq_true rfl)
def rm_X12_voices : Room := { frames := 0, cells := 0, slots := 0, locals := 0 }
set_option maxRecDepth 100000 in
set_option maxHeartbeats 4000000 in
theorem M_X12_voices (l : Launch) (b : Nat) (D : va_G) (z : Nat → Nat) (nx : Nat) {h : qH} {a0 : Nat} {r : Int32} (hF : F_X12_voices h a0 = some r) : Me l b D z yX12_voices cX12_voices 1 (some .int) rm_X12_voices [.ref a0] h nx (qE (some (.int r)) h nx) := by
  refine Me.of (by decide +kernel) (Nat.le_of_ble_eq_true rfl) ?_
  show Go l b D z yX12_voices cX12_voices 1 (some .int) rm_X12_voices (qE (some (.int r)) h nx) 0 [(0, .ref a0)] [] h nx 0 0
  unfold F_X12_voices at hF
  refine g_aload_n 0 dX12_voices_0 rfl ?_
  obtain ⟨x1, e2, hF⟩ := q_bind hF
  refine g_getfR fl_X12_32 e2 dX12_voices_1 ?_
  refine g_bipush dX12_voices_4 lt_bipush_13 ?_
  refine g_aload_n 0 dX12_voices_6 rfl ?_
  obtain ⟨x3, e4, hF⟩ := q_bind hF
  refine g_getfI fl_X12_428 e4 dX12_voices_7 ?_
  refine g_imul dX12_voices_10 ?_
  obtain ⟨x5, e6, hF⟩ := q_bind hF
  refine g_iald e6 dX12_voices_11 ?_
  cases hF
  exact g_iret dX12_voices_12 rfl ⟨rfl, rfl, rfl⟩ (Nat.le_of_ble_eq_true rfl) (Nat.le_of_ble_eq_true rfl)
def rm_X12_voiceOf : Room := { frames := 0, cells := 0, slots := 0, locals := 0 }
set_option maxRecDepth 100000 in
set_option maxHeartbeats 4000000 in
theorem M_X12_voiceOf (l : Launch) (b : Nat) (D : va_G) (z : Nat → Nat) (nx : Nat) {h : qH} {a0 : Nat} {a1 : Int32} {r : Int32} (hF : F_X12_voiceOf h a0 a1 = some r) : Me l b D z yX12_voiceOf cX12_voiceOf 2 (some .int) rm_X12_voiceOf [.ref a0, .int a1] h nx (qE (some (.int r)) h nx) := by
  refine Me.of (by decide +kernel) (Nat.le_of_ble_eq_true rfl) ?_
  show Go l b D z yX12_voiceOf cX12_voiceOf 2 (some .int) rm_X12_voiceOf (qE (some (.int r)) h nx) 0 [(0, .ref a0), (1, .int a1)] [] h nx 0 0
  unfold F_X12_voiceOf at hF
  refine g_aload_n 0 dX12_voiceOf_0 rfl ?_
  obtain ⟨x1, e2, hF⟩ := q_bind hF
  refine g_getfR fl_X12_32 e2 dX12_voiceOf_1 ?_
  refine g_bipush dX12_voiceOf_4 lt_bipush_13 ?_
  refine g_aload_n 0 dX12_voiceOf_6 rfl ?_
  obtain ⟨x3, e4, hF⟩ := q_bind hF
  refine g_getfI fl_X12_428 e4 dX12_voiceOf_7 ?_
  refine g_imul dX12_voiceOf_10 ?_
  refine g_iconst dX12_voiceOf_11 lt_iconst_1 ?_
  refine g_iadd dX12_voiceOf_12 ?_
  refine g_iload_n 1 dX12_voiceOf_13 rfl ?_
  refine g_iadd dX12_voiceOf_14 ?_
  obtain ⟨x5, e6, hF⟩ := q_bind hF
  refine g_iald e6 dX12_voiceOf_15 ?_
  cases hF
  exact g_iret dX12_voiceOf_16 rfl ⟨rfl, rfl, rfl⟩ (Nat.le_of_ble_eq_true rfl) (Nat.le_of_ble_eq_true rfl)
def rm_X12_hasLog : Room := { frames := 2, cells := 0, slots := 0, locals := 44 }
set_option maxRecDepth 100000 in
set_option maxHeartbeats 4000000 in
theorem M_X12_hasLog (l : Launch) (b : Nat) (D : va_G) (z : Nat → Nat) (nx : Nat) {h : qH} {a0 : Nat} {a1 : Int32} {r : Int32 × qH} (hF : F_X12_hasLog h a0 a1 = some r) : Me l b D z yX12_hasLog cX12_hasLog 2 (some .boolean) rm_X12_hasLog [.ref a0, .int a1] h nx (qE (some (.int r.1)) r.2 nx) := by
  refine Me.of (by decide +kernel) (Nat.le_of_ble_eq_true rfl) ?_
  show Go l b D z yX12_hasLog cX12_hasLog 2 (some .boolean) rm_X12_hasLog (qE (some (.int r.1)) r.2 nx) 0 [(0, .ref a0), (1, .int a1)] [] h nx 0 0
  unfold F_X12_hasLog at hF
  refine g_aload_n 0 dX12_hasLog_0 rfl ?_
  refine g_iload_n 1 dX12_hasLog_1 rfl ?_
  obtain ⟨h1, e2, hF⟩ := q_bind hF
  refine g_putf fl_X12_428 e2 rfl rfl dX12_hasLog_2 ?_
  refine g_aload_n 0 dX12_hasLog_5 rfl ?_
  refine g_iconst dX12_hasLog_6 lt_iconst_2 ?_
  refine g_iload_n 1 dX12_hasLog_7 rfl ?_
  obtain ⟨u3, e4, hF⟩ := q_bind hF
  obtain ⟨x5, e6, hF⟩ := q_bind hF
  refine g_callVr0 (ci := 12) (q := (RX12, TX12, 49)) qm_X12_is wd_1630 wd_1632 wd_77 rfl e4 (M_X12_is l b D z nx e6) (As := [.int (2 : Int32), .int a1]) rfl rfl (Nat.le_of_ble_eq_true rfl) ⟨(Nat.le_of_ble_eq_true rfl), (Nat.le_of_ble_eq_true rfl)⟩ ⟨rfl, rfl⟩ ⟨(Nat.le_of_ble_eq_true rfl), (Nat.le_of_ble_eq_true rfl)⟩ dX12_hasLog_8 ?_
  obtain ⟨u7, e8, hF⟩ := q_bind hF
  cases hF
  exact g_zret dX12_hasLog_11 rfl (q_z_spec e8).2.1 ⟨rfl, rfl, rfl⟩ (Nat.le_of_ble_eq_true rfl) (Nat.le_of_ble_eq_true rfl)
def rm_X12_voice : Room := { frames := 3, cells := 0, slots := 0, locals := 65 }
set_option maxRecDepth 100000 in
set_option maxHeartbeats 4000000 in
theorem M_X12_voice (l : Launch) (b : Nat) (D : va_G) (z : Nat → Nat) (nx : Nat) {h : qH} {a0 : Nat} {a1 : Int32} {a2 : Int32} {r : Int32 × qH} (hF : F_X12_voice h a0 a1 a2 = some r) : Me l b D z yX12_voice cX12_voice 3 (some .int) rm_X12_voice [.ref a0, .int a1, .int a2] h nx (qE (some (.int r.1)) r.2 nx) := by
  refine Me.of (by decide +kernel) (Nat.le_of_ble_eq_true rfl) ?_
  show Go l b D z yX12_voice cX12_voice 3 (some .int) rm_X12_voice (qE (some (.int r.1)) r.2 nx) 0 [(0, .ref a0), (1, .int a1), (2, .int a2)] [] h nx 0 0
  unfold F_X12_voice at hF
  refine g_aload_n 0 dX12_voice_0 rfl ?_
  refine g_iconst dX12_voice_1 lt_iconst_0 ?_
  obtain ⟨h1, e2, hF⟩ := q_bind hF
  refine g_putf fl_X12_91 e2 rfl rfl dX12_voice_2 ?_
  refine g_aload_n 0 dX12_voice_5 rfl ?_
  refine g_iload_n 1 dX12_voice_6 rfl ?_
  obtain ⟨u3, e4, hF⟩ := q_bind hF
  obtain ⟨x5, e6, hF⟩ := q_bind hF
  refine g_callVr0 (ci := 12) (q := (RX12, TX12, 49)) qm_X12_hasLog wd_1973 wd_1975 wd_136 rfl e4 (M_X12_hasLog l b D z nx e6) (As := [.int a1]) rfl rfl (Nat.le_of_ble_eq_true rfl) ⟨(Nat.le_of_ble_eq_true rfl), (Nat.le_of_ble_eq_true rfl)⟩ ⟨rfl, rfl⟩ ⟨(Nat.le_of_ble_eq_true rfl), (Nat.le_of_ble_eq_true rfl)⟩ dX12_voice_7 ?_
  refine g_if_ne 15 dX12_voice_10 (by decide) (fun c7 => ?_) (fun c7 => ?_)
  · replace hF := q_f c7 hF
    refine g_iload_n 2 dX12_voice_15 rfl ?_
    refine g_iconst dX12_voice_16 lt_iconst_m1 ?_
    refine g_icmp_ne 27 dX12_voice_17 (by decide) (fun c8 => ?_) (fun c8 => ?_)
    · replace hF := q_f c8 hF
      refine g_iload_n 2 dX12_voice_27 rfl ?_
      refine g_iconst dX12_voice_28 lt_iconst_0 ?_
      refine g_aload_n 0 dX12_voice_29 rfl ?_
      obtain ⟨u9, e10, hF⟩ := q_bind hF
      obtain ⟨x11, e12, hF⟩ := q_bind hF
      refine g_callVr0 (ci := 12) (q := (RX12, TX12, 49)) qm_X12_voices wd_1977 wd_1979 wd_137 rfl e10 (M_X12_voices l b D z nx e12) (As := []) rfl rfl (Nat.le_of_ble_eq_true rfl) ⟨(Nat.le_of_ble_eq_true rfl), (Nat.le_of_ble_eq_true rfl)⟩ ⟨rfl, rfl⟩ ⟨(Nat.le_of_ble_eq_true rfl), (Nat.le_of_ble_eq_true rfl)⟩ dX12_voice_30 ?_
      refine g_iconst dX12_voice_33 lt_iconst_1 ?_
      refine g_isub dX12_voice_34 ?_
      obtain ⟨x13, e14, hF⟩ := q_bind hF
      refine g_callSr0 qm_X12_in wd_1623 wd_1624 (M_X12_in l b D z nx e14) (As := [.int a2, .int (0 : Int32), .int (x11 - (1 : Int32))]) rfl rfl (Nat.le_of_ble_eq_true rfl) ⟨(Nat.le_of_ble_eq_true rfl), (Nat.le_of_ble_eq_true rfl)⟩ ⟨rfl, rfl⟩ ⟨(Nat.le_of_ble_eq_true rfl), (Nat.le_of_ble_eq_true rfl)⟩ dX12_voice_35 ?_
      refine g_if_eq 49 dX12_voice_38 (by decide) (fun c15 => ?_) (fun c15 => ?_)
      · replace hF := q_t c15 hF
        refine g_iconst dX12_voice_49 lt_iconst_m1 ?_
        cases hF
        exact g_iret dX12_voice_50 rfl ⟨rfl, rfl, rfl⟩ (Nat.le_of_ble_eq_true rfl) (Nat.le_of_ble_eq_true rfl)
      · replace hF := q_f c15 hF
        refine g_aload_n 0 dX12_voice_41 rfl ?_
        refine g_iload_n 2 dX12_voice_42 rfl ?_
        obtain ⟨u16, e17, hF⟩ := q_bind hF
        obtain ⟨x18, e19, hF⟩ := q_bind hF
        refine g_callVr0 (ci := 12) (q := (RX12, TX12, 49)) qm_X12_voiceOf wd_1981 wd_1983 wd_138 rfl e17 (M_X12_voiceOf l b D z nx e19) (As := [.int a2]) rfl rfl (Nat.le_of_ble_eq_true rfl) ⟨(Nat.le_of_ble_eq_true rfl), (Nat.le_of_ble_eq_true rfl)⟩ ⟨rfl, rfl⟩ ⟨(Nat.le_of_ble_eq_true rfl), (Nat.le_of_ble_eq_true rfl)⟩ dX12_voice_43 ?_
        refine g_goto 50 dX12_voice_46 (by decide) ?_
        cases hF
        exact g_iret dX12_voice_50 rfl ⟨rfl, rfl, rfl⟩ (Nat.le_of_ble_eq_true rfl) (Nat.le_of_ble_eq_true rfl)
    · replace hF := q_t c8 hF
      refine g_aload_n 0 dX12_voice_20 rfl ?_
      obtain ⟨u20, e21, hF⟩ := q_bind hF
      obtain ⟨x22, e23, hF⟩ := q_bind hF
      refine g_callVr0 (ci := 12) (q := (RX12, TX12, 49)) qm_X12_voices wd_1977 wd_1979 wd_137 rfl e21 (M_X12_voices l b D z nx e23) (As := []) rfl rfl (Nat.le_of_ble_eq_true rfl) ⟨(Nat.le_of_ble_eq_true rfl), (Nat.le_of_ble_eq_true rfl)⟩ ⟨rfl, rfl⟩ ⟨(Nat.le_of_ble_eq_true rfl), (Nat.le_of_ble_eq_true rfl)⟩ dX12_voice_21 ?_
      refine g_goto 50 dX12_voice_24 (by decide) ?_
      cases hF
      exact g_iret dX12_voice_50 rfl ⟨rfl, rfl, rfl⟩ (Nat.le_of_ble_eq_true rfl) (Nat.le_of_ble_eq_true rfl)
  · replace hF := q_t c7 hF
    refine g_iconst dX12_voice_13 lt_iconst_m1 ?_
    cases hF
    exact g_iret dX12_voice_14 rfl ⟨rfl, rfl, rfl⟩ (Nat.le_of_ble_eq_true rfl) (Nat.le_of_ble_eq_true rfl)
def rm_X12_isHeard : Room := { frames := 2, cells := 0, slots := 0, locals := 42 }
set_option maxRecDepth 100000 in
set_option maxHeartbeats 4000000 in
theorem M_X12_isHeard (l : Launch) (b : Nat) (D : va_G) (z : Nat → Nat) (nx : Nat) {h : qH} {a0 : Nat} {a1 : Int32} {a2 : Int32} {r : Int32} (hF : F_X12_isHeard h a0 a1 a2 = some r) : Me l b D z yX12_isHeard cX12_isHeard 3 (some .boolean) rm_X12_isHeard [.ref a0, .int a1, .int a2] h nx (qE (some (.int r)) h nx) := by
  refine Me.of (by decide +kernel) (Nat.le_of_ble_eq_true rfl) ?_
  show Go l b D z yX12_isHeard cX12_isHeard 3 (some .boolean) rm_X12_isHeard (qE (some (.int r)) h nx) 0 [(0, .ref a0), (1, .int a1), (2, .int a2)] [] h nx 0 0
  unfold F_X12_isHeard at hF
  refine g_aload_n 0 dX12_isHeard_0 rfl ?_
  refine g_iload_n 1 dX12_isHeard_1 rfl ?_
  obtain ⟨u1, e2, hF⟩ := q_bind hF
  obtain ⟨x3, e4, hF⟩ := q_bind hF
  refine g_callVr0 (ci := 12) (q := (RX12, TX12, 49)) qm_X12_voiceOf wd_1981 wd_1983 wd_138 rfl e2 (M_X12_voiceOf l b D z nx e4) (As := [.int a1]) rfl rfl (Nat.le_of_ble_eq_true rfl) ⟨(Nat.le_of_ble_eq_true rfl), (Nat.le_of_ble_eq_true rfl)⟩ ⟨rfl, rfl⟩ ⟨(Nat.le_of_ble_eq_true rfl), (Nat.le_of_ble_eq_true rfl)⟩ dX12_isHeard_2 ?_
  refine g_bipush dX12_isHeard_5 lt_bipush_6 ?_
  refine g_icmp_eq 23 dX12_isHeard_7 (by decide) (fun c5 => ?_) (fun c5 => ?_)
  · replace hF := q_t c5 hF
    refine g_iconst dX12_isHeard_23 lt_iconst_1 ?_
    refine g_goto 28 dX12_isHeard_24 (by decide) ?_
    cases hF
    exact g_zret dX12_isHeard_28 rfl zn_1 ⟨rfl, rfl, rfl⟩ (Nat.le_of_ble_eq_true rfl) (Nat.le_of_ble_eq_true rfl)
  · replace hF := q_f c5 hF
    refine g_aload_n 0 dX12_isHeard_10 rfl ?_
    refine g_iload_n 1 dX12_isHeard_11 rfl ?_
    obtain ⟨u6, e7, hF⟩ := q_bind hF
    obtain ⟨x8, e9, hF⟩ := q_bind hF
    refine g_callVr0 (ci := 12) (q := (RX12, TX12, 49)) qm_X12_voiceOf wd_1981 wd_1983 wd_138 rfl e7 (M_X12_voiceOf l b D z nx e9) (As := [.int a1]) rfl rfl (Nat.le_of_ble_eq_true rfl) ⟨(Nat.le_of_ble_eq_true rfl), (Nat.le_of_ble_eq_true rfl)⟩ ⟨rfl, rfl⟩ ⟨(Nat.le_of_ble_eq_true rfl), (Nat.le_of_ble_eq_true rfl)⟩ dX12_isHeard_12 ?_
    refine g_aload_n 0 dX12_isHeard_15 rfl ?_
    refine g_iload_n 2 dX12_isHeard_16 rfl ?_
    obtain ⟨u10, e11, hF⟩ := q_bind hF
    obtain ⟨x12, e13, hF⟩ := q_bind hF
    refine g_callVr0 (ci := 12) (q := (RX12, TX12, 49)) qm_X12_who wd_1836 wd_1838 wd_116 rfl e11 (M_X12_who l b D z nx e13) (As := [.int a2]) rfl rfl (Nat.le_of_ble_eq_true rfl) ⟨(Nat.le_of_ble_eq_true rfl), (Nat.le_of_ble_eq_true rfl)⟩ ⟨rfl, rfl⟩ ⟨(Nat.le_of_ble_eq_true rfl), (Nat.le_of_ble_eq_true rfl)⟩ dX12_isHeard_17 ?_
    refine g_icmp_ne 27 dX12_isHeard_20 (by decide) (fun c14 => ?_) (fun c14 => ?_)
    · replace hF := q_f c14 hF
      refine g_iconst dX12_isHeard_27 lt_iconst_0 ?_
      cases hF
      exact g_zret dX12_isHeard_28 rfl zn_0 ⟨rfl, rfl, rfl⟩ (Nat.le_of_ble_eq_true rfl) (Nat.le_of_ble_eq_true rfl)
    · replace hF := q_t c14 hF
      refine g_iconst dX12_isHeard_23 lt_iconst_1 ?_
      refine g_goto 28 dX12_isHeard_24 (by decide) ?_
      cases hF
      exact g_zret dX12_isHeard_28 rfl zn_1 ⟨rfl, rfl, rfl⟩ (Nat.le_of_ble_eq_true rfl) (Nat.le_of_ble_eq_true rfl)
def rm_X12_findFrom : Room := { frames := 3, cells := 0, slots := 0, locals := 64 }
set_option maxRecDepth 100000 in
set_option maxHeartbeats 4000000 in
theorem B_X12_findFrom_59 (l : Launch) (b : Nat) (D : va_G) (z : Nat → Nat) {Φ : Option Value → qH → Nat → Prop} {nx : Nat} {h : qH} {a0 : Nat} {a1 : Int32} {a2 : Int32} {a3 : Int64} {a5 : Int32} {a6 : Int32} {o : (Int64 × Int32 × Int32) ⊕ ((Int64 × Int32))} (hF : b_X12_findFrom_59 h a0 a1 a2 a3 a5 a6 = some o) (hback : ∀ (b3 : Int64) (b5 : Int32) (b6 : Int32), o = .inl (b3, b5, b6) → Go l b D z yX12_findFrom cX12_findFrom 8 none rm_X12_findFrom Φ 59 [(0, .ref a0), (1, .int a1), (2, .int a2), (3, .long b3), (5, .int b5), (6, .int b6)] [] h nx 0 0) (hx0 : ∀ (b3 : Int64) (b5 : Int32), o = .inr (b3, b5) → Go l b D z yX12_findFrom cX12_findFrom 8 none rm_X12_findFrom Φ 132 [(0, .ref a0), (1, .int a1), (2, .int a2), (3, .long b3), (5, .int b5)] [] h nx 0 0) : Go l b D z yX12_findFrom cX12_findFrom 8 none rm_X12_findFrom Φ 59 [(0, .ref a0), (1, .int a1), (2, .int a2), (3, .long a3), (5, .int a5), (6, .int a6)] [] h nx 0 0 := by
  unfold b_X12_findFrom_59 at hF
  refine g_iload 5 dX12_findFrom_59 rfl ?_
  refine g_aload_n 0 dX12_findFrom_61 rfl ?_
  obtain ⟨x1, e2, hF⟩ := q_bind hF
  refine g_getfR fl_X12_47 e2 dX12_findFrom_62 ?_
  refine g_iload_n 2 dX12_findFrom_65 rfl ?_
  obtain ⟨x3, e4, hF⟩ := q_bind hF
  refine g_iald e4 dX12_findFrom_66 ?_
  refine g_icmp_ge 132 dX12_findFrom_67 (by decide) (fun c5 => ?_) (fun c5 => ?_)
  · replace hF := q_t c5 hF
    cases hF
    refine g_sub [0, 1, 2, 3, 4] rfl ?_
    exact hx0 _ _ rfl
  · replace hF := q_f c5 hF
    refine g_iload_n 1 dX12_findFrom_70 rfl ?_
    refine g_aload_n 0 dX12_findFrom_71 rfl ?_
    obtain ⟨u6, e7, hF⟩ := q_bind hF
    obtain ⟨x8, e9, hF⟩ := q_bind hF
    refine g_callVr0 (ci := 12) (q := (RX12, TX12, 49)) qm_X12_voices wd_1977 wd_1979 wd_137 rfl e7 (M_X12_voices l b D z nx e9) (As := []) rfl rfl (Nat.le_of_ble_eq_true rfl) ⟨(Nat.le_of_ble_eq_true rfl), (Nat.le_of_ble_eq_true rfl)⟩ ⟨rfl, rfl⟩ ⟨(Nat.le_of_ble_eq_true rfl), (Nat.le_of_ble_eq_true rfl)⟩ dX12_findFrom_72 ?_
    refine g_iconst dX12_findFrom_75 lt_iconst_1 ?_
    refine g_isub dX12_findFrom_76 ?_
    refine g_icmp_ge 132 dX12_findFrom_77 (by decide) (fun c10 => ?_) (fun c10 => ?_)
    · replace hF := q_t c10 hF
      cases hF
      refine g_sub [0, 1, 2, 3, 4] rfl ?_
      exact hx0 _ _ rfl
    · replace hF := q_f c10 hF
      refine g_bipush dX12_findFrom_80 lt_bipush_20 ?_
      refine g_iload_n 1 dX12_findFrom_82 rfl ?_
      refine g_iconst dX12_findFrom_83 lt_iconst_1 ?_
      refine g_iadd dX12_findFrom_84 ?_
      refine g_imul dX12_findFrom_85 ?_
      refine g_aload_n 0 dX12_findFrom_86 rfl ?_
      refine g_iload_n 2 dX12_findFrom_87 rfl ?_
      refine g_iload 5 dX12_findFrom_88 rfl ?_
      obtain ⟨u11, e12, hF⟩ := q_bind hF
      obtain ⟨x13, e14, hF⟩ := q_bind hF
      refine g_callVr0 (ci := 12) (q := (RX12, TX12, 49)) qm_X12_behind wd_1773 wd_1775 wd_104 rfl e12 (M_X12_behind l b D z nx e14) (As := [.int a2, .int a6]) rfl rfl (Nat.le_of_ble_eq_true rfl) ⟨(Nat.le_of_ble_eq_true rfl), (Nat.le_of_ble_eq_true rfl)⟩ ⟨rfl, rfl⟩ ⟨(Nat.le_of_ble_eq_true rfl), (Nat.le_of_ble_eq_true rfl)⟩ dX12_findFrom_90 ?_
      refine g_iadd dX12_findFrom_93 ?_
      refine g_istore [(7, .int (((20 : Int32) * (a1 + (1 : Int32))) + x13)), (0, .ref a0), (1, .int a1), (2, .int a2), (3, .long a3), (5, .int a5), (6, .int a6)] dX12_findFrom_94 (Nat.le_of_ble_eq_true rfl) rfl ?_
      refine g_lload_n 4 dX12_findFrom_96 rfl ?_
      refine g_aload_n 1 dX12_findFrom_97 rfl ?_
      obtain ⟨x15, e16, hF⟩ := q_bind hF
      refine g_getfR fl_X12_78 e16 dX12_findFrom_98 ?_
      refine g_iload 0 dX12_findFrom_101 rfl ?_
      obtain ⟨x17, e18, hF⟩ := q_bind hF
      refine g_lald e18 dX12_findFrom_103 ?_
      refine g_ladd dX12_findFrom_104 ?_
      refine g_lstore_n [(3, .long (a3 + x17)), (7, .int (((20 : Int32) * (a1 + (1 : Int32))) + x13)), (0, .ref a0), (1, .int a1), (2, .int a2), (5, .int a5), (6, .int a6)] dX12_findFrom_105 (Nat.le_of_ble_eq_true rfl) rfl ?_
      refine g_iload 5 dX12_findFrom_106 rfl ?_
      refine g_iload 6 dX12_findFrom_108 rfl ?_
      obtain ⟨x19, e20, hF⟩ := q_bind hF
      refine g_callSr0 qm_X12_strays wd_1888 wd_1889 (M_X12_strays l b D z nx e20) (As := [.int a6]) rfl rfl (Nat.le_of_ble_eq_true rfl) ⟨(Nat.le_of_ble_eq_true rfl), (Nat.le_of_ble_eq_true rfl)⟩ ⟨rfl, rfl⟩ ⟨(Nat.le_of_ble_eq_true rfl), (Nat.le_of_ble_eq_true rfl)⟩ dX12_findFrom_110 ?_
      refine g_aload_n 2 dX12_findFrom_113 rfl ?_
      obtain ⟨x21, e22, hF⟩ := q_bind hF
      refine g_getfR fl_X12_81 e22 dX12_findFrom_114 ?_
      refine g_iload 1 dX12_findFrom_117 rfl ?_
      obtain ⟨x23, e24, hF⟩ := q_bind hF
      refine g_iald e24 dX12_findFrom_119 ?_
      refine g_iadd dX12_findFrom_120 ?_
      obtain ⟨x25, e26, hF⟩ := q_bind hF
      refine g_callSr0 qm_X12_lesser wd_1891 wd_1892 (M_X12_lesser l b D z nx e26) (As := [.int a5, .int (x19 + x23)]) rfl rfl (Nat.le_of_ble_eq_true rfl) ⟨(Nat.le_of_ble_eq_true rfl), (Nat.le_of_ble_eq_true rfl)⟩ ⟨rfl, rfl⟩ ⟨(Nat.le_of_ble_eq_true rfl), (Nat.le_of_ble_eq_true rfl)⟩ dX12_findFrom_121 ?_
      refine g_istore [(5, .int x25), (3, .long (a3 + x17)), (7, .int (((20 : Int32) * (a1 + (1 : Int32))) + x13)), (0, .ref a0), (1, .int a1), (2, .int a2), (6, .int a6)] dX12_findFrom_124 (Nat.le_of_ble_eq_true rfl) rfl ?_
      refine g_iinc [(6, .int (a6 + 1)), (5, .int x25), (3, .long (a3 + x17)), (7, .int (((20 : Int32) * (a1 + (1 : Int32))) + x13)), (0, .ref a0), (1, .int a1), (2, .int a2)] 6 dX12_findFrom_126 rfl (congrArg (a6 + ·) lt_iconst_1) (Nat.le_of_ble_eq_true rfl) rfl ?_
      refine g_goto 59 dX12_findFrom_129 (by decide) ?_
      cases hF
      refine g_sub [4, 5, 6, 2, 1, 0] rfl ?_
      exact hback _ _ _ rfl
set_option maxRecDepth 100000 in
set_option maxHeartbeats 4000000 in
theorem L_X12_findFrom_59 (l : Launch) (b : Nat) (D : va_G) (z : Nat → Nat) {Φ : Option Value → qH → Nat → Prop} {nx : Nat} {h : qH} {a0 : Nat} {a1 : Int32} {a2 : Int32} : ∀ (n : Nat) (a3 : Int64) (a5 : Int32) (a6 : Int32) (e : (Int64 × Int32)), q_lp (s_X12_findFrom_59 h a0 a1 a2) n (a3, a5, a6) = some e → (∀ (b3 : Int64) (b5 : Int32), e = (b3, b5) → Go l b D z yX12_findFrom cX12_findFrom 8 none rm_X12_findFrom Φ 132 [(0, .ref a0), (1, .int a1), (2, .int a2), (3, .long b3), (5, .int b5)] [] h nx 0 0) → Go l b D z yX12_findFrom cX12_findFrom 8 none rm_X12_findFrom Φ 59 [(0, .ref a0), (1, .int a1), (2, .int a2), (3, .long a3), (5, .int a5), (6, .int a6)] [] h nx 0 0 := by
  intro n
  induction n with
  | zero => intro a3 a5 a6 e he; cases (show none = some e from he)
  | succ n ih =>
    intro a3 a5 a6 e he hx0
    obtain ⟨o, ho, h1, h2⟩ := q_lp_succ he
    exact B_X12_findFrom_59 l b D z (show b_X12_findFrom_59 h a0 a1 a2 a3 a5 a6 = some o from ho) (fun b3 b5 b6 hb => ih _ _ _ e (h1 _ hb) hx0) (fun p0 p1 hr => hx0 p0 p1 (h2 _ hr).symm)
set_option maxRecDepth 100000 in
set_option maxHeartbeats 4000000 in
theorem J_X12_findFrom_156 (l : Launch) (b : Nat) (D : va_G) (z : Nat → Nat) {Φ : Option Value → qH → Nat → Prop} {nx : Nat} {h : qH} {a0 : Nat} {a1 : Int32} {a2 : Int32} {a5 : Int32} {t0 : Int64} {t1 : Int32} {t2 : Nat} {o : (Int32 × qH) ⊕ qH} (hF : j_X12_findFrom_156 h a0 a1 a2 a5 t0 t1 t2 = some o) (hback : ∀ (b2 : Int32) (bh : qH), o = .inl (b2, bh) → Go l b D z yX12_findFrom cX12_findFrom 8 none rm_X12_findFrom Φ 13 [(0, .ref a0), (1, .int a1), (2, .int b2)] [] bh nx 0 0) (hx0 : ∀  (bh : qH), o = .inr bh → Go l b D z yX12_findFrom cX12_findFrom 8 none rm_X12_findFrom Φ 197 [(0, .ref a0), (1, .int a1)] [] bh nx 0 0) : Go l b D z yX12_findFrom cX12_findFrom 8 none rm_X12_findFrom Φ 156 [(0, .ref a0), (1, .int a1), (2, .int a2), (5, .int a5)] [.long t0, .int t1, .ref t2] h nx 0 0 := by
  unfold j_X12_findFrom_156 at hF
  obtain ⟨h1, e2, hF⟩ := q_bind hF
  refine g_last e2 dX12_findFrom_156 ?_
  refine g_aload_n 0 dX12_findFrom_157 rfl ?_
  obtain ⟨x3, e4, hF⟩ := q_bind hF
  refine g_getfR fl_X12_81 e4 dX12_findFrom_158 ?_
  refine g_bipush dX12_findFrom_161 lt_bipush_20 ?_
  refine g_iload_n 1 dX12_findFrom_163 rfl ?_
  refine g_imul dX12_findFrom_164 ?_
  refine g_iload_n 2 dX12_findFrom_165 rfl ?_
  refine g_iadd dX12_findFrom_166 ?_
  refine g_aload_n 0 dX12_findFrom_167 rfl ?_
  refine g_iload_n 1 dX12_findFrom_168 rfl ?_
  refine g_iload_n 2 dX12_findFrom_169 rfl ?_
  obtain ⟨u5, e6, hF⟩ := q_bind hF
  obtain ⟨x7, e8, hF⟩ := q_bind hF
  refine g_callVr0 (ci := 12) (q := (RX12, TX12, 49)) qm_X12_isHeard wd_1998 wd_2000 wd_141 rfl e6 (M_X12_isHeard l b D z nx e8) (As := [.int a1, .int a2]) rfl rfl (Nat.le_of_ble_eq_true rfl) ⟨(Nat.le_of_ble_eq_true rfl), (Nat.le_of_ble_eq_true rfl)⟩ ⟨rfl, rfl⟩ ⟨(Nat.le_of_ble_eq_true rfl), (Nat.le_of_ble_eq_true rfl)⟩ dX12_findFrom_170 ?_
  refine g_if_eq 187 dX12_findFrom_173 (by decide) (fun c9 => ?_) (fun c9 => ?_)
  · replace hF := q_t c9 hF
    refine g_ldcw dX12_findFrom_187 wd_1887 ?_
    obtain ⟨h10, e11, hF⟩ := q_bind hF
    refine g_iast e11 dX12_findFrom_190 ?_
    refine g_iinc [(2, .int (a2 + 1)), (0, .ref a0), (1, .int a1), (5, .int a5)] 2 dX12_findFrom_191 rfl (congrArg (a2 + ·) lt_iconst_1) (Nat.le_of_ble_eq_true rfl) rfl ?_
    refine g_goto 13 dX12_findFrom_194 (by decide) ?_
    cases hF
    refine g_sub [1, 2, 0] rfl ?_
    exact hback _ _ rfl
  · replace hF := q_f c9 hF
    refine g_iload 3 dX12_findFrom_176 rfl ?_
    refine g_ldcw dX12_findFrom_178 wd_1887 ?_
    obtain ⟨x12, e13, hF⟩ := q_bind hF
    refine g_callSr0 qm_X12_lesser wd_1891 wd_1892 (M_X12_lesser l b D z nx e13) (As := [.int a5, .int (1000000 : Int32)]) rfl rfl (Nat.le_of_ble_eq_true rfl) ⟨(Nat.le_of_ble_eq_true rfl), (Nat.le_of_ble_eq_true rfl)⟩ ⟨rfl, rfl⟩ ⟨(Nat.le_of_ble_eq_true rfl), (Nat.le_of_ble_eq_true rfl)⟩ dX12_findFrom_181 ?_
    refine g_goto 190 dX12_findFrom_184 (by decide) ?_
    obtain ⟨h14, e15, hF⟩ := q_bind hF
    refine g_iast e15 dX12_findFrom_190 ?_
    refine g_iinc [(2, .int (a2 + 1)), (0, .ref a0), (1, .int a1), (5, .int a5)] 2 dX12_findFrom_191 rfl (congrArg (a2 + ·) lt_iconst_1) (Nat.le_of_ble_eq_true rfl) rfl ?_
    refine g_goto 13 dX12_findFrom_194 (by decide) ?_
    cases hF
    refine g_sub [1, 2, 0] rfl ?_
    exact hback _ _ rfl
set_option maxRecDepth 100000 in
set_option maxHeartbeats 4000000 in
theorem J_X12_findFrom_132 (l : Launch) (b : Nat) (D : va_G) (z : Nat → Nat) {Φ : Option Value → qH → Nat → Prop} {nx : Nat} {h : qH} {a0 : Nat} {a1 : Int32} {a2 : Int32} {a3 : Int64} {a5 : Int32} {o : (Int32 × qH) ⊕ qH} (hF : j_X12_findFrom_132 h a0 a1 a2 a3 a5  = some o) (hback : ∀ (b2 : Int32) (bh : qH), o = .inl (b2, bh) → Go l b D z yX12_findFrom cX12_findFrom 8 none rm_X12_findFrom Φ 13 [(0, .ref a0), (1, .int a1), (2, .int b2)] [] bh nx 0 0) (hx0 : ∀  (bh : qH), o = .inr bh → Go l b D z yX12_findFrom cX12_findFrom 8 none rm_X12_findFrom Φ 197 [(0, .ref a0), (1, .int a1)] [] bh nx 0 0) : Go l b D z yX12_findFrom cX12_findFrom 8 none rm_X12_findFrom Φ 132 [(0, .ref a0), (1, .int a1), (2, .int a2), (3, .long a3), (5, .int a5)] [] h nx 0 0 := by
  unfold j_X12_findFrom_132 at hF
  refine g_aload_n 0 dX12_findFrom_132 rfl ?_
  obtain ⟨x1, e2, hF⟩ := q_bind hF
  refine g_getfR fl_X12_78 e2 dX12_findFrom_133 ?_
  refine g_bipush dX12_findFrom_136 lt_bipush_20 ?_
  refine g_iload_n 1 dX12_findFrom_138 rfl ?_
  refine g_imul dX12_findFrom_139 ?_
  refine g_iload_n 2 dX12_findFrom_140 rfl ?_
  refine g_iadd dX12_findFrom_141 ?_
  refine g_aload_n 0 dX12_findFrom_142 rfl ?_
  refine g_iload_n 1 dX12_findFrom_143 rfl ?_
  refine g_iload_n 2 dX12_findFrom_144 rfl ?_
  obtain ⟨u3, e4, hF⟩ := q_bind hF
  obtain ⟨x5, e6, hF⟩ := q_bind hF
  refine g_callVr0 (ci := 12) (q := (RX12, TX12, 49)) qm_X12_isHeard wd_1998 wd_2000 wd_141 rfl e4 (M_X12_isHeard l b D z nx e6) (As := [.int a1, .int a2]) rfl rfl (Nat.le_of_ble_eq_true rfl) ⟨(Nat.le_of_ble_eq_true rfl), (Nat.le_of_ble_eq_true rfl)⟩ ⟨rfl, rfl⟩ ⟨(Nat.le_of_ble_eq_true rfl), (Nat.le_of_ble_eq_true rfl)⟩ dX12_findFrom_145 ?_
  refine g_if_eq 155 dX12_findFrom_148 (by decide) (fun c7 => ?_) (fun c7 => ?_)
  · replace hF := q_t c7 hF
    refine g_lconst (v := 0) dX12_findFrom_155 (by decide +kernel) ?_
    refine g_sub [0, 1, 2, 4] rfl ?_
    exact J_X12_findFrom_156 l b D z hF hback hx0
  · replace hF := q_f c7 hF
    refine g_lload_n 3 dX12_findFrom_151 rfl ?_
    refine g_goto 156 dX12_findFrom_152 (by decide) ?_
    refine g_sub [0, 1, 2, 4] rfl ?_
    exact J_X12_findFrom_156 l b D z hF hback hx0
set_option maxRecDepth 100000 in
set_option maxHeartbeats 4000000 in
theorem J_X12_findFrom_54 (l : Launch) (b : Nat) (D : va_G) (z : Nat → Nat) {Φ : Option Value → qH → Nat → Prop} {nx : Nat} {h : qH} {a0 : Nat} {a1 : Int32} {a2 : Int32} {a3 : Int64} {t0 : Int32} {o : (Int32 × qH) ⊕ qH} (hF : j_X12_findFrom_54 h a0 a1 a2 a3 t0 = some o) (hback : ∀ (b2 : Int32) (bh : qH), o = .inl (b2, bh) → Go l b D z yX12_findFrom cX12_findFrom 8 none rm_X12_findFrom Φ 13 [(0, .ref a0), (1, .int a1), (2, .int b2)] [] bh nx 0 0) (hx0 : ∀  (bh : qH), o = .inr bh → Go l b D z yX12_findFrom cX12_findFrom 8 none rm_X12_findFrom Φ 197 [(0, .ref a0), (1, .int a1)] [] bh nx 0 0) : Go l b D z yX12_findFrom cX12_findFrom 8 none rm_X12_findFrom Φ 54 [(0, .ref a0), (1, .int a1), (2, .int a2), (3, .long a3)] [.int t0] h nx 0 0 := by
  unfold j_X12_findFrom_54 at hF
  refine g_istore [(5, .int t0), (0, .ref a0), (1, .int a1), (2, .int a2), (3, .long a3)] dX12_findFrom_54 (Nat.le_of_ble_eq_true rfl) rfl ?_
  refine g_iconst dX12_findFrom_56 lt_iconst_0 ?_
  refine g_istore [(6, .int (0 : Int32)), (5, .int t0), (0, .ref a0), (1, .int a1), (2, .int a2), (3, .long a3)] dX12_findFrom_57 (Nat.le_of_ble_eq_true rfl) rfl ?_
  obtain ⟨e1, w2, hF⟩ := q_bind hF
  refine g_sub [2, 3, 4, 5, 1, 0] rfl ?_
  refine L_X12_findFrom_59 l b D z q_N a3 t0 (0 : Int32) e1 w2 ?_
  · intro o3 o4 w5
    replace w5 := w5.symm
    subst w5
    dsimp only at hF
    exact J_X12_findFrom_132 l b D z hF hback hx0
set_option maxRecDepth 100000 in
set_option maxHeartbeats 4000000 in
theorem J_X12_findFrom_36 (l : Launch) (b : Nat) (D : va_G) (z : Nat → Nat) {Φ : Option Value → qH → Nat → Prop} {nx : Nat} {h : qH} {a0 : Nat} {a1 : Int32} {a2 : Int32} {t0 : Int64} {o : (Int32 × qH) ⊕ qH} (hF : j_X12_findFrom_36 h a0 a1 a2 t0 = some o) (hback : ∀ (b2 : Int32) (bh : qH), o = .inl (b2, bh) → Go l b D z yX12_findFrom cX12_findFrom 8 none rm_X12_findFrom Φ 13 [(0, .ref a0), (1, .int a1), (2, .int b2)] [] bh nx 0 0) (hx0 : ∀  (bh : qH), o = .inr bh → Go l b D z yX12_findFrom cX12_findFrom 8 none rm_X12_findFrom Φ 197 [(0, .ref a0), (1, .int a1)] [] bh nx 0 0) : Go l b D z yX12_findFrom cX12_findFrom 8 none rm_X12_findFrom Φ 36 [(0, .ref a0), (1, .int a1), (2, .int a2)] [.long t0] h nx 0 0 := by
  unfold j_X12_findFrom_36 at hF
  refine g_lstore_n [(3, .long t0), (0, .ref a0), (1, .int a1), (2, .int a2)] dX12_findFrom_36 (Nat.le_of_ble_eq_true rfl) rfl ?_
  refine g_iload_n 2 dX12_findFrom_37 rfl ?_
  refine g_aload_n 1 dX12_findFrom_38 rfl ?_
  obtain ⟨u1, e2, hF⟩ := q_bind hF
  obtain ⟨x3, e4, hF⟩ := q_bind hF
  refine g_callVr0 (ci := 12) (q := (RX12, TX12, 49)) qm_X12_voices wd_1977 wd_1979 wd_137 rfl e2 (M_X12_voices l b D z nx e4) (As := []) rfl rfl (Nat.le_of_ble_eq_true rfl) ⟨(Nat.le_of_ble_eq_true rfl), (Nat.le_of_ble_eq_true rfl)⟩ ⟨rfl, rfl⟩ ⟨(Nat.le_of_ble_eq_true rfl), (Nat.le_of_ble_eq_true rfl)⟩ dX12_findFrom_39 ?_
  refine g_iconst dX12_findFrom_42 lt_iconst_1 ?_
  refine g_isub dX12_findFrom_43 ?_
  refine g_icmp_ne 51 dX12_findFrom_44 (by decide) (fun c5 => ?_) (fun c5 => ?_)
  · replace hF := q_f c5 hF
    refine g_ldcw dX12_findFrom_51 wd_1887 ?_
    refine g_sub [1, 2, 3, 0] rfl ?_
    exact J_X12_findFrom_54 l b D z hF hback hx0
  · replace hF := q_t c5 hF
    refine g_iconst dX12_findFrom_47 lt_iconst_0 ?_
    refine g_goto 54 dX12_findFrom_48 (by decide) ?_
    refine g_sub [1, 2, 3, 0] rfl ?_
    exact J_X12_findFrom_54 l b D z hF hback hx0
set_option maxRecDepth 100000 in
set_option maxHeartbeats 4000000 in
theorem B_X12_findFrom_13 (l : Launch) (b : Nat) (D : va_G) (z : Nat → Nat) {Φ : Option Value → qH → Nat → Prop} {nx : Nat} {a0 : Nat} {a1 : Int32} {a2 : Int32} {h : qH} {o : (Int32 × qH) ⊕ qH} (hF : b_X12_findFrom_13 a0 a1 a2 h = some o) (hback : ∀ (b2 : Int32) (bh : qH), o = .inl (b2, bh) → Go l b D z yX12_findFrom cX12_findFrom 8 none rm_X12_findFrom Φ 13 [(0, .ref a0), (1, .int a1), (2, .int b2)] [] bh nx 0 0) (hx0 : ∀  (bh : qH), o = .inr bh → Go l b D z yX12_findFrom cX12_findFrom 8 none rm_X12_findFrom Φ 197 [(0, .ref a0), (1, .int a1)] [] bh nx 0 0) : Go l b D z yX12_findFrom cX12_findFrom 8 none rm_X12_findFrom Φ 13 [(0, .ref a0), (1, .int a1), (2, .int a2)] [] h nx 0 0 := by
  unfold b_X12_findFrom_13 at hF
  refine g_iload_n 2 dX12_findFrom_13 rfl ?_
  refine g_aload_n 0 dX12_findFrom_14 rfl ?_
  obtain ⟨x1, e2, hF⟩ := q_bind hF
  refine g_getfI fl_X12_276 e2 dX12_findFrom_15 ?_
  refine g_icmp_ge 197 dX12_findFrom_18 (by decide) (fun c3 => ?_) (fun c3 => ?_)
  · replace hF := q_t c3 hF
    cases hF
    refine g_sub [0, 1] rfl ?_
    exact hx0 _ rfl
  · replace hF := q_f c3 hF
    refine g_iload_n 1 dX12_findFrom_21 rfl ?_
    refine g_aload_n 0 dX12_findFrom_22 rfl ?_
    obtain ⟨u4, e5, hF⟩ := q_bind hF
    obtain ⟨x6, e7, hF⟩ := q_bind hF
    refine g_callVr0 (ci := 12) (q := (RX12, TX12, 49)) qm_X12_voices wd_1977 wd_1979 wd_137 rfl e5 (M_X12_voices l b D z nx e7) (As := []) rfl rfl (Nat.le_of_ble_eq_true rfl) ⟨(Nat.le_of_ble_eq_true rfl), (Nat.le_of_ble_eq_true rfl)⟩ ⟨rfl, rfl⟩ ⟨(Nat.le_of_ble_eq_true rfl), (Nat.le_of_ble_eq_true rfl)⟩ dX12_findFrom_23 ?_
    refine g_iconst dX12_findFrom_26 lt_iconst_1 ?_
    refine g_isub dX12_findFrom_27 ?_
    refine g_icmp_ne 35 dX12_findFrom_28 (by decide) (fun c8 => ?_) (fun c8 => ?_)
    · replace hF := q_f c8 hF
      refine g_lconst (v := 0) dX12_findFrom_35 (by decide +kernel) ?_
      exact J_X12_findFrom_36 l b D z hF hback hx0
    · replace hF := q_t c8 hF
      refine g_lconst (v := 1) dX12_findFrom_31 (by decide +kernel) ?_
      refine g_goto 36 dX12_findFrom_32 (by decide) ?_
      exact J_X12_findFrom_36 l b D z hF hback hx0
set_option maxRecDepth 100000 in
set_option maxHeartbeats 4000000 in
theorem L_X12_findFrom_13 (l : Launch) (b : Nat) (D : va_G) (z : Nat → Nat) {Φ : Option Value → qH → Nat → Prop} {nx : Nat} {a0 : Nat} {a1 : Int32} : ∀ (n : Nat) (a2 : Int32) (h : qH) (e : qH), q_lp (s_X12_findFrom_13 a0 a1) n (a2, h) = some e → (∀  (bh : qH), e = bh → Go l b D z yX12_findFrom cX12_findFrom 8 none rm_X12_findFrom Φ 197 [(0, .ref a0), (1, .int a1)] [] bh nx 0 0) → Go l b D z yX12_findFrom cX12_findFrom 8 none rm_X12_findFrom Φ 13 [(0, .ref a0), (1, .int a1), (2, .int a2)] [] h nx 0 0 := by
  intro n
  induction n with
  | zero => intro a2 h e he; cases (show none = some e from he)
  | succ n ih =>
    intro a2 h e he hx0
    obtain ⟨o, ho, h1, h2⟩ := q_lp_succ he
    exact B_X12_findFrom_13 l b D z (show b_X12_findFrom_13 a0 a1 a2 h = some o from ho) (fun b2 bh hb => ih _ _ e (h1 _ hb) hx0) (fun p0 hr => hx0 p0 (h2 _ hr).symm)
set_option maxRecDepth 100000 in
set_option maxHeartbeats 4000000 in
theorem B_X12_findFrom_7 (l : Launch) (b : Nat) (D : va_G) (z : Nat → Nat) {Φ : Option Value → qH → Nat → Prop} {nx : Nat} {a0 : Nat} {a1 : Int32} {h : qH} {o : (Int32 × qH) ⊕ qH} (hF : b_X12_findFrom_7 a0 a1 h = some o) (hback : ∀ (b1 : Int32) (bh : qH), o = .inl (b1, bh) → Go l b D z yX12_findFrom cX12_findFrom 8 none rm_X12_findFrom Φ 7 [(0, .ref a0), (1, .int b1)] [] bh nx 0 0) (hx0 : ∀  (bh : qH), o = .inr bh → Go l b D z yX12_findFrom cX12_findFrom 8 none rm_X12_findFrom Φ 203 [] [] bh nx 0 0) : Go l b D z yX12_findFrom cX12_findFrom 8 none rm_X12_findFrom Φ 7 [(0, .ref a0), (1, .int a1)] [] h nx 0 0 := by
  unfold b_X12_findFrom_7 at hF
  refine g_iload_n 1 dX12_findFrom_7 rfl ?_
  refine g_if_lt 203 dX12_findFrom_8 (by decide) (fun c1 => ?_) (fun c1 => ?_)
  · replace hF := q_t c1 hF
    cases hF
    refine g_sub [] rfl ?_
    exact hx0 _ rfl
  · replace hF := q_f c1 hF
    refine g_iconst dX12_findFrom_11 lt_iconst_0 ?_
    refine g_istore_n [(2, .int (0 : Int32)), (0, .ref a0), (1, .int a1)] dX12_findFrom_12 (Nat.le_of_ble_eq_true rfl) rfl ?_
    obtain ⟨e2, w3, hF⟩ := q_bind hF
    refine g_sub [1, 2, 0] rfl ?_
    refine L_X12_findFrom_13 l b D z q_N (0 : Int32) h e2 w3 ?_
    · intro h4 w5
      replace w5 := w5.symm
      subst w5
      refine g_iinc [(1, .int (a1 + (-1))), (0, .ref a0)] 1 dX12_findFrom_197 rfl (congrArg (a1 + ·) lt_iconst_m1) (Nat.le_of_ble_eq_true rfl) rfl ?_
      refine g_goto 7 dX12_findFrom_200 (by decide) ?_
      cases hF
      refine g_sub [1, 0] rfl ?_
      exact hback _ _ rfl
set_option maxRecDepth 100000 in
set_option maxHeartbeats 4000000 in
theorem L_X12_findFrom_7 (l : Launch) (b : Nat) (D : va_G) (z : Nat → Nat) {Φ : Option Value → qH → Nat → Prop} {nx : Nat} {a0 : Nat} : ∀ (n : Nat) (a1 : Int32) (h : qH) (e : qH), q_lp (s_X12_findFrom_7 a0) n (a1, h) = some e → (∀  (bh : qH), e = bh → Go l b D z yX12_findFrom cX12_findFrom 8 none rm_X12_findFrom Φ 203 [] [] bh nx 0 0) → Go l b D z yX12_findFrom cX12_findFrom 8 none rm_X12_findFrom Φ 7 [(0, .ref a0), (1, .int a1)] [] h nx 0 0 := by
  intro n
  induction n with
  | zero => intro a1 h e he; cases (show none = some e from he)
  | succ n ih =>
    intro a1 h e he hx0
    obtain ⟨o, ho, h1, h2⟩ := q_lp_succ he
    exact B_X12_findFrom_7 l b D z (show b_X12_findFrom_7 a0 a1 h = some o from ho) (fun b1 bh hb => ih _ _ e (h1 _ hb) hx0) (fun p0 hr => hx0 p0 (h2 _ hr).symm)
set_option maxRecDepth 100000 in
set_option maxHeartbeats 4000000 in
theorem M_X12_findFrom (l : Launch) (b : Nat) (D : va_G) (z : Nat → Nat) (nx : Nat) {h : qH} {a0 : Nat} {r : qH} (hF : F_X12_findFrom h a0 = some r) : Me l b D z yX12_findFrom cX12_findFrom 8 none rm_X12_findFrom [.ref a0] h nx (qE none r nx) := by
  refine Me.of (by decide +kernel) (Nat.le_of_ble_eq_true rfl) ?_
  show Go l b D z yX12_findFrom cX12_findFrom 8 none rm_X12_findFrom (qE none r nx) 0 [(0, .ref a0)] [] h nx 0 0
  unfold F_X12_findFrom at hF
  refine g_aload_n 0 dX12_findFrom_0 rfl ?_
  obtain ⟨u1, e2, hF⟩ := q_bind hF
  obtain ⟨x3, e4, hF⟩ := q_bind hF
  refine g_callVr0 (ci := 12) (q := (RX12, TX12, 49)) qm_X12_voices wd_1977 wd_1979 wd_137 rfl e2 (M_X12_voices l b D z nx e4) (As := []) rfl rfl (Nat.le_of_ble_eq_true rfl) ⟨(Nat.le_of_ble_eq_true rfl), (Nat.le_of_ble_eq_true rfl)⟩ ⟨rfl, rfl⟩ ⟨(Nat.le_of_ble_eq_true rfl), (Nat.le_of_ble_eq_true rfl)⟩ dX12_findFrom_1 ?_
  refine g_iconst dX12_findFrom_4 lt_iconst_1 ?_
  refine g_isub dX12_findFrom_5 ?_
  refine g_istore_n [(1, .int (x3 - (1 : Int32))), (0, .ref a0)] dX12_findFrom_6 (Nat.le_of_ble_eq_true rfl) rfl ?_
  obtain ⟨e5, w6, hF⟩ := q_bind hF
  refine g_sub [1, 0] rfl ?_
  refine L_X12_findFrom_7 l b D z q_N (x3 - (1 : Int32)) h e5 w6 ?_
  · intro h7 w8
    replace w8 := w8.symm
    subst w8
    cases hF
    exact g_vret dX12_findFrom_203 rfl ⟨rfl, rfl, rfl⟩ (Nat.le_of_ble_eq_true rfl) (Nat.le_of_ble_eq_true rfl)
def rm_X12_findUpTo : Room := { frames := 3, cells := 0, slots := 0, locals := 64 }
set_option maxRecDepth 100000 in
set_option maxHeartbeats 4000000 in
theorem B_X12_findUpTo_2 (l : Launch) (b : Nat) (D : va_G) (z : Nat → Nat) {Φ : Option Value → qH → Nat → Prop} {nx : Nat} {a0 : Nat} {a1 : Int32} {h : qH} {o : (Int32 × qH) ⊕ qH} (hF : b_X12_findUpTo_2 a0 a1 h = some o) (hback : ∀ (b1 : Int32) (bh : qH), o = .inl (b1, bh) → Go l b D z yX12_findUpTo cX12_findUpTo 4 none rm_X12_findUpTo Φ 2 [(0, .ref a0), (1, .int b1)] [] bh nx 0 0) (hx0 : ∀  (bh : qH), o = .inr bh → Go l b D z yX12_findUpTo cX12_findUpTo 4 none rm_X12_findUpTo Φ 22 [(0, .ref a0)] [] bh nx 0 0) : Go l b D z yX12_findUpTo cX12_findUpTo 4 none rm_X12_findUpTo Φ 2 [(0, .ref a0), (1, .int a1)] [] h nx 0 0 := by
  unfold b_X12_findUpTo_2 at hF
  refine g_iload_n 1 dX12_findUpTo_2 rfl ?_
  refine g_sipush dX12_findUpTo_3 lt_sipush_240 ?_
  refine g_icmp_ge 22 dX12_findUpTo_6 (by decide) (fun c1 => ?_) (fun c1 => ?_)
  · replace hF := q_t c1 hF
    cases hF
    refine g_sub [0] rfl ?_
    exact hx0 _ rfl
  · replace hF := q_f c1 hF
    refine g_aload_n 0 dX12_findUpTo_9 rfl ?_
    obtain ⟨x2, e3, hF⟩ := q_bind hF
    refine g_getfR fl_X12_75 e3 dX12_findUpTo_10 ?_
    refine g_iload_n 1 dX12_findUpTo_13 rfl ?_
    refine g_lconst (v := 0) dX12_findUpTo_14 (by decide +kernel) ?_
    obtain ⟨h4, e5, hF⟩ := q_bind hF
    refine g_last e5 dX12_findUpTo_15 ?_
    refine g_iinc [(1, .int (a1 + 1)), (0, .ref a0)] 1 dX12_findUpTo_16 rfl (congrArg (a1 + ·) lt_iconst_1) (Nat.le_of_ble_eq_true rfl) rfl ?_
    refine g_goto 2 dX12_findUpTo_19 (by decide) ?_
    cases hF
    refine g_sub [1, 0] rfl ?_
    exact hback _ _ rfl
set_option maxRecDepth 100000 in
set_option maxHeartbeats 4000000 in
theorem L_X12_findUpTo_2 (l : Launch) (b : Nat) (D : va_G) (z : Nat → Nat) {Φ : Option Value → qH → Nat → Prop} {nx : Nat} {a0 : Nat} : ∀ (n : Nat) (a1 : Int32) (h : qH) (e : qH), q_lp (s_X12_findUpTo_2 a0) n (a1, h) = some e → (∀  (bh : qH), e = bh → Go l b D z yX12_findUpTo cX12_findUpTo 4 none rm_X12_findUpTo Φ 22 [(0, .ref a0)] [] bh nx 0 0) → Go l b D z yX12_findUpTo cX12_findUpTo 4 none rm_X12_findUpTo Φ 2 [(0, .ref a0), (1, .int a1)] [] h nx 0 0 := by
  intro n
  induction n with
  | zero => intro a1 h e he; cases (show none = some e from he)
  | succ n ih =>
    intro a1 h e he hx0
    obtain ⟨o, ho, h1, h2⟩ := q_lp_succ he
    exact B_X12_findUpTo_2 l b D z (show b_X12_findUpTo_2 a0 a1 h = some o from ho) (fun b1 bh hb => ih _ _ e (h1 _ hb) hx0) (fun p0 hr => hx0 p0 (h2 _ hr).symm)
set_option maxRecDepth 100000 in
set_option maxHeartbeats 4000000 in
theorem B_X12_findUpTo_97 (l : Launch) (b : Nat) (D : va_G) (z : Nat → Nat) {Φ : Option Value → qH → Nat → Prop} {nx : Nat} {a0 : Nat} {a1 : Int32} {a2 : Int32} {a3 : Int32} {h : qH} {o : (Int32 × qH) ⊕ qH} (hF : b_X12_findUpTo_97 a0 a1 a2 a3 h = some o) (hback : ∀ (b3 : Int32) (bh : qH), o = .inl (b3, bh) → Go l b D z yX12_findUpTo cX12_findUpTo 4 none rm_X12_findUpTo Φ 97 [(0, .ref a0), (1, .int a1), (2, .int a2), (3, .int b3)] [] bh nx 0 0) (hx0 : ∀  (bh : qH), o = .inr bh → Go l b D z yX12_findUpTo cX12_findUpTo 4 none rm_X12_findUpTo Φ 155 [(0, .ref a0), (1, .int a1), (2, .int a2)] [] bh nx 0 0) : Go l b D z yX12_findUpTo cX12_findUpTo 4 none rm_X12_findUpTo Φ 97 [(0, .ref a0), (1, .int a1), (2, .int a2), (3, .int a3)] [] h nx 0 0 := by
  unfold b_X12_findUpTo_97 at hF
  refine g_iload_n 3 dX12_findUpTo_97 rfl ?_
  refine g_aload_n 0 dX12_findUpTo_98 rfl ?_
  obtain ⟨x1, e2, hF⟩ := q_bind hF
  refine g_getfR fl_X12_47 e2 dX12_findUpTo_99 ?_
  refine g_iload_n 2 dX12_findUpTo_102 rfl ?_
  obtain ⟨x3, e4, hF⟩ := q_bind hF
  refine g_iald e4 dX12_findUpTo_103 ?_
  refine g_icmp_ge 155 dX12_findUpTo_104 (by decide) (fun c5 => ?_) (fun c5 => ?_)
  · replace hF := q_t c5 hF
    cases hF
    refine g_sub [0, 1, 2] rfl ?_
    exact hx0 _ rfl
  · replace hF := q_f c5 hF
    refine g_iload_n 1 dX12_findUpTo_107 rfl ?_
    refine g_aload_n 0 dX12_findUpTo_108 rfl ?_
    obtain ⟨u6, e7, hF⟩ := q_bind hF
    obtain ⟨x8, e9, hF⟩ := q_bind hF
    refine g_callVr0 (ci := 12) (q := (RX12, TX12, 49)) qm_X12_voices wd_1977 wd_1979 wd_137 rfl e7 (M_X12_voices l b D z nx e9) (As := []) rfl rfl (Nat.le_of_ble_eq_true rfl) ⟨(Nat.le_of_ble_eq_true rfl), (Nat.le_of_ble_eq_true rfl)⟩ ⟨rfl, rfl⟩ ⟨(Nat.le_of_ble_eq_true rfl), (Nat.le_of_ble_eq_true rfl)⟩ dX12_findUpTo_109 ?_
    refine g_iconst dX12_findUpTo_112 lt_iconst_1 ?_
    refine g_isub dX12_findUpTo_113 ?_
    refine g_icmp_ge 155 dX12_findUpTo_114 (by decide) (fun c10 => ?_) (fun c10 => ?_)
    · replace hF := q_t c10 hF
      cases hF
      refine g_sub [0, 1, 2] rfl ?_
      exact hx0 _ rfl
    · replace hF := q_f c10 hF
      refine g_aload_n 0 dX12_findUpTo_117 rfl ?_
      obtain ⟨x11, e12, hF⟩ := q_bind hF
      refine g_getfR fl_X12_75 e12 dX12_findUpTo_118 ?_
      refine g_bipush dX12_findUpTo_121 lt_bipush_20 ?_
      refine g_iload_n 1 dX12_findUpTo_123 rfl ?_
      refine g_iconst dX12_findUpTo_124 lt_iconst_1 ?_
      refine g_iadd dX12_findUpTo_125 ?_
      refine g_imul dX12_findUpTo_126 ?_
      refine g_aload_n 0 dX12_findUpTo_127 rfl ?_
      refine g_iload_n 2 dX12_findUpTo_128 rfl ?_
      refine g_iload_n 3 dX12_findUpTo_129 rfl ?_
      obtain ⟨u13, e14, hF⟩ := q_bind hF
      obtain ⟨x15, e16, hF⟩ := q_bind hF
      refine g_callVr0 (ci := 12) (q := (RX12, TX12, 49)) qm_X12_behind wd_1773 wd_1775 wd_104 rfl e14 (M_X12_behind l b D z nx e16) (As := [.int a2, .int a3]) rfl rfl (Nat.le_of_ble_eq_true rfl) ⟨(Nat.le_of_ble_eq_true rfl), (Nat.le_of_ble_eq_true rfl)⟩ ⟨rfl, rfl⟩ ⟨(Nat.le_of_ble_eq_true rfl), (Nat.le_of_ble_eq_true rfl)⟩ dX12_findUpTo_130 ?_
      refine g_iadd dX12_findUpTo_133 ?_
      refine g_dup2 dX12_findUpTo_134 rfl rfl ?_
      obtain ⟨x17, e18, hF⟩ := q_bind hF
      refine g_lald e18 dX12_findUpTo_135 ?_
      refine g_aload_n 0 dX12_findUpTo_136 rfl ?_
      obtain ⟨x19, e20, hF⟩ := q_bind hF
      refine g_getfR fl_X12_75 e20 dX12_findUpTo_137 ?_
      refine g_bipush dX12_findUpTo_140 lt_bipush_20 ?_
      refine g_iload_n 1 dX12_findUpTo_142 rfl ?_
      refine g_imul dX12_findUpTo_143 ?_
      refine g_iload_n 2 dX12_findUpTo_144 rfl ?_
      refine g_iadd dX12_findUpTo_145 ?_
      obtain ⟨x21, e22, hF⟩ := q_bind hF
      refine g_lald e22 dX12_findUpTo_146 ?_
      refine g_ladd dX12_findUpTo_147 ?_
      obtain ⟨h23, e24, hF⟩ := q_bind hF
      refine g_last e24 dX12_findUpTo_148 ?_
      refine g_iinc [(3, .int (a3 + 1)), (0, .ref a0), (1, .int a1), (2, .int a2)] 3 dX12_findUpTo_149 rfl (congrArg (a3 + ·) lt_iconst_1) (Nat.le_of_ble_eq_true rfl) rfl ?_
      refine g_goto 97 dX12_findUpTo_152 (by decide) ?_
      cases hF
      refine g_sub [1, 2, 3, 0] rfl ?_
      exact hback _ _ rfl
set_option maxRecDepth 100000 in
set_option maxHeartbeats 4000000 in
theorem L_X12_findUpTo_97 (l : Launch) (b : Nat) (D : va_G) (z : Nat → Nat) {Φ : Option Value → qH → Nat → Prop} {nx : Nat} {a0 : Nat} {a1 : Int32} {a2 : Int32} : ∀ (n : Nat) (a3 : Int32) (h : qH) (e : qH), q_lp (s_X12_findUpTo_97 a0 a1 a2) n (a3, h) = some e → (∀  (bh : qH), e = bh → Go l b D z yX12_findUpTo cX12_findUpTo 4 none rm_X12_findUpTo Φ 155 [(0, .ref a0), (1, .int a1), (2, .int a2)] [] bh nx 0 0) → Go l b D z yX12_findUpTo cX12_findUpTo 4 none rm_X12_findUpTo Φ 97 [(0, .ref a0), (1, .int a1), (2, .int a2), (3, .int a3)] [] h nx 0 0 := by
  intro n
  induction n with
  | zero => intro a3 h e he; cases (show none = some e from he)
  | succ n ih =>
    intro a3 h e he hx0
    obtain ⟨o, ho, h1, h2⟩ := q_lp_succ he
    exact B_X12_findUpTo_97 l b D z (show b_X12_findUpTo_97 a0 a1 a2 a3 h = some o from ho) (fun b3 bh hb => ih _ _ e (h1 _ hb) hx0) (fun p0 hr => hx0 p0 (h2 _ hr).symm)
set_option maxRecDepth 100000 in
set_option maxHeartbeats 4000000 in
theorem J_X12_findUpTo_94 (l : Launch) (b : Nat) (D : va_G) (z : Nat → Nat) {Φ : Option Value → qH → Nat → Prop} {nx : Nat} {h : qH} {a0 : Nat} {a1 : Int32} {a2 : Int32} {t0 : Int64} {t1 : Int32} {t2 : Nat} {o : (Int32 × qH) ⊕ qH} (hF : j_X12_findUpTo_94 h a0 a1 a2 t0 t1 t2 = some o) (hback : ∀ (b2 : Int32) (bh : qH), o = .inl (b2, bh) → Go l b D z yX12_findUpTo cX12_findUpTo 4 none rm_X12_findUpTo Φ 52 [(0, .ref a0), (1, .int a1), (2, .int b2)] [] bh nx 0 0) (hx0 : ∀  (bh : qH), o = .inr bh → Go l b D z yX12_findUpTo cX12_findUpTo 4 none rm_X12_findUpTo Φ 161 [(0, .ref a0), (1, .int a1)] [] bh nx 0 0) : Go l b D z yX12_findUpTo cX12_findUpTo 4 none rm_X12_findUpTo Φ 94 [(0, .ref a0), (1, .int a1), (2, .int a2)] [.long t0, .int t1, .ref t2] h nx 0 0 := by
  unfold j_X12_findUpTo_94 at hF
  obtain ⟨h1, e2, hF⟩ := q_bind hF
  refine g_last e2 dX12_findUpTo_94 ?_
  refine g_iconst dX12_findUpTo_95 lt_iconst_0 ?_
  refine g_istore_n [(3, .int (0 : Int32)), (0, .ref a0), (1, .int a1), (2, .int a2)] dX12_findUpTo_96 (Nat.le_of_ble_eq_true rfl) rfl ?_
  obtain ⟨e3, w4, hF⟩ := q_bind hF
  refine g_sub [1, 2, 3, 0] rfl ?_
  refine L_X12_findUpTo_97 l b D z q_N (0 : Int32) h1 e3 w4 ?_
  · intro h5 w6
    replace w6 := w6.symm
    subst w6
    refine g_iinc [(2, .int (a2 + 1)), (0, .ref a0), (1, .int a1)] 2 dX12_findUpTo_155 rfl (congrArg (a2 + ·) lt_iconst_1) (Nat.le_of_ble_eq_true rfl) rfl ?_
    refine g_goto 52 dX12_findUpTo_158 (by decide) ?_
    cases hF
    refine g_sub [1, 2, 0] rfl ?_
    exact hback _ _ rfl
set_option maxRecDepth 100000 in
set_option maxHeartbeats 4000000 in
theorem B_X12_findUpTo_52 (l : Launch) (b : Nat) (D : va_G) (z : Nat → Nat) {Φ : Option Value → qH → Nat → Prop} {nx : Nat} {a0 : Nat} {a1 : Int32} {a2 : Int32} {h : qH} {o : (Int32 × qH) ⊕ qH} (hF : b_X12_findUpTo_52 a0 a1 a2 h = some o) (hback : ∀ (b2 : Int32) (bh : qH), o = .inl (b2, bh) → Go l b D z yX12_findUpTo cX12_findUpTo 4 none rm_X12_findUpTo Φ 52 [(0, .ref a0), (1, .int a1), (2, .int b2)] [] bh nx 0 0) (hx0 : ∀  (bh : qH), o = .inr bh → Go l b D z yX12_findUpTo cX12_findUpTo 4 none rm_X12_findUpTo Φ 161 [(0, .ref a0), (1, .int a1)] [] bh nx 0 0) : Go l b D z yX12_findUpTo cX12_findUpTo 4 none rm_X12_findUpTo Φ 52 [(0, .ref a0), (1, .int a1), (2, .int a2)] [] h nx 0 0 := by
  unfold b_X12_findUpTo_52 at hF
  refine g_iload_n 2 dX12_findUpTo_52 rfl ?_
  refine g_aload_n 0 dX12_findUpTo_53 rfl ?_
  obtain ⟨x1, e2, hF⟩ := q_bind hF
  refine g_getfI fl_X12_276 e2 dX12_findUpTo_54 ?_
  refine g_icmp_ge 161 dX12_findUpTo_57 (by decide) (fun c3 => ?_) (fun c3 => ?_)
  · replace hF := q_t c3 hF
    cases hF
    refine g_sub [0, 1] rfl ?_
    exact hx0 _ rfl
  · replace hF := q_f c3 hF
    refine g_aload_n 0 dX12_findUpTo_60 rfl ?_
    obtain ⟨x4, e5, hF⟩ := q_bind hF
    refine g_getfR fl_X12_75 e5 dX12_findUpTo_61 ?_
    refine g_bipush dX12_findUpTo_64 lt_bipush_20 ?_
    refine g_iload_n 1 dX12_findUpTo_66 rfl ?_
    refine g_imul dX12_findUpTo_67 ?_
    refine g_iload_n 2 dX12_findUpTo_68 rfl ?_
    refine g_iadd dX12_findUpTo_69 ?_
    refine g_aload_n 0 dX12_findUpTo_70 rfl ?_
    refine g_iload_n 1 dX12_findUpTo_71 rfl ?_
    refine g_iload_n 2 dX12_findUpTo_72 rfl ?_
    obtain ⟨u6, e7, hF⟩ := q_bind hF
    obtain ⟨x8, e9, hF⟩ := q_bind hF
    refine g_callVr0 (ci := 12) (q := (RX12, TX12, 49)) qm_X12_isHeard wd_1998 wd_2000 wd_141 rfl e7 (M_X12_isHeard l b D z nx e9) (As := [.int a1, .int a2]) rfl rfl (Nat.le_of_ble_eq_true rfl) ⟨(Nat.le_of_ble_eq_true rfl), (Nat.le_of_ble_eq_true rfl)⟩ ⟨rfl, rfl⟩ ⟨(Nat.le_of_ble_eq_true rfl), (Nat.le_of_ble_eq_true rfl)⟩ dX12_findUpTo_73 ?_
    refine g_if_eq 93 dX12_findUpTo_76 (by decide) (fun c10 => ?_) (fun c10 => ?_)
    · replace hF := q_t c10 hF
      refine g_lconst (v := 0) dX12_findUpTo_93 (by decide +kernel) ?_
      exact J_X12_findUpTo_94 l b D z hF hback hx0
    · replace hF := q_f c10 hF
      refine g_aload_n 0 dX12_findUpTo_79 rfl ?_
      obtain ⟨x11, e12, hF⟩ := q_bind hF
      refine g_getfR fl_X12_75 e12 dX12_findUpTo_80 ?_
      refine g_bipush dX12_findUpTo_83 lt_bipush_20 ?_
      refine g_iload_n 1 dX12_findUpTo_85 rfl ?_
      refine g_imul dX12_findUpTo_86 ?_
      refine g_iload_n 2 dX12_findUpTo_87 rfl ?_
      refine g_iadd dX12_findUpTo_88 ?_
      obtain ⟨x13, e14, hF⟩ := q_bind hF
      refine g_lald e14 dX12_findUpTo_89 ?_
      refine g_goto 94 dX12_findUpTo_90 (by decide) ?_
      exact J_X12_findUpTo_94 l b D z hF hback hx0
set_option maxRecDepth 100000 in
set_option maxHeartbeats 4000000 in
theorem L_X12_findUpTo_52 (l : Launch) (b : Nat) (D : va_G) (z : Nat → Nat) {Φ : Option Value → qH → Nat → Prop} {nx : Nat} {a0 : Nat} {a1 : Int32} : ∀ (n : Nat) (a2 : Int32) (h : qH) (e : qH), q_lp (s_X12_findUpTo_52 a0 a1) n (a2, h) = some e → (∀  (bh : qH), e = bh → Go l b D z yX12_findUpTo cX12_findUpTo 4 none rm_X12_findUpTo Φ 161 [(0, .ref a0), (1, .int a1)] [] bh nx 0 0) → Go l b D z yX12_findUpTo cX12_findUpTo 4 none rm_X12_findUpTo Φ 52 [(0, .ref a0), (1, .int a1), (2, .int a2)] [] h nx 0 0 := by
  intro n
  induction n with
  | zero => intro a2 h e he; cases (show none = some e from he)
  | succ n ih =>
    intro a2 h e he hx0
    obtain ⟨o, ho, h1, h2⟩ := q_lp_succ he
    exact B_X12_findUpTo_52 l b D z (show b_X12_findUpTo_52 a0 a1 a2 h = some o from ho) (fun b2 bh hb => ih _ _ e (h1 _ hb) hx0) (fun p0 hr => hx0 p0 (h2 _ hr).symm)
set_option maxRecDepth 100000 in
set_option maxHeartbeats 4000000 in
theorem J_X12_findUpTo_50 (l : Launch) (b : Nat) (D : va_G) (z : Nat → Nat) {Φ : Option Value → qH → Nat → Prop} {nx : Nat} {h : qH} {a0 : Nat} {a1 : Int32} {o : (Int32 × qH) ⊕ qH} (hF : j_X12_findUpTo_50 h a0 a1  = some o) (hback : ∀ (b1 : Int32) (bh : qH), o = .inl (b1, bh) → Go l b D z yX12_findUpTo cX12_findUpTo 4 none rm_X12_findUpTo Φ 24 [(0, .ref a0), (1, .int b1)] [] bh nx 0 0) (hx0 : ∀  (bh : qH), o = .inr bh → Go l b D z yX12_findUpTo cX12_findUpTo 4 none rm_X12_findUpTo Φ 167 [] [] bh nx 0 0) : Go l b D z yX12_findUpTo cX12_findUpTo 4 none rm_X12_findUpTo Φ 50 [(0, .ref a0), (1, .int a1)] [] h nx 0 0 := by
  unfold j_X12_findUpTo_50 at hF
  refine g_iconst dX12_findUpTo_50 lt_iconst_0 ?_
  refine g_istore_n [(2, .int (0 : Int32)), (0, .ref a0), (1, .int a1)] dX12_findUpTo_51 (Nat.le_of_ble_eq_true rfl) rfl ?_
  obtain ⟨e1, w2, hF⟩ := q_bind hF
  refine g_sub [1, 2, 0] rfl ?_
  refine L_X12_findUpTo_52 l b D z q_N (0 : Int32) h e1 w2 ?_
  · intro h3 w4
    replace w4 := w4.symm
    subst w4
    refine g_iinc [(1, .int (a1 + 1)), (0, .ref a0)] 1 dX12_findUpTo_161 rfl (congrArg (a1 + ·) lt_iconst_1) (Nat.le_of_ble_eq_true rfl) rfl ?_
    refine g_goto 24 dX12_findUpTo_164 (by decide) ?_
    cases hF
    refine g_sub [1, 0] rfl ?_
    exact hback _ _ rfl
set_option maxRecDepth 100000 in
set_option maxHeartbeats 4000000 in
theorem B_X12_findUpTo_24 (l : Launch) (b : Nat) (D : va_G) (z : Nat → Nat) {Φ : Option Value → qH → Nat → Prop} {nx : Nat} {a0 : Nat} {a1 : Int32} {h : qH} {o : (Int32 × qH) ⊕ qH} (hF : b_X12_findUpTo_24 a0 a1 h = some o) (hback : ∀ (b1 : Int32) (bh : qH), o = .inl (b1, bh) → Go l b D z yX12_findUpTo cX12_findUpTo 4 none rm_X12_findUpTo Φ 24 [(0, .ref a0), (1, .int b1)] [] bh nx 0 0) (hx0 : ∀  (bh : qH), o = .inr bh → Go l b D z yX12_findUpTo cX12_findUpTo 4 none rm_X12_findUpTo Φ 167 [] [] bh nx 0 0) : Go l b D z yX12_findUpTo cX12_findUpTo 4 none rm_X12_findUpTo Φ 24 [(0, .ref a0), (1, .int a1)] [] h nx 0 0 := by
  unfold b_X12_findUpTo_24 at hF
  refine g_iload_n 1 dX12_findUpTo_24 rfl ?_
  refine g_aload_n 0 dX12_findUpTo_25 rfl ?_
  obtain ⟨u1, e2, hF⟩ := q_bind hF
  obtain ⟨x3, e4, hF⟩ := q_bind hF
  refine g_callVr0 (ci := 12) (q := (RX12, TX12, 49)) qm_X12_voices wd_1977 wd_1979 wd_137 rfl e2 (M_X12_voices l b D z nx e4) (As := []) rfl rfl (Nat.le_of_ble_eq_true rfl) ⟨(Nat.le_of_ble_eq_true rfl), (Nat.le_of_ble_eq_true rfl)⟩ ⟨rfl, rfl⟩ ⟨(Nat.le_of_ble_eq_true rfl), (Nat.le_of_ble_eq_true rfl)⟩ dX12_findUpTo_26 ?_
  refine g_icmp_ge 167 dX12_findUpTo_29 (by decide) (fun c5 => ?_) (fun c5 => ?_)
  · replace hF := q_t c5 hF
    cases hF
    refine g_sub [] rfl ?_
    exact hx0 _ rfl
  · replace hF := q_f c5 hF
    refine g_iload_n 1 dX12_findUpTo_32 rfl ?_
    refine g_if_ne 50 dX12_findUpTo_33 (by decide) (fun c6 => ?_) (fun c6 => ?_)
    · replace hF := q_f c6 hF
      exact J_X12_findUpTo_50 l b D z hF hback hx0
    · replace hF := q_t c6 hF
      refine g_aload_n 0 dX12_findUpTo_36 rfl ?_
      obtain ⟨x7, e8, hF⟩ := q_bind hF
      refine g_getfI fl_X12_276 e8 dX12_findUpTo_37 ?_
      refine g_if_le 50 dX12_findUpTo_40 (by decide) (fun c9 => ?_) (fun c9 => ?_)
      · replace hF := q_t c9 hF
        exact J_X12_findUpTo_50 l b D z hF hback hx0
      · replace hF := q_f c9 hF
        refine g_aload_n 0 dX12_findUpTo_43 rfl ?_
        obtain ⟨x10, e11, hF⟩ := q_bind hF
        refine g_getfR fl_X12_75 e11 dX12_findUpTo_44 ?_
        refine g_iconst dX12_findUpTo_47 lt_iconst_0 ?_
        refine g_lconst (v := 1) dX12_findUpTo_48 (by decide +kernel) ?_
        obtain ⟨h12, e13, hF⟩ := q_bind hF
        refine g_last e13 dX12_findUpTo_49 ?_
        exact J_X12_findUpTo_50 l b D z hF hback hx0
set_option maxRecDepth 100000 in
set_option maxHeartbeats 4000000 in
theorem L_X12_findUpTo_24 (l : Launch) (b : Nat) (D : va_G) (z : Nat → Nat) {Φ : Option Value → qH → Nat → Prop} {nx : Nat} {a0 : Nat} : ∀ (n : Nat) (a1 : Int32) (h : qH) (e : qH), q_lp (s_X12_findUpTo_24 a0) n (a1, h) = some e → (∀  (bh : qH), e = bh → Go l b D z yX12_findUpTo cX12_findUpTo 4 none rm_X12_findUpTo Φ 167 [] [] bh nx 0 0) → Go l b D z yX12_findUpTo cX12_findUpTo 4 none rm_X12_findUpTo Φ 24 [(0, .ref a0), (1, .int a1)] [] h nx 0 0 := by
  intro n
  induction n with
  | zero => intro a1 h e he; cases (show none = some e from he)
  | succ n ih =>
    intro a1 h e he hx0
    obtain ⟨o, ho, h1, h2⟩ := q_lp_succ he
    exact B_X12_findUpTo_24 l b D z (show b_X12_findUpTo_24 a0 a1 h = some o from ho) (fun b1 bh hb => ih _ _ e (h1 _ hb) hx0) (fun p0 hr => hx0 p0 (h2 _ hr).symm)
set_option maxRecDepth 100000 in
set_option maxHeartbeats 4000000 in
theorem M_X12_findUpTo (l : Launch) (b : Nat) (D : va_G) (z : Nat → Nat) (nx : Nat) {h : qH} {a0 : Nat} {r : qH} (hF : F_X12_findUpTo h a0 = some r) : Me l b D z yX12_findUpTo cX12_findUpTo 4 none rm_X12_findUpTo [.ref a0] h nx (qE none r nx) := by
  refine Me.of (by decide +kernel) (Nat.le_of_ble_eq_true rfl) ?_
  show Go l b D z yX12_findUpTo cX12_findUpTo 4 none rm_X12_findUpTo (qE none r nx) 0 [(0, .ref a0)] [] h nx 0 0
  unfold F_X12_findUpTo at hF
  refine g_iconst dX12_findUpTo_0 lt_iconst_0 ?_
  refine g_istore_n [(1, .int (0 : Int32)), (0, .ref a0)] dX12_findUpTo_1 (Nat.le_of_ble_eq_true rfl) rfl ?_
  obtain ⟨e1, w2, hF⟩ := q_bind hF
  refine g_sub [1, 0] rfl ?_
  refine L_X12_findUpTo_2 l b D z q_N (0 : Int32) h e1 w2 ?_
  · intro h3 w4
    replace w4 := w4.symm
    subst w4
    refine g_iconst dX12_findUpTo_22 lt_iconst_0 ?_
    refine g_istore_n [(1, .int (0 : Int32)), (0, .ref a0)] dX12_findUpTo_23 (Nat.le_of_ble_eq_true rfl) rfl ?_
    obtain ⟨e5, w6, hF⟩ := q_bind hF
    refine g_sub [1, 0] rfl ?_
    refine L_X12_findUpTo_24 l b D z q_N (0 : Int32) h3 e5 w6 ?_
    · intro h7 w8
      replace w8 := w8.symm
      subst w8
      cases hF
      exact g_vret dX12_findUpTo_167 rfl ⟨rfl, rfl, rfl⟩ (Nat.le_of_ble_eq_true rfl) (Nat.le_of_ble_eq_true rfl)
def rm_X12_findWays : Room := { frames := 4, cells := 0, slots := 0, locals := 91 }
set_option maxRecDepth 100000 in
set_option maxHeartbeats 4000000 in
theorem M_X12_findWays (l : Launch) (b : Nat) (D : va_G) (z : Nat → Nat) (nx : Nat) {h : qH} {a0 : Nat} {r : qH} (hF : F_X12_findWays h a0 = some r) : Me l b D z yX12_findWays cX12_findWays 1 none rm_X12_findWays [.ref a0] h nx (qE none r nx) := by
  refine Me.of (by decide +kernel) (Nat.le_of_ble_eq_true rfl) ?_
  show Go l b D z yX12_findWays cX12_findWays 1 none rm_X12_findWays (qE none r nx) 0 [(0, .ref a0)] [] h nx 0 0
  unfold F_X12_findWays at hF
  refine g_aload_n 0 dX12_findWays_0 rfl ?_
  obtain ⟨u1, e2, hF⟩ := q_bind hF
  obtain ⟨x3, e4, hF⟩ := q_bind hF
  refine g_callVv0 (ci := 12) (q := (RX12, TX12, 49)) qm_X12_findFrom wd_1994 wd_1996 wd_140 rfl e2 (M_X12_findFrom l b D z nx e4) (As := []) rfl rfl (Nat.le_of_ble_eq_true rfl) ⟨(Nat.le_of_ble_eq_true rfl), (Nat.le_of_ble_eq_true rfl)⟩ ⟨rfl, rfl⟩ ⟨(Nat.le_of_ble_eq_true rfl), (Nat.le_of_ble_eq_true rfl)⟩ dX12_findWays_1 ?_
  refine g_aload_n 0 dX12_findWays_4 rfl ?_
  obtain ⟨u5, e6, hF⟩ := q_bind hF
  obtain ⟨x7, e8, hF⟩ := q_bind hF
  refine g_callVv0 (ci := 12) (q := (RX12, TX12, 49)) qm_X12_findUpTo wd_2002 wd_2004 wd_142 rfl e6 (M_X12_findUpTo l b D z nx e8) (As := []) rfl rfl (Nat.le_of_ble_eq_true rfl) ⟨(Nat.le_of_ble_eq_true rfl), (Nat.le_of_ble_eq_true rfl)⟩ ⟨rfl, rfl⟩ ⟨(Nat.le_of_ble_eq_true rfl), (Nat.le_of_ble_eq_true rfl)⟩ dX12_findWays_5 ?_
  refine g_aload_n 0 dX12_findWays_8 rfl ?_
  refine g_aload_n 0 dX12_findWays_9 rfl ?_
  obtain ⟨u9, e10, hF⟩ := q_bind hF
  obtain ⟨x11, e12, hF⟩ := q_bind hF
  refine g_callVr0 (ci := 12) (q := (RX12, TX12, 49)) qm_X12_voices wd_1977 wd_1979 wd_137 rfl e10 (M_X12_voices l b D z nx e12) (As := []) rfl rfl (Nat.le_of_ble_eq_true rfl) ⟨(Nat.le_of_ble_eq_true rfl), (Nat.le_of_ble_eq_true rfl)⟩ ⟨rfl, rfl⟩ ⟨(Nat.le_of_ble_eq_true rfl), (Nat.le_of_ble_eq_true rfl)⟩ dX12_findWays_10 ?_
  refine g_if_ne 20 dX12_findWays_13 (by decide) (fun c13 => ?_) (fun c13 => ?_)
  · replace hF := q_f c13 hF
    refine g_aload_n 0 dX12_findWays_20 rfl ?_
    obtain ⟨x14, e15, hF⟩ := q_bind hF
    refine g_getfI fl_X12_276 e15 dX12_findWays_21 ?_
    refine g_if_ne 31 dX12_findWays_24 (by decide) (fun c16 => ?_) (fun c16 => ?_)
    · replace hF := q_f c16 hF
      refine g_aload_n 0 dX12_findWays_31 rfl ?_
      obtain ⟨x17, e18, hF⟩ := q_bind hF
      refine g_getfR fl_X12_78 e18 dX12_findWays_32 ?_
      refine g_iconst dX12_findWays_35 lt_iconst_0 ?_
      obtain ⟨x19, e20, hF⟩ := q_bind hF
      refine g_lald e20 dX12_findWays_36 ?_
      obtain ⟨h21, e22, hF⟩ := q_bind hF
      refine g_putf fl_X12_449 e22 rfl rfl dX12_findWays_37 ?_
      cases hF
      exact g_vret dX12_findWays_40 rfl ⟨rfl, rfl, rfl⟩ (Nat.le_of_ble_eq_true rfl) (Nat.le_of_ble_eq_true rfl)
    · replace hF := q_t c16 hF
      refine g_lconst (v := 0) dX12_findWays_27 (by decide +kernel) ?_
      refine g_goto 37 dX12_findWays_28 (by decide) ?_
      obtain ⟨h23, e24, hF⟩ := q_bind hF
      refine g_putf fl_X12_449 e24 rfl rfl dX12_findWays_37 ?_
      cases hF
      exact g_vret dX12_findWays_40 rfl ⟨rfl, rfl, rfl⟩ (Nat.le_of_ble_eq_true rfl) (Nat.le_of_ble_eq_true rfl)
  · replace hF := q_t c13 hF
    refine g_lconst (v := 1) dX12_findWays_16 (by decide +kernel) ?_
    refine g_goto 37 dX12_findWays_17 (by decide) ?_
    obtain ⟨h25, e26, hF⟩ := q_bind hF
    refine g_putf fl_X12_449 e26 rfl rfl dX12_findWays_37 ?_
    cases hF
    exact g_vret dX12_findWays_40 rfl ⟨rfl, rfl, rfl⟩ (Nat.le_of_ble_eq_true rfl) (Nat.le_of_ble_eq_true rfl)
def rm_X12_through : Room := { frames := 0, cells := 0, slots := 0, locals := 0 }
set_option maxRecDepth 100000 in
set_option maxHeartbeats 4000000 in
theorem M_X12_through (l : Launch) (b : Nat) (D : va_G) (z : Nat → Nat) (nx : Nat) {h : qH} {a0 : Nat} {a1 : Int32} {a2 : Int32} {r : Int64} (hF : F_X12_through h a0 a1 a2 = some r) : Me l b D z yX12_through cX12_through 3 (some .long) rm_X12_through [.ref a0, .int a1, .int a2] h nx (qE (some (.long r)) h nx) := by
  refine Me.of (by decide +kernel) (Nat.le_of_ble_eq_true rfl) ?_
  show Go l b D z yX12_through cX12_through 3 (some .long) rm_X12_through (qE (some (.long r)) h nx) 0 [(0, .ref a0), (1, .int a1), (2, .int a2)] [] h nx 0 0
  unfold F_X12_through at hF
  refine g_aload_n 0 dX12_through_0 rfl ?_
  obtain ⟨x1, e2, hF⟩ := q_bind hF
  refine g_getfR fl_X12_75 e2 dX12_through_1 ?_
  refine g_bipush dX12_through_4 lt_bipush_20 ?_
  refine g_iload_n 1 dX12_through_6 rfl ?_
  refine g_imul dX12_through_7 ?_
  refine g_iload_n 2 dX12_through_8 rfl ?_
  refine g_iadd dX12_through_9 ?_
  obtain ⟨x3, e4, hF⟩ := q_bind hF
  refine g_lald e4 dX12_through_10 ?_
  refine g_aload_n 0 dX12_through_11 rfl ?_
  obtain ⟨x5, e6, hF⟩ := q_bind hF
  refine g_getfR fl_X12_78 e6 dX12_through_12 ?_
  refine g_bipush dX12_through_15 lt_bipush_20 ?_
  refine g_iload_n 1 dX12_through_17 rfl ?_
  refine g_imul dX12_through_18 ?_
  refine g_iload_n 2 dX12_through_19 rfl ?_
  refine g_iadd dX12_through_20 ?_
  obtain ⟨x7, e8, hF⟩ := q_bind hF
  refine g_lald e8 dX12_through_21 ?_
  refine g_lmul dX12_through_22 ?_
  cases hF
  exact g_lret dX12_through_23 rfl ⟨rfl, rfl, rfl⟩ (Nat.le_of_ble_eq_true rfl) (Nat.le_of_ble_eq_true rfl)
