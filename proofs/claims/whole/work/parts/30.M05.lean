def rm_X7_split : Room := { frames := 7, cells := 0, slots := 0, locals := 185 }
set_option maxRecDepth 100000 in
set_option maxHeartbeats 4000000 in
theorem B_X7_split_7 (l : Launch) (b : Nat) (D : va_G) (z : Nat → Nat) {Φ : Option Value → qH → Nat → Prop} {nx : Nat} {a0 : Nat} {a1 : Nat} {a2 : Int32} {a3 : Int32} {h : qH} {o : (Int32 × qH) ⊕ (qH ⊕ qH)} (hF : b_X7_split_7 z a0 a1 a2 a3 h = some o) (hback : ∀ (b3 : Int32) (bh : qH), o = .inl (b3, bh) → Go l b D z yX7_split cX7_split 6 none rm_X7_split Φ 7 [(0, .ref a0), (1, .ref a1), (2, .int a2), (3, .int b3)] [] bh nx 0 0) (hx0 : ∀  (bh : qH), o = .inr (.inl bh) → Go l b D z yX7_split cX7_split 6 none rm_X7_split Φ 72 [] [] bh nx 0 0) (hx1 : ∀  (bh : qH), o = .inr (.inr bh) → Go l b D z yX7_split cX7_split 6 none rm_X7_split Φ 79 [(0, .ref a0), (1, .ref a1)] [] bh nx 0 0) : Go l b D z yX7_split cX7_split 6 none rm_X7_split Φ 7 [(0, .ref a0), (1, .ref a1), (2, .int a2), (3, .int a3)] [] h nx 0 0 := by
  unfold b_X7_split_7 at hF
  refine g_iload_n 3 dX7_split_7 rfl ?_
  refine g_aload_n 1 dX7_split_8 rfl ?_
  obtain ⟨x1, e2, hF⟩ := q_bind hF
  refine g_getfI fl_X7_53 e2 dX7_split_9 ?_
  refine g_icmp_ge 79 dX7_split_12 (by decide) (fun c3 => ?_) (fun c3 => ?_)
  · replace hF := q_t c3 hF
    cases hF
    refine g_sub [0, 1] rfl ?_
    exact hx1 _ rfl
  · replace hF := q_f c3 hF
    refine g_aload_n 1 dX7_split_15 rfl ?_
    refine g_iload_n 3 dX7_split_16 rfl ?_
    obtain ⟨u4, e5, hF⟩ := q_bind hF
    obtain ⟨x6, e7, hF⟩ := q_bind hF
    refine g_callVr0 (ci := 9) (q := (RX9, TX9, 9)) qm_X9_byteAt wd_569 wd_570 wd_571 rfl e5 (M_X9_byteAt l b D z nx e7) (As := [.int a3]) rfl rfl (Nat.le_of_ble_eq_true rfl) ⟨(Nat.le_of_ble_eq_true rfl), (Nat.le_of_ble_eq_true rfl)⟩ ⟨rfl, rfl⟩ ⟨(Nat.le_of_ble_eq_true rfl), (Nat.le_of_ble_eq_true rfl)⟩ dX7_split_17 ?_
    refine g_istore [(4, .int x6), (0, .ref a0), (1, .ref a1), (2, .int a2), (3, .int a3)] dX7_split_20 (Nat.le_of_ble_eq_true rfl) rfl ?_
    refine g_iload 0 dX7_split_22 rfl ?_
    refine g_bipush dX7_split_24 lt_bipush_10 ?_
    refine g_icmp_eq 36 dX7_split_26 (by decide) (fun c8 => ?_) (fun c8 => ?_)
    · replace hF := q_t c8 hF
      refine g_iinc [(3, .int (a3 + 1)), (4, .int x6), (0, .ref a0), (1, .ref a1), (2, .int a2)] 4 dX7_split_36 rfl (congrArg (a3 + ·) lt_iconst_1) (Nat.le_of_ble_eq_true rfl) rfl ?_
      refine g_goto 7 dX7_split_39 (by decide) ?_
      cases hF
      refine g_sub [2, 3, 4, 0] rfl ?_
      exact hback _ _ rfl
    · replace hF := q_f c8 hF
      refine g_iload 0 dX7_split_29 rfl ?_
      refine g_bipush dX7_split_31 lt_bipush_32 ?_
      refine g_icmp_ne 42 dX7_split_33 (by decide) (fun c9 => ?_) (fun c9 => ?_)
      · replace hF := q_f c9 hF
        refine g_aload_n 2 dX7_split_42 rfl ?_
        refine g_iload_n 4 dX7_split_43 rfl ?_
        obtain ⟨x10, e11, hF⟩ := q_bind hF
        refine g_callSr0 qm_X7_endOfRow wd_573 wd_574 (M_X7_endOfRow l b D z nx e11) (As := [.ref a1, .int a3]) rfl rfl (Nat.le_of_ble_eq_true rfl) ⟨(Nat.le_of_ble_eq_true rfl), (Nat.le_of_ble_eq_true rfl)⟩ ⟨rfl, rfl⟩ ⟨(Nat.le_of_ble_eq_true rfl), (Nat.le_of_ble_eq_true rfl)⟩ dX7_split_44 ?_
        refine g_istore [(5, .int x10), (4, .int x6), (0, .ref a0), (1, .ref a1), (2, .int a2), (3, .int a3)] dX7_split_47 (Nat.le_of_ble_eq_true rfl) rfl ?_
        refine g_aload_n 2 dX7_split_49 rfl ?_
        refine g_aload_n 3 dX7_split_50 rfl ?_
        refine g_iload_n 4 dX7_split_51 rfl ?_
        refine g_iload_n 5 dX7_split_52 rfl ?_
        refine g_iload 0 dX7_split_53 rfl ?_
        obtain ⟨u12, e13, hF⟩ := q_bind hF
        obtain ⟨x14, e15, hF⟩ := q_bind hF
        refine g_callVv0 (ci := 7) (q := (RX7, TX7, 6)) qm_X7_addToken wd_582 wd_584 wd_1 rfl e13 (M_X7_addToken l b D z nx e15) (As := [.ref a1, .int a2, .int a3, .int x10]) rfl rfl (Nat.le_of_ble_eq_true rfl) ⟨(Nat.le_of_ble_eq_true rfl), (Nat.le_of_ble_eq_true rfl)⟩ ⟨rfl, rfl⟩ ⟨(Nat.le_of_ble_eq_true rfl), (Nat.le_of_ble_eq_true rfl)⟩ dX7_split_55 ?_
        refine g_aload_n 2 dX7_split_58 rfl ?_
        refine g_aload_n 2 dX7_split_59 rfl ?_
        obtain ⟨x16, e17, hF⟩ := q_bind hF
        refine g_getfI fl_X7_124 e17 dX7_split_60 ?_
        refine g_iconst dX7_split_63 lt_iconst_1 ?_
        refine g_isub dX7_split_64 ?_
        obtain ⟨u18, e19, hF⟩ := q_bind hF
        obtain ⟨x20, e21, hF⟩ := q_bind hF
        refine g_callVr0 (ci := 7) (q := (RX7, TX7, 6)) qm_X7_kindAt wd_667 wd_669 wd_3 rfl e19 (M_X7_kindAt l b D z nx e21) (As := [.int (x16 - (1 : Int32))]) rfl rfl (Nat.le_of_ble_eq_true rfl) ⟨(Nat.le_of_ble_eq_true rfl), (Nat.le_of_ble_eq_true rfl)⟩ ⟨rfl, rfl⟩ ⟨(Nat.le_of_ble_eq_true rfl), (Nat.le_of_ble_eq_true rfl)⟩ dX7_split_65 ?_
        refine g_iconst dX7_split_68 lt_iconst_3 ?_
        refine g_icmp_ne 73 dX7_split_69 (by decide) (fun c22 => ?_) (fun c22 => ?_)
        · replace hF := q_f c22 hF
          refine g_iload 0 dX7_split_73 rfl ?_
          refine g_istore_n [(3, .int x10), (5, .int x10), (4, .int x6), (0, .ref a0), (1, .ref a1), (2, .int a2)] dX7_split_75 (Nat.le_of_ble_eq_true rfl) rfl ?_
          refine g_goto 7 dX7_split_76 (by decide) ?_
          cases hF
          refine g_sub [3, 4, 5, 0] rfl ?_
          exact hback _ _ rfl
        · replace hF := q_t c22 hF
          cases hF
          refine g_sub [] rfl ?_
          exact hx0 _ rfl
      · replace hF := q_t c9 hF
        refine g_iinc [(3, .int (a3 + 1)), (4, .int x6), (0, .ref a0), (1, .ref a1), (2, .int a2)] 4 dX7_split_36 rfl (congrArg (a3 + ·) lt_iconst_1) (Nat.le_of_ble_eq_true rfl) rfl ?_
        refine g_goto 7 dX7_split_39 (by decide) ?_
        cases hF
        refine g_sub [2, 3, 4, 0] rfl ?_
        exact hback _ _ rfl
set_option maxRecDepth 100000 in
set_option maxHeartbeats 4000000 in
theorem L_X7_split_7 (l : Launch) (b : Nat) (D : va_G) (z : Nat → Nat) {Φ : Option Value → qH → Nat → Prop} {nx : Nat} {a0 : Nat} {a1 : Nat} {a2 : Int32} : ∀ (n : Nat) (a3 : Int32) (h : qH) (e : qH ⊕ qH), q_lp (s_X7_split_7 z a0 a1 a2) n (a3, h) = some e → (∀  (bh : qH), e = (.inl bh) → Go l b D z yX7_split cX7_split 6 none rm_X7_split Φ 72 [] [] bh nx 0 0) → (∀  (bh : qH), e = (.inr bh) → Go l b D z yX7_split cX7_split 6 none rm_X7_split Φ 79 [(0, .ref a0), (1, .ref a1)] [] bh nx 0 0) → Go l b D z yX7_split cX7_split 6 none rm_X7_split Φ 7 [(0, .ref a0), (1, .ref a1), (2, .int a2), (3, .int a3)] [] h nx 0 0 := by
  intro n
  induction n with
  | zero => intro a3 h e he; cases (show none = some e from he)
  | succ n ih =>
    intro a3 h e he hx0 hx1
    obtain ⟨o, ho, h1, h2⟩ := q_lp_succ he
    exact B_X7_split_7 l b D z (show b_X7_split_7 z a0 a1 a2 a3 h = some o from ho) (fun b3 bh hb => ih _ _ e (h1 _ hb) hx0 hx1) (fun p0 hr => hx0 p0 (h2 _ hr).symm) (fun p0 hr => hx1 p0 (h2 _ hr).symm)
set_option maxRecDepth 100000 in
set_option maxHeartbeats 4000000 in
theorem M_X7_split (l : Launch) (b : Nat) (D : va_G) (z : Nat → Nat) (nx : Nat) {h : qH} {a0 : Nat} {a1 : Nat} {a2 : Int32} {r : qH} (hF : F_X7_split z h a0 a1 a2 = some r) : Me l b D z yX7_split cX7_split 6 none rm_X7_split [.ref a0, .ref a1, .int a2] h nx (qE none r nx) := by
  refine Me.of (by decide +kernel) (Nat.le_of_ble_eq_true rfl) ?_
  show Go l b D z yX7_split cX7_split 6 none rm_X7_split (qE none r nx) 0 [(0, .ref a0), (1, .ref a1), (2, .int a2)] [] h nx 0 0
  unfold F_X7_split at hF
  refine g_aload_n 0 dX7_split_0 rfl ?_
  refine g_iconst dX7_split_1 lt_iconst_0 ?_
  obtain ⟨h1, e2, hF⟩ := q_bind hF
  refine g_putf fl_X7_124 e2 rfl rfl dX7_split_2 ?_
  refine g_iconst dX7_split_5 lt_iconst_0 ?_
  refine g_istore_n [(3, .int (0 : Int32)), (0, .ref a0), (1, .ref a1), (2, .int a2)] dX7_split_6 (Nat.le_of_ble_eq_true rfl) rfl ?_
  obtain ⟨e3, w4, hF⟩ := q_bind hF
  refine g_sub [1, 2, 3, 0] rfl ?_
  refine L_X7_split_7 l b D z q_N (0 : Int32) h1 e3 w4 ?_ ?_
  · intro h5 w6
    replace w6 := w6.symm
    subst w6
    replace hF := q_sl hF
    cases hF
    exact g_vret dX7_split_72 rfl ⟨rfl, rfl, rfl⟩ (Nat.le_of_ble_eq_true rfl) (Nat.le_of_ble_eq_true rfl)
  · intro h8 w9
    replace w9 := w9.symm
    subst w9
    replace hF := q_sr hF
    refine g_aload_n 0 dX7_split_79 rfl ?_
    refine g_iconst dX7_split_80 lt_iconst_4 ?_
    refine g_iconst dX7_split_81 lt_iconst_0 ?_
    refine g_aload_n 1 dX7_split_82 rfl ?_
    obtain ⟨x10, e11, hF⟩ := q_bind hF
    refine g_getfI fl_X7_53 e11 dX7_split_83 ?_
    obtain ⟨u12, e13, hF⟩ := q_bind hF
    obtain ⟨x14, e15, hF⟩ := q_bind hF
    refine g_callVv0 (ci := 7) (q := (RX7, TX7, 6)) qm_X7_put wd_663 wd_665 wd_2 rfl e13 (M_X7_put l b D z nx e15) (As := [.int (4 : Int32), .int (0 : Int32), .int x10]) rfl rfl (Nat.le_of_ble_eq_true rfl) ⟨(Nat.le_of_ble_eq_true rfl), (Nat.le_of_ble_eq_true rfl)⟩ ⟨rfl, rfl⟩ ⟨(Nat.le_of_ble_eq_true rfl), (Nat.le_of_ble_eq_true rfl)⟩ dX7_split_86 ?_
    cases hF
    exact g_vret dX7_split_89 rfl ⟨rfl, rfl, rfl⟩ (Nat.le_of_ble_eq_true rfl) (Nat.le_of_ble_eq_true rfl)
def rm_X7_valueAt : Room := { frames := 0, cells := 0, slots := 0, locals := 0 }
set_option maxRecDepth 100000 in
set_option maxHeartbeats 4000000 in
theorem M_X7_valueAt (l : Launch) (b : Nat) (D : va_G) (z : Nat → Nat) (nx : Nat) {h : qH} {a0 : Nat} {a1 : Int32} {r : Int32} (hF : F_X7_valueAt h a0 a1 = some r) : Me l b D z yX7_valueAt cX7_valueAt 2 (some .int) rm_X7_valueAt [.ref a0, .int a1] h nx (qE (some (.int r)) h nx) := by
  refine Me.of (by decide +kernel) (Nat.le_of_ble_eq_true rfl) ?_
  show Go l b D z yX7_valueAt cX7_valueAt 2 (some .int) rm_X7_valueAt (qE (some (.int r)) h nx) 0 [(0, .ref a0), (1, .int a1)] [] h nx 0 0
  unfold F_X7_valueAt at hF
  refine g_iload_n 1 dX7_valueAt_0 rfl ?_
  refine g_if_lt 21 dX7_valueAt_1 (by decide) (fun c1 => ?_) (fun c1 => ?_)
  · replace hF := q_t c1 hF
    refine g_iconst dX7_valueAt_21 lt_iconst_0 ?_
    cases hF
    exact g_iret dX7_valueAt_22 rfl ⟨rfl, rfl, rfl⟩ (Nat.le_of_ble_eq_true rfl) (Nat.le_of_ble_eq_true rfl)
  · replace hF := q_f c1 hF
    refine g_iload_n 1 dX7_valueAt_4 rfl ?_
    refine g_aload_n 0 dX7_valueAt_5 rfl ?_
    obtain ⟨x2, e3, hF⟩ := q_bind hF
    refine g_getfI fl_X7_124 e3 dX7_valueAt_6 ?_
    refine g_icmp_ge 21 dX7_valueAt_9 (by decide) (fun c4 => ?_) (fun c4 => ?_)
    · replace hF := q_t c4 hF
      refine g_iconst dX7_valueAt_21 lt_iconst_0 ?_
      cases hF
      exact g_iret dX7_valueAt_22 rfl ⟨rfl, rfl, rfl⟩ (Nat.le_of_ble_eq_true rfl) (Nat.le_of_ble_eq_true rfl)
    · replace hF := q_f c4 hF
      refine g_aload_n 0 dX7_valueAt_12 rfl ?_
      obtain ⟨x5, e6, hF⟩ := q_bind hF
      refine g_getfR fl_X7_17 e6 dX7_valueAt_13 ?_
      refine g_iload_n 1 dX7_valueAt_16 rfl ?_
      obtain ⟨x7, e8, hF⟩ := q_bind hF
      refine g_iald e8 dX7_valueAt_17 ?_
      refine g_goto 22 dX7_valueAt_18 (by decide) ?_
      cases hF
      exact g_iret dX7_valueAt_22 rfl ⟨rfl, rfl, rfl⟩ (Nat.le_of_ble_eq_true rfl) (Nat.le_of_ble_eq_true rfl)
def rm_X7_numbersOf : Room := { frames := 0, cells := 0, slots := 0, locals := 0 }
set_option maxRecDepth 100000 in
set_option maxHeartbeats 4000000 in
theorem M_X7_numbersOf (l : Launch) (b : Nat) (D : va_G) (z : Nat → Nat) (nx : Nat) {h : qH} {a0 : Int32} {r : Int32} (hF : F_X7_numbersOf z h a0 = some r) : Me l b D z yX7_numbersOf cX7_numbersOf 1 (some .int) rm_X7_numbersOf [.int a0] h nx (qE (some (.int r)) h nx) := by
  refine Me.of (by decide +kernel) (Nat.le_of_ble_eq_true rfl) ?_
  show Go l b D z yX7_numbersOf cX7_numbersOf 1 (some .int) rm_X7_numbersOf (qE (some (.int r)) h nx) 0 [(0, .int a0)] [] h nx 0 0
  unfold F_X7_numbersOf at hF
  refine g_iload_n 0 dX7_numbersOf_0 rfl ?_
  refine g_if_lt 20 dX7_numbersOf_1 (by decide) (fun c1 => ?_) (fun c1 => ?_)
  · replace hF := q_t c1 hF
    refine g_iconst dX7_numbersOf_20 lt_iconst_0 ?_
    cases hF
    exact g_iret dX7_numbersOf_21 rfl ⟨rfl, rfl, rfl⟩ (Nat.le_of_ble_eq_true rfl) (Nat.le_of_ble_eq_true rfl)
  · replace hF := q_f c1 hF
    refine g_iload_n 0 dX7_numbersOf_4 rfl ?_
    refine g_gets (i := 1) rfl wd_686 dX7_numbersOf_5 ?_
    refine g_slen (i := 1) rfl dX7_numbersOf_8 ?_
    refine g_icmp_ge 20 dX7_numbersOf_9 (by decide) (fun c2 => ?_) (fun c2 => ?_)
    · replace hF := q_t c2 hF
      refine g_iconst dX7_numbersOf_20 lt_iconst_0 ?_
      cases hF
      exact g_iret dX7_numbersOf_21 rfl ⟨rfl, rfl, rfl⟩ (Nat.le_of_ble_eq_true rfl) (Nat.le_of_ble_eq_true rfl)
    · replace hF := q_f c2 hF
      refine g_gets (i := 1) rfl wd_686 dX7_numbersOf_12 ?_
      refine g_iload_n 0 dX7_numbersOf_15 rfl ?_
      obtain ⟨x3, e4, hF⟩ := q_bind hF
      refine g_ist (i := 1) rfl e4 dX7_numbersOf_16 ?_
      refine g_goto 21 dX7_numbersOf_17 (by decide) ?_
      cases hF
      exact g_iret dX7_numbersOf_21 rfl ⟨rfl, rfl, rfl⟩ (Nat.le_of_ble_eq_true rfl) (Nat.le_of_ble_eq_true rfl)
def rm_X7_behindStatement : Room := { frames := 1, cells := 0, slots := 0, locals := 21 }
set_option maxRecDepth 100000 in
set_option maxHeartbeats 4000000 in
theorem M_X7_behindStatement (l : Launch) (b : Nat) (D : va_G) (z : Nat → Nat) (nx : Nat) {h : qH} {a0 : Nat} {a1 : Int32} {r : Int32} (hF : F_X7_behindStatement z h a0 a1 = some r) : Me l b D z yX7_behindStatement cX7_behindStatement 2 (some .int) rm_X7_behindStatement [.ref a0, .int a1] h nx (qE (some (.int r)) h nx) := by
  refine Me.of (by decide +kernel) (Nat.le_of_ble_eq_true rfl) ?_
  show Go l b D z yX7_behindStatement cX7_behindStatement 2 (some .int) rm_X7_behindStatement (qE (some (.int r)) h nx) 0 [(0, .ref a0), (1, .int a1)] [] h nx 0 0
  unfold F_X7_behindStatement at hF
  refine g_iload_n 1 dX7_behindStatement_0 rfl ?_
  refine g_aload_n 0 dX7_behindStatement_1 rfl ?_
  refine g_iload_n 1 dX7_behindStatement_2 rfl ?_
  obtain ⟨u1, e2, hF⟩ := q_bind hF
  obtain ⟨x3, e4, hF⟩ := q_bind hF
  refine g_callVr0 (ci := 7) (q := (RX7, TX7, 6)) qm_X7_valueAt wd_679 wd_681 wd_6 rfl e2 (M_X7_valueAt l b D z nx e4) (As := [.int a1]) rfl rfl (Nat.le_of_ble_eq_true rfl) ⟨(Nat.le_of_ble_eq_true rfl), (Nat.le_of_ble_eq_true rfl)⟩ ⟨rfl, rfl⟩ ⟨(Nat.le_of_ble_eq_true rfl), (Nat.le_of_ble_eq_true rfl)⟩ dX7_behindStatement_3 ?_
  obtain ⟨x5, e6, hF⟩ := q_bind hF
  refine g_callSr0 qm_X7_numbersOf wd_683 wd_684 (M_X7_numbersOf l b D z nx e6) (As := [.int x3]) rfl rfl (Nat.le_of_ble_eq_true rfl) ⟨(Nat.le_of_ble_eq_true rfl), (Nat.le_of_ble_eq_true rfl)⟩ ⟨rfl, rfl⟩ ⟨(Nat.le_of_ble_eq_true rfl), (Nat.le_of_ble_eq_true rfl)⟩ dX7_behindStatement_6 ?_
  refine g_iadd dX7_behindStatement_9 ?_
  refine g_iconst dX7_behindStatement_10 lt_iconst_2 ?_
  refine g_iadd dX7_behindStatement_11 ?_
  cases hF
  exact g_iret dX7_behindStatement_12 rfl ⟨rfl, rfl, rfl⟩ (Nat.le_of_ble_eq_true rfl) (Nat.le_of_ble_eq_true rfl)
def rm_X7_firstUnfit : Room := { frames := 2, cells := 0, slots := 0, locals := 42 }
set_option maxRecDepth 100000 in
set_option maxHeartbeats 4000000 in
theorem J_X7_firstUnfit_65 (l : Launch) (b : Nat) (D : va_G) (z : Nat → Nat) {Φ : Option Value → qH → Nat → Prop} {nx : Nat} {h : qH} {a0 : Nat} {a1 : Int32} {a2 : Int32} {a3 : Int32} {t0 : Int32} {t1 : Int32} {o : Int32 ⊕ (Int32 ⊕ Unit)} (hF : j_X7_firstUnfit_65 z h a0 a1 a2 a3 t0 t1 = some o) (hback : ∀ (b3 : Int32), o = .inl b3 → Go l b D z yX7_firstUnfit cX7_firstUnfit 4 (some .int) rm_X7_firstUnfit Φ 45 [(0, .ref a0), (1, .int a1), (2, .int a2), (3, .int b3)] [] h nx 0 0) (hx0 : ∀ (b3 : Int32), o = .inr (.inl b3) → Go l b D z yX7_firstUnfit cX7_firstUnfit 4 (some .int) rm_X7_firstUnfit Φ 68 [(3, .int b3)] [] h nx 0 0) (hx1 : o = .inr (.inr ()) → Go l b D z yX7_firstUnfit cX7_firstUnfit 4 (some .int) rm_X7_firstUnfit Φ 76 [(0, .ref a0), (1, .int a1)] [] h nx 0 0) : Go l b D z yX7_firstUnfit cX7_firstUnfit 4 (some .int) rm_X7_firstUnfit Φ 65 [(0, .ref a0), (1, .int a1), (2, .int a2), (3, .int a3)] [.int t0, .int t1] h nx 0 0 := by
  unfold j_X7_firstUnfit_65 at hF
  refine g_icmp_eq 70 dX7_firstUnfit_65 (by decide) (fun c1 => ?_) (fun c1 => ?_)
  · replace hF := q_t c1 hF
    refine g_iinc [(3, .int (a3 + 1)), (0, .ref a0), (1, .int a1), (2, .int a2)] 3 dX7_firstUnfit_70 rfl (congrArg (a3 + ·) lt_iconst_1) (Nat.le_of_ble_eq_true rfl) rfl ?_
    refine g_goto 45 dX7_firstUnfit_73 (by decide) ?_
    cases hF
    refine g_sub [1, 2, 3, 0] rfl ?_
    exact hback _ rfl
  · replace hF := q_f c1 hF
    cases hF
    refine g_sub [3] rfl ?_
    exact hx0 _ rfl
set_option maxRecDepth 100000 in
set_option maxHeartbeats 4000000 in
theorem B_X7_firstUnfit_45 (l : Launch) (b : Nat) (D : va_G) (z : Nat → Nat) {Φ : Option Value → qH → Nat → Prop} {nx : Nat} {h : qH} {a0 : Nat} {a1 : Int32} {a2 : Int32} {a3 : Int32} {o : Int32 ⊕ (Int32 ⊕ Unit)} (hF : b_X7_firstUnfit_45 z h a0 a1 a2 a3 = some o) (hback : ∀ (b3 : Int32), o = .inl b3 → Go l b D z yX7_firstUnfit cX7_firstUnfit 4 (some .int) rm_X7_firstUnfit Φ 45 [(0, .ref a0), (1, .int a1), (2, .int a2), (3, .int b3)] [] h nx 0 0) (hx0 : ∀ (b3 : Int32), o = .inr (.inl b3) → Go l b D z yX7_firstUnfit cX7_firstUnfit 4 (some .int) rm_X7_firstUnfit Φ 68 [(3, .int b3)] [] h nx 0 0) (hx1 : o = .inr (.inr ()) → Go l b D z yX7_firstUnfit cX7_firstUnfit 4 (some .int) rm_X7_firstUnfit Φ 76 [(0, .ref a0), (1, .int a1)] [] h nx 0 0) : Go l b D z yX7_firstUnfit cX7_firstUnfit 4 (some .int) rm_X7_firstUnfit Φ 45 [(0, .ref a0), (1, .int a1), (2, .int a2), (3, .int a3)] [] h nx 0 0 := by
  unfold b_X7_firstUnfit_45 at hF
  refine g_iload_n 3 dX7_firstUnfit_45 rfl ?_
  refine g_iload_n 2 dX7_firstUnfit_46 rfl ?_
  refine g_icmp_gt 76 dX7_firstUnfit_47 (by decide) (fun c1 => ?_) (fun c1 => ?_)
  · replace hF := q_t c1 hF
    cases hF
    refine g_sub [0, 1] rfl ?_
    exact hx1  rfl
  · replace hF := q_f c1 hF
    refine g_aload_n 0 dX7_firstUnfit_50 rfl ?_
    refine g_iload_n 3 dX7_firstUnfit_51 rfl ?_
    obtain ⟨u2, e3, hF⟩ := q_bind hF
    obtain ⟨x4, e5, hF⟩ := q_bind hF
    refine g_callVr0 (ci := 7) (q := (RX7, TX7, 6)) qm_X7_kindAt wd_667 wd_669 wd_3 rfl e3 (M_X7_kindAt l b D z nx e5) (As := [.int a3]) rfl rfl (Nat.le_of_ble_eq_true rfl) ⟨(Nat.le_of_ble_eq_true rfl), (Nat.le_of_ble_eq_true rfl)⟩ ⟨rfl, rfl⟩ ⟨(Nat.le_of_ble_eq_true rfl), (Nat.le_of_ble_eq_true rfl)⟩ dX7_firstUnfit_52 ?_
    refine g_iload_n 3 dX7_firstUnfit_55 rfl ?_
    refine g_iload_n 2 dX7_firstUnfit_56 rfl ?_
    refine g_icmp_ne 64 dX7_firstUnfit_57 (by decide) (fun c6 => ?_) (fun c6 => ?_)
    · replace hF := q_f c6 hF
      refine g_iconst dX7_firstUnfit_64 lt_iconst_1 ?_
      exact J_X7_firstUnfit_65 l b D z hF hback hx0 hx1
    · replace hF := q_t c6 hF
      refine g_iconst dX7_firstUnfit_60 lt_iconst_2 ?_
      refine g_goto 65 dX7_firstUnfit_61 (by decide) ?_
      exact J_X7_firstUnfit_65 l b D z hF hback hx0 hx1
set_option maxRecDepth 100000 in
set_option maxHeartbeats 4000000 in
theorem L_X7_firstUnfit_45 (l : Launch) (b : Nat) (D : va_G) (z : Nat → Nat) {Φ : Option Value → qH → Nat → Prop} {nx : Nat} {h : qH} {a0 : Nat} {a1 : Int32} {a2 : Int32} : ∀ (n : Nat) (a3 : Int32) (e : Int32 ⊕ Unit), q_lp (s_X7_firstUnfit_45 z h a0 a1 a2) n a3 = some e → (∀ (b3 : Int32), e = (.inl b3) → Go l b D z yX7_firstUnfit cX7_firstUnfit 4 (some .int) rm_X7_firstUnfit Φ 68 [(3, .int b3)] [] h nx 0 0) → (e = (.inr ()) → Go l b D z yX7_firstUnfit cX7_firstUnfit 4 (some .int) rm_X7_firstUnfit Φ 76 [(0, .ref a0), (1, .int a1)] [] h nx 0 0) → Go l b D z yX7_firstUnfit cX7_firstUnfit 4 (some .int) rm_X7_firstUnfit Φ 45 [(0, .ref a0), (1, .int a1), (2, .int a2), (3, .int a3)] [] h nx 0 0 := by
  intro n
  induction n with
  | zero => intro a3 e he; cases (show none = some e from he)
  | succ n ih =>
    intro a3 e he hx0 hx1
    obtain ⟨o, ho, h1, h2⟩ := q_lp_succ he
    exact B_X7_firstUnfit_45 l b D z (show b_X7_firstUnfit_45 z h a0 a1 a2 a3 = some o from ho) (fun b3 hb => ih _ e (h1 _ hb) hx0 hx1) (fun p0 hr => hx0 p0 (h2 _ hr).symm) (fun  hr => hx1  (h2 _ hr).symm)
set_option maxRecDepth 100000 in
set_option maxHeartbeats 4000000 in
theorem B_X7_firstUnfit_2 (l : Launch) (b : Nat) (D : va_G) (z : Nat → Nat) {Φ : Option Value → qH → Nat → Prop} {nx : Nat} {h : qH} {a0 : Nat} {a1 : Int32} {o : Int32 ⊕ ((Int32 ⊕ (Int32 ⊕ Unit)))} (hF : b_X7_firstUnfit_2 z h a0 a1 = some o) (hback : ∀ (b1 : Int32), o = .inl b1 → Go l b D z yX7_firstUnfit cX7_firstUnfit 4 (some .int) rm_X7_firstUnfit Φ 2 [(0, .ref a0), (1, .int b1)] [] h nx 0 0) (hx0 : ∀ (b1 : Int32), o = .inr (.inl b1) → Go l b D z yX7_firstUnfit cX7_firstUnfit 4 (some .int) rm_X7_firstUnfit Φ 18 [(0, .ref a0), (1, .int b1)] [] h nx 0 0) (hx1 : ∀ (b3 : Int32), o = .inr (.inr (.inl b3)) → Go l b D z yX7_firstUnfit cX7_firstUnfit 4 (some .int) rm_X7_firstUnfit Φ 68 [(3, .int b3)] [] h nx 0 0) (hx2 : o = .inr (.inr (.inr ())) → Go l b D z yX7_firstUnfit cX7_firstUnfit 4 (some .int) rm_X7_firstUnfit Φ 85 [] [] h nx 0 0) : Go l b D z yX7_firstUnfit cX7_firstUnfit 4 (some .int) rm_X7_firstUnfit Φ 2 [(0, .ref a0), (1, .int a1)] [] h nx 0 0 := by
  unfold b_X7_firstUnfit_2 at hF
  refine g_iload_n 1 dX7_firstUnfit_2 rfl ?_
  refine g_aload_n 0 dX7_firstUnfit_3 rfl ?_
  obtain ⟨x1, e2, hF⟩ := q_bind hF
  refine g_getfI fl_X7_124 e2 dX7_firstUnfit_4 ?_
  refine g_icmp_ge 85 dX7_firstUnfit_7 (by decide) (fun c3 => ?_) (fun c3 => ?_)
  · replace hF := q_t c3 hF
    cases hF
    refine g_sub [] rfl ?_
    exact hx2  rfl
  · replace hF := q_f c3 hF
    refine g_aload_n 0 dX7_firstUnfit_10 rfl ?_
    refine g_iload_n 1 dX7_firstUnfit_11 rfl ?_
    obtain ⟨u4, e5, hF⟩ := q_bind hF
    obtain ⟨x6, e7, hF⟩ := q_bind hF
    refine g_callVr0 (ci := 7) (q := (RX7, TX7, 6)) qm_X7_kindAt wd_667 wd_669 wd_3 rfl e5 (M_X7_kindAt l b D z nx e7) (As := [.int a1]) rfl rfl (Nat.le_of_ble_eq_true rfl) ⟨(Nat.le_of_ble_eq_true rfl), (Nat.le_of_ble_eq_true rfl)⟩ ⟨rfl, rfl⟩ ⟨(Nat.le_of_ble_eq_true rfl), (Nat.le_of_ble_eq_true rfl)⟩ dX7_firstUnfit_12 ?_
    refine g_if_eq 33 dX7_firstUnfit_15 (by decide) (fun c8 => ?_) (fun c8 => ?_)
    · replace hF := q_t c8 hF
      refine g_aload_n 0 dX7_firstUnfit_33 rfl ?_
      refine g_iload_n 1 dX7_firstUnfit_34 rfl ?_
      obtain ⟨u9, e10, hF⟩ := q_bind hF
      obtain ⟨x11, e12, hF⟩ := q_bind hF
      refine g_callVr0 (ci := 7) (q := (RX7, TX7, 6)) qm_X7_behindStatement wd_675 wd_677 wd_5 rfl e10 (M_X7_behindStatement l b D z nx e12) (As := [.int a1]) rfl rfl (Nat.le_of_ble_eq_true rfl) ⟨(Nat.le_of_ble_eq_true rfl), (Nat.le_of_ble_eq_true rfl)⟩ ⟨rfl, rfl⟩ ⟨(Nat.le_of_ble_eq_true rfl), (Nat.le_of_ble_eq_true rfl)⟩ dX7_firstUnfit_35 ?_
      refine g_iconst dX7_firstUnfit_38 lt_iconst_1 ?_
      refine g_isub dX7_firstUnfit_39 ?_
      refine g_istore_n [(2, .int (x11 - (1 : Int32))), (0, .ref a0), (1, .int a1)] dX7_firstUnfit_40 (Nat.le_of_ble_eq_true rfl) rfl ?_
      refine g_iload_n 2 dX7_firstUnfit_41 rfl ?_
      refine g_iconst dX7_firstUnfit_42 lt_iconst_1 ?_
      refine g_iadd dX7_firstUnfit_43 ?_
      refine g_istore_n [(3, .int (a1 + (1 : Int32))), (2, .int (x11 - (1 : Int32))), (0, .ref a0), (1, .int a1)] dX7_firstUnfit_44 (Nat.le_of_ble_eq_true rfl) rfl ?_
      obtain ⟨e13, w14, hF⟩ := q_bind hF
      refine g_sub [2, 3, 1, 0] rfl ?_
      refine L_X7_firstUnfit_45 l b D z q_N (a1 + (1 : Int32)) e13 w14 ?_ ?_
      · intro o15 w16
        replace w16 := w16.symm
        subst w16
        replace hF := q_sl hF
        cases hF
        exact hx1 _ rfl
      · intro  w18
        replace w18 := w18.symm
        subst w18
        replace hF := q_sr hF
        refine g_aload_n 0 dX7_firstUnfit_76 rfl ?_
        refine g_iload_n 1 dX7_firstUnfit_77 rfl ?_
        obtain ⟨u19, e20, hF⟩ := q_bind hF
        obtain ⟨x21, e22, hF⟩ := q_bind hF
        refine g_callVr0 (ci := 7) (q := (RX7, TX7, 6)) qm_X7_behindStatement wd_675 wd_677 wd_5 rfl e20 (M_X7_behindStatement l b D z nx e22) (As := [.int a1]) rfl rfl (Nat.le_of_ble_eq_true rfl) ⟨(Nat.le_of_ble_eq_true rfl), (Nat.le_of_ble_eq_true rfl)⟩ ⟨rfl, rfl⟩ ⟨(Nat.le_of_ble_eq_true rfl), (Nat.le_of_ble_eq_true rfl)⟩ dX7_firstUnfit_78 ?_
        refine g_istore_n [(1, .int x21), (0, .ref a0)] dX7_firstUnfit_81 (Nat.le_of_ble_eq_true rfl) rfl ?_
        refine g_goto 2 dX7_firstUnfit_82 (by decide) ?_
        cases hF
        refine g_sub [1, 0] rfl ?_
        exact hback _ rfl
    · replace hF := q_f c8 hF
      cases hF
      exact hx0 _ rfl
set_option maxRecDepth 100000 in
set_option maxHeartbeats 4000000 in
theorem L_X7_firstUnfit_2 (l : Launch) (b : Nat) (D : va_G) (z : Nat → Nat) {Φ : Option Value → qH → Nat → Prop} {nx : Nat} {h : qH} {a0 : Nat} : ∀ (n : Nat) (a1 : Int32) (e : (Int32 ⊕ (Int32 ⊕ Unit))), q_lp (s_X7_firstUnfit_2 z h a0) n a1 = some e → (∀ (b1 : Int32), e = (.inl b1) → Go l b D z yX7_firstUnfit cX7_firstUnfit 4 (some .int) rm_X7_firstUnfit Φ 18 [(0, .ref a0), (1, .int b1)] [] h nx 0 0) → (∀ (b3 : Int32), e = (.inr (.inl b3)) → Go l b D z yX7_firstUnfit cX7_firstUnfit 4 (some .int) rm_X7_firstUnfit Φ 68 [(3, .int b3)] [] h nx 0 0) → (e = (.inr (.inr ())) → Go l b D z yX7_firstUnfit cX7_firstUnfit 4 (some .int) rm_X7_firstUnfit Φ 85 [] [] h nx 0 0) → Go l b D z yX7_firstUnfit cX7_firstUnfit 4 (some .int) rm_X7_firstUnfit Φ 2 [(0, .ref a0), (1, .int a1)] [] h nx 0 0 := by
  intro n
  induction n with
  | zero => intro a1 e he; cases (show none = some e from he)
  | succ n ih =>
    intro a1 e he hx0 hx1 hx2
    obtain ⟨o, ho, h1, h2⟩ := q_lp_succ he
    exact B_X7_firstUnfit_2 l b D z (show b_X7_firstUnfit_2 z h a0 a1 = some o from ho) (fun b1 hb => ih _ e (h1 _ hb) hx0 hx1 hx2) (fun p0 hr => hx0 p0 (h2 _ hr).symm) (fun p0 hr => hx1 p0 (h2 _ hr).symm) (fun  hr => hx2  (h2 _ hr).symm)
set_option maxRecDepth 100000 in
set_option maxHeartbeats 4000000 in
theorem M_X7_firstUnfit (l : Launch) (b : Nat) (D : va_G) (z : Nat → Nat) (nx : Nat) {h : qH} {a0 : Nat} {r : Int32} (hF : F_X7_firstUnfit z h a0 = some r) : Me l b D z yX7_firstUnfit cX7_firstUnfit 4 (some .int) rm_X7_firstUnfit [.ref a0] h nx (qE (some (.int r)) h nx) := by
  refine Me.of (by decide +kernel) (Nat.le_of_ble_eq_true rfl) ?_
  show Go l b D z yX7_firstUnfit cX7_firstUnfit 4 (some .int) rm_X7_firstUnfit (qE (some (.int r)) h nx) 0 [(0, .ref a0)] [] h nx 0 0
  unfold F_X7_firstUnfit at hF
  refine g_iconst dX7_firstUnfit_0 lt_iconst_0 ?_
  refine g_istore_n [(1, .int (0 : Int32)), (0, .ref a0)] dX7_firstUnfit_1 (Nat.le_of_ble_eq_true rfl) rfl ?_
  obtain ⟨e1, w2, hF⟩ := q_bind hF
  refine g_sub [1, 0] rfl ?_
  refine L_X7_firstUnfit_2 l b D z q_N (0 : Int32) e1 w2 ?_ ?_ ?_
  · intro o3 w4
    replace w4 := w4.symm
    subst w4
    replace hF := q_sl hF
    refine g_aload_n 0 dX7_firstUnfit_18 rfl ?_
    refine g_iload_n 1 dX7_firstUnfit_19 rfl ?_
    obtain ⟨u5, e6, hF⟩ := q_bind hF
    obtain ⟨x7, e8, hF⟩ := q_bind hF
    refine g_callVr0 (ci := 7) (q := (RX7, TX7, 6)) qm_X7_kindAt wd_667 wd_669 wd_3 rfl e6 (M_X7_kindAt l b D z nx e8) (As := [.int o3]) rfl rfl (Nat.le_of_ble_eq_true rfl) ⟨(Nat.le_of_ble_eq_true rfl), (Nat.le_of_ble_eq_true rfl)⟩ ⟨rfl, rfl⟩ ⟨(Nat.le_of_ble_eq_true rfl), (Nat.le_of_ble_eq_true rfl)⟩ dX7_firstUnfit_20 ?_
    refine g_iconst dX7_firstUnfit_23 lt_iconst_4 ?_
    refine g_icmp_ne 31 dX7_firstUnfit_24 (by decide) (fun c9 => ?_) (fun c9 => ?_)
    · replace hF := q_f c9 hF
      refine g_iload_n 1 dX7_firstUnfit_31 rfl ?_
      cases hF
      exact g_iret dX7_firstUnfit_32 rfl ⟨rfl, rfl, rfl⟩ (Nat.le_of_ble_eq_true rfl) (Nat.le_of_ble_eq_true rfl)
    · replace hF := q_t c9 hF
      refine g_iconst dX7_firstUnfit_27 lt_iconst_m1 ?_
      refine g_goto 32 dX7_firstUnfit_28 (by decide) ?_
      cases hF
      exact g_iret dX7_firstUnfit_32 rfl ⟨rfl, rfl, rfl⟩ (Nat.le_of_ble_eq_true rfl) (Nat.le_of_ble_eq_true rfl)
  · intro o11 w12
    replace w12 := w12.symm
    subst w12
    replace hF := q_sr hF
    replace hF := q_sl hF
    refine g_iload_n 0 dX7_firstUnfit_68 rfl ?_
    cases hF
    exact g_iret dX7_firstUnfit_69 rfl ⟨rfl, rfl, rfl⟩ (Nat.le_of_ble_eq_true rfl) (Nat.le_of_ble_eq_true rfl)
  · intro  w14
    replace w14 := w14.symm
    subst w14
    replace hF := q_sr hF
    replace hF := q_sr hF
    refine g_iconst dX7_firstUnfit_85 lt_iconst_m1 ?_
    cases hF
    exact g_iret dX7_firstUnfit_86 rfl ⟨rfl, rfl, rfl⟩ (Nat.le_of_ble_eq_true rfl) (Nat.le_of_ble_eq_true rfl)
def rm_X7_startAt : Room := { frames := 0, cells := 0, slots := 0, locals := 0 }
set_option maxRecDepth 100000 in
set_option maxHeartbeats 4000000 in
theorem M_X7_startAt (l : Launch) (b : Nat) (D : va_G) (z : Nat → Nat) (nx : Nat) {h : qH} {a0 : Nat} {a1 : Int32} {r : Int32} (hF : F_X7_startAt h a0 a1 = some r) : Me l b D z yX7_startAt cX7_startAt 2 (some .int) rm_X7_startAt [.ref a0, .int a1] h nx (qE (some (.int r)) h nx) := by
  refine Me.of (by decide +kernel) (Nat.le_of_ble_eq_true rfl) ?_
  show Go l b D z yX7_startAt cX7_startAt 2 (some .int) rm_X7_startAt (qE (some (.int r)) h nx) 0 [(0, .ref a0), (1, .int a1)] [] h nx 0 0
  unfold F_X7_startAt at hF
  refine g_iload_n 1 dX7_startAt_0 rfl ?_
  refine g_if_lt 21 dX7_startAt_1 (by decide) (fun c1 => ?_) (fun c1 => ?_)
  · replace hF := q_t c1 hF
    refine g_iconst dX7_startAt_21 lt_iconst_m1 ?_
    cases hF
    exact g_iret dX7_startAt_22 rfl ⟨rfl, rfl, rfl⟩ (Nat.le_of_ble_eq_true rfl) (Nat.le_of_ble_eq_true rfl)
  · replace hF := q_f c1 hF
    refine g_iload_n 1 dX7_startAt_4 rfl ?_
    refine g_aload_n 0 dX7_startAt_5 rfl ?_
    obtain ⟨x2, e3, hF⟩ := q_bind hF
    refine g_getfI fl_X7_124 e3 dX7_startAt_6 ?_
    refine g_icmp_ge 21 dX7_startAt_9 (by decide) (fun c4 => ?_) (fun c4 => ?_)
    · replace hF := q_t c4 hF
      refine g_iconst dX7_startAt_21 lt_iconst_m1 ?_
      cases hF
      exact g_iret dX7_startAt_22 rfl ⟨rfl, rfl, rfl⟩ (Nat.le_of_ble_eq_true rfl) (Nat.le_of_ble_eq_true rfl)
    · replace hF := q_f c4 hF
      refine g_aload_n 0 dX7_startAt_12 rfl ?_
      obtain ⟨x5, e6, hF⟩ := q_bind hF
      refine g_getfR fl_X7_20 e6 dX7_startAt_13 ?_
      refine g_iload_n 1 dX7_startAt_16 rfl ?_
      obtain ⟨x7, e8, hF⟩ := q_bind hF
      refine g_iald e8 dX7_startAt_17 ?_
      refine g_goto 22 dX7_startAt_18 (by decide) ?_
      cases hF
      exact g_iret dX7_startAt_22 rfl ⟨rfl, rfl, rfl⟩ (Nat.le_of_ble_eq_true rfl) (Nat.le_of_ble_eq_true rfl)
def rm_X7_blame : Room := { frames := 0, cells := 0, slots := 0, locals := 0 }
set_option maxRecDepth 100000 in
set_option maxHeartbeats 4000000 in
theorem M_X7_blame (l : Launch) (b : Nat) (D : va_G) (z : Nat → Nat) (nx : Nat) {h : qH} {a0 : Nat} {a1 : Int32} {a2 : Int32} {r : qH} (hF : F_X7_blame h a0 a1 a2 = some r) : Me l b D z yX7_blame cX7_blame 3 none rm_X7_blame [.ref a0, .int a1, .int a2] h nx (qE none r nx) := by
  refine Me.of (by decide +kernel) (Nat.le_of_ble_eq_true rfl) ?_
  show Go l b D z yX7_blame cX7_blame 3 none rm_X7_blame (qE none r nx) 0 [(0, .ref a0), (1, .int a1), (2, .int a2)] [] h nx 0 0
  unfold F_X7_blame at hF
  refine g_aload_n 0 dX7_blame_0 rfl ?_
  refine g_iload_n 1 dX7_blame_1 rfl ?_
  obtain ⟨h1, e2, hF⟩ := q_bind hF
  refine g_putf fl_X7_23 e2 rfl rfl dX7_blame_2 ?_
  refine g_aload_n 0 dX7_blame_5 rfl ?_
  refine g_iload_n 2 dX7_blame_6 rfl ?_
  obtain ⟨h3, e4, hF⟩ := q_bind hF
  refine g_putf fl_X7_27 e4 rfl rfl dX7_blame_7 ?_
  cases hF
  exact g_vret dX7_blame_10 rfl ⟨rfl, rfl, rfl⟩ (Nat.le_of_ble_eq_true rfl) (Nat.le_of_ble_eq_true rfl)
def rm_X7_lastToken : Room := { frames := 0, cells := 0, slots := 0, locals := 0 }
set_option maxRecDepth 100000 in
set_option maxHeartbeats 4000000 in
theorem M_X7_lastToken (l : Launch) (b : Nat) (D : va_G) (z : Nat → Nat) (nx : Nat) {h : qH} {a0 : Nat} {r : Int32} (hF : F_X7_lastToken h a0 = some r) : Me l b D z yX7_lastToken cX7_lastToken 1 (some .int) rm_X7_lastToken [.ref a0] h nx (qE (some (.int r)) h nx) := by
  refine Me.of (by decide +kernel) (Nat.le_of_ble_eq_true rfl) ?_
  show Go l b D z yX7_lastToken cX7_lastToken 1 (some .int) rm_X7_lastToken (qE (some (.int r)) h nx) 0 [(0, .ref a0)] [] h nx 0 0
  unfold F_X7_lastToken at hF
  refine g_aload_n 0 dX7_lastToken_0 rfl ?_
  obtain ⟨x1, e2, hF⟩ := q_bind hF
  refine g_getfI fl_X7_124 e2 dX7_lastToken_1 ?_
  refine g_iconst dX7_lastToken_4 lt_iconst_1 ?_
  refine g_isub dX7_lastToken_5 ?_
  cases hF
  exact g_iret dX7_lastToken_6 rfl ⟨rfl, rfl, rfl⟩ (Nat.le_of_ble_eq_true rfl) (Nat.le_of_ble_eq_true rfl)
def rm_X7_checkNumbers : Room := { frames := 1, cells := 0, slots := 0, locals := 22 }
set_option maxRecDepth 100000 in
set_option maxHeartbeats 4000000 in
theorem J_X7_checkNumbers_86 (l : Launch) (b : Nat) (D : va_G) (z : Nat → Nat) {Φ : Option Value → qH → Nat → Prop} {nx : Nat} {h : qH} {a0 : Nat} {a1 : Int32} {a2 : Int32} {a3 : Int32} {o : (Int32 × qH) ⊕ qH} (hF : j_X7_checkNumbers_86 z h a0 a1 a2 a3  = some o) (hback : ∀ (b3 : Int32) (bh : qH), o = .inl (b3, bh) → Go l b D z yX7_checkNumbers cX7_checkNumbers 6 none rm_X7_checkNumbers Φ 8 [(0, .ref a0), (1, .int a1), (2, .int a2), (3, .int b3)] [] bh nx 0 0) (hx0 : ∀  (bh : qH), o = .inr bh → Go l b D z yX7_checkNumbers cX7_checkNumbers 6 none rm_X7_checkNumbers Φ 106 [] [] bh nx 0 0) : Go l b D z yX7_checkNumbers cX7_checkNumbers 6 none rm_X7_checkNumbers Φ 86 [(0, .ref a0), (1, .int a1), (2, .int a2), (3, .int a3)] [] h nx 0 0 := by
  unfold j_X7_checkNumbers_86 at hF
  refine g_aload_n 0 dX7_checkNumbers_86 rfl ?_
  refine g_iconst dX7_checkNumbers_87 lt_iconst_2 ?_
  refine g_aload_n 0 dX7_checkNumbers_88 rfl ?_
  refine g_iload_n 1 dX7_checkNumbers_89 rfl ?_
  refine g_iconst dX7_checkNumbers_90 lt_iconst_1 ?_
  refine g_iadd dX7_checkNumbers_91 ?_
  refine g_iload_n 3 dX7_checkNumbers_92 rfl ?_
  refine g_iadd dX7_checkNumbers_93 ?_
  obtain ⟨u1, e2, hF⟩ := q_bind hF
  obtain ⟨x3, e4, hF⟩ := q_bind hF
  refine g_callVr0 (ci := 7) (q := (RX7, TX7, 6)) qm_X7_startAt wd_688 wd_690 wd_7 rfl e2 (M_X7_startAt l b D z nx e4) (As := [.int ((a1 + (1 : Int32)) + a3)]) rfl rfl (Nat.le_of_ble_eq_true rfl) ⟨(Nat.le_of_ble_eq_true rfl), (Nat.le_of_ble_eq_true rfl)⟩ ⟨rfl, rfl⟩ ⟨(Nat.le_of_ble_eq_true rfl), (Nat.le_of_ble_eq_true rfl)⟩ dX7_checkNumbers_94 ?_
  obtain ⟨u5, e6, hF⟩ := q_bind hF
  obtain ⟨x7, e8, hF⟩ := q_bind hF
  refine g_callVv0 (ci := 7) (q := (RX7, TX7, 6)) qm_X7_blame wd_692 wd_694 wd_8 rfl e6 (M_X7_blame l b D z nx e8) (As := [.int (2 : Int32), .int x3]) rfl rfl (Nat.le_of_ble_eq_true rfl) ⟨(Nat.le_of_ble_eq_true rfl), (Nat.le_of_ble_eq_true rfl)⟩ ⟨rfl, rfl⟩ ⟨(Nat.le_of_ble_eq_true rfl), (Nat.le_of_ble_eq_true rfl)⟩ dX7_checkNumbers_97 ?_
  refine g_iinc [(3, .int (a3 + 1)), (0, .ref a0), (1, .int a1), (2, .int a2)] 3 dX7_checkNumbers_100 rfl (congrArg (a3 + ·) lt_iconst_1) (Nat.le_of_ble_eq_true rfl) rfl ?_
  refine g_goto 8 dX7_checkNumbers_103 (by decide) ?_
  cases hF
  refine g_sub [1, 2, 3, 0] rfl ?_
  exact hback _ _ rfl
set_option maxRecDepth 100000 in
set_option maxHeartbeats 4000000 in
theorem B_X7_checkNumbers_8 (l : Launch) (b : Nat) (D : va_G) (z : Nat → Nat) {Φ : Option Value → qH → Nat → Prop} {nx : Nat} {a0 : Nat} {a1 : Int32} {a2 : Int32} {a3 : Int32} {h : qH} {o : (Int32 × qH) ⊕ qH} (hF : b_X7_checkNumbers_8 z a0 a1 a2 a3 h = some o) (hback : ∀ (b3 : Int32) (bh : qH), o = .inl (b3, bh) → Go l b D z yX7_checkNumbers cX7_checkNumbers 6 none rm_X7_checkNumbers Φ 8 [(0, .ref a0), (1, .int a1), (2, .int a2), (3, .int b3)] [] bh nx 0 0) (hx0 : ∀  (bh : qH), o = .inr bh → Go l b D z yX7_checkNumbers cX7_checkNumbers 6 none rm_X7_checkNumbers Φ 106 [] [] bh nx 0 0) : Go l b D z yX7_checkNumbers cX7_checkNumbers 6 none rm_X7_checkNumbers Φ 8 [(0, .ref a0), (1, .int a1), (2, .int a2), (3, .int a3)] [] h nx 0 0 := by
  unfold b_X7_checkNumbers_8 at hF
  refine g_iload_n 3 dX7_checkNumbers_8 rfl ?_
  refine g_iload_n 2 dX7_checkNumbers_9 rfl ?_
  obtain ⟨x1, e2, hF⟩ := q_bind hF
  refine g_callSr0 qm_X7_numbersOf wd_683 wd_684 (M_X7_numbersOf l b D z nx e2) (As := [.int a2]) rfl rfl (Nat.le_of_ble_eq_true rfl) ⟨(Nat.le_of_ble_eq_true rfl), (Nat.le_of_ble_eq_true rfl)⟩ ⟨rfl, rfl⟩ ⟨(Nat.le_of_ble_eq_true rfl), (Nat.le_of_ble_eq_true rfl)⟩ dX7_checkNumbers_10 ?_
  refine g_icmp_ge 106 dX7_checkNumbers_13 (by decide) (fun c3 => ?_) (fun c3 => ?_)
  · replace hF := q_t c3 hF
    cases hF
    refine g_sub [] rfl ?_
    exact hx0 _ rfl
  · replace hF := q_f c3 hF
    refine g_aload_n 0 dX7_checkNumbers_16 rfl ?_
    obtain ⟨x4, e5, hF⟩ := q_bind hF
    refine g_getfI fl_X7_23 e5 dX7_checkNumbers_17 ?_
    refine g_if_ne 106 dX7_checkNumbers_20 (by decide) (fun c6 => ?_) (fun c6 => ?_)
    · replace hF := q_f c6 hF
      cases hF
      refine g_sub [] rfl ?_
      exact hx0 _ rfl
    · replace hF := q_t c6 hF
      refine g_aload_n 0 dX7_checkNumbers_23 rfl ?_
      refine g_iload_n 1 dX7_checkNumbers_24 rfl ?_
      refine g_iconst dX7_checkNumbers_25 lt_iconst_1 ?_
      refine g_iadd dX7_checkNumbers_26 ?_
      refine g_iload_n 3 dX7_checkNumbers_27 rfl ?_
      refine g_iadd dX7_checkNumbers_28 ?_
      obtain ⟨u7, e8, hF⟩ := q_bind hF
      obtain ⟨x9, e10, hF⟩ := q_bind hF
      refine g_callVr0 (ci := 7) (q := (RX7, TX7, 6)) qm_X7_valueAt wd_679 wd_681 wd_6 rfl e8 (M_X7_valueAt l b D z nx e10) (As := [.int ((a1 + (1 : Int32)) + a3)]) rfl rfl (Nat.le_of_ble_eq_true rfl) ⟨(Nat.le_of_ble_eq_true rfl), (Nat.le_of_ble_eq_true rfl)⟩ ⟨rfl, rfl⟩ ⟨(Nat.le_of_ble_eq_true rfl), (Nat.le_of_ble_eq_true rfl)⟩ dX7_checkNumbers_29 ?_
      refine g_istore [(4, .int x9), (0, .ref a0), (1, .int a1), (2, .int a2), (3, .int a3)] dX7_checkNumbers_32 (Nat.le_of_ble_eq_true rfl) rfl ?_
      refine g_iload_n 3 dX7_checkNumbers_34 rfl ?_
      refine g_iconst dX7_checkNumbers_35 lt_iconst_4 ?_
      refine g_imul dX7_checkNumbers_36 ?_
      refine g_iload_n 4 dX7_checkNumbers_37 rfl ?_
      refine g_iadd dX7_checkNumbers_38 ?_
      refine g_istore [(5, .int ((a2 * (4 : Int32)) + a3)), (4, .int x9), (0, .ref a0), (1, .int a1), (2, .int a2), (3, .int a3)] dX7_checkNumbers_39 (Nat.le_of_ble_eq_true rfl) rfl ?_
      refine g_iload 0 dX7_checkNumbers_41 rfl ?_
      refine g_if_lt 100 dX7_checkNumbers_43 (by decide) (fun c11 => ?_) (fun c11 => ?_)
      · replace hF := q_t c11 hF
        refine g_iinc [(3, .int (a3 + 1)), (5, .int ((a2 * (4 : Int32)) + a3)), (4, .int x9), (0, .ref a0), (1, .int a1), (2, .int a2)] 5 dX7_checkNumbers_100 rfl (congrArg (a3 + ·) lt_iconst_1) (Nat.le_of_ble_eq_true rfl) rfl ?_
        refine g_goto 8 dX7_checkNumbers_103 (by decide) ?_
        cases hF
        refine g_sub [3, 4, 5, 0] rfl ?_
        exact hback _ _ rfl
      · replace hF := q_f c11 hF
        refine g_iload 0 dX7_checkNumbers_46 rfl ?_
        refine g_gets (i := 2) rfl wd_708 dX7_checkNumbers_48 ?_
        refine g_slen (i := 2) rfl dX7_checkNumbers_51 ?_
        refine g_icmp_ge 100 dX7_checkNumbers_52 (by decide) (fun c12 => ?_) (fun c12 => ?_)
        · replace hF := q_t c12 hF
          refine g_iinc [(3, .int (a3 + 1)), (5, .int ((a2 * (4 : Int32)) + a3)), (4, .int x9), (0, .ref a0), (1, .int a1), (2, .int a2)] 5 dX7_checkNumbers_100 rfl (congrArg (a3 + ·) lt_iconst_1) (Nat.le_of_ble_eq_true rfl) rfl ?_
          refine g_goto 8 dX7_checkNumbers_103 (by decide) ?_
          cases hF
          refine g_sub [3, 4, 5, 0] rfl ?_
          exact hback _ _ rfl
        · replace hF := q_f c12 hF
          refine g_iload 0 dX7_checkNumbers_55 rfl ?_
          refine g_gets (i := 3) rfl wd_710 dX7_checkNumbers_57 ?_
          refine g_slen (i := 3) rfl dX7_checkNumbers_60 ?_
          refine g_icmp_ge 100 dX7_checkNumbers_61 (by decide) (fun c13 => ?_) (fun c13 => ?_)
          · replace hF := q_t c13 hF
            refine g_iinc [(3, .int (a3 + 1)), (5, .int ((a2 * (4 : Int32)) + a3)), (4, .int x9), (0, .ref a0), (1, .int a1), (2, .int a2)] 5 dX7_checkNumbers_100 rfl (congrArg (a3 + ·) lt_iconst_1) (Nat.le_of_ble_eq_true rfl) rfl ?_
            refine g_goto 8 dX7_checkNumbers_103 (by decide) ?_
            cases hF
            refine g_sub [3, 4, 5, 0] rfl ?_
            exact hback _ _ rfl
          · replace hF := q_f c13 hF
            refine g_iload 1 dX7_checkNumbers_64 rfl ?_
            refine g_gets (i := 2) rfl wd_708 dX7_checkNumbers_66 ?_
            refine g_iload 0 dX7_checkNumbers_69 rfl ?_
            obtain ⟨x14, e15, hF⟩ := q_bind hF
            refine g_ist (i := 2) rfl e15 dX7_checkNumbers_71 ?_
            refine g_icmp_lt 86 dX7_checkNumbers_72 (by decide) (fun c16 => ?_) (fun c16 => ?_)
            · replace hF := q_t c16 hF
              refine g_sub [2, 3, 4, 5] rfl ?_
              exact J_X7_checkNumbers_86 l b D z hF hback hx0
            · replace hF := q_f c16 hF
              refine g_iload 1 dX7_checkNumbers_75 rfl ?_
              refine g_gets (i := 3) rfl wd_710 dX7_checkNumbers_77 ?_
              refine g_iload 0 dX7_checkNumbers_80 rfl ?_
              obtain ⟨x17, e18, hF⟩ := q_bind hF
              refine g_ist (i := 3) rfl e18 dX7_checkNumbers_82 ?_
              refine g_icmp_le 100 dX7_checkNumbers_83 (by decide) (fun c19 => ?_) (fun c19 => ?_)
              · replace hF := q_t c19 hF
                refine g_iinc [(3, .int (a3 + 1)), (5, .int ((a2 * (4 : Int32)) + a3)), (4, .int x9), (0, .ref a0), (1, .int a1), (2, .int a2)] 5 dX7_checkNumbers_100 rfl (congrArg (a3 + ·) lt_iconst_1) (Nat.le_of_ble_eq_true rfl) rfl ?_
                refine g_goto 8 dX7_checkNumbers_103 (by decide) ?_
                cases hF
                refine g_sub [3, 4, 5, 0] rfl ?_
                exact hback _ _ rfl
              · replace hF := q_f c19 hF
                refine g_sub [2, 3, 4, 5] rfl ?_
                exact J_X7_checkNumbers_86 l b D z hF hback hx0
set_option maxRecDepth 100000 in
set_option maxHeartbeats 4000000 in
theorem L_X7_checkNumbers_8 (l : Launch) (b : Nat) (D : va_G) (z : Nat → Nat) {Φ : Option Value → qH → Nat → Prop} {nx : Nat} {a0 : Nat} {a1 : Int32} {a2 : Int32} : ∀ (n : Nat) (a3 : Int32) (h : qH) (e : qH), q_lp (s_X7_checkNumbers_8 z a0 a1 a2) n (a3, h) = some e → (∀  (bh : qH), e = bh → Go l b D z yX7_checkNumbers cX7_checkNumbers 6 none rm_X7_checkNumbers Φ 106 [] [] bh nx 0 0) → Go l b D z yX7_checkNumbers cX7_checkNumbers 6 none rm_X7_checkNumbers Φ 8 [(0, .ref a0), (1, .int a1), (2, .int a2), (3, .int a3)] [] h nx 0 0 := by
  intro n
  induction n with
  | zero => intro a3 h e he; cases (show none = some e from he)
  | succ n ih =>
    intro a3 h e he hx0
    obtain ⟨o, ho, h1, h2⟩ := q_lp_succ he
    exact B_X7_checkNumbers_8 l b D z (show b_X7_checkNumbers_8 z a0 a1 a2 a3 h = some o from ho) (fun b3 bh hb => ih _ _ e (h1 _ hb) hx0) (fun p0 hr => hx0 p0 (h2 _ hr).symm)
set_option maxRecDepth 100000 in
set_option maxHeartbeats 4000000 in
theorem M_X7_checkNumbers (l : Launch) (b : Nat) (D : va_G) (z : Nat → Nat) (nx : Nat) {h : qH} {a0 : Nat} {a1 : Int32} {r : qH} (hF : F_X7_checkNumbers z h a0 a1 = some r) : Me l b D z yX7_checkNumbers cX7_checkNumbers 6 none rm_X7_checkNumbers [.ref a0, .int a1] h nx (qE none r nx) := by
  refine Me.of (by decide +kernel) (Nat.le_of_ble_eq_true rfl) ?_
  show Go l b D z yX7_checkNumbers cX7_checkNumbers 6 none rm_X7_checkNumbers (qE none r nx) 0 [(0, .ref a0), (1, .int a1)] [] h nx 0 0
  unfold F_X7_checkNumbers at hF
  refine g_aload_n 0 dX7_checkNumbers_0 rfl ?_
  refine g_iload_n 1 dX7_checkNumbers_1 rfl ?_
  obtain ⟨u1, e2, hF⟩ := q_bind hF
  obtain ⟨x3, e4, hF⟩ := q_bind hF
  refine g_callVr0 (ci := 7) (q := (RX7, TX7, 6)) qm_X7_valueAt wd_679 wd_681 wd_6 rfl e2 (M_X7_valueAt l b D z nx e4) (As := [.int a1]) rfl rfl (Nat.le_of_ble_eq_true rfl) ⟨(Nat.le_of_ble_eq_true rfl), (Nat.le_of_ble_eq_true rfl)⟩ ⟨rfl, rfl⟩ ⟨(Nat.le_of_ble_eq_true rfl), (Nat.le_of_ble_eq_true rfl)⟩ dX7_checkNumbers_2 ?_
  refine g_istore_n [(2, .int x3), (0, .ref a0), (1, .int a1)] dX7_checkNumbers_5 (Nat.le_of_ble_eq_true rfl) rfl ?_
  refine g_iconst dX7_checkNumbers_6 lt_iconst_0 ?_
  refine g_istore_n [(3, .int (0 : Int32)), (2, .int x3), (0, .ref a0), (1, .int a1)] dX7_checkNumbers_7 (Nat.le_of_ble_eq_true rfl) rfl ?_
  obtain ⟨e5, w6, hF⟩ := q_bind hF
  refine g_sub [2, 3, 1, 0] rfl ?_
  refine L_X7_checkNumbers_8 l b D z q_N (0 : Int32) h e5 w6 ?_
  · intro h7 w8
    replace w8 := w8.symm
    subst w8
    cases hF
    exact g_vret dX7_checkNumbers_106 rfl ⟨rfl, rfl, rfl⟩ (Nat.le_of_ble_eq_true rfl) (Nat.le_of_ble_eq_true rfl)
def rm_X7_findWrongNumber : Room := { frames := 2, cells := 0, slots := 0, locals := 47 }
set_option maxRecDepth 100000 in
set_option maxHeartbeats 4000000 in
theorem J_X7_findWrongNumber_134 (l : Launch) (b : Nat) (D : va_G) (z : Nat → Nat) {Φ : Option Value → qH → Nat → Prop} {nx : Nat} {h : qH} {a0 : Nat} {a1 : Int32} {a2 : Int32} {a3 : Int32} {a4 : Int32} {a5 : Int32} {o : (Int32 × Int32 × Int32 × Int32 × Int32 × qH) ⊕ qH} (hF : j_X7_findWrongNumber_134 z h a0 a1 a2 a3 a4 a5  = some o) (hback : ∀ (b1 : Int32) (b2 : Int32) (b3 : Int32) (b4 : Int32) (b5 : Int32) (bh : qH), o = .inl (b1, b2, b3, b4, b5, bh) → Go l b D z yX7_findWrongNumber cX7_findWrongNumber 7 none rm_X7_findWrongNumber Φ 12 [(0, .ref a0), (1, .int b1), (2, .int b2), (3, .int b3), (4, .int b4), (5, .int b5)] [] bh nx 0 0) (hx0 : ∀  (bh : qH), o = .inr bh → Go l b D z yX7_findWrongNumber cX7_findWrongNumber 7 none rm_X7_findWrongNumber Φ 165 [] [] bh nx 0 0) : Go l b D z yX7_findWrongNumber cX7_findWrongNumber 7 none rm_X7_findWrongNumber Φ 134 [(0, .ref a0), (1, .int a1), (2, .int a2), (3, .int a3), (4, .int a4), (5, .int a5)] [] h nx 0 0 := by
  unfold j_X7_findWrongNumber_134 at hF
  refine g_aload_n 0 dX7_findWrongNumber_134 rfl ?_
  refine g_iconst dX7_findWrongNumber_135 lt_iconst_3 ?_
  refine g_aload_n 0 dX7_findWrongNumber_136 rfl ?_
  refine g_iload 5 dX7_findWrongNumber_137 rfl ?_
  obtain ⟨u1, e2, hF⟩ := q_bind hF
  obtain ⟨x3, e4, hF⟩ := q_bind hF
  refine g_callVr0 (ci := 7) (q := (RX7, TX7, 6)) qm_X7_startAt wd_688 wd_690 wd_7 rfl e2 (M_X7_startAt l b D z nx e4) (As := [.int a5]) rfl rfl (Nat.le_of_ble_eq_true rfl) ⟨(Nat.le_of_ble_eq_true rfl), (Nat.le_of_ble_eq_true rfl)⟩ ⟨rfl, rfl⟩ ⟨(Nat.le_of_ble_eq_true rfl), (Nat.le_of_ble_eq_true rfl)⟩ dX7_findWrongNumber_139 ?_
  obtain ⟨u5, e6, hF⟩ := q_bind hF
  obtain ⟨x7, e8, hF⟩ := q_bind hF
  refine g_callVv0 (ci := 7) (q := (RX7, TX7, 6)) qm_X7_blame wd_692 wd_694 wd_8 rfl e6 (M_X7_blame l b D z nx e8) (As := [.int (3 : Int32), .int x3]) rfl rfl (Nat.le_of_ble_eq_true rfl) ⟨(Nat.le_of_ble_eq_true rfl), (Nat.le_of_ble_eq_true rfl)⟩ ⟨rfl, rfl⟩ ⟨(Nat.le_of_ble_eq_true rfl), (Nat.le_of_ble_eq_true rfl)⟩ dX7_findWrongNumber_142 ?_
  refine g_goto 154 dX7_findWrongNumber_145 (by decide) ?_
  refine g_aload_n 0 dX7_findWrongNumber_154 rfl ?_
  refine g_iload 5 dX7_findWrongNumber_155 rfl ?_
  obtain ⟨u9, e10, hF⟩ := q_bind hF
  obtain ⟨x11, e12, hF⟩ := q_bind hF
  refine g_callVr0 (ci := 7) (q := (RX7, TX7, 6)) qm_X7_behindStatement wd_675 wd_677 wd_5 rfl e10 (M_X7_behindStatement l b D z nx e12) (As := [.int a5]) rfl rfl (Nat.le_of_ble_eq_true rfl) ⟨(Nat.le_of_ble_eq_true rfl), (Nat.le_of_ble_eq_true rfl)⟩ ⟨rfl, rfl⟩ ⟨(Nat.le_of_ble_eq_true rfl), (Nat.le_of_ble_eq_true rfl)⟩ dX7_findWrongNumber_157 ?_
  refine g_istore [(5, .int x11), (0, .ref a0), (1, .int a1), (2, .int a2), (3, .int a3), (4, .int a4)] dX7_findWrongNumber_160 (Nat.le_of_ble_eq_true rfl) rfl ?_
  refine g_goto 12 dX7_findWrongNumber_162 (by decide) ?_
  cases hF
  refine g_sub [1, 2, 3, 4, 5, 0] rfl ?_
  exact hback _ _ _ _ _ _ rfl
set_option maxRecDepth 100000 in
set_option maxHeartbeats 4000000 in
theorem J_X7_findWrongNumber_106 (l : Launch) (b : Nat) (D : va_G) (z : Nat → Nat) {Φ : Option Value → qH → Nat → Prop} {nx : Nat} {h : qH} {a0 : Nat} {a1 : Int32} {a2 : Int32} {a3 : Int32} {a5 : Int32} {t0 : Int32} {t1 : Int32} {o : (Int32 × Int32 × Int32 × Int32 × Int32 × qH) ⊕ qH} (hF : j_X7_findWrongNumber_106 z h a0 a1 a2 a3 a5 t0 t1 = some o) (hback : ∀ (b1 : Int32) (b2 : Int32) (b3 : Int32) (b4 : Int32) (b5 : Int32) (bh : qH), o = .inl (b1, b2, b3, b4, b5, bh) → Go l b D z yX7_findWrongNumber cX7_findWrongNumber 7 none rm_X7_findWrongNumber Φ 12 [(0, .ref a0), (1, .int b1), (2, .int b2), (3, .int b3), (4, .int b4), (5, .int b5)] [] bh nx 0 0) (hx0 : ∀  (bh : qH), o = .inr bh → Go l b D z yX7_findWrongNumber cX7_findWrongNumber 7 none rm_X7_findWrongNumber Φ 165 [] [] bh nx 0 0) : Go l b D z yX7_findWrongNumber cX7_findWrongNumber 7 none rm_X7_findWrongNumber Φ 106 [(0, .ref a0), (1, .int a1), (2, .int a2), (3, .int a3), (5, .int a5)] [.int t0, .int t1] h nx 0 0 := by
  unfold j_X7_findWrongNumber_106 at hF
  refine g_iadd dX7_findWrongNumber_106 ?_
  refine g_istore [(4, .int (t1 + t0)), (0, .ref a0), (1, .int a1), (2, .int a2), (3, .int a3), (5, .int a5)] dX7_findWrongNumber_107 (Nat.le_of_ble_eq_true rfl) rfl ?_
  refine g_iload_n 2 dX7_findWrongNumber_109 rfl ?_
  refine g_bipush dX7_findWrongNumber_110 lt_bipush_20 ?_
  refine g_icmp_gt 134 dX7_findWrongNumber_112 (by decide) (fun c1 => ?_) (fun c1 => ?_)
  · replace hF := q_t c1 hF
    refine g_sub [1, 2, 3, 4, 0, 5] rfl ?_
    exact J_X7_findWrongNumber_134 l b D z hF hback hx0
  · replace hF := q_f c1 hF
    refine g_iload_n 3 dX7_findWrongNumber_115 rfl ?_
    refine g_bipush dX7_findWrongNumber_116 lt_bipush_8 ?_
    refine g_icmp_gt 134 dX7_findWrongNumber_118 (by decide) (fun c2 => ?_) (fun c2 => ?_)
    · replace hF := q_t c2 hF
      refine g_sub [1, 2, 3, 4, 0, 5] rfl ?_
      exact J_X7_findWrongNumber_134 l b D z hF hback hx0
    · replace hF := q_f c2 hF
      refine g_iload_n 4 dX7_findWrongNumber_121 rfl ?_
      refine g_bipush dX7_findWrongNumber_122 lt_bipush_40 ?_
      refine g_icmp_gt 134 dX7_findWrongNumber_124 (by decide) (fun c3 => ?_) (fun c3 => ?_)
      · replace hF := q_t c3 hF
        refine g_sub [1, 2, 3, 4, 0, 5] rfl ?_
        exact J_X7_findWrongNumber_134 l b D z hF hback hx0
      · replace hF := q_f c3 hF
        refine g_iload 0 dX7_findWrongNumber_127 rfl ?_
        refine g_bipush dX7_findWrongNumber_129 lt_bipush_12 ?_
        refine g_icmp_le 148 dX7_findWrongNumber_131 (by decide) (fun c4 => ?_) (fun c4 => ?_)
        · replace hF := q_t c4 hF
          refine g_aload_n 1 dX7_findWrongNumber_148 rfl ?_
          refine g_iload 5 dX7_findWrongNumber_149 rfl ?_
          obtain ⟨u5, e6, hF⟩ := q_bind hF
          obtain ⟨x7, e8, hF⟩ := q_bind hF
          refine g_callVv0 (ci := 7) (q := (RX7, TX7, 6)) qm_X7_checkNumbers wd_704 wd_706 wd_11 rfl e6 (M_X7_checkNumbers l b D z nx e8) (As := [.int a5]) rfl rfl (Nat.le_of_ble_eq_true rfl) ⟨(Nat.le_of_ble_eq_true rfl), (Nat.le_of_ble_eq_true rfl)⟩ ⟨rfl, rfl⟩ ⟨(Nat.le_of_ble_eq_true rfl), (Nat.le_of_ble_eq_true rfl)⟩ dX7_findWrongNumber_151 ?_
          refine g_aload_n 1 dX7_findWrongNumber_154 rfl ?_
          refine g_iload 5 dX7_findWrongNumber_155 rfl ?_
          obtain ⟨u9, e10, hF⟩ := q_bind hF
          obtain ⟨x11, e12, hF⟩ := q_bind hF
          refine g_callVr0 (ci := 7) (q := (RX7, TX7, 6)) qm_X7_behindStatement wd_675 wd_677 wd_5 rfl e10 (M_X7_behindStatement l b D z nx e12) (As := [.int a5]) rfl rfl (Nat.le_of_ble_eq_true rfl) ⟨(Nat.le_of_ble_eq_true rfl), (Nat.le_of_ble_eq_true rfl)⟩ ⟨rfl, rfl⟩ ⟨(Nat.le_of_ble_eq_true rfl), (Nat.le_of_ble_eq_true rfl)⟩ dX7_findWrongNumber_157 ?_
          refine g_istore [(5, .int x11), (4, .int (t1 + t0)), (0, .ref a0), (1, .int a1), (2, .int a2), (3, .int a3)] dX7_findWrongNumber_160 (Nat.le_of_ble_eq_true rfl) rfl ?_
          refine g_goto 12 dX7_findWrongNumber_162 (by decide) ?_
          cases hF
          refine g_sub [2, 3, 4, 5, 1, 0] rfl ?_
          exact hback _ _ _ _ _ _ rfl
        · replace hF := q_f c4 hF
          refine g_sub [1, 2, 3, 4, 0, 5] rfl ?_
          exact J_X7_findWrongNumber_134 l b D z hF hback hx0
set_option maxRecDepth 100000 in
set_option maxHeartbeats 4000000 in
theorem J_X7_findWrongNumber_105 (l : Launch) (b : Nat) (D : va_G) (z : Nat → Nat) {Φ : Option Value → qH → Nat → Prop} {nx : Nat} {h : qH} {a0 : Nat} {a1 : Int32} {a2 : Int32} {a3 : Int32} {a5 : Int32} {t0 : Int32} {o : (Int32 × Int32 × Int32 × Int32 × Int32 × qH) ⊕ qH} (hF : j_X7_findWrongNumber_105 z h a0 a1 a2 a3 a5 t0 = some o) (hback : ∀ (b1 : Int32) (b2 : Int32) (b3 : Int32) (b4 : Int32) (b5 : Int32) (bh : qH), o = .inl (b1, b2, b3, b4, b5, bh) → Go l b D z yX7_findWrongNumber cX7_findWrongNumber 7 none rm_X7_findWrongNumber Φ 12 [(0, .ref a0), (1, .int b1), (2, .int b2), (3, .int b3), (4, .int b4), (5, .int b5)] [] bh nx 0 0) (hx0 : ∀  (bh : qH), o = .inr bh → Go l b D z yX7_findWrongNumber cX7_findWrongNumber 7 none rm_X7_findWrongNumber Φ 165 [] [] bh nx 0 0) : Go l b D z yX7_findWrongNumber cX7_findWrongNumber 7 none rm_X7_findWrongNumber Φ 105 [(0, .ref a0), (1, .int a1), (2, .int a2), (3, .int a3), (5, .int a5)] [.int t0] h nx 0 0 := by
  unfold j_X7_findWrongNumber_105 at hF
  refine g_iconst dX7_findWrongNumber_105 lt_iconst_0 ?_
  exact J_X7_findWrongNumber_106 l b D z hF hback hx0
set_option maxRecDepth 100000 in
set_option maxHeartbeats 4000000 in
theorem J_X7_findWrongNumber_83 (l : Launch) (b : Nat) (D : va_G) (z : Nat → Nat) {Φ : Option Value → qH → Nat → Prop} {nx : Nat} {h : qH} {a0 : Nat} {a1 : Int32} {a2 : Int32} {a4 : Int32} {a5 : Int32} {a6 : Int32} {t0 : Int32} {t1 : Int32} {o : (Int32 × Int32 × Int32 × Int32 × Int32 × qH) ⊕ qH} (hF : j_X7_findWrongNumber_83 z h a0 a1 a2 a4 a5 a6 t0 t1 = some o) (hback : ∀ (b1 : Int32) (b2 : Int32) (b3 : Int32) (b4 : Int32) (b5 : Int32) (bh : qH), o = .inl (b1, b2, b3, b4, b5, bh) → Go l b D z yX7_findWrongNumber cX7_findWrongNumber 7 none rm_X7_findWrongNumber Φ 12 [(0, .ref a0), (1, .int b1), (2, .int b2), (3, .int b3), (4, .int b4), (5, .int b5)] [] bh nx 0 0) (hx0 : ∀  (bh : qH), o = .inr bh → Go l b D z yX7_findWrongNumber cX7_findWrongNumber 7 none rm_X7_findWrongNumber Φ 165 [] [] bh nx 0 0) : Go l b D z yX7_findWrongNumber cX7_findWrongNumber 7 none rm_X7_findWrongNumber Φ 83 [(0, .ref a0), (1, .int a1), (2, .int a2), (4, .int a4), (5, .int a5), (6, .int a6)] [.int t0, .int t1] h nx 0 0 := by
  unfold j_X7_findWrongNumber_83 at hF
  refine g_iadd dX7_findWrongNumber_83 ?_
  refine g_istore_n [(3, .int (t1 + t0)), (0, .ref a0), (1, .int a1), (2, .int a2), (4, .int a4), (5, .int a5), (6, .int a6)] dX7_findWrongNumber_84 (Nat.le_of_ble_eq_true rfl) rfl ?_
  refine g_iload 4 dX7_findWrongNumber_85 rfl ?_
  refine g_iload 6 dX7_findWrongNumber_87 rfl ?_
  refine g_bipush dX7_findWrongNumber_89 lt_bipush_13 ?_
  refine g_icmp_lt 105 dX7_findWrongNumber_91 (by decide) (fun c1 => ?_) (fun c1 => ?_)
  · replace hF := q_t c1 hF
    refine g_sub [1, 2, 3, 0, 5] rfl ?_
    exact J_X7_findWrongNumber_105 l b D z hF hback hx0
  · replace hF := q_f c1 hF
    refine g_iload 6 dX7_findWrongNumber_94 rfl ?_
    refine g_bipush dX7_findWrongNumber_96 lt_bipush_15 ?_
    refine g_icmp_ge 105 dX7_findWrongNumber_98 (by decide) (fun c2 => ?_) (fun c2 => ?_)
    · replace hF := q_t c2 hF
      refine g_sub [1, 2, 3, 0, 5] rfl ?_
      exact J_X7_findWrongNumber_105 l b D z hF hback hx0
    · replace hF := q_f c2 hF
      refine g_iconst dX7_findWrongNumber_101 lt_iconst_1 ?_
      refine g_goto 106 dX7_findWrongNumber_102 (by decide) ?_
      refine g_sub [1, 2, 3, 0, 5] rfl ?_
      exact J_X7_findWrongNumber_106 l b D z hF hback hx0
set_option maxRecDepth 100000 in
set_option maxHeartbeats 4000000 in
theorem J_X7_findWrongNumber_82 (l : Launch) (b : Nat) (D : va_G) (z : Nat → Nat) {Φ : Option Value → qH → Nat → Prop} {nx : Nat} {h : qH} {a0 : Nat} {a1 : Int32} {a2 : Int32} {a4 : Int32} {a5 : Int32} {a6 : Int32} {t0 : Int32} {o : (Int32 × Int32 × Int32 × Int32 × Int32 × qH) ⊕ qH} (hF : j_X7_findWrongNumber_82 z h a0 a1 a2 a4 a5 a6 t0 = some o) (hback : ∀ (b1 : Int32) (b2 : Int32) (b3 : Int32) (b4 : Int32) (b5 : Int32) (bh : qH), o = .inl (b1, b2, b3, b4, b5, bh) → Go l b D z yX7_findWrongNumber cX7_findWrongNumber 7 none rm_X7_findWrongNumber Φ 12 [(0, .ref a0), (1, .int b1), (2, .int b2), (3, .int b3), (4, .int b4), (5, .int b5)] [] bh nx 0 0) (hx0 : ∀  (bh : qH), o = .inr bh → Go l b D z yX7_findWrongNumber cX7_findWrongNumber 7 none rm_X7_findWrongNumber Φ 165 [] [] bh nx 0 0) : Go l b D z yX7_findWrongNumber cX7_findWrongNumber 7 none rm_X7_findWrongNumber Φ 82 [(0, .ref a0), (1, .int a1), (2, .int a2), (4, .int a4), (5, .int a5), (6, .int a6)] [.int t0] h nx 0 0 := by
  unfold j_X7_findWrongNumber_82 at hF
  refine g_iconst dX7_findWrongNumber_82 lt_iconst_0 ?_
  exact J_X7_findWrongNumber_83 l b D z hF hback hx0
set_option maxRecDepth 100000 in
set_option maxHeartbeats 4000000 in
theorem J_X7_findWrongNumber_61 (l : Launch) (b : Nat) (D : va_G) (z : Nat → Nat) {Φ : Option Value → qH → Nat → Prop} {nx : Nat} {h : qH} {a0 : Nat} {a1 : Int32} {a3 : Int32} {a4 : Int32} {a5 : Int32} {a6 : Int32} {t0 : Int32} {t1 : Int32} {o : (Int32 × Int32 × Int32 × Int32 × Int32 × qH) ⊕ qH} (hF : j_X7_findWrongNumber_61 z h a0 a1 a3 a4 a5 a6 t0 t1 = some o) (hback : ∀ (b1 : Int32) (b2 : Int32) (b3 : Int32) (b4 : Int32) (b5 : Int32) (bh : qH), o = .inl (b1, b2, b3, b4, b5, bh) → Go l b D z yX7_findWrongNumber cX7_findWrongNumber 7 none rm_X7_findWrongNumber Φ 12 [(0, .ref a0), (1, .int b1), (2, .int b2), (3, .int b3), (4, .int b4), (5, .int b5)] [] bh nx 0 0) (hx0 : ∀  (bh : qH), o = .inr bh → Go l b D z yX7_findWrongNumber cX7_findWrongNumber 7 none rm_X7_findWrongNumber Φ 165 [] [] bh nx 0 0) : Go l b D z yX7_findWrongNumber cX7_findWrongNumber 7 none rm_X7_findWrongNumber Φ 61 [(0, .ref a0), (1, .int a1), (3, .int a3), (4, .int a4), (5, .int a5), (6, .int a6)] [.int t0, .int t1] h nx 0 0 := by
  unfold j_X7_findWrongNumber_61 at hF
  refine g_iadd dX7_findWrongNumber_61 ?_
  refine g_istore_n [(2, .int (t1 + t0)), (0, .ref a0), (1, .int a1), (3, .int a3), (4, .int a4), (5, .int a5), (6, .int a6)] dX7_findWrongNumber_62 (Nat.le_of_ble_eq_true rfl) rfl ?_
  refine g_iload_n 3 dX7_findWrongNumber_63 rfl ?_
  refine g_iload 6 dX7_findWrongNumber_64 rfl ?_
  refine g_bipush dX7_findWrongNumber_66 lt_bipush_6 ?_
  refine g_icmp_lt 82 dX7_findWrongNumber_68 (by decide) (fun c1 => ?_) (fun c1 => ?_)
  · replace hF := q_t c1 hF
    refine g_sub [1, 2, 0, 4, 5, 6] rfl ?_
    exact J_X7_findWrongNumber_82 l b D z hF hback hx0
  · replace hF := q_f c1 hF
    refine g_iload 6 dX7_findWrongNumber_71 rfl ?_
    refine g_bipush dX7_findWrongNumber_73 lt_bipush_13 ?_
    refine g_icmp_ge 82 dX7_findWrongNumber_75 (by decide) (fun c2 => ?_) (fun c2 => ?_)
    · replace hF := q_t c2 hF
      refine g_sub [1, 2, 0, 4, 5, 6] rfl ?_
      exact J_X7_findWrongNumber_82 l b D z hF hback hx0
    · replace hF := q_f c2 hF
      refine g_iconst dX7_findWrongNumber_78 lt_iconst_1 ?_
      refine g_goto 83 dX7_findWrongNumber_79 (by decide) ?_
      refine g_sub [1, 2, 0, 4, 5, 6] rfl ?_
      exact J_X7_findWrongNumber_83 l b D z hF hback hx0
set_option maxRecDepth 100000 in
set_option maxHeartbeats 4000000 in
theorem J_X7_findWrongNumber_47 (l : Launch) (b : Nat) (D : va_G) (z : Nat → Nat) {Φ : Option Value → qH → Nat → Prop} {nx : Nat} {h : qH} {a0 : Nat} {a2 : Int32} {a3 : Int32} {a4 : Int32} {a5 : Int32} {a6 : Int32} {t0 : Int32} {t1 : Int32} {o : (Int32 × Int32 × Int32 × Int32 × Int32 × qH) ⊕ qH} (hF : j_X7_findWrongNumber_47 z h a0 a2 a3 a4 a5 a6 t0 t1 = some o) (hback : ∀ (b1 : Int32) (b2 : Int32) (b3 : Int32) (b4 : Int32) (b5 : Int32) (bh : qH), o = .inl (b1, b2, b3, b4, b5, bh) → Go l b D z yX7_findWrongNumber cX7_findWrongNumber 7 none rm_X7_findWrongNumber Φ 12 [(0, .ref a0), (1, .int b1), (2, .int b2), (3, .int b3), (4, .int b4), (5, .int b5)] [] bh nx 0 0) (hx0 : ∀  (bh : qH), o = .inr bh → Go l b D z yX7_findWrongNumber cX7_findWrongNumber 7 none rm_X7_findWrongNumber Φ 165 [] [] bh nx 0 0) : Go l b D z yX7_findWrongNumber cX7_findWrongNumber 7 none rm_X7_findWrongNumber Φ 47 [(0, .ref a0), (2, .int a2), (3, .int a3), (4, .int a4), (5, .int a5), (6, .int a6)] [.int t0, .int t1] h nx 0 0 := by
  unfold j_X7_findWrongNumber_47 at hF
  refine g_iadd dX7_findWrongNumber_47 ?_
  refine g_istore_n [(1, .int (t1 + t0)), (0, .ref a0), (2, .int a2), (3, .int a3), (4, .int a4), (5, .int a5), (6, .int a6)] dX7_findWrongNumber_48 (Nat.le_of_ble_eq_true rfl) rfl ?_
  refine g_iload_n 2 dX7_findWrongNumber_49 rfl ?_
  refine g_iload 6 dX7_findWrongNumber_50 rfl ?_
  refine g_iconst dX7_findWrongNumber_52 lt_iconst_2 ?_
  refine g_icmp_ne 60 dX7_findWrongNumber_53 (by decide) (fun c1 => ?_) (fun c1 => ?_)
  · replace hF := q_f c1 hF
    refine g_iconst dX7_findWrongNumber_60 lt_iconst_0 ?_
    refine g_sub [1, 0, 3, 4, 5, 6] rfl ?_
    exact J_X7_findWrongNumber_61 l b D z hF hback hx0
  · replace hF := q_t c1 hF
    refine g_iconst dX7_findWrongNumber_56 lt_iconst_1 ?_
    refine g_goto 61 dX7_findWrongNumber_57 (by decide) ?_
    refine g_sub [1, 0, 3, 4, 5, 6] rfl ?_
    exact J_X7_findWrongNumber_61 l b D z hF hback hx0
set_option maxRecDepth 100000 in
set_option maxHeartbeats 4000000 in
theorem B_X7_findWrongNumber_12 (l : Launch) (b : Nat) (D : va_G) (z : Nat → Nat) {Φ : Option Value → qH → Nat → Prop} {nx : Nat} {a0 : Nat} {a1 : Int32} {a2 : Int32} {a3 : Int32} {a4 : Int32} {a5 : Int32} {h : qH} {o : (Int32 × Int32 × Int32 × Int32 × Int32 × qH) ⊕ qH} (hF : b_X7_findWrongNumber_12 z a0 a1 a2 a3 a4 a5 h = some o) (hback : ∀ (b1 : Int32) (b2 : Int32) (b3 : Int32) (b4 : Int32) (b5 : Int32) (bh : qH), o = .inl (b1, b2, b3, b4, b5, bh) → Go l b D z yX7_findWrongNumber cX7_findWrongNumber 7 none rm_X7_findWrongNumber Φ 12 [(0, .ref a0), (1, .int b1), (2, .int b2), (3, .int b3), (4, .int b4), (5, .int b5)] [] bh nx 0 0) (hx0 : ∀  (bh : qH), o = .inr bh → Go l b D z yX7_findWrongNumber cX7_findWrongNumber 7 none rm_X7_findWrongNumber Φ 165 [] [] bh nx 0 0) : Go l b D z yX7_findWrongNumber cX7_findWrongNumber 7 none rm_X7_findWrongNumber Φ 12 [(0, .ref a0), (1, .int a1), (2, .int a2), (3, .int a3), (4, .int a4), (5, .int a5)] [] h nx 0 0 := by
  unfold b_X7_findWrongNumber_12 at hF
  refine g_iload 5 dX7_findWrongNumber_12 rfl ?_
  refine g_aload_n 0 dX7_findWrongNumber_14 rfl ?_
  obtain ⟨u1, e2, hF⟩ := q_bind hF
  obtain ⟨x3, e4, hF⟩ := q_bind hF
  refine g_callVr0 (ci := 7) (q := (RX7, TX7, 6)) qm_X7_lastToken wd_700 wd_702 wd_10 rfl e2 (M_X7_lastToken l b D z nx e4) (As := []) rfl rfl (Nat.le_of_ble_eq_true rfl) ⟨(Nat.le_of_ble_eq_true rfl), (Nat.le_of_ble_eq_true rfl)⟩ ⟨rfl, rfl⟩ ⟨(Nat.le_of_ble_eq_true rfl), (Nat.le_of_ble_eq_true rfl)⟩ dX7_findWrongNumber_15 ?_
  refine g_icmp_ge 165 dX7_findWrongNumber_18 (by decide) (fun c5 => ?_) (fun c5 => ?_)
  · replace hF := q_t c5 hF
    cases hF
    refine g_sub [] rfl ?_
    exact hx0 _ rfl
  · replace hF := q_f c5 hF
    refine g_aload_n 0 dX7_findWrongNumber_21 rfl ?_
    obtain ⟨x6, e7, hF⟩ := q_bind hF
    refine g_getfI fl_X7_23 e7 dX7_findWrongNumber_22 ?_
    refine g_if_ne 165 dX7_findWrongNumber_25 (by decide) (fun c8 => ?_) (fun c8 => ?_)
    · replace hF := q_f c8 hF
      cases hF
      refine g_sub [] rfl ?_
      exact hx0 _ rfl
    · replace hF := q_t c8 hF
      refine g_aload_n 0 dX7_findWrongNumber_28 rfl ?_
      refine g_iload 5 dX7_findWrongNumber_29 rfl ?_
      obtain ⟨u9, e10, hF⟩ := q_bind hF
      obtain ⟨x11, e12, hF⟩ := q_bind hF
      refine g_callVr0 (ci := 7) (q := (RX7, TX7, 6)) qm_X7_valueAt wd_679 wd_681 wd_6 rfl e10 (M_X7_valueAt l b D z nx e12) (As := [.int a5]) rfl rfl (Nat.le_of_ble_eq_true rfl) ⟨(Nat.le_of_ble_eq_true rfl), (Nat.le_of_ble_eq_true rfl)⟩ ⟨rfl, rfl⟩ ⟨(Nat.le_of_ble_eq_true rfl), (Nat.le_of_ble_eq_true rfl)⟩ dX7_findWrongNumber_31 ?_
      refine g_istore [(6, .int x11), (0, .ref a0), (1, .int a1), (2, .int a2), (3, .int a3), (4, .int a4), (5, .int a5)] dX7_findWrongNumber_34 (Nat.le_of_ble_eq_true rfl) rfl ?_
      refine g_iload_n 2 dX7_findWrongNumber_36 rfl ?_
      refine g_iload 0 dX7_findWrongNumber_37 rfl ?_
      refine g_if_ne 46 dX7_findWrongNumber_39 (by decide) (fun c13 => ?_) (fun c13 => ?_)
      · replace hF := q_f c13 hF
        refine g_iconst dX7_findWrongNumber_46 lt_iconst_0 ?_
        refine g_sub [1, 3, 4, 5, 6, 0] rfl ?_
        exact J_X7_findWrongNumber_47 l b D z hF hback hx0
      · replace hF := q_t c13 hF
        refine g_iconst dX7_findWrongNumber_42 lt_iconst_1 ?_
        refine g_goto 47 dX7_findWrongNumber_43 (by decide) ?_
        refine g_sub [1, 3, 4, 5, 6, 0] rfl ?_
        exact J_X7_findWrongNumber_47 l b D z hF hback hx0
set_option maxRecDepth 100000 in
set_option maxHeartbeats 4000000 in
theorem L_X7_findWrongNumber_12 (l : Launch) (b : Nat) (D : va_G) (z : Nat → Nat) {Φ : Option Value → qH → Nat → Prop} {nx : Nat} {a0 : Nat} : ∀ (n : Nat) (a1 : Int32) (a2 : Int32) (a3 : Int32) (a4 : Int32) (a5 : Int32) (h : qH) (e : qH), q_lp (s_X7_findWrongNumber_12 z a0) n (a1, a2, a3, a4, a5, h) = some e → (∀  (bh : qH), e = bh → Go l b D z yX7_findWrongNumber cX7_findWrongNumber 7 none rm_X7_findWrongNumber Φ 165 [] [] bh nx 0 0) → Go l b D z yX7_findWrongNumber cX7_findWrongNumber 7 none rm_X7_findWrongNumber Φ 12 [(0, .ref a0), (1, .int a1), (2, .int a2), (3, .int a3), (4, .int a4), (5, .int a5)] [] h nx 0 0 := by
  intro n
  induction n with
  | zero => intro a1 a2 a3 a4 a5 h e he; cases (show none = some e from he)
  | succ n ih =>
    intro a1 a2 a3 a4 a5 h e he hx0
    obtain ⟨o, ho, h1, h2⟩ := q_lp_succ he
    exact B_X7_findWrongNumber_12 l b D z (show b_X7_findWrongNumber_12 z a0 a1 a2 a3 a4 a5 h = some o from ho) (fun b1 b2 b3 b4 b5 bh hb => ih _ _ _ _ _ _ e (h1 _ hb) hx0) (fun p0 hr => hx0 p0 (h2 _ hr).symm)
set_option maxRecDepth 100000 in
set_option maxHeartbeats 4000000 in
theorem M_X7_findWrongNumber (l : Launch) (b : Nat) (D : va_G) (z : Nat → Nat) (nx : Nat) {h : qH} {a0 : Nat} {r : qH} (hF : F_X7_findWrongNumber z h a0 = some r) : Me l b D z yX7_findWrongNumber cX7_findWrongNumber 7 none rm_X7_findWrongNumber [.ref a0] h nx (qE none r nx) := by
  refine Me.of (by decide +kernel) (Nat.le_of_ble_eq_true rfl) ?_
  show Go l b D z yX7_findWrongNumber cX7_findWrongNumber 7 none rm_X7_findWrongNumber (qE none r nx) 0 [(0, .ref a0)] [] h nx 0 0
  unfold F_X7_findWrongNumber at hF
  refine g_iconst dX7_findWrongNumber_0 lt_iconst_0 ?_
  refine g_istore_n [(1, .int (0 : Int32)), (0, .ref a0)] dX7_findWrongNumber_1 (Nat.le_of_ble_eq_true rfl) rfl ?_
  refine g_iconst dX7_findWrongNumber_2 lt_iconst_0 ?_
  refine g_istore_n [(2, .int (0 : Int32)), (1, .int (0 : Int32)), (0, .ref a0)] dX7_findWrongNumber_3 (Nat.le_of_ble_eq_true rfl) rfl ?_
  refine g_iconst dX7_findWrongNumber_4 lt_iconst_0 ?_
  refine g_istore_n [(3, .int (0 : Int32)), (2, .int (0 : Int32)), (1, .int (0 : Int32)), (0, .ref a0)] dX7_findWrongNumber_5 (Nat.le_of_ble_eq_true rfl) rfl ?_
  refine g_iconst dX7_findWrongNumber_6 lt_iconst_0 ?_
  refine g_istore [(4, .int (0 : Int32)), (3, .int (0 : Int32)), (2, .int (0 : Int32)), (1, .int (0 : Int32)), (0, .ref a0)] dX7_findWrongNumber_7 (Nat.le_of_ble_eq_true rfl) rfl ?_
  refine g_iconst dX7_findWrongNumber_9 lt_iconst_0 ?_
  refine g_istore [(5, .int (0 : Int32)), (4, .int (0 : Int32)), (3, .int (0 : Int32)), (2, .int (0 : Int32)), (1, .int (0 : Int32)), (0, .ref a0)] dX7_findWrongNumber_10 (Nat.le_of_ble_eq_true rfl) rfl ?_
  obtain ⟨e1, w2, hF⟩ := q_bind hF
  refine g_sub [5, 4, 3, 2, 1, 0] rfl ?_
  refine L_X7_findWrongNumber_12 l b D z q_N (0 : Int32) (0 : Int32) (0 : Int32) (0 : Int32) (0 : Int32) h e1 w2 ?_
  · intro h3 w4
    replace w4 := w4.symm
    subst w4
    cases hF
    exact g_vret dX7_findWrongNumber_165 rfl ⟨rfl, rfl, rfl⟩ (Nat.le_of_ble_eq_true rfl) (Nat.le_of_ble_eq_true rfl)
def rm_J9_max_7cf53 : Room := { frames := 0, cells := 0, slots := 0, locals := 0 }
set_option maxRecDepth 100000 in
set_option maxHeartbeats 4000000 in
theorem M_J9_max_7cf53 (l : Launch) (b : Nat) (D : va_G) (z : Nat → Nat) (nx : Nat) {h : qH} {a0 : Int32} {a1 : Int32} {r : Int32} (hF : F_J9_max_7cf53 h a0 a1 = some r) : Me l b D z yJ9_max_7cf53 cJ9_max_7cf53 2 (some .int) rm_J9_max_7cf53 [.int a0, .int a1] h nx (qE (some (.int r)) h nx) := by
  refine Me.ofF (by decide +kernel) (Nat.le_of_ble_eq_true rfl) ?_
  show Go l b D z yJ9_max_7cf53 cJ9_max_7cf53 2 (some .int) rm_J9_max_7cf53 (qE (some (.int r)) h nx) 0 [(0, .int a0), (1, .int a1)] [] h nx 0 0
  unfold F_J9_max_7cf53 at hF
  refine g_iload_n 0 dJ9_max_7cf53_0 rfl ?_
  refine g_iload_n 1 dJ9_max_7cf53_1 rfl ?_
  refine g_icmp_lt 9 dJ9_max_7cf53_2 (by decide) (fun c1 => ?_) (fun c1 => ?_)
  · replace hF := q_t c1 hF
    refine g_iload_n 1 dJ9_max_7cf53_9 rfl ?_
    cases hF
    exact g_iret dJ9_max_7cf53_10 rfl ⟨rfl, rfl, rfl⟩ (Nat.le_of_ble_eq_true rfl) (Nat.le_of_ble_eq_true rfl)
  · replace hF := q_f c1 hF
    refine g_iload_n 0 dJ9_max_7cf53_5 rfl ?_
    refine g_goto 10 dJ9_max_7cf53_6 (by decide) ?_
    cases hF
    exact g_iret dJ9_max_7cf53_10 rfl ⟨rfl, rfl, rfl⟩ (Nat.le_of_ble_eq_true rfl) (Nat.le_of_ble_eq_true rfl)
def rm_X7_bookTellsOfMissing : Room := { frames := 2, cells := 0, slots := 0, locals := 42 }
set_option maxRecDepth 100000 in
set_option maxHeartbeats 4000000 in
theorem B_X7_bookTellsOfMissing_6 (l : Launch) (b : Nat) (D : va_G) (z : Nat → Nat) {Φ : Option Value → qH → Nat → Prop} {nx : Nat} {h : qH} {a0 : Nat} {a1 : Int32} {a2 : Int32} {a3 : Int32} {o : (Int32 × Int32 × Int32) ⊕ ((Int32 × Int32))} (hF : b_X7_bookTellsOfMissing_6 z h a0 a1 a2 a3 = some o) (hback : ∀ (b1 : Int32) (b2 : Int32) (b3 : Int32), o = .inl (b1, b2, b3) → Go l b D z yX7_bookTellsOfMissing cX7_bookTellsOfMissing 5 (some .boolean) rm_X7_bookTellsOfMissing Φ 6 [(0, .ref a0), (1, .int b1), (2, .int b2), (3, .int b3)] [] h nx 0 0) (hx0 : ∀ (b1 : Int32) (b2 : Int32), o = .inr (b1, b2) → Go l b D z yX7_bookTellsOfMissing cX7_bookTellsOfMissing 5 (some .boolean) rm_X7_bookTellsOfMissing Φ 81 [(1, .int b1), (2, .int b2)] [] h nx 0 0) : Go l b D z yX7_bookTellsOfMissing cX7_bookTellsOfMissing 5 (some .boolean) rm_X7_bookTellsOfMissing Φ 6 [(0, .ref a0), (1, .int a1), (2, .int a2), (3, .int a3)] [] h nx 0 0 := by
  unfold b_X7_bookTellsOfMissing_6 at hF
  refine g_iload_n 3 dX7_bookTellsOfMissing_6 rfl ?_
  refine g_aload_n 0 dX7_bookTellsOfMissing_7 rfl ?_
  obtain ⟨u1, e2, hF⟩ := q_bind hF
  obtain ⟨x3, e4, hF⟩ := q_bind hF
  refine g_callVr0 (ci := 7) (q := (RX7, TX7, 6)) qm_X7_lastToken wd_700 wd_702 wd_10 rfl e2 (M_X7_lastToken l b D z nx e4) (As := []) rfl rfl (Nat.le_of_ble_eq_true rfl) ⟨(Nat.le_of_ble_eq_true rfl), (Nat.le_of_ble_eq_true rfl)⟩ ⟨rfl, rfl⟩ ⟨(Nat.le_of_ble_eq_true rfl), (Nat.le_of_ble_eq_true rfl)⟩ dX7_bookTellsOfMissing_8 ?_
  refine g_icmp_ge 81 dX7_bookTellsOfMissing_11 (by decide) (fun c5 => ?_) (fun c5 => ?_)
  · replace hF := q_t c5 hF
    cases hF
    refine g_sub [1, 2] rfl ?_
    exact hx0 _ _ rfl
  · replace hF := q_f c5 hF
    refine g_aload_n 0 dX7_bookTellsOfMissing_14 rfl ?_
    refine g_iload_n 3 dX7_bookTellsOfMissing_15 rfl ?_
    obtain ⟨u6, e7, hF⟩ := q_bind hF
    obtain ⟨x8, e9, hF⟩ := q_bind hF
    refine g_callVr0 (ci := 7) (q := (RX7, TX7, 6)) qm_X7_valueAt wd_679 wd_681 wd_6 rfl e7 (M_X7_valueAt l b D z nx e9) (As := [.int a3]) rfl rfl (Nat.le_of_ble_eq_true rfl) ⟨(Nat.le_of_ble_eq_true rfl), (Nat.le_of_ble_eq_true rfl)⟩ ⟨rfl, rfl⟩ ⟨(Nat.le_of_ble_eq_true rfl), (Nat.le_of_ble_eq_true rfl)⟩ dX7_bookTellsOfMissing_16 ?_
    refine g_istore [(4, .int x8), (0, .ref a0), (1, .int a1), (2, .int a2), (3, .int a3)] dX7_bookTellsOfMissing_19 (Nat.le_of_ble_eq_true rfl) rfl ?_
    refine g_iload 0 dX7_bookTellsOfMissing_21 rfl ?_
    refine g_if_ne 44 dX7_bookTellsOfMissing_23 (by decide) (fun c10 => ?_) (fun c10 => ?_)
    · replace hF := q_f c10 hF
      refine g_iload 0 dX7_bookTellsOfMissing_44 rfl ?_
      refine g_iconst dX7_bookTellsOfMissing_46 lt_iconst_2 ?_
      refine g_icmp_ne 72 dX7_bookTellsOfMissing_47 (by decide) (fun c11 => ?_) (fun c11 => ?_)
      · replace hF := q_f c11 hF
        refine g_aload_n 1 dX7_bookTellsOfMissing_72 rfl ?_
        refine g_iload_n 4 dX7_bookTellsOfMissing_73 rfl ?_
        obtain ⟨u12, e13, hF⟩ := q_bind hF
        obtain ⟨x14, e15, hF⟩ := q_bind hF
        refine g_callVr0 (ci := 7) (q := (RX7, TX7, 6)) qm_X7_behindStatement wd_675 wd_677 wd_5 rfl e13 (M_X7_behindStatement l b D z nx e15) (As := [.int a3]) rfl rfl (Nat.le_of_ble_eq_true rfl) ⟨(Nat.le_of_ble_eq_true rfl), (Nat.le_of_ble_eq_true rfl)⟩ ⟨rfl, rfl⟩ ⟨(Nat.le_of_ble_eq_true rfl), (Nat.le_of_ble_eq_true rfl)⟩ dX7_bookTellsOfMissing_74 ?_
        refine g_istore_n [(3, .int x14), (4, .int x8), (0, .ref a0), (1, .int a1), (2, .int a2)] dX7_bookTellsOfMissing_77 (Nat.le_of_ble_eq_true rfl) rfl ?_
        refine g_goto 6 dX7_bookTellsOfMissing_78 (by decide) ?_
        cases hF
        refine g_sub [2, 3, 4, 0] rfl ?_
        exact hback _ _ _ rfl
      · replace hF := q_t c11 hF
        refine g_iload_n 3 dX7_bookTellsOfMissing_50 rfl ?_
        refine g_aload_n 1 dX7_bookTellsOfMissing_51 rfl ?_
        refine g_iload_n 4 dX7_bookTellsOfMissing_52 rfl ?_
        refine g_iconst dX7_bookTellsOfMissing_53 lt_iconst_1 ?_
        refine g_iadd dX7_bookTellsOfMissing_54 ?_
        obtain ⟨u16, e17, hF⟩ := q_bind hF
        obtain ⟨x18, e19, hF⟩ := q_bind hF
        refine g_callVr0 (ci := 7) (q := (RX7, TX7, 6)) qm_X7_valueAt wd_679 wd_681 wd_6 rfl e17 (M_X7_valueAt l b D z nx e19) (As := [.int (a3 + (1 : Int32))]) rfl rfl (Nat.le_of_ble_eq_true rfl) ⟨(Nat.le_of_ble_eq_true rfl), (Nat.le_of_ble_eq_true rfl)⟩ ⟨rfl, rfl⟩ ⟨(Nat.le_of_ble_eq_true rfl), (Nat.le_of_ble_eq_true rfl)⟩ dX7_bookTellsOfMissing_55 ?_
        refine g_aload_n 1 dX7_bookTellsOfMissing_58 rfl ?_
        refine g_iload_n 4 dX7_bookTellsOfMissing_59 rfl ?_
        refine g_iconst dX7_bookTellsOfMissing_60 lt_iconst_2 ?_
        refine g_iadd dX7_bookTellsOfMissing_61 ?_
        obtain ⟨u20, e21, hF⟩ := q_bind hF
        obtain ⟨x22, e23, hF⟩ := q_bind hF
        refine g_callVr0 (ci := 7) (q := (RX7, TX7, 6)) qm_X7_valueAt wd_679 wd_681 wd_6 rfl e21 (M_X7_valueAt l b D z nx e23) (As := [.int (a3 + (2 : Int32))]) rfl rfl (Nat.le_of_ble_eq_true rfl) ⟨(Nat.le_of_ble_eq_true rfl), (Nat.le_of_ble_eq_true rfl)⟩ ⟨rfl, rfl⟩ ⟨(Nat.le_of_ble_eq_true rfl), (Nat.le_of_ble_eq_true rfl)⟩ dX7_bookTellsOfMissing_62 ?_
        obtain ⟨x24, e25, hF⟩ := q_bind hF
        refine g_callSr0 qm_J9_max_7cf53 wd_720 wd_721 (M_J9_max_7cf53 l b D z nx e25) (As := [.int x18, .int x22]) rfl rfl (Nat.le_of_ble_eq_true rfl) ⟨(Nat.le_of_ble_eq_true rfl), (Nat.le_of_ble_eq_true rfl)⟩ ⟨rfl, rfl⟩ ⟨(Nat.le_of_ble_eq_true rfl), (Nat.le_of_ble_eq_true rfl)⟩ dX7_bookTellsOfMissing_65 ?_
        obtain ⟨x26, e27, hF⟩ := q_bind hF
        refine g_callSr0 qm_J9_max_7cf53 wd_720 wd_721 (M_J9_max_7cf53 l b D z nx e27) (As := [.int a2, .int x24]) rfl rfl (Nat.le_of_ble_eq_true rfl) ⟨(Nat.le_of_ble_eq_true rfl), (Nat.le_of_ble_eq_true rfl)⟩ ⟨rfl, rfl⟩ ⟨(Nat.le_of_ble_eq_true rfl), (Nat.le_of_ble_eq_true rfl)⟩ dX7_bookTellsOfMissing_68 ?_
        refine g_istore_n [(2, .int x26), (4, .int x8), (0, .ref a0), (1, .int a1), (3, .int a3)] dX7_bookTellsOfMissing_71 (Nat.le_of_ble_eq_true rfl) rfl ?_
        refine g_aload_n 2 dX7_bookTellsOfMissing_72 rfl ?_
        refine g_iload_n 4 dX7_bookTellsOfMissing_73 rfl ?_
        obtain ⟨u28, e29, hF⟩ := q_bind hF
        obtain ⟨x30, e31, hF⟩ := q_bind hF
        refine g_callVr0 (ci := 7) (q := (RX7, TX7, 6)) qm_X7_behindStatement wd_675 wd_677 wd_5 rfl e29 (M_X7_behindStatement l b D z nx e31) (As := [.int a3]) rfl rfl (Nat.le_of_ble_eq_true rfl) ⟨(Nat.le_of_ble_eq_true rfl), (Nat.le_of_ble_eq_true rfl)⟩ ⟨rfl, rfl⟩ ⟨(Nat.le_of_ble_eq_true rfl), (Nat.le_of_ble_eq_true rfl)⟩ dX7_bookTellsOfMissing_74 ?_
        refine g_istore_n [(3, .int x30), (2, .int x26), (4, .int x8), (0, .ref a0), (1, .int a1)] dX7_bookTellsOfMissing_77 (Nat.le_of_ble_eq_true rfl) rfl ?_
        refine g_goto 6 dX7_bookTellsOfMissing_78 (by decide) ?_
        cases hF
        refine g_sub [3, 4, 1, 0] rfl ?_
        exact hback _ _ _ rfl
    · replace hF := q_t c10 hF
      refine g_iinc [(1, .int (a1 + 1)), (4, .int x8), (0, .ref a0), (2, .int a2), (3, .int a3)] 2 dX7_bookTellsOfMissing_26 rfl (congrArg (a1 + ·) lt_iconst_1) (Nat.le_of_ble_eq_true rfl) rfl ?_
      refine g_iload_n 3 dX7_bookTellsOfMissing_29 rfl ?_
      refine g_aload_n 2 dX7_bookTellsOfMissing_30 rfl ?_
      refine g_iload_n 4 dX7_bookTellsOfMissing_31 rfl ?_
      refine g_iconst dX7_bookTellsOfMissing_32 lt_iconst_1 ?_
      refine g_iadd dX7_bookTellsOfMissing_33 ?_
      obtain ⟨u32, e33, hF⟩ := q_bind hF
      obtain ⟨x34, e35, hF⟩ := q_bind hF
      refine g_callVr0 (ci := 7) (q := (RX7, TX7, 6)) qm_X7_valueAt wd_679 wd_681 wd_6 rfl e33 (M_X7_valueAt l b D z nx e35) (As := [.int (a3 + (1 : Int32))]) rfl rfl (Nat.le_of_ble_eq_true rfl) ⟨(Nat.le_of_ble_eq_true rfl), (Nat.le_of_ble_eq_true rfl)⟩ ⟨rfl, rfl⟩ ⟨(Nat.le_of_ble_eq_true rfl), (Nat.le_of_ble_eq_true rfl)⟩ dX7_bookTellsOfMissing_34 ?_
      obtain ⟨x36, e37, hF⟩ := q_bind hF
      refine g_callSr0 qm_J9_max_7cf53 wd_720 wd_721 (M_J9_max_7cf53 l b D z nx e37) (As := [.int a2, .int x34]) rfl rfl (Nat.le_of_ble_eq_true rfl) ⟨(Nat.le_of_ble_eq_true rfl), (Nat.le_of_ble_eq_true rfl)⟩ ⟨rfl, rfl⟩ ⟨(Nat.le_of_ble_eq_true rfl), (Nat.le_of_ble_eq_true rfl)⟩ dX7_bookTellsOfMissing_37 ?_
      refine g_istore_n [(2, .int x36), (1, .int (a1 + 1)), (4, .int x8), (0, .ref a0), (3, .int a3)] dX7_bookTellsOfMissing_40 (Nat.le_of_ble_eq_true rfl) rfl ?_
      refine g_goto 72 dX7_bookTellsOfMissing_41 (by decide) ?_
      refine g_aload_n 3 dX7_bookTellsOfMissing_72 rfl ?_
      refine g_iload_n 4 dX7_bookTellsOfMissing_73 rfl ?_
      obtain ⟨u38, e39, hF⟩ := q_bind hF
      obtain ⟨x40, e41, hF⟩ := q_bind hF
      refine g_callVr0 (ci := 7) (q := (RX7, TX7, 6)) qm_X7_behindStatement wd_675 wd_677 wd_5 rfl e39 (M_X7_behindStatement l b D z nx e41) (As := [.int a3]) rfl rfl (Nat.le_of_ble_eq_true rfl) ⟨(Nat.le_of_ble_eq_true rfl), (Nat.le_of_ble_eq_true rfl)⟩ ⟨rfl, rfl⟩ ⟨(Nat.le_of_ble_eq_true rfl), (Nat.le_of_ble_eq_true rfl)⟩ dX7_bookTellsOfMissing_74 ?_
      refine g_istore_n [(3, .int x40), (2, .int x36), (1, .int (a1 + 1)), (4, .int x8), (0, .ref a0)] dX7_bookTellsOfMissing_77 (Nat.le_of_ble_eq_true rfl) rfl ?_
      refine g_goto 6 dX7_bookTellsOfMissing_78 (by decide) ?_
      cases hF
      refine g_sub [4, 2, 1, 0] rfl ?_
      exact hback _ _ _ rfl
set_option maxRecDepth 100000 in
set_option maxHeartbeats 4000000 in
theorem L_X7_bookTellsOfMissing_6 (l : Launch) (b : Nat) (D : va_G) (z : Nat → Nat) {Φ : Option Value → qH → Nat → Prop} {nx : Nat} {h : qH} {a0 : Nat} : ∀ (n : Nat) (a1 : Int32) (a2 : Int32) (a3 : Int32) (e : (Int32 × Int32)), q_lp (s_X7_bookTellsOfMissing_6 z h a0) n (a1, a2, a3) = some e → (∀ (b1 : Int32) (b2 : Int32), e = (b1, b2) → Go l b D z yX7_bookTellsOfMissing cX7_bookTellsOfMissing 5 (some .boolean) rm_X7_bookTellsOfMissing Φ 81 [(1, .int b1), (2, .int b2)] [] h nx 0 0) → Go l b D z yX7_bookTellsOfMissing cX7_bookTellsOfMissing 5 (some .boolean) rm_X7_bookTellsOfMissing Φ 6 [(0, .ref a0), (1, .int a1), (2, .int a2), (3, .int a3)] [] h nx 0 0 := by
  intro n
  induction n with
  | zero => intro a1 a2 a3 e he; cases (show none = some e from he)
  | succ n ih =>
    intro a1 a2 a3 e he hx0
    obtain ⟨o, ho, h1, h2⟩ := q_lp_succ he
    exact B_X7_bookTellsOfMissing_6 l b D z (show b_X7_bookTellsOfMissing_6 z h a0 a1 a2 a3 = some o from ho) (fun b1 b2 b3 hb => ih _ _ _ e (h1 _ hb) hx0) (fun p0 p1 hr => hx0 p0 p1 (h2 _ hr).symm)
set_option maxRecDepth 100000 in
set_option maxHeartbeats 4000000 in
theorem M_X7_bookTellsOfMissing (l : Launch) (b : Nat) (D : va_G) (z : Nat → Nat) (nx : Nat) {h : qH} {a0 : Nat} {r : Int32} (hF : F_X7_bookTellsOfMissing z h a0 = some r) : Me l b D z yX7_bookTellsOfMissing cX7_bookTellsOfMissing 5 (some .boolean) rm_X7_bookTellsOfMissing [.ref a0] h nx (qE (some (.int r)) h nx) := by
  refine Me.of (by decide +kernel) (Nat.le_of_ble_eq_true rfl) ?_
  show Go l b D z yX7_bookTellsOfMissing cX7_bookTellsOfMissing 5 (some .boolean) rm_X7_bookTellsOfMissing (qE (some (.int r)) h nx) 0 [(0, .ref a0)] [] h nx 0 0
  unfold F_X7_bookTellsOfMissing at hF
  refine g_iconst dX7_bookTellsOfMissing_0 lt_iconst_0 ?_
  refine g_istore_n [(1, .int (0 : Int32)), (0, .ref a0)] dX7_bookTellsOfMissing_1 (Nat.le_of_ble_eq_true rfl) rfl ?_
  refine g_iconst dX7_bookTellsOfMissing_2 lt_iconst_m1 ?_
  refine g_istore_n [(2, .int (-1 : Int32)), (1, .int (0 : Int32)), (0, .ref a0)] dX7_bookTellsOfMissing_3 (Nat.le_of_ble_eq_true rfl) rfl ?_
  refine g_iconst dX7_bookTellsOfMissing_4 lt_iconst_0 ?_
  refine g_istore_n [(3, .int (0 : Int32)), (2, .int (-1 : Int32)), (1, .int (0 : Int32)), (0, .ref a0)] dX7_bookTellsOfMissing_5 (Nat.le_of_ble_eq_true rfl) rfl ?_
  obtain ⟨e1, w2, hF⟩ := q_bind hF
  refine g_sub [3, 2, 1, 0] rfl ?_
  refine L_X7_bookTellsOfMissing_6 l b D z q_N (0 : Int32) (-1 : Int32) (0 : Int32) e1 w2 ?_
  · intro o3 o4 w5
    replace w5 := w5.symm
    subst w5
    dsimp only at hF
    refine g_iload_n 1 dX7_bookTellsOfMissing_81 rfl ?_
    refine g_iload_n 0 dX7_bookTellsOfMissing_82 rfl ?_
    refine g_icmp_lt 90 dX7_bookTellsOfMissing_83 (by decide) (fun c6 => ?_) (fun c6 => ?_)
    · replace hF := q_t c6 hF
      refine g_iconst dX7_bookTellsOfMissing_90 lt_iconst_0 ?_
      cases hF
      exact g_zret dX7_bookTellsOfMissing_91 rfl zn_0 ⟨rfl, rfl, rfl⟩ (Nat.le_of_ble_eq_true rfl) (Nat.le_of_ble_eq_true rfl)
    · replace hF := q_f c6 hF
      refine g_iconst dX7_bookTellsOfMissing_86 lt_iconst_1 ?_
      refine g_goto 91 dX7_bookTellsOfMissing_87 (by decide) ?_
      cases hF
      exact g_zret dX7_bookTellsOfMissing_91 rfl zn_1 ⟨rfl, rfl, rfl⟩ (Nat.le_of_ble_eq_true rfl) (Nat.le_of_ble_eq_true rfl)
def rm_X7_townTellsOfMissing : Room := { frames := 2, cells := 0, slots := 0, locals := 42 }
set_option maxRecDepth 100000 in
set_option maxHeartbeats 4000000 in
theorem J_X7_townTellsOfMissing_59 (l : Launch) (b : Nat) (D : va_G) (z : Nat → Nat) {Φ : Option Value → qH → Nat → Prop} {nx : Nat} {h : qH} {a0 : Nat} {a1 : Int32} {a3 : Int32} {t0 : Int32} {t1 : Int32} {t2 : Int32} {o : (Int32 × Int32 × Int32) ⊕ ((Int32 × Int32))} (hF : j_X7_townTellsOfMissing_59 z h a0 a1 a3 t0 t1 t2 = some o) (hback : ∀ (b1 : Int32) (b2 : Int32) (b3 : Int32), o = .inl (b1, b2, b3) → Go l b D z yX7_townTellsOfMissing cX7_townTellsOfMissing 5 (some .boolean) rm_X7_townTellsOfMissing Φ 6 [(0, .ref a0), (1, .int b1), (2, .int b2), (3, .int b3)] [] h nx 0 0) (hx0 : ∀ (b1 : Int32) (b2 : Int32), o = .inr (b1, b2) → Go l b D z yX7_townTellsOfMissing cX7_townTellsOfMissing 5 (some .boolean) rm_X7_townTellsOfMissing Φ 73 [(1, .int b1), (2, .int b2)] [] h nx 0 0) : Go l b D z yX7_townTellsOfMissing cX7_townTellsOfMissing 5 (some .boolean) rm_X7_townTellsOfMissing Φ 59 [(0, .ref a0), (1, .int a1), (3, .int a3)] [.int t0, .int t1, .int t2] h nx 0 0 := by
  unfold j_X7_townTellsOfMissing_59 at hF
  refine g_iadd dX7_townTellsOfMissing_59 ?_
  obtain ⟨x1, e2, hF⟩ := q_bind hF
  refine g_callSr0 qm_J9_max_7cf53 wd_720 wd_721 (M_J9_max_7cf53 l b D z nx e2) (As := [.int t2, .int (t1 + t0)]) rfl rfl (Nat.le_of_ble_eq_true rfl) ⟨(Nat.le_of_ble_eq_true rfl), (Nat.le_of_ble_eq_true rfl)⟩ ⟨rfl, rfl⟩ ⟨(Nat.le_of_ble_eq_true rfl), (Nat.le_of_ble_eq_true rfl)⟩ dX7_townTellsOfMissing_60 ?_
  refine g_istore_n [(2, .int x1), (0, .ref a0), (1, .int a1), (3, .int a3)] dX7_townTellsOfMissing_63 (Nat.le_of_ble_eq_true rfl) rfl ?_
  refine g_aload_n 1 dX7_townTellsOfMissing_64 rfl ?_
  refine g_iload_n 3 dX7_townTellsOfMissing_65 rfl ?_
  obtain ⟨u3, e4, hF⟩ := q_bind hF
  obtain ⟨x5, e6, hF⟩ := q_bind hF
  refine g_callVr0 (ci := 7) (q := (RX7, TX7, 6)) qm_X7_behindStatement wd_675 wd_677 wd_5 rfl e4 (M_X7_behindStatement l b D z nx e6) (As := [.int a3]) rfl rfl (Nat.le_of_ble_eq_true rfl) ⟨(Nat.le_of_ble_eq_true rfl), (Nat.le_of_ble_eq_true rfl)⟩ ⟨rfl, rfl⟩ ⟨(Nat.le_of_ble_eq_true rfl), (Nat.le_of_ble_eq_true rfl)⟩ dX7_townTellsOfMissing_66 ?_
  refine g_istore_n [(3, .int x5), (2, .int x1), (0, .ref a0), (1, .int a1)] dX7_townTellsOfMissing_69 (Nat.le_of_ble_eq_true rfl) rfl ?_
  refine g_goto 6 dX7_townTellsOfMissing_70 (by decide) ?_
  cases hF
  refine g_sub [2, 3, 1, 0] rfl ?_
  exact hback _ _ _ rfl
set_option maxRecDepth 100000 in
set_option maxHeartbeats 4000000 in
theorem B_X7_townTellsOfMissing_6 (l : Launch) (b : Nat) (D : va_G) (z : Nat → Nat) {Φ : Option Value → qH → Nat → Prop} {nx : Nat} {h : qH} {a0 : Nat} {a1 : Int32} {a2 : Int32} {a3 : Int32} {o : (Int32 × Int32 × Int32) ⊕ ((Int32 × Int32))} (hF : b_X7_townTellsOfMissing_6 z h a0 a1 a2 a3 = some o) (hback : ∀ (b1 : Int32) (b2 : Int32) (b3 : Int32), o = .inl (b1, b2, b3) → Go l b D z yX7_townTellsOfMissing cX7_townTellsOfMissing 5 (some .boolean) rm_X7_townTellsOfMissing Φ 6 [(0, .ref a0), (1, .int b1), (2, .int b2), (3, .int b3)] [] h nx 0 0) (hx0 : ∀ (b1 : Int32) (b2 : Int32), o = .inr (b1, b2) → Go l b D z yX7_townTellsOfMissing cX7_townTellsOfMissing 5 (some .boolean) rm_X7_townTellsOfMissing Φ 73 [(1, .int b1), (2, .int b2)] [] h nx 0 0) : Go l b D z yX7_townTellsOfMissing cX7_townTellsOfMissing 5 (some .boolean) rm_X7_townTellsOfMissing Φ 6 [(0, .ref a0), (1, .int a1), (2, .int a2), (3, .int a3)] [] h nx 0 0 := by
  unfold b_X7_townTellsOfMissing_6 at hF
  refine g_iload_n 3 dX7_townTellsOfMissing_6 rfl ?_
  refine g_aload_n 0 dX7_townTellsOfMissing_7 rfl ?_
  obtain ⟨u1, e2, hF⟩ := q_bind hF
  obtain ⟨x3, e4, hF⟩ := q_bind hF
  refine g_callVr0 (ci := 7) (q := (RX7, TX7, 6)) qm_X7_lastToken wd_700 wd_702 wd_10 rfl e2 (M_X7_lastToken l b D z nx e4) (As := []) rfl rfl (Nat.le_of_ble_eq_true rfl) ⟨(Nat.le_of_ble_eq_true rfl), (Nat.le_of_ble_eq_true rfl)⟩ ⟨rfl, rfl⟩ ⟨(Nat.le_of_ble_eq_true rfl), (Nat.le_of_ble_eq_true rfl)⟩ dX7_townTellsOfMissing_8 ?_
  refine g_icmp_ge 73 dX7_townTellsOfMissing_11 (by decide) (fun c5 => ?_) (fun c5 => ?_)
  · replace hF := q_t c5 hF
    cases hF
    refine g_sub [1, 2] rfl ?_
    exact hx0 _ _ rfl
  · replace hF := q_f c5 hF
    refine g_aload_n 0 dX7_townTellsOfMissing_14 rfl ?_
    refine g_iload_n 3 dX7_townTellsOfMissing_15 rfl ?_
    obtain ⟨u6, e7, hF⟩ := q_bind hF
    obtain ⟨x8, e9, hF⟩ := q_bind hF
    refine g_callVr0 (ci := 7) (q := (RX7, TX7, 6)) qm_X7_valueAt wd_679 wd_681 wd_6 rfl e7 (M_X7_valueAt l b D z nx e9) (As := [.int a3]) rfl rfl (Nat.le_of_ble_eq_true rfl) ⟨(Nat.le_of_ble_eq_true rfl), (Nat.le_of_ble_eq_true rfl)⟩ ⟨rfl, rfl⟩ ⟨(Nat.le_of_ble_eq_true rfl), (Nat.le_of_ble_eq_true rfl)⟩ dX7_townTellsOfMissing_16 ?_
    refine g_istore [(4, .int x8), (0, .ref a0), (1, .int a1), (2, .int a2), (3, .int a3)] dX7_townTellsOfMissing_19 (Nat.le_of_ble_eq_true rfl) rfl ?_
    refine g_iload 0 dX7_townTellsOfMissing_21 rfl ?_
    refine g_bipush dX7_townTellsOfMissing_23 lt_bipush_15 ?_
    refine g_icmp_ne 39 dX7_townTellsOfMissing_25 (by decide) (fun c10 => ?_) (fun c10 => ?_)
    · replace hF := q_f c10 hF
      refine g_iload_n 3 dX7_townTellsOfMissing_39 rfl ?_
      refine g_aload_n 1 dX7_townTellsOfMissing_40 rfl ?_
      refine g_iload_n 4 dX7_townTellsOfMissing_41 rfl ?_
      refine g_iconst dX7_townTellsOfMissing_42 lt_iconst_1 ?_
      refine g_iadd dX7_townTellsOfMissing_43 ?_
      obtain ⟨u11, e12, hF⟩ := q_bind hF
      obtain ⟨x13, e14, hF⟩ := q_bind hF
      refine g_callVr0 (ci := 7) (q := (RX7, TX7, 6)) qm_X7_valueAt wd_679 wd_681 wd_6 rfl e12 (M_X7_valueAt l b D z nx e14) (As := [.int (a3 + (1 : Int32))]) rfl rfl (Nat.le_of_ble_eq_true rfl) ⟨(Nat.le_of_ble_eq_true rfl), (Nat.le_of_ble_eq_true rfl)⟩ ⟨rfl, rfl⟩ ⟨(Nat.le_of_ble_eq_true rfl), (Nat.le_of_ble_eq_true rfl)⟩ dX7_townTellsOfMissing_44 ?_
      refine g_iload 0 dX7_townTellsOfMissing_47 rfl ?_
      refine g_bipush dX7_townTellsOfMissing_49 lt_bipush_16 ?_
      refine g_icmp_ne 58 dX7_townTellsOfMissing_51 (by decide) (fun c15 => ?_) (fun c15 => ?_)
      · replace hF := q_f c15 hF
        refine g_iconst dX7_townTellsOfMissing_58 lt_iconst_0 ?_
        refine g_sub [1, 2, 4] rfl ?_
        exact J_X7_townTellsOfMissing_59 l b D z hF hback hx0
      · replace hF := q_t c15 hF
        refine g_iconst dX7_townTellsOfMissing_54 lt_iconst_1 ?_
        refine g_goto 59 dX7_townTellsOfMissing_55 (by decide) ?_
        refine g_sub [1, 2, 4] rfl ?_
        exact J_X7_townTellsOfMissing_59 l b D z hF hback hx0
    · replace hF := q_t c10 hF
      refine g_aload_n 1 dX7_townTellsOfMissing_28 rfl ?_
      refine g_iload_n 4 dX7_townTellsOfMissing_29 rfl ?_
      refine g_iconst dX7_townTellsOfMissing_30 lt_iconst_1 ?_
      refine g_iadd dX7_townTellsOfMissing_31 ?_
      obtain ⟨u16, e17, hF⟩ := q_bind hF
      obtain ⟨x18, e19, hF⟩ := q_bind hF
      refine g_callVr0 (ci := 7) (q := (RX7, TX7, 6)) qm_X7_valueAt wd_679 wd_681 wd_6 rfl e17 (M_X7_valueAt l b D z nx e19) (As := [.int (a3 + (1 : Int32))]) rfl rfl (Nat.le_of_ble_eq_true rfl) ⟨(Nat.le_of_ble_eq_true rfl), (Nat.le_of_ble_eq_true rfl)⟩ ⟨rfl, rfl⟩ ⟨(Nat.le_of_ble_eq_true rfl), (Nat.le_of_ble_eq_true rfl)⟩ dX7_townTellsOfMissing_32 ?_
      refine g_istore_n [(1, .int x18), (4, .int x8), (0, .ref a0), (2, .int a2), (3, .int a3)] dX7_townTellsOfMissing_35 (Nat.le_of_ble_eq_true rfl) rfl ?_
      refine g_goto 64 dX7_townTellsOfMissing_36 (by decide) ?_
      refine g_aload_n 2 dX7_townTellsOfMissing_64 rfl ?_
      refine g_iload_n 4 dX7_townTellsOfMissing_65 rfl ?_
      obtain ⟨u20, e21, hF⟩ := q_bind hF
      obtain ⟨x22, e23, hF⟩ := q_bind hF
      refine g_callVr0 (ci := 7) (q := (RX7, TX7, 6)) qm_X7_behindStatement wd_675 wd_677 wd_5 rfl e21 (M_X7_behindStatement l b D z nx e23) (As := [.int a3]) rfl rfl (Nat.le_of_ble_eq_true rfl) ⟨(Nat.le_of_ble_eq_true rfl), (Nat.le_of_ble_eq_true rfl)⟩ ⟨rfl, rfl⟩ ⟨(Nat.le_of_ble_eq_true rfl), (Nat.le_of_ble_eq_true rfl)⟩ dX7_townTellsOfMissing_66 ?_
      refine g_istore_n [(3, .int x22), (1, .int x18), (4, .int x8), (0, .ref a0), (2, .int a2)] dX7_townTellsOfMissing_69 (Nat.le_of_ble_eq_true rfl) rfl ?_
      refine g_goto 6 dX7_townTellsOfMissing_70 (by decide) ?_
      cases hF
      refine g_sub [3, 1, 4, 0] rfl ?_
      exact hback _ _ _ rfl
set_option maxRecDepth 100000 in
set_option maxHeartbeats 4000000 in
theorem L_X7_townTellsOfMissing_6 (l : Launch) (b : Nat) (D : va_G) (z : Nat → Nat) {Φ : Option Value → qH → Nat → Prop} {nx : Nat} {h : qH} {a0 : Nat} : ∀ (n : Nat) (a1 : Int32) (a2 : Int32) (a3 : Int32) (e : (Int32 × Int32)), q_lp (s_X7_townTellsOfMissing_6 z h a0) n (a1, a2, a3) = some e → (∀ (b1 : Int32) (b2 : Int32), e = (b1, b2) → Go l b D z yX7_townTellsOfMissing cX7_townTellsOfMissing 5 (some .boolean) rm_X7_townTellsOfMissing Φ 73 [(1, .int b1), (2, .int b2)] [] h nx 0 0) → Go l b D z yX7_townTellsOfMissing cX7_townTellsOfMissing 5 (some .boolean) rm_X7_townTellsOfMissing Φ 6 [(0, .ref a0), (1, .int a1), (2, .int a2), (3, .int a3)] [] h nx 0 0 := by
  intro n
  induction n with
  | zero => intro a1 a2 a3 e he; cases (show none = some e from he)
  | succ n ih =>
    intro a1 a2 a3 e he hx0
    obtain ⟨o, ho, h1, h2⟩ := q_lp_succ he
    exact B_X7_townTellsOfMissing_6 l b D z (show b_X7_townTellsOfMissing_6 z h a0 a1 a2 a3 = some o from ho) (fun b1 b2 b3 hb => ih _ _ _ e (h1 _ hb) hx0) (fun p0 p1 hr => hx0 p0 p1 (h2 _ hr).symm)
set_option maxRecDepth 100000 in
set_option maxHeartbeats 4000000 in
theorem M_X7_townTellsOfMissing (l : Launch) (b : Nat) (D : va_G) (z : Nat → Nat) (nx : Nat) {h : qH} {a0 : Nat} {r : Int32} (hF : F_X7_townTellsOfMissing z h a0 = some r) : Me l b D z yX7_townTellsOfMissing cX7_townTellsOfMissing 5 (some .boolean) rm_X7_townTellsOfMissing [.ref a0] h nx (qE (some (.int r)) h nx) := by
  refine Me.of (by decide +kernel) (Nat.le_of_ble_eq_true rfl) ?_
  show Go l b D z yX7_townTellsOfMissing cX7_townTellsOfMissing 5 (some .boolean) rm_X7_townTellsOfMissing (qE (some (.int r)) h nx) 0 [(0, .ref a0)] [] h nx 0 0
  unfold F_X7_townTellsOfMissing at hF
  refine g_iconst dX7_townTellsOfMissing_0 lt_iconst_4 ?_
  refine g_istore_n [(1, .int (4 : Int32)), (0, .ref a0)] dX7_townTellsOfMissing_1 (Nat.le_of_ble_eq_true rfl) rfl ?_
  refine g_iconst dX7_townTellsOfMissing_2 lt_iconst_m1 ?_
  refine g_istore_n [(2, .int (-1 : Int32)), (1, .int (4 : Int32)), (0, .ref a0)] dX7_townTellsOfMissing_3 (Nat.le_of_ble_eq_true rfl) rfl ?_
  refine g_iconst dX7_townTellsOfMissing_4 lt_iconst_0 ?_
  refine g_istore_n [(3, .int (0 : Int32)), (2, .int (-1 : Int32)), (1, .int (4 : Int32)), (0, .ref a0)] dX7_townTellsOfMissing_5 (Nat.le_of_ble_eq_true rfl) rfl ?_
  obtain ⟨e1, w2, hF⟩ := q_bind hF
  refine g_sub [3, 2, 1, 0] rfl ?_
  refine L_X7_townTellsOfMissing_6 l b D z q_N (4 : Int32) (-1 : Int32) (0 : Int32) e1 w2 ?_
  · intro o3 o4 w5
    replace w5 := w5.symm
    subst w5
    dsimp only at hF
    refine g_iload_n 1 dX7_townTellsOfMissing_73 rfl ?_
    refine g_iload_n 0 dX7_townTellsOfMissing_74 rfl ?_
    refine g_icmp_lt 82 dX7_townTellsOfMissing_75 (by decide) (fun c6 => ?_) (fun c6 => ?_)
    · replace hF := q_t c6 hF
      refine g_iconst dX7_townTellsOfMissing_82 lt_iconst_0 ?_
      cases hF
      exact g_zret dX7_townTellsOfMissing_83 rfl zn_0 ⟨rfl, rfl, rfl⟩ (Nat.le_of_ble_eq_true rfl) (Nat.le_of_ble_eq_true rfl)
    · replace hF := q_f c6 hF
      refine g_iconst dX7_townTellsOfMissing_78 lt_iconst_1 ?_
      refine g_goto 83 dX7_townTellsOfMissing_79 (by decide) ?_
      cases hF
      exact g_zret dX7_townTellsOfMissing_83 rfl zn_1 ⟨rfl, rfl, rfl⟩ (Nat.le_of_ble_eq_true rfl) (Nat.le_of_ble_eq_true rfl)
def rm_X7_tellsOfMissing : Room := { frames := 3, cells := 0, slots := 0, locals := 66 }
set_option maxRecDepth 100000 in
set_option maxHeartbeats 4000000 in
theorem M_X7_tellsOfMissing (l : Launch) (b : Nat) (D : va_G) (z : Nat → Nat) (nx : Nat) {h : qH} {a0 : Nat} {a1 : Int32} {r : Int32} (hF : F_X7_tellsOfMissing z h a0 a1 = some r) : Me l b D z yX7_tellsOfMissing cX7_tellsOfMissing 2 (some .boolean) rm_X7_tellsOfMissing [.ref a0, .int a1] h nx (qE (some (.int r)) h nx) := by
  refine Me.of (by decide +kernel) (Nat.le_of_ble_eq_true rfl) ?_
  show Go l b D z yX7_tellsOfMissing cX7_tellsOfMissing 2 (some .boolean) rm_X7_tellsOfMissing (qE (some (.int r)) h nx) 0 [(0, .ref a0), (1, .int a1)] [] h nx 0 0
  unfold F_X7_tellsOfMissing at hF
  refine g_iload_n 1 dX7_tellsOfMissing_0 rfl ?_
  refine g_if_ne 9 dX7_tellsOfMissing_1 (by decide) (fun c1 => ?_) (fun c1 => ?_)
  · replace hF := q_f c1 hF
    refine g_iload_n 1 dX7_tellsOfMissing_9 rfl ?_
    refine g_iconst dX7_tellsOfMissing_10 lt_iconst_3 ?_
    refine g_icmp_ne 25 dX7_tellsOfMissing_11 (by decide) (fun c2 => ?_) (fun c2 => ?_)
    · replace hF := q_f c2 hF
      refine g_iconst dX7_tellsOfMissing_25 lt_iconst_0 ?_
      cases hF
      exact g_zret dX7_tellsOfMissing_26 rfl zn_0 ⟨rfl, rfl, rfl⟩ (Nat.le_of_ble_eq_true rfl) (Nat.le_of_ble_eq_true rfl)
    · replace hF := q_t c2 hF
      refine g_aload_n 0 dX7_tellsOfMissing_14 rfl ?_
      obtain ⟨u3, e4, hF⟩ := q_bind hF
      obtain ⟨x5, e6, hF⟩ := q_bind hF
      refine g_callVr0 (ci := 7) (q := (RX7, TX7, 6)) qm_X7_townTellsOfMissing wd_723 wd_725 wd_14 rfl e4 (M_X7_townTellsOfMissing l b D z nx e6) (As := []) rfl rfl (Nat.le_of_ble_eq_true rfl) ⟨(Nat.le_of_ble_eq_true rfl), (Nat.le_of_ble_eq_true rfl)⟩ ⟨rfl, rfl⟩ ⟨(Nat.le_of_ble_eq_true rfl), (Nat.le_of_ble_eq_true rfl)⟩ dX7_tellsOfMissing_15 ?_
      refine g_if_eq 25 dX7_tellsOfMissing_18 (by decide) (fun c7 => ?_) (fun c7 => ?_)
      · replace hF := q_t c7 hF
        refine g_iconst dX7_tellsOfMissing_25 lt_iconst_0 ?_
        cases hF
        exact g_zret dX7_tellsOfMissing_26 rfl zn_0 ⟨rfl, rfl, rfl⟩ (Nat.le_of_ble_eq_true rfl) (Nat.le_of_ble_eq_true rfl)
      · replace hF := q_f c7 hF
        refine g_iconst dX7_tellsOfMissing_21 lt_iconst_1 ?_
        refine g_goto 26 dX7_tellsOfMissing_22 (by decide) ?_
        cases hF
        exact g_zret dX7_tellsOfMissing_26 rfl zn_1 ⟨rfl, rfl, rfl⟩ (Nat.le_of_ble_eq_true rfl) (Nat.le_of_ble_eq_true rfl)
  · replace hF := q_t c1 hF
    refine g_aload_n 0 dX7_tellsOfMissing_4 rfl ?_
    obtain ⟨u8, e9, hF⟩ := q_bind hF
    obtain ⟨x10, e11, hF⟩ := q_bind hF
    refine g_callVr0 (ci := 7) (q := (RX7, TX7, 6)) qm_X7_bookTellsOfMissing wd_716 wd_718 wd_13 rfl e9 (M_X7_bookTellsOfMissing l b D z nx e11) (As := []) rfl rfl (Nat.le_of_ble_eq_true rfl) ⟨(Nat.le_of_ble_eq_true rfl), (Nat.le_of_ble_eq_true rfl)⟩ ⟨rfl, rfl⟩ ⟨(Nat.le_of_ble_eq_true rfl), (Nat.le_of_ble_eq_true rfl)⟩ dX7_tellsOfMissing_5 ?_
    obtain ⟨u12, e13, hF⟩ := q_bind hF
    cases hF
    exact g_zret dX7_tellsOfMissing_8 rfl (q_z_spec e13).2.1 ⟨rfl, rfl, rfl⟩ (Nat.le_of_ble_eq_true rfl) (Nat.le_of_ble_eq_true rfl)
def rm_X7_read : Room := { frames := 8, cells := 0, slots := 0, locals := 210 }
set_option maxRecDepth 100000 in
set_option maxHeartbeats 4000000 in
theorem M_X7_read (l : Launch) (b : Nat) (D : va_G) (z : Nat → Nat) (nx : Nat) {h : qH} {a0 : Nat} {a1 : Nat} {a2 : Int32} {r : qH} (hF : F_X7_read z h a0 a1 a2 = some r) : Me l b D z yX7_read cX7_read 4 none rm_X7_read [.ref a0, .ref a1, .int a2] h nx (qE none r nx) := by
  refine Me.of (by decide +kernel) (Nat.le_of_ble_eq_true rfl) ?_
  show Go l b D z yX7_read cX7_read 4 none rm_X7_read (qE none r nx) 0 [(0, .ref a0), (1, .ref a1), (2, .int a2)] [] h nx 0 0
  unfold F_X7_read at hF
  refine g_aload_n 0 dX7_read_0 rfl ?_
  refine g_iconst dX7_read_1 lt_iconst_0 ?_
  obtain ⟨h1, e2, hF⟩ := q_bind hF
  refine g_putf fl_X7_23 e2 rfl rfl dX7_read_2 ?_
  refine g_aload_n 0 dX7_read_5 rfl ?_
  refine g_iconst dX7_read_6 lt_iconst_m1 ?_
  obtain ⟨h3, e4, hF⟩ := q_bind hF
  refine g_putf fl_X7_27 e4 rfl rfl dX7_read_7 ?_
  refine g_aload_n 0 dX7_read_10 rfl ?_
  refine g_aload_n 1 dX7_read_11 rfl ?_
  refine g_iload_n 2 dX7_read_12 rfl ?_
  obtain ⟨u5, e6, hF⟩ := q_bind hF
  obtain ⟨x7, e8, hF⟩ := q_bind hF
  refine g_callVv0 (ci := 7) (q := (RX7, TX7, 6)) qm_X7_split wd_565 wd_567 wd_0 rfl e6 (M_X7_split l b D z nx e8) (As := [.ref a1, .int a2]) rfl rfl (Nat.le_of_ble_eq_true rfl) ⟨(Nat.le_of_ble_eq_true rfl), (Nat.le_of_ble_eq_true rfl)⟩ ⟨rfl, rfl⟩ ⟨(Nat.le_of_ble_eq_true rfl), (Nat.le_of_ble_eq_true rfl)⟩ dX7_read_13 ?_
  refine g_aload_n 0 dX7_read_16 rfl ?_
  obtain ⟨u9, e10, hF⟩ := q_bind hF
  obtain ⟨x11, e12, hF⟩ := q_bind hF
  refine g_callVr0 (ci := 7) (q := (RX7, TX7, 6)) qm_X7_firstUnfit wd_671 wd_673 wd_4 rfl e10 (M_X7_firstUnfit l b D z nx e12) (As := []) rfl rfl (Nat.le_of_ble_eq_true rfl) ⟨(Nat.le_of_ble_eq_true rfl), (Nat.le_of_ble_eq_true rfl)⟩ ⟨rfl, rfl⟩ ⟨(Nat.le_of_ble_eq_true rfl), (Nat.le_of_ble_eq_true rfl)⟩ dX7_read_17 ?_
  refine g_istore_n [(3, .int x11), (0, .ref a0), (1, .ref a1), (2, .int a2)] dX7_read_20 (Nat.le_of_ble_eq_true rfl) rfl ?_
  refine g_iload_n 0 dX7_read_21 rfl ?_
  refine g_iconst dX7_read_22 lt_iconst_m1 ?_
  refine g_icmp_eq 37 dX7_read_23 (by decide) (fun c13 => ?_) (fun c13 => ?_)
  · replace hF := q_t c13 hF
    refine g_aload_n 1 dX7_read_37 rfl ?_
    obtain ⟨u14, e15, hF⟩ := q_bind hF
    obtain ⟨x16, e17, hF⟩ := q_bind hF
    refine g_callVv0 (ci := 7) (q := (RX7, TX7, 6)) qm_X7_findWrongNumber wd_696 wd_698 wd_9 rfl e15 (M_X7_findWrongNumber l b D z nx e17) (As := []) rfl rfl (Nat.le_of_ble_eq_true rfl) ⟨(Nat.le_of_ble_eq_true rfl), (Nat.le_of_ble_eq_true rfl)⟩ ⟨rfl, rfl⟩ ⟨(Nat.le_of_ble_eq_true rfl), (Nat.le_of_ble_eq_true rfl)⟩ dX7_read_38 ?_
    refine g_aload_n 1 dX7_read_41 rfl ?_
    obtain ⟨x18, e19, hF⟩ := q_bind hF
    refine g_getfI fl_X7_23 e19 dX7_read_42 ?_
    refine g_if_ne 65 dX7_read_45 (by decide) (fun c20 => ?_) (fun c20 => ?_)
    · replace hF := q_f c20 hF
      cases hF
      exact g_vret dX7_read_65 rfl ⟨rfl, rfl, rfl⟩ (Nat.le_of_ble_eq_true rfl) (Nat.le_of_ble_eq_true rfl)
    · replace hF := q_t c20 hF
      refine g_aload_n 1 dX7_read_48 rfl ?_
      refine g_iload_n 3 dX7_read_49 rfl ?_
      obtain ⟨u21, e22, hF⟩ := q_bind hF
      obtain ⟨x23, e24, hF⟩ := q_bind hF
      refine g_callVr0 (ci := 7) (q := (RX7, TX7, 6)) qm_X7_tellsOfMissing wd_712 wd_714 wd_12 rfl e22 (M_X7_tellsOfMissing l b D z nx e24) (As := [.int a2]) rfl rfl (Nat.le_of_ble_eq_true rfl) ⟨(Nat.le_of_ble_eq_true rfl), (Nat.le_of_ble_eq_true rfl)⟩ ⟨rfl, rfl⟩ ⟨(Nat.le_of_ble_eq_true rfl), (Nat.le_of_ble_eq_true rfl)⟩ dX7_read_50 ?_
      refine g_if_eq 65 dX7_read_53 (by decide) (fun c25 => ?_) (fun c25 => ?_)
      · replace hF := q_t c25 hF
        cases hF
        exact g_vret dX7_read_65 rfl ⟨rfl, rfl, rfl⟩ (Nat.le_of_ble_eq_true rfl) (Nat.le_of_ble_eq_true rfl)
      · replace hF := q_f c25 hF
        refine g_aload_n 1 dX7_read_56 rfl ?_
        refine g_iconst dX7_read_57 lt_iconst_4 ?_
        refine g_aload_n 2 dX7_read_58 rfl ?_
        obtain ⟨x26, e27, hF⟩ := q_bind hF
        refine g_getfI fl_X7_53 e27 dX7_read_59 ?_
        obtain ⟨u28, e29, hF⟩ := q_bind hF
        obtain ⟨x30, e31, hF⟩ := q_bind hF
        refine g_callVv0 (ci := 7) (q := (RX7, TX7, 6)) qm_X7_blame wd_692 wd_694 wd_8 rfl e29 (M_X7_blame l b D z nx e31) (As := [.int (4 : Int32), .int x26]) rfl rfl (Nat.le_of_ble_eq_true rfl) ⟨(Nat.le_of_ble_eq_true rfl), (Nat.le_of_ble_eq_true rfl)⟩ ⟨rfl, rfl⟩ ⟨(Nat.le_of_ble_eq_true rfl), (Nat.le_of_ble_eq_true rfl)⟩ dX7_read_62 ?_
        cases hF
        exact g_vret dX7_read_65 rfl ⟨rfl, rfl, rfl⟩ (Nat.le_of_ble_eq_true rfl) (Nat.le_of_ble_eq_true rfl)
  · replace hF := q_f c13 hF
    refine g_aload_n 1 dX7_read_26 rfl ?_
    refine g_iconst dX7_read_27 lt_iconst_1 ?_
    refine g_aload_n 1 dX7_read_28 rfl ?_
    refine g_iload_n 0 dX7_read_29 rfl ?_
    obtain ⟨u32, e33, hF⟩ := q_bind hF
    obtain ⟨x34, e35, hF⟩ := q_bind hF
    refine g_callVr0 (ci := 7) (q := (RX7, TX7, 6)) qm_X7_startAt wd_688 wd_690 wd_7 rfl e33 (M_X7_startAt l b D z nx e35) (As := [.int x11]) rfl rfl (Nat.le_of_ble_eq_true rfl) ⟨(Nat.le_of_ble_eq_true rfl), (Nat.le_of_ble_eq_true rfl)⟩ ⟨rfl, rfl⟩ ⟨(Nat.le_of_ble_eq_true rfl), (Nat.le_of_ble_eq_true rfl)⟩ dX7_read_30 ?_
    obtain ⟨u36, e37, hF⟩ := q_bind hF
    obtain ⟨x38, e39, hF⟩ := q_bind hF
    refine g_callVv0 (ci := 7) (q := (RX7, TX7, 6)) qm_X7_blame wd_692 wd_694 wd_8 rfl e37 (M_X7_blame l b D z nx e39) (As := [.int (1 : Int32), .int x34]) rfl rfl (Nat.le_of_ble_eq_true rfl) ⟨(Nat.le_of_ble_eq_true rfl), (Nat.le_of_ble_eq_true rfl)⟩ ⟨rfl, rfl⟩ ⟨(Nat.le_of_ble_eq_true rfl), (Nat.le_of_ble_eq_true rfl)⟩ dX7_read_33 ?_
    cases hF
    exact g_vret dX7_read_36 rfl ⟨rfl, rfl, rfl⟩ (Nat.le_of_ble_eq_true rfl) (Nat.le_of_ble_eq_true rfl)
def rm_X9_bookAt : Room := { frames := 0, cells := 0, slots := 0, locals := 0 }
set_option maxRecDepth 100000 in
set_option maxHeartbeats 4000000 in
theorem M_X9_bookAt (l : Launch) (b : Nat) (D : va_G) (z : Nat → Nat) (nx : Nat) {h : qH} {a0 : Nat} {a1 : Int32} {r : Option Nat} (hF : F_X9_bookAt h a0 a1 = some r) : Me l b D z yX9_bookAt cX9_bookAt 2 (some (.object "CellarPrompter$Book")) rm_X9_bookAt [.ref a0, .int a1] h nx (qE (some (va_rf r)) h nx) := by
  refine Me.of (by decide +kernel) (Nat.le_of_ble_eq_true rfl) ?_
  show Go l b D z yX9_bookAt cX9_bookAt 2 (some (.object "CellarPrompter$Book")) rm_X9_bookAt (qE (some (va_rf r)) h nx) 0 [(0, .ref a0), (1, .int a1)] [] h nx 0 0
  unfold F_X9_bookAt at hF
  refine g_iload_n 1 dX9_bookAt_0 rfl ?_
  refine g_if_lt 28 dX9_bookAt_1 (by decide) (fun c1 => ?_) (fun c1 => ?_)
  · replace hF := q_t c1 hF
    refine g_anull dX9_bookAt_28 ?_
    cases hF
    exact g_aret dX9_bookAt_29 rfl (Or.inl ⟨_, rfl⟩) (Or.inl rfl) ⟨rfl, rfl, rfl⟩ (Nat.le_of_ble_eq_true rfl) (Nat.le_of_ble_eq_true rfl)
  · replace hF := q_f c1 hF
    refine g_iload_n 1 dX9_bookAt_4 rfl ?_
    refine g_aload_n 0 dX9_bookAt_5 rfl ?_
    obtain ⟨x2, e3, hF⟩ := q_bind hF
    refine g_getfR fl_X9_15 e3 dX9_bookAt_6 ?_
    refine g_iconst dX9_bookAt_9 lt_iconst_0 ?_
    obtain ⟨x4, e5, hF⟩ := q_bind hF
    refine g_iald e5 dX9_bookAt_10 ?_
    refine g_icmp_ge 28 dX9_bookAt_11 (by decide) (fun c6 => ?_) (fun c6 => ?_)
    · replace hF := q_t c6 hF
      refine g_anull dX9_bookAt_28 ?_
      cases hF
      exact g_aret dX9_bookAt_29 rfl (Or.inl ⟨_, rfl⟩) (Or.inl rfl) ⟨rfl, rfl, rfl⟩ (Nat.le_of_ble_eq_true rfl) (Nat.le_of_ble_eq_true rfl)
    · replace hF := q_f c6 hF
      refine g_iload_n 1 dX9_bookAt_14 rfl ?_
      refine g_iconst dX9_bookAt_15 lt_iconst_2 ?_
      refine g_icmp_ge 28 dX9_bookAt_16 (by decide) (fun c7 => ?_) (fun c7 => ?_)
      · replace hF := q_t c7 hF
        refine g_anull dX9_bookAt_28 ?_
        cases hF
        exact g_aret dX9_bookAt_29 rfl (Or.inl ⟨_, rfl⟩) (Or.inl rfl) ⟨rfl, rfl, rfl⟩ (Nat.le_of_ble_eq_true rfl) (Nat.le_of_ble_eq_true rfl)
      · replace hF := q_f c7 hF
        refine g_aload_n 0 dX9_bookAt_19 rfl ?_
        obtain ⟨x8, e9, hF⟩ := q_bind hF
        refine g_getfR fl_X9_21 e9 dX9_bookAt_20 ?_
        refine g_iload_n 1 dX9_bookAt_23 rfl ?_
        obtain ⟨x10, e11, hF⟩ := q_bind hF
        refine g_aald e11 dX9_bookAt_24 ?_
        rcases x10 with _ | x12
        · replace hF := q_en hF
          refine g_goto 29 dX9_bookAt_25 (by decide) ?_
          cases hF
          exact g_aret dX9_bookAt_29 rfl (Or.inl ⟨_, rfl⟩) (Or.inl rfl) ⟨rfl, rfl, rfl⟩ (Nat.le_of_ble_eq_true rfl) (Nat.le_of_ble_eq_true rfl)
        · replace hF := q_es hF
          refine g_goto 29 dX9_bookAt_25 (by decide) ?_
          cases hF
          exact g_aret dX9_bookAt_29 rfl (Or.inl ⟨_, rfl⟩) (Or.inr ⟨_, rfl⟩) ⟨rfl, rfl, rfl⟩ (Nat.le_of_ble_eq_true rfl) (Nat.le_of_ble_eq_true rfl)
def rm_X7_tellBook : Room := { frames := 2, cells := 0, slots := 0, locals := 42 }
set_option maxRecDepth 100000 in
set_option maxHeartbeats 4000000 in
theorem M_X7_tellBook (l : Launch) (b : Nat) (D : va_G) (z : Nat → Nat) (nx : Nat) {h : qH} {a0 : Nat} {a1 : Nat} {a2 : Int32} {r : qH} (hF : F_X7_tellBook h a0 a1 a2 = some r) : Me l b D z yX7_tellBook cX7_tellBook 5 none rm_X7_tellBook [.ref a0, .ref a1, .int a2] h nx (qE none r nx) := by
  refine Me.of (by decide +kernel) (Nat.le_of_ble_eq_true rfl) ?_
  show Go l b D z yX7_tellBook cX7_tellBook 5 none rm_X7_tellBook (qE none r nx) 0 [(0, .ref a0), (1, .ref a1), (2, .int a2)] [] h nx 0 0
  unfold F_X7_tellBook at hF
  refine g_aload_n 0 dX7_tellBook_0 rfl ?_
  refine g_iload_n 2 dX7_tellBook_1 rfl ?_
  refine g_iconst dX7_tellBook_2 lt_iconst_1 ?_
  refine g_iadd dX7_tellBook_3 ?_
  obtain ⟨u1, e2, hF⟩ := q_bind hF
  obtain ⟨x3, e4, hF⟩ := q_bind hF
  refine g_callVr0 (ci := 7) (q := (RX7, TX7, 6)) qm_X7_valueAt wd_679 wd_681 wd_6 rfl e2 (M_X7_valueAt l b D z nx e4) (As := [.int (a2 + (1 : Int32))]) rfl rfl (Nat.le_of_ble_eq_true rfl) ⟨(Nat.le_of_ble_eq_true rfl), (Nat.le_of_ble_eq_true rfl)⟩ ⟨rfl, rfl⟩ ⟨(Nat.le_of_ble_eq_true rfl), (Nat.le_of_ble_eq_true rfl)⟩ dX7_tellBook_4 ?_
  refine g_istore_n [(3, .int x3), (0, .ref a0), (1, .ref a1), (2, .int a2)] dX7_tellBook_7 (Nat.le_of_ble_eq_true rfl) rfl ?_
  refine g_aload_n 1 dX7_tellBook_8 rfl ?_
  refine g_iload_n 3 dX7_tellBook_9 rfl ?_
  refine g_iconst dX7_tellBook_10 lt_iconst_2 ?_
  refine g_iadd dX7_tellBook_11 ?_
  obtain ⟨u5, e6, hF⟩ := q_bind hF
  obtain ⟨x7, e8, hF⟩ := q_bind hF
  refine g_callVr0 (ci := 7) (q := (RX7, TX7, 6)) qm_X7_valueAt wd_679 wd_681 wd_6 rfl e6 (M_X7_valueAt l b D z nx e8) (As := [.int (a2 + (2 : Int32))]) rfl rfl (Nat.le_of_ble_eq_true rfl) ⟨(Nat.le_of_ble_eq_true rfl), (Nat.le_of_ble_eq_true rfl)⟩ ⟨rfl, rfl⟩ ⟨(Nat.le_of_ble_eq_true rfl), (Nat.le_of_ble_eq_true rfl)⟩ dX7_tellBook_12 ?_
  refine g_istore [(4, .int x7), (3, .int x3), (0, .ref a0), (1, .ref a1), (2, .int a2)] dX7_tellBook_15 (Nat.le_of_ble_eq_true rfl) rfl ?_
  refine g_aload_n 2 dX7_tellBook_17 rfl ?_
  refine g_iload_n 4 dX7_tellBook_18 rfl ?_
  obtain ⟨u9, e10, hF⟩ := q_bind hF
  obtain ⟨x11, e12, hF⟩ := q_bind hF
  refine g_callVr0 (ci := 7) (q := (RX7, TX7, 6)) qm_X7_valueAt wd_679 wd_681 wd_6 rfl e10 (M_X7_valueAt l b D z nx e12) (As := [.int a2]) rfl rfl (Nat.le_of_ble_eq_true rfl) ⟨(Nat.le_of_ble_eq_true rfl), (Nat.le_of_ble_eq_true rfl)⟩ ⟨rfl, rfl⟩ ⟨(Nat.le_of_ble_eq_true rfl), (Nat.le_of_ble_eq_true rfl)⟩ dX7_tellBook_19 ?_
  by_cases c13 : x11 = 0
  · replace hF := q_t c13 hF
    refine g_tabIn (off := 38) 60 dX7_tellBook_22 (by rw [c13]; decide) (by rw [c13]; decide) (by rw [c13]; decide) (by decide) ?_
    refine g_aload_n 3 dX7_tellBook_60 rfl ?_
    refine g_iload_n 1 dX7_tellBook_61 rfl ?_
    refine g_iload 0 dX7_tellBook_62 rfl ?_
    refine g_aload_n 2 dX7_tellBook_64 rfl ?_
    refine g_iload_n 4 dX7_tellBook_65 rfl ?_
    refine g_iconst dX7_tellBook_66 lt_iconst_3 ?_
    refine g_iadd dX7_tellBook_67 ?_
    obtain ⟨u14, e15, hF⟩ := q_bind hF
    obtain ⟨x16, e17, hF⟩ := q_bind hF
    refine g_callVr0 (ci := 7) (q := (RX7, TX7, 6)) qm_X7_valueAt wd_679 wd_681 wd_6 rfl e15 (M_X7_valueAt l b D z nx e17) (As := [.int (a2 + (3 : Int32))]) rfl rfl (Nat.le_of_ble_eq_true rfl) ⟨(Nat.le_of_ble_eq_true rfl), (Nat.le_of_ble_eq_true rfl)⟩ ⟨rfl, rfl⟩ ⟨(Nat.le_of_ble_eq_true rfl), (Nat.le_of_ble_eq_true rfl)⟩ dX7_tellBook_68 ?_
    refine g_aload_n 2 dX7_tellBook_71 rfl ?_
    refine g_iload_n 4 dX7_tellBook_72 rfl ?_
    refine g_iconst dX7_tellBook_73 lt_iconst_4 ?_
    refine g_iadd dX7_tellBook_74 ?_
    obtain ⟨u18, e19, hF⟩ := q_bind hF
    obtain ⟨x20, e21, hF⟩ := q_bind hF
    refine g_callVr0 (ci := 7) (q := (RX7, TX7, 6)) qm_X7_valueAt wd_679 wd_681 wd_6 rfl e19 (M_X7_valueAt l b D z nx e21) (As := [.int (a2 + (4 : Int32))]) rfl rfl (Nat.le_of_ble_eq_true rfl) ⟨(Nat.le_of_ble_eq_true rfl), (Nat.le_of_ble_eq_true rfl)⟩ ⟨rfl, rfl⟩ ⟨(Nat.le_of_ble_eq_true rfl), (Nat.le_of_ble_eq_true rfl)⟩ dX7_tellBook_75 ?_
    obtain ⟨u22, e23, hF⟩ := q_bind hF
    obtain ⟨x24, e25, hF⟩ := q_bind hF
    refine g_callVv0 (ci := 0) (q := (RX0, TX0, 15)) qm_X0_addLine wd_751 wd_752 wd_753 rfl e23 (M_X0_addLine l b D z nx e25) (As := [.int x3, .int x7, .int x16, .int x20]) rfl rfl (Nat.le_of_ble_eq_true rfl) ⟨(Nat.le_of_ble_eq_true rfl), (Nat.le_of_ble_eq_true rfl)⟩ ⟨rfl, rfl⟩ ⟨(Nat.le_of_ble_eq_true rfl), (Nat.le_of_ble_eq_true rfl)⟩ dX7_tellBook_78 ?_
    refine g_goto 128 dX7_tellBook_81 (by decide) ?_
    cases hF
    exact g_vret dX7_tellBook_128 rfl ⟨rfl, rfl, rfl⟩ (Nat.le_of_ble_eq_true rfl) (Nat.le_of_ble_eq_true rfl)
  replace hF := q_f c13 hF
  by_cases c26 : x11 = 1
  · replace hF := q_t c26 hF
    refine g_tabIn (off := 62) 84 dX7_tellBook_22 (by rw [c26]; decide) (by rw [c26]; decide) (by rw [c26]; decide) (by decide) ?_
    refine g_aload_n 3 dX7_tellBook_84 rfl ?_
    refine g_iload_n 1 dX7_tellBook_85 rfl ?_
    refine g_iload 0 dX7_tellBook_86 rfl ?_
    obtain ⟨u27, e28, hF⟩ := q_bind hF
    obtain ⟨x29, e30, hF⟩ := q_bind hF
    refine g_callVv0 (ci := 0) (q := (RX0, TX0, 15)) qm_X0_setDry wd_755 wd_756 wd_757 rfl e28 (M_X0_setDry l b D z nx e30) (As := [.int x3, .int x7]) rfl rfl (Nat.le_of_ble_eq_true rfl) ⟨(Nat.le_of_ble_eq_true rfl), (Nat.le_of_ble_eq_true rfl)⟩ ⟨rfl, rfl⟩ ⟨(Nat.le_of_ble_eq_true rfl), (Nat.le_of_ble_eq_true rfl)⟩ dX7_tellBook_88 ?_
    refine g_goto 128 dX7_tellBook_91 (by decide) ?_
    cases hF
    exact g_vret dX7_tellBook_128 rfl ⟨rfl, rfl, rfl⟩ (Nat.le_of_ble_eq_true rfl) (Nat.le_of_ble_eq_true rfl)
  replace hF := q_f c26 hF
  by_cases c31 : x11 = 2
  · replace hF := q_t c31 hF
    refine g_tabIn (off := 72) 94 dX7_tellBook_22 (by rw [c31]; decide) (by rw [c31]; decide) (by rw [c31]; decide) (by decide) ?_
    refine g_aload_n 3 dX7_tellBook_94 rfl ?_
    refine g_iload_n 1 dX7_tellBook_95 rfl ?_
    refine g_iload 0 dX7_tellBook_96 rfl ?_
    obtain ⟨u32, e33, hF⟩ := q_bind hF
    obtain ⟨x34, e35, hF⟩ := q_bind hF
    refine g_callVv0 (ci := 0) (q := (RX0, TX0, 15)) qm_X0_addBack wd_762 wd_763 wd_764 rfl e33 (M_X0_addBack l b D z nx e35) (As := [.int x3, .int x7]) rfl rfl (Nat.le_of_ble_eq_true rfl) ⟨(Nat.le_of_ble_eq_true rfl), (Nat.le_of_ble_eq_true rfl)⟩ ⟨rfl, rfl⟩ ⟨(Nat.le_of_ble_eq_true rfl), (Nat.le_of_ble_eq_true rfl)⟩ dX7_tellBook_98 ?_
    refine g_goto 128 dX7_tellBook_101 (by decide) ?_
    cases hF
    exact g_vret dX7_tellBook_128 rfl ⟨rfl, rfl, rfl⟩ (Nat.le_of_ble_eq_true rfl) (Nat.le_of_ble_eq_true rfl)
  replace hF := q_f c31 hF
  by_cases c36 : x11 = 3
  · replace hF := q_t c36 hF
    refine g_tabIn (off := 82) 104 dX7_tellBook_22 (by rw [c36]; decide) (by rw [c36]; decide) (by rw [c36]; decide) (by decide) ?_
    refine g_aload_n 3 dX7_tellBook_104 rfl ?_
    refine g_iload_n 1 dX7_tellBook_105 rfl ?_
    obtain ⟨u37, e38, hF⟩ := q_bind hF
    obtain ⟨x39, e40, hF⟩ := q_bind hF
    refine g_callVv0 (ci := 0) (q := (RX0, TX0, 15)) qm_X0_setChild wd_766 wd_767 wd_768 rfl e38 (M_X0_setChild l b D z nx e40) (As := [.int x3]) rfl rfl (Nat.le_of_ble_eq_true rfl) ⟨(Nat.le_of_ble_eq_true rfl), (Nat.le_of_ble_eq_true rfl)⟩ ⟨rfl, rfl⟩ ⟨(Nat.le_of_ble_eq_true rfl), (Nat.le_of_ble_eq_true rfl)⟩ dX7_tellBook_106 ?_
    refine g_goto 128 dX7_tellBook_109 (by decide) ?_
    cases hF
    exact g_vret dX7_tellBook_128 rfl ⟨rfl, rfl, rfl⟩ (Nat.le_of_ble_eq_true rfl) (Nat.le_of_ble_eq_true rfl)
  replace hF := q_f c36 hF
  by_cases c41 : x11 = 4
  · replace hF := q_t c41 hF
    refine g_tabIn (off := 90) 112 dX7_tellBook_22 (by rw [c41]; decide) (by rw [c41]; decide) (by rw [c41]; decide) (by decide) ?_
    refine g_aload_n 3 dX7_tellBook_112 rfl ?_
    refine g_iload_n 1 dX7_tellBook_113 rfl ?_
    obtain ⟨h42, e43, hF⟩ := q_bind hF
    refine g_putf fl_X7_244 e43 rfl rfl dX7_tellBook_114 ?_
    refine g_goto 128 dX7_tellBook_117 (by decide) ?_
    cases hF
    exact g_vret dX7_tellBook_128 rfl ⟨rfl, rfl, rfl⟩ (Nat.le_of_ble_eq_true rfl) (Nat.le_of_ble_eq_true rfl)
  replace hF := q_f c41 hF
  by_cases c44 : x11 = 5
  · replace hF := q_t c44 hF
    refine g_tabIn (off := 98) 120 dX7_tellBook_22 (by rw [c44]; decide) (by rw [c44]; decide) (by rw [c44]; decide) (by decide) ?_
    refine g_aload_n 3 dX7_tellBook_120 rfl ?_
    refine g_iload_n 1 dX7_tellBook_121 rfl ?_
    obtain ⟨h45, e46, hF⟩ := q_bind hF
    refine g_putf fl_X7_246 e46 rfl rfl dX7_tellBook_122 ?_
    refine g_goto 128 dX7_tellBook_125 (by decide) ?_
    cases hF
    exact g_vret dX7_tellBook_128 rfl ⟨rfl, rfl, rfl⟩ (Nat.le_of_ble_eq_true rfl) (Nat.le_of_ble_eq_true rfl)
  replace hF := q_f c44 hF
  refine g_tabOut 128 dX7_tellBook_22 ?_ (by decide) ?_
  · have t0 := lv_neT (a := 0) c13 (by decide); have t1 := lv_neT (a := 1) c26 (by decide); have t2 := lv_neT (a := 2) c31 (by decide); have t3 := lv_neT (a := 3) c36 (by decide); have t4 := lv_neT (a := 4) c41 (by decide); have t5 := lv_neT (a := 5) c44 (by decide); omega
  cases hF
  exact g_vret dX7_tellBook_128 rfl ⟨rfl, rfl, rfl⟩ (Nat.le_of_ble_eq_true rfl) (Nat.le_of_ble_eq_true rfl)
def rm_X7_fillBook : Room := { frames := 4, cells := 0, slots := 0, locals := 89 }
set_option maxRecDepth 100000 in
set_option maxHeartbeats 4000000 in
theorem B_X7_fillBook_11 (l : Launch) (b : Nat) (D : va_G) (z : Nat → Nat) {Φ : Option Value → qH → Nat → Prop} {nx : Nat} {a0 : Nat} {a1 : Nat} {a2 : Int32} {h : qH} {o : (Int32 × qH) ⊕ qH} (hF : b_X7_fillBook_11 z a0 a1 a2 h = some o) (hback : ∀ (b2 : Int32) (bh : qH), o = .inl (b2, bh) → Go l b D z yX7_fillBook cX7_fillBook 3 none rm_X7_fillBook Φ 11 [(0, .ref a0), (1, .ref a1), (2, .int b2)] [] bh nx 0 0) (hx0 : ∀  (bh : qH), o = .inr bh → Go l b D z yX7_fillBook cX7_fillBook 3 none rm_X7_fillBook Φ 34 [(1, .ref a1)] [] bh nx 0 0) : Go l b D z yX7_fillBook cX7_fillBook 3 none rm_X7_fillBook Φ 11 [(0, .ref a0), (1, .ref a1), (2, .int a2)] [] h nx 0 0 := by
  unfold b_X7_fillBook_11 at hF
  refine g_iload_n 2 dX7_fillBook_11 rfl ?_
  refine g_aload_n 0 dX7_fillBook_12 rfl ?_
  obtain ⟨u1, e2, hF⟩ := q_bind hF
  obtain ⟨x3, e4, hF⟩ := q_bind hF
  refine g_callVr0 (ci := 7) (q := (RX7, TX7, 6)) qm_X7_lastToken wd_700 wd_702 wd_10 rfl e2 (M_X7_lastToken l b D z nx e4) (As := []) rfl rfl (Nat.le_of_ble_eq_true rfl) ⟨(Nat.le_of_ble_eq_true rfl), (Nat.le_of_ble_eq_true rfl)⟩ ⟨rfl, rfl⟩ ⟨(Nat.le_of_ble_eq_true rfl), (Nat.le_of_ble_eq_true rfl)⟩ dX7_fillBook_13 ?_
  refine g_icmp_ge 34 dX7_fillBook_16 (by decide) (fun c5 => ?_) (fun c5 => ?_)
  · replace hF := q_t c5 hF
    cases hF
    refine g_sub [1] rfl ?_
    exact hx0 _ rfl
  · replace hF := q_f c5 hF
    refine g_aload_n 0 dX7_fillBook_19 rfl ?_
    refine g_aload_n 1 dX7_fillBook_20 rfl ?_
    refine g_iload_n 2 dX7_fillBook_21 rfl ?_
    obtain ⟨u6, e7, hF⟩ := q_bind hF
    obtain ⟨x8, e9, hF⟩ := q_bind hF
    refine g_callVv0 (ci := 7) (q := (RX7, TX7, 6)) qm_X7_tellBook wd_747 wd_749 wd_16 rfl e7 (M_X7_tellBook l b D z nx e9) (As := [.ref a1, .int a2]) rfl rfl (Nat.le_of_ble_eq_true rfl) ⟨(Nat.le_of_ble_eq_true rfl), (Nat.le_of_ble_eq_true rfl)⟩ ⟨rfl, rfl⟩ ⟨(Nat.le_of_ble_eq_true rfl), (Nat.le_of_ble_eq_true rfl)⟩ dX7_fillBook_22 ?_
    refine g_aload_n 0 dX7_fillBook_25 rfl ?_
    refine g_iload_n 2 dX7_fillBook_26 rfl ?_
    obtain ⟨u10, e11, hF⟩ := q_bind hF
    obtain ⟨x12, e13, hF⟩ := q_bind hF
    refine g_callVr0 (ci := 7) (q := (RX7, TX7, 6)) qm_X7_behindStatement wd_675 wd_677 wd_5 rfl e11 (M_X7_behindStatement l b D z nx e13) (As := [.int a2]) rfl rfl (Nat.le_of_ble_eq_true rfl) ⟨(Nat.le_of_ble_eq_true rfl), (Nat.le_of_ble_eq_true rfl)⟩ ⟨rfl, rfl⟩ ⟨(Nat.le_of_ble_eq_true rfl), (Nat.le_of_ble_eq_true rfl)⟩ dX7_fillBook_27 ?_
    refine g_istore_n [(2, .int x12), (0, .ref a0), (1, .ref a1)] dX7_fillBook_30 (Nat.le_of_ble_eq_true rfl) rfl ?_
    refine g_goto 11 dX7_fillBook_31 (by decide) ?_
    cases hF
    refine g_sub [1, 2, 0] rfl ?_
    exact hback _ _ rfl
set_option maxRecDepth 100000 in
set_option maxHeartbeats 4000000 in
theorem L_X7_fillBook_11 (l : Launch) (b : Nat) (D : va_G) (z : Nat → Nat) {Φ : Option Value → qH → Nat → Prop} {nx : Nat} {a0 : Nat} {a1 : Nat} : ∀ (n : Nat) (a2 : Int32) (h : qH) (e : qH), q_lp (s_X7_fillBook_11 z a0 a1) n (a2, h) = some e → (∀  (bh : qH), e = bh → Go l b D z yX7_fillBook cX7_fillBook 3 none rm_X7_fillBook Φ 34 [(1, .ref a1)] [] bh nx 0 0) → Go l b D z yX7_fillBook cX7_fillBook 3 none rm_X7_fillBook Φ 11 [(0, .ref a0), (1, .ref a1), (2, .int a2)] [] h nx 0 0 := by
  intro n
  induction n with
  | zero => intro a2 h e he; cases (show none = some e from he)
  | succ n ih =>
    intro a2 h e he hx0
    obtain ⟨o, ho, h1, h2⟩ := q_lp_succ he
    exact B_X7_fillBook_11 l b D z (show b_X7_fillBook_11 z a0 a1 a2 h = some o from ho) (fun b2 bh hb => ih _ _ e (h1 _ hb) hx0) (fun p0 hr => hx0 p0 (h2 _ hr).symm)
set_option maxRecDepth 100000 in
set_option maxHeartbeats 4000000 in
theorem M_X7_fillBook (l : Launch) (b : Nat) (D : va_G) (z : Nat → Nat) (nx : Nat) {h : qH} {a0 : Nat} {a1 : Nat} {r : qH} (hF : F_X7_fillBook z h a0 a1 = some r) : Me l b D z yX7_fillBook cX7_fillBook 3 none rm_X7_fillBook [.ref a0, .ref a1] h nx (qE none r nx) := by
  refine Me.of (by decide +kernel) (Nat.le_of_ble_eq_true rfl) ?_
  show Go l b D z yX7_fillBook cX7_fillBook 3 none rm_X7_fillBook (qE none r nx) 0 [(0, .ref a0), (1, .ref a1)] [] h nx 0 0
  unfold F_X7_fillBook at hF
  refine g_aload_n 1 dX7_fillBook_0 rfl ?_
  refine g_ifnonnullR 5 dX7_fillBook_1 (by decide) ?_
  refine g_aload_n 1 dX7_fillBook_5 rfl ?_
  obtain ⟨u1, e2, hF⟩ := q_bind hF
  obtain ⟨x3, e4, hF⟩ := q_bind hF
  refine g_callVv0 (ci := 0) (q := (RX0, TX0, 15)) qm_X0_clear wd_743 wd_744 wd_745 rfl e2 (M_X0_clear l b D z nx e4) (As := []) rfl rfl (Nat.le_of_ble_eq_true rfl) ⟨(Nat.le_of_ble_eq_true rfl), (Nat.le_of_ble_eq_true rfl)⟩ ⟨rfl, rfl⟩ ⟨(Nat.le_of_ble_eq_true rfl), (Nat.le_of_ble_eq_true rfl)⟩ dX7_fillBook_6 ?_
  refine g_iconst dX7_fillBook_9 lt_iconst_0 ?_
  refine g_istore_n [(2, .int (0 : Int32)), (0, .ref a0), (1, .ref a1)] dX7_fillBook_10 (Nat.le_of_ble_eq_true rfl) rfl ?_
  obtain ⟨e5, w6, hF⟩ := q_bind hF
  refine g_sub [1, 2, 0] rfl ?_
  refine L_X7_fillBook_11 l b D z q_N (0 : Int32) x3 e5 w6 ?_
  · intro h7 w8
    replace w8 := w8.symm
    subst w8
    refine g_aload_n 0 dX7_fillBook_34 rfl ?_
    obtain ⟨u9, e10, hF⟩ := q_bind hF
    obtain ⟨x11, e12, hF⟩ := q_bind hF
    refine g_callVv0 (ci := 0) (q := (RX0, TX0, 15)) qm_X0_settle wd_770 wd_771 wd_772 rfl e10 (M_X0_settle l b D z nx e12) (As := []) rfl rfl (Nat.le_of_ble_eq_true rfl) ⟨(Nat.le_of_ble_eq_true rfl), (Nat.le_of_ble_eq_true rfl)⟩ ⟨rfl, rfl⟩ ⟨(Nat.le_of_ble_eq_true rfl), (Nat.le_of_ble_eq_true rfl)⟩ dX7_fillBook_35 ?_
    cases hF
    exact g_vret dX7_fillBook_38 rfl ⟨rfl, rfl, rfl⟩ (Nat.le_of_ble_eq_true rfl) (Nat.le_of_ble_eq_true rfl)
def rm_X9_eveningAt : Room := { frames := 0, cells := 0, slots := 0, locals := 0 }
set_option maxRecDepth 100000 in
set_option maxHeartbeats 4000000 in
theorem M_X9_eveningAt (l : Launch) (b : Nat) (D : va_G) (z : Nat → Nat) (nx : Nat) {h : qH} {a0 : Nat} {a1 : Int32} {r : Option Nat} (hF : F_X9_eveningAt h a0 a1 = some r) : Me l b D z yX9_eveningAt cX9_eveningAt 2 (some (.object "CellarPrompter$Evening")) rm_X9_eveningAt [.ref a0, .int a1] h nx (qE (some (va_rf r)) h nx) := by
  refine Me.of (by decide +kernel) (Nat.le_of_ble_eq_true rfl) ?_
  show Go l b D z yX9_eveningAt cX9_eveningAt 2 (some (.object "CellarPrompter$Evening")) rm_X9_eveningAt (qE (some (va_rf r)) h nx) 0 [(0, .ref a0), (1, .int a1)] [] h nx 0 0
  unfold F_X9_eveningAt at hF
  refine g_iload_n 1 dX9_eveningAt_0 rfl ?_
  refine g_if_lt 28 dX9_eveningAt_1 (by decide) (fun c1 => ?_) (fun c1 => ?_)
  · replace hF := q_t c1 hF
    refine g_anull dX9_eveningAt_28 ?_
    cases hF
    exact g_aret dX9_eveningAt_29 rfl (Or.inl ⟨_, rfl⟩) (Or.inl rfl) ⟨rfl, rfl, rfl⟩ (Nat.le_of_ble_eq_true rfl) (Nat.le_of_ble_eq_true rfl)
  · replace hF := q_f c1 hF
    refine g_iload_n 1 dX9_eveningAt_4 rfl ?_
    refine g_aload_n 0 dX9_eveningAt_5 rfl ?_
    obtain ⟨x2, e3, hF⟩ := q_bind hF
    refine g_getfR fl_X9_15 e3 dX9_eveningAt_6 ?_
    refine g_iconst dX9_eveningAt_9 lt_iconst_1 ?_
    obtain ⟨x4, e5, hF⟩ := q_bind hF
    refine g_iald e5 dX9_eveningAt_10 ?_
    refine g_icmp_ge 28 dX9_eveningAt_11 (by decide) (fun c6 => ?_) (fun c6 => ?_)
    · replace hF := q_t c6 hF
      refine g_anull dX9_eveningAt_28 ?_
      cases hF
      exact g_aret dX9_eveningAt_29 rfl (Or.inl ⟨_, rfl⟩) (Or.inl rfl) ⟨rfl, rfl, rfl⟩ (Nat.le_of_ble_eq_true rfl) (Nat.le_of_ble_eq_true rfl)
    · replace hF := q_f c6 hF
      refine g_iload_n 1 dX9_eveningAt_14 rfl ?_
      refine g_iconst dX9_eveningAt_15 lt_iconst_2 ?_
      refine g_icmp_ge 28 dX9_eveningAt_16 (by decide) (fun c7 => ?_) (fun c7 => ?_)
      · replace hF := q_t c7 hF
        refine g_anull dX9_eveningAt_28 ?_
        cases hF
        exact g_aret dX9_eveningAt_29 rfl (Or.inl ⟨_, rfl⟩) (Or.inl rfl) ⟨rfl, rfl, rfl⟩ (Nat.le_of_ble_eq_true rfl) (Nat.le_of_ble_eq_true rfl)
      · replace hF := q_f c7 hF
        refine g_aload_n 0 dX9_eveningAt_19 rfl ?_
        obtain ⟨x8, e9, hF⟩ := q_bind hF
        refine g_getfR fl_X9_27 e9 dX9_eveningAt_20 ?_
        refine g_iload_n 1 dX9_eveningAt_23 rfl ?_
        obtain ⟨x10, e11, hF⟩ := q_bind hF
        refine g_aald e11 dX9_eveningAt_24 ?_
        rcases x10 with _ | x12
        · replace hF := q_en hF
          refine g_goto 29 dX9_eveningAt_25 (by decide) ?_
          cases hF
          exact g_aret dX9_eveningAt_29 rfl (Or.inl ⟨_, rfl⟩) (Or.inl rfl) ⟨rfl, rfl, rfl⟩ (Nat.le_of_ble_eq_true rfl) (Nat.le_of_ble_eq_true rfl)
        · replace hF := q_es hF
          refine g_goto 29 dX9_eveningAt_25 (by decide) ?_
          cases hF
          exact g_aret dX9_eveningAt_29 rfl (Or.inl ⟨_, rfl⟩) (Or.inr ⟨_, rfl⟩) ⟨rfl, rfl, rfl⟩ (Nat.le_of_ble_eq_true rfl) (Nat.le_of_ble_eq_true rfl)
def rm_X7_fillEvening : Room := { frames := 2, cells := 0, slots := 0, locals := 42 }
set_option maxRecDepth 100000 in
set_option maxHeartbeats 4000000 in
theorem B_X7_fillEvening_12 (l : Launch) (b : Nat) (D : va_G) (z : Nat → Nat) {Φ : Option Value → qH → Nat → Prop} {nx : Nat} {a0 : Nat} {a1 : Nat} {a2 : Int32} {h : qH} {o : (Int32 × qH) ⊕ qH} (hF : b_X7_fillEvening_12 z a0 a1 a2 h = some o) (hback : ∀ (b2 : Int32) (bh : qH), o = .inl (b2, bh) → Go l b D z yX7_fillEvening cX7_fillEvening 4 none rm_X7_fillEvening Φ 12 [(0, .ref a0), (1, .ref a1), (2, .int b2)] [] bh nx 0 0) (hx0 : ∀  (bh : qH), o = .inr bh → Go l b D z yX7_fillEvening cX7_fillEvening 4 none rm_X7_fillEvening Φ 61 [] [] bh nx 0 0) : Go l b D z yX7_fillEvening cX7_fillEvening 4 none rm_X7_fillEvening Φ 12 [(0, .ref a0), (1, .ref a1), (2, .int a2)] [] h nx 0 0 := by
  unfold b_X7_fillEvening_12 at hF
  refine g_iload_n 2 dX7_fillEvening_12 rfl ?_
  refine g_aload_n 0 dX7_fillEvening_13 rfl ?_
  obtain ⟨u1, e2, hF⟩ := q_bind hF
  obtain ⟨x3, e4, hF⟩ := q_bind hF
  refine g_callVr0 (ci := 7) (q := (RX7, TX7, 6)) qm_X7_lastToken wd_700 wd_702 wd_10 rfl e2 (M_X7_lastToken l b D z nx e4) (As := []) rfl rfl (Nat.le_of_ble_eq_true rfl) ⟨(Nat.le_of_ble_eq_true rfl), (Nat.le_of_ble_eq_true rfl)⟩ ⟨rfl, rfl⟩ ⟨(Nat.le_of_ble_eq_true rfl), (Nat.le_of_ble_eq_true rfl)⟩ dX7_fillEvening_14 ?_
  refine g_icmp_ge 61 dX7_fillEvening_17 (by decide) (fun c5 => ?_) (fun c5 => ?_)
  · replace hF := q_t c5 hF
    cases hF
    refine g_sub [] rfl ?_
    exact hx0 _ rfl
  · replace hF := q_f c5 hF
    refine g_aload_n 0 dX7_fillEvening_20 rfl ?_
    refine g_iload_n 2 dX7_fillEvening_21 rfl ?_
    obtain ⟨u6, e7, hF⟩ := q_bind hF
    obtain ⟨x8, e9, hF⟩ := q_bind hF
    refine g_callVr0 (ci := 7) (q := (RX7, TX7, 6)) qm_X7_valueAt wd_679 wd_681 wd_6 rfl e7 (M_X7_valueAt l b D z nx e9) (As := [.int a2]) rfl rfl (Nat.le_of_ble_eq_true rfl) ⟨(Nat.le_of_ble_eq_true rfl), (Nat.le_of_ble_eq_true rfl)⟩ ⟨rfl, rfl⟩ ⟨(Nat.le_of_ble_eq_true rfl), (Nat.le_of_ble_eq_true rfl)⟩ dX7_fillEvening_22 ?_
    refine g_istore_n [(3, .int x8), (0, .ref a0), (1, .ref a1), (2, .int a2)] dX7_fillEvening_25 (Nat.le_of_ble_eq_true rfl) rfl ?_
    refine g_aload_n 2 dX7_fillEvening_26 rfl ?_
    refine g_iload_n 0 dX7_fillEvening_27 rfl ?_
    refine g_bipush dX7_fillEvening_28 lt_bipush_6 ?_
    refine g_isub dX7_fillEvening_30 ?_
    refine g_iload_n 0 dX7_fillEvening_31 rfl ?_
    obtain ⟨x10, e11, hF⟩ := q_bind hF
    refine g_callSr0 qm_X7_numbersOf wd_683 wd_684 (M_X7_numbersOf l b D z nx e11) (As := [.int x8]) rfl rfl (Nat.le_of_ble_eq_true rfl) ⟨(Nat.le_of_ble_eq_true rfl), (Nat.le_of_ble_eq_true rfl)⟩ ⟨rfl, rfl⟩ ⟨(Nat.le_of_ble_eq_true rfl), (Nat.le_of_ble_eq_true rfl)⟩ dX7_fillEvening_32 ?_
    refine g_if_ne 42 dX7_fillEvening_35 (by decide) (fun c12 => ?_) (fun c12 => ?_)
    · replace hF := q_f c12 hF
      refine g_aload_n 1 dX7_fillEvening_42 rfl ?_
      refine g_iload_n 3 dX7_fillEvening_43 rfl ?_
      refine g_iconst dX7_fillEvening_44 lt_iconst_1 ?_
      refine g_iadd dX7_fillEvening_45 ?_
      obtain ⟨u13, e14, hF⟩ := q_bind hF
      obtain ⟨x15, e16, hF⟩ := q_bind hF
      refine g_callVr0 (ci := 7) (q := (RX7, TX7, 6)) qm_X7_valueAt wd_679 wd_681 wd_6 rfl e14 (M_X7_valueAt l b D z nx e16) (As := [.int (a2 + (1 : Int32))]) rfl rfl (Nat.le_of_ble_eq_true rfl) ⟨(Nat.le_of_ble_eq_true rfl), (Nat.le_of_ble_eq_true rfl)⟩ ⟨rfl, rfl⟩ ⟨(Nat.le_of_ble_eq_true rfl), (Nat.le_of_ble_eq_true rfl)⟩ dX7_fillEvening_46 ?_
      obtain ⟨u17, e18, hF⟩ := q_bind hF
      obtain ⟨x19, e20, hF⟩ := q_bind hF
      refine g_callVv0 (ci := 1) (q := (RX1, TX1, 3)) qm_X1_add wd_806 wd_807 wd_808 rfl e18 (M_X1_add l b D z nx e20) (As := [.int (x8 - (6 : Int32)), .int x15]) rfl rfl (Nat.le_of_ble_eq_true rfl) ⟨(Nat.le_of_ble_eq_true rfl), (Nat.le_of_ble_eq_true rfl)⟩ ⟨rfl, rfl⟩ ⟨(Nat.le_of_ble_eq_true rfl), (Nat.le_of_ble_eq_true rfl)⟩ dX7_fillEvening_49 ?_
      refine g_aload_n 1 dX7_fillEvening_52 rfl ?_
      refine g_iload_n 3 dX7_fillEvening_53 rfl ?_
      obtain ⟨u21, e22, hF⟩ := q_bind hF
      obtain ⟨x23, e24, hF⟩ := q_bind hF
      refine g_callVr0 (ci := 7) (q := (RX7, TX7, 6)) qm_X7_behindStatement wd_675 wd_677 wd_5 rfl e22 (M_X7_behindStatement l b D z nx e24) (As := [.int a2]) rfl rfl (Nat.le_of_ble_eq_true rfl) ⟨(Nat.le_of_ble_eq_true rfl), (Nat.le_of_ble_eq_true rfl)⟩ ⟨rfl, rfl⟩ ⟨(Nat.le_of_ble_eq_true rfl), (Nat.le_of_ble_eq_true rfl)⟩ dX7_fillEvening_54 ?_
      refine g_istore_n [(2, .int x23), (3, .int x8), (0, .ref a0), (1, .ref a1)] dX7_fillEvening_57 (Nat.le_of_ble_eq_true rfl) rfl ?_
      refine g_goto 12 dX7_fillEvening_58 (by decide) ?_
      cases hF
      refine g_sub [2, 3, 0] rfl ?_
      exact hback _ _ rfl
    · replace hF := q_t c12 hF
      refine g_iconst dX7_fillEvening_38 lt_iconst_m1 ?_
      refine g_goto 49 dX7_fillEvening_39 (by decide) ?_
      obtain ⟨u25, e26, hF⟩ := q_bind hF
      obtain ⟨x27, e28, hF⟩ := q_bind hF
      refine g_callVv0 (ci := 1) (q := (RX1, TX1, 3)) qm_X1_add wd_806 wd_807 wd_808 rfl e26 (M_X1_add l b D z nx e28) (As := [.int (x8 - (6 : Int32)), .int (-1 : Int32)]) rfl rfl (Nat.le_of_ble_eq_true rfl) ⟨(Nat.le_of_ble_eq_true rfl), (Nat.le_of_ble_eq_true rfl)⟩ ⟨rfl, rfl⟩ ⟨(Nat.le_of_ble_eq_true rfl), (Nat.le_of_ble_eq_true rfl)⟩ dX7_fillEvening_49 ?_
      refine g_aload_n 1 dX7_fillEvening_52 rfl ?_
      refine g_iload_n 3 dX7_fillEvening_53 rfl ?_
      obtain ⟨u29, e30, hF⟩ := q_bind hF
      obtain ⟨x31, e32, hF⟩ := q_bind hF
      refine g_callVr0 (ci := 7) (q := (RX7, TX7, 6)) qm_X7_behindStatement wd_675 wd_677 wd_5 rfl e30 (M_X7_behindStatement l b D z nx e32) (As := [.int a2]) rfl rfl (Nat.le_of_ble_eq_true rfl) ⟨(Nat.le_of_ble_eq_true rfl), (Nat.le_of_ble_eq_true rfl)⟩ ⟨rfl, rfl⟩ ⟨(Nat.le_of_ble_eq_true rfl), (Nat.le_of_ble_eq_true rfl)⟩ dX7_fillEvening_54 ?_
      refine g_istore_n [(2, .int x31), (3, .int x8), (0, .ref a0), (1, .ref a1)] dX7_fillEvening_57 (Nat.le_of_ble_eq_true rfl) rfl ?_
      refine g_goto 12 dX7_fillEvening_58 (by decide) ?_
      cases hF
      refine g_sub [2, 3, 0] rfl ?_
      exact hback _ _ rfl
set_option maxRecDepth 100000 in
set_option maxHeartbeats 4000000 in
theorem L_X7_fillEvening_12 (l : Launch) (b : Nat) (D : va_G) (z : Nat → Nat) {Φ : Option Value → qH → Nat → Prop} {nx : Nat} {a0 : Nat} {a1 : Nat} : ∀ (n : Nat) (a2 : Int32) (h : qH) (e : qH), q_lp (s_X7_fillEvening_12 z a0 a1) n (a2, h) = some e → (∀  (bh : qH), e = bh → Go l b D z yX7_fillEvening cX7_fillEvening 4 none rm_X7_fillEvening Φ 61 [] [] bh nx 0 0) → Go l b D z yX7_fillEvening cX7_fillEvening 4 none rm_X7_fillEvening Φ 12 [(0, .ref a0), (1, .ref a1), (2, .int a2)] [] h nx 0 0 := by
  intro n
  induction n with
  | zero => intro a2 h e he; cases (show none = some e from he)
  | succ n ih =>
    intro a2 h e he hx0
    obtain ⟨o, ho, h1, h2⟩ := q_lp_succ he
    exact B_X7_fillEvening_12 l b D z (show b_X7_fillEvening_12 z a0 a1 a2 h = some o from ho) (fun b2 bh hb => ih _ _ e (h1 _ hb) hx0) (fun p0 hr => hx0 p0 (h2 _ hr).symm)
set_option maxRecDepth 100000 in
set_option maxHeartbeats 4000000 in
theorem M_X7_fillEvening (l : Launch) (b : Nat) (D : va_G) (z : Nat → Nat) (nx : Nat) {h : qH} {a0 : Nat} {a1 : Nat} {r : qH} (hF : F_X7_fillEvening z h a0 a1 = some r) : Me l b D z yX7_fillEvening cX7_fillEvening 4 none rm_X7_fillEvening [.ref a0, .ref a1] h nx (qE none r nx) := by
  refine Me.of (by decide +kernel) (Nat.le_of_ble_eq_true rfl) ?_
  show Go l b D z yX7_fillEvening cX7_fillEvening 4 none rm_X7_fillEvening (qE none r nx) 0 [(0, .ref a0), (1, .ref a1)] [] h nx 0 0
  unfold F_X7_fillEvening at hF
  refine g_aload_n 1 dX7_fillEvening_0 rfl ?_
  refine g_ifnonnullR 5 dX7_fillEvening_1 (by decide) ?_
  refine g_aload_n 1 dX7_fillEvening_5 rfl ?_
  refine g_iconst dX7_fillEvening_6 lt_iconst_0 ?_
  obtain ⟨h1, e2, hF⟩ := q_bind hF
  refine g_putf fl_X7_248 e2 rfl rfl dX7_fillEvening_7 ?_
  refine g_iconst dX7_fillEvening_10 lt_iconst_0 ?_
  refine g_istore_n [(2, .int (0 : Int32)), (0, .ref a0), (1, .ref a1)] dX7_fillEvening_11 (Nat.le_of_ble_eq_true rfl) rfl ?_
  obtain ⟨e3, w4, hF⟩ := q_bind hF
  refine g_sub [1, 2, 0] rfl ?_
  refine L_X7_fillEvening_12 l b D z q_N (0 : Int32) h1 e3 w4 ?_
  · intro h5 w6
    replace w6 := w6.symm
    subst w6
    cases hF
    exact g_vret dX7_fillEvening_61 rfl ⟨rfl, rfl, rfl⟩ (Nat.le_of_ble_eq_true rfl) (Nat.le_of_ble_eq_true rfl)
def rm_X9_logAt : Room := { frames := 0, cells := 0, slots := 0, locals := 0 }
set_option maxRecDepth 100000 in
set_option maxHeartbeats 4000000 in
theorem M_X9_logAt (l : Launch) (b : Nat) (D : va_G) (z : Nat → Nat) (nx : Nat) {h : qH} {a0 : Nat} {a1 : Int32} {r : Option Nat} (hF : F_X9_logAt h a0 a1 = some r) : Me l b D z yX9_logAt cX9_logAt 2 (some (.object "CellarPrompter$Log")) rm_X9_logAt [.ref a0, .int a1] h nx (qE (some (va_rf r)) h nx) := by
  refine Me.of (by decide +kernel) (Nat.le_of_ble_eq_true rfl) ?_
  show Go l b D z yX9_logAt cX9_logAt 2 (some (.object "CellarPrompter$Log")) rm_X9_logAt (qE (some (va_rf r)) h nx) 0 [(0, .ref a0), (1, .int a1)] [] h nx 0 0
  unfold F_X9_logAt at hF
  refine g_iload_n 1 dX9_logAt_0 rfl ?_
  refine g_if_lt 28 dX9_logAt_1 (by decide) (fun c1 => ?_) (fun c1 => ?_)
  · replace hF := q_t c1 hF
    refine g_anull dX9_logAt_28 ?_
    cases hF
    exact g_aret dX9_logAt_29 rfl (Or.inl ⟨_, rfl⟩) (Or.inl rfl) ⟨rfl, rfl, rfl⟩ (Nat.le_of_ble_eq_true rfl) (Nat.le_of_ble_eq_true rfl)
  · replace hF := q_f c1 hF
    refine g_iload_n 1 dX9_logAt_4 rfl ?_
    refine g_aload_n 0 dX9_logAt_5 rfl ?_
    obtain ⟨x2, e3, hF⟩ := q_bind hF
    refine g_getfR fl_X9_15 e3 dX9_logAt_6 ?_
    refine g_iconst dX9_logAt_9 lt_iconst_2 ?_
    obtain ⟨x4, e5, hF⟩ := q_bind hF
    refine g_iald e5 dX9_logAt_10 ?_
    refine g_icmp_ge 28 dX9_logAt_11 (by decide) (fun c6 => ?_) (fun c6 => ?_)
    · replace hF := q_t c6 hF
      refine g_anull dX9_logAt_28 ?_
      cases hF
      exact g_aret dX9_logAt_29 rfl (Or.inl ⟨_, rfl⟩) (Or.inl rfl) ⟨rfl, rfl, rfl⟩ (Nat.le_of_ble_eq_true rfl) (Nat.le_of_ble_eq_true rfl)
    · replace hF := q_f c6 hF
      refine g_iload_n 1 dX9_logAt_14 rfl ?_
      refine g_iconst dX9_logAt_15 lt_iconst_2 ?_
      refine g_icmp_ge 28 dX9_logAt_16 (by decide) (fun c7 => ?_) (fun c7 => ?_)
      · replace hF := q_t c7 hF
        refine g_anull dX9_logAt_28 ?_
        cases hF
        exact g_aret dX9_logAt_29 rfl (Or.inl ⟨_, rfl⟩) (Or.inl rfl) ⟨rfl, rfl, rfl⟩ (Nat.le_of_ble_eq_true rfl) (Nat.le_of_ble_eq_true rfl)
      · replace hF := q_f c7 hF
        refine g_aload_n 0 dX9_logAt_19 rfl ?_
        obtain ⟨x8, e9, hF⟩ := q_bind hF
        refine g_getfR fl_X9_33 e9 dX9_logAt_20 ?_
        refine g_iload_n 1 dX9_logAt_23 rfl ?_
        obtain ⟨x10, e11, hF⟩ := q_bind hF
        refine g_aald e11 dX9_logAt_24 ?_
        rcases x10 with _ | x12
        · replace hF := q_en hF
          refine g_goto 29 dX9_logAt_25 (by decide) ?_
          cases hF
          exact g_aret dX9_logAt_29 rfl (Or.inl ⟨_, rfl⟩) (Or.inl rfl) ⟨rfl, rfl, rfl⟩ (Nat.le_of_ble_eq_true rfl) (Nat.le_of_ble_eq_true rfl)
        · replace hF := q_es hF
          refine g_goto 29 dX9_logAt_25 (by decide) ?_
          cases hF
          exact g_aret dX9_logAt_29 rfl (Or.inl ⟨_, rfl⟩) (Or.inr ⟨_, rfl⟩) ⟨rfl, rfl, rfl⟩ (Nat.le_of_ble_eq_true rfl) (Nat.le_of_ble_eq_true rfl)
