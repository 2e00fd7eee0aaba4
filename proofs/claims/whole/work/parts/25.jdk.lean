/-- the same of a method of a class of the JDK's that the machine has no entry of its own for -/
theorem Me.ofF {l : Launch} {b : Nat} {D : va_G} {z : Nat → Nat} {y : MethodName} {cc : ByteArray} {nL : Nat} {ret : Option FieldType} {rm : Room} {as : List Value} {h : qH} {nx : Nat} {F : Option Value → qH → Nat → Prop} (hy : plainFor y = true) (hn : (lg_sl as).length ≤ nL) (k : Go l b D z y cc nL ret rm F 0 (lv_args 0 as) [] h nx 0 0) : Me l b D z y cc nL ret rm as h nx F := by
  refine va_MetF (cc := cc) (maxL := nL) (ret := ret) hy rfl ?_
  intro p e s m args below meth c s₁ B hml hv
  obtain ⟨rfl, hK, hG, hR⟩ := hv
  rw [lg_entry_eq]
  exact k _ _ _ _ _ _ _ _ _ _ _ ⟨B.exec, B.bytes, hml, findClass_of_methodNamed B.named, fun w hw => atoms_spec B.pre w (List.mem_cons_of_mem _ hw)⟩ B.returns B.notSynchronized (fun hi => (name_of_methodNamed B.named B.method).1.trans hi) hK hG va_S.rf hR (lv_entry as hn)
section QJ
variable {l : Launch} {b : Nat} {D : va_G} {z : Nat → Nat} {y : MethodName} {cc : ByteArray} {nL : Nat} {ret : Option FieldType} {rm : Room} {F : Option Value → qH → Nat → Prop} {pc : Nat} {lv : List (Nat × Value)} {st : List Value} {h : qH} {nx k j a : Nat} {index : Nat} {x : Nat × Nat × (Nat → Int32)}
theorem g_getS (hh : h a = some (.inr (.inr (.inr x)))) (hw : Cond.fieldLink y.cls index "java/lang/String" "value" "[B" ∈ qws) (hdg : decode cc pc = .ok (.getfield index, 3)) (w : Go l b D z y cc nL ret rm F (pc + 3) lv (.ref x.1 :: st) h nx k j) : Go l b D z y cc nL ret rm F pc lv (.ref a :: st) h nx k j := by
  intro p e s m args below meth c H locs ls hC hr hlk hnm hK hG hS hR hl
  obtain ⟨-, -, ⟨cf, kc, i, f, cell, h1, h2, h3, h4, h5, -⟩, -⟩ := hR.2.2 a _ hh
  exact W.getf hC.1 hC.2.1 hC.2.2.2.1 (hC.2.2.2.2 _ hw) h1 h2 h3 h4 h5 rfl rfl hdg (w _ _ _ _ _ _ _ _ _ _ _ hC hr hlk hnm hK hG hS hR hl)
theorem g_getC (hh : h a = some (.inr (.inr (.inr x)))) (hw : Cond.fieldLink y.cls index "java/lang/String" "coder" "B" ∈ qws) (hdg : decode cc pc = .ok (.getfield index, 3)) (w : Go l b D z y cc nL ret rm F (pc + 3) lv (.int 0 :: st) h nx k j) : Go l b D z y cc nL ret rm F pc lv (.ref a :: st) h nx k j := by
  intro p e s m args below meth c H locs ls hC hr hlk hnm hK hG hS hR hl
  obtain ⟨-, ⟨cf, kc, i, f, cell, h1, h2, h3, h4, h5, -⟩, -, -⟩ := hR.2.2 a _ hh
  exact W.getf hC.1 hC.2.1 hC.2.2.2.1 (hC.2.2.2.2 _ hw) h1 h2 h3 h4 h5 rfl rfl hdg (w _ _ _ _ _ _ _ _ _ _ _ hC hr hlk hnm hK hG hS hR hl)
theorem g_getsC (hw : Cond.fieldLink y.cls index "java/lang/String" "COMPACT_STRINGS" "Z" ∈ qws) (hdg : decode cc pc = .ok (.getstatic index, 3)) (w : Go l b D z y cc nL ret rm F (pc + 3) lv (.int 1 :: st) h nx k j) : Go l b D z y cc nL ret rm F pc lv st h nx k j := by
  intro p e s m args below meth c H locs ls hC hr hlk hnm hK hG hS hR hl
  exact va_gets hC.1 hC.2.1 hG.2.1 hS hC.2.2.2.1 (hC.2.2.2.2 _ hw) (fun x hx => hx) hdg (w _ _ _ _ _ _ _ _ _ _ _ hC hr hlk hnm hK hG hS hR hl)
theorem g_getsF (hw : Cond.fieldLink y.cls index "jdk/internal/util/Preconditions" "SIOOBE_FORMATTER" "Ljava/util/function/BiFunction;" ∈ qws) (hdg : decode cc pc = .ok (.getstatic index, 3)) (w : ∀ r : Option Nat, Go l b D z y cc nL ret rm F (pc + 3) lv (va_rf r :: st) h nx k j) : Go l b D z y cc nL ret rm F pc lv st h nx k j := by
  intro p e s m args below meth c H locs ls hC hr hlk hnm hK hG hS hR hl
  rcases hG.2.2.1 with h1 | ⟨t, h1⟩
  · exact va_gets hC.1 hC.2.1 h1 hS hC.2.2.2.1 (hC.2.2.2.2 _ hw) (fun x hx => hx) hdg (w none _ _ _ _ _ _ _ _ _ _ _ hC hr hlk hnm hK hG hS hR hl)
  · exact va_gets hC.1 hC.2.1 h1 hS hC.2.2.2.1 (hC.2.2.2.2 _ hw) (fun x hx => hx) hdg (w (some t) _ _ _ _ _ _ _ _ _ _ _ hC hr hlk hnm hK hG hS hR hl)
theorem g_alenS (hh : h a = some (.inr (.inr (.inr x)))) (hdg : decode cc pc = .ok (.arraylength, 1)) (w : Go l b D z y cc nL ret rm F (pc + 1) lv (.int (Int32.ofNat x.2.1) :: st) h nx k j) : Go l b D z y cc nL ret rm F pc lv (.ref x.1 :: st) h nx k j := by
  intro p e s m args below meth c H locs ls hC hr hlk hnm hK hG hS hR hl
  obtain ⟨-, -, -, ⟨cell, h1, h2, h3, h4, h5, -⟩⟩ := hR.2.2 a _ hh
  exact W.alen (ty := .byte) hC.1 hC.2.1 h1 h2 h5 rfl rfl hdg (w _ _ _ _ _ _ _ _ _ _ _ hC hr hlk hnm hK hG hS hR hl)
theorem g_baldS {i : Int32} (hh : h a = some (.inr (.inr (.inr x)))) (h0 : 0 ≤ i) (hi : i.toNatClampNeg < x.2.1) (hdg : decode cc pc = .ok (.baload, 1)) (w : Go l b D z y cc nL ret rm F (pc + 1) lv (.int (x.2.2 i.toNatClampNeg) :: st) h nx k j) : Go l b D z y cc nL ret rm F pc lv (.int i :: .ref x.1 :: st) h nx k j := by
  intro p e s m args below meth c H locs ls hC hr hlk hnm hK hG hS hR hl
  obtain ⟨-, -, -, ⟨cell, h1, h2, h3, h4, -, h5, -⟩⟩ := hR.2.2 a _ hh
  exact W.bald (v := .int (x.2.2 i.toNatClampNeg)) hC.1 hC.2.1 h1 h2 h3 (fun q => q.elim (fun q => absurd h0 (Int32.not_le.mpr q)) (fun q => by omega)) (h5 _ hi) rfl rfl hdg (w _ _ _ _ _ _ _ _ _ _ _ hC hr hlk hnm hK hG hS hR hl)
end QJ
def rm_J0_coder_7d493 : Room := { frames := 0, cells := 0, slots := 0, locals := 0 }
def rm_J3_checkIndex_8e157 : Room := { frames := 0, cells := 0, slots := 0, locals := 0 }
def rm_J0_checkIndex_df160 : Room := { frames := 1, cells := 0, slots := 0, locals := 22 }
def rm_J1_charAt_3b067 : Room := { frames := 2, cells := 0, slots := 0, locals := 43 }
theorem M_J0_coder_7d493 (l : Launch) (b : Nat) (D : va_G) (z : Nat → Nat) (nx : Nat) {h : qH} {a0 : Nat} {x : Nat × Nat × (Nat → Int32)} (hh : h a0 = some (.inr (.inr (.inr x)))) : Me l b D z yJ0_coder_7d493 cJ0_coder_7d493 1 (some .byte) rm_J0_coder_7d493 [.ref a0] h nx (qE (some (.int 0)) h nx) := by
  refine Me.ofF (by decide +kernel) (Nat.le_of_ble_eq_true rfl) ?_
  show Go l b D z yJ0_coder_7d493 cJ0_coder_7d493 1 (some .byte) rm_J0_coder_7d493 (qE (some (.int 0)) h nx) 0 [(0, .ref a0)] [] h nx 0 0
  refine g_getsC wd_623 dJ0_coder_7d493_0 ?_
  refine g_if_eq 13 dJ0_coder_7d493_3 (by decide) (fun c0 => absurd c0 (by decide)) (fun _ => ?_)
  refine g_aload_n 0 dJ0_coder_7d493_6 rfl ?_
  refine g_getC hh wd_2153 dJ0_coder_7d493_7 ?_
  refine g_goto 14 dJ0_coder_7d493_10 (by decide) ?_
  exact g_zret dJ0_coder_7d493_14 rfl (by decide +kernel) ⟨rfl, rfl, rfl⟩ (Nat.le_of_ble_eq_true rfl) (Nat.le_of_ble_eq_true rfl)
theorem M_J0_isLatin1_aae02 (l : Launch) (b : Nat) (D : va_G) (z : Nat → Nat) (nx : Nat) {h : qH} {a0 : Nat} {x : Nat × Nat × (Nat → Int32)} (hh : h a0 = some (.inr (.inr (.inr x)))) : Me l b D z yJ0_isLatin1_aae02 cJ0_isLatin1_aae02 1 (some .boolean) rm_J0_coder_7d493 [.ref a0] h nx (qE (some (.int 1)) h nx) := by
  refine Me.ofF (by decide +kernel) (Nat.le_of_ble_eq_true rfl) ?_
  show Go l b D z yJ0_isLatin1_aae02 cJ0_isLatin1_aae02 1 (some .boolean) rm_J0_coder_7d493 (qE (some (.int 1)) h nx) 0 [(0, .ref a0)] [] h nx 0 0
  refine g_getsC wd_623 dJ0_isLatin1_aae02_0 ?_
  refine g_if_eq 17 dJ0_isLatin1_aae02_3 (by decide) (fun c0 => absurd c0 (by decide)) (fun _ => ?_)
  refine g_aload_n 0 dJ0_isLatin1_aae02_6 rfl ?_
  refine g_getC hh wd_2153 dJ0_isLatin1_aae02_7 ?_
  refine g_if_ne 17 dJ0_isLatin1_aae02_10 (by decide) (fun c0 => absurd rfl c0) (fun _ => ?_)
  refine g_iconst dJ0_isLatin1_aae02_13 lt_iconst_1 ?_
  refine g_goto 18 dJ0_isLatin1_aae02_14 (by decide) ?_
  exact g_zret dJ0_isLatin1_aae02_18 rfl zn_1 ⟨rfl, rfl, rfl⟩ (Nat.le_of_ble_eq_true rfl) (Nat.le_of_ble_eq_true rfl)
theorem q_shr0 (x : Int32) : q_shr x 0 = x := by
  have h0 : ((0 : Int32) &&& 31) = 0 := by decide +kernel
  unfold q_shr
  rw [h0]
  simp
theorem M_J0_length_8abf5 (l : Launch) (b : Nat) (D : va_G) (z : Nat → Nat) (nx : Nat) {h : qH} {a0 : Nat} {r : Int32} (hF : F_J0_length_8abf5 h a0 = some r) : Me l b D z yJ0_length_8abf5 cJ0_length_8abf5 1 (some .int) rm_J0_length_8abf5 [.ref a0] h nx (qE (some (.int r)) h nx) := by
  obtain ⟨x, hh, rfl⟩ := q_sl_spec hF
  refine Me.ofF (by decide +kernel) (Nat.le_of_ble_eq_true rfl) ?_
  show Go l b D z yJ0_length_8abf5 cJ0_length_8abf5 1 (some .int) rm_J0_length_8abf5 (qE (some (.int (Int32.ofNat x.2.1))) h nx) 0 [(0, .ref a0)] [] h nx 0 0
  refine g_aload_n 0 dJ0_length_8abf5_0 rfl ?_
  refine g_getS hh wd_2152 dJ0_length_8abf5_1 ?_
  refine g_alenS hh dJ0_length_8abf5_4 ?_
  refine g_aload_n 0 dJ0_length_8abf5_5 rfl ?_
  refine g_callT qm_J0_coder_7d493 wd_619 wd_620 wd_621 hh (M_J0_coder_7d493 l b D z nx hh) (As := []) rfl rfl (Nat.le_of_ble_eq_true rfl) ⟨(Nat.le_of_ble_eq_true rfl), (Nat.le_of_ble_eq_true rfl)⟩ ⟨rfl, rfl⟩ ⟨(Nat.le_of_ble_eq_true rfl), (Nat.le_of_ble_eq_true rfl)⟩ dJ0_length_8abf5_6 ?_
  refine g_ishr dJ0_length_8abf5_9 ?_
  rw [q_shr0]
  exact g_iret dJ0_length_8abf5_10 rfl ⟨rfl, rfl, rfl⟩ (Nat.le_of_ble_eq_true rfl) (Nat.le_of_ble_eq_true rfl)
theorem M_J3_checkIndex_8e157 (l : Launch) (b : Nat) (D : va_G) (z : Nat → Nat) (nx : Nat) {h : qH} {i n : Int32} {q : Option Nat} (h0 : 0 ≤ i) (h1 : i < n) : Me l b D z yJ3_checkIndex_8e157 cJ3_checkIndex_8e157 3 (some .int) rm_J3_checkIndex_8e157 [.int i, .int n, va_rf q] h nx (qE (some (.int i)) h nx) := by
  refine Me.ofF (by decide +kernel) (by cases q <;> exact Nat.le_of_ble_eq_true rfl) ?_
  have hcat : (va_rf q).category = 1 := by cases q <;> rfl
  show Go l b D z yJ3_checkIndex_8e157 cJ3_checkIndex_8e157 3 (some .int) rm_J3_checkIndex_8e157 (qE (some (.int i)) h nx) 0 [(0, .int i), (1, .int n), (2, va_rf q)] [] h nx 0 0
  refine g_iload_n 0 dJ3_checkIndex_8e157_0 rfl ?_
  refine g_if_lt 9 dJ3_checkIndex_8e157_1 (by decide) (fun c0 => absurd h0 (Int32.not_le.mpr c0)) (fun _ => ?_)
  refine g_iload_n 0 dJ3_checkIndex_8e157_4 rfl ?_
  refine g_iload_n 1 dJ3_checkIndex_8e157_5 rfl ?_
  refine g_icmp_lt 16 dJ3_checkIndex_8e157_6 (by decide) (fun _ => ?_) (fun c0 => absurd h1 c0)
  refine g_iload_n 0 dJ3_checkIndex_8e157_16 rfl ?_
  exact g_iret dJ3_checkIndex_8e157_17 rfl ⟨rfl, rfl, rfl⟩ (Nat.le_of_ble_eq_true rfl) (Nat.le_of_ble_eq_true rfl)
theorem M_J0_checkIndex_df160 (l : Launch) (b : Nat) (D : va_G) (z : Nat → Nat) (nx : Nat) {h : qH} {i n : Int32} (h0 : 0 ≤ i) (h1 : i < n) : Me l b D z yJ0_checkIndex_df160 cJ0_checkIndex_df160 2 none rm_J0_checkIndex_df160 [.int i, .int n] h nx (qE none h nx) := by
  refine Me.ofF (by decide +kernel) (Nat.le_of_ble_eq_true rfl) ?_
  show Go l b D z yJ0_checkIndex_df160 cJ0_checkIndex_df160 2 none rm_J0_checkIndex_df160 (qE none h nx) 0 [(0, .int i), (1, .int n)] [] h nx 0 0
  refine g_iload_n 0 dJ0_checkIndex_df160_0 rfl ?_
  refine g_iload_n 1 dJ0_checkIndex_df160_1 rfl ?_
  refine g_getsF wd_639 dJ0_checkIndex_df160_2 (fun q => ?_)
  refine g_callSr0 qm_J3_checkIndex_8e157 wd_641 wd_642 (M_J3_checkIndex_8e157 l b D z nx (q := q) h0 h1) (As := [.int i, .int n, va_rf q]) rfl rfl (Nat.le_of_ble_eq_true rfl) ⟨(Nat.le_of_ble_eq_true rfl), (Nat.le_of_ble_eq_true rfl)⟩ ⟨rfl, rfl⟩ ⟨(Nat.le_of_ble_eq_true rfl), (Nat.le_of_ble_eq_true rfl)⟩ dJ0_checkIndex_df160_5 ?_
  refine g_pop dJ0_checkIndex_df160_8 rfl ?_
  exact g_vret dJ0_checkIndex_df160_9 rfl ⟨rfl, rfl, rfl⟩ (Nat.le_of_ble_eq_true rfl) (Nat.le_of_ble_eq_true rfl)
theorem M_J1_charAt_3b067 (l : Launch) (b : Nat) (D : va_G) (z : Nat → Nat) (nx : Nat) {h : qH} {a : Nat} {i : Int32} {x : Nat × Nat × (Nat → Int32)} (hh : h a = some (.inr (.inr (.inr x)))) (h0 : 0 ≤ i) (h1 : i < Int32.ofNat x.2.1) (h2 : i.toNatClampNeg < x.2.1) (h3 : narrow .char (.int (q_i2c (x.2.2 i.toNatClampNeg &&& 255))) = .int (q_i2c (x.2.2 i.toNatClampNeg &&& 255))) : Me l b D z yJ1_charAt_3b067 cJ1_charAt_3b067 2 (some .char) rm_J1_charAt_3b067 [.ref x.1, .int i] h nx (qE (some (.int (q_i2c (x.2.2 i.toNatClampNeg &&& 255)))) h nx) := by
  refine Me.ofF (by decide +kernel) (Nat.le_of_ble_eq_true rfl) ?_
  show Go l b D z yJ1_charAt_3b067 cJ1_charAt_3b067 2 (some .char) rm_J1_charAt_3b067 (qE (some (.int (q_i2c (x.2.2 i.toNatClampNeg &&& 255)))) h nx) 0 [(0, .ref x.1), (1, .int i)] [] h nx 0 0
  refine g_iload_n 1 dJ1_charAt_3b067_0 rfl ?_
  refine g_aload_n 0 dJ1_charAt_3b067_1 rfl ?_
  refine g_alenS hh dJ1_charAt_3b067_2 ?_
  refine g_callSv0 qm_J0_checkIndex_df160 wd_636 wd_637 (M_J0_checkIndex_df160 l b D z nx h0 h1) (As := [.int i, .int (Int32.ofNat x.2.1)]) rfl rfl (Nat.le_of_ble_eq_true rfl) ⟨(Nat.le_of_ble_eq_true rfl), (Nat.le_of_ble_eq_true rfl)⟩ ⟨rfl, rfl⟩ ⟨(Nat.le_of_ble_eq_true rfl), (Nat.le_of_ble_eq_true rfl)⟩ dJ1_charAt_3b067_3 ?_
  refine g_aload_n 0 dJ1_charAt_3b067_6 rfl ?_
  refine g_iload_n 1 dJ1_charAt_3b067_7 rfl ?_
  refine g_baldS hh h0 h2 dJ1_charAt_3b067_8 ?_
  refine g_sipush dJ1_charAt_3b067_9 lt_sipush_255 ?_
  refine g_iand dJ1_charAt_3b067_12 ?_
  refine g_i2c dJ1_charAt_3b067_13 ?_
  exact g_zret dJ1_charAt_3b067_14 rfl h3 ⟨rfl, rfl, rfl⟩ (Nat.le_of_ble_eq_true rfl) (Nat.le_of_ble_eq_true rfl)
theorem M_J0_charAt_5068e (l : Launch) (b : Nat) (D : va_G) (z : Nat → Nat) (nx : Nat) {h : qH} {a0 : Nat} {a1 r : Int32} (hF : F_J0_charAt_5068e h a0 a1 = some r) : Me l b D z yJ0_charAt_5068e cJ0_charAt_5068e 2 (some .char) rm_J0_charAt_5068e [.ref a0, .int a1] h nx (qE (some (.int r)) h nx) := by
  obtain ⟨x, hh, h0, h1, h2, h3, rfl⟩ := q_sc_spec hF
  refine Me.ofF (by decide +kernel) (Nat.le_of_ble_eq_true rfl) ?_
  show Go l b D z yJ0_charAt_5068e cJ0_charAt_5068e 2 (some .char) rm_J0_charAt_5068e (qE (some (.int (q_i2c (x.2.2 a1.toNatClampNeg &&& 255)))) h nx) 0 [(0, .ref a0), (1, .int a1)] [] h nx 0 0
  refine g_aload_n 0 dJ0_charAt_5068e_0 rfl ?_
  refine g_callT qm_J0_isLatin1_aae02 wd_629 wd_630 wd_631 hh (M_J0_isLatin1_aae02 l b D z nx hh) (As := []) rfl rfl (Nat.le_of_ble_eq_true rfl) ⟨(Nat.le_of_ble_eq_true rfl), (Nat.le_of_ble_eq_true rfl)⟩ ⟨rfl, rfl⟩ ⟨(Nat.le_of_ble_eq_true rfl), (Nat.le_of_ble_eq_true rfl)⟩ dJ0_charAt_5068e_1 ?_
  refine g_if_eq 16 dJ0_charAt_5068e_4 (by decide) (fun c0 => absurd c0 (by decide)) (fun _ => ?_)
  refine g_aload_n 0 dJ0_charAt_5068e_7 rfl ?_
  refine g_getS hh wd_2152 dJ0_charAt_5068e_8 ?_
  refine g_iload_n 1 dJ0_charAt_5068e_11 rfl ?_
  refine g_callSr0 qm_J1_charAt_3b067 wd_633 wd_634 (M_J1_charAt_3b067 l b D z nx hh h0 h1 h2 h3) (As := [.ref x.1, .int a1]) rfl rfl (Nat.le_of_ble_eq_true rfl) ⟨(Nat.le_of_ble_eq_true rfl), (Nat.le_of_ble_eq_true rfl)⟩ ⟨rfl, rfl⟩ ⟨(Nat.le_of_ble_eq_true rfl), (Nat.le_of_ble_eq_true rfl)⟩ dJ0_charAt_5068e_12 ?_
  exact g_zret dJ0_charAt_5068e_15 rfl h3 ⟨rfl, rfl, rfl⟩ (Nat.le_of_ble_eq_true rfl) (Nat.le_of_ble_eq_true rfl)
