/-! ===== calls: image, again: one told object into another ===== -/
def Cq (lay : List (Nat × Nat)) (A2 A : Nat → Nat → Int32) (m : Nat) : Prop := ∀ j n i, j < m → lay[j]? = some (1, n) → i < n → A j i = A2 j i
theorem Cq.zero {lay : List (Nat × Nat)} {A2 A : Nat → Nat → Int32} : Cq lay A2 A 0 := fun j n i hj => absurd hj (by omega)
section CPO
variable {h : qH} {a b ci : Nat} {lay : List (Nat × Nat)} {A A2 : Nat → Nat → Int32} {B B2 : Nat → Nat → Int64} {I I2 : Nat → Int32} {J J2 : Nat → Int64}
theorem OB.cpS (o : OB h a ci lay A B I J) (o2 : OB h b ci lay A2 B2 I2 J2) {m n : Nat} (hj : lay[m]? = some (1, n)) (h31 : n < 2 ^ 31) (cq : Cq lay A2 A m) : ∃ h' A', q_cpI h .int (b + 1 + rk lay m) (nI 0) (a + 1 + rk lay m) (nI 0) (nI n) = some h' ∧ OB h' a ci lay A' B I J ∧ Cq lay A2 A' (m + 1) ∧ Fr h h' a (a + obZ lay) := by
  refine ⟨_, upF A m (va_cpy (A2 m) (A m) 0 0 n), ?_, o.row hj rfl (fun j hj => upF_ne _ _ hj) (fun j _ => rfl), fun j n' i hj' hn hi => ?_, OB.frm hj rfl⟩
  · unfold q_cpI
    rw [o2.2 m 1 n hj rfl, o.2 m 1 n hj rfl]
    simp [obC, nI_nn h31, nI_cl h31, fits, upF_self, show (nI 0).toNatClampNeg = 0 from rfl, show (0 : Int32) ≤ nI 0 by decide]
  · by_cases e : j = m
    · subst e
      rw [hj] at hn
      cases hn
      rw [upF_self]
      exact cpy_in hi
    · rw [upF_ne _ _ e]
      exact cq j n' i (by omega) hn hi
end CPO
section CP0
variable {h : qH} {a b : Nat} {A A2 : Nat → Nat → Int32} {B B2 : Nat → Nat → Int64} {I I2 : Nat → Int32} {J J2 : Nat → Int64}
theorem X0_y0 (o : OB h a 0 bkL A B I J) (o2 : OB h b 0 bkL A2 B2 I2 J2) (cq : Cq bkL A2 A 0) : ∃ h' A', q_cpI h .int (b + 1) (nI 0) (a + 1) (nI 0) (nI 20) = some h' ∧ OB h' a 0 bkL A' B I J ∧ Cq bkL A2 A' 1 ∧ Fr h h' a (a + 12) := o.cpS o2 (m := 0) rfl (by decide) cq
theorem X0_y1 (o : OB h a 0 bkL A B I J) (o2 : OB h b 0 bkL A2 B2 I2 J2) (cq : Cq bkL A2 A 1) : ∃ h' A', q_cpI h .int (b + 2) (nI 0) (a + 2) (nI 0) (nI 20) = some h' ∧ OB h' a 0 bkL A' B I J ∧ Cq bkL A2 A' 2 ∧ Fr h h' a (a + 12) := o.cpS o2 (m := 1) rfl (by decide) cq
theorem X0_y2 (o : OB h a 0 bkL A B I J) (o2 : OB h b 0 bkL A2 B2 I2 J2) (cq : Cq bkL A2 A 2) : ∃ h' A', q_cpI h .int (b + 3) (nI 0) (a + 3) (nI 0) (nI 20) = some h' ∧ OB h' a 0 bkL A' B I J ∧ Cq bkL A2 A' 3 ∧ Fr h h' a (a + 12) := o.cpS o2 (m := 2) rfl (by decide) cq
theorem X0_y3 (o : OB h a 0 bkL A B I J) (o2 : OB h b 0 bkL A2 B2 I2 J2) (cq : Cq bkL A2 A 3) : ∃ h' A', q_cpI h .int (b + 4) (nI 0) (a + 4) (nI 0) (nI 20) = some h' ∧ OB h' a 0 bkL A' B I J ∧ Cq bkL A2 A' 4 ∧ Fr h h' a (a + 12) := o.cpS o2 (m := 3) rfl (by decide) cq
theorem X0_y4 (o : OB h a 0 bkL A B I J) (o2 : OB h b 0 bkL A2 B2 I2 J2) (cq : Cq bkL A2 A 4) : ∃ h' A', q_cpI h .int (b + 5) (nI 0) (a + 5) (nI 0) (nI 20) = some h' ∧ OB h' a 0 bkL A' B I J ∧ Cq bkL A2 A' 5 ∧ Fr h h' a (a + 12) := o.cpS o2 (m := 4) rfl (by decide) cq
theorem X0_y5 (o : OB h a 0 bkL A B I J) (o2 : OB h b 0 bkL A2 B2 I2 J2) (cq : Cq bkL A2 A 5) : ∃ h' A', q_cpI h .int (b + 6) (nI 0) (a + 6) (nI 0) (nI 8) = some h' ∧ OB h' a 0 bkL A' B I J ∧ Cq bkL A2 A' 6 ∧ Fr h h' a (a + 12) := o.cpS o2 (m := 5) rfl (by decide) cq
theorem X0_y6 (o : OB h a 0 bkL A B I J) (o2 : OB h b 0 bkL A2 B2 I2 J2) (cq : Cq bkL A2 A 6) : ∃ h' A', q_cpI h .int (b + 7) (nI 0) (a + 7) (nI 0) (nI 8) = some h' ∧ OB h' a 0 bkL A' B I J ∧ Cq bkL A2 A' 7 ∧ Fr h h' a (a + 12) := o.cpS o2 (m := 6) rfl (by decide) cq
theorem X0_y7 (o : OB h a 0 bkL A B I J) (o2 : OB h b 0 bkL A2 B2 I2 J2) (cq : Cq bkL A2 A 7) : ∃ h' A', q_cpI h .int (b + 8) (nI 0) (a + 8) (nI 0) (nI 6) = some h' ∧ OB h' a 0 bkL A' B I J ∧ Cq bkL A2 A' 8 ∧ Fr h h' a (a + 12) := o.cpS o2 (m := 7) rfl (by decide) cq
theorem X0_y8 (o : OB h a 0 bkL A B I J) (o2 : OB h b 0 bkL A2 B2 I2 J2) (cq : Cq bkL A2 A 8) : ∃ h' A', q_cpI h .int (b + 9) (nI 0) (a + 9) (nI 0) (nI 6) = some h' ∧ OB h' a 0 bkL A' B I J ∧ Cq bkL A2 A' 9 ∧ Fr h h' a (a + 12) := o.cpS o2 (m := 8) rfl (by decide) cq
theorem X0_y9 (o : OB h a 0 bkL A B I J) (o2 : OB h b 0 bkL A2 B2 I2 J2) (cq : Cq bkL A2 A 9) : ∃ h' A', q_cpI h .int (b + 10) (nI 0) (a + 10) (nI 0) (nI 400) = some h' ∧ OB h' a 0 bkL A' B I J ∧ Cq bkL A2 A' 10 ∧ Fr h h' a (a + 12) := o.cpS o2 (m := 9) rfl (by decide) cq
theorem X0_y10 (o : OB h a 0 bkL A B I J) (o2 : OB h b 0 bkL A2 B2 I2 J2) (cq : Cq bkL A2 A 10) : ∃ h' A', q_cpI h .int (b + 11) (nI 0) (a + 11) (nI 0) (nI 20) = some h' ∧ OB h' a 0 bkL A' B I J ∧ Cq bkL A2 A' 11 ∧ Fr h h' a (a + 12) := o.cpS o2 (m := 10) rfl (by decide) cq
theorem c_cp0 (o : OB h a 0 bkL A B I J) (o2 : OB h b 0 bkL A2 B2 I2 J2) (hd : a + 12 ≤ b ∨ b + 12 ≤ a) : ∃ h' A' I', F_X0_copy h a b = some h' ∧ OB h' a 0 bkL A' B I' J ∧ Fr h h' a (a + 12) ∧ Cq bkL A2 A' 11 ∧ I' 12 = I2 12 ∧ I' 11 = I2 11 ∧ I' 13 = I2 13 ∧ I' 14 = I2 14 := by
  have sk : ∀ {h'}, Fr h h' a (a + 12) → OB h' b 0 bkL A2 B2 I2 J2 := fun r => o2.kept (fun q q1 q2 => r q (by rw [X0_Z] at q2; omega))
  have s0 := o2
  obtain ⟨h1, A1, e1, o1, c1, r1⟩ := X0_y0 o s0 Cq.zero
  have t1 := r1
  have s1 := sk t1
  obtain ⟨h2, A2, e2, o2, c2, r2⟩ := X0_y1 o1 s1 c1
  have t2 := t1.tr r2
  have s2 := sk t2
  obtain ⟨h3, A3, e3, o3, c3, r3⟩ := X0_y2 o2 s2 c2
  have t3 := t2.tr r3
  have s3 := sk t3
  obtain ⟨h4, A4, e4, o4, c4, r4⟩ := X0_y3 o3 s3 c3
  have t4 := t3.tr r4
  have s4 := sk t4
  obtain ⟨h5, A5, e5, o5, c5, r5⟩ := X0_y4 o4 s4 c4
  have t5 := t4.tr r5
  have s5 := sk t5
  obtain ⟨h6, A6, e6, o6, c6, r6⟩ := X0_y5 o5 s5 c5
  have t6 := t5.tr r6
  have s6 := sk t6
  obtain ⟨h7, A7, e7, o7, c7, r7⟩ := X0_y6 o6 s6 c6
  have t7 := t6.tr r7
  have s7 := sk t7
  obtain ⟨h8, A8, e8, o8, c8, r8⟩ := X0_y7 o7 s7 c7
  have t8 := t7.tr r8
  have s8 := sk t8
  obtain ⟨h9, A9, e9, o9, c9, r9⟩ := X0_y8 o8 s8 c8
  have t9 := t8.tr r9
  have s9 := sk t9
  obtain ⟨h10, A10, e10, o10, c10, r10⟩ := X0_y9 o9 s9 c9
  have t10 := t9.tr r10
  have s10 := sk t10
  obtain ⟨h11, A11, e11, o11, c11, r11⟩ := X0_y10 o10 s10 c10
  have t11 := t10.tr r11
  have s11 := sk t11
  obtain ⟨h12, e12, o12, r12⟩ := X0_p12 o11 (I2 12)
  have t12 := t11.tr r12
  have s12 := sk t12
  obtain ⟨h13, e13, o13, r13⟩ := X0_p11 o12 (I2 11)
  have t13 := t12.tr r13
  have s13 := sk t13
  obtain ⟨h14, e14, o14, r14⟩ := X0_p13 o13 (I2 13)
  have t14 := t13.tr r14
  have s14 := sk t14
  obtain ⟨h15, e15, o15, r15⟩ := X0_p14 o14 (I2 14)
  have t15 := t14.tr r15
  have s15 := sk t15
  refine ⟨h15, A11, _, ?_, o15, t15, c11, by simp (disch := omega) only [uS], by simp (disch := omega) only [uS], by simp (disch := omega) only [uS], by simp (disch := omega) only [uS]⟩
  unfold F_X0_copy
  rw [s0.fR (k := 0) rfl rfl, Option.bind_some, o.fR (k := 0) rfl rfl, Option.bind_some]
  have e1 : q_cpI h .int (b + 1 + rk bkL 0) (0 : Int32) (a + 1 + rk bkL 0) (0 : Int32) (20 : Int32) = some h1 := e1
  rw [e1, Option.bind_some]
  rw [s1.fR (k := 1) rfl rfl, Option.bind_some, o1.fR (k := 1) rfl rfl, Option.bind_some]
  have e2 : q_cpI h1 .int (b + 1 + rk bkL 1) (0 : Int32) (a + 1 + rk bkL 1) (0 : Int32) (20 : Int32) = some h2 := e2
  rw [e2, Option.bind_some]
  rw [s2.fR (k := 2) rfl rfl, Option.bind_some, o2.fR (k := 2) rfl rfl, Option.bind_some]
  have e3 : q_cpI h2 .int (b + 1 + rk bkL 2) (0 : Int32) (a + 1 + rk bkL 2) (0 : Int32) (20 : Int32) = some h3 := e3
  rw [e3, Option.bind_some]
  rw [s3.fR (k := 3) rfl rfl, Option.bind_some, o3.fR (k := 3) rfl rfl, Option.bind_some]
  have e4 : q_cpI h3 .int (b + 1 + rk bkL 3) (0 : Int32) (a + 1 + rk bkL 3) (0 : Int32) (20 : Int32) = some h4 := e4
  rw [e4, Option.bind_some]
  rw [s4.fR (k := 4) rfl rfl, Option.bind_some, o4.fR (k := 4) rfl rfl, Option.bind_some]
  have e5 : q_cpI h4 .int (b + 1 + rk bkL 4) (0 : Int32) (a + 1 + rk bkL 4) (0 : Int32) (20 : Int32) = some h5 := e5
  rw [e5, Option.bind_some]
  rw [s5.fR (k := 5) rfl rfl, Option.bind_some, o5.fR (k := 5) rfl rfl, Option.bind_some]
  have e6 : q_cpI h5 .int (b + 1 + rk bkL 5) (0 : Int32) (a + 1 + rk bkL 5) (0 : Int32) (8 : Int32) = some h6 := e6
  rw [e6, Option.bind_some]
  rw [s6.fR (k := 6) rfl rfl, Option.bind_some, o6.fR (k := 6) rfl rfl, Option.bind_some]
  have e7 : q_cpI h6 .int (b + 1 + rk bkL 6) (0 : Int32) (a + 1 + rk bkL 6) (0 : Int32) (8 : Int32) = some h7 := e7
  rw [e7, Option.bind_some]
  rw [s7.fR (k := 7) rfl rfl, Option.bind_some, o7.fR (k := 7) rfl rfl, Option.bind_some]
  have e8 : q_cpI h7 .int (b + 1 + rk bkL 7) (0 : Int32) (a + 1 + rk bkL 7) (0 : Int32) (6 : Int32) = some h8 := e8
  rw [e8, Option.bind_some]
  rw [s8.fR (k := 8) rfl rfl, Option.bind_some, o8.fR (k := 8) rfl rfl, Option.bind_some]
  have e9 : q_cpI h8 .int (b + 1 + rk bkL 8) (0 : Int32) (a + 1 + rk bkL 8) (0 : Int32) (6 : Int32) = some h9 := e9
  rw [e9, Option.bind_some]
  rw [s9.fR (k := 9) rfl rfl, Option.bind_some, o9.fR (k := 9) rfl rfl, Option.bind_some]
  have e10 : q_cpI h9 .int (b + 1 + rk bkL 9) (0 : Int32) (a + 1 + rk bkL 9) (0 : Int32) (400 : Int32) = some h10 := e10
  rw [e10, Option.bind_some]
  rw [s10.fR (k := 10) rfl rfl, Option.bind_some, o10.fR (k := 10) rfl rfl, Option.bind_some]
  have e11 : q_cpI h10 .int (b + 1 + rk bkL 10) (0 : Int32) (a + 1 + rk bkL 10) (0 : Int32) (20 : Int32) = some h11 := e11
  rw [e11, Option.bind_some]
  rw [s11.fI (k := 12) rfl, Option.bind_some, e12, Option.bind_some]
  rw [s12.fI (k := 11) rfl, Option.bind_some, e13, Option.bind_some]
  rw [s13.fI (k := 13) rfl, Option.bind_some, e14, Option.bind_some]
  rw [s14.fI (k := 14) rfl, Option.bind_some, e15, Option.bind_some]
end CP0
section CP1
variable {h : qH} {a b : Nat} {A A2 : Nat → Nat → Int32} {B B2 : Nat → Nat → Int64} {I I2 : Nat → Int32} {J J2 : Nat → Int64}
theorem X1_y0 (o : OB h a 1 evL A B I J) (o2 : OB h b 1 evL A2 B2 I2 J2) (cq : Cq evL A2 A 0) : ∃ h' A', q_cpI h .int (b + 1) (nI 0) (a + 1) (nI 0) (nI 40) = some h' ∧ OB h' a 1 evL A' B I J ∧ Cq evL A2 A' 1 ∧ Fr h h' a (a + 3) := o.cpS o2 (m := 0) rfl (by decide) cq
theorem X1_y1 (o : OB h a 1 evL A B I J) (o2 : OB h b 1 evL A2 B2 I2 J2) (cq : Cq evL A2 A 1) : ∃ h' A', q_cpI h .int (b + 2) (nI 0) (a + 2) (nI 0) (nI 40) = some h' ∧ OB h' a 1 evL A' B I J ∧ Cq evL A2 A' 2 ∧ Fr h h' a (a + 3) := o.cpS o2 (m := 1) rfl (by decide) cq
theorem c_cp1 (o : OB h a 1 evL A B I J) (o2 : OB h b 1 evL A2 B2 I2 J2) (hd : a + 3 ≤ b ∨ b + 3 ≤ a) : ∃ h' A' I', F_X1_copy h a b = some h' ∧ OB h' a 1 evL A' B I' J ∧ Fr h h' a (a + 3) ∧ Cq evL A2 A' 2 ∧ I' 2 = I2 2 := by
  have sk : ∀ {h'}, Fr h h' a (a + 3) → OB h' b 1 evL A2 B2 I2 J2 := fun r => o2.kept (fun q q1 q2 => r q (by rw [X1_Z] at q2; omega))
  have s0 := o2
  obtain ⟨h1, A1, e1, o1, c1, r1⟩ := X1_y0 o s0 Cq.zero
  have t1 := r1
  have s1 := sk t1
  obtain ⟨h2, A2, e2, o2, c2, r2⟩ := X1_y1 o1 s1 c1
  have t2 := t1.tr r2
  have s2 := sk t2
  obtain ⟨h3, e3, o3, r3⟩ := X1_p2 o2 (I2 2)
  have t3 := t2.tr r3
  have s3 := sk t3
  refine ⟨h3, A2, _, ?_, o3, t3, c2, by simp (disch := omega) only [uS]⟩
  unfold F_X1_copy
  rw [s0.fR (k := 0) rfl rfl, Option.bind_some, o.fR (k := 0) rfl rfl, Option.bind_some]
  have e1 : q_cpI h .int (b + 1 + rk evL 0) (0 : Int32) (a + 1 + rk evL 0) (0 : Int32) (40 : Int32) = some h1 := e1
  rw [e1, Option.bind_some]
  rw [s1.fR (k := 1) rfl rfl, Option.bind_some, o1.fR (k := 1) rfl rfl, Option.bind_some]
  have e2 : q_cpI h1 .int (b + 1 + rk evL 1) (0 : Int32) (a + 1 + rk evL 1) (0 : Int32) (40 : Int32) = some h2 := e2
  rw [e2, Option.bind_some]
  rw [s2.fI (k := 2) rfl, Option.bind_some, e3, Option.bind_some]
end CP1
section CP3
variable {h : qH} {a b : Nat} {A A2 : Nat → Nat → Int32} {B B2 : Nat → Nat → Int64} {I I2 : Nat → Int32} {J J2 : Nat → Int64}
theorem X3_y0 (o : OB h a 3 lgL A B I J) (o2 : OB h b 3 lgL A2 B2 I2 J2) (cq : Cq lgL A2 A 0) : ∃ h' A', q_cpI h .int (b + 1) (nI 0) (a + 1) (nI 0) (nI 12) = some h' ∧ OB h' a 3 lgL A' B I J ∧ Cq lgL A2 A' 1 ∧ Fr h h' a (a + 2) := o.cpS o2 (m := 0) rfl (by decide) cq
theorem c_cp3 (o : OB h a 3 lgL A B I J) (o2 : OB h b 3 lgL A2 B2 I2 J2) (hd : a + 2 ≤ b ∨ b + 2 ≤ a) : ∃ h' A' I', F_X3_copy h a b = some h' ∧ OB h' a 3 lgL A' B I' J ∧ Fr h h' a (a + 2) ∧ Cq lgL A2 A' 1 ∧ I' 1 = I2 1 := by
  have sk : ∀ {h'}, Fr h h' a (a + 2) → OB h' b 3 lgL A2 B2 I2 J2 := fun r => o2.kept (fun q q1 q2 => r q (by rw [X3_Z] at q2; omega))
  have s0 := o2
  obtain ⟨h1, A1, e1, o1, c1, r1⟩ := X3_y0 o s0 Cq.zero
  have t1 := r1
  have s1 := sk t1
  obtain ⟨h2, e2, o2, r2⟩ := X3_p1 o1 (I2 1)
  have t2 := t1.tr r2
  have s2 := sk t2
  refine ⟨h2, A1, _, ?_, o2, t2, c1, by simp (disch := omega) only [uS]⟩
  unfold F_X3_copy
  rw [s0.fR (k := 0) rfl rfl, Option.bind_some, o.fR (k := 0) rfl rfl, Option.bind_some]
  have e1 : q_cpI h .int (b + 1 + rk lgL 0) (0 : Int32) (a + 1 + rk lgL 0) (0 : Int32) (12 : Int32) = some h1 := e1
  rw [e1, Option.bind_some]
  rw [s1.fI (k := 1) rfl, Option.bind_some, e2, Option.bind_some]
end CP3
section CP10
variable {h : qH} {a b : Nat} {A A2 : Nat → Nat → Int32} {B B2 : Nat → Nat → Int64} {I I2 : Nat → Int32} {J J2 : Nat → Int64}
theorem X10_y0 (o : OB h a 10 twL A B I J) (o2 : OB h b 10 twL A2 B2 I2 J2) (cq : Cq twL A2 A 0) : ∃ h' A', q_cpI h .int (b + 1) (nI 0) (a + 1) (nI 0) (nI 9) = some h' ∧ OB h' a 10 twL A' B I J ∧ Cq twL A2 A' 1 ∧ Fr h h' a (a + 5) := o.cpS o2 (m := 0) rfl (by decide) cq
theorem X10_y1 (o : OB h a 10 twL A B I J) (o2 : OB h b 10 twL A2 B2 I2 J2) (cq : Cq twL A2 A 1) : ∃ h' A', q_cpI h .int (b + 2) (nI 0) (a + 2) (nI 0) (nI 9) = some h' ∧ OB h' a 10 twL A' B I J ∧ Cq twL A2 A' 2 ∧ Fr h h' a (a + 5) := o.cpS o2 (m := 1) rfl (by decide) cq
theorem X10_y2 (o : OB h a 10 twL A B I J) (o2 : OB h b 10 twL A2 B2 I2 J2) (cq : Cq twL A2 A 2) : ∃ h' A', q_cpI h .int (b + 3) (nI 0) (a + 3) (nI 0) (nI 9) = some h' ∧ OB h' a 10 twL A' B I J ∧ Cq twL A2 A' 3 ∧ Fr h h' a (a + 5) := o.cpS o2 (m := 2) rfl (by decide) cq
theorem c_cp10 (o : OB h a 10 twL A B I J) (o2 : OB h b 10 twL A2 B2 I2 J2) (hd : a + 5 ≤ b ∨ b + 5 ≤ a) : ∃ h' A' I', F_X10_copy h a b = some h' ∧ OB h' a 10 twL A' B I' J ∧ Fr h h' a (a + 5) ∧ Cq twL A2 A' 3 ∧ I' 4 = I2 4 := by
  have sk : ∀ {h'}, Fr h h' a (a + 5) → OB h' b 10 twL A2 B2 I2 J2 := fun r => o2.kept (fun q q1 q2 => r q (by rw [X10_Z] at q2; omega))
  have s0 := o2
  obtain ⟨h1, A1, e1, o1, c1, r1⟩ := X10_y0 o s0 Cq.zero
  have t1 := r1
  have s1 := sk t1
  obtain ⟨h2, A2, e2, o2, c2, r2⟩ := X10_y1 o1 s1 c1
  have t2 := t1.tr r2
  have s2 := sk t2
  obtain ⟨h3, A3, e3, o3, c3, r3⟩ := X10_y2 o2 s2 c2
  have t3 := t2.tr r3
  have s3 := sk t3
  obtain ⟨h4, e4, o4, r4⟩ := X10_p4 o3 (I2 4)
  have t4 := t3.tr r4
  have s4 := sk t4
  refine ⟨h4, A3, _, ?_, o4, t4, c3, by simp (disch := omega) only [uS]⟩
  unfold F_X10_copy
  rw [s0.fR (k := 0) rfl rfl, Option.bind_some, o.fR (k := 0) rfl rfl, Option.bind_some]
  have e1 : q_cpI h .int (b + 1 + rk twL 0) (0 : Int32) (a + 1 + rk twL 0) (0 : Int32) (9 : Int32) = some h1 := e1
  rw [e1, Option.bind_some]
  rw [s1.fR (k := 1) rfl rfl, Option.bind_some, o1.fR (k := 1) rfl rfl, Option.bind_some]
  have e2 : q_cpI h1 .int (b + 1 + rk twL 1) (0 : Int32) (a + 1 + rk twL 1) (0 : Int32) (9 : Int32) = some h2 := e2
  rw [e2, Option.bind_some]
  rw [s2.fR (k := 2) rfl rfl, Option.bind_some, o2.fR (k := 2) rfl rfl, Option.bind_some]
  have e3 : q_cpI h2 .int (b + 1 + rk twL 2) (0 : Int32) (a + 1 + rk twL 2) (0 : Int32) (9 : Int32) = some h3 := e3
  rw [e3, Option.bind_some]
  rw [s3.fI (k := 4) rfl, Option.bind_some, e4, Option.bind_some]
end CP10
section CPX
variable {h : qH} {a s : Nat} {p p' : Prop} {x x' : Nat → Int32}
theorem c_cpB (c : CBx h a p' x') (d : CBx h s p x) (hp : p → BV x) (hd : a + 12 ≤ s ∨ s + 12 ≤ a) : ∃ h', F_X0_copy h a s = some h' ∧ CBx h' a p x ∧ Fr h h' a (a + 12) := by
  obtain ⟨A, B, I, J, o, -⟩ := c
  obtain ⟨A2, B2, I2, J2, o2, hc⟩ := d
  obtain ⟨h', A', I', e', o', r', cq, i12, i11, i13, i14⟩ := c_cp0 o o2 hd
  refine ⟨h', e', ⟨A', B, I', J, o', fun hp' => ?_⟩, r'⟩
  obtain ⟨⟨k1, k2, k3⟩, k4, k5, k6⟩ := hc hp'
  have ok := bMB_ok (hp hp')
  have hL := L_le ok
  refine ⟨⟨by rw [i12]; exact k1, by rw [i13]; exact k2, by rw [i14]; exact k3⟩, fun k l hk hl => ?_, fun q hq => ⟨?_, ?_⟩, fun l hl => ⟨?_, fun k hk => ?_⟩⟩
  · rw [← k4 k l hk hl]
    rcases (show k = 0 ∨ k = 1 ∨ k = 2 ∨ k = 3 ∨ k = 4 by omega) with rfl | rfl | rfl | rfl | rfl <;> exact cq _ 20 l (by omega) rfl (by omega)
  · rw [← (k5 q hq).1]; exact cq 7 6 q (by omega) rfl hq
  · rw [← (k5 q hq).2]; exact cq 8 6 q (by omega) rfl hq
  · rw [← (k6 l hl).1]; exact cq 10 20 l (by omega) rfl (by omega)
  · rw [← (k6 l hl).2 k hk]
    have := (ok.2.1 l hl).1
    exact cq 9 400 _ (by omega) rfl (by omega)
theorem c_cpE (c : CEx h a p' x') (d : CEx h s p x) (hp : p → EV x) (hd : a + 3 ≤ s ∨ s + 3 ≤ a) : ∃ h', F_X1_copy h a s = some h' ∧ CEx h' a p x ∧ Fr h h' a (a + 3) := by
  obtain ⟨A, B, I, J, o, -⟩ := c
  obtain ⟨A2, B2, I2, J2, o2, hc⟩ := d
  obtain ⟨h', A', I', e', o', r', cq, i2⟩ := c_cp1 o o2 hd
  refine ⟨h', e', ⟨A', B, I', J, o', fun hp' => ?_⟩, r'⟩
  obtain ⟨k1, k2⟩ := hc hp'
  have hn := (ev_ok (hp hp')).2
  refine ⟨by rw [i2]; exact k1, fun k hk => ⟨?_, ?_⟩⟩
  · rw [← (k2 k hk).1]; exact cq 0 40 k (by omega) rfl (by omega)
  · rw [← (k2 k hk).2]; exact cq 1 40 k (by omega) rfl (by omega)
theorem c_cpG (c : CGx h a p' x') (d : CGx h s p x) (hp : p → LV x) (hd : a + 2 ≤ s ∨ s + 2 ≤ a) : ∃ h', F_X3_copy h a s = some h' ∧ CGx h' a p x ∧ Fr h h' a (a + 2) := by
  obtain ⟨A, B, I, J, o, -⟩ := c
  obtain ⟨A2, B2, I2, J2, o2, hc⟩ := d
  obtain ⟨h', A', I', e', o', r', cq, i2⟩ := c_cp3 o o2 hd
  refine ⟨h', e', ⟨A', B, I', J, o', fun hp' => ?_⟩, r'⟩
  obtain ⟨k1, k2⟩ := hc hp'
  have hn := (lv_ok (hp hp')).2
  refine ⟨by rw [i2]; exact k1, fun k hk => ?_⟩
  rw [← k2 k hk]; exact cq 0 12 k (by omega) rfl (by omega)
theorem c_cpW (c : CWx h a p' x') (d : CWx h s p x) (hd : a + 5 ≤ s ∨ s + 5 ≤ a) : ∃ h', F_X10_copy h a s = some h' ∧ CWx h' a p x ∧ Fr h h' a (a + 5) := by
  obtain ⟨A, B, I, J, o, -⟩ := c
  obtain ⟨A2, B2, I2, J2, o2, hc⟩ := d
  obtain ⟨h', A', I', e', o', r', cq, i2⟩ := c_cp10 o o2 hd
  refine ⟨h', e', ⟨A', B, I', J, o', fun hp' => ?_⟩, r'⟩
  obtain ⟨k1, k2, k3⟩ := hc hp'
  refine ⟨by rw [i2]; exact k1, fun k hk => ?_, fun k hk => ⟨?_, ?_⟩⟩
  · rw [← k2 k hk]; exact cq 0 9 k (by omega) rfl (by omega)
  · rw [← (k3 k hk).1]; exact cq 1 9 k (by omega) rfl (by omega)
  · rw [← (k3 k hk).2]; exact cq 2 9 k (by omega) rfl (by omega)
end CPX
/-- the told object with contents that hold of fewer -/
def TQ (h : qH) (t : Nat) (σ : SG) (v : Nat → Nat → Prop) : Prop := TDo h t σ ∧ TDt h t σ ∧ TDc h t σ ∧ TDr h t ∧ (∀ k, k < 2 → CBx h (t + 7 + 22 * k) (v 0 k) (sB σ k)) ∧ (∀ k, k < 2 → CEx h (t + 19 + 22 * k) (v 1 k) (sE σ k)) ∧ (∀ k, k < 2 → CGx h (t + 22 + 22 * k) (v 2 k) (sG σ k)) ∧ ∀ k, k < 2 → CWx h (t + 24 + 22 * k) (v 3 k) (sW σ k)
theorem TD.tq {h : qH} {t : Nat} {σ : SG} (d : TD h t σ) : TQ h t σ (fun s k => k < sC σ s) := d
theorem CBx.mo {h : qH} {a : Nat} {p p' : Prop} {x : Nat → Int32} (c : CBx h a p x) (hp : p' → p) : CBx h a p' x := by
  obtain ⟨A, B, I, J, o, hc⟩ := c
  exact ⟨A, B, I, J, o, fun q => hc (hp q)⟩
theorem CEx.mo {h : qH} {a : Nat} {p p' : Prop} {x : Nat → Int32} (c : CEx h a p x) (hp : p' → p) : CEx h a p' x := by
  obtain ⟨A, B, I, J, o, hc⟩ := c
  exact ⟨A, B, I, J, o, fun q => hc (hp q)⟩
theorem CGx.mo {h : qH} {a : Nat} {p p' : Prop} {x : Nat → Int32} (c : CGx h a p x) (hp : p' → p) : CGx h a p' x := by
  obtain ⟨A, B, I, J, o, hc⟩ := c
  exact ⟨A, B, I, J, o, fun q => hc (hp q)⟩
theorem CWx.mo {h : qH} {a : Nat} {p p' : Prop} {x : Nat → Int32} (c : CWx h a p x) (hp : p' → p) : CWx h a p' x := by
  obtain ⟨A, B, I, J, o, hc⟩ := c
  exact ⟨A, B, I, J, o, fun q => hc (hp q)⟩
/-- any contents, if nothing is asked of them -/
theorem CBx.no {h : qH} {a : Nat} {p : Prop} {x x' : Nat → Int32} (c : CBx h a p x) : CBx h a False x' := by
  obtain ⟨A, B, I, J, o, -⟩ := c
  exact ⟨A, B, I, J, o, False.elim⟩
theorem CEx.no {h : qH} {a : Nat} {p : Prop} {x x' : Nat → Int32} (c : CEx h a p x) : CEx h a False x' := by
  obtain ⟨A, B, I, J, o, -⟩ := c
  exact ⟨A, B, I, J, o, False.elim⟩
theorem CGx.no {h : qH} {a : Nat} {p : Prop} {x x' : Nat → Int32} (c : CGx h a p x) : CGx h a False x' := by
  obtain ⟨A, B, I, J, o, -⟩ := c
  exact ⟨A, B, I, J, o, False.elim⟩
theorem CWx.no {h : qH} {a : Nat} {p : Prop} {x x' : Nat → Int32} (c : CWx h a p x) : CWx h a False x' := by
  obtain ⟨A, B, I, J, o, -⟩ := c
  exact ⟨A, B, I, J, o, False.elim⟩
