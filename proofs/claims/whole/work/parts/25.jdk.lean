/-- the same of a method of a class of the JDK's that the machine has no entry of its own for -/
theorem Me.ofF {l : Launch} {b : Nat} {D : va_G} {z : Nat → Nat} {y : MethodName} {cc : ByteArray} {nL : Nat} {ret : Option FieldType} {rm : Room} {as : List Value} {h : qH} {nx : Nat} {F : Option Value → qH → Nat → Prop} (hy : plainFor y = true) (hn : (lg_sl as).length ≤ nL) (k : Go l b D z y cc nL ret rm F 0 (lv_args 0 as) [] h nx 0 0) : Me l b D z y cc nL ret rm as h nx F := by
  refine va_MetF (cc := cc) (maxL := nL) (ret := ret) hy rfl ?_
  intro p e s m args below meth c s₁ B hml hv
  obtain ⟨rfl, hK, hG, hR⟩ := hv
  rw [lg_entry_eq]
  exact k _ _ _ _ _ _ _ _ _ _ _ ⟨B.exec, B.bytes, hml, findClass_of_methodNamed B.named, fun w hw => atoms_spec B.pre w (List.mem_cons_of_mem _ hw)⟩ B.returns B.notSynchronized (name_of_methodNamed B.named B.method).1 hK hG va_S.rf hR (lv_entry as hn)
