def q_shl (x y : Int32) : Int32 := x <<< (y &&& 31)
def q_shr (x y : Int32) : Int32 := x >>> (y &&& 31)
def q_ushr (x y : Int32) : Int32 := (x.toUInt32 >>> (y.toUInt32 &&& Int32.toUInt32 31)).toInt32
def q_rem (x y : Int32) : Int32 := x - x / y * y
def q_lrem (x y : Int64) : Int64 := x - x / y * y
def q_lshl (x : Int64) (y : Int32) : Int64 := x <<< (y.toInt64 &&& 63)
def q_i2b (x : Int32) : Int32 := x.toInt8.toInt32
def q_i2c (x : Int32) : Int32 := (x.toUInt32 % 65536).toInt32
section QROW
variable {l : Launch} {b : Nat} {D : va_G} {z : Nat → Nat} {y : MethodName} {cc : ByteArray} {nL : Nat} {ret : Option FieldType} {rm : Room} {F : Option Value → qH → Nat → Prop} {pc : Nat} {lv : List (Nat × Value)} {st : List Value} {h : qH} {nx k j : Nat}
theorem g_iconst {n : Int} {v : Int32} (hdg : decode cc pc = .ok (.iconst n, 1)) (hv : Int32.ofInt n = v) (w : Go l b D z y cc nL ret rm F (pc + 1) lv (.int v :: st) h nx k j) : Go l b D z y cc nL ret rm F pc lv (st) h nx k j := by
  intro p e s m args below meth c H locs ls hC hr hlk hnm hK hG hS hR hl
  exact lv_iconst hC.1 hC.2.1 hdg hv (w _ _ _ _ _ _ _ _ _ _ _ hC hr hlk hnm hK hG hS hR hl)
theorem g_bipush {n : Int} {v : Int32} (hdg : decode cc pc = .ok (.bipush n, 2)) (hv : (Int8.ofInt n).toInt32 = v) (w : Go l b D z y cc nL ret rm F (pc + 2) lv (.int v :: st) h nx k j) : Go l b D z y cc nL ret rm F pc lv (st) h nx k j := by
  intro p e s m args below meth c H locs ls hC hr hlk hnm hK hG hS hR hl
  exact lv_bipush hC.1 hC.2.1 hdg hv (w _ _ _ _ _ _ _ _ _ _ _ hC hr hlk hnm hK hG hS hR hl)
theorem g_sipush {n : Int} {v : Int32} (hdg : decode cc pc = .ok (.sipush n, 3)) (hv : (Int16.ofInt n).toInt32 = v) (w : Go l b D z y cc nL ret rm F (pc + 3) lv (.int v :: st) h nx k j) : Go l b D z y cc nL ret rm F pc lv (st) h nx k j := by
  intro p e s m args below meth c H locs ls hC hr hlk hnm hK hG hS hR hl
  exact lv_sipush hC.1 hC.2.1 hdg hv (w _ _ _ _ _ _ _ _ _ _ _ hC hr hlk hnm hK hG hS hR hl)
theorem g_lconst {n : Fin 2} {v : Int64} (hdg : decode cc pc = .ok (.lconst n, 1)) (hv : Int64.ofNat (n : Nat) = v) (w : Go l b D z y cc nL ret rm F (pc + 1) lv (.long v :: st) h nx k j) : Go l b D z y cc nL ret rm F pc lv (st) h nx k j := by
  intro p e s m args below meth c H locs ls hC hr hlk hnm hK hG hS hR hl
  exact lv_lconst hC.1 hC.2.1 hdg hv (w _ _ _ _ _ _ _ _ _ _ _ hC hr hlk hnm hK hG hS hR hl)
theorem g_ldc {i : Nat} {v : Int32} (hdg : decode cc pc = .ok (.ldc i, 2)) (hw : Cond.constant y.cls i v ∈ qws) (w : Go l b D z y cc nL ret rm F (pc + 2) lv (.int v :: st) h nx k j) : Go l b D z y cc nL ret rm F pc lv (st) h nx k j := by
  intro p e s m args below meth c H locs ls hC hr hlk hnm hK hG hS hR hl
  exact lv_ldc hC.1 hC.2.1 hC.2.2.2.1 (hC.2.2.2.2 _ hw) hdg (w _ _ _ _ _ _ _ _ _ _ _ hC hr hlk hnm hK hG hS hR hl)
theorem g_ldcw {i : Nat} {v : Int32} (hdg : decode cc pc = .ok (.ldc_w i, 3)) (hw : Cond.constant y.cls i v ∈ qws) (w : Go l b D z y cc nL ret rm F (pc + 3) lv (.int v :: st) h nx k j) : Go l b D z y cc nL ret rm F pc lv (st) h nx k j := by
  intro p e s m args below meth c H locs ls hC hr hlk hnm hK hG hS hR hl
  exact lv_ldcw hC.1 hC.2.1 hC.2.2.2.1 (hC.2.2.2.2 _ hw) hdg (w _ _ _ _ _ _ _ _ _ _ _ hC hr hlk hnm hK hG hS hR hl)
theorem g_ldc2 {i : Nat} {v : Int64} (hdg : decode cc pc = .ok (.ldc2_w i, 3)) (hw : Cond.constantLong y.cls i v ∈ qws) (w : Go l b D z y cc nL ret rm F (pc + 3) lv (.long v :: st) h nx k j) : Go l b D z y cc nL ret rm F pc lv (st) h nx k j := by
  intro p e s m args below meth c H locs ls hC hr hlk hnm hK hG hS hR hl
  exact lv_ldc2 hC.1 hC.2.1 hC.2.2.2.1 (hC.2.2.2.2 _ hw) hdg (w _ _ _ _ _ _ _ _ _ _ _ hC hr hlk hnm hK hG hS hR hl)
theorem g_anull  (hdg : decode cc pc = .ok (.aconst_null, 1))  (w : Go l b D z y cc nL ret rm F (pc + 1) lv (.null :: st) h nx k j) : Go l b D z y cc nL ret rm F pc lv (st) h nx k j := by
  intro p e s m args below meth c H locs ls hC hr hlk hnm hK hG hS hR hl
  exact lv_null hC.1 hC.2.1 hdg (w _ _ _ _ _ _ _ _ _ _ _ hC hr hlk hnm hK hG hS hR hl)
theorem g_iload_n {n : Fin 4} {x : Int32} (q : Nat) (hdg : decode cc pc = .ok (.iload_n n, 1)) (hq : lv[q]? = some ((n : Nat), .int x)) (w : Go l b D z y cc nL ret rm F (pc + 1) lv (.int x :: st) h nx k j) : Go l b D z y cc nL ret rm F pc lv (st) h nx k j := by
  intro p e s m args below meth c H locs ls hC hr hlk hnm hK hG hS hR hl
  exact lv_iload_n hC.1 hC.2.1 hdg rfl (lv_at hl q hq) (w _ _ _ _ _ _ _ _ _ _ _ hC hr hlk hnm hK hG hS hR hl)
theorem g_iload {i : Nat} {x : Int32} (q : Nat) (hdg : decode cc pc = .ok (.iload i, 2)) (hq : lv[q]? = some (i, .int x)) (w : Go l b D z y cc nL ret rm F (pc + 2) lv (.int x :: st) h nx k j) : Go l b D z y cc nL ret rm F pc lv (st) h nx k j := by
  intro p e s m args below meth c H locs ls hC hr hlk hnm hK hG hS hR hl
  exact lv_iload hC.1 hC.2.1 hdg (lv_at hl q hq) (w _ _ _ _ _ _ _ _ _ _ _ hC hr hlk hnm hK hG hS hR hl)
theorem g_lload_n {n : Fin 4} {x : Int64} (q : Nat) (hdg : decode cc pc = .ok (.lload_n n, 1)) (hq : lv[q]? = some ((n : Nat), .long x)) (w : Go l b D z y cc nL ret rm F (pc + 1) lv (.long x :: st) h nx k j) : Go l b D z y cc nL ret rm F pc lv (st) h nx k j := by
  intro p e s m args below meth c H locs ls hC hr hlk hnm hK hG hS hR hl
  exact lv_lload_n hC.1 hC.2.1 hdg rfl (lv_at hl q hq) (w _ _ _ _ _ _ _ _ _ _ _ hC hr hlk hnm hK hG hS hR hl)
theorem g_lload {i : Nat} {x : Int64} (q : Nat) (hdg : decode cc pc = .ok (.lload i, 2)) (hq : lv[q]? = some (i, .long x)) (w : Go l b D z y cc nL ret rm F (pc + 2) lv (.long x :: st) h nx k j) : Go l b D z y cc nL ret rm F pc lv (st) h nx k j := by
  intro p e s m args below meth c H locs ls hC hr hlk hnm hK hG hS hR hl
  exact lv_lload hC.1 hC.2.1 hdg (lv_at hl q hq) (w _ _ _ _ _ _ _ _ _ _ _ hC hr hlk hnm hK hG hS hR hl)
theorem g_aload_n {n : Fin 4} {x : Nat} (q : Nat) (hdg : decode cc pc = .ok (.aload_n n, 1)) (hq : lv[q]? = some ((n : Nat), .ref x)) (w : Go l b D z y cc nL ret rm F (pc + 1) lv (.ref x :: st) h nx k j) : Go l b D z y cc nL ret rm F pc lv (st) h nx k j := by
  intro p e s m args below meth c H locs ls hC hr hlk hnm hK hG hS hR hl
  exact lv_aload_n hC.1 hC.2.1 hdg rfl (lv_at hl q hq) (w _ _ _ _ _ _ _ _ _ _ _ hC hr hlk hnm hK hG hS hR hl)
theorem g_aload {i : Nat} {x : Nat} (q : Nat) (hdg : decode cc pc = .ok (.aload i, 2)) (hq : lv[q]? = some (i, .ref x)) (w : Go l b D z y cc nL ret rm F (pc + 2) lv (.ref x :: st) h nx k j) : Go l b D z y cc nL ret rm F pc lv (st) h nx k j := by
  intro p e s m args below meth c H locs ls hC hr hlk hnm hK hG hS hR hl
  exact lv_aload hC.1 hC.2.1 hdg (lv_at hl q hq) (w _ _ _ _ _ _ _ _ _ _ _ hC hr hlk hnm hK hG hS hR hl)
theorem g_aload_nN {n : Fin 4} (q : Nat) (hdg : decode cc pc = .ok (.aload_n n, 1)) (hq : lv[q]? = some ((n : Nat), .null)) (w : Go l b D z y cc nL ret rm F (pc + 1) lv (.null :: st) h nx k j) : Go l b D z y cc nL ret rm F pc lv (st) h nx k j := by
  intro p e s m args below meth c H locs ls hC hr hlk hnm hK hG hS hR hl
  exact lv_aload_nN hC.1 hC.2.1 hdg rfl (lv_at hl q hq) (w _ _ _ _ _ _ _ _ _ _ _ hC hr hlk hnm hK hG hS hR hl)
theorem g_aloadN {i : Nat} (q : Nat) (hdg : decode cc pc = .ok (.aload i, 2)) (hq : lv[q]? = some (i, .null)) (w : Go l b D z y cc nL ret rm F (pc + 2) lv (.null :: st) h nx k j) : Go l b D z y cc nL ret rm F pc lv (st) h nx k j := by
  intro p e s m args below meth c H locs ls hC hr hlk hnm hK hG hS hR hl
  exact lv_aloadN hC.1 hC.2.1 hdg (lv_at hl q hq) (w _ _ _ _ _ _ _ _ _ _ _ hC hr hlk hnm hK hG hS hR hl)
theorem g_istore_n {n : Fin 4} {x : Int32} (lv' : List (Nat × Value)) (hdg : decode cc pc = .ok (.istore_n n, 1)) (hn : (n : Nat) < nL) (hl' : ((n : Nat), Value.int x) :: lv.filter (fun q => !(q.1 == (n : Nat)) && !(q.1 + 1 == (n : Nat) && q.2.category == 2)) = lv') (w : Go l b D z y cc nL ret rm F (pc + 1) lv' st h nx k j) : Go l b D z y cc nL ret rm F pc lv (.int x :: st) h nx k j := by
  intro p e s m args below meth c H locs ls hC hr hlk hnm hK hG hS hR hl
  exact lv_istore_n hC.1 hC.2.1 hdg rfl hl hn hl' (fun ls hl => w _ _ _ _ _ _ _ _ _ _ _ hC hr hlk hnm hK hG hS hR hl)
theorem g_lstore_n {n : Fin 4} {x : Int64} (lv' : List (Nat × Value)) (hdg : decode cc pc = .ok (.lstore_n n, 1)) (hn : (n : Nat) + 1 < nL) (hl' : ((n : Nat), Value.long x) :: lv.filter (fun q => !(q.1 == (n : Nat)) && (!(q.1 == (n : Nat) + 1) && !(q.1 + 1 == (n : Nat) && q.2.category == 2))) = lv') (w : Go l b D z y cc nL ret rm F (pc + 1) lv' st h nx k j) : Go l b D z y cc nL ret rm F pc lv (.long x :: st) h nx k j := by
  intro p e s m args below meth c H locs ls hC hr hlk hnm hK hG hS hR hl
  exact lv_lstore_n hC.1 hC.2.1 hdg rfl hl hn hl' (fun ls hl => w _ _ _ _ _ _ _ _ _ _ _ hC hr hlk hnm hK hG hS hR hl)
theorem g_astore_n {n : Fin 4} {x : Nat} (lv' : List (Nat × Value)) (hdg : decode cc pc = .ok (.astore_n n, 1)) (hn : (n : Nat) < nL) (hl' : ((n : Nat), Value.ref x) :: lv.filter (fun q => !(q.1 == (n : Nat)) && !(q.1 + 1 == (n : Nat) && q.2.category == 2)) = lv') (w : Go l b D z y cc nL ret rm F (pc + 1) lv' st h nx k j) : Go l b D z y cc nL ret rm F pc lv (.ref x :: st) h nx k j := by
  intro p e s m args below meth c H locs ls hC hr hlk hnm hK hG hS hR hl
  exact lv_astore_n hC.1 hC.2.1 hdg rfl hl hn hl' (fun ls hl => w _ _ _ _ _ _ _ _ _ _ _ hC hr hlk hnm hK hG hS hR hl)
theorem g_astore_nN {n : Fin 4}  (lv' : List (Nat × Value)) (hdg : decode cc pc = .ok (.astore_n n, 1)) (hn : (n : Nat) < nL) (hl' : ((n : Nat), Value.null) :: lv.filter (fun q => !(q.1 == (n : Nat)) && !(q.1 + 1 == (n : Nat) && q.2.category == 2)) = lv') (w : Go l b D z y cc nL ret rm F (pc + 1) lv' st h nx k j) : Go l b D z y cc nL ret rm F pc lv (.null :: st) h nx k j := by
  intro p e s m args below meth c H locs ls hC hr hlk hnm hK hG hS hR hl
  exact lv_astore_nN hC.1 hC.2.1 hdg rfl hl hn hl' (fun ls hl => w _ _ _ _ _ _ _ _ _ _ _ hC hr hlk hnm hK hG hS hR hl)
theorem g_istore {i : Nat} {x : Int32} (lv' : List (Nat × Value)) (hdg : decode cc pc = .ok (.istore i, 2)) (hn : i < nL) (hl' : (i, Value.int x) :: lv.filter (fun q => !(q.1 == i) && !(q.1 + 1 == i && q.2.category == 2)) = lv') (w : Go l b D z y cc nL ret rm F (pc + 2) lv' st h nx k j) : Go l b D z y cc nL ret rm F pc lv (.int x :: st) h nx k j := by
  intro p e s m args below meth c H locs ls hC hr hlk hnm hK hG hS hR hl
  exact lv_istore hC.1 hC.2.1 hdg hl hn hl' (fun ls hl => w _ _ _ _ _ _ _ _ _ _ _ hC hr hlk hnm hK hG hS hR hl)
theorem g_lstore {i : Nat} {x : Int64} (lv' : List (Nat × Value)) (hdg : decode cc pc = .ok (.lstore i, 2)) (hn : i + 1 < nL) (hl' : (i, Value.long x) :: lv.filter (fun q => !(q.1 == i) && (!(q.1 == i + 1) && !(q.1 + 1 == i && q.2.category == 2))) = lv') (w : Go l b D z y cc nL ret rm F (pc + 2) lv' st h nx k j) : Go l b D z y cc nL ret rm F pc lv (.long x :: st) h nx k j := by
  intro p e s m args below meth c H locs ls hC hr hlk hnm hK hG hS hR hl
  exact lv_lstore hC.1 hC.2.1 hdg hl hn hl' (fun ls hl => w _ _ _ _ _ _ _ _ _ _ _ hC hr hlk hnm hK hG hS hR hl)
theorem g_astore {i : Nat} {x : Nat} (lv' : List (Nat × Value)) (hdg : decode cc pc = .ok (.astore i, 2)) (hn : i < nL) (hl' : (i, Value.ref x) :: lv.filter (fun q => !(q.1 == i) && !(q.1 + 1 == i && q.2.category == 2)) = lv') (w : Go l b D z y cc nL ret rm F (pc + 2) lv' st h nx k j) : Go l b D z y cc nL ret rm F pc lv (.ref x :: st) h nx k j := by
  intro p e s m args below meth c H locs ls hC hr hlk hnm hK hG hS hR hl
  exact lv_astore hC.1 hC.2.1 hdg hl hn hl' (fun ls hl => w _ _ _ _ _ _ _ _ _ _ _ hC hr hlk hnm hK hG hS hR hl)
theorem g_astoreN {i : Nat}  (lv' : List (Nat × Value)) (hdg : decode cc pc = .ok (.astore i, 2)) (hn : i < nL) (hl' : (i, Value.null) :: lv.filter (fun q => !(q.1 == i) && !(q.1 + 1 == i && q.2.category == 2)) = lv') (w : Go l b D z y cc nL ret rm F (pc + 2) lv' st h nx k j) : Go l b D z y cc nL ret rm F pc lv (.null :: st) h nx k j := by
  intro p e s m args below meth c H locs ls hC hr hlk hnm hK hG hS hR hl
  exact lv_astoreN hC.1 hC.2.1 hdg hl hn hl' (fun ls hl => w _ _ _ _ _ _ _ _ _ _ _ hC hr hlk hnm hK hG hS hR hl)
theorem g_iinc {i : Nat} {n : Int} {x v : Int32} (lv' : List (Nat × Value)) (q : Nat) (hdg : decode cc pc = .ok (.iinc i n, 3)) (hq : lv[q]? = some (i, .int x)) (hv : x + Int32.ofInt n = v) (hn : i < nL) (hl' : (i, Value.int v) :: lv.filter (fun q => !(q.1 == i) && !(q.1 + 1 == i && q.2.category == 2)) = lv') (w : Go l b D z y cc nL ret rm F (pc + 3) lv' st h nx k j) : Go l b D z y cc nL ret rm F pc lv st h nx k j := by
  intro p e s m args below meth c H locs ls hC hr hlk hnm hK hG hS hR hl
  exact lv_iinc hC.1 hC.2.1 hdg hl hq hv hn hl' (fun ls hl => w _ _ _ _ _ _ _ _ _ _ _ hC hr hlk hnm hK hG hS hR hl)
theorem g_iadd {x1 x2 : Int32} (hdg : decode cc pc = .ok (.iadd, 1))  (w : Go l b D z y cc nL ret rm F (pc + 1) lv (.int (x1 + x2) :: st) h nx k j) : Go l b D z y cc nL ret rm F pc lv (.int x2 :: .int x1 :: st) h nx k j := by
  intro p e s m args below meth c H locs ls hC hr hlk hnm hK hG hS hR hl
  exact lv_iadd hC.1 hC.2.1 hdg (w _ _ _ _ _ _ _ _ _ _ _ hC hr hlk hnm hK hG hS hR hl)
theorem g_isub {x1 x2 : Int32} (hdg : decode cc pc = .ok (.isub, 1))  (w : Go l b D z y cc nL ret rm F (pc + 1) lv (.int (x1 - x2) :: st) h nx k j) : Go l b D z y cc nL ret rm F pc lv (.int x2 :: .int x1 :: st) h nx k j := by
  intro p e s m args below meth c H locs ls hC hr hlk hnm hK hG hS hR hl
  exact lv_isub hC.1 hC.2.1 hdg (w _ _ _ _ _ _ _ _ _ _ _ hC hr hlk hnm hK hG hS hR hl)
theorem g_imul {x1 x2 : Int32} (hdg : decode cc pc = .ok (.imul, 1))  (w : Go l b D z y cc nL ret rm F (pc + 1) lv (.int (x1 * x2) :: st) h nx k j) : Go l b D z y cc nL ret rm F pc lv (.int x2 :: .int x1 :: st) h nx k j := by
  intro p e s m args below meth c H locs ls hC hr hlk hnm hK hG hS hR hl
  exact lv_imul hC.1 hC.2.1 hdg (w _ _ _ _ _ _ _ _ _ _ _ hC hr hlk hnm hK hG hS hR hl)
theorem g_iand {x1 x2 : Int32} (hdg : decode cc pc = .ok (.iand, 1))  (w : Go l b D z y cc nL ret rm F (pc + 1) lv (.int (x1 &&& x2) :: st) h nx k j) : Go l b D z y cc nL ret rm F pc lv (.int x2 :: .int x1 :: st) h nx k j := by
  intro p e s m args below meth c H locs ls hC hr hlk hnm hK hG hS hR hl
  exact lv_iand hC.1 hC.2.1 hdg (w _ _ _ _ _ _ _ _ _ _ _ hC hr hlk hnm hK hG hS hR hl)
theorem g_ior {x1 x2 : Int32} (hdg : decode cc pc = .ok (.ior, 1))  (w : Go l b D z y cc nL ret rm F (pc + 1) lv (.int (x1 ||| x2) :: st) h nx k j) : Go l b D z y cc nL ret rm F pc lv (.int x2 :: .int x1 :: st) h nx k j := by
  intro p e s m args below meth c H locs ls hC hr hlk hnm hK hG hS hR hl
  exact lv_ior hC.1 hC.2.1 hdg (w _ _ _ _ _ _ _ _ _ _ _ hC hr hlk hnm hK hG hS hR hl)
theorem g_ixor {x1 x2 : Int32} (hdg : decode cc pc = .ok (.ixor, 1))  (w : Go l b D z y cc nL ret rm F (pc + 1) lv (.int (x1 ^^^ x2) :: st) h nx k j) : Go l b D z y cc nL ret rm F pc lv (.int x2 :: .int x1 :: st) h nx k j := by
  intro p e s m args below meth c H locs ls hC hr hlk hnm hK hG hS hR hl
  exact lv_ixor hC.1 hC.2.1 hdg (w _ _ _ _ _ _ _ _ _ _ _ hC hr hlk hnm hK hG hS hR hl)
theorem g_ishl {x1 x2 : Int32} (hdg : decode cc pc = .ok (.ishl, 1))  (w : Go l b D z y cc nL ret rm F (pc + 1) lv (.int (q_shl x1 x2) :: st) h nx k j) : Go l b D z y cc nL ret rm F pc lv (.int x2 :: .int x1 :: st) h nx k j := by
  intro p e s m args below meth c H locs ls hC hr hlk hnm hK hG hS hR hl
  exact lv_ishl hC.1 hC.2.1 hdg (w _ _ _ _ _ _ _ _ _ _ _ hC hr hlk hnm hK hG hS hR hl)
theorem g_ishr {x1 x2 : Int32} (hdg : decode cc pc = .ok (.ishr, 1))  (w : Go l b D z y cc nL ret rm F (pc + 1) lv (.int (q_shr x1 x2) :: st) h nx k j) : Go l b D z y cc nL ret rm F pc lv (.int x2 :: .int x1 :: st) h nx k j := by
  intro p e s m args below meth c H locs ls hC hr hlk hnm hK hG hS hR hl
  exact lv_ishr hC.1 hC.2.1 hdg (w _ _ _ _ _ _ _ _ _ _ _ hC hr hlk hnm hK hG hS hR hl)
theorem g_idiv {x1 x2 : Int32} (hdg : decode cc pc = .ok (.idiv, 1)) (hne : ¬ x2 = 0) (w : Go l b D z y cc nL ret rm F (pc + 1) lv (.int (x1 / x2) :: st) h nx k j) : Go l b D z y cc nL ret rm F pc lv (.int x2 :: .int x1 :: st) h nx k j := by
  intro p e s m args below meth c H locs ls hC hr hlk hnm hK hG hS hR hl
  exact lv_idiv hC.1 hC.2.1 hdg hne (w _ _ _ _ _ _ _ _ _ _ _ hC hr hlk hnm hK hG hS hR hl)
theorem g_irem {x1 x2 : Int32} (hdg : decode cc pc = .ok (.irem, 1)) (hne : ¬ x2 = 0) (w : Go l b D z y cc nL ret rm F (pc + 1) lv (.int (q_rem x1 x2) :: st) h nx k j) : Go l b D z y cc nL ret rm F pc lv (.int x2 :: .int x1 :: st) h nx k j := by
  intro p e s m args below meth c H locs ls hC hr hlk hnm hK hG hS hR hl
  exact lv_irem hC.1 hC.2.1 hdg hne (w _ _ _ _ _ _ _ _ _ _ _ hC hr hlk hnm hK hG hS hR hl)
theorem g_iushr {x1 x2 : Int32} (hdg : decode cc pc = .ok (.iushr, 1))  (w : Go l b D z y cc nL ret rm F (pc + 1) lv (.int (q_ushr x1 x2) :: st) h nx k j) : Go l b D z y cc nL ret rm F pc lv (.int x2 :: .int x1 :: st) h nx k j := by
  intro p e s m args below meth c H locs ls hC hr hlk hnm hK hG hS hR hl
  exact lv_iushr hC.1 hC.2.1 hdg rfl (w _ _ _ _ _ _ _ _ _ _ _ hC hr hlk hnm hK hG hS hR hl)
theorem g_ladd {x1 x2 : Int64} (hdg : decode cc pc = .ok (.ladd, 1))  (w : Go l b D z y cc nL ret rm F (pc + 1) lv (.long (x1 + x2) :: st) h nx k j) : Go l b D z y cc nL ret rm F pc lv (.long x2 :: .long x1 :: st) h nx k j := by
  intro p e s m args below meth c H locs ls hC hr hlk hnm hK hG hS hR hl
  exact lv_ladd hC.1 hC.2.1 hdg (w _ _ _ _ _ _ _ _ _ _ _ hC hr hlk hnm hK hG hS hR hl)
theorem g_lsub {x1 x2 : Int64} (hdg : decode cc pc = .ok (.lsub, 1))  (w : Go l b D z y cc nL ret rm F (pc + 1) lv (.long (x1 - x2) :: st) h nx k j) : Go l b D z y cc nL ret rm F pc lv (.long x2 :: .long x1 :: st) h nx k j := by
  intro p e s m args below meth c H locs ls hC hr hlk hnm hK hG hS hR hl
  exact lv_lsub hC.1 hC.2.1 hdg (w _ _ _ _ _ _ _ _ _ _ _ hC hr hlk hnm hK hG hS hR hl)
theorem g_lmul {x1 x2 : Int64} (hdg : decode cc pc = .ok (.lmul, 1))  (w : Go l b D z y cc nL ret rm F (pc + 1) lv (.long (x1 * x2) :: st) h nx k j) : Go l b D z y cc nL ret rm F pc lv (.long x2 :: .long x1 :: st) h nx k j := by
  intro p e s m args below meth c H locs ls hC hr hlk hnm hK hG hS hR hl
  exact lv_lmul hC.1 hC.2.1 hdg (w _ _ _ _ _ _ _ _ _ _ _ hC hr hlk hnm hK hG hS hR hl)
theorem g_land {x1 x2 : Int64} (hdg : decode cc pc = .ok (.land, 1))  (w : Go l b D z y cc nL ret rm F (pc + 1) lv (.long (x1 &&& x2) :: st) h nx k j) : Go l b D z y cc nL ret rm F pc lv (.long x2 :: .long x1 :: st) h nx k j := by
  intro p e s m args below meth c H locs ls hC hr hlk hnm hK hG hS hR hl
  exact lv_land hC.1 hC.2.1 hdg (w _ _ _ _ _ _ _ _ _ _ _ hC hr hlk hnm hK hG hS hR hl)
theorem g_lor {x1 x2 : Int64} (hdg : decode cc pc = .ok (.lor, 1))  (w : Go l b D z y cc nL ret rm F (pc + 1) lv (.long (x1 ||| x2) :: st) h nx k j) : Go l b D z y cc nL ret rm F pc lv (.long x2 :: .long x1 :: st) h nx k j := by
  intro p e s m args below meth c H locs ls hC hr hlk hnm hK hG hS hR hl
  exact lv_lor hC.1 hC.2.1 hdg (w _ _ _ _ _ _ _ _ _ _ _ hC hr hlk hnm hK hG hS hR hl)
theorem g_ldiv {x1 x2 : Int64} (hdg : decode cc pc = .ok (.ldiv, 1)) (hne : ¬ x2 = 0) (w : Go l b D z y cc nL ret rm F (pc + 1) lv (.long (x1 / x2) :: st) h nx k j) : Go l b D z y cc nL ret rm F pc lv (.long x2 :: .long x1 :: st) h nx k j := by
  intro p e s m args below meth c H locs ls hC hr hlk hnm hK hG hS hR hl
  exact lv_ldiv hC.1 hC.2.1 hdg hne (w _ _ _ _ _ _ _ _ _ _ _ hC hr hlk hnm hK hG hS hR hl)
theorem g_lrem {x1 x2 : Int64} (hdg : decode cc pc = .ok (.lrem, 1)) (hne : ¬ x2 = 0) (w : Go l b D z y cc nL ret rm F (pc + 1) lv (.long (q_lrem x1 x2) :: st) h nx k j) : Go l b D z y cc nL ret rm F pc lv (.long x2 :: .long x1 :: st) h nx k j := by
  intro p e s m args below meth c H locs ls hC hr hlk hnm hK hG hS hR hl
  exact lv_lrem hC.1 hC.2.1 hdg hne (w _ _ _ _ _ _ _ _ _ _ _ hC hr hlk hnm hK hG hS hR hl)
theorem g_lshl {x1 : Int64} {x2 : Int32} (hdg : decode cc pc = .ok (.lshl, 1))  (w : Go l b D z y cc nL ret rm F (pc + 1) lv (.long (q_lshl x1 x2) :: st) h nx k j) : Go l b D z y cc nL ret rm F pc lv (.int x2 :: .long x1 :: st) h nx k j := by
  intro p e s m args below meth c H locs ls hC hr hlk hnm hK hG hS hR hl
  exact lv_lshl hC.1 hC.2.1 hdg rfl (w _ _ _ _ _ _ _ _ _ _ _ hC hr hlk hnm hK hG hS hR hl)
theorem g_i2l {x1 : Int32} (hdg : decode cc pc = .ok (.i2l, 1))  (w : Go l b D z y cc nL ret rm F (pc + 1) lv (.long x1.toInt64 :: st) h nx k j) : Go l b D z y cc nL ret rm F pc lv (.int x1 :: st) h nx k j := by
  intro p e s m args below meth c H locs ls hC hr hlk hnm hK hG hS hR hl
  exact lv_i2l hC.1 hC.2.1 hdg rfl (w _ _ _ _ _ _ _ _ _ _ _ hC hr hlk hnm hK hG hS hR hl)
theorem g_l2i {x1 : Int64} (hdg : decode cc pc = .ok (.l2i, 1))  (w : Go l b D z y cc nL ret rm F (pc + 1) lv (.int x1.toInt32 :: st) h nx k j) : Go l b D z y cc nL ret rm F pc lv (.long x1 :: st) h nx k j := by
  intro p e s m args below meth c H locs ls hC hr hlk hnm hK hG hS hR hl
  exact lv_l2i hC.1 hC.2.1 hdg rfl (w _ _ _ _ _ _ _ _ _ _ _ hC hr hlk hnm hK hG hS hR hl)
theorem g_i2b {x1 : Int32} (hdg : decode cc pc = .ok (.i2b, 1))  (w : Go l b D z y cc nL ret rm F (pc + 1) lv (.int (q_i2b x1) :: st) h nx k j) : Go l b D z y cc nL ret rm F pc lv (.int x1 :: st) h nx k j := by
  intro p e s m args below meth c H locs ls hC hr hlk hnm hK hG hS hR hl
  exact lv_i2b hC.1 hC.2.1 hdg rfl (w _ _ _ _ _ _ _ _ _ _ _ hC hr hlk hnm hK hG hS hR hl)
theorem g_i2c {x1 : Int32} (hdg : decode cc pc = .ok (.i2c, 1))  (w : Go l b D z y cc nL ret rm F (pc + 1) lv (.int (q_i2c x1) :: st) h nx k j) : Go l b D z y cc nL ret rm F pc lv (.int x1 :: st) h nx k j := by
  intro p e s m args below meth c H locs ls hC hr hlk hnm hK hG hS hR hl
  exact lv_i2c hC.1 hC.2.1 hdg rfl (w _ _ _ _ _ _ _ _ _ _ _ hC hr hlk hnm hK hG hS hR hl)
theorem g_lcmp {x1 x2 : Int64} (hdg : decode cc pc = .ok (.lcmp, 1))  (w : Go l b D z y cc nL ret rm F (pc + 1) lv (.int (lg_cmp x1 x2) :: st) h nx k j) : Go l b D z y cc nL ret rm F pc lv (.long x2 :: .long x1 :: st) h nx k j := by
  intro p e s m args below meth c H locs ls hC hr hlk hnm hK hG hS hR hl
  exact W.lcmp hC.1 hC.2.1 hdg (w _ _ _ _ _ _ _ _ _ _ _ hC hr hlk hnm hK hG hS hR hl)
theorem g_dup {v : Value} (hdg : decode cc pc = .ok (.dup, 1)) (hv : v.category = 1) (w : Go l b D z y cc nL ret rm F (pc + 1) lv (v :: v :: st) h nx k j) : Go l b D z y cc nL ret rm F pc lv (v :: st) h nx k j := by
  intro p e s m args below meth c H locs ls hC hr hlk hnm hK hG hS hR hl
  exact lv_dup hC.1 hC.2.1 hdg hv (w _ _ _ _ _ _ _ _ _ _ _ hC hr hlk hnm hK hG hS hR hl)
theorem g_pop {v : Value} (hdg : decode cc pc = .ok (.pop, 1)) (hv : v.category = 1) (w : Go l b D z y cc nL ret rm F (pc + 1) lv (st) h nx k j) : Go l b D z y cc nL ret rm F pc lv (v :: st) h nx k j := by
  intro p e s m args below meth c H locs ls hC hr hlk hnm hK hG hS hR hl
  exact lv_pop hC.1 hC.2.1 hdg hv (w _ _ _ _ _ _ _ _ _ _ _ hC hr hlk hnm hK hG hS hR hl)
theorem g_dup2 {v1 v2 : Value} (hdg : decode cc pc = .ok (.dup2, 1)) (hv : v1.category = 1) (hw : v2.category = 1) (w : Go l b D z y cc nL ret rm F (pc + 1) lv (v1 :: v2 :: v1 :: v2 :: st) h nx k j) : Go l b D z y cc nL ret rm F pc lv (v1 :: v2 :: st) h nx k j := by
  intro p e s m args below meth c H locs ls hC hr hlk hnm hK hG hS hR hl
  exact lv_dup2_11 hC.1 hC.2.1 hdg hv hw (w _ _ _ _ _ _ _ _ _ _ _ hC hr hlk hnm hK hG hS hR hl)
-- branches
theorem g_if_eq {x1 : Int32} {off : Int} (tgt : Nat) (hdg : decode cc pc = .ok (.ifCond .eq off, 3)) (ht : (pc : Int) + off = (tgt : Int)) (wt : x1 = 0 → Go l b D z y cc nL ret rm F tgt lv st h nx k j) (wf : ¬ x1 = 0 → Go l b D z y cc nL ret rm F (pc + 3) lv st h nx k j) : Go l b D z y cc nL ret rm F pc lv (.int x1 :: st) h nx k j := by
  intro p e s m args below meth c H locs ls hC hr hlk hnm hK hG hS hR hl
  exact lv_if_eq hC.1 hC.2.1 hdg ht (fun q => wt q _ _ _ _ _ _ _ _ _ _ _ hC hr hlk hnm hK hG hS hR hl) (fun q => wf q _ _ _ _ _ _ _ _ _ _ _ hC hr hlk hnm hK hG hS hR hl)
theorem g_icmp_eq {x1 x2 : Int32} {off : Int} (tgt : Nat) (hdg : decode cc pc = .ok (.if_icmp .eq off, 3)) (ht : (pc : Int) + off = (tgt : Int)) (wt : x1 = x2 → Go l b D z y cc nL ret rm F tgt lv st h nx k j) (wf : ¬ x1 = x2 → Go l b D z y cc nL ret rm F (pc + 3) lv st h nx k j) : Go l b D z y cc nL ret rm F pc lv (.int x2 :: .int x1 :: st) h nx k j := by
  intro p e s m args below meth c H locs ls hC hr hlk hnm hK hG hS hR hl
  exact lv_icmp_eq hC.1 hC.2.1 hdg ht (fun q => wt q _ _ _ _ _ _ _ _ _ _ _ hC hr hlk hnm hK hG hS hR hl) (fun q => wf q _ _ _ _ _ _ _ _ _ _ _ hC hr hlk hnm hK hG hS hR hl)
theorem g_if_ne {x1 : Int32} {off : Int} (tgt : Nat) (hdg : decode cc pc = .ok (.ifCond .ne off, 3)) (ht : (pc : Int) + off = (tgt : Int)) (wt : ¬ x1 = 0 → Go l b D z y cc nL ret rm F tgt lv st h nx k j) (wf : x1 = 0 → Go l b D z y cc nL ret rm F (pc + 3) lv st h nx k j) : Go l b D z y cc nL ret rm F pc lv (.int x1 :: st) h nx k j := by
  intro p e s m args below meth c H locs ls hC hr hlk hnm hK hG hS hR hl
  exact lv_if_ne hC.1 hC.2.1 hdg ht (fun q => wt q _ _ _ _ _ _ _ _ _ _ _ hC hr hlk hnm hK hG hS hR hl) (fun q => wf q _ _ _ _ _ _ _ _ _ _ _ hC hr hlk hnm hK hG hS hR hl)
theorem g_icmp_ne {x1 x2 : Int32} {off : Int} (tgt : Nat) (hdg : decode cc pc = .ok (.if_icmp .ne off, 3)) (ht : (pc : Int) + off = (tgt : Int)) (wt : ¬ x1 = x2 → Go l b D z y cc nL ret rm F tgt lv st h nx k j) (wf : x1 = x2 → Go l b D z y cc nL ret rm F (pc + 3) lv st h nx k j) : Go l b D z y cc nL ret rm F pc lv (.int x2 :: .int x1 :: st) h nx k j := by
  intro p e s m args below meth c H locs ls hC hr hlk hnm hK hG hS hR hl
  exact lv_icmp_ne hC.1 hC.2.1 hdg ht (fun q => wt q _ _ _ _ _ _ _ _ _ _ _ hC hr hlk hnm hK hG hS hR hl) (fun q => wf q _ _ _ _ _ _ _ _ _ _ _ hC hr hlk hnm hK hG hS hR hl)
theorem g_if_lt {x1 : Int32} {off : Int} (tgt : Nat) (hdg : decode cc pc = .ok (.ifCond .lt off, 3)) (ht : (pc : Int) + off = (tgt : Int)) (wt : x1 < 0 → Go l b D z y cc nL ret rm F tgt lv st h nx k j) (wf : ¬ x1 < 0 → Go l b D z y cc nL ret rm F (pc + 3) lv st h nx k j) : Go l b D z y cc nL ret rm F pc lv (.int x1 :: st) h nx k j := by
  intro p e s m args below meth c H locs ls hC hr hlk hnm hK hG hS hR hl
  exact lv_if_lt hC.1 hC.2.1 hdg ht (fun q => wt q _ _ _ _ _ _ _ _ _ _ _ hC hr hlk hnm hK hG hS hR hl) (fun q => wf q _ _ _ _ _ _ _ _ _ _ _ hC hr hlk hnm hK hG hS hR hl)
theorem g_icmp_lt {x1 x2 : Int32} {off : Int} (tgt : Nat) (hdg : decode cc pc = .ok (.if_icmp .lt off, 3)) (ht : (pc : Int) + off = (tgt : Int)) (wt : x1 < x2 → Go l b D z y cc nL ret rm F tgt lv st h nx k j) (wf : ¬ x1 < x2 → Go l b D z y cc nL ret rm F (pc + 3) lv st h nx k j) : Go l b D z y cc nL ret rm F pc lv (.int x2 :: .int x1 :: st) h nx k j := by
  intro p e s m args below meth c H locs ls hC hr hlk hnm hK hG hS hR hl
  exact lv_icmp_lt hC.1 hC.2.1 hdg ht (fun q => wt q _ _ _ _ _ _ _ _ _ _ _ hC hr hlk hnm hK hG hS hR hl) (fun q => wf q _ _ _ _ _ _ _ _ _ _ _ hC hr hlk hnm hK hG hS hR hl)
theorem g_if_ge {x1 : Int32} {off : Int} (tgt : Nat) (hdg : decode cc pc = .ok (.ifCond .ge off, 3)) (ht : (pc : Int) + off = (tgt : Int)) (wt : 0 ≤ x1 → Go l b D z y cc nL ret rm F tgt lv st h nx k j) (wf : ¬ 0 ≤ x1 → Go l b D z y cc nL ret rm F (pc + 3) lv st h nx k j) : Go l b D z y cc nL ret rm F pc lv (.int x1 :: st) h nx k j := by
  intro p e s m args below meth c H locs ls hC hr hlk hnm hK hG hS hR hl
  exact lv_if_ge hC.1 hC.2.1 hdg ht (fun q => wt q _ _ _ _ _ _ _ _ _ _ _ hC hr hlk hnm hK hG hS hR hl) (fun q => wf q _ _ _ _ _ _ _ _ _ _ _ hC hr hlk hnm hK hG hS hR hl)
theorem g_icmp_ge {x1 x2 : Int32} {off : Int} (tgt : Nat) (hdg : decode cc pc = .ok (.if_icmp .ge off, 3)) (ht : (pc : Int) + off = (tgt : Int)) (wt : x2 ≤ x1 → Go l b D z y cc nL ret rm F tgt lv st h nx k j) (wf : ¬ x2 ≤ x1 → Go l b D z y cc nL ret rm F (pc + 3) lv st h nx k j) : Go l b D z y cc nL ret rm F pc lv (.int x2 :: .int x1 :: st) h nx k j := by
  intro p e s m args below meth c H locs ls hC hr hlk hnm hK hG hS hR hl
  exact lv_icmp_ge hC.1 hC.2.1 hdg ht (fun q => wt q _ _ _ _ _ _ _ _ _ _ _ hC hr hlk hnm hK hG hS hR hl) (fun q => wf q _ _ _ _ _ _ _ _ _ _ _ hC hr hlk hnm hK hG hS hR hl)
theorem g_if_gt {x1 : Int32} {off : Int} (tgt : Nat) (hdg : decode cc pc = .ok (.ifCond .gt off, 3)) (ht : (pc : Int) + off = (tgt : Int)) (wt : 0 < x1 → Go l b D z y cc nL ret rm F tgt lv st h nx k j) (wf : ¬ 0 < x1 → Go l b D z y cc nL ret rm F (pc + 3) lv st h nx k j) : Go l b D z y cc nL ret rm F pc lv (.int x1 :: st) h nx k j := by
  intro p e s m args below meth c H locs ls hC hr hlk hnm hK hG hS hR hl
  exact lv_if_gt hC.1 hC.2.1 hdg ht (fun q => wt q _ _ _ _ _ _ _ _ _ _ _ hC hr hlk hnm hK hG hS hR hl) (fun q => wf q _ _ _ _ _ _ _ _ _ _ _ hC hr hlk hnm hK hG hS hR hl)
theorem g_icmp_gt {x1 x2 : Int32} {off : Int} (tgt : Nat) (hdg : decode cc pc = .ok (.if_icmp .gt off, 3)) (ht : (pc : Int) + off = (tgt : Int)) (wt : x2 < x1 → Go l b D z y cc nL ret rm F tgt lv st h nx k j) (wf : ¬ x2 < x1 → Go l b D z y cc nL ret rm F (pc + 3) lv st h nx k j) : Go l b D z y cc nL ret rm F pc lv (.int x2 :: .int x1 :: st) h nx k j := by
  intro p e s m args below meth c H locs ls hC hr hlk hnm hK hG hS hR hl
  exact lv_icmp_gt hC.1 hC.2.1 hdg ht (fun q => wt q _ _ _ _ _ _ _ _ _ _ _ hC hr hlk hnm hK hG hS hR hl) (fun q => wf q _ _ _ _ _ _ _ _ _ _ _ hC hr hlk hnm hK hG hS hR hl)
theorem g_if_le {x1 : Int32} {off : Int} (tgt : Nat) (hdg : decode cc pc = .ok (.ifCond .le off, 3)) (ht : (pc : Int) + off = (tgt : Int)) (wt : x1 ≤ 0 → Go l b D z y cc nL ret rm F tgt lv st h nx k j) (wf : ¬ x1 ≤ 0 → Go l b D z y cc nL ret rm F (pc + 3) lv st h nx k j) : Go l b D z y cc nL ret rm F pc lv (.int x1 :: st) h nx k j := by
  intro p e s m args below meth c H locs ls hC hr hlk hnm hK hG hS hR hl
  exact lv_if_le hC.1 hC.2.1 hdg ht (fun q => wt q _ _ _ _ _ _ _ _ _ _ _ hC hr hlk hnm hK hG hS hR hl) (fun q => wf q _ _ _ _ _ _ _ _ _ _ _ hC hr hlk hnm hK hG hS hR hl)
theorem g_icmp_le {x1 x2 : Int32} {off : Int} (tgt : Nat) (hdg : decode cc pc = .ok (.if_icmp .le off, 3)) (ht : (pc : Int) + off = (tgt : Int)) (wt : x1 ≤ x2 → Go l b D z y cc nL ret rm F tgt lv st h nx k j) (wf : ¬ x1 ≤ x2 → Go l b D z y cc nL ret rm F (pc + 3) lv st h nx k j) : Go l b D z y cc nL ret rm F pc lv (.int x2 :: .int x1 :: st) h nx k j := by
  intro p e s m args below meth c H locs ls hC hr hlk hnm hK hG hS hR hl
  exact lv_icmp_le hC.1 hC.2.1 hdg ht (fun q => wt q _ _ _ _ _ _ _ _ _ _ _ hC hr hlk hnm hK hG hS hR hl) (fun q => wf q _ _ _ _ _ _ _ _ _ _ _ hC hr hlk hnm hK hG hS hR hl)
theorem g_goto {off : Int} (tgt : Nat) (hdg : decode cc pc = .ok (.goto off, 3)) (ht : (pc : Int) + off = (tgt : Int)) (w : Go l b D z y cc nL ret rm F tgt lv st h nx k j) : Go l b D z y cc nL ret rm F pc lv st h nx k j := by
  intro p e s m args below meth c H locs ls hC hr hlk hnm hK hG hS hR hl
  exact lv_goto hC.1 hC.2.1 hdg ht (w _ _ _ _ _ _ _ _ _ _ _ hC hr hlk hnm hK hG hS hR hl)
theorem g_ifnullR {x : Nat} {off : Int} (hdg : decode cc pc = .ok (.ifnull off, 3)) (w : Go l b D z y cc nL ret rm F (pc + 3) lv st h nx k j) : Go l b D z y cc nL ret rm F pc lv (.ref x :: st) h nx k j := by
  intro p e s m args below meth c H locs ls hC hr hlk hnm hK hG hS hR hl
  exact lv_ifnull hC.1 hC.2.1 hdg (w _ _ _ _ _ _ _ _ _ _ _ hC hr hlk hnm hK hG hS hR hl)
theorem g_ifnullN {off : Int} (tgt : Nat) (hdg : decode cc pc = .ok (.ifnull off, 3)) (ht : (pc : Int) + off = (tgt : Int)) (w : Go l b D z y cc nL ret rm F tgt lv st h nx k j) : Go l b D z y cc nL ret rm F pc lv (.null :: st) h nx k j := by
  intro p e s m args below meth c H locs ls hC hr hlk hnm hK hG hS hR hl
  exact lv_ifnullN hC.1 hC.2.1 hdg ht (w _ _ _ _ _ _ _ _ _ _ _ hC hr hlk hnm hK hG hS hR hl)
theorem g_ifnonnullR {x : Nat} {off : Int} (tgt : Nat) (hdg : decode cc pc = .ok (.ifnonnull off, 3)) (ht : (pc : Int) + off = (tgt : Int)) (w : Go l b D z y cc nL ret rm F tgt lv st h nx k j) : Go l b D z y cc nL ret rm F pc lv (.ref x :: st) h nx k j := by
  intro p e s m args below meth c H locs ls hC hr hlk hnm hK hG hS hR hl
  exact lv_ifnonnull hC.1 hC.2.1 hdg ht (w _ _ _ _ _ _ _ _ _ _ _ hC hr hlk hnm hK hG hS hR hl)
theorem g_ifnonnullN {off : Int} (hdg : decode cc pc = .ok (.ifnonnull off, 3)) (w : Go l b D z y cc nL ret rm F (pc + 3) lv st h nx k j) : Go l b D z y cc nL ret rm F pc lv (.null :: st) h nx k j := by
  intro p e s m args below meth c H locs ls hC hr hlk hnm hK hG hS hR hl
  exact lv_ifnonnullN hC.1 hC.2.1 hdg (w _ _ _ _ _ _ _ _ _ _ _ hC hr hlk hnm hK hG hS hR hl)
theorem g_tabOut {dflt lo hi : Int} {offs : Array Int} {len : Nat} {x : Int32} (tgt : Nat) (hdg : decode cc pc = .ok (.tableswitch dflt lo hi offs, len)) (hx : x.toInt < lo ∨ hi < x.toInt) (ht : (pc : Int) + dflt = (tgt : Int)) (w : Go l b D z y cc nL ret rm F tgt lv st h nx k j) : Go l b D z y cc nL ret rm F pc lv (.int x :: st) h nx k j := by
  intro p e s m args below meth c H locs ls hC hr hlk hnm hK hG hS hR hl
  exact lv_tableOut hC.1 hC.2.1 hdg hx ht (w _ _ _ _ _ _ _ _ _ _ _ hC hr hlk hnm hK hG hS hR hl)
theorem g_tabIn {dflt lo hi : Int} {offs : Array Int} {len : Nat} {x : Int32} {off : Int} (tgt : Nat) (hdg : decode cc pc = .ok (.tableswitch dflt lo hi offs, len)) (h1 : ¬ x.toInt < lo) (h2 : ¬ hi < x.toInt) (ho : offs[(x.toInt - lo).toNat]? = some off) (ht : (pc : Int) + off = (tgt : Int)) (w : Go l b D z y cc nL ret rm F tgt lv st h nx k j) : Go l b D z y cc nL ret rm F pc lv (.int x :: st) h nx k j := by
  intro p e s m args below meth c H locs ls hC hr hlk hnm hK hG hS hR hl
  exact lv_tableIn hC.1 hC.2.1 hdg h1 h2 ho ht (w _ _ _ _ _ _ _ _ _ _ _ hC hr hlk hnm hK hG hS hR hl)
theorem g_sub {lv0 : List (Nat × Value)} (ks : List Nat) (hp : lv_pick lv0 ks = lv) (w : Go l b D z y cc nL ret rm F pc lv st h nx k j) : Go l b D z y cc nL ret rm F pc lv0 st h nx k j := by
  intro p e s m args below meth c H locs ls hC hr hlk hnm hK hG hS hR hl
  exact w _ _ _ _ _ _ _ _ _ _ _ hC hr hlk hnm hK hG hS hR (lv_sub hl ks hp)
theorem g_iret {v : Int32} (hdg : decode cc pc = .ok (.ireturn, 1)) (hret : some .int = ret) (hF : F (some (.int v)) h nx) (hk : k ≤ rm.cells) (hj : j ≤ rm.slots) : Go l b D z y cc nL ret rm F pc lv [.int v] h nx k j := by
  intro p e s m args below meth c H locs ls hC hr hlk hnm hK hG hS hR hl
  subst hret
  refine W.widen hk hj ?_
  exact W.iret hC.1 hC.2.1 hr (fun t ht hW => ⟨⟨_, h, nx, rfl, hF, by rw [ht]; exact hR.moved hW.alike⟩, hS.F ht⟩) hS.2.2 hdg hlk
theorem g_zret {v : Int32} {ty : FieldType} (hdg : decode cc pc = .ok (.ireturn, 1)) (hret : some ty = ret) (hn : narrow ty (.int v) = .int v) (hF : F (some (.int v)) h nx) (hk : k ≤ rm.cells) (hj : j ≤ rm.slots) : Go l b D z y cc nL ret rm F pc lv [.int v] h nx k j := by
  intro p e s m args below meth c H locs ls hC hr hlk hnm hK hG hS hR hl
  subst hret
  refine W.widen hk hj ?_
  exact W.zret hC.1 hC.2.1 hr hn (fun t ht hW => ⟨⟨_, h, nx, rfl, hF, by rw [ht]; exact hR.moved hW.alike⟩, hS.F ht⟩) hS.2.2 hdg hlk
theorem g_lret {v : Int64} (hdg : decode cc pc = .ok (.lreturn, 1)) (hret : some .long = ret) (hF : F (some (.long v)) h nx) (hk : k ≤ rm.cells) (hj : j ≤ rm.slots) : Go l b D z y cc nL ret rm F pc lv [.long v] h nx k j := by
  intro p e s m args below meth c H locs ls hC hr hlk hnm hK hG hS hR hl
  subst hret
  refine W.widen hk hj ?_
  exact W.lret hC.1 hC.2.1 hr (fun t ht hW => ⟨⟨_, h, nx, rfl, hF, by rw [ht]; exact hR.moved hW.alike⟩, hS.F ht⟩) hS.2.2 hdg hlk
theorem g_vret (hdg : decode cc pc = .ok (.return_, 1)) (hret : none = ret) (hF : F (none) h nx) (hk : k ≤ rm.cells) (hj : j ≤ rm.slots) : Go l b D z y cc nL ret rm F pc lv [] h nx k j := by
  intro p e s m args below meth c H locs ls hC hr hlk hnm hK hG hS hR hl
  subst hret
  refine W.widen hk hj ?_
  exact W.vret hC.1 hC.2.1 hr (fun t ht hW => ⟨⟨_, h, nx, rfl, hF, by rw [ht]; exact hR.moved hW.alike⟩, hS.F ht⟩) hS.2.2 hdg hlk
theorem g_aret {v : Value} {rt : FieldType} (hdg : decode cc pc = .ok (.areturn, 1)) (hret : some rt = ret) (hrt : (∃ n, rt = .object n) ∨ ∃ t, rt = .array t) (hv : v = .null ∨ ∃ a, v = .ref a) (hF : F (some v) h nx) (hk : k ≤ rm.cells) (hj : j ≤ rm.slots) : Go l b D z y cc nL ret rm F pc lv [v] h nx k j := by
  intro p e s m args below meth c H locs ls hC hr hlk hnm hK hG hS hR hl
  subst hret
  refine W.widen hk hj ?_
  exact W.aret hC.1 hC.2.1 hr hrt hv (fun t ht hW => ⟨⟨_, h, nx, rfl, hF, by rw [ht]; exact hR.moved hW.alike⟩, hS.F ht⟩) hS.2.2 hdg hlk
end QROW
