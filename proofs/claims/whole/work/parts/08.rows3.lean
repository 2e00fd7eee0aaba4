section QROW3
variable {l : Launch} {b : Nat} {D : va_G} {z : Nat → Nat} {y : MethodName} {cc : ByteArray} {nL : Nat} {ret : Option FieldType} {rm : Room} {F : Option Value → qH → Nat → Prop} {pc : Nat} {lv : List (Nat × Value)} {st : List Value} {h h' : qH} {nx k j a : Nat}
theorem q_Sgrow {H0 H H1 : Heap} {locs : List Loc} {nx : Nat} (hS : va_S (qA b) H0 H locs) (hz0 : H.size = nx) (hz : H1.size = nx + 1) (ho : ∀ x : Nat, x < nx → H1[x]? = H[x]?) : va_S (qA b) H0 H1 locs :=
  ⟨Nat.le_trans hS.1 (by omega), fun q h1 h2 => (ho q (by have := hS.1; omega)).trans (hS.2.1 q h1 h2), hS.2.2⟩
theorem g_new {index ci : Nat} {q : vw_C} (hc : vwCl[ci]? = some q) (ty : Nat → FieldType) (hty : ∀ k, k < q.2.2 → parseFieldDescriptor (q.2.1 k).2.2.1 = some (ty k)) {fs : List Value} (hfs : ∀ j, j < q.2.2 → defaultValue (ty j) = vp_V fs j) (hw1 : Cond.classLink y.cls index q.1 ∈ qws) (hw2 : Cond.instantiable q.1 q.2.2 ∈ qws) (hw3 : Cond.initialized q.1 ∈ qws) (hk : k + 1 ≤ rm.cells) (hj : j + q.2.2 ≤ rm.slots) (hdg : decode cc pc = .ok (.new index, 3)) (w : Go l b D z y cc nL ret rm F (pc + 3) lv (.ref nx :: st) (q_new h nx ci fs) (nx + 1) (k + 1) (j + q.2.2)) : Go l b D z y cc nL ret rm F pc lv st h nx k j := by
  intro p e s m args below meth c H locs ls hC hr hlk hnm hK hG hS hR hl
  have hts := hC.2.2.2.2
  have hKn := hK.1 ci _ hc
  refine W.newcK hC.1 hC.2.1 hC.2.2.2.1 (hts _ hw1) (hts _ hw2) (hts _ hw3) rfl hdg hk hj hKn.2.1 hR.1 fun H1 kC hkC e1 z1 o1 => ?_
  exact w _ _ _ _ _ _ _ _ _ _ _ hC hr hlk hnm hK hG (q_Sgrow hS hR.1 z1 o1) (hR.push z1 o1 ⟨hR.2.1, q, hc, (u_born ty hts (qcls ci q hc) hKn hkC e1 hty).to hfs⟩) hl
theorem g_newi {n : Int32} {N : Nat} (hw : Cond.arrayClass .int ∈ qws) (hn : ¬ n < 0) (hN : n.toNatClampNeg = N) (hbytes : N * componentBytes .int ≤ 536870912) (hk : k + 1 ≤ rm.cells) (hj : j + N ≤ rm.slots) (hdg : decode cc pc = .ok (.newarray .int, 2)) (w : Go l b D z y cc nL ret rm F (pc + 2) lv (.ref nx :: st) (q_nwI h nx .int N) (nx + 1) (k + 1) (j + N)) : Go l b D z y cc nL ret rm F pc lv (.int n :: st) h nx k j := by
  intro p e s m args below meth c H locs ls hC hr hlk hnm hK hG hS hR hl
  refine va_newaK (atype := .int) hC.1 hC.2.1 (hC.2.2.2.2 _ hw) rfl hdg rfl hn hN hbytes hk hj hR.1 fun H1 cA e1 z1 o1 hAr hNm => ?_
  exact w _ _ _ _ _ _ _ _ _ _ _ hC hr hlk hnm hK hG (q_Sgrow hS hR.1 z1 o1) (hR.push z1 o1 ⟨hR.2.1, cA, by dsimp only; rw [vp_cell_i]; exact e1, hAr, hNm⟩) hl
theorem g_newb {n : Int32} {N : Nat} (hw : Cond.arrayClass .byte ∈ qws) (hn : ¬ n < 0) (hN : n.toNatClampNeg = N) (hbytes : N * componentBytes .byte ≤ 536870912) (hk : k + 1 ≤ rm.cells) (hj : j + N ≤ rm.slots) (hdg : decode cc pc = .ok (.newarray .byte, 2)) (w : Go l b D z y cc nL ret rm F (pc + 2) lv (.ref nx :: st) (q_nwI h nx .byte N) (nx + 1) (k + 1) (j + N)) : Go l b D z y cc nL ret rm F pc lv (.int n :: st) h nx k j := by
  intro p e s m args below meth c H locs ls hC hr hlk hnm hK hG hS hR hl
  refine va_newaK (atype := .byte) hC.1 hC.2.1 (hC.2.2.2.2 _ hw) rfl hdg rfl hn hN hbytes hk hj hR.1 fun H1 cA e1 z1 o1 hAr hNm => ?_
  exact w _ _ _ _ _ _ _ _ _ _ _ hC hr hlk hnm hK hG (q_Sgrow hS hR.1 z1 o1) (hR.push z1 o1 ⟨hR.2.1, cA, by dsimp only; rw [vp_cell_i]; exact e1, hAr, hNm⟩) hl
theorem g_newz {n : Int32} {N : Nat} (hw : Cond.arrayClass .boolean ∈ qws) (hn : ¬ n < 0) (hN : n.toNatClampNeg = N) (hbytes : N * componentBytes .boolean ≤ 536870912) (hk : k + 1 ≤ rm.cells) (hj : j + N ≤ rm.slots) (hdg : decode cc pc = .ok (.newarray .boolean, 2)) (w : Go l b D z y cc nL ret rm F (pc + 2) lv (.ref nx :: st) (q_nwI h nx .boolean N) (nx + 1) (k + 1) (j + N)) : Go l b D z y cc nL ret rm F pc lv (.int n :: st) h nx k j := by
  intro p e s m args below meth c H locs ls hC hr hlk hnm hK hG hS hR hl
  refine va_newaK (atype := .boolean) hC.1 hC.2.1 (hC.2.2.2.2 _ hw) rfl hdg rfl hn hN hbytes hk hj hR.1 fun H1 cA e1 z1 o1 hAr hNm => ?_
  exact w _ _ _ _ _ _ _ _ _ _ _ hC hr hlk hnm hK hG (q_Sgrow hS hR.1 z1 o1) (hR.push z1 o1 ⟨hR.2.1, cA, by dsimp only; rw [vp_cell_i]; exact e1, hAr, hNm⟩) hl
theorem g_newl {n : Int32} {N : Nat} (hw : Cond.arrayClass .long ∈ qws) (hn : ¬ n < 0) (hN : n.toNatClampNeg = N) (hbytes : N * componentBytes .long ≤ 536870912) (hk : k + 1 ≤ rm.cells) (hj : j + N ≤ rm.slots) (hdg : decode cc pc = .ok (.newarray .long, 2)) (w : Go l b D z y cc nL ret rm F (pc + 2) lv (.ref nx :: st) (q_nwL h nx N) (nx + 1) (k + 1) (j + N)) : Go l b D z y cc nL ret rm F pc lv (.int n :: st) h nx k j := by
  intro p e s m args below meth c H locs ls hC hr hlk hnm hK hG hS hR hl
  refine va_newaK (atype := .long) hC.1 hC.2.1 (hC.2.2.2.2 _ hw) rfl hdg rfl hn hN hbytes hk hj hR.1 fun H1 cA e1 z1 o1 hAr hNm => ?_
  exact w _ _ _ _ _ _ _ _ _ _ _ hC hr hlk hnm hK hG (q_Sgrow hS hR.1 z1 o1) (hR.push z1 o1 ⟨hR.2.1, cA, by dsimp only; rw [vp_cell_l]; exact e1, hAr, hNm⟩) hl
theorem g_newq {index : Nat} {C : String} {n : Int32} {N : Nat} (hA : C ∈ qArr) (hw : Cond.classLink y.cls index C ∈ qws) (hn : ¬ n < 0) (hN : n.toNatClampNeg = N) (hbytes : N * 4 ≤ 536870912) (hk : k + 1 ≤ rm.cells) (hj : j + N ≤ rm.slots) (hdg : decode cc pc = .ok (.anewarray index, 3)) (w : Go l b D z y cc nL ret rm F (pc + 3) lv (.ref nx :: st) (q_nwR h nx C N) (nx + 1) (k + 1) (j + N)) : Go l b D z y cc nL ret rm F pc lv (.int n :: st) h nx k j := by
  intro p e s m args below meth c H locs ls hC hr hlk hnm hK hG hS hR hl
  subst hN
  refine W.anew hC.1 hC.2.1 hC.2.2.2.1 (hC.2.2.2.2 _ hw) (va_AO.use (hG.2.2.2.2.2 C hA)) rfl hdg rfl hn hbytes hk hj fun cA kA comp f1 f2 f3 f4 => ?_
  have hz := hR.1
  generalize hH1 : H.push ({ cls := cA, slots := Array.replicate n.toNatClampNeg .null, vm := .none } : Cell) = H1
  have z1 : H1.size = nx + 1 := by rw [← hH1, Array.size_push, hz]
  have e1 : H1[nx]? = some (arrV cA n.toNatClampNeg (fun _ => .null)) := by rw [← hH1, ← hz, Array.getElem?_push_size, ← arrV_new]
  have o1 : ∀ q : Nat, q < nx → H1[q]? = H[q]? := fun q hq => by rw [← hH1, Array.getElem?_push, if_neg (by omega)]
  rw [hz]
  exact w _ _ _ _ _ _ _ _ _ _ _ hC hr hlk hnm hK hG (q_Sgrow hS hR.1 z1 o1) (hR.push z1 o1 ⟨hR.2.1, cA, by dsimp only; rw [vp_cell_q]; exact e1, fun N z => ⟨(fun k h => by cases h), kA, f2, comp, f3⟩, ⟨kA, comp, f2, f3, f4, f1⟩⟩) hl
theorem g_gets {index i : Nat} {q : String × String} (hq : qSt[i]? = some q) (hw : Cond.fieldLink y.cls index q.1 q.2 "[I" ∈ qws) (hdg : decode cc pc = .ok (.getstatic index, 3)) (w : Go l b D z y cc nL ret rm F (pc + 3) lv (.ref (z i) :: st) h nx k j) : Go l b D z y cc nL ret rm F pc lv st h nx k j := by
  intro p e s m args below meth c H locs ls hC hr hlk hnm hK hG hS hR hl
  exact va_gets hC.1 hC.2.1 (hG.1 i q hq).1 hS hC.2.2.2.1 (hC.2.2.2.2 _ hw) (fun x hx => hx) hdg (w _ _ _ _ _ _ _ _ _ _ _ hC hr hlk hnm hK hG hS hR hl)
theorem g_ldcS {i : Nat} {tx : String} (hq : qTx[i]? = some tx) (hcls : y.cls = RX7) (hdg : decode cc pc = .ok (.ldc (88 + 2 * i), 2)) (w : Go l b D z y cc nL ret rm F (pc + 2) lv (.ref (z (4 + i)) :: st) h nx k j) : Go l b D z y cc nL ret rm F pc lv st h nx k j := by
  intro p e s m args below meth c H locs ls hC hr hlk hnm hK hG hS hR hl
  exact va_ldcS hC.1 hC.2.1 hC.2.2.2.1 (hcls ▸ hG.2.2.2.1 i tx hq) hdg (w _ _ _ _ _ _ _ _ _ _ _ hC hr hlk hnm hK hG hS hR hl)
theorem g_obj {index : Nat} {x : Nat} (hw1 : Cond.methodLink y.cls index Lib.objectInit ∈ qws) (hw2 : Cond.instanceMethod Lib.objectInit ∈ qws) (hw3 : Cond.code Lib.objectInit ⟨#[0xb1]⟩ 1 none ∈ qws) (hfr : 1 ≤ rm.frames) (hlo : (st.map fun v => v.category).sum + 12 ≤ rm.locals) (hdg : decode cc pc = .ok (.invokespecial index, 3)) (w : Go l b D z y cc nL ret rm F (pc + 3) lv st h nx k j) : Go l b D z y cc nL ret rm F pc lv (.ref x :: st) h nx k j := by
  intro p e s m args below meth c H locs ls hC hr hlk hnm hK hG hS hR hl
  have hts := hC.2.2.2.2
  exact W.objInit hC.1 hC.2.1 hC.2.2.2.1 (hts _ hw1) (hts _ hw2) (hts _ hw3) rfl (hl.1.trans hC.2.2.1.symm) rfl hdg hfr (by show 2 * 0 + _ + 12 ≤ _; omega) (w _ _ _ _ _ _ _ _ _ _ _ hC hr hlk hnm hK hG hS hR hl)
def q_st (i : Nat) (x : Int32) : Option Int32 := if 0 ≤ x ∧ x.toNatClampNeg < (qTab i).length then some ((qTab i).getD x.toNatClampNeg 0) else none
theorem q_st_spec {i : Nat} {x r : Int32} (hx : q_st i x = some r) : vp_in x (qTab i).length ∧ r = (qTab i).getD x.toNatClampNeg 0 := by
  unfold q_st at hx
  split at hx
  · next hc => cases hx; exact ⟨q_in hc.1 hc.2, rfl⟩
  · cases hx
theorem g_ist {i : Nat} {q : String × String} {x r : Int32} (hq : qSt[i]? = some q) (hx : q_st i x = some r) (hdg : decode cc pc = .ok (.iaload, 1)) (w : Go l b D z y cc nL ret rm F (pc + 1) lv (.int r :: st) h nx k j) : Go l b D z y cc nL ret rm F pc lv (.int x :: .ref (z i) :: st) h nx k j := by
  intro p e s m args below meth c H locs ls hC hr hlk hnm hK hG hS hR hl
  obtain ⟨hin, rfl⟩ := q_st_spec hx
  exact va_ti hC.1 hC.2.1 (hG.1 i q hq).2 hS hin rfl hdg (w _ _ _ _ _ _ _ _ _ _ _ hC hr hlk hnm hK hG hS hR hl)
theorem g_slen {i : Nat} {q : String × String} (hq : qSt[i]? = some q) (hdg : decode cc pc = .ok (.arraylength, 1)) (w : Go l b D z y cc nL ret rm F (pc + 1) lv (.int (Int32.ofNat (qTab i).length) :: st) h nx k j) : Go l b D z y cc nL ret rm F pc lv (.ref (z i) :: st) h nx k j := by
  intro p e s m args below meth c H locs ls hC hr hlk hnm hK hG hS hR hl
  exact va_tlen hC.1 hC.2.1 (hG.1 i q hq).2 hS rfl hdg (w _ _ _ _ _ _ _ _ _ _ _ hC hr hlk hnm hK hG hS hR hl)
theorem q_blind {as : List Value} : FrameBlind (va_Pc as (qP b D z h nx)) := by
  intro a U g mk q
  obtain ⟨rfl, hK, hG, hR⟩ := q
  have hW : U.WarmedH (U.calling g mk as.toArray).vm := State.WarmedH.refl U
  exact ⟨rfl, va_K.moved (u := U) (Vm.Alike.refl U.vm) hK, qG.warm hW hG, qR.moved (u := U) (Vm.Alike.refl U.vm) hR⟩
theorem q_pre {s : State} {H : Heap} {locs : List Loc} {as : List Value} (hK : va_K D vwCl [] s) (hG : qG b z s s.heap) (hS : va_S (qA b) s.heap H locs) (hR : qR b D s H h nx) : ∀ U : State, U.heap = H → s.WarmedH U.vm → va_Pc as (qP b D z h nx) as.toArray U := by
  intro U hU hW
  refine ⟨rfl, va_K.moved hW.alike hK, ?_, ?_⟩
  · rw [hU]
    exact (hG.kept (fun a h1 h2 => hS.2.1 a h1 h2)).warm hW
  · rw [hU]
    exact hR.moved hW.alike
theorem q_recv {s : State} {H : Heap} {ci : Nat} {q : vw_C} {x : Unit} (hK : va_K D vwCl [] s) (hR : qR b D s H h nx) (hc : vwCl[ci]? = some q) (ho : q_ob h a ci = some x) : ∃ cellB : Cell, H[a]? = some cellB ∧ cellB.vm.isStatics = false ∧ s.vm.findClass q.1 = some cellB.cls := by
  obtain ⟨fs, hh⟩ := q_ob_spec ho
  obtain ⟨-, hat⟩ := hR.2.2 a _ hh
  exact va_recv (ws := [(a, .inr (ci, fs))]) (q0 := 0) hK (fun i x hx => by
    cases i with
    | zero => cases hx; exact hat
    | succ i => simp at hx) hc rfl
theorem q_after {p : Program} {e : Env} {R : Room} {s : State} {m : MethodId} {args : Array Value} {below : List Frame} {meth : Method} {c : Code} {H : Heap} {locs : List Loc} {cells slots mc ms : Nat} {Q : State → Prop} {ls : Array Slot} {st0 rest : List Value} {as : Array Value} {P : Option Value → qH → Nat → Prop}
    (hr : va_Run p l e R s m args below meth c H locs cells slots mc ms (F0 m pc ls st0) rest (qQ b D P as) (qA b)) (hS : va_S (qA b) s.heap H locs)
    (kk : ∀ (r : Option Value) (h' : qH) (nx' : Nat) (H1 : Heap) (locs1 : List Loc), P r h' nx' → qR b D s H1 h' nx' → va_S (qA b) s.heap H1 locs1 → W p l e R s m args below meth c H1 locs1 (cells + mc) (slots + ms) Q (F0 m (pc + 3) ls (r.toList ++ rest))) : W p l e R s m args below meth c H locs cells slots Q (F0 m pc ls st0) := by
  intro T hT X
  obtain ⟨v, st₀, t, T', L, h0, X', hL, e1, e2, ⟨⟨r, h', nx', hv, hp, hR⟩, hz, hk⟩, st⟩ := hr T hT X
  cases hv
  rw [h0] at hz hk
  rw [← e1] at hR hz hk
  have hal : t.vm.Alike s.vm := by rw [← e2]; exact X'.warmed.alike.symm
  obtain ⟨t2, a1, b1⟩ := kk v h' nx' T'.heap (locs ++ L) hp (hR.moved hal)
    ⟨Nat.le_trans hS.1 hz, fun q h1 h2 => by rw [hk q (Nat.lt_of_lt_of_le h1 hS.1) h2]; exact hS.2.1 q h1 h2, fun q hq => by
      rcases List.mem_append.mp hq with h | h
      · exact hS.2.2 q h
      · exact hL q h⟩ T' rfl X'
  exact ⟨t2, st t2 a1, b1⟩
/-- what the tables say of a method, and of a link to it -/
def qM (y' : MethodName) (bytes : ByteArray) (maxL : Nat) (ret' : Option FieldType) (n : Nat) : Prop := Cond.code y' bytes maxL ret' ∈ qws ∧ Cond.initialized y'.cls ∈ qws ∧ y'.cls ≠ "java/lang/invoke/MethodHandle" ∧ y'.cls ≠ "java/lang/invoke/VarHandle" ∧ (parseMethodDescriptor y'.desc).map (fun d => d.parameters.length) = some n
variable {index n maxL : Nat} {y' : MethodName} {bytes : ByteArray} {ret' : Option FieldType} {rm' : Room} {As st0 : List Value} {P : Option Value → qH → Nat → Prop}
theorem q_callB {R : Room} {s : State} {args : Array Value} (hts : ∀ w ∈ qws, w.before args s = true) (hm : qM y' bytes maxL ret' n) (hl : Cond.methodLink y.cls index y' ∈ qws) (hrm : rm'.frames + 1 ≤ R.frames ∧ 8 + (maxL + 11) + rm'.locals ≤ R.locals) : CallB R s args y.cls index y' bytes maxL ret' (.code y' bytes maxL ret' :: qws) rm' rm'.cells rm'.slots n :=
  callB_of n hts (qws_G hm.1) rfl rfl rfl (hts _ hm.2.1) (hts _ hl) ⟨hm.2.2.1, hm.2.2.2.1, hm.2.2.2.2⟩ hrm
theorem q_callN {R : Room} {s : State} {args : Array Value} (hts : ∀ w ∈ qws, w.before args s = true) (hG : qG b z s s.heap) (hm : qM y' bytes maxL ret' n) (hl : (y.cls, index, y') ∈ qNest) (hrm : rm'.frames + 1 ≤ R.frames ∧ 8 + (maxL + 11) + rm'.locals ≤ R.locals) : va_CN R s args y.cls index y' "CellarPrompter" bytes maxL ret' (.code y' bytes maxL ret' :: qws) rm' rm'.cells rm'.slots n :=
  va_cnB n hts (qws_G hm.1) rfl rfl rfl (hG.2.2.2.2.1 _ hl) (hts _ hm.2.1) ⟨hm.2.2.1, hm.2.2.2.1, hm.2.2.2.2⟩ hrm
theorem g_callV {ci : Nat} {q : vw_C} {u : Unit} (hm : qM y' bytes maxL ret' n) (hl0 : Cond.methodLink y.cls index y' ∈ qws) (hi0 : Cond.instanceMethod y' ∈ qws) (hs0 : Cond.selects q.1 y' y' ∈ qws) (hc : vwCl[ci]? = some q) (ho : q_ob h a ci = some u) (hM : Me l b D z y' bytes maxL ret' rm' (.ref a :: As) h nx P) (hn : As.length = n) (hst : st0 = As.reverse ++ .ref a :: st) (hcat : (st.map fun v => v.category).sum ≤ 8) (hrm : rm'.frames + 1 ≤ rm.frames ∧ 8 + (maxL + 11) + rm'.locals ≤ rm.locals) (hf : k + rm'.cells ≤ rm.cells ∧ j + rm'.slots ≤ rm.slots) (hdg : decode cc pc = .ok (.invokevirtual index, 3)) (w : ∀ (r : Option Value) (h' : qH) (nx' : Nat), P r h' nx' → Go l b D z y cc nL ret rm F (pc + 3) lv (r.toList ++ st) h' nx' (k + rm'.cells) (j + rm'.slots)) : Go l b D z y cc nL ret rm F pc lv st0 h nx k j := by
  intro p e s m args below meth c H locs ls hC hr hlk hnm hK hG hS hR hl
  have hts := hC.2.2.2.2
  exact q_after (va_runV (As := As) (rest := st) hC hM ⟨q_callB hts hm hl0 hrm, hts _ hi0, hts _ hs0⟩ ⟨q_blind, q_recv hK hR hc ho, q_pre hK hG hS hR⟩ rfl hn hl.1 hst (lv_room hcat) hdg hf) hS (fun r h' nx' H1 locs1 hp hR' hS' => w r h' nx' hp _ _ _ _ _ _ _ _ _ _ _ hC hr hlk hnm hK hG hS' hR' hl)
theorem g_callS (hm : qM y' bytes maxL ret' n) (hl0 : Cond.methodLink y.cls index y' ∈ qws) (hs0 : Cond.static y' ∈ qws) (hM : Me l b D z y' bytes maxL ret' rm' As h nx P) (hn : As.length = n) (hst : st0 = As.reverse ++ st) (hcat : (st.map fun v => v.category).sum ≤ 8) (hrm : rm'.frames + 1 ≤ rm.frames ∧ 8 + (maxL + 11) + rm'.locals ≤ rm.locals) (hf : k + rm'.cells ≤ rm.cells ∧ j + rm'.slots ≤ rm.slots) (hdg : decode cc pc = .ok (.invokestatic index, 3)) (w : ∀ (r : Option Value) (h' : qH) (nx' : Nat), P r h' nx' → Go l b D z y cc nL ret rm F (pc + 3) lv (r.toList ++ st) h' nx' (k + rm'.cells) (j + rm'.slots)) : Go l b D z y cc nL ret rm F pc lv st0 h nx k j := by
  intro p e s m args below meth c H locs ls hC hr hlk hnm hK hG hS hR hl
  have hts := hC.2.2.2.2
  exact q_after (va_runS (As := As) (rest := st) hC hM ⟨q_callB hts hm hl0 hrm, hts _ hs0⟩ ⟨q_blind, q_pre hK hG hS hR⟩ rfl hn hl.1 hst (lv_room hcat) hdg hf) hS (fun r h' nx' H1 locs1 hp hR' hS' => w r h' nx' hp _ _ _ _ _ _ _ _ _ _ _ hC hr hlk hnm hK hG hS' hR' hl)
theorem g_callSN (hm : qM y' bytes maxL ret' n) (hl0 : (y.cls, index, y') ∈ qNest) (hs0 : Cond.static y' ∈ qws) (hM : Me l b D z y' bytes maxL ret' rm' As h nx P) (hn : As.length = n) (hst : st0 = As.reverse ++ st) (hcat : (st.map fun v => v.category).sum ≤ 8) (hrm : rm'.frames + 1 ≤ rm.frames ∧ 8 + (maxL + 11) + rm'.locals ≤ rm.locals) (hf : k + rm'.cells ≤ rm.cells ∧ j + rm'.slots ≤ rm.slots) (hdg : decode cc pc = .ok (.invokestatic index, 3)) (w : ∀ (r : Option Value) (h' : qH) (nx' : Nat), P r h' nx' → Go l b D z y cc nL ret rm F (pc + 3) lv (r.toList ++ st) h' nx' (k + rm'.cells) (j + rm'.slots)) : Go l b D z y cc nL ret rm F pc lv st0 h nx k j := by
  intro p e s m args below meth c H locs ls hC hr hlk hnm hK hG hS hR hl
  have hts := hC.2.2.2.2
  exact q_after (va_runSN (As := As) (rest := st) hC hM ⟨q_callN hts hG hm hl0 hrm, hts _ hs0, trivial⟩ ⟨q_blind, q_pre hK hG hS hR⟩ rfl hn hl.1 hst (lv_room hcat) hdg hf) hS (fun r h' nx' H1 locs1 hp hR' hS' => w r h' nx' hp _ _ _ _ _ _ _ _ _ _ _ hC hr hlk hnm hK hG hS' hR' hl)
theorem g_callI (hm : qM y' bytes maxL none n) (hl0 : Cond.methodLink y.cls index y' ∈ qws) (hi0 : Cond.instanceMethod y' ∈ qws) (hy : y'.name = "<init>") (hM : Me l b D z y' bytes maxL none rm' (.ref a :: As) h nx P) (hn : As.length = n) (hst : st0 = As.reverse ++ .ref a :: st) (hcat : (st.map fun v => v.category).sum ≤ 8) (hrm : rm'.frames + 1 ≤ rm.frames ∧ 8 + (maxL + 11) + rm'.locals ≤ rm.locals) (hf : k + rm'.cells ≤ rm.cells ∧ j + rm'.slots ≤ rm.slots) (hdg : decode cc pc = .ok (.invokespecial index, 3)) (w : ∀ (r : Option Value) (h' : qH) (nx' : Nat), P r h' nx' → Go l b D z y cc nL ret rm F (pc + 3) lv (r.toList ++ st) h' nx' (k + rm'.cells) (j + rm'.slots)) : Go l b D z y cc nL ret rm F pc lv st0 h nx k j := by
  intro p e s m args below meth c H locs ls hC hr hlk hnm hK hG hS hR hl
  have hts := hC.2.2.2.2
  exact q_after (va_runI (As := As) (rest := st) hC hM ⟨q_callB hts hm hl0 hrm, hy, hts _ hi0⟩ ⟨q_blind, q_pre hK hG hS hR⟩ rfl hn hl.1 hst (lv_room hcat) hdg hf) hS (fun r h' nx' H1 locs1 hp hR' hS' => w r h' nx' hp _ _ _ _ _ _ _ _ _ _ _ hC hr hlk hnm hK hG hS' hR' hl)
theorem g_callIN (hm : qM y' bytes maxL none n) (hl0 : (y.cls, index, y') ∈ qNest) (hi0 : Cond.instanceMethod y' ∈ qws) (hy : y'.name = "<init>") (hM : Me l b D z y' bytes maxL none rm' (.ref a :: As) h nx P) (hn : As.length = n) (hst : st0 = As.reverse ++ .ref a :: st) (hcat : (st.map fun v => v.category).sum ≤ 8) (hrm : rm'.frames + 1 ≤ rm.frames ∧ 8 + (maxL + 11) + rm'.locals ≤ rm.locals) (hf : k + rm'.cells ≤ rm.cells ∧ j + rm'.slots ≤ rm.slots) (hdg : decode cc pc = .ok (.invokespecial index, 3)) (w : ∀ (r : Option Value) (h' : qH) (nx' : Nat), P r h' nx' → Go l b D z y cc nL ret rm F (pc + 3) lv (r.toList ++ st) h' nx' (k + rm'.cells) (j + rm'.slots)) : Go l b D z y cc nL ret rm F pc lv st0 h nx k j := by
  intro p e s m args below meth c H locs ls hC hr hlk hnm hK hG hS hR hl
  have hts := hC.2.2.2.2
  exact q_after (va_runIN (As := As) (rest := st) hC hM ⟨q_callN hts hG hm hl0 hrm, hy, hts _ hi0⟩ ⟨q_blind, q_pre hK hG hS hR⟩ rfl hn hl.1 hst (lv_room hcat) hdg hf) hS (fun r h' nx' H1 locs1 hp hR' hS' => w r h' nx' hp _ _ _ _ _ _ _ _ _ _ _ hC hr hlk hnm hK hG hS' hR' hl)
theorem g_copyI {ty : FieldType} {a0 a1 : Nat} {sp dp n : Int32} (hprim : refKind ty = false) (hx : q_cpI h ty a0 sp a1 dp n = some h') (hw1 : Cond.methodLink y.cls index arraycopyName ∈ qws) (hw2 : Cond.native arraycopyName ∈ qws) (hw3 : Cond.static arraycopyName ∈ qws) (hw4 : Cond.initialized "java/lang/System" ∈ qws) (hfr : 1 ≤ rm.frames) (hlo : (st.map fun v => v.category).sum + (nativeFrameWords "java/lang/System" "arraycopy" 5 + 11) ≤ rm.locals) (hdg : decode cc pc = .ok (.invokestatic index, 3)) (w : Go l b D z y cc nL ret rm F (pc + 3) lv st h' nx k j) : Go l b D z y cc nL ret rm F pc lv (.int n :: .int dp :: .ref a1 :: .int sp :: .ref a0 :: st) h nx k j := by
  intro p e s m args below meth c H locs ls hC hr hlk hnm hK hG hS hR hl
  have hts := hC.2.2.2.2
  obtain ⟨n0, n1, f, g, hh0, hh1, c1, c2, c3, c4, c5, c6, rfl⟩ := q_cpI_spec hx
  obtain ⟨hb0, cA0, h1, h2, h3⟩ := hR.2.2 a0 _ hh0
  obtain ⟨hb1, cA1, g1, g2, g3⟩ := hR.2.2 a1 _ hh1
  have nn : ∀ z : Int32, 0 ≤ z → z.toInt = (z.toNatClampNeg : Int) := by
    intro z hz
    have hz0 : (0 : Int) ≤ z.toInt := by simpa using Int32.le_iff_toInt_le.mp hz
    show z.toInt = ((z.toInt.toNat : Nat) : Int)
    omega
  intro T hT X
  obtain ⟨-, k0, hk0, cm0, hkk0⟩ := h2 n0 (fun j => .int (f j))
  obtain ⟨-, k1, hk1, cm1, hkk1⟩ := g2 n1 (fun j => .int (g j))
  obtain ⟨vm', X', step⟩ := X.arraycopy hC.1 hC.2.2.2.1 (hts _ hw1) (hts _ hw2) (hts _ hw3) (hts _ hw4) (src := a0) (dst := a1) (cs := vp_cell cA0 (n0, .inl f)) (cd := vp_cell cA1 (n1, .inl g)) (srcPos := sp) (destPos := dp) (n := n) (by rw [hT]; exact h1) (by rw [hT]; exact g1)
    (fun _ h => by cases h) (fun _ h => by cases h) (fun h => by cases h) (fun h => by cases h) hk0 hk1 hkk0 hkk1 (by simp [hprim]) (Int32.not_lt.mpr c1) (Int32.not_lt.mpr c2) (Int32.not_lt.mpr c3)
    (by rw [nn sp c1, nn n c3]; show ¬ _ > ((arrV cA0 n0 (fun j => .int (f j))).slots.size : Int); rw [arrV_size]; omega)
    (by rw [nn dp c2, nn n c3]; show ¬ _ > ((arrV cA1 n1 (fun j => .int (g j))).slots.size : Int); rw [arrV_size]; omega)
    (fun vm₁ _ i hi => by
      have e : (vp_cell cA0 (n0, .inl f)).slots.getD (sp.toNatClampNeg + i) .null = .int (f (sp.toNatClampNeg + i)) := by
        show (arrV cA0 n0 (fun j => .int (f j))).slots.getD _ _ = _
        rw [Array.getD_eq_getD_getElem?, arrV_read _ _ (by omega)]
        rfl
      refine ⟨?_, ?_⟩
      · rw [e]
        exact c6 i hi
      · rw [e]
        exact trivial)
    (g := F0 m pc ls (.int n :: .int dp :: .ref a1 :: .int sp :: .ref a0 :: st)) rfl (hl.1.trans hC.2.2.1.symm) (rest := st) rfl (by rw [hC.2.1]; exact hdg) hfr (by show 2 * 0 + _ + _ ≤ _; omega)
  have e1 : copied (vp_cell cA0 (n0, .inl f)) (vp_cell cA1 (n1, .inl g)) sp dp n = vp_cell cA1 (n1, .inl (va_cpy f g sp.toNatClampNeg dp.toNatClampNeg n.toNatClampNeg)) := va_copied (fun z => .int z) cA0 cA1 f g c4
  rw [e1] at X' step
  have hlt : a1 < H.size := (Array.getElem?_eq_some_iff.mp g1).1
  have hheap : ((T.setVm vm').setCell a1 (vp_cell cA1 (n1, .inl (va_cpy f g sp.toNatClampNeg dp.toNatClampNeg n.toNatClampNeg)))).heap = H.setIfInBounds a1 (vp_cell cA1 (n1, .inl (va_cpy f g sp.toNatClampNeg dp.toNatClampNeg n.toNatClampNeg))) := by rw [← hT]; rfl
  have oq : ∀ q : Nat, q ≠ a1 → (H.setIfInBounds a1 (vp_cell cA1 (n1, .inl (va_cpy f g sp.toNatClampNeg dp.toNatClampNeg n.toNatClampNeg))))[q]? = H[q]? := fun q hq => by simp [Array.getElem?_setIfInBounds, Ne.symm hq]
  have hsz : (H.setIfInBounds a1 (vp_cell cA1 (n1, .inl (va_cpy f g sp.toNatClampNeg dp.toNatClampNeg n.toNatClampNeg)))).size = H.size := by simp
  obtain ⟨t, a2, b2⟩ := w _ _ _ _ _ _ _ _ (H.setIfInBounds a1 (vp_cell cA1 (n1, .inl (va_cpy f g sp.toNatClampNeg dp.toNatClampNeg n.toNatClampNeg)))) _ _ hC hr hlk hnm hK hG ⟨by rw [hsz]; exact hS.1, fun q q1 q2 => by
      rw [oq q (fun e => q2 (by rw [e]; exact hb1))]
      exact hS.2.1 q q1 q2, fun q hq => by
      rcases List.mem_append.mp hq with h | h
      · exact hS.2.2 q h
      · obtain ⟨z, -, hz⟩ := List.mem_map.mp h
        rw [← hz]
        exact hb1⟩ (hR.set hb1 hsz oq ⟨hb1, cA1, by dsimp only; simp [Array.getElem?_setIfInBounds, hlt], g2, g3⟩) hl _ hheap X'
  exact ⟨t, step t a2, b2⟩
theorem g_copyL {a0 a1 : Nat} {sp dp n : Int32} (hx : q_cpL h a0 sp a1 dp n = some h') (hw1 : Cond.methodLink y.cls index arraycopyName ∈ qws) (hw2 : Cond.native arraycopyName ∈ qws) (hw3 : Cond.static arraycopyName ∈ qws) (hw4 : Cond.initialized "java/lang/System" ∈ qws) (hfr : 1 ≤ rm.frames) (hlo : (st.map fun v => v.category).sum + (nativeFrameWords "java/lang/System" "arraycopy" 5 + 11) ≤ rm.locals) (hdg : decode cc pc = .ok (.invokestatic index, 3)) (w : Go l b D z y cc nL ret rm F (pc + 3) lv st h' nx k j) : Go l b D z y cc nL ret rm F pc lv (.int n :: .int dp :: .ref a1 :: .int sp :: .ref a0 :: st) h nx k j := by
  intro p e s m args below meth c H locs ls hC hr hlk hnm hK hG hS hR hl
  have hts := hC.2.2.2.2
  obtain ⟨n0, n1, f, g, hh0, hh1, c1, c2, c3, c4, c5, rfl⟩ := q_cpL_spec hx
  obtain ⟨hb0, cA0, h1, h2, h3⟩ := hR.2.2 a0 _ hh0
  obtain ⟨hb1, cA1, g1, g2, g3⟩ := hR.2.2 a1 _ hh1
  have nn : ∀ z : Int32, 0 ≤ z → z.toInt = (z.toNatClampNeg : Int) := by
    intro z hz
    have hz0 : (0 : Int) ≤ z.toInt := by simpa using Int32.le_iff_toInt_le.mp hz
    show z.toInt = ((z.toInt.toNat : Nat) : Int)
    omega
  intro T hT X
  obtain ⟨-, k0, hk0, cm0, hkk0⟩ := h2 n0 (fun j => .long (f j))
  obtain ⟨-, k1, hk1, cm1, hkk1⟩ := g2 n1 (fun j => .long (g j))
  obtain ⟨vm', X', step⟩ := X.arraycopy hC.1 hC.2.2.2.1 (hts _ hw1) (hts _ hw2) (hts _ hw3) (hts _ hw4) (src := a0) (dst := a1) (cs := vp_cell cA0 (n0, .inr (.inl f))) (cd := vp_cell cA1 (n1, .inr (.inl g))) (srcPos := sp) (destPos := dp) (n := n) (by rw [hT]; exact h1) (by rw [hT]; exact g1)
    (fun _ h => by cases h) (fun _ h => by cases h) (fun h => by cases h) (fun h => by cases h) hk0 hk1 hkk0 hkk1 (rfl) (Int32.not_lt.mpr c1) (Int32.not_lt.mpr c2) (Int32.not_lt.mpr c3)
    (by rw [nn sp c1, nn n c3]; show ¬ _ > ((arrV cA0 n0 (fun j => .long (f j))).slots.size : Int); rw [arrV_size]; omega)
    (by rw [nn dp c2, nn n c3]; show ¬ _ > ((arrV cA1 n1 (fun j => .long (g j))).slots.size : Int); rw [arrV_size]; omega)
    (fun vm₁ _ i hi => by
      have e : (vp_cell cA0 (n0, .inr (.inl f))).slots.getD (sp.toNatClampNeg + i) .null = .long (f (sp.toNatClampNeg + i)) := by
        show (arrV cA0 n0 (fun j => .long (f j))).slots.getD _ _ = _
        rw [Array.getD_eq_getD_getElem?, arrV_read _ _ (by omega)]
        rfl
      refine ⟨?_, ?_⟩
      · rw [e]
        exact rfl
      · rw [e]
        exact trivial)
    (g := F0 m pc ls (.int n :: .int dp :: .ref a1 :: .int sp :: .ref a0 :: st)) rfl (hl.1.trans hC.2.2.1.symm) (rest := st) rfl (by rw [hC.2.1]; exact hdg) hfr (by show 2 * 0 + _ + _ ≤ _; omega)
  have e1 : copied (vp_cell cA0 (n0, .inr (.inl f))) (vp_cell cA1 (n1, .inr (.inl g))) sp dp n = vp_cell cA1 (n1, .inr (.inl (va_cpy f g sp.toNatClampNeg dp.toNatClampNeg n.toNatClampNeg))) := va_copied (fun z => .long z) cA0 cA1 f g c4
  rw [e1] at X' step
  have hlt : a1 < H.size := (Array.getElem?_eq_some_iff.mp g1).1
  have hheap : ((T.setVm vm').setCell a1 (vp_cell cA1 (n1, .inr (.inl (va_cpy f g sp.toNatClampNeg dp.toNatClampNeg n.toNatClampNeg))))).heap = H.setIfInBounds a1 (vp_cell cA1 (n1, .inr (.inl (va_cpy f g sp.toNatClampNeg dp.toNatClampNeg n.toNatClampNeg)))) := by rw [← hT]; rfl
  have oq : ∀ q : Nat, q ≠ a1 → (H.setIfInBounds a1 (vp_cell cA1 (n1, .inr (.inl (va_cpy f g sp.toNatClampNeg dp.toNatClampNeg n.toNatClampNeg)))))[q]? = H[q]? := fun q hq => by simp [Array.getElem?_setIfInBounds, Ne.symm hq]
  have hsz : (H.setIfInBounds a1 (vp_cell cA1 (n1, .inr (.inl (va_cpy f g sp.toNatClampNeg dp.toNatClampNeg n.toNatClampNeg))))).size = H.size := by simp
  obtain ⟨t, a2, b2⟩ := w _ _ _ _ _ _ _ _ (H.setIfInBounds a1 (vp_cell cA1 (n1, .inr (.inl (va_cpy f g sp.toNatClampNeg dp.toNatClampNeg n.toNatClampNeg))))) _ _ hC hr hlk hnm hK hG ⟨by rw [hsz]; exact hS.1, fun q q1 q2 => by
      rw [oq q (fun e => q2 (by rw [e]; exact hb1))]
      exact hS.2.1 q q1 q2, fun q hq => by
      rcases List.mem_append.mp hq with h | h
      · exact hS.2.2 q h
      · obtain ⟨z, -, hz⟩ := List.mem_map.mp h
        rw [← hz]
        exact hb1⟩ (hR.set hb1 hsz oq ⟨hb1, cA1, by dsimp only; simp [Array.getElem?_setIfInBounds, hlt], g2, g3⟩) hl _ hheap X'
  exact ⟨t, step t a2, b2⟩
end QROW3
