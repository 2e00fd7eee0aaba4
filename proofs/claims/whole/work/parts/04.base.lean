/-! ===== what lies at an address: an own array, an own object, a foreign row of small numbers, a foreign text ===== -/
abbrev qC : Type := (FieldType × vp_A) ⊕ ((Nat × List Value) ⊕ ((FieldType × Nat × (Nat → Int32)) ⊕ (Nat × Nat × (Nat → Int32))))
abbrev qH : Type := Nat → Option qC
def qA (b : Nat) : Nat → Prop := fun q => b ≤ q
def q_at (b : Nat) (D : va_G) (U : State) (H : Heap) (a : Nat) (c : qC) : Prop := match c with
  | .inl x => b ≤ a ∧ ∃ cA : ClassId, H[a]? = some (vp_cell cA x.2) ∧ ArrOfT U cA x.1 ∧ va_RA U cA x.1
  | .inr (.inl x) => b ≤ a ∧ va_at D vwCl (a, .inr x) H
  | .inr (.inr (.inl x)) => va_T x.1 a x.2.1 (fun j => .int (x.2.2 j)) (qA b) U H
  | .inr (.inr (.inr x)) => va_O "java/lang/String" a (qA b) U H ∧ va_OF "java/lang/String" "coder" "B" (.int 0) a (qA b) U H ∧ va_OF "java/lang/String" "value" "[B" (.ref x.1) a (qA b) U H ∧ va_T .byte x.1 x.2.1 (fun j => .int (x.2.2 j)) (qA b) U H
theorem q_at.moved {b : Nat} {D : va_G} {u U : State} {H : Heap} {a : Nat} {c : qC} (hvm : u.vm.Alike U.vm) (h : q_at b D u H a c) : q_at b D U H a c := by
  match c, h with
  | .inl x, h =>
    obtain ⟨h0, cA, h1, h2, h3⟩ := h
    exact ⟨h0, cA, h1, arrOfT_moved hvm h2, h3.moved hvm⟩
  | .inr (.inl x), h => exact h
  | .inr (.inr (.inl x)), h => exact va_T.moved hvm h
  | .inr (.inr (.inr x)), h => exact ⟨va_O.moved hvm h.1, va_OF.moved hvm h.2.1, va_OF.moved hvm h.2.2.1, va_T.moved hvm h.2.2.2⟩
theorem q_at.kept {b : Nat} {D : va_G} {U : State} {H H1 : Heap} {a : Nat} {c : qC} (h : q_at b D U H a c) (ha : b ≤ a → H1[a]? = H[a]?) (hl : ∀ q : Nat, q < b → H1[q]? = H[q]?) : q_at b D U H1 a c := by
  have hk : ∀ q : Nat, q < H.size → ¬ qA b q → H1[q]? = H[q]? := fun q _ hq => hl q (Nat.not_le.mp hq)
  match c, h with
  | .inl x, h =>
    obtain ⟨h0, cA, h1, h2⟩ := h
    exact ⟨h0, cA, by rw [ha h0]; exact h1, h2⟩
  | .inr (.inl x), h => exact ⟨h.1, va_at.kept h.2 (ha h.1)⟩
  | .inr (.inr (.inl x)), h => exact va_T.kept h hk
  | .inr (.inr (.inr x)), h => exact ⟨h.1.kept hk, h.2.1.kept hk, h.2.2.1.kept hk, h.2.2.2.kept hk⟩
theorem q_at.lt {b : Nat} {D : va_G} {U : State} {H : Heap} {a : Nat} {c : qC} (h : q_at b D U H a c) : a < H.size := by
  match c, h with
  | .inl x, h =>
    obtain ⟨h0, cA, h1, h2⟩ := h
    exact (Array.getElem?_eq_some_iff.mp h1).1
  | .inr (.inl x), h => exact h.2.lt
  | .inr (.inr (.inl x)), h =>
    obtain ⟨cell, h1, h2⟩ := h
    exact (Array.getElem?_eq_some_iff.mp h1).1
  | .inr (.inr (.inr x)), h =>
    obtain ⟨⟨cell, h1, h2⟩, -⟩ := h
    exact (Array.getElem?_eq_some_iff.mp h1).1
/-- the heap holds h, and its next address is nx -/
def qR (b : Nat) (D : va_G) (U : State) (H : Heap) (h : qH) (nx : Nat) : Prop := H.size = nx ∧ b ≤ nx ∧ ∀ (a : Nat) (c : qC), h a = some c → q_at b D U H a c
theorem qR.moved {b : Nat} {D : va_G} {u U : State} {H : Heap} {h : qH} {nx : Nat} (hvm : u.vm.Alike U.vm) (q : qR b D u H h nx) : qR b D U H h nx := ⟨q.1, q.2.1, fun a c hc => (q.2.2 a c hc).moved hvm⟩
/-- a cell is written -/
theorem qR.set {b : Nat} {D : va_G} {U : State} {H H1 : Heap} {h : qH} {nx a : Nat} {c : qC} (q : qR b D U H h nx) (hb : b ≤ a) (hz : H1.size = H.size) (ho : ∀ x : Nat, x ≠ a → H1[x]? = H[x]?) (hc : q_at b D U H1 a c) : qR b D U H1 (va_up h a (some c)) nx := by
  refine ⟨hz.trans q.1, q.2.1, fun x d hd => ?_⟩
  by_cases hx : x = a
  · subst hx
    rw [va_up_self] at hd
    cases hd
    exact hc
  · rw [va_up_ne _ _ hx] at hd
    exact (q.2.2 x d hd).kept (fun _ => ho x hx) (fun y hy => ho y (fun e => by omega))
/-- a cell is made -/
theorem qR.push {b : Nat} {D : va_G} {U : State} {H H1 : Heap} {h : qH} {nx : Nat} {c : qC} (q : qR b D U H h nx) (hz : H1.size = nx + 1) (ho : ∀ x : Nat, x < nx → H1[x]? = H[x]?) (hc : q_at b D U H1 nx c) : qR b D U H1 (va_up h nx (some c)) (nx + 1) := by
  refine ⟨hz, Nat.le_succ_of_le q.2.1, fun x d hd => ?_⟩
  by_cases hx : x = nx
  · subst hx
    rw [va_up_self] at hd
    cases hd
    exact hc
  · rw [va_up_ne _ _ hx] at hd
    have hl := (q.2.2 x d hd).lt
    rw [q.1] at hl
    exact (q.2.2 x d hd).kept (fun _ => ho x hl) (fun y hy => ho y (Nat.lt_of_lt_of_le hy q.2.1))
/-! the words -/
def qws : List Cond := lw_tbl.filter goodWord
theorem qws_m {w : Cond} (i : Nat) (h : lw_tbl[i]? = some w) (hg : goodWord w = true) : w ∈ qws := List.mem_filter.mpr ⟨List.mem_of_getElem? h, hg⟩
theorem qw_p {w : Cond} (i : Nat) (h : (k2_sels lw_privs)[i]? = some w) (hg : goodWord w = true) : w ∈ qws := List.mem_filter.mpr ⟨List.mem_append_left _ (List.mem_of_getElem? h), hg⟩
theorem qw_t {w : Cond} (h : w ∈ tables_1) (hg : goodWord w = true) : w ∈ qws := List.mem_filter.mpr ⟨List.mem_append_right _ h, hg⟩
theorem qw_1 {w : Cond} (i : Nat) (h : tables_1_1[i]? = some w) (hg : goodWord w = true) : w ∈ qws := qw_t (List.mem_append_left _ (List.mem_of_getElem? h)) hg
theorem qw_2 {w : Cond} (i : Nat) (h : tables_1_2[i]? = some w) (hg : goodWord w = true) : w ∈ qws := qw_t (List.mem_append_right _ (List.mem_append_left _ (List.mem_of_getElem? h))) hg
theorem qw_3 {w : Cond} (i : Nat) (h : tables_1_3[i]? = some w) (hg : goodWord w = true) : w ∈ qws := qw_t (List.mem_append_right _ (List.mem_append_right _ (List.mem_append_left _ (List.mem_of_getElem? h)))) hg
theorem qw_4 {w : Cond} (i : Nat) (h : tables_1_4[i]? = some w) (hg : goodWord w = true) : w ∈ qws := qw_t (List.mem_append_right _ (List.mem_append_right _ (List.mem_append_right _ (List.mem_append_left _ (List.mem_of_getElem? h))))) hg
theorem qw_5 {w : Cond} (i : Nat) (h : tables_1_5[i]? = some w) (hg : goodWord w = true) : w ∈ qws := qw_t (List.mem_append_right _ (List.mem_append_right _ (List.mem_append_right _ (List.mem_append_right _ (List.mem_append_left _ (List.mem_of_getElem? h)))))) hg
theorem qw_6 {w : Cond} (i : Nat) (h : tables_1_6[i]? = some w) (hg : goodWord w = true) : w ∈ qws := qw_t (List.mem_append_right _ (List.mem_append_right _ (List.mem_append_right _ (List.mem_append_right _ (List.mem_append_right _ (List.mem_append_left _ (List.mem_of_getElem? h))))))) hg
theorem qw_7 {w : Cond} (i : Nat) (h : tables_1_7[i]? = some w) (hg : goodWord w = true) : w ∈ qws := qw_t (List.mem_append_right _ (List.mem_append_right _ (List.mem_append_right _ (List.mem_append_right _ (List.mem_append_right _ (List.mem_append_right _ (List.mem_append_left _ (List.mem_of_getElem? h)))))))) hg
theorem qw_8 {w : Cond} (i : Nat) (h : tables_1_8[i]? = some w) (hg : goodWord w = true) : w ∈ qws := qw_t (List.mem_append_right _ (List.mem_append_right _ (List.mem_append_right _ (List.mem_append_right _ (List.mem_append_right _ (List.mem_append_right _ (List.mem_append_right _ (List.mem_append_left _ (List.mem_of_getElem? h))))))))) hg
theorem qw_9 {w : Cond} (i : Nat) (h : tables_1_9[i]? = some w) (hg : goodWord w = true) : w ∈ qws := qw_t (List.mem_append_right _ (List.mem_append_right _ (List.mem_append_right _ (List.mem_append_right _ (List.mem_append_right _ (List.mem_append_right _ (List.mem_append_right _ (List.mem_append_right _ (List.mem_of_getElem? h))))))))) hg
theorem qws_good {w : Cond} (h : w ∈ qws) : (w.onTables && w.keeps) = true ∨ ∃ ty, w = .arrayClass ty := good_of_word (List.mem_filter.mp h).2
theorem qws_G {w : Cond} (h : w ∈ qws) : GoodIn qws (w :: qws) := by
  intro x hx
  rcases List.mem_cons.mp hx with rfl | hx
  · exact ⟨h, qws_good h⟩
  · exact ⟨hx, qws_good hx⟩
/-! what stays from the start on: statics, texts, links to nest mates, array classes -/
def qTx : List String := ["line", "dry", "back", "child", "free", "cut", "say", "out", "in", "prompt", "wait", "go", "heard", "gap", "houses", "wall", "book", "loud"]
def qNest : List (String × Nat × MethodName) := [(RX9, 47, yX0_init), (RX9, 48, yX1_init), (RX9, 49, yX3_init), (RX9, 50, yX10_init), (RX11, 22, yX7_init), (RX11, 29, yX8_init), (RX11, 36, yX6_init), (RX11, 43, yX5_init), (RX11, 50, yX4_init), (RX11, 57, yX2_init), (RX0, 58, yX11_isPerson), (RX8, 108, yX11_isPerson)]
def qArr : List String := [RX0, RX1, RX3, RX9, RX10]
def qSt : List (String × String) := [(RX7, "FIRST_WORD"), (RX7, "NUMBERS"), (RX7, "LEAST"), (RX7, "GREATEST")]
def qTab (i : Nat) : List Int32 := match i with
  | 0 => [0, 6, 13, 15, 19]
  | 1 => [4, 2, 2, 1, 1, 1, 1, 1, 1, 0, 0, 0, 0, 1, 0, 1, 2, 2, 2]
  | 2 => [0, 0, 0, 0, 0, 0, 0, 0, 0, 0, 0, 0, 0, 0, 0, 0, 0, 0, 0, 0, 1, 0, 0, 0, 0, 0, 0, 0, 0, 0, 0, 0, 0, 0, 0, 0, 0, 0, 0, 0, 0, 0, 0, 0, 0, 0, 0, 0, 0, 0, 0, 0, 0, 0, 0, 0, 0, 0, 0, 0, 2, 0, 0, 0, 0, 1, 0, 0, 0, 0, 0, 0, 0, 0, 0, 0]
  | _ => [19, 5, 9, 9, 5, 10, 0, 0, 19, 19, 0, 0, 5, 0, 0, 0, 9, 0, 0, 0, 9, 0, 0, 0, 19, 0, 0, 0, 5, 0, 0, 0, 5, 0, 0, 0, 0, 0, 0, 0, 0, 0, 0, 0, 0, 0, 0, 0, 0, 0, 0, 0, 5, 0, 0, 0, 0, 0, 0, 0, 9, 0, 0, 0, 7, 9, 0, 0, 8, 1, 0, 0, 8, 9, 0, 0]
def qG (b : Nat) (z : Nat → Nat) (U : State) (H : Heap) : Prop :=
  (∀ (i : Nat) (q : String × String), qSt[i]? = some q → va_Z q.1 q.2 "[I" (.ref (z i)) (qA b) U H ∧ va_T .int (z i) (qTab i).length (fun j => .int ((qTab i).getD j 0)) (qA b) U H) ∧ va_Z "java/lang/String" "COMPACT_STRINGS" "Z" (.int 1) (qA b) U H ∧ va_Zq "jdk/internal/util/Preconditions" "SIOOBE_FORMATTER" "Ljava/util/function/BiFunction;" (qA b) U H ∧
  (∀ (i : Nat) (tx : String), qTx[i]? = some tx → vk_R RX7 (88 + 2 * i) tx (z (4 + i)) U) ∧ (∀ q ∈ qNest, va_Nw (.methodLinkNest q.1 q.2.1 q.2.2 "CellarPrompter") U) ∧ ∀ C ∈ qArr, va_AO C U
theorem qG.warm {b : Nat} {z : Nat → Nat} {s U : State} {H : Heap} (hW : s.WarmedH U.vm) (h : qG b z s H) : qG b z U H :=
  ⟨fun i q hq => ⟨(h.1 i q hq).1.moved hW.alike, va_T.moved hW.alike (h.1 i q hq).2⟩, h.2.1.moved hW.alike, h.2.2.1.moved hW.alike, fun i tx hq => (h.2.2.2.1 i tx hq).warm hW, fun q hq => va_Nw.warmM hW (h.2.2.2.2.1 q hq), fun C hC => va_AO.moved hW.alike (h.2.2.2.2.2 C hC)⟩
theorem qG.kept {b : Nat} {z : Nat → Nat} {U : State} {H H1 : Heap} (h : qG b z U H) (hq : ∀ a : Nat, a < H.size → ¬ qA b a → H1[a]? = H[a]?) : qG b z U H1 :=
  ⟨fun i q hi => ⟨(h.1 i q hi).1.kept hq, (h.1 i q hi).2.kept hq⟩, h.2.1.kept hq, h.2.2.1.kept hq, h.2.2.2⟩
/-! a method's start and end; the machine at a place of a method -/
def qP (b : Nat) (D : va_G) (z : Nat → Nat) (h : qH) (nx : Nat) : State → Prop := fun U => va_K D vwCl [] U ∧ qG b z U U.heap ∧ qR b D U U.heap h nx
def qQ (b : Nat) (D : va_G) (F : Option Value → qH → Nat → Prop) : Array Value → State → Outcome → State → Prop := fun _ st o t => (∃ (r : Option Value) (h : qH) (nx : Nat), o = .returned r ∧ F r h nx ∧ qR b D t t.heap h nx) ∧ va_F (qA b) st t
def Me (l : Launch) (b : Nat) (D : va_G) (z : Nat → Nat) (y : MethodName) (cc : ByteArray) (nL : Nat) (ret : Option FieldType) (rm : Room) (as : List Value) (h : qH) (nx : Nat) (F : Option Value → qH → Nat → Prop) : Prop :=
  Met l y (.code y cc nL ret :: qws) rm (va_Pc as (qP b D z h nx)) (qQ b D F) rm.cells rm.slots (qA b)
def Go (l : Launch) (b : Nat) (D : va_G) (z : Nat → Nat) (y : MethodName) (cc : ByteArray) (nL : Nat) (ret : Option FieldType) (rm : Room) (F : Option Value → qH → Nat → Prop) (pc : Nat) (lv : List (Nat × Value)) (st : List Value) (h : qH) (nx k j : Nat) : Prop :=
  ∀ (p : Program) (e : Env) (s : State) (m : MethodId) (args : Array Value) (below : List Frame) (meth : Method) (c : Code) (H : Heap) (locs : List Loc) (ls : Array Slot),
    CallFix p m c cc nL s args qws y.cls → meth.sig.returnType = ret → meth.locks = false → (y.name = "<init>" → meth.name = "<init>") → va_K D vwCl [] s → qG b z s s.heap → va_S (qA b) s.heap H locs → qR b D s H h nx → lv_has ls nL lv →
    W p l e rm s m args below meth c H locs k j (MQ below (qQ b D F) args s rm.cells rm.slots (qA b)) (F0 m pc ls st)
theorem Me.of {l : Launch} {b : Nat} {D : va_G} {z : Nat → Nat} {y : MethodName} {cc : ByteArray} {nL : Nat} {ret : Option FieldType} {rm : Room} {as : List Value} {h : qH} {nx : Nat} {F : Option Value → qH → Nat → Prop} (hy : plainName y.cls = true) (hn : (lg_sl as).length ≤ nL) (k : Go l b D z y cc nL ret rm F 0 (lv_args 0 as) [] h nx 0 0) : Me l b D z y cc nL ret rm as h nx F := by
  refine Met.ofW (cc := cc) (maxL := nL) (ret := ret) hy rfl ?_
  intro p e s m args below meth c s₁ B hml hv
  obtain ⟨rfl, hK, hG, hR⟩ := hv
  rw [lg_entry_eq]
  exact k _ _ _ _ _ _ _ _ _ _ _ ⟨B.exec, B.bytes, hml, findClass_of_methodNamed B.named, fun w hw => atoms_spec B.pre w (List.mem_cons_of_mem _ hw)⟩ B.returns B.notSynchronized (fun hi => (name_of_methodNamed B.named B.method).1.trans hi) hK hG va_S.rf hR (lv_entry as hn)
