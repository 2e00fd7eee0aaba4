/-! the classes: their words, their field types, their names apart -/
theorem qcl_0 : ∀ w ∈ u_ws RX0 TX0 15, w ∈ lw_tbl ∧ goodWord w = true := by decide +kernel
theorem qcl_1 : ∀ w ∈ u_ws RX1 TX1 3, w ∈ lw_tbl ∧ goodWord w = true := by decide +kernel
theorem qcl_2 : ∀ w ∈ u_ws RX2 TX2 3, w ∈ lw_tbl ∧ goodWord w = true := by decide +kernel
theorem qcl_3 : ∀ w ∈ u_ws RX3 TX3 2, w ∈ lw_tbl ∧ goodWord w = true := by decide +kernel
theorem qcl_4 : ∀ w ∈ u_ws RX4 TX4 7, w ∈ lw_tbl ∧ goodWord w = true := by decide +kernel
theorem qcl_5 : ∀ w ∈ u_ws RX5 TX5 4, w ∈ lw_tbl ∧ goodWord w = true := by decide +kernel
theorem qcl_6 : ∀ w ∈ u_ws RX6 TX6 7, w ∈ lw_tbl ∧ goodWord w = true := by decide +kernel
theorem qcl_7 : ∀ w ∈ u_ws RX7 TX7 6, w ∈ lw_tbl ∧ goodWord w = true := by decide +kernel
theorem qcl_8 : ∀ w ∈ u_ws RX8 TX8 11, w ∈ lw_tbl ∧ goodWord w = true := by decide +kernel
theorem qcl_9 : ∀ w ∈ u_ws RX9 TX9 9, w ∈ lw_tbl ∧ goodWord w = true := by decide +kernel
theorem qcl_10 : ∀ w ∈ u_ws RX10 TX10 5, w ∈ lw_tbl ∧ goodWord w = true := by decide +kernel
theorem qcl_11 : ∀ w ∈ u_ws RX11 TX11 8, w ∈ lw_tbl ∧ goodWord w = true := by decide +kernel
theorem qcl_12 : ∀ w ∈ u_ws RX12 TX12 49, w ∈ lw_tbl ∧ goodWord w = true := by decide +kernel
theorem qcls : ∀ (ci : Nat) (q : vw_C), vwCl[ci]? = some q → ∀ w ∈ u_ws q.1 q.2.1 q.2.2, w ∈ qws := by
  intro ci q hq
  match ci, hq with
  | 0, hq => cases hq; exact fun w hw => List.mem_filter.mpr (qcl_0 w hw)
  | 1, hq => cases hq; exact fun w hw => List.mem_filter.mpr (qcl_1 w hw)
  | 2, hq => cases hq; exact fun w hw => List.mem_filter.mpr (qcl_2 w hw)
  | 3, hq => cases hq; exact fun w hw => List.mem_filter.mpr (qcl_3 w hw)
  | 4, hq => cases hq; exact fun w hw => List.mem_filter.mpr (qcl_4 w hw)
  | 5, hq => cases hq; exact fun w hw => List.mem_filter.mpr (qcl_5 w hw)
  | 6, hq => cases hq; exact fun w hw => List.mem_filter.mpr (qcl_6 w hw)
  | 7, hq => cases hq; exact fun w hw => List.mem_filter.mpr (qcl_7 w hw)
  | 8, hq => cases hq; exact fun w hw => List.mem_filter.mpr (qcl_8 w hw)
  | 9, hq => cases hq; exact fun w hw => List.mem_filter.mpr (qcl_9 w hw)
  | 10, hq => cases hq; exact fun w hw => List.mem_filter.mpr (qcl_10 w hw)
  | 11, hq => cases hq; exact fun w hw => List.mem_filter.mpr (qcl_11 w hw)
  | 12, hq => cases hq; exact fun w hw => List.mem_filter.mpr (qcl_12 w hw)
  | n + 13, hq => simp [vwCl] at hq
theorem qapt : ∀ (ci : Nat) (q : vw_C), vwCl[ci]? = some q → (∃ ty0 : Nat → FieldType, ∀ k, k < q.2.2 → parseFieldDescriptor (q.2.1 k).2.2.1 = some (ty0 k)) ∧ ∀ a, a < q.2.2 → ∀ b, b < q.2.2 → a ≠ b → (q.2.1 a).2.1 ≠ (q.2.1 b).2.1 := by
  intro ci q hq
  match ci, hq with
  | 0, hq => cases hq; exact ⟨⟨tyX0, tyX0_ok⟩, nmX0⟩
  | 1, hq => cases hq; exact ⟨⟨tyX1, tyX1_ok⟩, nmX1⟩
  | 2, hq => cases hq; exact ⟨⟨tyX2, tyX2_ok⟩, nmX2⟩
  | 3, hq => cases hq; exact ⟨⟨tyX3, tyX3_ok⟩, nmX3⟩
  | 4, hq => cases hq; exact ⟨⟨tyX4, tyX4_ok⟩, nmX4⟩
  | 5, hq => cases hq; exact ⟨⟨tyX5, tyX5_ok⟩, nmX5⟩
  | 6, hq => cases hq; exact ⟨⟨tyX6, tyX6_ok⟩, nmX6⟩
  | 7, hq => cases hq; exact ⟨⟨tyX7, tyX7_ok⟩, nmX7⟩
  | 8, hq => cases hq; exact ⟨⟨tyX8, tyX8_ok⟩, nmX8⟩
  | 9, hq => cases hq; exact ⟨⟨tyX9, tyX9_ok⟩, nmX9⟩
  | 10, hq => cases hq; exact ⟨⟨tyX10, tyX10_ok⟩, nmX10⟩
  | 11, hq => cases hq; exact ⟨⟨tyX11, tyX11_ok⟩, nmX11⟩
  | 12, hq => cases hq; exact ⟨⟨tyX12, tyX12_ok⟩, nmX12⟩
  | n + 13, hq => simp [vwCl] at hq
/-- a link to a field: of which class, which field, its type, whether final -/
def qFl (own : String) (index ci k : Nat) (ty : FieldType) (fin : Bool) : Prop := ∃ q : vw_C, vwCl[ci]? = some q ∧ k < q.2.2 ∧ Cond.fieldLink own index (q.2.1 k).1 (q.2.1 k).2.1 (q.2.1 k).2.2.1 ∈ qws ∧ parseFieldDescriptor (q.2.1 k).2.2.1 = some ty ∧ (q.2.1 k).2.2.2 = fin ∧ (fin = true → (q.2.1 k).1 = own ∨ True)
section QROW2
variable {l : Launch} {b : Nat} {D : va_G} {z : Nat → Nat} {y : MethodName} {cc : ByteArray} {nL : Nat} {ret : Option FieldType} {rm : Room} {F : Option Value → qH → Nat → Prop} {pc : Nat} {lv : List (Nat × Value)} {st : List Value} {h h' : qH} {nx k j a : Nat}
theorem g_getf {index ci kf : Nat} {ty : FieldType} {fin : Bool} {fs : List Value} {v : Value} (hf : qFl y.cls index ci kf ty fin) (hh : h a = some (.inr (.inl (ci, fs)))) (hv : fs[kf]? = some v) (hdg : decode cc pc = .ok (.getfield index, 3)) (w : Go l b D z y cc nL ret rm F (pc + 3) lv (v :: st) h nx k j) : Go l b D z y cc nL ret rm F pc lv (.ref a :: st) h nx k j := by
  intro p e s m args below meth c H locs ls hC hr hlk hnm hK hG hS hR hl
  obtain ⟨q, hq, hk, hlink, -, -, -⟩ := hf
  have hP : va_P D vwCl [(a, .inr (ci, fs))] H := fun i x hx => by
    cases i with
    | zero => cases hx; exact (hR.2.2 a _ hh).2
    | succ i => simp at hx
  exact va_get hC.1 hC.2.1 hC.2.2.2.2 (qcls ci q hq) hC.2.2.2.1 hK hP 0 rfl hq kf hk (hC.2.2.2.2 _ hlink) (fun x hx => hx) hv hdg (w _ _ _ _ _ _ _ _ _ _ _ hC hr hlk hnm hK hG hS hR hl)
theorem g_getfI {index ci kf : Nat} {ty : FieldType} {fin : Bool} {x : Int32} (hf : qFl y.cls index ci kf ty fin) (hx : q_fI h a ci kf = some x) (hdg : decode cc pc = .ok (.getfield index, 3)) (w : Go l b D z y cc nL ret rm F (pc + 3) lv (.int x :: st) h nx k j) : Go l b D z y cc nL ret rm F pc lv (.ref a :: st) h nx k j := by
  obtain ⟨fs, hh, hv⟩ := q_fI_spec hx
  exact g_getf hf hh hv hdg w
theorem g_getfL {index ci kf : Nat} {ty : FieldType} {fin : Bool} {x : Int64} (hf : qFl y.cls index ci kf ty fin) (hx : q_fL h a ci kf = some x) (hdg : decode cc pc = .ok (.getfield index, 3)) (w : Go l b D z y cc nL ret rm F (pc + 3) lv (.long x :: st) h nx k j) : Go l b D z y cc nL ret rm F pc lv (.ref a :: st) h nx k j := by
  obtain ⟨fs, hh, hv⟩ := q_fL_spec hx
  exact g_getf hf hh hv hdg w
theorem g_getfR {index ci kf : Nat} {ty : FieldType} {fin : Bool} {x : Nat} (hf : qFl y.cls index ci kf ty fin) (hx : q_fR h a ci kf = some x) (hdg : decode cc pc = .ok (.getfield index, 3)) (w : Go l b D z y cc nL ret rm F (pc + 3) lv (.ref x :: st) h nx k j) : Go l b D z y cc nL ret rm F pc lv (.ref a :: st) h nx k j := by
  obtain ⟨fs, hh, hv⟩ := q_fR_spec hx
  exact g_getf hf hh hv hdg w
theorem q_objset {U : State} {H H1 : Heap} {ci kf : Nat} {q : vw_C} {fs : List Value} {v : Value} {cell : Cell} (hc : vwCl[ci]? = some q) (q1 : H[a]? = some cell) (q2 : cell.cls = D.1 ci) (q3 : cell.vm = .none) (q4 : ∀ k, k < q.2.2 → cell.slots[D.2 ci k]? = some (vp_V fs k)) (hap : ∀ x y, x < q.2.2 → y < q.2.2 → x ≠ y → (D.2 ci) x ≠ (D.2 ci) y) (hk : kf < q.2.2) (hl : kf < fs.length) (hb : b ≤ a) (e1 : H1[a]? = some (cell.setSlot (D.2 ci kf) v)) : q_at b D U H1 a (.inr (.inl (ci, fs.set kf v))) :=
  ⟨hb, q, hc, t_OB.to (V := updV (vp_V fs) kf v) ⟨_, e1, q2, q3, t_set q4 hap hk v⟩ (fun j _ => vp_updV_set hl v j)⟩
theorem g_putf {index ci kf : Nat} {ty : FieldType} {v : Value} (hf : qFl y.cls index ci kf ty false) (hx : q_put h a ci kf v = some h') (hn : narrow ty v = v) (hfit : fits ty v = true) (hdg : decode cc pc = .ok (.putfield index, 3)) (w : Go l b D z y cc nL ret rm F (pc + 3) lv st h' nx k j) : Go l b D z y cc nL ret rm F pc lv (v :: .ref a :: st) h nx k j := by
  intro p e s m args below meth c H locs ls hC hr hlk hnm hK hG hS hR hl
  obtain ⟨q, hc, hk, hlink, hd, hfin, -⟩ := hf
  obtain ⟨fs, hh, hlen, rfl⟩ := q_put_spec hx
  obtain ⟨⟨ty0, hty⟩, hnm0⟩ := qapt ci q hc
  have hts := hC.2.2.2.2
  have hin := qcls ci q hc
  have hap := va_apart (own := y.cls) hts hin ty0 hty hnm0 hK hc
  obtain ⟨hb, r, h1, cell, q1, q2, q3, q4⟩ := hR.2.2 a _ hh
  have hr0 : r = q := Option.some.inj (h1.symm.trans hc)
  subst hr0
  obtain ⟨hSl, hfc, kC, hkC, hkind⟩ := hK.1 ci _ hc
  obtain ⟨cf, kf0, fi, f, hi, hsl⟩ := hSl kf hk
  have hlay := hts _ (hin _ (u_in_lay hk))
  unfold u_lay at hlay
  rw [if_neg (by rw [hfin]; decide)] at hlay
  have hst := (u_facts hfc hkC (u_lays hts hin hk) hi).1
  have h6 := u_store hfc hkC hkind hlay hi hd hn hfit
  refine W.putK hC.1 hC.2.1 (f := f) ⟨hC.2.2.2.1, hts _ hlink, ⟨_, _, _, hi⟩, hst⟩ (by rw [q2]; exact h6) q1 q3 (by rw [hsl]; exact k2_hasslot (q4 kf hk)) rfl rfl hdg fun H1 e1 e2 e3 => ?_
  rw [hsl] at e1 ⊢
  exact w _ _ _ _ _ _ _ _ _ _ _ hC hr hlk hnm hK hG (hS.put e2 e3 hb) (hR.set hb e2 e3 (q_objset hc q1 q2 q3 q4 hap hk hlen hb e1)) hl
theorem g_putF {index ci kf : Nat} {ty : FieldType} {v : Value} (hf : qFl y.cls index ci kf ty true) (hx : q_put h a ci kf v = some h') (hn : narrow ty v = v) (hfit : fits ty v = true) (hini : y.name = "<init>") (hdecl : ∀ q : vw_C, vwCl[ci]? = some q → (q.2.1 kf).1 = y.cls) (hdg : decode cc pc = .ok (.putfield index, 3)) (w : Go l b D z y cc nL ret rm F (pc + 3) lv st h' nx k j) : Go l b D z y cc nL ret rm F pc lv (v :: .ref a :: st) h nx k j := by
  intro p e s m args below meth c H locs ls hC hr hlk hnm hK hG hS hR hl
  obtain ⟨q, hc, hk, hlink, hd, hfin, -⟩ := hf
  obtain ⟨fs, hh, hlen, rfl⟩ := q_put_spec hx
  obtain ⟨⟨ty0, hty⟩, hnm0⟩ := qapt ci q hc
  have hts := hC.2.2.2.2
  have hin := qcls ci q hc
  have hap := va_apart (own := y.cls) hts hin ty0 hty hnm0 hK hc
  obtain ⟨hb, r, h1, cell, q1, q2, q3, q4⟩ := hR.2.2 a _ hh
  have hr0 : r = q := Option.some.inj (h1.symm.trans hc)
  subst hr0
  obtain ⟨hSl, hfc, kC, hkC, hkind⟩ := hK.1 ci _ hc
  obtain ⟨cf, kf0, fi, f, hi, hsl⟩ := hSl kf hk
  have hlay := hts _ (hin _ (u_in_lay hk))
  unfold u_lay at hlay
  rw [if_pos hfin] at hlay
  have hst := (u_facts hfc hkC (u_lays hts hin hk) hi).1
  have hcf : m.cls = cf := by
    obtain ⟨_, _, c', _, _, _, -, -, hf', -, -, -, hown2, -⟩ := Cond.laysFinal_spec hlay
    have e1 : c' = cf := by have := hi.symm.trans hf'; simp at this; exact this.1.symm
    rw [hdecl _ hc] at hown2
    rw [← e1]; exact Option.some.inj (hC.2.2.2.1.symm.trans hown2)
  have h6 := u_fits hfc hkC hkind (Or.inr hlay) hi hd hn hfit
  refine W.putFinK hC.1 hC.2.1 hC.2.2.2.1 (hts _ hlink) hi hst hcf (hnm hini) (by rw [q2]; exact h6) q1 q3 (by rw [hsl]; exact k2_hasslot (q4 kf hk)) rfl rfl hdg fun H1 e1 e2 e3 => ?_
  rw [hsl] at e1 ⊢
  exact w _ _ _ _ _ _ _ _ _ _ _ hC hr hlk hnm hK hG (hS.put e2 e3 hb) (hR.set hb e2 e3 (q_objset hc q1 q2 q3 q4 hap hk hlen hb e1)) hl
theorem g_iald {i x : Int32} (hx : q_aI h .int a i = some x) (hdg : decode cc pc = .ok (.iaload, 1)) (w : Go l b D z y cc nL ret rm F (pc + 1) lv (.int x :: st) h nx k j) : Go l b D z y cc nL ret rm F pc lv (.int i :: .ref a :: st) h nx k j := by
  intro p e s m args below meth c H locs ls hC hr hlk hnm hK hG hS hR hl
  rcases q_aI_spec hx with ⟨n, f, hh, hin, rfl⟩ | ⟨n, f, hh, hin, rfl⟩
  · obtain ⟨hb, cA, h1, h2, h3⟩ := hR.2.2 a _ hh
    have hlt : i.toNatClampNeg < n := Nat.not_le.mp fun q => hin (Or.inr q)
    exact W.iald (v := .int (f i.toNatClampNeg)) hC.1 hC.2.1 h1 (h2 n (fun j => .int (f j))) (fun q => by cases q) (by show ¬ (i < 0 ∨ (arrV _ _ _).slots.size ≤ _); rw [arrV_size]; exact hin) (by show (arrV _ _ _).slots[_]? = _; rw [arrV_read _ _ hlt]) rfl rfl hdg (w _ _ _ _ _ _ _ _ _ _ _ hC hr hlk hnm hK hG hS hR hl)
  · obtain ⟨cell, h1, h2, h3, h4, -, h5, -⟩ := hR.2.2 a _ hh
    have hlt : i.toNatClampNeg < n := Nat.not_le.mp fun q => hin (Or.inr q)
    exact W.iald (v := .int (f i.toNatClampNeg)) hC.1 hC.2.1 h1 h2 h3 (fun q => hin (q.imp id (fun q => Nat.le_trans h4 q))) (h5 _ hlt) rfl rfl hdg (w _ _ _ _ _ _ _ _ _ _ _ hC hr hlk hnm hK hG hS hR hl)
theorem g_bald {i x : Int32} (hx : q_aI h .byte a i = some x) (hdg : decode cc pc = .ok (.baload, 1)) (w : Go l b D z y cc nL ret rm F (pc + 1) lv (.int x :: st) h nx k j) : Go l b D z y cc nL ret rm F pc lv (.int i :: .ref a :: st) h nx k j := by
  intro p e s m args below meth c H locs ls hC hr hlk hnm hK hG hS hR hl
  rcases q_aI_spec hx with ⟨n, f, hh, hin, rfl⟩ | ⟨n, f, hh, hin, rfl⟩
  · obtain ⟨hb, cA, h1, h2, h3⟩ := hR.2.2 a _ hh
    have hlt : i.toNatClampNeg < n := Nat.not_le.mp fun q => hin (Or.inr q)
    exact W.bald (v := .int (f i.toNatClampNeg)) hC.1 hC.2.1 h1 (h2 n (fun j => .int (f j))) (fun q => by cases q) (by show ¬ (i < 0 ∨ (arrV _ _ _).slots.size ≤ _); rw [arrV_size]; exact hin) (by show (arrV _ _ _).slots[_]? = _; rw [arrV_read _ _ hlt]) rfl rfl hdg (w _ _ _ _ _ _ _ _ _ _ _ hC hr hlk hnm hK hG hS hR hl)
  · obtain ⟨cell, h1, h2, h3, h4, -, h5, -⟩ := hR.2.2 a _ hh
    have hlt : i.toNatClampNeg < n := Nat.not_le.mp fun q => hin (Or.inr q)
    exact W.bald (v := .int (f i.toNatClampNeg)) hC.1 hC.2.1 h1 h2 h3 (fun q => hin (q.imp id (fun q => Nat.le_trans h4 q))) (h5 _ hlt) rfl rfl hdg (w _ _ _ _ _ _ _ _ _ _ _ hC hr hlk hnm hK hG hS hR hl)
theorem g_zald {i x : Int32} (hx : q_aI h .boolean a i = some x) (hdg : decode cc pc = .ok (.baload, 1)) (w : Go l b D z y cc nL ret rm F (pc + 1) lv (.int x :: st) h nx k j) : Go l b D z y cc nL ret rm F pc lv (.int i :: .ref a :: st) h nx k j := by
  intro p e s m args below meth c H locs ls hC hr hlk hnm hK hG hS hR hl
  rcases q_aI_spec hx with ⟨n, f, hh, hin, rfl⟩ | ⟨n, f, hh, hin, rfl⟩
  · obtain ⟨hb, cA, h1, h2, h3⟩ := hR.2.2 a _ hh
    have hlt : i.toNatClampNeg < n := Nat.not_le.mp fun q => hin (Or.inr q)
    exact W.zald (v := .int (f i.toNatClampNeg)) hC.1 hC.2.1 h1 (h2 n (fun j => .int (f j))) (fun q => by cases q) (by show ¬ (i < 0 ∨ (arrV _ _ _).slots.size ≤ _); rw [arrV_size]; exact hin) (by show (arrV _ _ _).slots[_]? = _; rw [arrV_read _ _ hlt]) rfl rfl hdg (w _ _ _ _ _ _ _ _ _ _ _ hC hr hlk hnm hK hG hS hR hl)
  · obtain ⟨cell, h1, h2, h3, h4, -, h5, -⟩ := hR.2.2 a _ hh
    have hlt : i.toNatClampNeg < n := Nat.not_le.mp fun q => hin (Or.inr q)
    exact W.zald (v := .int (f i.toNatClampNeg)) hC.1 hC.2.1 h1 h2 h3 (fun q => hin (q.imp id (fun q => Nat.le_trans h4 q))) (h5 _ hlt) rfl rfl hdg (w _ _ _ _ _ _ _ _ _ _ _ hC hr hlk hnm hK hG hS hR hl)
theorem g_lald {i : Int32} {x : Int64} (hx : q_aL h a i = some x) (hdg : decode cc pc = .ok (.laload, 1)) (w : Go l b D z y cc nL ret rm F (pc + 1) lv (.long x :: st) h nx k j) : Go l b D z y cc nL ret rm F pc lv (.int i :: .ref a :: st) h nx k j := by
  intro p e s m args below meth c H locs ls hC hr hlk hnm hK hG hS hR hl
  obtain ⟨n, f, hh, hin, rfl⟩ := q_aL_spec hx
  obtain ⟨hb, cA, h1, h2, h3⟩ := hR.2.2 a _ hh
  have hlt : i.toNatClampNeg < n := Nat.not_le.mp fun q => hin (Or.inr q)
  exact W.lald (v := .long (f i.toNatClampNeg)) hC.1 hC.2.1 h1 (h2 n (fun j => .long (f j))) (fun q => by cases q) (by show ¬ (i < 0 ∨ (arrV _ _ _).slots.size ≤ _); rw [arrV_size]; exact hin) (by show (arrV _ _ _).slots[_]? = _; rw [arrV_read _ _ hlt]) rfl rfl hdg (w _ _ _ _ _ _ _ _ _ _ _ hC hr hlk hnm hK hG hS hR hl)
theorem g_aald {i : Int32} {C : String} {x : Option Nat} (hx : q_aR h C a i = some x) (hdg : decode cc pc = .ok (.aaload, 1)) (w : Go l b D z y cc nL ret rm F (pc + 1) lv (va_rf x :: st) h nx k j) : Go l b D z y cc nL ret rm F pc lv (.int i :: .ref a :: st) h nx k j := by
  intro p e s m args below meth c H locs ls hC hr hlk hnm hK hG hS hR hl
  obtain ⟨n, f, hh, hin, rfl⟩ := q_aR_spec hx
  obtain ⟨hb, cA, h1, h2, h3⟩ := hR.2.2 a _ hh
  have hlt : i.toNatClampNeg < n := Nat.not_le.mp fun q => hin (Or.inr q)
  exact W.aald (v := va_rf (f i.toNatClampNeg)) (ty := .object C) hC.1 hC.2.1 h1 (h2 n (fun j => va_rf (f j))) rfl (fun q => by cases q) (by show ¬ (i < 0 ∨ (arrV _ _ _).slots.size ≤ _); rw [arrV_size]; exact hin) (by show (arrV _ _ _).slots[_]? = _; rw [arrV_read _ _ hlt]) rfl rfl hdg (w _ _ _ _ _ _ _ _ _ _ _ hC hr hlk hnm hK hG hS hR hl)
theorem g_alen {x : Int32} (hx : q_len h a = some x) (hdg : decode cc pc = .ok (.arraylength, 1)) (w : Go l b D z y cc nL ret rm F (pc + 1) lv (.int x :: st) h nx k j) : Go l b D z y cc nL ret rm F pc lv (.ref a :: st) h nx k j := by
  intro p e s m args below meth c H locs ls hC hr hlk hnm hK hG hS hR hl
  rcases q_len_spec hx with ⟨ty, n, A, hh, rfl⟩ | ⟨ty, n, f, hh, rfl⟩
  · obtain ⟨hb, cA, h1, h2, h3⟩ := hR.2.2 a _ hh
    have hex : ∃ g : Nat → Value, vp_cell cA (n, A) = arrV cA n g := by
      match A with
      | .inl f => exact ⟨_, vp_cell_i cA n f⟩
      | .inr (.inl f) => exact ⟨_, vp_cell_l cA n f⟩
      | .inr (.inr (.inl f)) => exact ⟨_, vp_cell_f cA n f⟩
      | .inr (.inr (.inr (.inl f))) => exact ⟨_, vp_cell_d cA n f⟩
      | .inr (.inr (.inr (.inr f))) => exact ⟨_, vp_cell_q cA n f⟩
    obtain ⟨g, hg⟩ := hex
    dsimp only at h1
    rw [hg] at h1
    exact W.alen (ty := ty) hC.1 hC.2.1 h1 (h2 n g) (by rw [arrV_size]) rfl rfl hdg (w _ _ _ _ _ _ _ _ _ _ _ hC hr hlk hnm hK hG hS hR hl)
  · obtain ⟨cell, h1, h2, h3, h4, h5, -⟩ := hR.2.2 a _ hh
    exact W.alen (ty := ty) hC.1 hC.2.1 h1 h2 h5 rfl rfl hdg (w _ _ _ _ _ _ _ _ _ _ _ hC hr hlk hnm hK hG hS hR hl)
theorem g_iast {i x : Int32} (hx : q_sI h .int a i x = some h') (hdg : decode cc pc = .ok (.iastore, 1)) (w : Go l b D z y cc nL ret rm F (pc + 1) lv st h' nx k j) : Go l b D z y cc nL ret rm F pc lv (.int x :: .int i :: .ref a :: st) h nx k j := by
  intro p e s m args below meth c H locs ls hC hr hlk hnm hK hG hS hR hl
  obtain ⟨n, f, hh, hin, rfl⟩ := q_sI_spec hx
  obtain ⟨hb, cA, h1, h2, h3⟩ := hR.2.2 a _ hh
  refine W.iast hC.1 hC.2.1 h1 (h2 n (fun j => .int (f j))) (fun q => by cases q) (by show ¬ (i < 0 ∨ (arrV _ _ _).slots.size ≤ _); rw [arrV_size]; exact hin) rfl rfl hdg fun H1 e z0 oq => ?_
  refine w _ _ _ _ _ _ _ _ _ _ _ hC hr hlk hnm hK hG (hS.put z0 oq hb) (hR.set hb z0 oq ⟨hb, cA, ?_, h2, h3⟩) hl
  dsimp only
  rw [e]
  rw [vp_cell_i, vp_cell_i, arrV_store]
  congr 2
  funext q
  by_cases hq : q = i.toNatClampNeg
  · subst hq
    simp [updV, upd, vp_nar, q_nar]
    try rfl
  · simp [updV, upd, hq]
theorem g_bast {i x : Int32} (hx : q_sI h .byte a i x = some h') (hdg : decode cc pc = .ok (.bastore, 1)) (w : Go l b D z y cc nL ret rm F (pc + 1) lv st h' nx k j) : Go l b D z y cc nL ret rm F pc lv (.int x :: .int i :: .ref a :: st) h nx k j := by
  intro p e s m args below meth c H locs ls hC hr hlk hnm hK hG hS hR hl
  obtain ⟨n, f, hh, hin, rfl⟩ := q_sI_spec hx
  obtain ⟨hb, cA, h1, h2, h3⟩ := hR.2.2 a _ hh
  refine W.bast hC.1 hC.2.1 h1 (h2 n (fun j => .int (f j))) (fun q => by cases q) (by show ¬ (i < 0 ∨ (arrV _ _ _).slots.size ≤ _); rw [arrV_size]; exact hin) rfl rfl hdg fun H1 e z0 oq => ?_
  refine w _ _ _ _ _ _ _ _ _ _ _ hC hr hlk hnm hK hG (hS.put z0 oq hb) (hR.set hb z0 oq ⟨hb, cA, ?_, h2, h3⟩) hl
  dsimp only
  rw [e]
  rw [vp_cell_i, vp_cell_i, arrV_store]
  congr 2
  funext q
  by_cases hq : q = i.toNatClampNeg
  · subst hq
    simp [updV, upd, vp_nar, q_nar]
    try rfl
  · simp [updV, upd, hq]
theorem g_zast {i x : Int32} (hx : q_sI h .boolean a i x = some h') (hdg : decode cc pc = .ok (.bastore, 1)) (w : Go l b D z y cc nL ret rm F (pc + 1) lv st h' nx k j) : Go l b D z y cc nL ret rm F pc lv (.int x :: .int i :: .ref a :: st) h nx k j := by
  intro p e s m args below meth c H locs ls hC hr hlk hnm hK hG hS hR hl
  obtain ⟨n, f, hh, hin, rfl⟩ := q_sI_spec hx
  obtain ⟨hb, cA, h1, h2, h3⟩ := hR.2.2 a _ hh
  refine W.zast hC.1 hC.2.1 h1 (h2 n (fun j => .int (f j))) (fun q => by cases q) (by show ¬ (i < 0 ∨ (arrV _ _ _).slots.size ≤ _); rw [arrV_size]; exact hin) rfl rfl hdg fun H1 e z0 oq => ?_
  refine w _ _ _ _ _ _ _ _ _ _ _ hC hr hlk hnm hK hG (hS.put z0 oq hb) (hR.set hb z0 oq ⟨hb, cA, ?_, h2, h3⟩) hl
  dsimp only
  rw [e]
  rw [vp_cell_i, vp_cell_i, arrV_store]
  congr 2
  funext q
  by_cases hq : q = i.toNatClampNeg
  · subst hq
    simp [updV, upd, vp_nar, q_nar]
    try rfl
  · simp [updV, upd, hq]
theorem g_last {i : Int32} {x : Int64} (hx : q_sL h a i x = some h') (hdg : decode cc pc = .ok (.lastore, 1)) (w : Go l b D z y cc nL ret rm F (pc + 1) lv st h' nx k j) : Go l b D z y cc nL ret rm F pc lv (.long x :: .int i :: .ref a :: st) h nx k j := by
  intro p e s m args below meth c H locs ls hC hr hlk hnm hK hG hS hR hl
  obtain ⟨n, f, hh, hin, rfl⟩ := q_sL_spec hx
  obtain ⟨hb, cA, h1, h2, h3⟩ := hR.2.2 a _ hh
  refine W.last hC.1 hC.2.1 h1 (h2 n (fun j => .long (f j))) (fun q => by cases q) (by show ¬ (i < 0 ∨ (arrV _ _ _).slots.size ≤ _); rw [arrV_size]; exact hin) rfl rfl hdg fun H1 e z0 oq => ?_
  refine w _ _ _ _ _ _ _ _ _ _ _ hC hr hlk hnm hK hG (hS.put z0 oq hb) (hR.set hb z0 oq ⟨hb, cA, ?_, h2, h3⟩) hl
  dsimp only
  rw [e]
  rw [vp_cell_l, vp_cell_l, arrV_store]
  congr 2
  funext q
  by_cases hq : q = i.toNatClampNeg
  · subst hq
    simp [updV, vp_updL]
  · simp [updV, vp_updL, hq]
theorem g_aast {ci : Nat} {r : vw_C} {i : Int32} {C : String} {x : Nat} (hc : vwCl[ci]? = some r) (hCr : r.1 = C) (hx : q_sR h ci C a i x = some h') (hdg : decode cc pc = .ok (.aastore, 1)) (w : Go l b D z y cc nL ret rm F (pc + 1) lv st h' nx k j) : Go l b D z y cc nL ret rm F pc lv (.ref x :: .int i :: .ref a :: st) h nx k j := by
  intro p e s m args below meth c H locs ls hC hr hlk hnm hK hG hS hR hl
  subst hCr
  obtain ⟨n, f, hh, hin, hob, rfl⟩ := q_sR_spec hx
  obtain ⟨hb, cA, h1, h2, h3⟩ := hR.2.2 a _ hh
  obtain ⟨fs, ho⟩ := q_ob_spec hob
  have hlt : i.toNatClampNeg < n := Nat.not_le.mp fun q => hin (Or.inr q)
  have h0 : ¬ i < 0 := fun q => hin (Or.inl q)
  obtain ⟨-, r', hr', cellV, g1, g2, g3, -⟩ := hR.2.2 x _ ho
  have hcls := (hK.1 ci r hc).2
  obtain ⟨kA, comp, k1, k2, k3, k4⟩ := h3
  have hcomp : comp = D.1 ci := Option.some.inj (k3.symm.trans hcls.1)
  subst hcomp
  obtain ⟨kC, hkC, -⟩ := hcls.2
  refine W.aast hC.1 hC.2.1 h1 (fun q h => by cases h) (fun h => by cases h) k1 k2 rfl hkC ⟨h0, by show _ < (arrV _ _ _).slots.size; rw [arrV_size]; exact hlt⟩ g1 (fun q h => by rw [g3] at h; cases h) (by rw [g2]; exact hkC) (by rw [g2]; exact va_assign hcls) rfl rfl hdg fun H1 e z0 oq => ?_
  refine w _ _ _ _ _ _ _ _ _ _ _ hC hr hlk hnm hK hG (hS.put z0 oq hb) (hR.set hb z0 oq ⟨hb, cA, ?_, h2, ⟨kA, _, k1, k2, k3, k4⟩⟩) hl
  dsimp only
  rw [e]
  rw [vp_cell_q, vp_cell_q, arrV_store]
  congr 2
  funext q
  by_cases hq : q = i.toNatClampNeg
  · subst hq
    simp [updV, va_up, va_rf]
  · simp [updV, va_up, hq]
end QROW2
