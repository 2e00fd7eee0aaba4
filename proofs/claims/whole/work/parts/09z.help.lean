def q_nz (x : Int32) : Option Unit := if x = 0 then none else some ()
theorem q_nz_spec {x : Int32} {u : Unit} (hx : q_nz x = some u) : ¬ x = 0 := by
  intro h0
  unfold q_nz at hx
  rw [if_pos h0] at hx
  cases hx
def q_lnz (x : Int64) : Option Unit := if x = 0 then none else some ()
theorem q_lnz_spec {x : Int64} {u : Unit} (hx : q_lnz x = some u) : ¬ x = 0 := by
  intro h0
  unfold q_lnz at hx
  rw [if_pos h0] at hx
  cases hx
theorem q_en {α β : Type} {A : Option β} {f : α → Option β} {o : Option β} (hF : Option.elim (none : Option α) A f = o) : A = o := hF
theorem q_es {α β : Type} {x : α} {A : Option β} {f : α → Option β} {o : Option β} (hF : Option.elim (some x) A f = o) : f x = o := hF
theorem q_sl {α β γ : Type} {x : α} {f : α → Option γ} {g : β → Option γ} {o : Option γ} (hF : Sum.elim f g (Sum.inl x) = o) : f x = o := hF
theorem q_sr {α β γ : Type} {x : β} {f : α → Option γ} {g : β → Option γ} {o : Option γ} (hF : Sum.elim f g (Sum.inr x) = o) : g x = o := hF
theorem zn_0 : narrow .boolean (.int 0) = .int 0 := by decide +kernel
theorem zn_1 : narrow .boolean (.int 1) = .int 1 := by decide +kernel
theorem zf_0 : fits .boolean (.int 0) = true := by decide +kernel
theorem zf_1 : fits .boolean (.int 1) = true := by decide +kernel
/-! texts: length and signs -/
def q_sl_ (h : qH) (a : Nat) : Option Int32 := match h a with
  | some (.inr (.inr (.inr (_, n, _)))) => some (Int32.ofNat n)
  | _ => none
def q_sc_ (h : qH) (a : Nat) (i : Int32) : Option Int32 := match h a with
  | some (.inr (.inr (.inr (_, n, f)))) => if 0 ≤ i ∧ i < Int32.ofNat n ∧ i.toNatClampNeg < n ∧ narrow .char (.int (q_i2c (f i.toNatClampNeg &&& 255))) = .int (q_i2c (f i.toNatClampNeg &&& 255)) then some (q_i2c (f i.toNatClampNeg &&& 255)) else none
  | _ => none
def F_J0_length_8abf5 (h : qH) (a0 : Nat) : Option Int32 := q_sl_ h a0
def F_J0_charAt_5068e (h : qH) (a0 : Nat) (a1 : Int32) : Option Int32 := q_sc_ h a0 a1
def rm_J0_length_8abf5 : Room := { frames := 1, cells := 0, slots := 0, locals := 30 }
def rm_J0_charAt_5068e : Room := { frames := 3, cells := 0, slots := 0, locals := 90 }
theorem q_trecv {b : Nat} {D : va_G} {s : State} {H : Heap} {h : qH} {nx a : Nat} {x : Nat × Nat × (Nat → Int32)} (hR : qR b D s H h nx) (hh : h a = some (.inr (.inr (.inr x)))) : ∃ cellB : Cell, H[a]? = some cellB ∧ cellB.vm.isStatics = false ∧ s.vm.findClass "java/lang/String" = some cellB.cls := by
  obtain ⟨⟨cell, h1, h2, h3, -⟩, -⟩ := hR.2.2 a _ hh
  exact ⟨cell, h1, h2, h3⟩
theorem g_callT {l : Launch} {b : Nat} {D : va_G} {z : Nat → Nat} {y : MethodName} {cc : ByteArray} {nL : Nat} {ret : Option FieldType} {rm : Room} {F : Option Value → qH → Nat → Prop} {pc : Nat} {lv : List (Nat × Value)} {st : List Value} {h h1 : qH} {nx nx1 k j a : Nat} {index n maxL : Nat} {y' : MethodName} {bytes : ByteArray} {ret' : Option FieldType} {rm' : Room} {As st0 : List Value} {v : Value} {x : Nat × Nat × (Nat → Int32)}
    (hm : qM y' bytes maxL ret' n) (hl0 : Cond.methodLink y.cls index y' ∈ qws) (hi0 : Cond.instanceMethod y' ∈ qws) (hs0 : Cond.selects "java/lang/String" y' y' ∈ qws) (hh : h a = some (.inr (.inr (.inr x)))) (hM : Me l b D z y' bytes maxL ret' rm' (.ref a :: As) h nx (qE (some v) h1 nx1)) (hn : As.length = n) (hst : st0 = As.reverse ++ .ref a :: st) (hcat : (st.map fun v => v.category).sum ≤ 8) (hrm : rm'.frames + 1 ≤ rm.frames ∧ 8 + (maxL + 11) + rm'.locals ≤ rm.locals) (hz : rm'.cells = 0 ∧ rm'.slots = 0) (hf : k ≤ rm.cells ∧ j ≤ rm.slots) (hdg : decode cc pc = .ok (.invokevirtual index, 3)) (w : Go l b D z y cc nL ret rm F (pc + 3) lv (v :: st) h1 nx1 k j) : Go l b D z y cc nL ret rm F pc lv st0 h nx k j := by
  intro p e s m args below meth c H locs ls hC hr hlk hnm hK hG hS hR hl
  have hts := hC.2.2.2.2
  refine q_after (va_runV (As := As) (rest := st) hC hM ⟨q_callB hts hm hl0 hrm, hts _ hi0, hts _ hs0⟩ ⟨q_blind, q_trecv hR hh, q_pre hK hG hS hR⟩ rfl hn hl.1 hst (lv_room hcat) hdg (by rw [hz.1, hz.2]; exact hf)) hS (fun r h' nx' H1 locs1 hp hR' hS' => ?_)
  rw [hz.1, hz.2]
  obtain ⟨rfl, rfl, rfl⟩ := hp
  exact w _ _ _ _ _ _ _ _ _ _ _ hC hr hlk hnm hK hG hS' hR' hl
theorem q_sl_spec {h : qH} {a : Nat} {r : Int32} (hx : F_J0_length_8abf5 h a = some r) : ∃ x, h a = some (.inr (.inr (.inr x))) ∧ r = Int32.ofNat x.2.1 := by
  unfold F_J0_length_8abf5 q_sl_ at hx
  split at hx
  · next v n f hh => cases hx; exact ⟨_, hh, rfl⟩
  · cases hx
theorem q_sc_spec {h : qH} {a : Nat} {i r : Int32} (hx : F_J0_charAt_5068e h a i = some r) : ∃ x, h a = some (.inr (.inr (.inr x))) ∧ 0 ≤ i ∧ i < Int32.ofNat x.2.1 ∧ i.toNatClampNeg < x.2.1 ∧ narrow .char (.int (q_i2c (x.2.2 i.toNatClampNeg &&& 255))) = .int (q_i2c (x.2.2 i.toNatClampNeg &&& 255)) ∧ r = q_i2c (x.2.2 i.toNatClampNeg &&& 255) := by
  unfold F_J0_charAt_5068e q_sc_ at hx
  split at hx
  · next v n f hh =>
    split at hx
    · next hc => cases hx; exact ⟨_, hh, hc.1, hc.2.1, hc.2.2.1, hc.2.2.2, rfl⟩
    · cases hx
  · cases hx
