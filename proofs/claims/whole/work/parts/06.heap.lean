/-! ===== reads and writes of the abstract heap, as functions ===== -/
def q_fI (h : qH) (a ci k : Nat) : Option Int32 := match h a with
  | some (.inr (.inl (c, fs))) => if c = ci then (match fs[k]? with | some (.int x) => some x | _ => none) else none
  | _ => none
def q_fL (h : qH) (a ci k : Nat) : Option Int64 := match h a with
  | some (.inr (.inl (c, fs))) => if c = ci then (match fs[k]? with | some (.long x) => some x | _ => none) else none
  | _ => none
def q_fR (h : qH) (a ci k : Nat) : Option Nat := match h a with
  | some (.inr (.inl (c, fs))) => if c = ci then (match fs[k]? with | some (.ref x) => some x | _ => none) else none
  | _ => none
def q_ob (h : qH) (a ci : Nat) : Option Unit := match h a with
  | some (.inr (.inl (c, _))) => if c = ci then some () else none
  | _ => none
def q_put (h : qH) (a ci k : Nat) (v : Value) : Option qH := match h a with
  | some (.inr (.inl (c, fs))) => if c = ci ∧ k < fs.length then some (va_up h a (some (.inr (.inl (c, fs.set k v))))) else none
  | _ => none
def q_aI (h : qH) (ty : FieldType) (a : Nat) (i : Int32) : Option Int32 := match h a with
  | some (.inl (t, n, .inl f)) => if t = ty ∧ 0 ≤ i ∧ i.toNatClampNeg < n then some (f i.toNatClampNeg) else none
  | some (.inr (.inr (.inl (t, n, f)))) => if t = ty ∧ 0 ≤ i ∧ i.toNatClampNeg < n then some (f i.toNatClampNeg) else none
  | _ => none
def q_aL (h : qH) (a : Nat) (i : Int32) : Option Int64 := match h a with
  | some (.inl (t, n, .inr (.inl f))) => if t = .long ∧ 0 ≤ i ∧ i.toNatClampNeg < n then some (f i.toNatClampNeg) else none
  | _ => none
def q_aR (h : qH) (C : String) (a : Nat) (i : Int32) : Option (Option Nat) := match h a with
  | some (.inl (t, n, .inr (.inr (.inr (.inr f))))) => if t = .object C ∧ 0 ≤ i ∧ i.toNatClampNeg < n then some (f i.toNatClampNeg) else none
  | _ => none
def q_nar (ty : FieldType) (x : Int32) : Int32 := match ty with
  | .int => x
  | t => vp_nar t x
def q_sI (h : qH) (ty : FieldType) (a : Nat) (i x : Int32) : Option qH := match h a with
  | some (.inl (t, n, .inl f)) => if t = ty ∧ 0 ≤ i ∧ i.toNatClampNeg < n then some (va_up h a (some (.inl (t, n, .inl (upd f i.toNatClampNeg (q_nar ty x)))))) else none
  | _ => none
def q_sL (h : qH) (a : Nat) (i : Int32) (x : Int64) : Option qH := match h a with
  | some (.inl (t, n, .inr (.inl f))) => if t = .long ∧ 0 ≤ i ∧ i.toNatClampNeg < n then some (va_up h a (some (.inl (t, n, .inr (.inl (vp_updL f i.toNatClampNeg x)))))) else none
  | _ => none
def q_sR (h : qH) (ci : Nat) (C : String) (a : Nat) (i : Int32) (x : Nat) : Option qH := match h a with
  | some (.inl (t, n, .inr (.inr (.inr (.inr f))))) => if t = .object C ∧ 0 ≤ i ∧ i.toNatClampNeg < n ∧ q_ob h x ci = some () then some (va_up h a (some (.inl (t, n, .inr (.inr (.inr (.inr (va_up f i.toNatClampNeg (some x))))))))) else none
  | _ => none
def q_len (h : qH) (a : Nat) : Option Int32 := match h a with
  | some (.inl (_, n, _)) => some (Int32.ofNat n)
  | some (.inr (.inr (.inl (_, n, _)))) => some (Int32.ofNat n)
  | _ => none
def q_new (h : qH) (nx ci : Nat) (fs : List Value) : qH := va_up h nx (some (.inr (.inl (ci, fs))))
def q_nwI (h : qH) (nx : Nat) (ty : FieldType) (n : Nat) : qH := va_up h nx (some (.inl (ty, n, .inl (fun _ => 0))))
def q_nwL (h : qH) (nx n : Nat) : qH := va_up h nx (some (.inl (.long, n, .inr (.inl (fun _ => 0)))))
def q_nwR (h : qH) (nx : Nat) (C : String) (n : Nat) : qH := va_up h nx (some (.inl (.object C, n, .inr (.inr (.inr (.inr (fun _ => none)))))))
def q_cpI (h : qH) (ty : FieldType) (a0 : Nat) (sp : Int32) (a1 : Nat) (dp n : Int32) : Option qH := match h a0, h a1 with
  | some (.inl (t0, n0, .inl f)), some (.inl (t1, n1, .inl g)) => if t0 = ty ∧ t1 = ty ∧ 0 ≤ sp ∧ 0 ≤ dp ∧ 0 ≤ n ∧ sp.toNatClampNeg + n.toNatClampNeg ≤ n0 ∧ dp.toNatClampNeg + n.toNatClampNeg ≤ n1 ∧ (∀ i, i < n.toNatClampNeg → fits ty (.int (f (sp.toNatClampNeg + i))) = true) then some (va_up h a1 (some (.inl (t1, n1, .inl (va_cpy f g sp.toNatClampNeg dp.toNatClampNeg n.toNatClampNeg))))) else none
  | _, _ => none
def q_cpL (h : qH) (a0 : Nat) (sp : Int32) (a1 : Nat) (dp n : Int32) : Option qH := match h a0, h a1 with
  | some (.inl (t0, n0, .inr (.inl f))), some (.inl (t1, n1, .inr (.inl g))) => if t0 = .long ∧ t1 = .long ∧ 0 ≤ sp ∧ 0 ≤ dp ∧ 0 ≤ n ∧ sp.toNatClampNeg + n.toNatClampNeg ≤ n0 ∧ dp.toNatClampNeg + n.toNatClampNeg ≤ n1 then some (va_up h a1 (some (.inl (t1, n1, .inr (.inl (va_cpy f g sp.toNatClampNeg dp.toNatClampNeg n.toNatClampNeg)))))) else none
  | _, _ => none
/-- a boolean -/
def q_z (x : Int32) : Option Int32 := if x = 0 ∨ x = 1 then some x else none
theorem q_z_spec {x r : Int32} (hx : q_z x = some r) : r = x ∧ narrow .boolean (.int x) = .int x ∧ fits .boolean (.int x) = true := by
  unfold q_z at hx
  split at hx
  · next hc =>
    cases hx
    rcases hc with rfl | rfl
    · exact ⟨rfl, by decide +kernel, by decide +kernel⟩
    · exact ⟨rfl, by decide +kernel, by decide +kernel⟩
  · cases hx
/-- a loop: its step goes on, or ends -/
def q_lp {σ ρ : Type} (step : σ → Option (σ ⊕ ρ)) : Nat → σ → Option ρ
  | 0, _ => none
  | n + 1, s => match step s with
    | none => none
    | some (.inl s1) => q_lp step n s1
    | some (.inr r) => some r
def q_N : Nat := 1000000
theorem q_bind {α β : Type} {o : Option α} {f : α → Option β} {r : β} (hx : o.bind f = some r) : ∃ x, o = some x ∧ f x = some r := by
  cases o with
  | none => cases hx
  | some x => exact ⟨x, rfl, hx⟩
/-! what a read or write that succeeds says -/
theorem q_fI_spec {h : qH} {a ci k : Nat} {x : Int32} (hx : q_fI h a ci k = some x) : ∃ fs, h a = some (.inr (.inl (ci, fs))) ∧ fs[k]? = some (.int x) := by
  unfold q_fI at hx
  split at hx
  · next c fs hh =>
    split at hx
    · next hc =>
      subst hc
      split at hx
      · next y hy => cases hx; exact ⟨fs, hh, hy⟩
      · cases hx
    · cases hx
  · cases hx
theorem q_fL_spec {h : qH} {a ci k : Nat} {x : Int64} (hx : q_fL h a ci k = some x) : ∃ fs, h a = some (.inr (.inl (ci, fs))) ∧ fs[k]? = some (.long x) := by
  unfold q_fL at hx
  split at hx
  · next c fs hh =>
    split at hx
    · next hc =>
      subst hc
      split at hx
      · next y hy => cases hx; exact ⟨fs, hh, hy⟩
      · cases hx
    · cases hx
  · cases hx
theorem q_fR_spec {h : qH} {a ci k : Nat} {x : Nat} (hx : q_fR h a ci k = some x) : ∃ fs, h a = some (.inr (.inl (ci, fs))) ∧ fs[k]? = some (.ref x) := by
  unfold q_fR at hx
  split at hx
  · next c fs hh =>
    split at hx
    · next hc =>
      subst hc
      split at hx
      · next y hy => cases hx; exact ⟨fs, hh, hy⟩
      · cases hx
    · cases hx
  · cases hx
theorem q_ob_spec {h : qH} {a ci : Nat} {x : Unit} (hx : q_ob h a ci = some x) : ∃ fs, h a = some (.inr (.inl (ci, fs))) := by
  unfold q_ob at hx
  split at hx
  · next c fs hh =>
    split at hx
    · next hc => subst hc; exact ⟨fs, hh⟩
    · cases hx
  · cases hx
theorem q_put_spec {h h' : qH} {a ci k : Nat} {v : Value} (hx : q_put h a ci k v = some h') : ∃ fs, h a = some (.inr (.inl (ci, fs))) ∧ k < fs.length ∧ h' = va_up h a (some (.inr (.inl (ci, fs.set k v)))) := by
  unfold q_put at hx
  split at hx
  · next c fs hh =>
    split at hx
    · next hc =>
      obtain ⟨rfl, hk⟩ := hc
      cases hx
      exact ⟨fs, hh, hk, rfl⟩
    · cases hx
  · cases hx
theorem q_in {i : Int32} {n : Nat} (h0 : 0 ≤ i) (h1 : i.toNatClampNeg < n) : vp_in i n := fun q => q.elim (fun q => absurd h0 (Int32.not_le.mpr q)) (fun q => absurd h1 (Nat.not_lt.mpr q))
theorem q_aI_spec {h : qH} {ty : FieldType} {a : Nat} {i x : Int32} (hx : q_aI h ty a i = some x) : (∃ n f, h a = some (.inl (ty, n, .inl f)) ∧ vp_in i n ∧ f i.toNatClampNeg = x) ∨ ∃ n f, h a = some (.inr (.inr (.inl (ty, n, f)))) ∧ vp_in i n ∧ f i.toNatClampNeg = x := by
  unfold q_aI at hx
  split at hx
  · next t n f hh =>
    split at hx
    · next hc =>
      obtain ⟨rfl, h0, h1⟩ := hc
      cases hx
      exact Or.inl ⟨n, f, hh, q_in h0 h1, rfl⟩
    · cases hx
  · next t n f hh =>
    split at hx
    · next hc =>
      obtain ⟨rfl, h0, h1⟩ := hc
      cases hx
      exact Or.inr ⟨n, f, hh, q_in h0 h1, rfl⟩
    · cases hx
  · cases hx
theorem q_aL_spec {h : qH} {a : Nat} {i : Int32} {x : Int64} (hx : q_aL h a i = some x) : ∃ n f, h a = some (.inl (.long, n, .inr (.inl f))) ∧ vp_in i n ∧ f i.toNatClampNeg = x := by
  unfold q_aL at hx
  split at hx
  · next t n f hh =>
    split at hx
    · next hc =>
      obtain ⟨rfl, h0, h1⟩ := hc
      cases hx
      exact ⟨n, f, hh, q_in h0 h1, rfl⟩
    · cases hx
  · cases hx
theorem q_aR_spec {h : qH} {C : String} {a : Nat} {i : Int32} {x : Option Nat} (hx : q_aR h C a i = some x) : ∃ n f, h a = some (.inl (.object C, n, .inr (.inr (.inr (.inr f))))) ∧ vp_in i n ∧ f i.toNatClampNeg = x := by
  unfold q_aR at hx
  split at hx
  · next t n f hh =>
    split at hx
    · next hc =>
      obtain ⟨rfl, h0, h1⟩ := hc
      cases hx
      exact ⟨n, f, hh, q_in h0 h1, rfl⟩
    · cases hx
  · cases hx
theorem q_sI_spec {h h' : qH} {ty : FieldType} {a : Nat} {i x : Int32} (hx : q_sI h ty a i x = some h') : ∃ n f, h a = some (.inl (ty, n, .inl f)) ∧ vp_in i n ∧ h' = va_up h a (some (.inl (ty, n, .inl (upd f i.toNatClampNeg (q_nar ty x))))) := by
  unfold q_sI at hx
  split at hx
  · next t n f hh =>
    split at hx
    · next hc =>
      obtain ⟨rfl, h0, h1⟩ := hc
      cases hx
      exact ⟨n, f, hh, q_in h0 h1, rfl⟩
    · cases hx
  · cases hx
theorem q_sL_spec {h h' : qH} {a : Nat} {i : Int32} {x : Int64} (hx : q_sL h a i x = some h') : ∃ n f, h a = some (.inl (.long, n, .inr (.inl f))) ∧ vp_in i n ∧ h' = va_up h a (some (.inl (.long, n, .inr (.inl (vp_updL f i.toNatClampNeg x))))) := by
  unfold q_sL at hx
  split at hx
  · next t n f hh =>
    split at hx
    · next hc =>
      obtain ⟨rfl, h0, h1⟩ := hc
      cases hx
      exact ⟨n, f, hh, q_in h0 h1, rfl⟩
    · cases hx
  · cases hx
theorem q_sR_spec {h h' : qH} {ci : Nat} {C : String} {a : Nat} {i : Int32} {x : Nat} (hx : q_sR h ci C a i x = some h') : ∃ n f, h a = some (.inl (.object C, n, .inr (.inr (.inr (.inr f))))) ∧ vp_in i n ∧ q_ob h x ci = some () ∧ h' = va_up h a (some (.inl (.object C, n, .inr (.inr (.inr (.inr (va_up f i.toNatClampNeg (some x)))))))) := by
  unfold q_sR at hx
  split at hx
  · next t n f hh =>
    split at hx
    · next hc =>
      obtain ⟨rfl, h0, h1, h2⟩ := hc
      cases hx
      exact ⟨n, f, hh, q_in h0 h1, h2, rfl⟩
    · cases hx
  · cases hx
theorem q_len_spec {h : qH} {a : Nat} {x : Int32} (hx : q_len h a = some x) : (∃ ty n A, h a = some (.inl (ty, n, A)) ∧ Int32.ofNat n = x) ∨ ∃ ty n f, h a = some (.inr (.inr (.inl (ty, n, f)))) ∧ Int32.ofNat n = x := by
  unfold q_len at hx
  split at hx
  · next t n f hh => cases hx; exact Or.inl ⟨t, n, f, hh, rfl⟩
  · next t n f hh => cases hx; exact Or.inr ⟨t, n, f, hh, rfl⟩
  · cases hx
theorem q_cpI_spec {h h' : qH} {ty : FieldType} {a0 a1 : Nat} {sp dp n : Int32} (hx : q_cpI h ty a0 sp a1 dp n = some h') : ∃ n0 n1 f g, h a0 = some (.inl (ty, n0, .inl f)) ∧ h a1 = some (.inl (ty, n1, .inl g)) ∧ 0 ≤ sp ∧ 0 ≤ dp ∧ 0 ≤ n ∧ sp.toNatClampNeg + n.toNatClampNeg ≤ n0 ∧ dp.toNatClampNeg + n.toNatClampNeg ≤ n1 ∧ (∀ i, i < n.toNatClampNeg → fits ty (.int (f (sp.toNatClampNeg + i))) = true) ∧ h' = va_up h a1 (some (.inl (ty, n1, .inl (va_cpy f g sp.toNatClampNeg dp.toNatClampNeg n.toNatClampNeg)))) := by
  unfold q_cpI at hx
  split at hx
  · next t0 n0 f t1 n1 g hh0 hh1 =>
    split at hx
    · next hc =>
      obtain ⟨rfl, rfl, c1, c2, c3, c4, c5, c6⟩ := hc
      cases hx
      exact ⟨n0, n1, f, g, hh0, hh1, c1, c2, c3, c4, c5, c6, rfl⟩
    · cases hx
  · cases hx
theorem q_cpL_spec {h h' : qH} {a0 a1 : Nat} {sp dp n : Int32} (hx : q_cpL h a0 sp a1 dp n = some h') : ∃ n0 n1 f g, h a0 = some (.inl (.long, n0, .inr (.inl f))) ∧ h a1 = some (.inl (.long, n1, .inr (.inl g))) ∧ 0 ≤ sp ∧ 0 ≤ dp ∧ 0 ≤ n ∧ sp.toNatClampNeg + n.toNatClampNeg ≤ n0 ∧ dp.toNatClampNeg + n.toNatClampNeg ≤ n1 ∧ h' = va_up h a1 (some (.inl (.long, n1, .inr (.inl (va_cpy f g sp.toNatClampNeg dp.toNatClampNeg n.toNatClampNeg))))) := by
  unfold q_cpL at hx
  split at hx
  · next t0 n0 f t1 n1 g hh0 hh1 =>
    split at hx
    · next hc =>
      obtain ⟨rfl, rfl, c1, c2, c3, c4, c5⟩ := hc
      cases hx
      exact ⟨n0, n1, f, g, hh0, hh1, c1, c2, c3, c4, c5, rfl⟩
    · cases hx
  · cases hx
