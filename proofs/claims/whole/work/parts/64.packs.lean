/-! ===== layouts, packs of reads, writes (laid by wip/whole/packs.py) ===== -/
def evL : List (Nat × Nat) := [(1, 40), (1, 40), (0, 0)]
def fiL : List (Nat × Nat) := [(3, 240), (3, 240), (1, 240)]
def lgL : List (Nat × Nat) := [(1, 12), (0, 0)]
def mgL : List (Nat × Nat) := [(1, 12), (1, 12), (1, 169), (1, 24), (0, 0), (0, 0), (0, 0)]
def odL : List (Nat × Nat) := [(3, 20), (3, 20), (2, 0), (2, 0)]
def ptL : List (Nat × Nat) := [(1, 420), (1, 200), (1, 200), (3, 20), (3, 20), (1, 4), (1, 4)]
def rdL : List (Nat × Nat) := [(1, 601), (1, 601), (1, 601), (0, 0), (0, 0), (0, 0)]
def stL : List (Nat × Nat) := [(1, 6), (1, 6), (0, 0), (0, 0), (0, 0), (0, 0), (0, 0), (0, 0), (0, 0), (0, 0), (0, 0)]
def twL : List (Nat × Nat) := [(1, 9), (1, 9), (1, 9), (1, 9), (0, 0)]
theorem q_ixI {n : Nat} {f : Nat → Int32} {g : Int32 → Option Int32} (hg : ∀ i : Int32, 0 ≤ i → i.toNatClampNeg < n → g i = some (f i.toNatClampNeg)) {i : Nat} (hi : i < n) (hn : n < 2 ^ 31) : g (nI i) = some (f i) := by
  have := hg (nI i) (nI_nn (by omega)) (by rw [nI_cl (by omega)]; exact hi)
  rw [nI_cl (by omega)] at this
  exact this
theorem q_ixL {n : Nat} {f : Nat → Int64} {g : Int32 → Option Int64} (hg : ∀ i : Int32, 0 ≤ i → i.toNatClampNeg < n → g i = some (f i.toNatClampNeg)) {i : Nat} (hi : i < n) (hn : n < 2 ^ 31) : g (nI i) = some (f i) := by
  have := hg (nI i) (nI_nn (by omega)) (by rw [nI_cl (by omega)]; exact hi)
  rw [nI_cl (by omega)] at this
  exact this
section PK
variable {h : qH} {a : Nat} {A : Nat → Nat → Int32} {B : Nat → Nat → Int64} {I : Nat → Int32} {J : Nat → Int64}
theorem X0_Z : obZ bkL = 12 := rfl
theorem X0_rd (o : OB h a 0 bkL A B I J) : q_ob h a 0 = some () ∧ q_fR h a 0 0 = some (a + 1) ∧ q_len h (a + 1) = some (nI 20) ∧ (∀ i, i < 20 → q_aI h .int (a + 1) (nI i) = some (A 0 i)) ∧ q_fR h a 0 1 = some (a + 2) ∧ q_len h (a + 2) = some (nI 20) ∧ (∀ i, i < 20 → q_aI h .int (a + 2) (nI i) = some (A 1 i)) ∧ q_fR h a 0 2 = some (a + 3) ∧ q_len h (a + 3) = some (nI 20) ∧ (∀ i, i < 20 → q_aI h .int (a + 3) (nI i) = some (A 2 i)) ∧ q_fR h a 0 3 = some (a + 4) ∧ q_len h (a + 4) = some (nI 20) ∧ (∀ i, i < 20 → q_aI h .int (a + 4) (nI i) = some (A 3 i)) ∧ q_fR h a 0 4 = some (a + 5) ∧ q_len h (a + 5) = some (nI 20) ∧ (∀ i, i < 20 → q_aI h .int (a + 5) (nI i) = some (A 4 i)) ∧ q_fR h a 0 5 = some (a + 6) ∧ q_len h (a + 6) = some (nI 8) ∧ (∀ i, i < 8 → q_aI h .int (a + 6) (nI i) = some (A 5 i)) ∧ q_fR h a 0 6 = some (a + 7) ∧ q_len h (a + 7) = some (nI 8) ∧ (∀ i, i < 8 → q_aI h .int (a + 7) (nI i) = some (A 6 i)) ∧ q_fR h a 0 7 = some (a + 8) ∧ q_len h (a + 8) = some (nI 6) ∧ (∀ i, i < 6 → q_aI h .int (a + 8) (nI i) = some (A 7 i)) ∧ q_fR h a 0 8 = some (a + 9) ∧ q_len h (a + 9) = some (nI 6) ∧ (∀ i, i < 6 → q_aI h .int (a + 9) (nI i) = some (A 8 i)) ∧ q_fR h a 0 9 = some (a + 10) ∧ q_len h (a + 10) = some (nI 400) ∧ (∀ i, i < 400 → q_aI h .int (a + 10) (nI i) = some (A 9 i)) ∧ q_fR h a 0 10 = some (a + 11) ∧ q_len h (a + 11) = some (nI 20) ∧ (∀ i, i < 20 → q_aI h .int (a + 11) (nI i) = some (A 10 i)) ∧ q_fI h a 0 11 = some (I 11) ∧ q_fI h a 0 12 = some (I 12) ∧ q_fI h a 0 13 = some (I 13) ∧ q_fI h a 0 14 = some (I 14) :=
  ⟨o.ob, o.fR (k := 0) rfl rfl, o.len (k := 0) rfl rfl, fun i hi => q_ixI (fun i h0 h1 => o.aI (k := 0) rfl h0 h1) hi (by decide), o.fR (k := 1) rfl rfl, o.len (k := 1) rfl rfl, fun i hi => q_ixI (fun i h0 h1 => o.aI (k := 1) rfl h0 h1) hi (by decide), o.fR (k := 2) rfl rfl, o.len (k := 2) rfl rfl, fun i hi => q_ixI (fun i h0 h1 => o.aI (k := 2) rfl h0 h1) hi (by decide), o.fR (k := 3) rfl rfl, o.len (k := 3) rfl rfl, fun i hi => q_ixI (fun i h0 h1 => o.aI (k := 3) rfl h0 h1) hi (by decide), o.fR (k := 4) rfl rfl, o.len (k := 4) rfl rfl, fun i hi => q_ixI (fun i h0 h1 => o.aI (k := 4) rfl h0 h1) hi (by decide), o.fR (k := 5) rfl rfl, o.len (k := 5) rfl rfl, fun i hi => q_ixI (fun i h0 h1 => o.aI (k := 5) rfl h0 h1) hi (by decide), o.fR (k := 6) rfl rfl, o.len (k := 6) rfl rfl, fun i hi => q_ixI (fun i h0 h1 => o.aI (k := 6) rfl h0 h1) hi (by decide), o.fR (k := 7) rfl rfl, o.len (k := 7) rfl rfl, fun i hi => q_ixI (fun i h0 h1 => o.aI (k := 7) rfl h0 h1) hi (by decide), o.fR (k := 8) rfl rfl, o.len (k := 8) rfl rfl, fun i hi => q_ixI (fun i h0 h1 => o.aI (k := 8) rfl h0 h1) hi (by decide), o.fR (k := 9) rfl rfl, o.len (k := 9) rfl rfl, fun i hi => q_ixI (fun i h0 h1 => o.aI (k := 9) rfl h0 h1) hi (by decide), o.fR (k := 10) rfl rfl, o.len (k := 10) rfl rfl, fun i hi => q_ixI (fun i h0 h1 => o.aI (k := 10) rfl h0 h1) hi (by decide), o.fI (k := 11) rfl, o.fI (k := 12) rfl, o.fI (k := 13) rfl, o.fI (k := 14) rfl⟩
theorem X0_s0 (o : OB h a 0 bkL A B I J) {i : Nat} (x : Int32) (hi : i < 20) : ∃ h', q_sI h .int (a + 1) (nI i) x = some h' ∧ OB h' a 0 bkL (upF A 0 (upd (A 0) i x)) B I J ∧ Fr h h' a (a + 12) := by
  have := o.sI (k := 0) (i := nI i) (x := x) rfl (nI_nn (by omega)) (by rw [nI_cl (by omega)]; exact hi)
  rw [nI_cl (by omega)] at this
  exact this
theorem X0_s1 (o : OB h a 0 bkL A B I J) {i : Nat} (x : Int32) (hi : i < 20) : ∃ h', q_sI h .int (a + 2) (nI i) x = some h' ∧ OB h' a 0 bkL (upF A 1 (upd (A 1) i x)) B I J ∧ Fr h h' a (a + 12) := by
  have := o.sI (k := 1) (i := nI i) (x := x) rfl (nI_nn (by omega)) (by rw [nI_cl (by omega)]; exact hi)
  rw [nI_cl (by omega)] at this
  exact this
theorem X0_s2 (o : OB h a 0 bkL A B I J) {i : Nat} (x : Int32) (hi : i < 20) : ∃ h', q_sI h .int (a + 3) (nI i) x = some h' ∧ OB h' a 0 bkL (upF A 2 (upd (A 2) i x)) B I J ∧ Fr h h' a (a + 12) := by
  have := o.sI (k := 2) (i := nI i) (x := x) rfl (nI_nn (by omega)) (by rw [nI_cl (by omega)]; exact hi)
  rw [nI_cl (by omega)] at this
  exact this
theorem X0_s3 (o : OB h a 0 bkL A B I J) {i : Nat} (x : Int32) (hi : i < 20) : ∃ h', q_sI h .int (a + 4) (nI i) x = some h' ∧ OB h' a 0 bkL (upF A 3 (upd (A 3) i x)) B I J ∧ Fr h h' a (a + 12) := by
  have := o.sI (k := 3) (i := nI i) (x := x) rfl (nI_nn (by omega)) (by rw [nI_cl (by omega)]; exact hi)
  rw [nI_cl (by omega)] at this
  exact this
theorem X0_s4 (o : OB h a 0 bkL A B I J) {i : Nat} (x : Int32) (hi : i < 20) : ∃ h', q_sI h .int (a + 5) (nI i) x = some h' ∧ OB h' a 0 bkL (upF A 4 (upd (A 4) i x)) B I J ∧ Fr h h' a (a + 12) := by
  have := o.sI (k := 4) (i := nI i) (x := x) rfl (nI_nn (by omega)) (by rw [nI_cl (by omega)]; exact hi)
  rw [nI_cl (by omega)] at this
  exact this
theorem X0_s5 (o : OB h a 0 bkL A B I J) {i : Nat} (x : Int32) (hi : i < 8) : ∃ h', q_sI h .int (a + 6) (nI i) x = some h' ∧ OB h' a 0 bkL (upF A 5 (upd (A 5) i x)) B I J ∧ Fr h h' a (a + 12) := by
  have := o.sI (k := 5) (i := nI i) (x := x) rfl (nI_nn (by omega)) (by rw [nI_cl (by omega)]; exact hi)
  rw [nI_cl (by omega)] at this
  exact this
theorem X0_s6 (o : OB h a 0 bkL A B I J) {i : Nat} (x : Int32) (hi : i < 8) : ∃ h', q_sI h .int (a + 7) (nI i) x = some h' ∧ OB h' a 0 bkL (upF A 6 (upd (A 6) i x)) B I J ∧ Fr h h' a (a + 12) := by
  have := o.sI (k := 6) (i := nI i) (x := x) rfl (nI_nn (by omega)) (by rw [nI_cl (by omega)]; exact hi)
  rw [nI_cl (by omega)] at this
  exact this
theorem X0_s7 (o : OB h a 0 bkL A B I J) {i : Nat} (x : Int32) (hi : i < 6) : ∃ h', q_sI h .int (a + 8) (nI i) x = some h' ∧ OB h' a 0 bkL (upF A 7 (upd (A 7) i x)) B I J ∧ Fr h h' a (a + 12) := by
  have := o.sI (k := 7) (i := nI i) (x := x) rfl (nI_nn (by omega)) (by rw [nI_cl (by omega)]; exact hi)
  rw [nI_cl (by omega)] at this
  exact this
theorem X0_s8 (o : OB h a 0 bkL A B I J) {i : Nat} (x : Int32) (hi : i < 6) : ∃ h', q_sI h .int (a + 9) (nI i) x = some h' ∧ OB h' a 0 bkL (upF A 8 (upd (A 8) i x)) B I J ∧ Fr h h' a (a + 12) := by
  have := o.sI (k := 8) (i := nI i) (x := x) rfl (nI_nn (by omega)) (by rw [nI_cl (by omega)]; exact hi)
  rw [nI_cl (by omega)] at this
  exact this
theorem X0_s9 (o : OB h a 0 bkL A B I J) {i : Nat} (x : Int32) (hi : i < 400) : ∃ h', q_sI h .int (a + 10) (nI i) x = some h' ∧ OB h' a 0 bkL (upF A 9 (upd (A 9) i x)) B I J ∧ Fr h h' a (a + 12) := by
  have := o.sI (k := 9) (i := nI i) (x := x) rfl (nI_nn (by omega)) (by rw [nI_cl (by omega)]; exact hi)
  rw [nI_cl (by omega)] at this
  exact this
theorem X0_s10 (o : OB h a 0 bkL A B I J) {i : Nat} (x : Int32) (hi : i < 20) : ∃ h', q_sI h .int (a + 11) (nI i) x = some h' ∧ OB h' a 0 bkL (upF A 10 (upd (A 10) i x)) B I J ∧ Fr h h' a (a + 12) := by
  have := o.sI (k := 10) (i := nI i) (x := x) rfl (nI_nn (by omega)) (by rw [nI_cl (by omega)]; exact hi)
  rw [nI_cl (by omega)] at this
  exact this
theorem X0_p11 (o : OB h a 0 bkL A B I J) (x : Int32) : ∃ h', q_put h a 0 11 (.int x) = some h' ∧ OB h' a 0 bkL A B (upd I 11 x) J ∧ Fr h h' a (a + 12) := o.pI (k := 11) rfl
theorem X0_p12 (o : OB h a 0 bkL A B I J) (x : Int32) : ∃ h', q_put h a 0 12 (.int x) = some h' ∧ OB h' a 0 bkL A B (upd I 12 x) J ∧ Fr h h' a (a + 12) := o.pI (k := 12) rfl
theorem X0_p13 (o : OB h a 0 bkL A B I J) (x : Int32) : ∃ h', q_put h a 0 13 (.int x) = some h' ∧ OB h' a 0 bkL A B (upd I 13 x) J ∧ Fr h h' a (a + 12) := o.pI (k := 13) rfl
theorem X0_p14 (o : OB h a 0 bkL A B I J) (x : Int32) : ∃ h', q_put h a 0 14 (.int x) = some h' ∧ OB h' a 0 bkL A B (upd I 14 x) J ∧ Fr h h' a (a + 12) := o.pI (k := 14) rfl
theorem X1_Z : obZ evL = 3 := rfl
theorem X1_rd (o : OB h a 1 evL A B I J) : q_ob h a 1 = some () ∧ q_fR h a 1 0 = some (a + 1) ∧ q_len h (a + 1) = some (nI 40) ∧ (∀ i, i < 40 → q_aI h .int (a + 1) (nI i) = some (A 0 i)) ∧ q_fR h a 1 1 = some (a + 2) ∧ q_len h (a + 2) = some (nI 40) ∧ (∀ i, i < 40 → q_aI h .int (a + 2) (nI i) = some (A 1 i)) ∧ q_fI h a 1 2 = some (I 2) :=
  ⟨o.ob, o.fR (k := 0) rfl rfl, o.len (k := 0) rfl rfl, fun i hi => q_ixI (fun i h0 h1 => o.aI (k := 0) rfl h0 h1) hi (by decide), o.fR (k := 1) rfl rfl, o.len (k := 1) rfl rfl, fun i hi => q_ixI (fun i h0 h1 => o.aI (k := 1) rfl h0 h1) hi (by decide), o.fI (k := 2) rfl⟩
theorem X1_s0 (o : OB h a 1 evL A B I J) {i : Nat} (x : Int32) (hi : i < 40) : ∃ h', q_sI h .int (a + 1) (nI i) x = some h' ∧ OB h' a 1 evL (upF A 0 (upd (A 0) i x)) B I J ∧ Fr h h' a (a + 3) := by
  have := o.sI (k := 0) (i := nI i) (x := x) rfl (nI_nn (by omega)) (by rw [nI_cl (by omega)]; exact hi)
  rw [nI_cl (by omega)] at this
  exact this
theorem X1_s1 (o : OB h a 1 evL A B I J) {i : Nat} (x : Int32) (hi : i < 40) : ∃ h', q_sI h .int (a + 2) (nI i) x = some h' ∧ OB h' a 1 evL (upF A 1 (upd (A 1) i x)) B I J ∧ Fr h h' a (a + 3) := by
  have := o.sI (k := 1) (i := nI i) (x := x) rfl (nI_nn (by omega)) (by rw [nI_cl (by omega)]; exact hi)
  rw [nI_cl (by omega)] at this
  exact this
theorem X1_p2 (o : OB h a 1 evL A B I J) (x : Int32) : ∃ h', q_put h a 1 2 (.int x) = some h' ∧ OB h' a 1 evL A B (upd I 2 x) J ∧ Fr h h' a (a + 3) := o.pI (k := 2) rfl
theorem X2_Z : obZ fiL = 4 := rfl
theorem X2_rd (o : OB h a 2 fiL A B I J) : q_ob h a 2 = some () ∧ q_fR h a 2 0 = some (a + 1) ∧ q_len h (a + 1) = some (nI 240) ∧ (∀ i, i < 240 → q_aL h (a + 1) (nI i) = some (B 0 i)) ∧ q_fR h a 2 1 = some (a + 2) ∧ q_len h (a + 2) = some (nI 240) ∧ (∀ i, i < 240 → q_aL h (a + 2) (nI i) = some (B 1 i)) ∧ q_fR h a 2 2 = some (a + 3) ∧ q_len h (a + 3) = some (nI 240) ∧ (∀ i, i < 240 → q_aI h .int (a + 3) (nI i) = some (A 2 i)) :=
  ⟨o.ob, o.fR (k := 0) rfl rfl, o.len (k := 0) rfl rfl, fun i hi => q_ixL (fun i h0 h1 => o.aL (k := 0) rfl h0 h1) hi (by decide), o.fR (k := 1) rfl rfl, o.len (k := 1) rfl rfl, fun i hi => q_ixL (fun i h0 h1 => o.aL (k := 1) rfl h0 h1) hi (by decide), o.fR (k := 2) rfl rfl, o.len (k := 2) rfl rfl, fun i hi => q_ixI (fun i h0 h1 => o.aI (k := 2) rfl h0 h1) hi (by decide)⟩
theorem X2_s0 (o : OB h a 2 fiL A B I J) {i : Nat} (x : Int64) (hi : i < 240) : ∃ h', q_sL h (a + 1) (nI i) x = some h' ∧ OB h' a 2 fiL A (upF B 0 (vp_updL (B 0) i x)) I J ∧ Fr h h' a (a + 4) := by
  have := o.sL (k := 0) (i := nI i) (x := x) rfl (nI_nn (by omega)) (by rw [nI_cl (by omega)]; exact hi)
  rw [nI_cl (by omega)] at this
  exact this
theorem X2_s1 (o : OB h a 2 fiL A B I J) {i : Nat} (x : Int64) (hi : i < 240) : ∃ h', q_sL h (a + 2) (nI i) x = some h' ∧ OB h' a 2 fiL A (upF B 1 (vp_updL (B 1) i x)) I J ∧ Fr h h' a (a + 4) := by
  have := o.sL (k := 1) (i := nI i) (x := x) rfl (nI_nn (by omega)) (by rw [nI_cl (by omega)]; exact hi)
  rw [nI_cl (by omega)] at this
  exact this
theorem X2_s2 (o : OB h a 2 fiL A B I J) {i : Nat} (x : Int32) (hi : i < 240) : ∃ h', q_sI h .int (a + 3) (nI i) x = some h' ∧ OB h' a 2 fiL (upF A 2 (upd (A 2) i x)) B I J ∧ Fr h h' a (a + 4) := by
  have := o.sI (k := 2) (i := nI i) (x := x) rfl (nI_nn (by omega)) (by rw [nI_cl (by omega)]; exact hi)
  rw [nI_cl (by omega)] at this
  exact this
theorem X3_Z : obZ lgL = 2 := rfl
theorem X3_rd (o : OB h a 3 lgL A B I J) : q_ob h a 3 = some () ∧ q_fR h a 3 0 = some (a + 1) ∧ q_len h (a + 1) = some (nI 12) ∧ (∀ i, i < 12 → q_aI h .int (a + 1) (nI i) = some (A 0 i)) ∧ q_fI h a 3 1 = some (I 1) :=
  ⟨o.ob, o.fR (k := 0) rfl rfl, o.len (k := 0) rfl rfl, fun i hi => q_ixI (fun i h0 h1 => o.aI (k := 0) rfl h0 h1) hi (by decide), o.fI (k := 1) rfl⟩
theorem X3_s0 (o : OB h a 3 lgL A B I J) {i : Nat} (x : Int32) (hi : i < 12) : ∃ h', q_sI h .int (a + 1) (nI i) x = some h' ∧ OB h' a 3 lgL (upF A 0 (upd (A 0) i x)) B I J ∧ Fr h h' a (a + 2) := by
  have := o.sI (k := 0) (i := nI i) (x := x) rfl (nI_nn (by omega)) (by rw [nI_cl (by omega)]; exact hi)
  rw [nI_cl (by omega)] at this
  exact this
theorem X3_p1 (o : OB h a 3 lgL A B I J) (x : Int32) : ∃ h', q_put h a 3 1 (.int x) = some h' ∧ OB h' a 3 lgL A B (upd I 1 x) J ∧ Fr h h' a (a + 2) := o.pI (k := 1) rfl
theorem X4_Z : obZ mgL = 5 := rfl
theorem X4_rd (o : OB h a 4 mgL A B I J) : q_ob h a 4 = some () ∧ q_fR h a 4 0 = some (a + 1) ∧ q_len h (a + 1) = some (nI 12) ∧ (∀ i, i < 12 → q_aI h .int (a + 1) (nI i) = some (A 0 i)) ∧ q_fR h a 4 1 = some (a + 2) ∧ q_len h (a + 2) = some (nI 12) ∧ (∀ i, i < 12 → q_aI h .int (a + 2) (nI i) = some (A 1 i)) ∧ q_fR h a 4 2 = some (a + 3) ∧ q_len h (a + 3) = some (nI 169) ∧ (∀ i, i < 169 → q_aI h .int (a + 3) (nI i) = some (A 2 i)) ∧ q_fR h a 4 3 = some (a + 4) ∧ q_len h (a + 4) = some (nI 24) ∧ (∀ i, i < 24 → q_aI h .int (a + 4) (nI i) = some (A 3 i)) ∧ q_fI h a 4 4 = some (I 4) ∧ q_fI h a 4 5 = some (I 5) ∧ q_fI h a 4 6 = some (I 6) :=
  ⟨o.ob, o.fR (k := 0) rfl rfl, o.len (k := 0) rfl rfl, fun i hi => q_ixI (fun i h0 h1 => o.aI (k := 0) rfl h0 h1) hi (by decide), o.fR (k := 1) rfl rfl, o.len (k := 1) rfl rfl, fun i hi => q_ixI (fun i h0 h1 => o.aI (k := 1) rfl h0 h1) hi (by decide), o.fR (k := 2) rfl rfl, o.len (k := 2) rfl rfl, fun i hi => q_ixI (fun i h0 h1 => o.aI (k := 2) rfl h0 h1) hi (by decide), o.fR (k := 3) rfl rfl, o.len (k := 3) rfl rfl, fun i hi => q_ixI (fun i h0 h1 => o.aI (k := 3) rfl h0 h1) hi (by decide), o.fI (k := 4) rfl, o.fI (k := 5) rfl, o.fI (k := 6) rfl⟩
theorem X4_s0 (o : OB h a 4 mgL A B I J) {i : Nat} (x : Int32) (hi : i < 12) : ∃ h', q_sI h .int (a + 1) (nI i) x = some h' ∧ OB h' a 4 mgL (upF A 0 (upd (A 0) i x)) B I J ∧ Fr h h' a (a + 5) := by
  have := o.sI (k := 0) (i := nI i) (x := x) rfl (nI_nn (by omega)) (by rw [nI_cl (by omega)]; exact hi)
  rw [nI_cl (by omega)] at this
  exact this
theorem X4_s1 (o : OB h a 4 mgL A B I J) {i : Nat} (x : Int32) (hi : i < 12) : ∃ h', q_sI h .int (a + 2) (nI i) x = some h' ∧ OB h' a 4 mgL (upF A 1 (upd (A 1) i x)) B I J ∧ Fr h h' a (a + 5) := by
  have := o.sI (k := 1) (i := nI i) (x := x) rfl (nI_nn (by omega)) (by rw [nI_cl (by omega)]; exact hi)
  rw [nI_cl (by omega)] at this
  exact this
theorem X4_s2 (o : OB h a 4 mgL A B I J) {i : Nat} (x : Int32) (hi : i < 169) : ∃ h', q_sI h .int (a + 3) (nI i) x = some h' ∧ OB h' a 4 mgL (upF A 2 (upd (A 2) i x)) B I J ∧ Fr h h' a (a + 5) := by
  have := o.sI (k := 2) (i := nI i) (x := x) rfl (nI_nn (by omega)) (by rw [nI_cl (by omega)]; exact hi)
  rw [nI_cl (by omega)] at this
  exact this
theorem X4_s3 (o : OB h a 4 mgL A B I J) {i : Nat} (x : Int32) (hi : i < 24) : ∃ h', q_sI h .int (a + 4) (nI i) x = some h' ∧ OB h' a 4 mgL (upF A 3 (upd (A 3) i x)) B I J ∧ Fr h h' a (a + 5) := by
  have := o.sI (k := 3) (i := nI i) (x := x) rfl (nI_nn (by omega)) (by rw [nI_cl (by omega)]; exact hi)
  rw [nI_cl (by omega)] at this
  exact this
theorem X4_p4 (o : OB h a 4 mgL A B I J) (x : Int32) : ∃ h', q_put h a 4 4 (.int x) = some h' ∧ OB h' a 4 mgL A B (upd I 4 x) J ∧ Fr h h' a (a + 5) := o.pI (k := 4) rfl
theorem X4_p5 (o : OB h a 4 mgL A B I J) (x : Int32) : ∃ h', q_put h a 4 5 (.int x) = some h' ∧ OB h' a 4 mgL A B (upd I 5 x) J ∧ Fr h h' a (a + 5) := o.pI (k := 5) rfl
theorem X4_p6 (o : OB h a 4 mgL A B I J) (x : Int32) : ∃ h', q_put h a 4 6 (.int x) = some h' ∧ OB h' a 4 mgL A B (upd I 6 x) J ∧ Fr h h' a (a + 5) := o.pI (k := 6) rfl
theorem X5_Z : obZ odL = 3 := rfl
theorem X5_rd (o : OB h a 5 odL A B I J) : q_ob h a 5 = some () ∧ q_fR h a 5 0 = some (a + 1) ∧ q_len h (a + 1) = some (nI 20) ∧ (∀ i, i < 20 → q_aL h (a + 1) (nI i) = some (B 0 i)) ∧ q_fR h a 5 1 = some (a + 2) ∧ q_len h (a + 2) = some (nI 20) ∧ (∀ i, i < 20 → q_aL h (a + 2) (nI i) = some (B 1 i)) ∧ q_fL h a 5 2 = some (J 2) ∧ q_fL h a 5 3 = some (J 3) :=
  ⟨o.ob, o.fR (k := 0) rfl rfl, o.len (k := 0) rfl rfl, fun i hi => q_ixL (fun i h0 h1 => o.aL (k := 0) rfl h0 h1) hi (by decide), o.fR (k := 1) rfl rfl, o.len (k := 1) rfl rfl, fun i hi => q_ixL (fun i h0 h1 => o.aL (k := 1) rfl h0 h1) hi (by decide), o.fL (k := 2) rfl, o.fL (k := 3) rfl⟩
theorem X5_s0 (o : OB h a 5 odL A B I J) {i : Nat} (x : Int64) (hi : i < 20) : ∃ h', q_sL h (a + 1) (nI i) x = some h' ∧ OB h' a 5 odL A (upF B 0 (vp_updL (B 0) i x)) I J ∧ Fr h h' a (a + 3) := by
  have := o.sL (k := 0) (i := nI i) (x := x) rfl (nI_nn (by omega)) (by rw [nI_cl (by omega)]; exact hi)
  rw [nI_cl (by omega)] at this
  exact this
theorem X5_s1 (o : OB h a 5 odL A B I J) {i : Nat} (x : Int64) (hi : i < 20) : ∃ h', q_sL h (a + 2) (nI i) x = some h' ∧ OB h' a 5 odL A (upF B 1 (vp_updL (B 1) i x)) I J ∧ Fr h h' a (a + 3) := by
  have := o.sL (k := 1) (i := nI i) (x := x) rfl (nI_nn (by omega)) (by rw [nI_cl (by omega)]; exact hi)
  rw [nI_cl (by omega)] at this
  exact this
theorem X5_p2 (o : OB h a 5 odL A B I J) (x : Int64) : ∃ h', q_put h a 5 2 (.long x) = some h' ∧ OB h' a 5 odL A B I (vp_updL J 2 x) ∧ Fr h h' a (a + 3) := o.pJ (k := 2) rfl
theorem X5_p3 (o : OB h a 5 odL A B I J) (x : Int64) : ∃ h', q_put h a 5 3 (.long x) = some h' ∧ OB h' a 5 odL A B I (vp_updL J 3 x) ∧ Fr h h' a (a + 3) := o.pJ (k := 3) rfl
theorem X6_Z : obZ ptL = 8 := rfl
theorem X6_rd (o : OB h a 6 ptL A B I J) : q_ob h a 6 = some () ∧ q_fR h a 6 0 = some (a + 1) ∧ q_len h (a + 1) = some (nI 420) ∧ (∀ i, i < 420 → q_aI h .int (a + 1) (nI i) = some (A 0 i)) ∧ q_fR h a 6 1 = some (a + 2) ∧ q_len h (a + 2) = some (nI 200) ∧ (∀ i, i < 200 → q_aI h .int (a + 2) (nI i) = some (A 1 i)) ∧ q_fR h a 6 2 = some (a + 3) ∧ q_len h (a + 3) = some (nI 200) ∧ (∀ i, i < 200 → q_aI h .int (a + 3) (nI i) = some (A 2 i)) ∧ q_fR h a 6 3 = some (a + 4) ∧ q_len h (a + 4) = some (nI 20) ∧ (∀ i, i < 20 → q_aL h (a + 4) (nI i) = some (B 3 i)) ∧ q_fR h a 6 4 = some (a + 5) ∧ q_len h (a + 5) = some (nI 20) ∧ (∀ i, i < 20 → q_aL h (a + 5) (nI i) = some (B 4 i)) ∧ q_fR h a 6 5 = some (a + 6) ∧ q_len h (a + 6) = some (nI 4) ∧ (∀ i, i < 4 → q_aI h .int (a + 6) (nI i) = some (A 5 i)) ∧ q_fR h a 6 6 = some (a + 7) ∧ q_len h (a + 7) = some (nI 4) ∧ (∀ i, i < 4 → q_aI h .int (a + 7) (nI i) = some (A 6 i)) :=
  ⟨o.ob, o.fR (k := 0) rfl rfl, o.len (k := 0) rfl rfl, fun i hi => q_ixI (fun i h0 h1 => o.aI (k := 0) rfl h0 h1) hi (by decide), o.fR (k := 1) rfl rfl, o.len (k := 1) rfl rfl, fun i hi => q_ixI (fun i h0 h1 => o.aI (k := 1) rfl h0 h1) hi (by decide), o.fR (k := 2) rfl rfl, o.len (k := 2) rfl rfl, fun i hi => q_ixI (fun i h0 h1 => o.aI (k := 2) rfl h0 h1) hi (by decide), o.fR (k := 3) rfl rfl, o.len (k := 3) rfl rfl, fun i hi => q_ixL (fun i h0 h1 => o.aL (k := 3) rfl h0 h1) hi (by decide), o.fR (k := 4) rfl rfl, o.len (k := 4) rfl rfl, fun i hi => q_ixL (fun i h0 h1 => o.aL (k := 4) rfl h0 h1) hi (by decide), o.fR (k := 5) rfl rfl, o.len (k := 5) rfl rfl, fun i hi => q_ixI (fun i h0 h1 => o.aI (k := 5) rfl h0 h1) hi (by decide), o.fR (k := 6) rfl rfl, o.len (k := 6) rfl rfl, fun i hi => q_ixI (fun i h0 h1 => o.aI (k := 6) rfl h0 h1) hi (by decide)⟩
theorem X6_s0 (o : OB h a 6 ptL A B I J) {i : Nat} (x : Int32) (hi : i < 420) : ∃ h', q_sI h .int (a + 1) (nI i) x = some h' ∧ OB h' a 6 ptL (upF A 0 (upd (A 0) i x)) B I J ∧ Fr h h' a (a + 8) := by
  have := o.sI (k := 0) (i := nI i) (x := x) rfl (nI_nn (by omega)) (by rw [nI_cl (by omega)]; exact hi)
  rw [nI_cl (by omega)] at this
  exact this
theorem X6_s1 (o : OB h a 6 ptL A B I J) {i : Nat} (x : Int32) (hi : i < 200) : ∃ h', q_sI h .int (a + 2) (nI i) x = some h' ∧ OB h' a 6 ptL (upF A 1 (upd (A 1) i x)) B I J ∧ Fr h h' a (a + 8) := by
  have := o.sI (k := 1) (i := nI i) (x := x) rfl (nI_nn (by omega)) (by rw [nI_cl (by omega)]; exact hi)
  rw [nI_cl (by omega)] at this
  exact this
theorem X6_s2 (o : OB h a 6 ptL A B I J) {i : Nat} (x : Int32) (hi : i < 200) : ∃ h', q_sI h .int (a + 3) (nI i) x = some h' ∧ OB h' a 6 ptL (upF A 2 (upd (A 2) i x)) B I J ∧ Fr h h' a (a + 8) := by
  have := o.sI (k := 2) (i := nI i) (x := x) rfl (nI_nn (by omega)) (by rw [nI_cl (by omega)]; exact hi)
  rw [nI_cl (by omega)] at this
  exact this
theorem X6_s3 (o : OB h a 6 ptL A B I J) {i : Nat} (x : Int64) (hi : i < 20) : ∃ h', q_sL h (a + 4) (nI i) x = some h' ∧ OB h' a 6 ptL A (upF B 3 (vp_updL (B 3) i x)) I J ∧ Fr h h' a (a + 8) := by
  have := o.sL (k := 3) (i := nI i) (x := x) rfl (nI_nn (by omega)) (by rw [nI_cl (by omega)]; exact hi)
  rw [nI_cl (by omega)] at this
  exact this
theorem X6_s4 (o : OB h a 6 ptL A B I J) {i : Nat} (x : Int64) (hi : i < 20) : ∃ h', q_sL h (a + 5) (nI i) x = some h' ∧ OB h' a 6 ptL A (upF B 4 (vp_updL (B 4) i x)) I J ∧ Fr h h' a (a + 8) := by
  have := o.sL (k := 4) (i := nI i) (x := x) rfl (nI_nn (by omega)) (by rw [nI_cl (by omega)]; exact hi)
  rw [nI_cl (by omega)] at this
  exact this
theorem X6_s5 (o : OB h a 6 ptL A B I J) {i : Nat} (x : Int32) (hi : i < 4) : ∃ h', q_sI h .int (a + 6) (nI i) x = some h' ∧ OB h' a 6 ptL (upF A 5 (upd (A 5) i x)) B I J ∧ Fr h h' a (a + 8) := by
  have := o.sI (k := 5) (i := nI i) (x := x) rfl (nI_nn (by omega)) (by rw [nI_cl (by omega)]; exact hi)
  rw [nI_cl (by omega)] at this
  exact this
theorem X6_s6 (o : OB h a 6 ptL A B I J) {i : Nat} (x : Int32) (hi : i < 4) : ∃ h', q_sI h .int (a + 7) (nI i) x = some h' ∧ OB h' a 6 ptL (upF A 6 (upd (A 6) i x)) B I J ∧ Fr h h' a (a + 8) := by
  have := o.sI (k := 6) (i := nI i) (x := x) rfl (nI_nn (by omega)) (by rw [nI_cl (by omega)]; exact hi)
  rw [nI_cl (by omega)] at this
  exact this
theorem X7_Z : obZ rdL = 4 := rfl
theorem X7_rd (o : OB h a 7 rdL A B I J) : q_ob h a 7 = some () ∧ q_fR h a 7 0 = some (a + 1) ∧ q_len h (a + 1) = some (nI 601) ∧ (∀ i, i < 601 → q_aI h .int (a + 1) (nI i) = some (A 0 i)) ∧ q_fR h a 7 1 = some (a + 2) ∧ q_len h (a + 2) = some (nI 601) ∧ (∀ i, i < 601 → q_aI h .int (a + 2) (nI i) = some (A 1 i)) ∧ q_fR h a 7 2 = some (a + 3) ∧ q_len h (a + 3) = some (nI 601) ∧ (∀ i, i < 601 → q_aI h .int (a + 3) (nI i) = some (A 2 i)) ∧ q_fI h a 7 3 = some (I 3) ∧ q_fI h a 7 4 = some (I 4) ∧ q_fI h a 7 5 = some (I 5) :=
  ⟨o.ob, o.fR (k := 0) rfl rfl, o.len (k := 0) rfl rfl, fun i hi => q_ixI (fun i h0 h1 => o.aI (k := 0) rfl h0 h1) hi (by decide), o.fR (k := 1) rfl rfl, o.len (k := 1) rfl rfl, fun i hi => q_ixI (fun i h0 h1 => o.aI (k := 1) rfl h0 h1) hi (by decide), o.fR (k := 2) rfl rfl, o.len (k := 2) rfl rfl, fun i hi => q_ixI (fun i h0 h1 => o.aI (k := 2) rfl h0 h1) hi (by decide), o.fI (k := 3) rfl, o.fI (k := 4) rfl, o.fI (k := 5) rfl⟩
theorem X7_s0 (o : OB h a 7 rdL A B I J) {i : Nat} (x : Int32) (hi : i < 601) : ∃ h', q_sI h .int (a + 1) (nI i) x = some h' ∧ OB h' a 7 rdL (upF A 0 (upd (A 0) i x)) B I J ∧ Fr h h' a (a + 4) := by
  have := o.sI (k := 0) (i := nI i) (x := x) rfl (nI_nn (by omega)) (by rw [nI_cl (by omega)]; exact hi)
  rw [nI_cl (by omega)] at this
  exact this
theorem X7_s1 (o : OB h a 7 rdL A B I J) {i : Nat} (x : Int32) (hi : i < 601) : ∃ h', q_sI h .int (a + 2) (nI i) x = some h' ∧ OB h' a 7 rdL (upF A 1 (upd (A 1) i x)) B I J ∧ Fr h h' a (a + 4) := by
  have := o.sI (k := 1) (i := nI i) (x := x) rfl (nI_nn (by omega)) (by rw [nI_cl (by omega)]; exact hi)
  rw [nI_cl (by omega)] at this
  exact this
theorem X7_s2 (o : OB h a 7 rdL A B I J) {i : Nat} (x : Int32) (hi : i < 601) : ∃ h', q_sI h .int (a + 3) (nI i) x = some h' ∧ OB h' a 7 rdL (upF A 2 (upd (A 2) i x)) B I J ∧ Fr h h' a (a + 4) := by
  have := o.sI (k := 2) (i := nI i) (x := x) rfl (nI_nn (by omega)) (by rw [nI_cl (by omega)]; exact hi)
  rw [nI_cl (by omega)] at this
  exact this
theorem X7_p3 (o : OB h a 7 rdL A B I J) (x : Int32) : ∃ h', q_put h a 7 3 (.int x) = some h' ∧ OB h' a 7 rdL A B (upd I 3 x) J ∧ Fr h h' a (a + 4) := o.pI (k := 3) rfl
theorem X7_p4 (o : OB h a 7 rdL A B I J) (x : Int32) : ∃ h', q_put h a 7 4 (.int x) = some h' ∧ OB h' a 7 rdL A B (upd I 4 x) J ∧ Fr h h' a (a + 4) := o.pI (k := 4) rfl
theorem X7_p5 (o : OB h a 7 rdL A B I J) (x : Int32) : ∃ h', q_put h a 7 5 (.int x) = some h' ∧ OB h' a 7 rdL A B (upd I 5 x) J ∧ Fr h h' a (a + 4) := o.pI (k := 5) rfl
theorem X8_Z : obZ stL = 3 := rfl
theorem X8_rd (o : OB h a 8 stL A B I J) : q_ob h a 8 = some () ∧ q_fR h a 8 0 = some (a + 1) ∧ q_len h (a + 1) = some (nI 6) ∧ (∀ i, i < 6 → q_aI h .int (a + 1) (nI i) = some (A 0 i)) ∧ q_fR h a 8 1 = some (a + 2) ∧ q_len h (a + 2) = some (nI 6) ∧ (∀ i, i < 6 → q_aI h .int (a + 2) (nI i) = some (A 1 i)) ∧ q_fI h a 8 2 = some (I 2) ∧ q_fI h a 8 3 = some (I 3) ∧ q_fI h a 8 4 = some (I 4) ∧ q_fI h a 8 5 = some (I 5) ∧ q_fI h a 8 6 = some (I 6) ∧ q_fI h a 8 7 = some (I 7) ∧ q_fI h a 8 8 = some (I 8) ∧ q_fI h a 8 9 = some (I 9) ∧ q_fI h a 8 10 = some (I 10) :=
  ⟨o.ob, o.fR (k := 0) rfl rfl, o.len (k := 0) rfl rfl, fun i hi => q_ixI (fun i h0 h1 => o.aI (k := 0) rfl h0 h1) hi (by decide), o.fR (k := 1) rfl rfl, o.len (k := 1) rfl rfl, fun i hi => q_ixI (fun i h0 h1 => o.aI (k := 1) rfl h0 h1) hi (by decide), o.fI (k := 2) rfl, o.fI (k := 3) rfl, o.fI (k := 4) rfl, o.fI (k := 5) rfl, o.fI (k := 6) rfl, o.fI (k := 7) rfl, o.fI (k := 8) rfl, o.fI (k := 9) rfl, o.fI (k := 10) rfl⟩
theorem X8_s0 (o : OB h a 8 stL A B I J) {i : Nat} (x : Int32) (hi : i < 6) : ∃ h', q_sI h .int (a + 1) (nI i) x = some h' ∧ OB h' a 8 stL (upF A 0 (upd (A 0) i x)) B I J ∧ Fr h h' a (a + 3) := by
  have := o.sI (k := 0) (i := nI i) (x := x) rfl (nI_nn (by omega)) (by rw [nI_cl (by omega)]; exact hi)
  rw [nI_cl (by omega)] at this
  exact this
theorem X8_s1 (o : OB h a 8 stL A B I J) {i : Nat} (x : Int32) (hi : i < 6) : ∃ h', q_sI h .int (a + 2) (nI i) x = some h' ∧ OB h' a 8 stL (upF A 1 (upd (A 1) i x)) B I J ∧ Fr h h' a (a + 3) := by
  have := o.sI (k := 1) (i := nI i) (x := x) rfl (nI_nn (by omega)) (by rw [nI_cl (by omega)]; exact hi)
  rw [nI_cl (by omega)] at this
  exact this
theorem X8_p2 (o : OB h a 8 stL A B I J) (x : Int32) : ∃ h', q_put h a 8 2 (.int x) = some h' ∧ OB h' a 8 stL A B (upd I 2 x) J ∧ Fr h h' a (a + 3) := o.pI (k := 2) rfl
theorem X8_p3 (o : OB h a 8 stL A B I J) (x : Int32) : ∃ h', q_put h a 8 3 (.int x) = some h' ∧ OB h' a 8 stL A B (upd I 3 x) J ∧ Fr h h' a (a + 3) := o.pI (k := 3) rfl
theorem X8_p4 (o : OB h a 8 stL A B I J) (x : Int32) : ∃ h', q_put h a 8 4 (.int x) = some h' ∧ OB h' a 8 stL A B (upd I 4 x) J ∧ Fr h h' a (a + 3) := o.pI (k := 4) rfl
theorem X8_p5 (o : OB h a 8 stL A B I J) (x : Int32) : ∃ h', q_put h a 8 5 (.int x) = some h' ∧ OB h' a 8 stL A B (upd I 5 x) J ∧ Fr h h' a (a + 3) := o.pI (k := 5) rfl
theorem X8_p6 (o : OB h a 8 stL A B I J) (x : Int32) : ∃ h', q_put h a 8 6 (.int x) = some h' ∧ OB h' a 8 stL A B (upd I 6 x) J ∧ Fr h h' a (a + 3) := o.pI (k := 6) rfl
theorem X8_p7 (o : OB h a 8 stL A B I J) (x : Int32) : ∃ h', q_put h a 8 7 (.int x) = some h' ∧ OB h' a 8 stL A B (upd I 7 x) J ∧ Fr h h' a (a + 3) := o.pI (k := 7) rfl
theorem X8_p8 (o : OB h a 8 stL A B I J) (x : Int32) : ∃ h', q_put h a 8 8 (.int x) = some h' ∧ OB h' a 8 stL A B (upd I 8 x) J ∧ Fr h h' a (a + 3) := o.pI (k := 8) rfl
theorem X8_p9 (o : OB h a 8 stL A B I J) (x : Int32) : ∃ h', q_put h a 8 9 (.int x) = some h' ∧ OB h' a 8 stL A B (upd I 9 x) J ∧ Fr h h' a (a + 3) := o.pI (k := 9) rfl
theorem X8_p10 (o : OB h a 8 stL A B I J) (x : Int32) : ∃ h', q_put h a 8 10 (.int x) = some h' ∧ OB h' a 8 stL A B (upd I 10 x) J ∧ Fr h h' a (a + 3) := o.pI (k := 10) rfl
theorem X10_Z : obZ twL = 5 := rfl
theorem X10_rd (o : OB h a 10 twL A B I J) : q_ob h a 10 = some () ∧ q_fR h a 10 0 = some (a + 1) ∧ q_len h (a + 1) = some (nI 9) ∧ (∀ i, i < 9 → q_aI h .int (a + 1) (nI i) = some (A 0 i)) ∧ q_fR h a 10 1 = some (a + 2) ∧ q_len h (a + 2) = some (nI 9) ∧ (∀ i, i < 9 → q_aI h .int (a + 2) (nI i) = some (A 1 i)) ∧ q_fR h a 10 2 = some (a + 3) ∧ q_len h (a + 3) = some (nI 9) ∧ (∀ i, i < 9 → q_aI h .int (a + 3) (nI i) = some (A 2 i)) ∧ q_fR h a 10 3 = some (a + 4) ∧ q_len h (a + 4) = some (nI 9) ∧ (∀ i, i < 9 → q_aI h .int (a + 4) (nI i) = some (A 3 i)) ∧ q_fI h a 10 4 = some (I 4) :=
  ⟨o.ob, o.fR (k := 0) rfl rfl, o.len (k := 0) rfl rfl, fun i hi => q_ixI (fun i h0 h1 => o.aI (k := 0) rfl h0 h1) hi (by decide), o.fR (k := 1) rfl rfl, o.len (k := 1) rfl rfl, fun i hi => q_ixI (fun i h0 h1 => o.aI (k := 1) rfl h0 h1) hi (by decide), o.fR (k := 2) rfl rfl, o.len (k := 2) rfl rfl, fun i hi => q_ixI (fun i h0 h1 => o.aI (k := 2) rfl h0 h1) hi (by decide), o.fR (k := 3) rfl rfl, o.len (k := 3) rfl rfl, fun i hi => q_ixI (fun i h0 h1 => o.aI (k := 3) rfl h0 h1) hi (by decide), o.fI (k := 4) rfl⟩
theorem X10_s0 (o : OB h a 10 twL A B I J) {i : Nat} (x : Int32) (hi : i < 9) : ∃ h', q_sI h .int (a + 1) (nI i) x = some h' ∧ OB h' a 10 twL (upF A 0 (upd (A 0) i x)) B I J ∧ Fr h h' a (a + 5) := by
  have := o.sI (k := 0) (i := nI i) (x := x) rfl (nI_nn (by omega)) (by rw [nI_cl (by omega)]; exact hi)
  rw [nI_cl (by omega)] at this
  exact this
theorem X10_s1 (o : OB h a 10 twL A B I J) {i : Nat} (x : Int32) (hi : i < 9) : ∃ h', q_sI h .int (a + 2) (nI i) x = some h' ∧ OB h' a 10 twL (upF A 1 (upd (A 1) i x)) B I J ∧ Fr h h' a (a + 5) := by
  have := o.sI (k := 1) (i := nI i) (x := x) rfl (nI_nn (by omega)) (by rw [nI_cl (by omega)]; exact hi)
  rw [nI_cl (by omega)] at this
  exact this
theorem X10_s2 (o : OB h a 10 twL A B I J) {i : Nat} (x : Int32) (hi : i < 9) : ∃ h', q_sI h .int (a + 3) (nI i) x = some h' ∧ OB h' a 10 twL (upF A 2 (upd (A 2) i x)) B I J ∧ Fr h h' a (a + 5) := by
  have := o.sI (k := 2) (i := nI i) (x := x) rfl (nI_nn (by omega)) (by rw [nI_cl (by omega)]; exact hi)
  rw [nI_cl (by omega)] at this
  exact this
theorem X10_s3 (o : OB h a 10 twL A B I J) {i : Nat} (x : Int32) (hi : i < 9) : ∃ h', q_sI h .int (a + 4) (nI i) x = some h' ∧ OB h' a 10 twL (upF A 3 (upd (A 3) i x)) B I J ∧ Fr h h' a (a + 5) := by
  have := o.sI (k := 3) (i := nI i) (x := x) rfl (nI_nn (by omega)) (by rw [nI_cl (by omega)]; exact hi)
  rw [nI_cl (by omega)] at this
  exact this
theorem X10_p4 (o : OB h a 10 twL A B I J) (x : Int32) : ∃ h', q_put h a 10 4 (.int x) = some h' ∧ OB h' a 10 twL A B (upd I 4 x) J ∧ Fr h h' a (a + 5) := o.pI (k := 4) rfl
theorem X12_Z : obZ mdL = 27 := rfl
theorem X12_rd (o : OB h a 12 mdL A B I J) : q_ob h a 12 = some () ∧ q_fI h a 12 0 = some (I 0) ∧ q_fR h a 12 1 = some (a + 1) ∧ q_len h (a + 1) = some (nI 2400) ∧ (∀ i, i < 2400 → q_aI h .byte (a + 1) (nI i) = some (A 1 i)) ∧ q_fR h a 12 2 = some (a + 2) ∧ q_len h (a + 2) = some (nI 4) ∧ (∀ i, i < 4 → q_aI h .int (a + 2) (nI i) = some (A 2 i)) ∧ q_fR h a 12 3 = some (a + 3) ∧ q_len h (a + 3) = some (nI 4) ∧ (∀ i, i < 4 → q_aI h .int (a + 3) (nI i) = some (A 3 i)) ∧ q_fR h a 12 4 = some (a + 4) ∧ q_len h (a + 4) = some (nI 4) ∧ (∀ i, i < 4 → q_aI h .int (a + 4) (nI i) = some (A 4 i)) ∧ q_fR h a 12 5 = some (a + 5) ∧ q_len h (a + 5) = some (nI 16) ∧ (∀ i, i < 16 → q_aI h .int (a + 5) (nI i) = some (A 5 i)) ∧ q_fR h a 12 6 = some (a + 6) ∧ q_len h (a + 6) = some (nI 896) ∧ (∀ i, i < 896 → q_aI h .int (a + 6) (nI i) = some (A 6 i)) ∧ q_fR h a 12 7 = some (a + 7) ∧ q_len h (a + 7) = some (nI 648) ∧ (∀ i, i < 648 → q_aI h .int (a + 7) (nI i) = some (A 7 i)) ∧ q_fR h a 12 8 = some (a + 8) ∧ q_len h (a + 8) = some (nI 104) ∧ (∀ i, i < 104 → q_aI h .int (a + 8) (nI i) = some (A 8 i)) ∧ q_fR h a 12 9 = some (a + 9) ∧ q_len h (a + 9) = some (nI 216) ∧ (∀ i, i < 216 → q_aI h .int (a + 9) (nI i) = some (A 9 i)) ∧ q_fI h a 12 10 = some (I 10) ∧ q_fI h a 12 11 = some (I 11) ∧ q_fI h a 12 12 = some (I 12) ∧ q_fI h a 12 13 = some (I 13) ∧ q_fI h a 12 14 = some (I 14) ∧ q_fL h a 12 15 = some (J 15) ∧ q_fI h a 12 16 = some (I 16) ∧ q_fI h a 12 17 = some (I 17) ∧ q_fI h a 12 18 = some (I 18) ∧ q_fR h a 12 19 = some (a + 10) ∧ q_len h (a + 10) = some (nI 112) ∧ (∀ i, i < 112 → q_aI h .int (a + 10) (nI i) = some (A 19 i)) ∧ q_fR h a 12 20 = some (a + 11) ∧ q_len h (a + 11) = some (nI 4) ∧ (∀ i, i < 4 → q_aI h .int (a + 11) (nI i) = some (A 20 i)) ∧ q_fI h a 12 21 = some (I 21) ∧ q_fI h a 12 22 = some (I 22) ∧ q_fI h a 12 23 = some (I 23) ∧ q_fI h a 12 24 = some (I 24) ∧ q_fR h a 12 25 = some (a + 12) ∧ q_len h (a + 12) = some (nI 400) ∧ (∀ i, i < 400 → q_aI h .int (a + 12) (nI i) = some (A 25 i)) ∧ q_fR h a 12 26 = some (a + 13) ∧ q_len h (a + 13) = some (nI 20) ∧ (∀ i, i < 20 → q_aI h .int (a + 13) (nI i) = some (A 26 i)) ∧ q_fI h a 12 27 = some (I 27) ∧ q_fR h a 12 28 = some (a + 14) ∧ q_len h (a + 14) = some (nI 30) ∧ (∀ i, i < 30 → q_aI h .int (a + 14) (nI i) = some (A 28 i)) ∧ q_fR h a 12 29 = some (a + 15) ∧ q_len h (a + 15) = some (nI 420) ∧ (∀ i, i < 420 → q_aI h .int (a + 15) (nI i) = some (A 29 i)) ∧ q_fR h a 12 30 = some (a + 16) ∧ q_len h (a + 16) = some (nI 200) ∧ (∀ i, i < 200 → q_aI h .int (a + 16) (nI i) = some (A 30 i)) ∧ q_fR h a 12 31 = some (a + 17) ∧ q_len h (a + 17) = some (nI 20) ∧ (∀ i, i < 20 → q_aL h (a + 17) (nI i) = some (B 31 i)) ∧ q_fR h a 12 32 = some (a + 18) ∧ q_len h (a + 18) = some (nI 20) ∧ (∀ i, i < 20 → q_aL h (a + 18) (nI i) = some (B 32 i)) ∧ q_fI h a 12 33 = some (I 33) ∧ q_fR h a 12 34 = some (a + 19) ∧ q_len h (a + 19) = some (nI 20) ∧ (∀ i, i < 20 → q_aI h .int (a + 19) (nI i) = some (A 34 i)) ∧ q_fR h a 12 35 = some (a + 20) ∧ q_len h (a + 20) = some (nI 20) ∧ (∀ i, i < 20 → q_aI h .int (a + 20) (nI i) = some (A 35 i)) ∧ q_fI h a 12 36 = some (I 36) ∧ q_fI h a 12 37 = some (I 37) ∧ q_fR h a 12 38 = some (a + 21) ∧ q_len h (a + 21) = some (nI 169) ∧ (∀ i, i < 169 → q_aI h .int (a + 21) (nI i) = some (A 38 i)) ∧ q_fI h a 12 39 = some (I 39) ∧ q_fR h a 12 40 = some (a + 22) ∧ q_len h (a + 22) = some (nI 240) ∧ (∀ i, i < 240 → q_aL h (a + 22) (nI i) = some (B 40 i)) ∧ q_fR h a 12 41 = some (a + 23) ∧ q_len h (a + 23) = some (nI 240) ∧ (∀ i, i < 240 → q_aL h (a + 23) (nI i) = some (B 41 i)) ∧ q_fR h a 12 42 = some (a + 24) ∧ q_len h (a + 24) = some (nI 240) ∧ (∀ i, i < 240 → q_aI h .int (a + 24) (nI i) = some (A 42 i)) ∧ q_fL h a 12 43 = some (J 43) ∧ q_fI h a 12 44 = some (I 44) ∧ q_fI h a 12 45 = some (I 45) ∧ q_fI h a 12 46 = some (I 46) ∧ q_fR h a 12 47 = some (a + 25) ∧ q_len h (a + 25) = some (nI 4000) ∧ (∀ i, i < 4000 → q_aI h .int (a + 25) (nI i) = some (A 47 i)) ∧ q_fR h a 12 48 = some (a + 26) ∧ q_len h (a + 26) = some (nI 3) ∧ (∀ i, i < 3 → q_aI h .boolean (a + 26) (nI i) = some (A 48 i)) :=
  ⟨o.ob, o.fI (k := 0) rfl, o.fR (k := 1) rfl rfl, o.len (k := 1) rfl rfl, fun i hi => q_ixI (fun i h0 h1 => o.aB (k := 1) rfl h0 h1) hi (by decide), o.fR (k := 2) rfl rfl, o.len (k := 2) rfl rfl, fun i hi => q_ixI (fun i h0 h1 => o.aI (k := 2) rfl h0 h1) hi (by decide), o.fR (k := 3) rfl rfl, o.len (k := 3) rfl rfl, fun i hi => q_ixI (fun i h0 h1 => o.aI (k := 3) rfl h0 h1) hi (by decide), o.fR (k := 4) rfl rfl, o.len (k := 4) rfl rfl, fun i hi => q_ixI (fun i h0 h1 => o.aI (k := 4) rfl h0 h1) hi (by decide), o.fR (k := 5) rfl rfl, o.len (k := 5) rfl rfl, fun i hi => q_ixI (fun i h0 h1 => o.aI (k := 5) rfl h0 h1) hi (by decide), o.fR (k := 6) rfl rfl, o.len (k := 6) rfl rfl, fun i hi => q_ixI (fun i h0 h1 => o.aI (k := 6) rfl h0 h1) hi (by decide), o.fR (k := 7) rfl rfl, o.len (k := 7) rfl rfl, fun i hi => q_ixI (fun i h0 h1 => o.aI (k := 7) rfl h0 h1) hi (by decide), o.fR (k := 8) rfl rfl, o.len (k := 8) rfl rfl, fun i hi => q_ixI (fun i h0 h1 => o.aI (k := 8) rfl h0 h1) hi (by decide), o.fR (k := 9) rfl rfl, o.len (k := 9) rfl rfl, fun i hi => q_ixI (fun i h0 h1 => o.aI (k := 9) rfl h0 h1) hi (by decide), o.fI (k := 10) rfl, o.fI (k := 11) rfl, o.fI (k := 12) rfl, o.fI (k := 13) rfl, o.fI (k := 14) rfl, o.fL (k := 15) rfl, o.fI (k := 16) rfl, o.fI (k := 17) rfl, o.fI (k := 18) rfl, o.fR (k := 19) rfl rfl, o.len (k := 19) rfl rfl, fun i hi => q_ixI (fun i h0 h1 => o.aI (k := 19) rfl h0 h1) hi (by decide), o.fR (k := 20) rfl rfl, o.len (k := 20) rfl rfl, fun i hi => q_ixI (fun i h0 h1 => o.aI (k := 20) rfl h0 h1) hi (by decide), o.fI (k := 21) rfl, o.fI (k := 22) rfl, o.fI (k := 23) rfl, o.fI (k := 24) rfl, o.fR (k := 25) rfl rfl, o.len (k := 25) rfl rfl, fun i hi => q_ixI (fun i h0 h1 => o.aI (k := 25) rfl h0 h1) hi (by decide), o.fR (k := 26) rfl rfl, o.len (k := 26) rfl rfl, fun i hi => q_ixI (fun i h0 h1 => o.aI (k := 26) rfl h0 h1) hi (by decide), o.fI (k := 27) rfl, o.fR (k := 28) rfl rfl, o.len (k := 28) rfl rfl, fun i hi => q_ixI (fun i h0 h1 => o.aI (k := 28) rfl h0 h1) hi (by decide), o.fR (k := 29) rfl rfl, o.len (k := 29) rfl rfl, fun i hi => q_ixI (fun i h0 h1 => o.aI (k := 29) rfl h0 h1) hi (by decide), o.fR (k := 30) rfl rfl, o.len (k := 30) rfl rfl, fun i hi => q_ixI (fun i h0 h1 => o.aI (k := 30) rfl h0 h1) hi (by decide), o.fR (k := 31) rfl rfl, o.len (k := 31) rfl rfl, fun i hi => q_ixL (fun i h0 h1 => o.aL (k := 31) rfl h0 h1) hi (by decide), o.fR (k := 32) rfl rfl, o.len (k := 32) rfl rfl, fun i hi => q_ixL (fun i h0 h1 => o.aL (k := 32) rfl h0 h1) hi (by decide), o.fI (k := 33) rfl, o.fR (k := 34) rfl rfl, o.len (k := 34) rfl rfl, fun i hi => q_ixI (fun i h0 h1 => o.aI (k := 34) rfl h0 h1) hi (by decide), o.fR (k := 35) rfl rfl, o.len (k := 35) rfl rfl, fun i hi => q_ixI (fun i h0 h1 => o.aI (k := 35) rfl h0 h1) hi (by decide), o.fI (k := 36) rfl, o.fI (k := 37) rfl, o.fR (k := 38) rfl rfl, o.len (k := 38) rfl rfl, fun i hi => q_ixI (fun i h0 h1 => o.aI (k := 38) rfl h0 h1) hi (by decide), o.fI (k := 39) rfl, o.fR (k := 40) rfl rfl, o.len (k := 40) rfl rfl, fun i hi => q_ixL (fun i h0 h1 => o.aL (k := 40) rfl h0 h1) hi (by decide), o.fR (k := 41) rfl rfl, o.len (k := 41) rfl rfl, fun i hi => q_ixL (fun i h0 h1 => o.aL (k := 41) rfl h0 h1) hi (by decide), o.fR (k := 42) rfl rfl, o.len (k := 42) rfl rfl, fun i hi => q_ixI (fun i h0 h1 => o.aI (k := 42) rfl h0 h1) hi (by decide), o.fL (k := 43) rfl, o.fI (k := 44) rfl, o.fI (k := 45) rfl, o.fI (k := 46) rfl, o.fR (k := 47) rfl rfl, o.len (k := 47) rfl rfl, fun i hi => q_ixI (fun i h0 h1 => o.aI (k := 47) rfl h0 h1) hi (by decide), o.fR (k := 48) rfl rfl, o.len (k := 48) rfl rfl, fun i hi => q_ixI (fun i h0 h1 => o.aZ (k := 48) rfl h0 h1) hi (by decide)⟩
theorem X12_p0 (o : OB h a 12 mdL A B I J) (x : Int32) : ∃ h', q_put h a 12 0 (.int x) = some h' ∧ OB h' a 12 mdL A B (upd I 0 x) J ∧ Fr h h' a (a + 27) := o.pI (k := 0) rfl
theorem X12_s1 (o : OB h a 12 mdL A B I J) {i : Nat} (x : Int32) (hi : i < 2400) : ∃ h', q_sI h .byte (a + 1) (nI i) x = some h' ∧ OB h' a 12 mdL (upF A 1 (upd (A 1) i (vp_nar .byte x))) B I J ∧ Fr h h' a (a + 27) := by
  have := o.sB (k := 1) (i := nI i) (x := x) rfl (nI_nn (by omega)) (by rw [nI_cl (by omega)]; exact hi)
  rw [nI_cl (by omega)] at this
  exact this
theorem X12_s2 (o : OB h a 12 mdL A B I J) {i : Nat} (x : Int32) (hi : i < 4) : ∃ h', q_sI h .int (a + 2) (nI i) x = some h' ∧ OB h' a 12 mdL (upF A 2 (upd (A 2) i x)) B I J ∧ Fr h h' a (a + 27) := by
  have := o.sI (k := 2) (i := nI i) (x := x) rfl (nI_nn (by omega)) (by rw [nI_cl (by omega)]; exact hi)
  rw [nI_cl (by omega)] at this
  exact this
theorem X12_s3 (o : OB h a 12 mdL A B I J) {i : Nat} (x : Int32) (hi : i < 4) : ∃ h', q_sI h .int (a + 3) (nI i) x = some h' ∧ OB h' a 12 mdL (upF A 3 (upd (A 3) i x)) B I J ∧ Fr h h' a (a + 27) := by
  have := o.sI (k := 3) (i := nI i) (x := x) rfl (nI_nn (by omega)) (by rw [nI_cl (by omega)]; exact hi)
  rw [nI_cl (by omega)] at this
  exact this
theorem X12_s4 (o : OB h a 12 mdL A B I J) {i : Nat} (x : Int32) (hi : i < 4) : ∃ h', q_sI h .int (a + 4) (nI i) x = some h' ∧ OB h' a 12 mdL (upF A 4 (upd (A 4) i x)) B I J ∧ Fr h h' a (a + 27) := by
  have := o.sI (k := 4) (i := nI i) (x := x) rfl (nI_nn (by omega)) (by rw [nI_cl (by omega)]; exact hi)
  rw [nI_cl (by omega)] at this
  exact this
theorem X12_s5 (o : OB h a 12 mdL A B I J) {i : Nat} (x : Int32) (hi : i < 16) : ∃ h', q_sI h .int (a + 5) (nI i) x = some h' ∧ OB h' a 12 mdL (upF A 5 (upd (A 5) i x)) B I J ∧ Fr h h' a (a + 27) := by
  have := o.sI (k := 5) (i := nI i) (x := x) rfl (nI_nn (by omega)) (by rw [nI_cl (by omega)]; exact hi)
  rw [nI_cl (by omega)] at this
  exact this
theorem X12_s6 (o : OB h a 12 mdL A B I J) {i : Nat} (x : Int32) (hi : i < 896) : ∃ h', q_sI h .int (a + 6) (nI i) x = some h' ∧ OB h' a 12 mdL (upF A 6 (upd (A 6) i x)) B I J ∧ Fr h h' a (a + 27) := by
  have := o.sI (k := 6) (i := nI i) (x := x) rfl (nI_nn (by omega)) (by rw [nI_cl (by omega)]; exact hi)
  rw [nI_cl (by omega)] at this
  exact this
theorem X12_s7 (o : OB h a 12 mdL A B I J) {i : Nat} (x : Int32) (hi : i < 648) : ∃ h', q_sI h .int (a + 7) (nI i) x = some h' ∧ OB h' a 12 mdL (upF A 7 (upd (A 7) i x)) B I J ∧ Fr h h' a (a + 27) := by
  have := o.sI (k := 7) (i := nI i) (x := x) rfl (nI_nn (by omega)) (by rw [nI_cl (by omega)]; exact hi)
  rw [nI_cl (by omega)] at this
  exact this
theorem X12_s8 (o : OB h a 12 mdL A B I J) {i : Nat} (x : Int32) (hi : i < 104) : ∃ h', q_sI h .int (a + 8) (nI i) x = some h' ∧ OB h' a 12 mdL (upF A 8 (upd (A 8) i x)) B I J ∧ Fr h h' a (a + 27) := by
  have := o.sI (k := 8) (i := nI i) (x := x) rfl (nI_nn (by omega)) (by rw [nI_cl (by omega)]; exact hi)
  rw [nI_cl (by omega)] at this
  exact this
theorem X12_s9 (o : OB h a 12 mdL A B I J) {i : Nat} (x : Int32) (hi : i < 216) : ∃ h', q_sI h .int (a + 9) (nI i) x = some h' ∧ OB h' a 12 mdL (upF A 9 (upd (A 9) i x)) B I J ∧ Fr h h' a (a + 27) := by
  have := o.sI (k := 9) (i := nI i) (x := x) rfl (nI_nn (by omega)) (by rw [nI_cl (by omega)]; exact hi)
  rw [nI_cl (by omega)] at this
  exact this
theorem X12_p10 (o : OB h a 12 mdL A B I J) (x : Int32) : ∃ h', q_put h a 12 10 (.int x) = some h' ∧ OB h' a 12 mdL A B (upd I 10 x) J ∧ Fr h h' a (a + 27) := o.pI (k := 10) rfl
theorem X12_p11 (o : OB h a 12 mdL A B I J) (x : Int32) : ∃ h', q_put h a 12 11 (.int x) = some h' ∧ OB h' a 12 mdL A B (upd I 11 x) J ∧ Fr h h' a (a + 27) := o.pI (k := 11) rfl
theorem X12_p12 (o : OB h a 12 mdL A B I J) (x : Int32) : ∃ h', q_put h a 12 12 (.int x) = some h' ∧ OB h' a 12 mdL A B (upd I 12 x) J ∧ Fr h h' a (a + 27) := o.pI (k := 12) rfl
theorem X12_p13 (o : OB h a 12 mdL A B I J) (x : Int32) : ∃ h', q_put h a 12 13 (.int x) = some h' ∧ OB h' a 12 mdL A B (upd I 13 x) J ∧ Fr h h' a (a + 27) := o.pI (k := 13) rfl
theorem X12_p14 (o : OB h a 12 mdL A B I J) (x : Int32) : ∃ h', q_put h a 12 14 (.int x) = some h' ∧ OB h' a 12 mdL A B (upd I 14 x) J ∧ Fr h h' a (a + 27) := o.pI (k := 14) rfl
theorem X12_p15 (o : OB h a 12 mdL A B I J) (x : Int64) : ∃ h', q_put h a 12 15 (.long x) = some h' ∧ OB h' a 12 mdL A B I (vp_updL J 15 x) ∧ Fr h h' a (a + 27) := o.pJ (k := 15) rfl
theorem X12_p16 (o : OB h a 12 mdL A B I J) (x : Int32) : ∃ h', q_put h a 12 16 (.int x) = some h' ∧ OB h' a 12 mdL A B (upd I 16 x) J ∧ Fr h h' a (a + 27) := o.pI (k := 16) rfl
theorem X12_p17 (o : OB h a 12 mdL A B I J) (x : Int32) : ∃ h', q_put h a 12 17 (.int x) = some h' ∧ OB h' a 12 mdL A B (upd I 17 x) J ∧ Fr h h' a (a + 27) := o.pI (k := 17) rfl
theorem X12_p18 (o : OB h a 12 mdL A B I J) (x : Int32) : ∃ h', q_put h a 12 18 (.int x) = some h' ∧ OB h' a 12 mdL A B (upd I 18 x) J ∧ Fr h h' a (a + 27) := o.pI (k := 18) rfl
theorem X12_s19 (o : OB h a 12 mdL A B I J) {i : Nat} (x : Int32) (hi : i < 112) : ∃ h', q_sI h .int (a + 10) (nI i) x = some h' ∧ OB h' a 12 mdL (upF A 19 (upd (A 19) i x)) B I J ∧ Fr h h' a (a + 27) := by
  have := o.sI (k := 19) (i := nI i) (x := x) rfl (nI_nn (by omega)) (by rw [nI_cl (by omega)]; exact hi)
  rw [nI_cl (by omega)] at this
  exact this
theorem X12_s20 (o : OB h a 12 mdL A B I J) {i : Nat} (x : Int32) (hi : i < 4) : ∃ h', q_sI h .int (a + 11) (nI i) x = some h' ∧ OB h' a 12 mdL (upF A 20 (upd (A 20) i x)) B I J ∧ Fr h h' a (a + 27) := by
  have := o.sI (k := 20) (i := nI i) (x := x) rfl (nI_nn (by omega)) (by rw [nI_cl (by omega)]; exact hi)
  rw [nI_cl (by omega)] at this
  exact this
theorem X12_p21 (o : OB h a 12 mdL A B I J) (x : Int32) : ∃ h', q_put h a 12 21 (.int x) = some h' ∧ OB h' a 12 mdL A B (upd I 21 x) J ∧ Fr h h' a (a + 27) := o.pI (k := 21) rfl
theorem X12_p22 (o : OB h a 12 mdL A B I J) (x : Int32) : ∃ h', q_put h a 12 22 (.int x) = some h' ∧ OB h' a 12 mdL A B (upd I 22 x) J ∧ Fr h h' a (a + 27) := o.pI (k := 22) rfl
theorem X12_p23 (o : OB h a 12 mdL A B I J) (x : Int32) : ∃ h', q_put h a 12 23 (.int x) = some h' ∧ OB h' a 12 mdL A B (upd I 23 x) J ∧ Fr h h' a (a + 27) := o.pI (k := 23) rfl
theorem X12_p24 (o : OB h a 12 mdL A B I J) (x : Int32) : ∃ h', q_put h a 12 24 (.int x) = some h' ∧ OB h' a 12 mdL A B (upd I 24 x) J ∧ Fr h h' a (a + 27) := o.pI (k := 24) rfl
theorem X12_s25 (o : OB h a 12 mdL A B I J) {i : Nat} (x : Int32) (hi : i < 400) : ∃ h', q_sI h .int (a + 12) (nI i) x = some h' ∧ OB h' a 12 mdL (upF A 25 (upd (A 25) i x)) B I J ∧ Fr h h' a (a + 27) := by
  have := o.sI (k := 25) (i := nI i) (x := x) rfl (nI_nn (by omega)) (by rw [nI_cl (by omega)]; exact hi)
  rw [nI_cl (by omega)] at this
  exact this
theorem X12_s26 (o : OB h a 12 mdL A B I J) {i : Nat} (x : Int32) (hi : i < 20) : ∃ h', q_sI h .int (a + 13) (nI i) x = some h' ∧ OB h' a 12 mdL (upF A 26 (upd (A 26) i x)) B I J ∧ Fr h h' a (a + 27) := by
  have := o.sI (k := 26) (i := nI i) (x := x) rfl (nI_nn (by omega)) (by rw [nI_cl (by omega)]; exact hi)
  rw [nI_cl (by omega)] at this
  exact this
theorem X12_p27 (o : OB h a 12 mdL A B I J) (x : Int32) : ∃ h', q_put h a 12 27 (.int x) = some h' ∧ OB h' a 12 mdL A B (upd I 27 x) J ∧ Fr h h' a (a + 27) := o.pI (k := 27) rfl
theorem X12_s28 (o : OB h a 12 mdL A B I J) {i : Nat} (x : Int32) (hi : i < 30) : ∃ h', q_sI h .int (a + 14) (nI i) x = some h' ∧ OB h' a 12 mdL (upF A 28 (upd (A 28) i x)) B I J ∧ Fr h h' a (a + 27) := by
  have := o.sI (k := 28) (i := nI i) (x := x) rfl (nI_nn (by omega)) (by rw [nI_cl (by omega)]; exact hi)
  rw [nI_cl (by omega)] at this
  exact this
theorem X12_s29 (o : OB h a 12 mdL A B I J) {i : Nat} (x : Int32) (hi : i < 420) : ∃ h', q_sI h .int (a + 15) (nI i) x = some h' ∧ OB h' a 12 mdL (upF A 29 (upd (A 29) i x)) B I J ∧ Fr h h' a (a + 27) := by
  have := o.sI (k := 29) (i := nI i) (x := x) rfl (nI_nn (by omega)) (by rw [nI_cl (by omega)]; exact hi)
  rw [nI_cl (by omega)] at this
  exact this
theorem X12_s30 (o : OB h a 12 mdL A B I J) {i : Nat} (x : Int32) (hi : i < 200) : ∃ h', q_sI h .int (a + 16) (nI i) x = some h' ∧ OB h' a 12 mdL (upF A 30 (upd (A 30) i x)) B I J ∧ Fr h h' a (a + 27) := by
  have := o.sI (k := 30) (i := nI i) (x := x) rfl (nI_nn (by omega)) (by rw [nI_cl (by omega)]; exact hi)
  rw [nI_cl (by omega)] at this
  exact this
theorem X12_s31 (o : OB h a 12 mdL A B I J) {i : Nat} (x : Int64) (hi : i < 20) : ∃ h', q_sL h (a + 17) (nI i) x = some h' ∧ OB h' a 12 mdL A (upF B 31 (vp_updL (B 31) i x)) I J ∧ Fr h h' a (a + 27) := by
  have := o.sL (k := 31) (i := nI i) (x := x) rfl (nI_nn (by omega)) (by rw [nI_cl (by omega)]; exact hi)
  rw [nI_cl (by omega)] at this
  exact this
theorem X12_s32 (o : OB h a 12 mdL A B I J) {i : Nat} (x : Int64) (hi : i < 20) : ∃ h', q_sL h (a + 18) (nI i) x = some h' ∧ OB h' a 12 mdL A (upF B 32 (vp_updL (B 32) i x)) I J ∧ Fr h h' a (a + 27) := by
  have := o.sL (k := 32) (i := nI i) (x := x) rfl (nI_nn (by omega)) (by rw [nI_cl (by omega)]; exact hi)
  rw [nI_cl (by omega)] at this
  exact this
theorem X12_p33 (o : OB h a 12 mdL A B I J) (x : Int32) : ∃ h', q_put h a 12 33 (.int x) = some h' ∧ OB h' a 12 mdL A B (upd I 33 x) J ∧ Fr h h' a (a + 27) := o.pI (k := 33) rfl
theorem X12_s34 (o : OB h a 12 mdL A B I J) {i : Nat} (x : Int32) (hi : i < 20) : ∃ h', q_sI h .int (a + 19) (nI i) x = some h' ∧ OB h' a 12 mdL (upF A 34 (upd (A 34) i x)) B I J ∧ Fr h h' a (a + 27) := by
  have := o.sI (k := 34) (i := nI i) (x := x) rfl (nI_nn (by omega)) (by rw [nI_cl (by omega)]; exact hi)
  rw [nI_cl (by omega)] at this
  exact this
theorem X12_s35 (o : OB h a 12 mdL A B I J) {i : Nat} (x : Int32) (hi : i < 20) : ∃ h', q_sI h .int (a + 20) (nI i) x = some h' ∧ OB h' a 12 mdL (upF A 35 (upd (A 35) i x)) B I J ∧ Fr h h' a (a + 27) := by
  have := o.sI (k := 35) (i := nI i) (x := x) rfl (nI_nn (by omega)) (by rw [nI_cl (by omega)]; exact hi)
  rw [nI_cl (by omega)] at this
  exact this
theorem X12_p36 (o : OB h a 12 mdL A B I J) (x : Int32) : ∃ h', q_put h a 12 36 (.int x) = some h' ∧ OB h' a 12 mdL A B (upd I 36 x) J ∧ Fr h h' a (a + 27) := o.pI (k := 36) rfl
theorem X12_p37 (o : OB h a 12 mdL A B I J) (x : Int32) : ∃ h', q_put h a 12 37 (.int x) = some h' ∧ OB h' a 12 mdL A B (upd I 37 x) J ∧ Fr h h' a (a + 27) := o.pI (k := 37) rfl
theorem X12_s38 (o : OB h a 12 mdL A B I J) {i : Nat} (x : Int32) (hi : i < 169) : ∃ h', q_sI h .int (a + 21) (nI i) x = some h' ∧ OB h' a 12 mdL (upF A 38 (upd (A 38) i x)) B I J ∧ Fr h h' a (a + 27) := by
  have := o.sI (k := 38) (i := nI i) (x := x) rfl (nI_nn (by omega)) (by rw [nI_cl (by omega)]; exact hi)
  rw [nI_cl (by omega)] at this
  exact this
theorem X12_p39 (o : OB h a 12 mdL A B I J) (x : Int32) : ∃ h', q_put h a 12 39 (.int x) = some h' ∧ OB h' a 12 mdL A B (upd I 39 x) J ∧ Fr h h' a (a + 27) := o.pI (k := 39) rfl
theorem X12_s40 (o : OB h a 12 mdL A B I J) {i : Nat} (x : Int64) (hi : i < 240) : ∃ h', q_sL h (a + 22) (nI i) x = some h' ∧ OB h' a 12 mdL A (upF B 40 (vp_updL (B 40) i x)) I J ∧ Fr h h' a (a + 27) := by
  have := o.sL (k := 40) (i := nI i) (x := x) rfl (nI_nn (by omega)) (by rw [nI_cl (by omega)]; exact hi)
  rw [nI_cl (by omega)] at this
  exact this
theorem X12_s41 (o : OB h a 12 mdL A B I J) {i : Nat} (x : Int64) (hi : i < 240) : ∃ h', q_sL h (a + 23) (nI i) x = some h' ∧ OB h' a 12 mdL A (upF B 41 (vp_updL (B 41) i x)) I J ∧ Fr h h' a (a + 27) := by
  have := o.sL (k := 41) (i := nI i) (x := x) rfl (nI_nn (by omega)) (by rw [nI_cl (by omega)]; exact hi)
  rw [nI_cl (by omega)] at this
  exact this
theorem X12_s42 (o : OB h a 12 mdL A B I J) {i : Nat} (x : Int32) (hi : i < 240) : ∃ h', q_sI h .int (a + 24) (nI i) x = some h' ∧ OB h' a 12 mdL (upF A 42 (upd (A 42) i x)) B I J ∧ Fr h h' a (a + 27) := by
  have := o.sI (k := 42) (i := nI i) (x := x) rfl (nI_nn (by omega)) (by rw [nI_cl (by omega)]; exact hi)
  rw [nI_cl (by omega)] at this
  exact this
theorem X12_p43 (o : OB h a 12 mdL A B I J) (x : Int64) : ∃ h', q_put h a 12 43 (.long x) = some h' ∧ OB h' a 12 mdL A B I (vp_updL J 43 x) ∧ Fr h h' a (a + 27) := o.pJ (k := 43) rfl
theorem X12_p44 (o : OB h a 12 mdL A B I J) (x : Int32) : ∃ h', q_put h a 12 44 (.int x) = some h' ∧ OB h' a 12 mdL A B (upd I 44 x) J ∧ Fr h h' a (a + 27) := o.pI (k := 44) rfl
theorem X12_p45 (o : OB h a 12 mdL A B I J) (x : Int32) : ∃ h', q_put h a 12 45 (.int x) = some h' ∧ OB h' a 12 mdL A B (upd I 45 x) J ∧ Fr h h' a (a + 27) := o.pI (k := 45) rfl
theorem X12_p46 (o : OB h a 12 mdL A B I J) (x : Int32) : ∃ h', q_put h a 12 46 (.int x) = some h' ∧ OB h' a 12 mdL A B (upd I 46 x) J ∧ Fr h h' a (a + 27) := o.pI (k := 46) rfl
theorem X12_s47 (o : OB h a 12 mdL A B I J) {i : Nat} (x : Int32) (hi : i < 4000) : ∃ h', q_sI h .int (a + 25) (nI i) x = some h' ∧ OB h' a 12 mdL (upF A 47 (upd (A 47) i x)) B I J ∧ Fr h h' a (a + 27) := by
  have := o.sI (k := 47) (i := nI i) (x := x) rfl (nI_nn (by omega)) (by rw [nI_cl (by omega)]; exact hi)
  rw [nI_cl (by omega)] at this
  exact this
theorem X12_s48 (o : OB h a 12 mdL A B I J) {i : Nat} (x : Int32) (hi : i < 3) : ∃ h', q_sI h .boolean (a + 26) (nI i) x = some h' ∧ OB h' a 12 mdL (upF A 48 (upd (A 48) i (vp_nar .boolean x))) B I J ∧ Fr h h' a (a + 27) := by
  have := o.sZ (k := 48) (i := nI i) (x := x) rfl (nI_nn (by omega)) (by rw [nI_cl (by omega)]; exact hi)
  rw [nI_cl (by omega)] at this
  exact this
end PK
