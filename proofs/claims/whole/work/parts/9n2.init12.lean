/-! ===== what the reference's constructor makes (laid by wip/whole/init.py) ===== -/
def mdC : List qC := [.inl (.byte, 2400, .inl (fun _ => 0)), .inl (.int, 4, .inl (fun _ => 0)), .inl (.int, 4, .inl (fun _ => 0)), .inl (.int, 4, .inl (fun _ => 0)), .inl (.int, 16, .inl (fun _ => 0)), .inl (.int, 896, .inl (fun _ => 0)), .inl (.int, 648, .inl (fun _ => 0)), .inl (.int, 104, .inl (fun _ => 0)), .inl (.int, 216, .inl (fun _ => 0)), .inl (.int, 112, .inl (fun _ => 0)), .inl (.int, 4, .inl (fun _ => 0)), .inl (.int, 400, .inl (fun _ => 0)), .inl (.int, 20, .inl (fun _ => 0)), .inl (.int, 30, .inl (fun _ => 0)), .inl (.int, 420, .inl (fun _ => 0)), .inl (.int, 200, .inl (fun _ => 0)), .inl (.long, 20, .inr (.inl (fun _ => 0))), .inl (.long, 20, .inr (.inl (fun _ => 0))), .inl (.int, 20, .inl (fun _ => 0)), .inl (.int, 20, .inl (fun _ => 0)), .inl (.int, 169, .inl (fun _ => 0)), .inl (.long, 240, .inr (.inl (fun _ => 0))), .inl (.long, 240, .inr (.inl (fun _ => 0))), .inl (.int, 240, .inl (fun _ => 0)), .inl (.int, 4000, .inl (fun _ => 0)), .inl (.boolean, 3, .inl (fun _ => 0))]
def mdV (a : Nat) : List Value := (List.range 49).map (obF mdL a zI zJ)
def mdF1 (a : Nat) : List Value := [.int 0, .ref (a + 1), .ref (a + 2), .ref (a + 3), .ref (a + 4), .ref (a + 5), .ref (a + 6), .ref (a + 7), .null, .null, .int 0, .int 0, .int 0, .int 0, .int 0, .long 0, .int 0, .int 0, .int 0, .null, .null, .int 0, .int 0, .int 0, .int 0, .null, .null, .int 0, .null, .null, .null, .null, .null, .int 0, .null, .null, .int 0, .int 0, .null, .int 0, .null, .null, .null, .long 0, .int 0, .int 0, .int 0, .null, .null]
def mdF2 (a : Nat) : List Value := [.int 0, .ref (a + 1), .ref (a + 2), .ref (a + 3), .ref (a + 4), .ref (a + 5), .ref (a + 6), .ref (a + 7), .ref (a + 8), .ref (a + 9), .int 0, .int 0, .int 0, .int 0, .int 0, .long 0, .int 0, .int 0, .int 0, .ref (a + 10), .ref (a + 11), .int 0, .int 0, .int 0, .int 0, .ref (a + 12), .ref (a + 13), .int 0, .ref (a + 14), .null, .null, .null, .null, .int 0, .null, .null, .int 0, .int 0, .null, .int 0, .null, .null, .null, .long 0, .int 0, .int 0, .int 0, .null, .null]
def mdF3 (a : Nat) : List Value := [.int 0, .ref (a + 1), .ref (a + 2), .ref (a + 3), .ref (a + 4), .ref (a + 5), .ref (a + 6), .ref (a + 7), .ref (a + 8), .ref (a + 9), .int 0, .int 0, .int 0, .int 0, .int 0, .long 0, .int 0, .int 0, .int 0, .ref (a + 10), .ref (a + 11), .int 0, .int 0, .int 0, .int 0, .ref (a + 12), .ref (a + 13), .int 0, .ref (a + 14), .ref (a + 15), .ref (a + 16), .ref (a + 17), .ref (a + 18), .int 0, .ref (a + 19), .ref (a + 20), .int 0, .int 0, .null, .int 0, .null, .null, .null, .long 0, .int 0, .int 0, .int 0, .null, .null]
def mdF4 (a : Nat) : List Value := [.int 0, .ref (a + 1), .ref (a + 2), .ref (a + 3), .ref (a + 4), .ref (a + 5), .ref (a + 6), .ref (a + 7), .ref (a + 8), .ref (a + 9), .int 0, .int 0, .int 0, .int 0, .int 0, .long 0, .int 0, .int 0, .int 0, .ref (a + 10), .ref (a + 11), .int 0, .int 0, .int 0, .int 0, .ref (a + 12), .ref (a + 13), .int 0, .ref (a + 14), .ref (a + 15), .ref (a + 16), .ref (a + 17), .ref (a + 18), .int 0, .ref (a + 19), .ref (a + 20), .int 0, .int 0, .ref (a + 21), .int 0, .ref (a + 22), .ref (a + 23), .ref (a + 24), .long 0, .int 0, .int 0, .int 0, .ref (a + 25), .ref (a + 26)]
theorem n_12s1 {h g0 : qH} {a : Nat} (p0 : PO h g0 a 12 df_X12 []) : ∃ g1 g2 g3 g4 g5 g6 g7, q_put (q_nwI g0 (a + 1) .byte 2400) a 12 1 (.ref (a + 1)) = some g1 ∧ q_put (q_nwI g1 (a + 1 + 1) .int 4) a 12 2 (.ref (a + 1 + 1)) = some g2 ∧ q_put (q_nwI g2 (a + 1 + 1 + 1) .int 4) a 12 3 (.ref (a + 1 + 1 + 1)) = some g3 ∧ q_put (q_nwI g3 (a + 1 + 1 + 1 + 1) .int 4) a 12 4 (.ref (a + 1 + 1 + 1 + 1)) = some g4 ∧ q_put (q_nwI g4 (a + 1 + 1 + 1 + 1 + 1) .int 16) a 12 5 (.ref (a + 1 + 1 + 1 + 1 + 1)) = some g5 ∧ q_put (q_nwI g5 (a + 1 + 1 + 1 + 1 + 1 + 1) .int 896) a 12 6 (.ref (a + 1 + 1 + 1 + 1 + 1 + 1)) = some g6 ∧ q_put (q_nwI g6 (a + 1 + 1 + 1 + 1 + 1 + 1 + 1) .int 648) a 12 7 (.ref (a + 1 + 1 + 1 + 1 + 1 + 1 + 1)) = some g7 ∧ PO h g7 a 12 (mdF1 a) (mdC.take 7) := by
  obtain ⟨g1, e1, p1⟩ := p0.add (nx := a + 1) (k := 1) (.inl (.byte, 2400, .inl (fun _ => 0))) rfl (Nat.le_of_ble_eq_true rfl)
  obtain ⟨g2, e2, p2⟩ := p1.add (nx := a + 2) (k := 2) (.inl (.int, 4, .inl (fun _ => 0))) rfl (Nat.le_of_ble_eq_true rfl)
  obtain ⟨g3, e3, p3⟩ := p2.add (nx := a + 3) (k := 3) (.inl (.int, 4, .inl (fun _ => 0))) rfl (Nat.le_of_ble_eq_true rfl)
  obtain ⟨g4, e4, p4⟩ := p3.add (nx := a + 4) (k := 4) (.inl (.int, 4, .inl (fun _ => 0))) rfl (Nat.le_of_ble_eq_true rfl)
  obtain ⟨g5, e5, p5⟩ := p4.add (nx := a + 5) (k := 5) (.inl (.int, 16, .inl (fun _ => 0))) rfl (Nat.le_of_ble_eq_true rfl)
  obtain ⟨g6, e6, p6⟩ := p5.add (nx := a + 6) (k := 6) (.inl (.int, 896, .inl (fun _ => 0))) rfl (Nat.le_of_ble_eq_true rfl)
  obtain ⟨g7, e7, p7⟩ := p6.add (nx := a + 7) (k := 7) (.inl (.int, 648, .inl (fun _ => 0))) rfl (Nat.le_of_ble_eq_true rfl)
  exact ⟨g1, g2, g3, g4, g5, g6, g7, e1, e2, e3, e4, e5, e6, e7, p7⟩
theorem n_12s2 {h g7 : qH} {a : Nat} (p7 : PO h g7 a 12 (mdF1 a) (mdC.take 7)) : ∃ g8 g9 g10 g11 g12 g13 g14, q_put (q_nwI g7 (a + 1 + 1 + 1 + 1 + 1 + 1 + 1 + 1) .int 104) a 12 8 (.ref (a + 1 + 1 + 1 + 1 + 1 + 1 + 1 + 1)) = some g8 ∧ q_put (q_nwI g8 (a + 1 + 1 + 1 + 1 + 1 + 1 + 1 + 1 + 1) .int 216) a 12 9 (.ref (a + 1 + 1 + 1 + 1 + 1 + 1 + 1 + 1 + 1)) = some g9 ∧ q_put (q_nwI g9 (a + 1 + 1 + 1 + 1 + 1 + 1 + 1 + 1 + 1 + 1) .int 112) a 12 19 (.ref (a + 1 + 1 + 1 + 1 + 1 + 1 + 1 + 1 + 1 + 1)) = some g10 ∧ q_put (q_nwI g10 (a + 1 + 1 + 1 + 1 + 1 + 1 + 1 + 1 + 1 + 1 + 1) .int 4) a 12 20 (.ref (a + 1 + 1 + 1 + 1 + 1 + 1 + 1 + 1 + 1 + 1 + 1)) = some g11 ∧ q_put (q_nwI g11 (a + 1 + 1 + 1 + 1 + 1 + 1 + 1 + 1 + 1 + 1 + 1 + 1) .int 400) a 12 25 (.ref (a + 1 + 1 + 1 + 1 + 1 + 1 + 1 + 1 + 1 + 1 + 1 + 1)) = some g12 ∧ q_put (q_nwI g12 (a + 1 + 1 + 1 + 1 + 1 + 1 + 1 + 1 + 1 + 1 + 1 + 1 + 1) .int 20) a 12 26 (.ref (a + 1 + 1 + 1 + 1 + 1 + 1 + 1 + 1 + 1 + 1 + 1 + 1 + 1)) = some g13 ∧ q_put (q_nwI g13 (a + 1 + 1 + 1 + 1 + 1 + 1 + 1 + 1 + 1 + 1 + 1 + 1 + 1 + 1) .int 30) a 12 28 (.ref (a + 1 + 1 + 1 + 1 + 1 + 1 + 1 + 1 + 1 + 1 + 1 + 1 + 1 + 1)) = some g14 ∧ PO h g14 a 12 (mdF2 a) (mdC.take 14) := by
  obtain ⟨g8, e8, p8⟩ := p7.add (nx := a + 8) (k := 8) (.inl (.int, 104, .inl (fun _ => 0))) rfl (Nat.le_of_ble_eq_true rfl)
  obtain ⟨g9, e9, p9⟩ := p8.add (nx := a + 9) (k := 9) (.inl (.int, 216, .inl (fun _ => 0))) rfl (Nat.le_of_ble_eq_true rfl)
  obtain ⟨g10, e10, p10⟩ := p9.add (nx := a + 10) (k := 19) (.inl (.int, 112, .inl (fun _ => 0))) rfl (Nat.le_of_ble_eq_true rfl)
  obtain ⟨g11, e11, p11⟩ := p10.add (nx := a + 11) (k := 20) (.inl (.int, 4, .inl (fun _ => 0))) rfl (Nat.le_of_ble_eq_true rfl)
  obtain ⟨g12, e12, p12⟩ := p11.add (nx := a + 12) (k := 25) (.inl (.int, 400, .inl (fun _ => 0))) rfl (Nat.le_of_ble_eq_true rfl)
  obtain ⟨g13, e13, p13⟩ := p12.add (nx := a + 13) (k := 26) (.inl (.int, 20, .inl (fun _ => 0))) rfl (Nat.le_of_ble_eq_true rfl)
  obtain ⟨g14, e14, p14⟩ := p13.add (nx := a + 14) (k := 28) (.inl (.int, 30, .inl (fun _ => 0))) rfl (Nat.le_of_ble_eq_true rfl)
  exact ⟨g8, g9, g10, g11, g12, g13, g14, e8, e9, e10, e11, e12, e13, e14, p14⟩
theorem n_12s3 {h g14 : qH} {a : Nat} (p14 : PO h g14 a 12 (mdF2 a) (mdC.take 14)) : ∃ g15 g16 g17 g18 g19 g20, q_put (q_nwI g14 (a + 1 + 1 + 1 + 1 + 1 + 1 + 1 + 1 + 1 + 1 + 1 + 1 + 1 + 1 + 1) .int 420) a 12 29 (.ref (a + 1 + 1 + 1 + 1 + 1 + 1 + 1 + 1 + 1 + 1 + 1 + 1 + 1 + 1 + 1)) = some g15 ∧ q_put (q_nwI g15 (a + 1 + 1 + 1 + 1 + 1 + 1 + 1 + 1 + 1 + 1 + 1 + 1 + 1 + 1 + 1 + 1) .int 200) a 12 30 (.ref (a + 1 + 1 + 1 + 1 + 1 + 1 + 1 + 1 + 1 + 1 + 1 + 1 + 1 + 1 + 1 + 1)) = some g16 ∧ q_put (q_nwL g16 (a + 1 + 1 + 1 + 1 + 1 + 1 + 1 + 1 + 1 + 1 + 1 + 1 + 1 + 1 + 1 + 1 + 1) 20) a 12 31 (.ref (a + 1 + 1 + 1 + 1 + 1 + 1 + 1 + 1 + 1 + 1 + 1 + 1 + 1 + 1 + 1 + 1 + 1)) = some g17 ∧ q_put (q_nwL g17 (a + 1 + 1 + 1 + 1 + 1 + 1 + 1 + 1 + 1 + 1 + 1 + 1 + 1 + 1 + 1 + 1 + 1 + 1) 20) a 12 32 (.ref (a + 1 + 1 + 1 + 1 + 1 + 1 + 1 + 1 + 1 + 1 + 1 + 1 + 1 + 1 + 1 + 1 + 1 + 1)) = some g18 ∧ q_put (q_nwI g18 (a + 1 + 1 + 1 + 1 + 1 + 1 + 1 + 1 + 1 + 1 + 1 + 1 + 1 + 1 + 1 + 1 + 1 + 1 + 1) .int 20) a 12 34 (.ref (a + 1 + 1 + 1 + 1 + 1 + 1 + 1 + 1 + 1 + 1 + 1 + 1 + 1 + 1 + 1 + 1 + 1 + 1 + 1)) = some g19 ∧ q_put (q_nwI g19 (a + 1 + 1 + 1 + 1 + 1 + 1 + 1 + 1 + 1 + 1 + 1 + 1 + 1 + 1 + 1 + 1 + 1 + 1 + 1 + 1) .int 20) a 12 35 (.ref (a + 1 + 1 + 1 + 1 + 1 + 1 + 1 + 1 + 1 + 1 + 1 + 1 + 1 + 1 + 1 + 1 + 1 + 1 + 1 + 1)) = some g20 ∧ PO h g20 a 12 (mdF3 a) (mdC.take 20) := by
  obtain ⟨g15, e15, p15⟩ := p14.add (nx := a + 15) (k := 29) (.inl (.int, 420, .inl (fun _ => 0))) rfl (Nat.le_of_ble_eq_true rfl)
  obtain ⟨g16, e16, p16⟩ := p15.add (nx := a + 16) (k := 30) (.inl (.int, 200, .inl (fun _ => 0))) rfl (Nat.le_of_ble_eq_true rfl)
  obtain ⟨g17, e17, p17⟩ := p16.add (nx := a + 17) (k := 31) (.inl (.long, 20, .inr (.inl (fun _ => 0)))) rfl (Nat.le_of_ble_eq_true rfl)
  obtain ⟨g18, e18, p18⟩ := p17.add (nx := a + 18) (k := 32) (.inl (.long, 20, .inr (.inl (fun _ => 0)))) rfl (Nat.le_of_ble_eq_true rfl)
  obtain ⟨g19, e19, p19⟩ := p18.add (nx := a + 19) (k := 34) (.inl (.int, 20, .inl (fun _ => 0))) rfl (Nat.le_of_ble_eq_true rfl)
  obtain ⟨g20, e20, p20⟩ := p19.add (nx := a + 20) (k := 35) (.inl (.int, 20, .inl (fun _ => 0))) rfl (Nat.le_of_ble_eq_true rfl)
  exact ⟨g15, g16, g17, g18, g19, g20, e15, e16, e17, e18, e19, e20, p20⟩
theorem n_12s4 {h g20 : qH} {a : Nat} (p20 : PO h g20 a 12 (mdF3 a) (mdC.take 20)) : ∃ g21 g22 g23 g24 g25 g26, q_put (q_nwI g20 (a + 1 + 1 + 1 + 1 + 1 + 1 + 1 + 1 + 1 + 1 + 1 + 1 + 1 + 1 + 1 + 1 + 1 + 1 + 1 + 1 + 1) .int 169) a 12 38 (.ref (a + 1 + 1 + 1 + 1 + 1 + 1 + 1 + 1 + 1 + 1 + 1 + 1 + 1 + 1 + 1 + 1 + 1 + 1 + 1 + 1 + 1)) = some g21 ∧ q_put (q_nwL g21 (a + 1 + 1 + 1 + 1 + 1 + 1 + 1 + 1 + 1 + 1 + 1 + 1 + 1 + 1 + 1 + 1 + 1 + 1 + 1 + 1 + 1 + 1) 240) a 12 40 (.ref (a + 1 + 1 + 1 + 1 + 1 + 1 + 1 + 1 + 1 + 1 + 1 + 1 + 1 + 1 + 1 + 1 + 1 + 1 + 1 + 1 + 1 + 1)) = some g22 ∧ q_put (q_nwL g22 (a + 1 + 1 + 1 + 1 + 1 + 1 + 1 + 1 + 1 + 1 + 1 + 1 + 1 + 1 + 1 + 1 + 1 + 1 + 1 + 1 + 1 + 1 + 1) 240) a 12 41 (.ref (a + 1 + 1 + 1 + 1 + 1 + 1 + 1 + 1 + 1 + 1 + 1 + 1 + 1 + 1 + 1 + 1 + 1 + 1 + 1 + 1 + 1 + 1 + 1)) = some g23 ∧ q_put (q_nwI g23 (a + 1 + 1 + 1 + 1 + 1 + 1 + 1 + 1 + 1 + 1 + 1 + 1 + 1 + 1 + 1 + 1 + 1 + 1 + 1 + 1 + 1 + 1 + 1 + 1) .int 240) a 12 42 (.ref (a + 1 + 1 + 1 + 1 + 1 + 1 + 1 + 1 + 1 + 1 + 1 + 1 + 1 + 1 + 1 + 1 + 1 + 1 + 1 + 1 + 1 + 1 + 1 + 1)) = some g24 ∧ q_put (q_nwI g24 (a + 1 + 1 + 1 + 1 + 1 + 1 + 1 + 1 + 1 + 1 + 1 + 1 + 1 + 1 + 1 + 1 + 1 + 1 + 1 + 1 + 1 + 1 + 1 + 1 + 1) .int 4000) a 12 47 (.ref (a + 1 + 1 + 1 + 1 + 1 + 1 + 1 + 1 + 1 + 1 + 1 + 1 + 1 + 1 + 1 + 1 + 1 + 1 + 1 + 1 + 1 + 1 + 1 + 1 + 1)) = some g25 ∧ q_put (q_nwI g25 (a + 1 + 1 + 1 + 1 + 1 + 1 + 1 + 1 + 1 + 1 + 1 + 1 + 1 + 1 + 1 + 1 + 1 + 1 + 1 + 1 + 1 + 1 + 1 + 1 + 1 + 1) .boolean 3) a 12 48 (.ref (a + 1 + 1 + 1 + 1 + 1 + 1 + 1 + 1 + 1 + 1 + 1 + 1 + 1 + 1 + 1 + 1 + 1 + 1 + 1 + 1 + 1 + 1 + 1 + 1 + 1 + 1)) = some g26 ∧ PO h g26 a 12 (mdF4 a) (mdC.take 26) := by
  obtain ⟨g21, e21, p21⟩ := p20.add (nx := a + 21) (k := 38) (.inl (.int, 169, .inl (fun _ => 0))) rfl (Nat.le_of_ble_eq_true rfl)
  obtain ⟨g22, e22, p22⟩ := p21.add (nx := a + 22) (k := 40) (.inl (.long, 240, .inr (.inl (fun _ => 0)))) rfl (Nat.le_of_ble_eq_true rfl)
  obtain ⟨g23, e23, p23⟩ := p22.add (nx := a + 23) (k := 41) (.inl (.long, 240, .inr (.inl (fun _ => 0)))) rfl (Nat.le_of_ble_eq_true rfl)
  obtain ⟨g24, e24, p24⟩ := p23.add (nx := a + 24) (k := 42) (.inl (.int, 240, .inl (fun _ => 0))) rfl (Nat.le_of_ble_eq_true rfl)
  obtain ⟨g25, e25, p25⟩ := p24.add (nx := a + 25) (k := 47) (.inl (.int, 4000, .inl (fun _ => 0))) rfl (Nat.le_of_ble_eq_true rfl)
  obtain ⟨g26, e26, p26⟩ := p25.add (nx := a + 26) (k := 48) (.inl (.boolean, 3, .inl (fun _ => 0))) rfl (Nat.le_of_ble_eq_true rfl)
  exact ⟨g21, g22, g23, g24, g25, g26, e21, e22, e23, e24, e25, e26, p26⟩
theorem md_F (a : Nat) : mdF4 a = (List.range mdL.length).map (obF mdL a zI zJ) := rfl
theorem md_C : ∀ k kd n, mdL[k]? = some (kd, n) → isRow kd = true → (mdC.take 26)[rk mdL k]? = some (.inl (obC zA zB kd n k)) := by
  intro k kd n hk hr
  have hl : k < 49 := (List.getElem?_eq_some_iff.mp hk).1
  rcases (show k = 0 ∨ k = 1 ∨ k = 2 ∨ k = 3 ∨ k = 4 ∨ k = 5 ∨ k = 6 ∨ k = 7 ∨ k = 8 ∨ k = 9 ∨ k = 10 ∨ k = 11 ∨ k = 12 ∨ k = 13 ∨ k = 14 ∨ k = 15 ∨ k = 16 ∨ k = 17 ∨ k = 18 ∨ k = 19 ∨ k = 20 ∨ k = 21 ∨ k = 22 ∨ k = 23 ∨ k = 24 ∨ k = 25 ∨ k = 26 ∨ k = 27 ∨ k = 28 ∨ k = 29 ∨ k = 30 ∨ k = 31 ∨ k = 32 ∨ k = 33 ∨ k = 34 ∨ k = 35 ∨ k = 36 ∨ k = 37 ∨ k = 38 ∨ k = 39 ∨ k = 40 ∨ k = 41 ∨ k = 42 ∨ k = 43 ∨ k = 44 ∨ k = 45 ∨ k = 46 ∨ k = 47 ∨ k = 48 by omega) with rfl | rfl | rfl | rfl | rfl | rfl | rfl | rfl | rfl | rfl | rfl | rfl | rfl | rfl | rfl | rfl | rfl | rfl | rfl | rfl | rfl | rfl | rfl | rfl | rfl | rfl | rfl | rfl | rfl | rfl | rfl | rfl | rfl | rfl | rfl | rfl | rfl | rfl | rfl | rfl | rfl | rfl | rfl | rfl | rfl | rfl | rfl | rfl | rfl
  · cases (show some (0, 0) = some (kd, n) from hk); cases hr
  · cases (show some (4, 2400) = some (kd, n) from hk); rfl
  · cases (show some (1, 4) = some (kd, n) from hk); rfl
  · cases (show some (1, 4) = some (kd, n) from hk); rfl
  · cases (show some (1, 4) = some (kd, n) from hk); rfl
  · cases (show some (1, 16) = some (kd, n) from hk); rfl
  · cases (show some (1, 896) = some (kd, n) from hk); rfl
  · cases (show some (1, 648) = some (kd, n) from hk); rfl
  · cases (show some (1, 104) = some (kd, n) from hk); rfl
  · cases (show some (1, 216) = some (kd, n) from hk); rfl
  · cases (show some (0, 0) = some (kd, n) from hk); cases hr
  · cases (show some (0, 0) = some (kd, n) from hk); cases hr
  · cases (show some (0, 0) = some (kd, n) from hk); cases hr
  · cases (show some (0, 0) = some (kd, n) from hk); cases hr
  · cases (show some (0, 0) = some (kd, n) from hk); cases hr
  · cases (show some (2, 0) = some (kd, n) from hk); cases hr
  · cases (show some (0, 0) = some (kd, n) from hk); cases hr
  · cases (show some (0, 0) = some (kd, n) from hk); cases hr
  · cases (show some (0, 0) = some (kd, n) from hk); cases hr
  · cases (show some (1, 112) = some (kd, n) from hk); rfl
  · cases (show some (1, 4) = some (kd, n) from hk); rfl
  · cases (show some (0, 0) = some (kd, n) from hk); cases hr
  · cases (show some (0, 0) = some (kd, n) from hk); cases hr
  · cases (show some (0, 0) = some (kd, n) from hk); cases hr
  · cases (show some (0, 0) = some (kd, n) from hk); cases hr
  · cases (show some (1, 400) = some (kd, n) from hk); rfl
  · cases (show some (1, 20) = some (kd, n) from hk); rfl
  · cases (show some (0, 0) = some (kd, n) from hk); cases hr
  · cases (show some (1, 30) = some (kd, n) from hk); rfl
  · cases (show some (1, 420) = some (kd, n) from hk); rfl
  · cases (show some (1, 200) = some (kd, n) from hk); rfl
  · cases (show some (3, 20) = some (kd, n) from hk); rfl
  · cases (show some (3, 20) = some (kd, n) from hk); rfl
  · cases (show some (0, 0) = some (kd, n) from hk); cases hr
  · cases (show some (1, 20) = some (kd, n) from hk); rfl
  · cases (show some (1, 20) = some (kd, n) from hk); rfl
  · cases (show some (0, 0) = some (kd, n) from hk); cases hr
  · cases (show some (0, 0) = some (kd, n) from hk); cases hr
  · cases (show some (1, 169) = some (kd, n) from hk); rfl
  · cases (show some (0, 0) = some (kd, n) from hk); cases hr
  · cases (show some (3, 240) = some (kd, n) from hk); rfl
  · cases (show some (3, 240) = some (kd, n) from hk); rfl
  · cases (show some (1, 240) = some (kd, n) from hk); rfl
  · cases (show some (2, 0) = some (kd, n) from hk); cases hr
  · cases (show some (0, 0) = some (kd, n) from hk); cases hr
  · cases (show some (0, 0) = some (kd, n) from hk); cases hr
  · cases (show some (0, 0) = some (kd, n) from hk); cases hr
  · cases (show some (1, 4000) = some (kd, n) from hk); rfl
  · cases (show some (5, 3) = some (kd, n) from hk); rfl
theorem n_X12 (h : qH) (a : Nat) : ∃ h', F_X12_init (q_new h a 12 df_X12) (a + 1) a = some (h', a + 27) ∧ OB h' a 12 mdL (upF zA 4 (upd (zA 4) 0 m1)) zB zI zJ ∧ Fr h h' a (a + 27) := by
  have p0 : PO h (q_new h a 12 df_X12) a 12 df_X12 [] := PO.new
  obtain ⟨g1, g2, g3, g4, g5, g6, g7, e1, e2, e3, e4, e5, e6, e7, p7⟩ := n_12s1 p0
  obtain ⟨g8, g9, g10, g11, g12, g13, g14, e8, e9, e10, e11, e12, e13, e14, p14⟩ := n_12s2 p7
  obtain ⟨g15, g16, g17, g18, g19, g20, e15, e16, e17, e18, e19, e20, p20⟩ := n_12s3 p14
  obtain ⟨g21, g22, g23, g24, g25, g26, e21, e22, e23, e24, e25, e26, p26⟩ := n_12s4 p20
  have o26 : OB g26 a 12 mdL zA zB zI zJ := p26.ob (md_F a) md_C
  obtain ⟨g27, e27, o27, r27⟩ := X12_s4 o26 (i := 0) m1 (by omega)
  have r26 : Fr h g26 a (a + 27) := fun q hq => p26.2.2 q hq
  refine ⟨g27, ?_, o27, r26.tr r27⟩
  have f4 : q_fR g26 a 12 4 = some (a + 4) := o26.fR (k := 4) rfl rfl
  have e27 : q_sI g26 .int (a + 4) (0 : Int32) (-1 : Int32) = some g27 := e27
  unfold F_X12_init
  rw [e1, Option.bind_some]
  rw [e2, Option.bind_some]
  rw [e3, Option.bind_some]
  rw [e4, Option.bind_some]
  rw [e5, Option.bind_some]
  rw [e6, Option.bind_some]
  rw [e7, Option.bind_some]
  rw [e8, Option.bind_some]
  rw [e9, Option.bind_some]
  rw [e10, Option.bind_some]
  rw [e11, Option.bind_some]
  rw [e12, Option.bind_some]
  rw [e13, Option.bind_some]
  rw [e14, Option.bind_some]
  rw [e15, Option.bind_some]
  rw [e16, Option.bind_some]
  rw [e17, Option.bind_some]
  rw [e18, Option.bind_some]
  rw [e19, Option.bind_some]
  rw [e20, Option.bind_some]
  rw [e21, Option.bind_some]
  rw [e22, Option.bind_some]
  rw [e23, Option.bind_some]
  rw [e24, Option.bind_some]
  rw [e25, Option.bind_some]
  rw [e26, Option.bind_some]
  rw [f4, Option.bind_some, e27, Option.bind_some]
