set_option maxRecDepth 20000 in
theorem E_X0_takeFrom {d : Nat} {P : wf_Mem → Prop} {mem : wf_Mem} (x0 : Nat) (hx0 : wf_sh x0 = (0, 0)) (x1 : Nat) (hx1 : wf_sh x1 = (0, 0))
    (h : (Cv mX3_takeFrom d [.ref (x0 + 1), .ref (x1 + 1)] mem (fun mem3 => (∀ mem4 : wf_Mem, mem4 = wf_ms mem3 x0 2 (mem3 x1 2) → Vw (Nv (d + 1) P) mX0_takeFrom 21 [(0, .ref x0), (1, .ref x1), (2, .int 0)] [] mem4)))) :
    Cv mX0_takeFrom (d + 1) [.ref x0, .ref x1] mem P := Cw_of rfl (Nat.le_of_ble_eq_true rfl) rfl (b_X0_takeFrom_0 mem x0 hx0 x1 hx1 h)
set_option maxRecDepth 20000 in
theorem E_X0_hasWatcher {d : Nat} {P : Int32 → wf_Mem → Prop} {mem : wf_Mem} (x0 : Nat) (hx0 : wf_sh x0 = (0, 0)) (x1 : Int32)
    (h : (Ci mX8_within d [.int x1, .int 0, .int ((mem x0 2) - 1)] mem (fun r4 mem3 => ((r4 = 0 ∨ r4 = 1) ∧ P r4 mem3)))) :
    Ci mX0_hasWatcher (d + 1) [.ref x0, .int x1] mem P := Cw_of rfl (Nat.le_of_ble_eq_true rfl) rfl (b_X0_hasWatcher_0 mem x0 hx0 x1 h)
set_option maxRecDepth 20000 in
theorem E_X0_hires {d : Nat} {P : Int32 → wf_Mem → Prop} {mem : wf_Mem} (x0 : Nat) (hx0 : wf_sh x0 = (0, 0)) (x1 : Int32) (x2 : Int32) (x3 : Int32)
    (h : (((mem x0 2) < 8 → (vp_in (mem x0 2) 8 ∧ (∀ mem11 : wf_Mem, mem11 = wf_ms mem ((x0 + 5) + 4 + (mem x0 2).toNatClampNeg) 0 x1 → (∀ mem12 : wf_Mem, mem12 = wf_ms mem11 ((x0 + 5) + 4 + (mem x0 2).toNatClampNeg) 1 x2 → (∀ mem13 : wf_Mem, mem13 = wf_ms mem12 ((x0 + 5) + 4 + (mem x0 2).toNatClampNeg) 2 x3 → (∀ mem14 : wf_Mem, mem14 = wf_ms mem13 ((x0 + 5) + 4 + (mem x0 2).toNatClampNeg) 3 0 → (∀ mem15 : wf_Mem, mem15 = wf_ms mem14 ((x0 + 5) + 4 + (mem x0 2).toNatClampNeg) 4 0 → (∀ mem16 : wf_Mem, mem16 = wf_ms mem15 x0 2 ((mem15 x0 2) + 1) → P ((mem16 x0 2) - 1) mem16)))))))) ∧ (¬ (mem x0 2) < 8 → P (-1000000003) mem))) :
    Ci mX0_hires d [.ref x0, .int x1, .int x2, .int x3] mem P := Cw_of rfl (Nat.le_of_ble_eq_true rfl) rfl (b_X0_hires_0 mem x0 hx0 x1 x2 x3 h)
set_option maxRecDepth 20000 in
theorem E_X0_draw {d : Nat} {P : Int32 → wf_Mem → Prop} {mem : wf_Mem} (x0 : Nat) (hx0 : wf_sh x0 = (0, 0))
    (h : (∀ mem2 : wf_Mem, mem2 = wf_ms mem x0 10 (((mem x0 10) * 1103515245) + 12345) → P (((mem2 x0 10).toUInt32 >>> ((8 : Int32).toUInt32 &&& Int32.toUInt32 31)).toInt32) mem2)) :
    Ci mX0_draw d [.ref x0] mem P := Cw_of rfl (Nat.le_of_ble_eq_true rfl) rfl (b_X0_draw_0 mem x0 hx0 h)
set_option maxRecDepth 20000 in
theorem E_X0_onMany {d : Nat} {P : Int32 → wf_Mem → Prop} {mem : wf_Mem} (x0 : Nat) (hx0 : wf_sh x0 = (0, 0))
    (h : Vw (Ni d P) mX0_onMany 4 [(0, .ref x0), (1, .int 0), (2, .int 0)] [] mem) :
    Ci mX0_onMany d [.ref x0] mem P := Cw_of rfl (Nat.le_of_ble_eq_true rfl) rfl (b_X0_onMany_0 mem x0 hx0 h)
set_option maxRecDepth 20000 in
theorem E_X0_wakesOnly {d : Nat} {P : wf_Mem → Prop} {mem : wf_Mem} (x0 : Nat) (hx0 : wf_sh x0 = (0, 0)) (x1 : Int32)
    (h : Vw (Nv d P) mX0_wakesOnly 2 [(0, .ref x0), (1, .int x1), (2, .int 0)] [] mem) :
    Cv mX0_wakesOnly d [.ref x0, .int x1] mem P := Cw_of rfl (Nat.le_of_ble_eq_true rfl) rfl (b_X0_wakesOnly_0 mem x0 hx0 x1 h)
set_option maxRecDepth 20000 in
theorem E_X0_byLaw {d : Nat} {P : Int32 → wf_Mem → Prop} {mem : wf_Mem} (x0 : Nat) (hx0 : wf_sh x0 = (0, 0)) (x1 : Int32) (x2 : Int32) (x3 : Int32) (x4 : Int32) (x5 : Int32)
    (h : (vp_in x1 3 ∧ (∀ x6_8 : Int32, x6_8 = (mem (x0 + 6) x1.toNatClampNeg) → (Ci mX8_within d [.int x6_8, .int 0, .int ((mem x0 12) - 1)] mem (fun r10 mem9 => ((r10 = 0 → P x5 mem9) ∧ (¬ r10 = 0 → (vp_in x6_8 15 ∧ (Ci mX2_work d [.ref (10 + 1 + 2 * x6_8.toNatClampNeg), .int x2, .int x3, .int x4] mem9 (fun r14 mem13 => P r14 mem13)))))))))) :
    Ci mX0_byLaw (d + 1) [.ref x0, .int x1, .int x2, .int x3, .int x4, .int x5] mem P := Cw_of rfl (Nat.le_of_ble_eq_true rfl) rfl (b_X0_byLaw_0 mem x0 hx0 x1 x2 x3 x4 x5 h)
set_option maxRecDepth 20000 in
theorem E_X0_lightBy {d : Nat} {P : Int32 → wf_Mem → Prop} {mem : wf_Mem} (x0 : Nat) (hx0 : wf_sh x0 = (0, 0)) (x1 : Int32) (x2 : Int32)
    (h : (Ci mX0_byLaw d [.ref x0, .int 0, .int x1, .int x2, .int (mem x0 3), .int ((2 * x1) + x2)] mem (fun r6 mem5 => (Ci mX8_held d [.int r6, .int 0, .int 99] mem5 (fun r8 mem7 => P r8 mem7))))) :
    Ci mX0_lightBy (d + 1) [.ref x0, .int x1, .int x2] mem P := Cw_of rfl (Nat.le_of_ble_eq_true rfl) rfl (b_X0_lightBy_0 mem x0 hx0 x1 x2 h)
set_option maxRecDepth 20000 in
theorem E_X0_measure {d : Nat} {P : wf_Mem → Prop} {mem : wf_Mem} (x0 : Nat) (hx0 : wf_sh x0 = (0, 0))
    (h : Vw (Nv (d + 1) P) mX0_measure 2 [(0, .ref x0), (1, .int 0)] [] mem) :
    Cv mX0_measure (d + 1) [.ref x0] mem P := Cw_of rfl (Nat.le_of_ble_eq_true rfl) rfl (b_X0_measure_0 mem x0 hx0 h)
set_option maxRecDepth 20000 in
theorem E_X0_sightOf {d : Nat} {P : Int32 → wf_Mem → Prop} {mem : wf_Mem} (x0 : Nat) (hx0 : wf_sh x0 = (0, 0)) (x1 : Nat) (hx1 : wf_sh x1 = (7, 0))
    (h : (Ci mX3_has d [.ref (x0 + 1), .int (mem x1 1)] mem (fun r7 mem6 => ((r7 = 0 → P 0 mem6) ∧ (¬ r7 = 0 → (vp_in (mem6 x1 1) 12 ∧ (vp_in (mem6 x1 1) 12 ∧ (Ci mX7_sight d [.ref x1, .int (mem6 (x0 + 7) (mem6 x1 1).toNatClampNeg), .int (mem6 ((x0 + 1) + 1) (mem6 x1 1).toNatClampNeg)] mem6 (fun r10 mem9 => P r10 mem9))))))))) :
    Ci mX0_sightOf (d + 1) [.ref x0, .ref x1] mem P := Cw_of rfl (Nat.le_of_ble_eq_true rfl) rfl (b_X0_sightOf_0 mem x0 hx0 x1 hx1 h)
set_option maxRecDepth 20000 in
theorem E_X0_fearsOf {d : Nat} {P : Int32 → wf_Mem → Prop} {mem : wf_Mem} (x0 : Nat) (hx0 : wf_sh x0 = (0, 0)) (x1 : Int32)
    (h : (Ci mX3_has d [.ref (x0 + 1), .int x1] mem (fun r10 mem9 => ((¬ r10 = 0 → (vp_in x1 12 ∧ (∀ x2_12 : Int32, x2_12 = (mem9 ((x0 + 1) + 3) x1.toNatClampNeg) → (vp_in x1 12 ∧ (vp_in x1 12 ∧ (Ci mX0_byLaw d [.ref x0, .int 1, .int (mem9 (x0 + 8) x1.toNatClampNeg), .int x2_12, .int (mem9 x0 5), .int ((mem9 (x0 + 8) x1.toNatClampNeg) + x2_12)] mem9 (fun r14 mem13 => (Ci mX8_held d [.int r14, .int 0, .int 999] mem13 (fun r16 mem15 => P r16 mem15))))))))) ∧ (r10 = 0 → P 0 mem9))))) :
    Ci mX0_fearsOf (d + 1) [.ref x0, .int x1] mem P := Cw_of rfl (Nat.le_of_ble_eq_true rfl) rfl (b_X0_fearsOf_0 mem x0 hx0 x1 h)
set_option maxRecDepth 20000 in
theorem E_X0_leastFeared {d : Nat} {P : Int32 → wf_Mem → Prop} {mem : wf_Mem} (x0 : Nat) (hx0 : wf_sh x0 = (0, 0))
    (h : Vw (Ni (d + 1) P) mX0_leastFeared 7 [(0, .ref x0), (1, .int (-1000000005)), (2, .int 0), (3, .int 0)] [] mem) :
    Ci mX0_leastFeared (d + 1) [.ref x0] mem P := Cw_of rfl (Nat.le_of_ble_eq_true rfl) rfl (b_X0_leastFeared_0 mem x0 hx0 h)
set_option maxRecDepth 20000 in
theorem E_X0_cameTold {d : Nat} {P : Int32 → wf_Mem → Prop} {mem : wf_Mem} (x0 : Nat) (hx0 : wf_sh x0 = (0, 0))
    (h : ((¬ (mem x0 16) = (-1000000005) → P (mem x0 16) mem) ∧ ((mem x0 16) = (-1000000005) → P 99 mem))) :
    Ci mX0_cameTold d [.ref x0] mem P := Cw_of rfl (Nat.le_of_ble_eq_true rfl) rfl (b_X0_cameTold_0 mem x0 hx0 h)
set_option maxRecDepth 20000 in
theorem E_X0_pass {d : Nat} {P : wf_Mem → Prop} {mem : wf_Mem} (x0 : Nat) (hx0 : wf_sh x0 = (0, 0)) (x1 : Int32)
    (h : Vw (Nv (d + 1) P) mX0_pass 2 [(0, .ref x0), (1, .int x1), (2, .int 0)] [] mem) :
    Cv mX0_pass (d + 1) [.ref x0, .int x1] mem P := Cw_of rfl (Nat.le_of_ble_eq_true rfl) rfl (b_X0_pass_0 mem x0 hx0 x1 h)
set_option maxRecDepth 20000 in
theorem E_X0_burn {d : Nat} {P : Int32 → wf_Mem → Prop} {mem : wf_Mem} (x0 : Nat) (hx0 : wf_sh x0 = (0, 0))
    (h : Vw (Ni d P) mX0_burn 4 [(0, .ref x0), (1, .int 0), (2, .int 0)] [] mem) :
    Ci mX0_burn d [.ref x0] mem P := Cw_of rfl (Nat.le_of_ble_eq_true rfl) rfl (b_X0_burn_0 mem x0 hx0 h)
set_option maxRecDepth 20000 in
theorem E_X0_meet {d : Nat} {P : wf_Mem → Prop} {mem : wf_Mem} (x0 : Nat) (hx0 : wf_sh x0 = (0, 0)) (x1 : Int32)
    (h : (vp_in x1 12 ∧ ((((mem x0 4) + (mem x0 5)) ≤ (mem (x0 + 8) x1.toNatClampNeg) → Vw (Nv (d + 1) P) mX0_meet 71 [(0, .ref x0), (1, .int x1)] [] mem) ∧ (¬ ((mem x0 4) + (mem x0 5)) ≤ (mem (x0 + 8) x1.toNatClampNeg) → (vp_in x1 12 ∧ (((mem ((x0 + 1) + 1) x1.toNatClampNeg) ≤ 0 → Vw (Nv (d + 1) P) mX0_meet 71 [(0, .ref x0), (1, .int x1)] [] mem) ∧ (¬ (mem ((x0 + 1) + 1) x1.toNatClampNeg) ≤ 0 → (vp_in x1 12 ∧ (vp_in x1 12 ∧ ∀ mem9 : wf_Mem, mem9 = wf_ms mem ((x0 + 1) + 1) x1.toNatClampNeg ((mem ((x0 + 1) + 1) x1.toNatClampNeg) - 1) → (vp_in x1 12 ∧ ∀ mem10 : wf_Mem, mem10 = wf_ms mem9 ((x0 + 1) + 3) x1.toNatClampNeg 0 → (∀ mem11 : wf_Mem, mem11 = wf_ms mem10 x0 8 ((mem10 x0 8) + 1) → (∀ mem12 : wf_Mem, mem12 = wf_ms mem11 x0 5 0 → P mem12)))))))))))) :
    Cv mX0_meet (d + 1) [.ref x0, .int x1] mem P := Cw_of rfl (Nat.le_of_ble_eq_true rfl) rfl (b_X0_meet_0 mem x0 hx0 x1 h)
set_option maxRecDepth 20000 in
theorem E_X0_tire {d : Nat} {P : wf_Mem → Prop} {mem : wf_Mem} (x0 : Nat) (hx0 : wf_sh x0 = (0, 0))
    (h : Vw (Nv (d + 1) P) mX0_tire 2 [(0, .ref x0), (1, .int 0)] [] mem) :
    Cv mX0_tire (d + 1) [.ref x0] mem P := Cw_of rfl (Nat.le_of_ble_eq_true rfl) rfl (b_X0_tire_0 mem x0 hx0 h)
set_option maxRecDepth 20000 in
theorem E_X1_runOn {d : Nat} {P : wf_Mem → Prop} {mem : wf_Mem} (x1 : Nat) (hx1 : wf_sh x1 = (0, 0)) (x2 : Int32)
    (h : Vw (Nv (d + 1) P) mX1_runOn 2 [(0, .ref 1), (1, .ref x1), (2, .int x2), (3, .int 0)] [] mem) :
    Cv mX1_runOn (d + 1) [.ref 1, .ref x1, .int x2] mem P := Cw_of rfl (Nat.le_of_ble_eq_true rfl) rfl (b_X1_runOn_0 mem x1 hx1 x2 h)
set_option maxRecDepth 20000 in
theorem E_X1_putFires {d : Nat} {P : Int32 → wf_Mem → Prop} {mem : wf_Mem} (x1 : Nat) (hx1 : wf_sh x1 = (3, 0)) (x2 : Int32) (x3 : Int32)
    (h : (∀ x6_2 : Int32, x6_2 = (x2 - 1) → Vw (Ni d P) mX1_putFires 11 [(1, .ref x1), (4, .int 0), (5, .int x3), (6, .int x6_2)] [] mem)) :
    Ci mX1_putFires d [.ref 1, .ref x1, .int x2, .int x3] mem P := Cw_of rfl (Nat.le_of_ble_eq_true rfl) rfl (b_X1_putFires_0 mem x1 hx1 x2 x3 h)
set_option maxRecDepth 20000 in
theorem E_X1_leastLight {d : Nat} {P : Int32 → wf_Mem → Prop} {mem : wf_Mem} (x1 : Nat) (hx1 : wf_sh x1 = (3, 0)) (x2 : Int32)
    (h : Vw (Ni (d + 1) P) mX1_leastLight 6 [(0, .ref 1), (1, .ref x1), (2, .int x2), (3, .int 99), (4, .int 0)] [] mem) :
    Ci mX1_leastLight (d + 1) [.ref 1, .ref x1, .int x2] mem P := Cw_of rfl (Nat.le_of_ble_eq_true rfl) rfl (b_X1_leastLight_0 mem x1 hx1 x2 h)
set_option maxRecDepth 20000 in
theorem E_X2_begins {d : Nat} {P : wf_Mem → Prop} {mem : wf_Mem} (x0 : Nat) (hx0 : wf_sh x0 = (2, 0)) (x1 : Int32)
    (h : (∀ mem4 : wf_Mem, mem4 = wf_ms mem x0 0 x1 → (∀ mem5 : wf_Mem, mem5 = wf_ms mem4 x0 1 0 → (∀ mem6 : wf_Mem, mem6 = wf_ms mem5 x0 3 0 → P mem6)))) :
    Cv mX2_begins d [.ref x0, .int x1] mem P := Cw_of rfl (Nat.le_of_ble_eq_true rfl) rfl (b_X2_begins_0 mem x0 hx0 x1 h)
set_option maxRecDepth 20000 in
theorem E_X2_addNumber {d : Nat} {P : wf_Mem → Prop} {mem : wf_Mem} (x0 : Nat) (hx0 : wf_sh x0 = (2, 0)) (x1 : Int32)
    (h : (Cv mX2_addCode d [.ref x0, .int x1] mem (fun mem3 => (∀ mem4 : wf_Mem, mem4 = wf_ms mem3 x0 1 ((mem3 x0 1) + 1) → P mem4)))) :
    Cv mX2_addNumber (d + 1) [.ref x0, .int x1] mem P := Cw_of rfl (Nat.le_of_ble_eq_true rfl) rfl (b_X2_addNumber_0 mem x0 hx0 x1 h)
set_option maxRecDepth 20000 in
theorem E_X2_addName {d : Nat} {P : wf_Mem → Prop} {mem : wf_Mem} (x0 : Nat) (hx0 : wf_sh x0 = (2, 0)) (x1 : Int32)
    (h : (Cv mX2_addCode d [.ref x0, .int ((-1) - x1)] mem (fun mem3 => (∀ mem4 : wf_Mem, mem4 = wf_ms mem3 x0 1 ((mem3 x0 1) + 1) → P mem4)))) :
    Cv mX2_addName (d + 1) [.ref x0, .int x1] mem P := Cw_of rfl (Nat.le_of_ble_eq_true rfl) rfl (b_X2_addName_0 mem x0 hx0 x1 h)
set_option maxRecDepth 20000 in
theorem E_X2_addSign {d : Nat} {P : wf_Mem → Prop} {mem : wf_Mem} (x0 : Nat) (hx0 : wf_sh x0 = (2, 0)) (x1 : Int32)
    (h : (Cv mX2_addCode d [.ref x0, .int ((-100) - x1)] mem (fun mem2 => P mem2))) :
    Cv mX2_addSign (d + 1) [.ref x0, .int x1] mem P := Cw_of rfl (Nat.le_of_ble_eq_true rfl) rfl (b_X2_addSign_0 mem x0 hx0 x1 h)
set_option maxRecDepth 20000 in
theorem E_X2_addCode {d : Nat} {P : wf_Mem → Prop} {mem : wf_Mem} (x0 : Nat) (hx0 : wf_sh x0 = (2, 0)) (x1 : Int32)
    (h : ((96 ≤ (mem x0 3) → P mem) ∧ (¬ 96 ≤ (mem x0 3) → (vp_in (mem x0 3) 96 ∧ ∀ mem5 : wf_Mem, mem5 = wf_ms mem (x0 + 1) (mem x0 3).toNatClampNeg x1 → (∀ mem6 : wf_Mem, mem6 = wf_ms mem5 x0 3 ((mem5 x0 3) + 1) → P mem6))))) :
    Cv mX2_addCode d [.ref x0, .int x1] mem P := Cw_of rfl (Nat.le_of_ble_eq_true rfl) rfl (b_X2_addCode_0 mem x0 hx0 x1 h)
set_option maxRecDepth 20000 in
theorem E_X2_work {d : Nat} {P : Int32 → wf_Mem → Prop} {mem : wf_Mem} (x0 : Nat) (hx0 : wf_sh x0 = (2, 0)) (x1 : Int32) (x2 : Int32) (x3 : Int32)
    (h : Vw (Ni (d + 1) P) mX2_work 6 [(0, .ref x0), (1, .int x1), (2, .int x2), (3, .int x3), (4, .int 0), (5, .int 0)] [] mem) :
    Ci mX2_work (d + 1) [.ref x0, .int x1, .int x2, .int x3] mem P := Cw_of rfl (Nat.le_of_ble_eq_true rfl) rfl (b_X2_work_0 mem x0 hx0 x1 x2 x3 h)
set_option maxRecDepth 20000 in
theorem E_X2_named {d : Nat} {P : Int32 → wf_Mem → Prop} {mem : wf_Mem} (x0 : Int32) (x1 : Int32) (x2 : Int32) (x3 : Int32)
    (h : ((¬ x0 = (-1) → ((¬ x0 = (-3) → P x2 mem) ∧ (x0 = (-3) → P x3 mem))) ∧ (x0 = (-1) → P x1 mem))) :
    Ci mX2_named d [.int x0, .int x1, .int x2, .int x3] mem P := Cw_of rfl (Nat.le_of_ble_eq_true rfl) rfl (b_X2_named_0 mem x0 x1 x2 x3 h)
set_option maxRecDepth 20000 in
theorem E_X2_joined {d : Nat} {P : Int32 → wf_Mem → Prop} {mem : wf_Mem} (x0 : Int32) (x1 : Int32) (x2 : Int32)
    (h : ((x0 = 38 → ((x1 = 0 → P 0 mem) ∧ (¬ x1 = 0 → ((x2 = 0 → P 0 mem) ∧ (¬ x2 = 0 → P 1 mem))))) ∧ (¬ x0 = 38 → ((x0 = 42 → P (x1 * x2) mem) ∧ (¬ x0 = 42 → ((x0 = 43 → P (x1 + x2) mem) ∧ (¬ x0 = 43 → ((x0 = 45 → P (x1 - x2) mem) ∧ (¬ x0 = 45 → ((x0 = 60 → ((x2 ≤ x1 → P 0 mem) ∧ (¬ x2 ≤ x1 → P 1 mem))) ∧ (¬ x0 = 60 → ((x0 = 61 → ((¬ x1 = x2 → P 0 mem) ∧ (x1 = x2 → P 1 mem))) ∧ (¬ x0 = 61 → ((x0 = 62 → ((x1 ≤ x2 → P 0 mem) ∧ (¬ x1 ≤ x2 → P 1 mem))) ∧ (¬ x0 = 62 → ((x0 = 124 → ((¬ x1 = 0 → P 1 mem) ∧ (x1 = 0 → ((x2 = 0 → P 0 mem) ∧ (¬ x2 = 0 → P 1 mem))))) ∧ (¬ x0 = 124 → ((¬ x2 = 0 → ((¬ x2 = 0) ∧ P (x1 / x2) mem)) ∧ (x2 = 0 → P 0 mem))))))))))))))))))) :
    Ci mX2_joined d [.int x0, .int x1, .int x2] mem P := Cw_of rfl (Nat.le_of_ble_eq_true rfl) rfl (b_X2_joined_0 mem x0 x1 x2 h)
set_option maxRecDepth 20000 in
theorem E_X3_has {d : Nat} {P : Int32 → wf_Mem → Prop} {mem : wf_Mem} (x0 : Nat) (hx0 : wf_sh x0 = (3, 0)) (x1 : Int32)
    (h : (Ci mX8_within d [.int x1, .int 0, .int ((mem x0 0) - 1)] mem (fun r4 mem3 => ((r4 = 0 ∨ r4 = 1) ∧ P r4 mem3)))) :
    Ci mX3_has (d + 1) [.ref x0, .int x1] mem P := Cw_of rfl (Nat.le_of_ble_eq_true rfl) rfl (b_X3_has_0 mem x0 hx0 x1 h)
set_option maxRecDepth 20000 in
theorem E_X3_joins {d : Nat} {P : Int32 → wf_Mem → Prop} {mem : wf_Mem} (x0 : Nat) (hx0 : wf_sh x0 = (3, 0)) (x1 : Int32)
    (h : (((mem x0 0) < 12 → (vp_in (mem x0 0) 12 ∧ ∀ mem7 : wf_Mem, mem7 = wf_ms mem (x0 + 1) (mem x0 0).toNatClampNeg x1 → (vp_in (mem7 x0 0) 12 ∧ ∀ mem8 : wf_Mem, mem8 = wf_ms mem7 (x0 + 2) (mem7 x0 0).toNatClampNeg 0 → (vp_in (mem8 x0 0) 12 ∧ ∀ mem9 : wf_Mem, mem9 = wf_ms mem8 (x0 + 3) (mem8 x0 0).toNatClampNeg 0 → (∀ mem10 : wf_Mem, mem10 = wf_ms mem9 x0 0 ((mem9 x0 0) + 1) → P ((mem10 x0 0) - 1) mem10))))) ∧ (¬ (mem x0 0) < 12 → P (-1000000003) mem))) :
    Ci mX3_joins d [.ref x0, .int x1] mem P := Cw_of rfl (Nat.le_of_ble_eq_true rfl) rfl (b_X3_joins_0 mem x0 hx0 x1 h)
set_option maxRecDepth 20000 in
theorem E_X3_row {d : Nat} {P : Nat → wf_Mem → Prop} {mem : wf_Mem} (x0 : Nat) (hx0 : wf_sh x0 = (3, 0)) (x1 : Int32)
    (h : ((¬ x1 = 0 → ((¬ x1 = 1 → P (x0 + 3) mem) ∧ (x1 = 1 → P (x0 + 2) mem))) ∧ (x1 = 0 → P (x0 + 1) mem))) :
    Ca mX3_row d [.ref x0, .int x1] mem P := Cw_of rfl (Nat.le_of_ble_eq_true rfl) rfl (b_X3_row_0 mem x0 hx0 x1 h)
set_option maxRecDepth 20000 in
theorem E_X3_nextFires {d : Nat} {P : Int32 → wf_Mem → Prop} {mem : wf_Mem} (x0 : Nat) (hx0 : wf_sh x0 = (3, 0)) (x1 : Int32)
    (h : (((mem x0 0) < 2 → P 0 mem) ∧ (¬ (mem x0 0) < 2 → (Ci mX3_has d [.ref x0, .int x1] mem (fun r11 mem10 => ((¬ r11 = 0 → ((¬ x1 = ((mem10 x0 0) - 1) → (∀ x2_14 : Int32, x2_14 = (x1 + 1) → ((¬ x1 = 0 → Vw (Ni (d + 1) P) mX3_nextFires 52 [(0, .ref x0), (2, .int x2_14)] [.int (x1 - 1)] mem10) ∧ (x1 = 0 → Vw (Ni (d + 1) P) mX3_nextFires 52 [(0, .ref x0), (2, .int x2_14)] [.int ((mem10 x0 0) - 1)] mem10)))) ∧ (x1 = ((mem10 x0 0) - 1) → ((¬ x1 = 0 → Vw (Ni (d + 1) P) mX3_nextFires 52 [(0, .ref x0), (2, .int 0)] [.int (x1 - 1)] mem10) ∧ (x1 = 0 → Vw (Ni (d + 1) P) mX3_nextFires 52 [(0, .ref x0), (2, .int 0)] [.int ((mem10 x0 0) - 1)] mem10))))) ∧ (r11 = 0 → P 0 mem10))))))) :
    Ci mX3_nextFires (d + 1) [.ref x0, .int x1] mem P := Cw_of rfl (Nat.le_of_ble_eq_true rfl) rfl (b_X3_nextFires_0 mem x0 hx0 x1 h)
set_option maxRecDepth 20000 in
theorem E_X3_allFoals {d : Nat} {P : Int32 → wf_Mem → Prop} {mem : wf_Mem} (x0 : Nat) (hx0 : wf_sh x0 = (3, 0))
    (h : Vw (Ni d P) mX3_allFoals 4 [(0, .ref x0), (1, .int 0), (2, .int 0)] [] mem) :
    Ci mX3_allFoals d [.ref x0] mem P := Cw_of rfl (Nat.le_of_ble_eq_true rfl) rfl (b_X3_allFoals_0 mem x0 hx0 h)
set_option maxRecDepth 20000 in
theorem E_X3_takeFrom {d : Nat} {P : wf_Mem → Prop} {mem : wf_Mem} (x0 : Nat) (hx0 : wf_sh x0 = (3, 0)) (x1 : Nat) (hx1 : wf_sh x1 = (3, 0))
    (h : (∀ mem5 : wf_Mem, mem5 = wf_ms mem x0 0 (mem x1 0) → ((¬ (0 : Int32) < 0 ∧ ¬ (0 : Int32) < 0 ∧ ¬ (mem5 x0 0) < 0 ∧ (0 : Int32).toNatClampNeg + (mem5 x0 0).toNatClampNeg ≤ 12 ∧ (0 : Int32).toNatClampNeg + (mem5 x0 0).toNatClampNeg ≤ 12) ∧ ∀ mem6 : wf_Mem, mem6 = wf_mc mem5 (x1 + 1) (0 : Int32).toNatClampNeg (x0 + 1) (0 : Int32).toNatClampNeg (mem5 x0 0).toNatClampNeg → ((¬ (0 : Int32) < 0 ∧ ¬ (0 : Int32) < 0 ∧ ¬ (mem6 x0 0) < 0 ∧ (0 : Int32).toNatClampNeg + (mem6 x0 0).toNatClampNeg ≤ 12 ∧ (0 : Int32).toNatClampNeg + (mem6 x0 0).toNatClampNeg ≤ 12) ∧ ∀ mem7 : wf_Mem, mem7 = wf_mc mem6 (x1 + 2) (0 : Int32).toNatClampNeg (x0 + 2) (0 : Int32).toNatClampNeg (mem6 x0 0).toNatClampNeg → ((¬ (0 : Int32) < 0 ∧ ¬ (0 : Int32) < 0 ∧ ¬ (mem7 x0 0) < 0 ∧ (0 : Int32).toNatClampNeg + (mem7 x0 0).toNatClampNeg ≤ 12 ∧ (0 : Int32).toNatClampNeg + (mem7 x0 0).toNatClampNeg ≤ 12) ∧ ∀ mem8 : wf_Mem, mem8 = wf_mc mem7 (x1 + 3) (0 : Int32).toNatClampNeg (x0 + 3) (0 : Int32).toNatClampNeg (mem7 x0 0).toNatClampNeg → P mem8))))) :
    Cv mX3_takeFrom (d + 1) [.ref x0, .ref x1] mem P := Cw_of rfl (Nat.le_of_ble_eq_true rfl) rfl (b_X3_takeFrom_0 mem x0 hx0 x1 hx1 h)
set_option maxRecDepth 20000 in
theorem E_X4_has {d : Nat} {P : Int32 → wf_Mem → Prop} {mem : wf_Mem} (x0 : Nat) (hx0 : wf_sh x0 = (4, 0)) (x1 : Int32)
    (h : (Ci mX8_within d [.int x1, .int 0, .int ((mem x0 1) - 1)] mem (fun r4 mem3 => ((r4 = 0 ∨ r4 = 1) ∧ P r4 mem3)))) :
    Ci mX4_has (d + 1) [.ref x0, .int x1] mem P := Cw_of rfl (Nat.le_of_ble_eq_true rfl) rfl (b_X4_has_0 mem x0 hx0 x1 h)
set_option maxRecDepth 20000 in
theorem E_X4_hasRun {d : Nat} {P : Int32 → wf_Mem → Prop} {mem : wf_Mem} (x0 : Nat) (hx0 : wf_sh x0 = (4, 0)) (x1 : Int32) (x2 : Int32)
    (h : ((x1 < 0 → P 0 mem) ∧ (¬ x1 < 0 → ((x2 < 0 → P 0 mem) ∧ (¬ x2 < 0 → (((mem x0 1) < x2 → P 0 mem) ∧ (¬ (mem x0 1) < x2 → ((((mem x0 1) - x2) < x1 → P 0 mem) ∧ (¬ ((mem x0 1) - x2) < x1 → P 1 mem))))))))) :
    Ci mX4_hasRun d [.ref x0, .int x1, .int x2] mem P := Cw_of rfl (Nat.le_of_ble_eq_true rfl) rfl (b_X4_hasRun_0 mem x0 hx0 x1 x2 h)
set_option maxRecDepth 20000 in
theorem E_X4_becomes {d : Nat} {P : wf_Mem → Prop} {mem : wf_Mem} (x0 : Nat) (hx0 : wf_sh x0 = (4, 0)) (x1 : Int32) (x2 : Int32)
    (h : (∀ mem4 : wf_Mem, mem4 = wf_ms mem x0 0 x1 → (∀ mem5 : wf_Mem, mem5 = wf_ms mem4 x0 1 x2 → (Cv mJ7_fill_53178 d [.ref (x0 + 1), .int 0] mem5 (fun mem6 => P mem6))))) :
    Cv mX4_becomes (d + 1) [.ref x0, .int x1, .int x2] mem P := Cw_of rfl (Nat.le_of_ble_eq_true rfl) rfl (b_X4_becomes_0 mem x0 hx0 x1 x2 h)
set_option maxRecDepth 20000 in
theorem E_X4_takeFrom {d : Nat} {P : wf_Mem → Prop} {mem : wf_Mem} (x0 : Nat) (hx0 : wf_sh x0 = (4, 0)) (x1 : Nat) (hx1 : wf_sh x1 = (4, 0))
    (h : (∀ mem4 : wf_Mem, mem4 = wf_ms mem x0 0 (mem x1 0) → (∀ mem5 : wf_Mem, mem5 = wf_ms mem4 x0 1 (mem4 x1 1) → ((¬ (0 : Int32) < 0 ∧ ¬ (0 : Int32) < 0 ∧ ¬ (mem5 x0 1) < 0 ∧ (0 : Int32).toNatClampNeg + (mem5 x0 1).toNatClampNeg ≤ 24 ∧ (0 : Int32).toNatClampNeg + (mem5 x0 1).toNatClampNeg ≤ 24) ∧ ∀ mem6 : wf_Mem, mem6 = wf_mc mem5 (x1 + 1) (0 : Int32).toNatClampNeg (x0 + 1) (0 : Int32).toNatClampNeg (mem5 x0 1).toNatClampNeg → P mem6)))) :
    Cv mX4_takeFrom (d + 1) [.ref x0, .ref x1] mem P := Cw_of rfl (Nat.le_of_ble_eq_true rfl) rfl (b_X4_takeFrom_0 mem x0 hx0 x1 hx1 h)
set_option maxRecDepth 20000 in
theorem E_X4_differences {d : Nat} {P : Int32 → wf_Mem → Prop} {mem : wf_Mem} (x0 : Nat) (hx0 : wf_sh x0 = (4, 0)) (x1 : Nat) (hx1 : wf_sh x1 = (3, 0))
    (h : Vw (Ni (d + 1) P) mX4_differences 4 [(0, .ref x0), (1, .ref x1), (2, .int 0), (3, .int 0)] [] mem) :
    Ci mX4_differences (d + 1) [.ref x0, .ref x1] mem P := Cw_of rfl (Nat.le_of_ble_eq_true rfl) rfl (b_X4_differences_0 mem x0 hx0 x1 hx1 h)
set_option maxRecDepth 20000 in
theorem E_X6_takesNumber {d : Nat} {P : wf_Mem → Prop} {mem : wf_Mem} (x1 : Int32)
    (h : Vw (Nv d P) mX6_takesNumber 3 [(0, .ref 3), (1, .int x1), (2, .int 24)] [] mem) :
    Cv mX6_takesNumber d [.ref 3, .int x1] mem P := Cw_of rfl (Nat.le_of_ble_eq_true rfl) rfl (b_X6_takesNumber_0 mem x1 h)
set_option maxRecDepth 20000 in
theorem E_X6_readInto {d : Nat} {P : Int32 → wf_Mem → Prop} {mem : wf_Mem} (x1 : Nat) (hx1 : wf_sh x1 = (2, 0))
    (h : (∀ mem17 : wf_Mem, mem17 = wf_ms mem 3 3 0 → (∀ mem18 : wf_Mem, mem18 = wf_ms mem17 3 5 0 → (∀ mem19 : wf_Mem, mem19 = wf_ms mem18 3 6 0 → (∀ mem20 : wf_Mem, mem20 = wf_ms mem19 3 7 0 → (∀ mem21 : wf_Mem, mem21 = wf_ms mem20 3 8 1 → (Cv mX6_steps d [.ref 3] mem21 (fun mem22 => (Ci mX6_keyHere d [.ref 3] mem22 (fun r24 mem23 => ((0 ≤ r24 → (Cv mX2_begins d [.ref x1, .int r24] mem23 (fun mem26 => (∀ x3_27 : Int32, x3_27 = (mem26 3 3) → (Cv mX6_steps d [.ref 3] mem26 (fun mem28 => ((¬ (mem28 3 2) = x3_27 → Vw (Ni (d + 1) P) mX6_readInto 80 [(0, .ref 3), (1, .ref x1), (4, .int 0)] [] mem28) ∧ ((mem28 3 2) = x3_27 → (Ci mX6_sortHere d [.ref 3] mem28 (fun r31 mem30 => ((r31 = 0 → Vw (Ni (d + 1) P) mX6_readInto 80 [(0, .ref 3), (1, .ref x1), (4, .int 0)] [] mem30) ∧ (¬ r31 = 0 → P (mem30 3 2) mem30)))))))))))) ∧ (¬ 0 ≤ r24 → P (mem23 3 2) mem23)))))))))))) :
    Ci mX6_readInto (d + 1) [.ref 3, .ref x1] mem P := Cw_of rfl (Nat.le_of_ble_eq_true rfl) rfl (b_X6_readInto_0 mem x1 hx1 h)
set_option maxRecDepth 20000 in
theorem E_X6_steps {d : Nat} {P : wf_Mem → Prop} {mem : wf_Mem} 
    (h : (∀ mem2 : wf_Mem, mem2 = wf_ms mem 3 2 (mem 3 3) → Vw (Nv (d + 1) P) mX6_steps 8 [(0, .ref 3)] [] mem2)) :
    Cv mX6_steps (d + 1) [.ref 3] mem P := Cw_of rfl (Nat.le_of_ble_eq_true rfl) rfl (b_X6_steps_0 mem  h)
set_option maxRecDepth 20000 in
theorem E_X6_sortHere {d : Nat} {P : Int32 → wf_Mem → Prop} {mem : wf_Mem} 
    (h : (((mem 3 1) ≤ (mem 3 2) → P 0 mem) ∧ (¬ (mem 3 1) ≤ (mem 3 2) → (vp_in (mem 3 2) 96 ∧ (Ci mX6_sortOf d [.int (mem 4 (mem 3 2).toNatClampNeg)] mem (fun r6 mem5 => P r6 mem5)))))) :
    Ci mX6_sortHere (d + 1) [.ref 3] mem P := Cw_of rfl (Nat.le_of_ble_eq_true rfl) rfl (b_X6_sortHere_0 mem  h)
set_option maxRecDepth 20000 in
theorem E_X6_sortOf {d : Nat} {P : Int32 → wf_Mem → Prop} {mem : wf_Mem} (x0 : Int32)
    (h : ((x0 < 97 → ((x0 < 48 → P 0 mem) ∧ (¬ x0 < 48 → ((57 < x0 → P 0 mem) ∧ (¬ 57 < x0 → P 2 mem))))) ∧ (¬ x0 < 97 → ((122 < x0 → ((x0 < 48 → P 0 mem) ∧ (¬ x0 < 48 → ((57 < x0 → P 0 mem) ∧ (¬ 57 < x0 → P 2 mem))))) ∧ (¬ 122 < x0 → P 1 mem))))) :
    Ci mX6_sortOf d [.int x0] mem P := Cw_of rfl (Nat.le_of_ble_eq_true rfl) rfl (b_X6_sortOf_0 mem x0 h)
set_option maxRecDepth 20000 in
theorem E_X6_keyHere {d : Nat} {P : Int32 → wf_Mem → Prop} {mem : wf_Mem} 
    (h : (Ci mX6_isHere d [.ref 3, .ref (100000 + 2 * 0)] mem (fun r11 mem10 => ((r11 = 0 → (Ci mX6_isHere d [.ref 3, .ref (100000 + 2 * 1)] mem10 (fun r14 mem13 => ((r14 = 0 → (Ci mX6_isHere d [.ref 3, .ref (100000 + 2 * 2)] mem13 (fun r17 mem16 => ((r17 = 0 → P (-1) mem16) ∧ (¬ r17 = 0 → P 2 mem16))))) ∧ (¬ r14 = 0 → P 1 mem13))))) ∧ (¬ r11 = 0 → P 0 mem10))))) :
    Ci mX6_keyHere (d + 1) [.ref 3] mem P := Cw_of rfl (Nat.le_of_ble_eq_true rfl) rfl (b_X6_keyHere_0 mem  h)
set_option maxRecDepth 20000 in
theorem E_X6_isHere {d : Nat} {P : Int32 → wf_Mem → Prop} {mem : wf_Mem} (x1 : Nat) (hx1 : x1 < 6)
    (h : (Ci mJ0_length_8abf5 d [.ref (100000 + 2 * x1)] mem (fun r5 mem4 => ((((mem 3 3) - (mem 3 2)) = r5 → Vw (Ni (d + 1) P) mX6_isHere 20 [(0, .ref 3), (1, .ref (100000 + 2 * x1)), (2, .int 0)] [] mem4) ∧ (¬ ((mem 3 3) - (mem 3 2)) = r5 → P 0 mem4))))) :
    Ci mX6_isHere (d + 1) [.ref 3, .ref (100000 + 2 * x1)] mem P := Cw_of rfl (Nat.le_of_ble_eq_true rfl) rfl (b_X6_isHere_0 mem x1 hx1 h)
set_option maxRecDepth 20000 in
theorem E_X6_takesPiece {d : Nat} {P : Int32 → wf_Mem → Prop} {mem : wf_Mem} (x1 : Nat) (hx1 : wf_sh x1 = (2, 0))
    (h : (Ci mX6_sortHere d [.ref 3] mem (fun r12 mem11 => ((r12 = 1 → (Ci mX6_takesName d [.ref 3, .ref x1] mem11 (fun r15 mem14 => ((r15 = 0 ∨ r15 = 1) ∧ P r15 mem14)))) ∧ (¬ r12 = 1 → ((r12 = 2 → (Ci mX6_takesDigits d [.ref 3, .ref x1] mem11 (fun r18 mem17 => ((r18 = 0 ∨ r18 = 1) ∧ P r18 mem17)))) ∧ (¬ r12 = 2 → (vp_in (mem11 3 2) 96 ∧ (Ci mX6_opens d [.ref 3, .int (mem11 4 (mem11 3 2).toNatClampNeg)] mem11 (fun r20 mem19 => ((r20 = 0 ∨ r20 = 1) ∧ P r20 mem19))))))))))) :
    Ci mX6_takesPiece (d + 1) [.ref 3, .ref x1] mem P := Cw_of rfl (Nat.le_of_ble_eq_true rfl) rfl (b_X6_takesPiece_0 mem x1 hx1 h)
set_option maxRecDepth 20000 in
theorem E_X6_takesName {d : Nat} {P : Int32 → wf_Mem → Prop} {mem : wf_Mem} (x1 : Nat) (hx1 : wf_sh x1 = (2, 0))
    (h : (Ca mX6_namesOf d [.int (mem x1 0)] mem (fun q12 mem10 => ∃ a11 : Nat, a11 < 6 ∧ q12 = 100000 + 2 * a11 ∧ (vp_in (mem10 3 2) 96 ∧ (Ci mJ0_indexOf_0f7a4 d [.ref (100000 + 2 * a11), .int (((mem10 4 (mem10 3 2).toNatClampNeg).toUInt32 % 65536).toInt32)] mem10 (fun r14 mem13 => ((¬ ((mem13 3 3) - (mem13 3 2)) = 1 → P 0 mem13) ∧ (((mem13 3 3) - (mem13 3 2)) = 1 → ((0 ≤ r14 → (Cv mX2_addName d [.ref x1, .int r14] mem13 (fun mem17 => (Cv mX6_endsPiece d [.ref 3, .ref x1] mem17 (fun mem18 => P 1 mem18))))) ∧ (¬ 0 ≤ r14 → P 0 mem13)))))))))) :
    Ci mX6_takesName (d + 1) [.ref 3, .ref x1] mem P := Cw_of rfl (Nat.le_of_ble_eq_true rfl) rfl (b_X6_takesName_0 mem x1 hx1 h)
set_option maxRecDepth 20000 in
theorem E_X6_namesOf {d : Nat} {P : Nat → wf_Mem → Prop} {mem : wf_Mem} (x0 : Int32)
    (h : ((¬ x0 = 0 → ((¬ x0 = 1 → P (100000 + 2 * 5) mem) ∧ (x0 = 1 → P (100000 + 2 * 4) mem))) ∧ (x0 = 0 → P (100000 + 2 * 3) mem))) :
    Ca mX6_namesOf d [.int x0] mem P := Cw_of rfl (Nat.le_of_ble_eq_true rfl) rfl (b_X6_namesOf_0 mem x0 h)
set_option maxRecDepth 20000 in
theorem E_X6_takesDigits {d : Nat} {P : Int32 → wf_Mem → Prop} {mem : wf_Mem} (x1 : Nat) (hx1 : wf_sh x1 = (2, 0))
    (h : ((((mem 3 3) - (mem 3 2)) ≤ 4 → (∀ x3_4 : Int32, x3_4 = (mem 3 2) → Vw (Ni (d + 1) P) mX6_takesDigits 22 [(0, .ref 3), (1, .ref x1), (2, .int 0), (3, .int x3_4)] [] mem)) ∧ (¬ ((mem 3 3) - (mem 3 2)) ≤ 4 → P 0 mem))) :
    Ci mX6_takesDigits (d + 1) [.ref 3, .ref x1] mem P := Cw_of rfl (Nat.le_of_ble_eq_true rfl) rfl (b_X6_takesDigits_0 mem x1 hx1 h)
set_option maxRecDepth 20000 in
theorem E_X6_opens {d : Nat} {P : Int32 → wf_Mem → Prop} {mem : wf_Mem} (x1 : Int32)
    (h : ((¬ x1 = 40 → Vw (Ni (d + 1) P) mX6_opens 28 [(0, .ref 3), (1, .int x1)] [] mem) ∧ (x1 = 40 → ((8 ≤ (mem 3 6) → Vw (Ni (d + 1) P) mX6_opens 28 [(0, .ref 3), (1, .int x1)] [] mem) ∧ (¬ 8 ≤ (mem 3 6) → (∀ mem7 : wf_Mem, mem7 = wf_ms mem 3 6 ((mem 3 6) + 1) → (Cv mX6_pushes d [.ref 3, .int x1] mem7 (fun mem8 => P 1 mem8)))))))) :
    Ci mX6_opens (d + 1) [.ref 3, .int x1] mem P := Cw_of rfl (Nat.le_of_ble_eq_true rfl) rfl (b_X6_opens_0 mem x1 h)
set_option maxRecDepth 20000 in
theorem E_X6_pushes {d : Nat} {P : wf_Mem → Prop} {mem : wf_Mem} (x1 : Int32)
    (h : ((96 ≤ (mem 3 5) → P mem) ∧ (¬ 96 ≤ (mem 3 5) → (vp_in (mem 3 5) 96 ∧ ∀ mem5 : wf_Mem, mem5 = wf_ms mem 5 (mem 3 5).toNatClampNeg x1 → (∀ mem6 : wf_Mem, mem6 = wf_ms mem5 3 5 ((mem5 3 5) + 1) → P mem6))))) :
    Cv mX6_pushes d [.ref 3, .int x1] mem P := Cw_of rfl (Nat.le_of_ble_eq_true rfl) rfl (b_X6_pushes_0 mem x1 h)
set_option maxRecDepth 20000 in
theorem E_X6_endsPiece {d : Nat} {P : wf_Mem → Prop} {mem : wf_Mem} (x1 : Nat) (hx1 : wf_sh x1 = (2, 0))
    (h : (∀ mem2 : wf_Mem, mem2 = wf_ms mem 3 8 0 → Vw (Nv (d + 1) P) mX6_endsPiece 5 [(0, .ref 3), (1, .ref x1)] [] mem2)) :
    Cv mX6_endsPiece (d + 1) [.ref 3, .ref x1] mem P := Cw_of rfl (Nat.le_of_ble_eq_true rfl) rfl (b_X6_endsPiece_0 mem x1 hx1 h)
set_option maxRecDepth 20000 in
theorem E_X6_takesSign {d : Nat} {P : Int32 → wf_Mem → Prop} {mem : wf_Mem} (x1 : Nat) (hx1 : wf_sh x1 = (2, 0))
    (h : (vp_in (mem 3 2) 96 ∧ (∀ x2_9 : Int32, x2_9 = (mem 4 (mem 3 2).toNatClampNeg) → ((¬ x2_9 = 41 → (Ci mX6_levelOf d [.int x2_9] mem (fun r12 mem11 => ((¬ r12 = 0 → ((¬ r12 = 3 → Vw (Ni (d + 1) P) mX6_takesSign 44 [(0, .ref 3), (1, .ref x1), (2, .int x2_9), (3, .int r12)] [.int r12, .ref 3] mem11) ∧ (r12 = 3 → Vw (Ni (d + 1) P) mX6_takesSign 44 [(0, .ref 3), (1, .ref x1), (2, .int x2_9), (3, .int r12)] [.int 4, .ref 3] mem11))) ∧ (r12 = 0 → P 0 mem11))))) ∧ (x2_9 = 41 → (Ci mX6_takesClose d [.ref 3, .ref x1] mem (fun r16 mem15 => ((r16 = 0 ∨ r16 = 1) ∧ P r16 mem15)))))))) :
    Ci mX6_takesSign (d + 1) [.ref 3, .ref x1] mem P := Cw_of rfl (Nat.le_of_ble_eq_true rfl) rfl (b_X6_takesSign_0 mem x1 hx1 h)
set_option maxRecDepth 20000 in
theorem E_X6_takesClose {d : Nat} {P : Int32 → wf_Mem → Prop} {mem : wf_Mem} (x1 : Nat) (hx1 : wf_sh x1 = (2, 0))
    (h : ((¬ (mem 3 6) = 0 → (Cv mX6_closesDownTo d [.ref 3, .int 1, .ref x1] mem (fun mem10 => (((mem10 3 5) ≤ 0 → (∀ mem12 : wf_Mem, mem12 = wf_ms mem10 3 6 ((mem10 3 6) - 1) → (Cv mX6_endsPiece d [.ref 3, .ref x1] mem12 (fun mem13 => P 1 mem13)))) ∧ (¬ (mem10 3 5) ≤ 0 → (∀ mem14 : wf_Mem, mem14 = wf_ms mem10 3 5 ((mem10 3 5) - 1) → (∀ mem15 : wf_Mem, mem15 = wf_ms mem14 3 6 ((mem14 3 6) - 1) → (Cv mX6_endsPiece d [.ref 3, .ref x1] mem15 (fun mem16 => P 1 mem16))))))))) ∧ ((mem 3 6) = 0 → P 0 mem))) :
    Ci mX6_takesClose (d + 1) [.ref 3, .ref x1] mem P := Cw_of rfl (Nat.le_of_ble_eq_true rfl) rfl (b_X6_takesClose_0 mem x1 hx1 h)
set_option maxRecDepth 20000 in
theorem E_X6_closesDownTo {d : Nat} {P : wf_Mem → Prop} {mem : wf_Mem} (x1 : Int32) (x2 : Nat) (hx2 : wf_sh x2 = (2, 0))
    (h : (((mem 3 5) ≤ 0 → P mem) ∧ (¬ (mem 3 5) ≤ 0 → (vp_in ((mem 3 5) - 1) 96 ∧ (Ci mX6_levelOf d [.int (mem 5 ((mem 3 5) - 1).toNatClampNeg)] mem (fun r9 mem8 => ((r9 < x1 → P mem8) ∧ (¬ r9 < x1 → (∀ mem11 : wf_Mem, mem11 = wf_ms mem8 3 5 ((mem8 3 5) - 1) → (vp_in (mem11 3 5) 96 ∧ (Cv mX2_addSign d [.ref x2, .int (mem11 5 (mem11 3 5).toNatClampNeg)] mem11 (fun mem12 => Vw (Nv (d + 1) P) mX6_closesDownTo 0 [(0, .ref 3), (1, .int x1), (2, .ref x2)] [] mem12)))))))))))) :
    Cv mX6_closesDownTo (d + 1) [.ref 3, .int x1, .ref x2] mem P := Cw_of rfl (Nat.le_of_ble_eq_true rfl) rfl (b_X6_closesDownTo_0 mem x1 x2 hx2 h)
set_option maxRecDepth 20000 in
theorem E_X6_levelOf {d : Nat} {P : Int32 → wf_Mem → Prop} {mem : wf_Mem} (x0 : Int32)
    (h : ((x0 = 38 → P 2 mem) ∧ (¬ x0 = 38 → ((x0 = 42 → P 5 mem) ∧ (¬ x0 = 42 → ((x0 = 43 → P 4 mem) ∧ (¬ x0 = 43 → ((x0 = 45 → P 4 mem) ∧ (¬ x0 = 45 → ((x0 = 47 → P 5 mem) ∧ (¬ x0 = 47 → ((x0 = 60 → P 3 mem) ∧ (¬ x0 = 60 → ((x0 = 61 → P 3 mem) ∧ (¬ x0 = 61 → ((x0 = 62 → P 3 mem) ∧ (¬ x0 = 62 → ((x0 = 124 → P 1 mem) ∧ (¬ x0 = 124 → P 0 mem))))))))))))))))))) :
    Ci mX6_levelOf d [.int x0] mem P := Cw_of rfl (Nat.le_of_ble_eq_true rfl) rfl (b_X6_levelOf_0 mem x0 h)
set_option maxRecDepth 20000 in
theorem E_X7_canBe {d : Nat} {P : Int32 → wf_Mem → Prop} {mem : wf_Mem} (x0 : Int32) (x1 : Int32)
    (h : ((x0 = 1 → (Ci mX8_within d [.int x1, .int 0, .int 11] mem (fun r15 mem14 => ((r15 = 0 ∨ r15 = 1) ∧ P r15 mem14)))) ∧ (¬ x0 = 1 → ((x0 = 2 → (Ci mX8_within d [.int x1, .int 1, .int 9] mem (fun r18 mem17 => ((r18 = 0 ∨ r18 = 1) ∧ P r18 mem17)))) ∧ (¬ x0 = 2 → ((x0 = 3 → (Ci mX8_within d [.int x1, .int 0, .int 999] mem (fun r21 mem20 => ((r21 = 0 ∨ r21 = 1) ∧ P r21 mem20)))) ∧ (¬ x0 = 3 → ((x0 = 4 → (Ci mX8_within d [.int x1, .int 0, .int 1] mem (fun r24 mem23 => ((r24 = 0 ∨ r24 = 1) ∧ P r24 mem23)))) ∧ (¬ x0 = 4 → P 0 mem))))))))) :
    Ci mX7_canBe (d + 1) [.int x0, .int x1] mem P := Cw_of rfl (Nat.le_of_ble_eq_true rfl) rfl (b_X7_canBe_0 mem x0 x1 h)
set_option maxRecDepth 20000 in
theorem E_X7_isOf {d : Nat} {P : Int32 → wf_Mem → Prop} {mem : wf_Mem} (x0 : Nat) (hx0 : wf_sh x0 = (7, 0)) (x1 : Int32)
    (h : (∀ x2_2 : Int32, x2_2 = (mem x0 0) → Vw (Ni (d + 1) P) mX7_isOf 7 [(1, .int x1), (2, .int x2_2), (3, .int 0)] [] mem)) :
    Ci mX7_isOf (d + 1) [.ref x0, .int x1] mem P := Cw_of rfl (Nat.le_of_ble_eq_true rfl) rfl (b_X7_isOf_0 mem x0 hx0 x1 h)
set_option maxRecDepth 20000 in
theorem E_X7_sight {d : Nat} {P : Int32 → wf_Mem → Prop} {mem : wf_Mem} (x0 : Nat) (hx0 : wf_sh x0 = (7, 0)) (x1 : Int32) (x2 : Int32)
    (h : ((¬ (mem x0 4) = 0 → (((mem x0 0) = 1 → (Ci mX7_plainSight d [.ref x0, .int x1] mem (fun r20 mem19 => P (r20 / 2) mem19))) ∧ (¬ (mem x0 0) = 1 → (((mem x0 0) = 2 → P (mem x0 2) mem) ∧ (¬ (mem x0 0) = 2 → (((mem x0 0) = 3 → (Ci mX7_plainSight d [.ref x0, .int x1] mem (fun r24 mem23 => P ((r24 / 2) + 1) mem23))) ∧ (¬ (mem x0 0) = 3 → (((mem x0 0) = 4 → ((x2 ≤ 0 → P (mem x0 2) mem) ∧ (¬ x2 ≤ 0 → P ((mem x0 2) + 3) mem))) ∧ (¬ (mem x0 0) = 4 → (((mem x0 0) = 5 → (((mem x0 3) ≤ 5 → (Ci mX7_plainSight d [.ref x0, .int x1] mem (fun r30 mem29 => P r30 mem29))) ∧ (¬ (mem x0 3) ≤ 5 → P 0 mem))) ∧ (¬ (mem x0 0) = 5 → (Ci mX7_plainSight d [.ref x0, .int x1] mem (fun r32 mem31 => P r32 mem31))))))))))))) ∧ ((mem x0 4) = 0 → P 0 mem))) :
    Ci mX7_sight (d + 1) [.ref x0, .int x1, .int x2] mem P := Cw_of rfl (Nat.le_of_ble_eq_true rfl) rfl (b_X7_sight_0 mem x0 hx0 x1 x2 h)
set_option maxRecDepth 20000 in
theorem E_X7_plainSight {d : Nat} {P : Int32 → wf_Mem → Prop} {mem : wf_Mem} (x0 : Nat) (hx0 : wf_sh x0 = (7, 0)) (x1 : Int32)
    (h : P ((if 0 < ((mem x0 2) - ((mem x0 3) / 10)) then ((mem x0 2) - ((mem x0 3) / 10)) else 0) + (x1 / 4)) mem) :
    Ci mX7_plainSight (d + 1) [.ref x0, .int x1] mem P := Cw_of rfl (Nat.le_of_ble_eq_true rfl) rfl (b_X7_plainSight_0 mem x0 hx0 x1 h)
set_option maxRecDepth 20000 in
theorem E_X7_worth {d : Nat} {P : Int32 → wf_Mem → Prop} {mem : wf_Mem} (x0 : Nat) (hx0 : wf_sh x0 = (7, 0))
    (h : (((mem x0 0) = 1 → P ((mem x0 2) + 4) mem) ∧ (¬ (mem x0 0) = 1 → (((mem x0 0) = 2 → P (20 - (mem x0 2)) mem) ∧ (¬ (mem x0 0) = 2 → (((mem x0 0) = 3 → P (2 * ((mem x0 2) + 4)) mem) ∧ (¬ (mem x0 0) = 3 → (((mem x0 0) = 4 → P ((20 - (mem x0 2)) + 9) mem) ∧ (¬ (mem x0 0) = 4 → (((mem x0 0) = 5 → P 2 mem) ∧ (¬ (mem x0 0) = 5 → P (mem x0 2) mem))))))))))) :
    Ci mX7_worth d [.ref x0] mem P := Cw_of rfl (Nat.le_of_ble_eq_true rfl) rfl (b_X7_worth_0 mem x0 hx0 h)
set_option maxRecDepth 20000 in
theorem E_X7_takeFrom {d : Nat} {P : wf_Mem → Prop} {mem : wf_Mem} (x0 : Nat) (hx0 : wf_sh x0 = (7, 0)) (x1 : Nat) (hx1 : wf_sh x1 = (7, 0))
    (h : (∀ mem6 : wf_Mem, mem6 = wf_ms mem x0 0 (mem x1 0) → (∀ mem7 : wf_Mem, mem7 = wf_ms mem6 x0 1 (mem6 x1 1) → (∀ mem8 : wf_Mem, mem8 = wf_ms mem7 x0 2 (mem7 x1 2) → (∀ mem9 : wf_Mem, mem9 = wf_ms mem8 x0 3 (mem8 x1 3) → (∀ mem10 : wf_Mem, mem10 = wf_ms mem9 x0 4 (mem9 x1 4) → P mem10)))))) :
    Cv mX7_takeFrom d [.ref x0, .ref x1] mem P := Cw_of rfl (Nat.le_of_ble_eq_true rfl) rfl (b_X7_takeFrom_0 mem x0 hx0 x1 hx1 h)
set_option maxRecDepth 20000 in
theorem E_X8_wagon {d : Nat} {P : Int32 → wf_Mem → Prop} {mem : wf_Mem} (x1 : Int32)
    (h : (Ci mX8_within d [.int x1, .int 0, .int 99] mem (fun r7 mem6 => ((¬ r7 = 0 → (Ci mX3_joins d [.ref 42, .int x1] mem6 (fun r10 mem9 => P r10 mem9))) ∧ (r7 = 0 → P (-1000000001) mem6))))) :
    Ci mX8_wagon (d + 1) [.ref 0, .int x1] mem P := Cw_of rfl (Nat.le_of_ble_eq_true rfl) rfl (b_X8_wagon_0 mem x1 h)
set_option maxRecDepth 20000 in
theorem E_X8_at {d : Nat} {P : Int32 → wf_Mem → Prop} {mem : wf_Mem} (x1 : Int32) (x2 : Int32)
    (h : (Ci mX3_has d [.ref 42, .int x1] mem (fun r16 mem15 => ((r16 = 0 → P (-1000000001) mem15) ∧ (¬ r16 = 0 → (Ci mX8_within d [.int x2, .int 0, .int 5] mem15 (fun r19 mem18 => ((¬ r19 = 0 → ((2 < x2 → (Cv mX0_measure d [.ref 41] mem18 (fun mem22 => ((x2 = 3 → (vp_in x1 12 ∧ P (mem22 48 x1.toNatClampNeg) mem22)) ∧ (¬ x2 = 3 → ((x2 = 4 → (vp_in x1 12 ∧ P (mem22 49 x1.toNatClampNeg) mem22)) ∧ (¬ x2 = 4 → (Ci mX0_fearsOf d [.ref 41, .int x1] mem22 (fun r26 mem25 => P r26 mem25))))))))) ∧ (¬ 2 < x2 → (Ca mX3_row d [.ref 42, .int x2] mem18 (fun a28 mem27 => wf_sh a28 = (20, 12) ∧ (vp_in x1 12 ∧ P (mem27 a28 x1.toNatClampNeg) mem27)))))) ∧ (r19 = 0 → P (-1000000001) mem18))))))))) :
    Ci mX8_at (d + 1) [.ref 0, .int x1, .int x2] mem P := Cw_of rfl (Nat.le_of_ble_eq_true rfl) rfl (b_X8_at_0 mem x1 x2 h)
set_option maxRecDepth 20000 in
theorem E_X8_lays {d : Nat} {P : Int32 → wf_Mem → Prop} {mem : wf_Mem} (x1 : Int32) (x2 : Int32) (x3 : Int32)
    (h : (Ci mX3_has d [.ref 42, .int x1] mem (fun r9 mem8 => ((r9 = 0 → P (-1000000001) mem8) ∧ (¬ r9 = 0 → (Ci mX8_within d [.int x2, .int 0, .int 2] mem8 (fun r12 mem11 => ((r12 = 0 → P (-1000000001) mem11) ∧ (¬ r12 = 0 → ((¬ x2 = 1 → Vw (Ni (d + 1) P) mX8_lays 37 [(0, .ref 0), (1, .int x1), (2, .int x2), (3, .int x3)] [.int 99, .int 0, .int x3] mem11) ∧ (x2 = 1 → Vw (Ni (d + 1) P) mX8_lays 37 [(0, .ref 0), (1, .int x1), (2, .int x2), (3, .int x3)] [.int 9, .int 0, .int x3] mem11))))))))))) :
    Ci mX8_lays (d + 1) [.ref 0, .int x1, .int x2, .int x3] mem P := Cw_of rfl (Nat.le_of_ble_eq_true rfl) rfl (b_X8_lays_0 mem x1 x2 x3 h)
set_option maxRecDepth 20000 in
theorem E_X8_far {d : Nat} {P : Int32 → wf_Mem → Prop} {mem : wf_Mem} (x1 : Int32) (x2 : Int32)
    (h : (Ci mX3_has d [.ref 42, .int x1] mem (fun r9 mem8 => ((r9 = 0 → P (-1000000001) mem8) ∧ (¬ r9 = 0 → (Ci mX3_has d [.ref 42, .int x2] mem8 (fun r12 mem11 => ((¬ r12 = 0 → (∀ x3_14 : Int32, x3_14 = (if 0 ≤ (x1 - x2) then (x1 - x2) else 0 - (x1 - x2)) → P (if ((mem11 42 0) - x3_14) < x3_14 then ((mem11 42 0) - x3_14) else x3_14) mem11)) ∧ (r12 = 0 → P (-1000000001) mem11))))))))) :
    Ci mX8_far (d + 1) [.ref 0, .int x1, .int x2] mem P := Cw_of rfl (Nat.le_of_ble_eq_true rfl) rfl (b_X8_far_0 mem x1 x2 h)
set_option maxRecDepth 20000 in
theorem E_X8_plain {d : Nat} {P : Int32 → wf_Mem → Prop} {mem : wf_Mem} (x1 : Int32) (x2 : Int32)
    (h : (Ci mX8_within d [.int x1, .int 0, .int 2] mem (fun r6 mem5 => ((r6 = 0 → P (-1000000001) mem5) ∧ (¬ r6 = 0 → ((¬ x1 = 0 → Vw (Ni (d + 1) P) mX8_plain 23 [(0, .ref 0), (1, .int x1), (2, .int x2)] [.int 99, .int 0, .int x2] mem5) ∧ (x1 = 0 → Vw (Ni (d + 1) P) mX8_plain 23 [(0, .ref 0), (1, .int x1), (2, .int x2)] [.int 9999, .int 0, .int x2] mem5))))))) :
    Ci mX8_plain (d + 1) [.ref 0, .int x1, .int x2] mem P := Cw_of rfl (Nat.le_of_ble_eq_true rfl) rfl (b_X8_plain_0 mem x1 x2 h)
set_option maxRecDepth 20000 in
theorem E_X8_watcher {d : Nat} {P : Int32 → wf_Mem → Prop} {mem : wf_Mem} (x1 : Int32) (x2 : Int32) (x3 : Int32)
    (h : (Ci mX8_isKind d [.int x1] mem (fun r13 mem12 => ((r13 = 0 → P (-1000000001) mem12) ∧ (¬ r13 = 0 → (Ci mX8_within d [.int x2, .int 0, .int 11] mem12 (fun r16 mem15 => ((r16 = 0 → P (-1000000001) mem15) ∧ (¬ r16 = 0 → (Ci mX8_within d [.int x3, .int 1, .int 9] mem15 (fun r19 mem18 => ((¬ r19 = 0 → (Ci mX0_hires d [.ref 41, .int x1, .int x2, .int x3] mem18 (fun r22 mem21 => P r22 mem21))) ∧ (r19 = 0 → P (-1000000001) mem18))))))))))))) :
    Ci mX8_watcher (d + 1) [.ref 0, .int x1, .int x2, .int x3] mem P := Cw_of rfl (Nat.le_of_ble_eq_true rfl) rfl (b_X8_watcher_0 mem x1 x2 x3 h)
set_option maxRecDepth 20000 in
theorem E_X8_told {d : Nat} {P : Int32 → wf_Mem → Prop} {mem : wf_Mem} (x1 : Int32) (x2 : Int32)
    (h : (Ci mX0_hasWatcher d [.ref 41, .int x1] mem (fun r20 mem19 => ((r20 = 0 → P (-1000000001) mem19) ∧ (¬ r20 = 0 → (Ci mX8_within d [.int x2, .int 0, .int 6] mem19 (fun r23 mem22 => ((¬ r23 = 0 → (vp_in x1 8 ∧ ((x2 = 0 → P (mem22 (46 + 4 + x1.toNatClampNeg) 0) mem22) ∧ (¬ x2 = 0 → ((x2 = 1 → P (mem22 (46 + 4 + x1.toNatClampNeg) 1) mem22) ∧ (¬ x2 = 1 → ((x2 = 2 → P (mem22 (46 + 4 + x1.toNatClampNeg) 2) mem22) ∧ (¬ x2 = 2 → ((x2 = 3 → P (mem22 (46 + 4 + x1.toNatClampNeg) 3) mem22) ∧ (¬ x2 = 3 → ((x2 = 4 → P (mem22 (46 + 4 + x1.toNatClampNeg) 4) mem22) ∧ (¬ x2 = 4 → ((x2 = 5 → (Cv mX0_measure d [.ref 41] mem22 (fun mem32 => (Ci mX0_sightOf d [.ref 41, .ref (46 + 4 + x1.toNatClampNeg)] mem32 (fun r34 mem33 => P r34 mem33))))) ∧ (¬ x2 = 5 → (Ci mX7_worth d [.ref (46 + 4 + x1.toNatClampNeg)] mem22 (fun r36 mem35 => P r36 mem35)))))))))))))))) ∧ (r23 = 0 → P (-1000000001) mem22))))))))) :
    Ci mX8_told (d + 1) [.ref 0, .int x1, .int x2] mem P := Cw_of rfl (Nat.le_of_ble_eq_true rfl) rfl (b_X8_told_0 mem x1 x2 h)
set_option maxRecDepth 20000 in
theorem E_X8_as {d : Nat} {P : Int32 → wf_Mem → Prop} {mem : wf_Mem} (x1 : Int32) (x2 : Int32)
    (h : (Ci mX0_hasWatcher d [.ref 41, .int x1] mem (fun r12 mem11 => ((r12 = 0 → P (-1000000001) mem11) ∧ (¬ r12 = 0 → (Ci mX8_isKind d [.int x2] mem11 (fun r15 mem14 => ((¬ r15 = 0 → (vp_in x1 8 ∧ (Ci mX7_isOf d [.ref (46 + 4 + x1.toNatClampNeg), .int x2] mem14 (fun r19 mem18 => ((r19 = 0 → P (-1000000012) mem18) ∧ (¬ r19 = 0 → P (mem18 (46 + 4 + x1.toNatClampNeg) 2) mem18)))))) ∧ (r15 = 0 → P (-1000000001) mem14))))))))) :
    Ci mX8_as (d + 1) [.ref 0, .int x1, .int x2] mem P := Cw_of rfl (Nat.le_of_ble_eq_true rfl) rfl (b_X8_as_0 mem x1 x2 h)
set_option maxRecDepth 20000 in
theorem E_X8_turns {d : Nat} {P : Int32 → wf_Mem → Prop} {mem : wf_Mem} (x1 : Int32) (x2 : Int32)
    (h : (Ci mX0_hasWatcher d [.ref 41, .int x1] mem (fun r11 mem10 => ((r11 = 0 → P (-1000000001) mem10) ∧ (¬ r11 = 0 → (Ci mX8_isKind d [.int x2] mem10 (fun r14 mem13 => ((¬ r14 = 0 → (vp_in x1 8 ∧ (∀ x4_17 : Int32, x4_17 = (mem13 (46 + 4 + x1.toNatClampNeg) 0) → (∀ mem18 : wf_Mem, mem18 = wf_ms mem13 (46 + 4 + x1.toNatClampNeg) 0 x2 → P x4_17 mem18)))) ∧ (r14 = 0 → P (-1000000001) mem13))))))))) :
    Ci mX8_turns (d + 1) [.ref 0, .int x1, .int x2] mem P := Cw_of rfl (Nat.le_of_ble_eq_true rfl) rfl (b_X8_turns_0 mem x1 x2 h)
set_option maxRecDepth 20000 in
theorem E_X8_set {d : Nat} {P : Int32 → wf_Mem → Prop} {mem : wf_Mem} (x1 : Int32) (x2 : Int32) (x3 : Int32)
    (h : (Ci mX0_hasWatcher d [.ref 41, .int x1] mem (fun r20 mem19 => ((r20 = 0 → P (-1000000001) mem19) ∧ (¬ r20 = 0 → (Ci mX7_canBe d [.int x2, .int x3] mem19 (fun r23 mem22 => ((¬ r23 = 0 → (vp_in x1 8 ∧ ((x2 = 1 → (∀ x5_27 : Int32, x5_27 = (mem22 (46 + 4 + x1.toNatClampNeg) 1) → (∀ mem28 : wf_Mem, mem28 = wf_ms mem22 (46 + 4 + x1.toNatClampNeg) 1 x3 → P x5_27 mem28))) ∧ (¬ x2 = 1 → ((x2 = 2 → (∀ x5_30 : Int32, x5_30 = (mem22 (46 + 4 + x1.toNatClampNeg) 2) → (∀ mem31 : wf_Mem, mem31 = wf_ms mem22 (46 + 4 + x1.toNatClampNeg) 2 x3 → P x5_30 mem31))) ∧ (¬ x2 = 2 → ((x2 = 3 → (∀ x5_33 : Int32, x5_33 = (mem22 (46 + 4 + x1.toNatClampNeg) 3) → (∀ mem34 : wf_Mem, mem34 = wf_ms mem22 (46 + 4 + x1.toNatClampNeg) 3 x3 → P x5_33 mem34))) ∧ (¬ x2 = 3 → (∀ x5_35 : Int32, x5_35 = (mem22 (46 + 4 + x1.toNatClampNeg) 4) → (∀ mem36 : wf_Mem, mem36 = wf_ms mem22 (46 + 4 + x1.toNatClampNeg) 4 x3 → P x5_35 mem36)))))))))) ∧ (r23 = 0 → P (-1000000001) mem22))))))))) :
    Ci mX8_set (d + 1) [.ref 0, .int x1, .int x2, .int x3] mem P := Cw_of rfl (Nat.le_of_ble_eq_true rfl) rfl (b_X8_set_0 mem x1 x2 x3 h)
set_option maxRecDepth 20000 in
theorem E_X8_deal {d : Nat} {P : Int32 → wf_Mem → Prop} {mem : wf_Mem} (x1 : Int32)
    (h : (Ci mX8_within d [.int x1, .int 1, .int 8] mem (fun r6 mem5 => ((¬ r6 = 0 → (∀ x2_8 : Int32, x2_8 = (if (8 - (mem5 41 2)) < x1 then (8 - (mem5 41 2)) else x1) → Vw (Ni (d + 1) P) mX8_deal 30 [(0, .ref 0), (2, .int x2_8), (3, .int 0)] [] mem5)) ∧ (r6 = 0 → P (-1000000001) mem5))))) :
    Ci mX8_deal (d + 1) [.ref 0, .int x1] mem P := Cw_of rfl (Nat.le_of_ble_eq_true rfl) rfl (b_X8_deal_0 mem x1 h)
set_option maxRecDepth 20000 in
theorem E_X8_seed {d : Nat} {P : Int32 → wf_Mem → Prop} {mem : wf_Mem} (x1 : Int32)
    (h : (∀ x2_3 : Int32, x2_3 = (mem 41 10) → (∀ mem4 : wf_Mem, mem4 = wf_ms mem 41 10 x1 → P x2_3 mem4))) :
    Ci mX8_seed d [.ref 0, .int x1] mem P := Cw_of rfl (Nat.le_of_ble_eq_true rfl) rfl (b_X8_seed_0 mem x1 h)
set_option maxRecDepth 20000 in
theorem E_X8_hours {d : Nat} {P : Int32 → wf_Mem → Prop} {mem : wf_Mem} (x1 : Int32)
    (h : (Ci mX8_within d [.int x1, .int 1, .int 300] mem (fun r7 mem6 => ((¬ r7 = 0 → (∀ x2_9 : Int32, x2_9 = (mem6 41 8) → (Cv mX0_pass d [.ref 41, .int (if (9999 - (mem6 41 6)) < x1 then (9999 - (mem6 41 6)) else x1)] mem6 (fun mem10 => P ((mem10 41 8) - x2_9) mem10)))) ∧ (r7 = 0 → P (-1000000001) mem6))))) :
    Ci mX8_hours (d + 1) [.ref 0, .int x1] mem P := Cw_of rfl (Nat.le_of_ble_eq_true rfl) rfl (b_X8_hours_0 mem x1 h)
set_option maxRecDepth 20000 in
theorem E_X8_night {d : Nat} {P : Int32 → wf_Mem → Prop} {mem : wf_Mem} (x1 : Int32)
    (h : ((x1 = 0 → P (mem 41 8) mem) ∧ (¬ x1 = 0 → ((x1 = 1 → P (mem 41 7) mem) ∧ (¬ x1 = 1 → ((x1 = 2 → P (mem 41 9) mem) ∧ (¬ x1 = 2 → ((x1 = 3 → (Cv mX0_measure d [.ref 41] mem (fun mem12 => (Ci mX0_leastFeared d [.ref 41] mem12 (fun r14 mem13 => P r14 mem13))))) ∧ (¬ x1 = 3 → P (-1000000001) mem))))))))) :
    Ci mX8_night (d + 1) [.ref 0, .int x1] mem P := Cw_of rfl (Nat.le_of_ble_eq_true rfl) rfl (b_X8_night_0 mem x1 h)
set_option maxRecDepth 20000 in
theorem E_X8_behind {d : Nat} {P : Int32 → wf_Mem → Prop} {mem : wf_Mem} (x1 : Int32) (x2 : Int32)
    (h : (Ci mX8_within d [.int x1, .int 0, .int 300] mem (fun r15 mem14 => ((r15 = 0 → P (-1000000001) mem14) ∧ (¬ r15 = 0 → (Ci mX8_within d [.int x2, .int 0, .int 3] mem14 (fun r18 mem17 => ((¬ r18 = 0 → (Cv mX0_takeFrom d [.ref 75, .ref 41] mem17 (fun mem20 => (Cv mX0_pass d [.ref 75, .int x1] mem20 (fun mem21 => ((x2 = 0 → P (mem21 75 8) mem21) ∧ (¬ x2 = 0 → ((x2 = 1 → P (mem21 75 3) mem21) ∧ (¬ x2 = 1 → ((x2 = 2 → P (mem21 75 5) mem21) ∧ (¬ x2 = 2 → (Ci mX3_allFoals d [.ref 76] mem21 (fun r26 mem25 => P r26 mem25))))))))))))) ∧ (r18 = 0 → P (-1000000001) mem17))))))))) :
    Ci mX8_behind (d + 1) [.ref 0, .int x1, .int x2] mem P := Cw_of rfl (Nat.le_of_ble_eq_true rfl) rfl (b_X8_behind_0 mem x1 x2 h)
set_option maxRecDepth 20000 in
theorem E_X8_lasts {d : Nat} {P : Int32 → wf_Mem → Prop} {mem : wf_Mem} 
    (h : (Cv mX0_takeFrom d [.ref 75, .ref 41] mem (fun mem2 => Vw (Ni (d + 1) P) mX8_lasts 13 [(0, .ref 0), (1, .int 1)] [] mem2))) :
    Ci mX8_lasts (d + 1) [.ref 0] mem P := Cw_of rfl (Nat.le_of_ble_eq_true rfl) rfl (b_X8_lasts_0 mem  h)
set_option maxRecDepth 20000 in
theorem E_X8_loss {d : Nat} {P : Int32 → wf_Mem → Prop} {mem : wf_Mem} 
    (h : (Cv mX0_takeFrom d [.ref 75, .ref 41] mem (fun mem2 => Vw (Ni (d + 1) P) mX8_loss 13 [(0, .ref 0), (1, .int 1)] [] mem2))) :
    Ci mX8_loss (d + 1) [.ref 0] mem P := Cw_of rfl (Nat.le_of_ble_eq_true rfl) rfl (b_X8_loss_0 mem  h)
set_option maxRecDepth 20000 in
theorem E_X8_dark {d : Nat} {P : Int32 → wf_Mem → Prop} {mem : wf_Mem} (x1 : Int32)
    (h : (Ci mX8_within d [.int x1, .int 0, .int 100] mem (fun r6 mem5 => ((¬ r6 = 0 → (Cv mX0_measure d [.ref 41] mem5 (fun mem8 => Vw (Ni (d + 1) P) mX8_dark 24 [(0, .ref 0), (1, .int x1), (2, .int 0), (3, .int 0)] [] mem8))) ∧ (r6 = 0 → P (-1000000001) mem5))))) :
    Ci mX8_dark (d + 1) [.ref 0, .int x1] mem P := Cw_of rfl (Nat.le_of_ble_eq_true rfl) rfl (b_X8_dark_0 mem x1 h)
set_option maxRecDepth 20000 in
theorem E_X8_fires {d : Nat} {P : Int32 → wf_Mem → Prop} {mem : wf_Mem} (x1 : Int32) (x2 : Int32)
    (h : (Ci mX8_within d [.int x1, .int 0, .int 18] mem (fun r15 mem14 => ((r15 = 0 → P (-1000000001) mem14) ∧ (¬ r15 = 0 → (Ci mX8_within d [.int x2, .int 0, .int 2] mem14 (fun r18 mem17 => ((¬ r18 = 0 → (Ci mX8_within d [.int (mem17 42 0), .int 1, .int 6] mem17 (fun r21 mem20 => ((¬ r21 = 0 → (Cv mX0_takeFrom d [.ref 75, .ref 41] mem20 (fun mem23 => (Cv mX1_runOn d [.ref 1, .ref 75, .int x1] mem23 (fun mem24 => ((x2 = 0 → P (mem24 1 1) mem24) ∧ (¬ x2 = 0 → ((x2 = 1 → P (mem24 1 2) mem24) ∧ (¬ x2 = 1 → P (mem24 1 3) mem24))))))))) ∧ (r21 = 0 → P (-1000000005) mem20))))) ∧ (r18 = 0 → P (-1000000001) mem17))))))))) :
    Ci mX8_fires (d + 1) [.ref 0, .int x1, .int x2] mem P := Cw_of rfl (Nat.le_of_ble_eq_true rfl) rfl (b_X8_fires_0 mem x1 x2 h)
set_option maxRecDepth 20000 in
theorem E_X8_watch {d : Nat} {P : Int32 → wf_Mem → Prop} {mem : wf_Mem} (x1 : Int32) (x2 : Int32)
    (h : (Ci mX8_within d [.int x1, .int 1, .int 60] mem (fun r8 mem7 => ((r8 = 0 → P (-1000000001) mem7) ∧ (¬ r8 = 0 → (Ci mX8_within d [.int x2, .int 0, .int 1] mem7 (fun r11 mem10 => ((¬ r11 = 0 → Vw (Ni (d + 1) P) mX8_watch 32 [(0, .ref 0), (1, .int x1), (2, .int x2), (3, .int (-1000000005)), (4, .int (-1000000005)), (5, .int 0)] [] mem10) ∧ (r11 = 0 → P (-1000000001) mem10))))))))) :
    Ci mX8_watch (d + 1) [.ref 0, .int x1, .int x2] mem P := Cw_of rfl (Nat.le_of_ble_eq_true rfl) rfl (b_X8_watch_0 mem x1 x2 h)
set_option maxRecDepth 20000 in
theorem E_X8_place {d : Nat} {P : Int32 → wf_Mem → Prop} {mem : wf_Mem} (x1 : Int32) (x2 : Int32)
    (h : (Ci mX0_hasWatcher d [.ref 41, .int x1] mem (fun r8 mem7 => ((r8 = 0 → P (-1000000001) mem7) ∧ (¬ r8 = 0 → (Ci mX8_within d [.int x2, .int 1, .int 60] mem7 (fun r11 mem10 => ((¬ r11 = 0 → Vw (Ni (d + 1) P) mX8_place 33 [(0, .ref 0), (1, .int x1), (2, .int x2), (3, .int (-1000000005)), (4, .int 0), (5, .int 0)] [] mem10) ∧ (r11 = 0 → P (-1000000001) mem10))))))))) :
    Ci mX8_place (d + 1) [.ref 0, .int x1, .int x2] mem P := Cw_of rfl (Nat.le_of_ble_eq_true rfl) rfl (b_X8_place_0 mem x1 x2 h)
set_option maxRecDepth 20000 in
theorem E_X8_signs {d : Nat} {P : Int32 → wf_Mem → Prop} {mem : wf_Mem} (x1 : Int32) (x2 : Int32) (x3 : Int32)
    (h : (Ci mX8_isSheet d [.int x1] mem (fun r13 mem12 => ((r13 = 0 → P (-1000000001) mem12) ∧ (¬ r13 = 0 → (Ci mX8_within d [.int x2, .int 0, .int 60] mem12 (fun r16 mem15 => ((r16 = 0 → P (-1000000001) mem15) ∧ (¬ r16 = 0 → (Ci mX8_within d [.int x3, .int 0, .int 1] mem15 (fun r19 mem18 => ((¬ r19 = 0 → (vp_in x1 4 ∧ ((¬ (mem18 (92 + 2 * x1.toNatClampNeg) 0) = (-1) → Vw (Ni (d + 1) P) mX8_signs 55 [(0, .ref 0), (1, .int x1), (2, .int x2), (3, .int x3), (4, .int (-1000000005)), (5, .int 0), (6, .int 0)] [] mem18) ∧ ((mem18 (92 + 2 * x1.toNatClampNeg) 0) = (-1) → P (-1000000011) mem18)))) ∧ (r19 = 0 → P (-1000000001) mem18))))))))))))) :
    Ci mX8_signs (d + 1) [.ref 0, .int x1, .int x2, .int x3] mem P := Cw_of rfl (Nat.le_of_ble_eq_true rfl) rfl (b_X8_signs_0 mem x1 x2 x3 h)
set_option maxRecDepth 20000 in
theorem E_X8_feed {d : Nat} {P : Int32 → wf_Mem → Prop} {mem : wf_Mem} (x1 : Int32) (x2 : Int32) (x3 : Int32)
    (h : ((((mem 3 1) + 12) ≤ 96 → (Cv mX6_takesNumber d [.ref 3, .int x1] mem (fun mem6 => (Cv mX6_takesNumber d [.ref 3, .int x2] mem6 (fun mem7 => (Cv mX6_takesNumber d [.ref 3, .int x3] mem7 (fun mem8 => P (mem8 3 1) mem8))))))) ∧ (¬ ((mem 3 1) + 12) ≤ 96 → P (-1000000003) mem))) :
    Ci mX8_feed (d + 1) [.ref 0, .int x1, .int x2, .int x3] mem P := Cw_of rfl (Nat.le_of_ble_eq_true rfl) rfl (b_X8_feed_0 mem x1 x2 x3 h)
set_option maxRecDepth 20000 in
theorem E_X8_trim {d : Nat} {P : Int32 → wf_Mem → Prop} {mem : wf_Mem} (x1 : Int32)
    (h : (Ci mX8_within d [.int x1, .int 0, .int (mem 3 1)] mem (fun r6 mem5 => ((¬ r6 = 0 → (∀ mem8 : wf_Mem, mem8 = wf_ms mem5 3 1 x1 → P x1 mem8)) ∧ (r6 = 0 → P (-1000000001) mem5))))) :
    Ci mX8_trim (d + 1) [.ref 0, .int x1] mem P := Cw_of rfl (Nat.le_of_ble_eq_true rfl) rfl (b_X8_trim_0 mem x1 h)
set_option maxRecDepth 20000 in
theorem E_X8_text {d : Nat} {P : Int32 → wf_Mem → Prop} {mem : wf_Mem} 
    (h : (vp_in (if 14 < (mem 41 12) then 14 else (mem 41 12)) 15 ∧ (Ci mX6_readInto d [.ref 3, .ref (10 + 1 + 2 * (if 14 < (mem 41 12) then 14 else (mem 41 12)).toNatClampNeg)] mem (fun r11 mem10 => (∀ mem12 : wf_Mem, mem12 = wf_ms mem10 3 1 0 → ((r11 < 0 → (((mem12 41 12) < 14 → (vp_in (mem12 (10 + 1 + 2 * (if 14 < (mem 41 12) then 14 else (mem 41 12)).toNatClampNeg) 0) 3 ∧ ∀ mem15 : wf_Mem, mem15 = wf_ms mem12 47 (mem12 (10 + 1 + 2 * (if 14 < (mem 41 12) then 14 else (mem 41 12)).toNatClampNeg) 0).toNatClampNeg (mem12 41 12) → (∀ mem16 : wf_Mem, mem16 = wf_ms mem15 41 12 ((mem15 41 12) + 1) → P (mem15 41 12) mem16))) ∧ (¬ (mem12 41 12) < 14 → P (-1000000003) mem12))) ∧ (¬ r11 < 0 → P ((-100) - r11) mem12))))))) :
    Ci mX8_text (d + 1) [.ref 0] mem P := Cw_of rfl (Nat.le_of_ble_eq_true rfl) rfl (b_X8_text_0 mem  h)
set_option maxRecDepth 20000 in
theorem E_X8_textTold {d : Nat} {P : Int32 → wf_Mem → Prop} {mem : wf_Mem} (x1 : Int32) (x2 : Int32)
    (h : (Ci mX8_within d [.int x1, .int 0, .int ((mem 41 12) - 1)] mem (fun r11 mem10 => ((r11 = 0 → P (-1000000001) mem10) ∧ (¬ r11 = 0 → (Ci mX8_within d [.int x2, .int 0, .int 1] mem10 (fun r14 mem13 => ((¬ r14 = 0 → ((¬ x2 = 0 → (vp_in x1 15 ∧ P (mem13 (10 + 1 + 2 * x1.toNatClampNeg) 1) mem13)) ∧ (x2 = 0 → (vp_in x1 15 ∧ P (mem13 (10 + 1 + 2 * x1.toNatClampNeg) 0) mem13)))) ∧ (r14 = 0 → P (-1000000001) mem13))))))))) :
    Ci mX8_textTold (d + 1) [.ref 0, .int x1, .int x2] mem P := Cw_of rfl (Nat.le_of_ble_eq_true rfl) rfl (b_X8_textTold_0 mem x1 x2 h)
set_option maxRecDepth 20000 in
theorem E_X8_why {d : Nat} {P : Int32 → wf_Mem → Prop} {mem : wf_Mem} (x1 : Int32)
    (h : (Ci mX8_within d [.int x1, .int 0, .int 2] mem (fun r5 mem4 => ((r5 = 0 → P (-1000000001) mem4) ∧ (¬ r5 = 0 → (vp_in x1 3 ∧ P (mem4 47 x1.toNatClampNeg) mem4)))))) :
    Ci mX8_why (d + 1) [.ref 0, .int x1] mem P := Cw_of rfl (Nat.le_of_ble_eq_true rfl) rfl (b_X8_why_0 mem x1 h)
set_option maxRecDepth 20000 in
theorem E_X8_sheet {d : Nat} {P : Int32 → wf_Mem → Prop} {mem : wf_Mem} (x1 : Int32) (x2 : Int32) (x3 : Int32)
    (h : (Ci mX8_isSheet d [.int x1] mem (fun r15 mem14 => ((r15 = 0 → P (-1000000001) mem14) ∧ (¬ r15 = 0 → (Ci mX8_within d [.int x2, .int (-1), .int 1] mem14 (fun r18 mem17 => ((¬ r18 = 0 → ((¬ x2 = (-1) → ((x3 ≤ 24 → ((0 ≤ x3 → (vp_in x1 4 ∧ (Cv mX4_becomes d [.ref (92 + 2 * x1.toNatClampNeg), .int x2, .int x3] mem17 (fun mem24 => P x3 mem24)))) ∧ (¬ 0 ≤ x3 → P (-1000000014) mem17))) ∧ (¬ x3 ≤ 24 → P (-1000000001) mem17))) ∧ (x2 = (-1) → (vp_in x1 4 ∧ (Cv mX4_becomes d [.ref (92 + 2 * x1.toNatClampNeg), .int (-1), .int 0] mem17 (fun mem26 => P 0 mem26)))))) ∧ (r18 = 0 → P (-1000000001) mem17))))))))) :
    Ci mX8_sheet (d + 1) [.ref 0, .int x1, .int x2, .int x3] mem P := Cw_of rfl (Nat.le_of_ble_eq_true rfl) rfl (b_X8_sheet_0 mem x1 x2 x3 h)
set_option maxRecDepth 20000 in
theorem E_X8_mark {d : Nat} {P : Int32 → wf_Mem → Prop} {mem : wf_Mem} (x1 : Int32) (x2 : Int32) (x3 : Int32)
    (h : (Ci mX8_isSheet d [.int x1] mem (fun r19 mem18 => ((¬ r19 = 0 → (vp_in x1 4 ∧ ((¬ (mem18 (92 + 2 * x1.toNatClampNeg) 0) = (-1) → (Ci mX4_has d [.ref (92 + 2 * x1.toNatClampNeg), .int x2] mem18 (fun r24 mem23 => ((¬ r24 = 0 → ((¬ (mem23 (92 + 2 * x1.toNatClampNeg) 0) = 0 → ((x3 = (-1000000005) → (vp_in x2 24 ∧ ∀ mem28 : wf_Mem, mem28 = wf_ms mem23 ((92 + 2 * x1.toNatClampNeg) + 1) x2.toNatClampNeg x3 → P 1 mem28)) ∧ (¬ x3 = (-1000000005) → (Ci mX8_within d [.int x3, .int (-99999), .int 99999] mem23 (fun r30 mem29 => ((¬ r30 = 0 → (vp_in x2 24 ∧ ∀ mem32 : wf_Mem, mem32 = wf_ms mem29 ((92 + 2 * x1.toNatClampNeg) + 1) x2.toNatClampNeg x3 → P 1 mem32)) ∧ (r30 = 0 → P (-1000000001) mem29))))))) ∧ ((mem23 (92 + 2 * x1.toNatClampNeg) 0) = 0 → ((¬ x3 = (-1000000005) → (vp_in x2 24 ∧ ∀ mem34 : wf_Mem, mem34 = wf_ms mem23 ((92 + 2 * x1.toNatClampNeg) + 1) x2.toNatClampNeg (x3.toInt16.toInt32) → P 1 mem34)) ∧ (x3 = (-1000000005) → P (-1000000012) mem23))))) ∧ (r24 = 0 → P (-1000000013) mem23))))) ∧ ((mem18 (92 + 2 * x1.toNatClampNeg) 0) = (-1) → P (-1000000011) mem18)))) ∧ (r19 = 0 → P (-1000000001) mem18))))) :
    Ci mX8_mark (d + 1) [.ref 0, .int x1, .int x2, .int x3] mem P := Cw_of rfl (Nat.le_of_ble_eq_true rfl) rfl (b_X8_mark_0 mem x1 x2 x3 h)
set_option maxRecDepth 20000 in
theorem E_X8_pour {d : Nat} {P : Int32 → wf_Mem → Prop} {mem : wf_Mem} (x1 : Int32)
    (h : (Ci mX8_isSheet d [.int x1] mem (fun r7 mem6 => ((¬ r7 = 0 → (vp_in x1 4 ∧ ((¬ (mem6 (92 + 2 * x1.toNatClampNeg) 0) = (-1) → Vw (Ni (d + 1) P) mX8_pour 33 [(0, .ref 0), (2, .ref (92 + 2 * x1.toNatClampNeg)), (3, .int 0), (4, .int 0)] [] mem6) ∧ ((mem6 (92 + 2 * x1.toNatClampNeg) 0) = (-1) → P (-1000000011) mem6)))) ∧ (r7 = 0 → P (-1000000001) mem6))))) :
    Ci mX8_pour (d + 1) [.ref 0, .int x1] mem P := Cw_of rfl (Nat.le_of_ble_eq_true rfl) rfl (b_X8_pour_0 mem x1 h)
set_option maxRecDepth 20000 in
theorem E_X8_reads {d : Nat} {P : Int32 → wf_Mem → Prop} {mem : wf_Mem} (x1 : Int32)
    (h : (Ci mX8_isSheet d [.int x1] mem (fun r8 mem7 => ((¬ r8 = 0 → (vp_in x1 4 ∧ ((¬ (mem7 (92 + 2 * x1.toNatClampNeg) 0) = (-1) → (Cv mX0_measure d [.ref 41] mem7 (fun mem12 => Vw (Ni (d + 1) P) mX8_reads 37 [(0, .ref 0), (2, .ref (92 + 2 * x1.toNatClampNeg)), (3, .int 0)] [] mem12))) ∧ ((mem7 (92 + 2 * x1.toNatClampNeg) 0) = (-1) → P (-1000000011) mem7)))) ∧ (r8 = 0 → P (-1000000001) mem7))))) :
    Ci mX8_reads (d + 1) [.ref 0, .int x1] mem P := Cw_of rfl (Nat.le_of_ble_eq_true rfl) rfl (b_X8_reads_0 mem x1 h)
set_option maxRecDepth 20000 in
theorem E_X8_copy {d : Nat} {P : Int32 → wf_Mem → Prop} {mem : wf_Mem} (x1 : Int32) (x2 : Int32) (x3 : Int32) (x4 : Int32) (x5 : Int32)
    (h : (Ci mX8_isSheet d [.int x1] mem (fun r20 mem19 => ((r20 = 0 → P (-1000000001) mem19) ∧ (¬ r20 = 0 → (Ci mX8_isSheet d [.int x3] mem19 (fun r23 mem22 => ((¬ r23 = 0 → (vp_in x1 4 ∧ (vp_in x3 4 ∧ (((mem22 (92 + 2 * x1.toNatClampNeg) 0) = (-1) → P (-1000000011) mem22) ∧ (¬ (mem22 (92 + 2 * x1.toNatClampNeg) 0) = (-1) → ((¬ (mem22 (92 + 2 * x3.toNatClampNeg) 0) = (-1) → (((mem22 (92 + 2 * x1.toNatClampNeg) 0) = (mem22 (92 + 2 * x3.toNatClampNeg) 0) → (Ci mX4_hasRun d [.ref (92 + 2 * x1.toNatClampNeg), .int x2, .int x5] mem22 (fun r31 mem30 => ((r31 = 0 → P (-1000000013) mem30) ∧ (¬ r31 = 0 → (Ci mX4_hasRun d [.ref (92 + 2 * x3.toNatClampNeg), .int x4, .int x5] mem30 (fun r34 mem33 => ((¬ r34 = 0 → ((¬ x2 < 0 ∧ ¬ x4 < 0 ∧ ¬ x5 < 0 ∧ x2.toNatClampNeg + x5.toNatClampNeg ≤ 24 ∧ x4.toNatClampNeg + x5.toNatClampNeg ≤ 24) ∧ ∀ mem36 : wf_Mem, mem36 = wf_mc mem33 ((92 + 2 * x1.toNatClampNeg) + 1) x2.toNatClampNeg ((92 + 2 * x3.toNatClampNeg) + 1) x4.toNatClampNeg x5.toNatClampNeg → P x5 mem36)) ∧ (r34 = 0 → P (-1000000013) mem33))))))))) ∧ (¬ (mem22 (92 + 2 * x1.toNatClampNeg) 0) = (mem22 (92 + 2 * x3.toNatClampNeg) 0) → P (-1000000012) mem22))) ∧ ((mem22 (92 + 2 * x3.toNatClampNeg) 0) = (-1) → P (-1000000011) mem22))))))) ∧ (r23 = 0 → P (-1000000001) mem22))))))))) :
    Ci mX8_copy (d + 1) [.ref 0, .int x1, .int x2, .int x3, .int x4, .int x5] mem P := Cw_of rfl (Nat.le_of_ble_eq_true rfl) rfl (b_X8_copy_0 mem x1 x2 x3 x4 x5 h)
set_option maxRecDepth 20000 in
theorem E_X8_lay {d : Nat} {P : Int32 → wf_Mem → Prop} {mem : wf_Mem} (x1 : Int32) (x2 : Int32) (x3 : Int32)
    (h : (Ci mX8_isSlot d [.int x1] mem (fun r12 mem11 => ((r12 = 0 → P (-1000000001) mem11) ∧ (¬ r12 = 0 → (Ci mX8_within d [.int x2, .int 0, .int 3] mem11 (fun r15 mem14 => ((¬ r15 = 0 → ((¬ x2 = 1 → Vw (Ni (d + 1) P) mX8_lay 35 [(0, .ref 0), (1, .int x1), (2, .int x2), (3, .int x3)] [] mem14) ∧ (x2 = 1 → (Ci mX0_hasWatcher d [.ref 41, .int x3] mem14 (fun r19 mem18 => ((r19 = 0 → P (-1000000001) mem18) ∧ (¬ r19 = 0 → Vw (Ni (d + 1) P) mX8_lay 35 [(0, .ref 0), (1, .int x1), (2, .int x2), (3, .int x3)] [] mem18))))))) ∧ (r15 = 0 → P (-1000000001) mem14))))))))) :
    Ci mX8_lay (d + 1) [.ref 0, .int x1, .int x2, .int x3] mem P := Cw_of rfl (Nat.le_of_ble_eq_true rfl) rfl (b_X8_lay_0 mem x1 x2 x3 h)
set_option maxRecDepth 20000 in
theorem E_X8_ask {d : Nat} {P : Int32 → wf_Mem → Prop} {mem : wf_Mem} (x1 : Int32) (x2 : Int32)
    (h : (Ci mX8_isSlot d [.int x1] mem (fun r16 mem15 => ((r16 = 0 → P (-1000000001) mem15) ∧ (¬ r16 = 0 → (Ci mX8_isKind d [.int x2] mem15 (fun r19 mem18 => ((¬ r19 = 0 → (vp_in x1 5 ∧ ((¬ (mem18 (100 + 4 * x1.toNatClampNeg) 0) = 0 → ((¬ (mem18 (100 + 4 * x1.toNatClampNeg) 0) = 1 → P (-1000000012) mem18) ∧ ((mem18 (100 + 4 * x1.toNatClampNeg) 0) = 1 → (Ci mX7_isOf d [.ref ((100 + 4 * x1.toNatClampNeg) + 1), .int x2] mem18 (fun r25 mem24 => ((¬ r25 = 0 → (Ci mX7_worth d [.ref ((100 + 4 * x1.toNatClampNeg) + 1)] mem24 (fun r28 mem27 => P r28 mem27))) ∧ (r25 = 0 → P (-1000000012) mem24))))))) ∧ ((mem18 (100 + 4 * x1.toNatClampNeg) 0) = 0 → P (-1000000011) mem18)))) ∧ (r19 = 0 → P (-1000000001) mem18))))))))) :
    Ci mX8_ask (d + 1) [.ref 0, .int x1, .int x2] mem P := Cw_of rfl (Nat.le_of_ble_eq_true rfl) rfl (b_X8_ask_0 mem x1 x2 h)
set_option maxRecDepth 20000 in
theorem E_X8_item {d : Nat} {P : Int32 → wf_Mem → Prop} {mem : wf_Mem} (x1 : Int32) (x2 : Int32)
    (h : (Ci mX8_isSlot d [.int x1] mem (fun r13 mem12 => ((¬ r13 = 0 → (vp_in x1 5 ∧ ((¬ (mem12 (100 + 4 * x1.toNatClampNeg) 0) = 0 → (((mem12 (100 + 4 * x1.toNatClampNeg) 0) = 2 → (Ci mX4_has d [.ref ((100 + 4 * x1.toNatClampNeg) + 2), .int x2] mem12 (fun r19 mem18 => ((¬ r19 = 0 → (vp_in x2 24 ∧ (∀ x4_21 : Int32, x4_21 = (mem18 (((100 + 4 * x1.toNatClampNeg) + 2) + 1) x2.toNatClampNeg) → ((¬ x4_21 = (-1000000005) → P x4_21 mem18) ∧ (x4_21 = (-1000000005) → P (-1000000012) mem18))))) ∧ (r19 = 0 → P (-1000000013) mem18))))) ∧ (¬ (mem12 (100 + 4 * x1.toNatClampNeg) 0) = 2 → P (-1000000012) mem12))) ∧ ((mem12 (100 + 4 * x1.toNatClampNeg) 0) = 0 → P (-1000000011) mem12)))) ∧ (r13 = 0 → P (-1000000001) mem12))))) :
    Ci mX8_item (d + 1) [.ref 0, .int x1, .int x2] mem P := Cw_of rfl (Nat.le_of_ble_eq_true rfl) rfl (b_X8_item_0 mem x1 x2 h)
set_option maxRecDepth 20000 in
theorem E_X8_rest {d : Nat} {P : Int32 → wf_Mem → Prop} {mem : wf_Mem} (x1 : Int32) (x2 : Int32)
    (h : (Ci mX8_isSlot d [.int x1] mem (fun r9 mem8 => ((¬ r9 = 0 → (vp_in x1 5 ∧ ((¬ (mem8 (100 + 4 * x1.toNatClampNeg) 0) = 0 → (((mem8 (100 + 4 * x1.toNatClampNeg) 0) = 3 → ((¬ x2 = 0 → ((¬ x2 = 0) ∧ P ((mem8 (100 + 4 * x1.toNatClampNeg) 1) - (mem8 (100 + 4 * x1.toNatClampNeg) 1) / x2 * x2) mem8)) ∧ (x2 = 0 → P (-1000000002) mem8))) ∧ (¬ (mem8 (100 + 4 * x1.toNatClampNeg) 0) = 3 → P (-1000000012) mem8))) ∧ ((mem8 (100 + 4 * x1.toNatClampNeg) 0) = 0 → P (-1000000011) mem8)))) ∧ (r9 = 0 → P (-1000000001) mem8))))) :
    Ci mX8_rest (d + 1) [.ref 0, .int x1, .int x2] mem P := Cw_of rfl (Nat.le_of_ble_eq_true rfl) rfl (b_X8_rest_0 mem x1 x2 h)
set_option maxRecDepth 20000 in
theorem E_X8_tell {d : Nat} {P : Int32 → wf_Mem → Prop} {mem : wf_Mem} (x1 : Int32)
    (h : (((mem 0 9) < 60 → (vp_in (mem 0 9) 60 ∧ ∀ mem5 : wf_Mem, mem5 = wf_ms mem 8 (mem 0 9).toNatClampNeg x1 → (∀ mem6 : wf_Mem, mem6 = wf_ms mem5 0 9 ((mem5 0 9) + 1) → P (mem6 0 9) mem6))) ∧ (¬ (mem 0 9) < 60 → P (-1000000003) mem))) :
    Ci mX8_tell d [.ref 0, .int x1] mem P := Cw_of rfl (Nat.le_of_ble_eq_true rfl) rfl (b_X8_tell_0 mem x1 h)
set_option maxRecDepth 20000 in
theorem E_X8_check {d : Nat} {P : Int32 → wf_Mem → Prop} {mem : wf_Mem} (x1 : Int32)
    (h : (∀ x2_9 : Int32, x2_9 = (mem 0 9) → (∀ mem10 : wf_Mem, mem10 = wf_ms mem 0 9 0 → (Ci mX8_within d [.int x1, .int 1, .int 30] mem10 (fun r12 mem11 => ((¬ r12 = 0 → ((¬ (mem11 0 10) = 0 → (Cv mX0_takeFrom d [.ref 75, .ref 58] mem11 (fun mem15 => (∀ x3_16 : Int32, x3_16 = (if (9999 - (mem15 58 6)) < x1 then (9999 - (mem15 58 6)) else x1) → Vw (Ni (d + 1) P) mX8_check 64 [(0, .ref 0), (2, .int x2_9), (3, .int x3_16), (4, .int 0)] [] mem15)))) ∧ ((mem11 0 10) = 0 → P (-1000000002) mem11))) ∧ (r12 = 0 → P (-1000000001) mem11))))))) :
    Ci mX8_check (d + 1) [.ref 0, .int x1] mem P := Cw_of rfl (Nat.le_of_ble_eq_true rfl) rfl (b_X8_check_0 mem x1 h)
set_option maxRecDepth 20000 in
theorem E_X8_keep {d : Nat} {P : Int32 → wf_Mem → Prop} {mem : wf_Mem} 
    (h : (Cv mX0_takeFrom d [.ref 58, .ref 41] mem (fun mem3 => (∀ mem4 : wf_Mem, mem4 = wf_ms mem3 0 10 1 → P (mem4 42 0) mem4)))) :
    Ci mX8_keep (d + 1) [.ref 0] mem P := Cw_of rfl (Nat.le_of_ble_eq_true rfl) rfl (b_X8_keep_0 mem  h)
set_option maxRecDepth 20000 in
theorem E_X8_back {d : Nat} {P : Int32 → wf_Mem → Prop} {mem : wf_Mem} 
    (h : ((¬ (mem 0 10) = 0 → (Cv mX0_takeFrom d [.ref 41, .ref 58] mem (fun mem4 => P (mem4 42 0) mem4))) ∧ ((mem 0 10) = 0 → P (-1000000002) mem))) :
    Ci mX8_back (d + 1) [.ref 0] mem P := Cw_of rfl (Nat.le_of_ble_eq_true rfl) rfl (b_X8_back_0 mem  h)
set_option maxRecDepth 20000 in
theorem E_X8_count {d : Nat} {P : Int32 → wf_Mem → Prop} {mem : wf_Mem} (x1 : Int32)
    (h : ((x1 = 0 → P (mem 42 0) mem) ∧ (¬ x1 = 0 → ((x1 = 1 → P (mem 41 2) mem) ∧ (¬ x1 = 1 → ((x1 = 2 → (Ci mX0_onMany d [.ref 41] mem (fun r21 mem20 => P r21 mem20))) ∧ (¬ x1 = 2 → ((x1 = 3 → P (mem 41 3) mem) ∧ (¬ x1 = 3 → ((x1 = 4 → P (mem 41 4) mem) ∧ (¬ x1 = 4 → ((x1 = 5 → P (mem 41 5) mem) ∧ (¬ x1 = 5 → ((x1 = 6 → P (mem 41 6) mem) ∧ (¬ x1 = 6 → ((x1 = 7 → (Ci mX3_allFoals d [.ref 42] mem (fun r28 mem27 => P r28 mem27))) ∧ (¬ x1 = 7 → ((x1 = 8 → P (mem 41 12) mem) ∧ (¬ x1 = 8 → ((x1 = 9 → P (mem 0 9) mem) ∧ (¬ x1 = 9 → ((x1 = 10 → P (mem 3 1) mem) ∧ (¬ x1 = 10 → ((x1 = 11 → P (mem 41 10) mem) ∧ (¬ x1 = 11 → P (-1000000001) mem))))))))))))))))))))))))) :
    Ci mX8_count (d + 1) [.ref 0, .int x1] mem P := Cw_of rfl (Nat.le_of_ble_eq_true rfl) rfl (b_X8_count_0 mem x1 h)
set_option maxRecDepth 20000 in
theorem E_X8_within {d : Nat} {P : Int32 → wf_Mem → Prop} {mem : wf_Mem} (x0 : Int32) (x1 : Int32) (x2 : Int32)
    (h : ((x0 < x1 → P 0 mem) ∧ (¬ x0 < x1 → ((x2 < x0 → P 0 mem) ∧ (¬ x2 < x0 → P 1 mem))))) :
    Ci mX8_within d [.int x0, .int x1, .int x2] mem P := Cw_of rfl (Nat.le_of_ble_eq_true rfl) rfl (b_X8_within_0 mem x0 x1 x2 h)
set_option maxRecDepth 20000 in
theorem E_X8_held {d : Nat} {P : Int32 → wf_Mem → Prop} {mem : wf_Mem} (x0 : Int32) (x1 : Int32) (x2 : Int32)
    (h : P (if x1 < (if x0 < x2 then x0 else x2) then (if x0 < x2 then x0 else x2) else x1) mem) :
    Ci mX8_held (d + 1) [.int x0, .int x1, .int x2] mem P := Cw_of rfl (Nat.le_of_ble_eq_true rfl) rfl (b_X8_held_0 mem x0 x1 x2 h)
set_option maxRecDepth 20000 in
theorem E_X8_isKind {d : Nat} {P : Int32 → wf_Mem → Prop} {mem : wf_Mem} (x0 : Int32)
    (h : (Ci mX8_within d [.int x0, .int 0, .int ((6 : Int32) - 1)] mem (fun r4 mem3 => ((r4 = 0 ∨ r4 = 1) ∧ P r4 mem3)))) :
    Ci mX8_isKind (d + 1) [.int x0] mem P := Cw_of rfl (Nat.le_of_ble_eq_true rfl) rfl (b_X8_isKind_0 mem x0 h)
set_option maxRecDepth 20000 in
theorem E_X8_isSheet {d : Nat} {P : Int32 → wf_Mem → Prop} {mem : wf_Mem} (x0 : Int32)
    (h : (Ci mX8_within d [.int x0, .int 0, .int 3] mem (fun r4 mem3 => ((r4 = 0 ∨ r4 = 1) ∧ P r4 mem3)))) :
    Ci mX8_isSheet (d + 1) [.int x0] mem P := Cw_of rfl (Nat.le_of_ble_eq_true rfl) rfl (b_X8_isSheet_0 mem x0 h)
set_option maxRecDepth 20000 in
theorem E_X8_isSlot {d : Nat} {P : Int32 → wf_Mem → Prop} {mem : wf_Mem} (x0 : Int32)
    (h : (Ci mX8_within d [.int x0, .int 0, .int 4] mem (fun r4 mem3 => ((r4 = 0 ∨ r4 = 1) ∧ P r4 mem3)))) :
    Ci mX8_isSlot (d + 1) [.int x0] mem P := Cw_of rfl (Nat.le_of_ble_eq_true rfl) rfl (b_X8_isSlot_0 mem x0 h)
set_option maxRecDepth 20000 in
theorem E_X9_isIn {d : Nat} {P : Int32 → wf_Mem → Prop} {mem : wf_Mem} (x0 : Int64) (x2 : Int64) (x4 : Int64)
    (h : (((lg_cmp x0 x2) < 0 → P 0 mem) ∧ (¬ (lg_cmp x0 x2) < 0 → ((0 < (lg_cmp x0 x4) → P 0 mem) ∧ (¬ 0 < (lg_cmp x0 x4) → P 1 mem))))) :
    Ci mX9_isIn d [.long x0, .long x2, .long x4] mem P := Cw_of rfl (Nat.le_of_ble_eq_true rfl) rfl (b_X9_isIn_0 mem x0 x2 x4 h)
set_option maxRecDepth 20000 in
theorem E_X9_orNone {d : Nat} {P : Int32 → wf_Mem → Prop} {mem : wf_Mem} (x0 : Int32)
    (h : ((0 ≤ x0 → P x0 mem) ∧ (¬ 0 ≤ x0 → P (-1000000005) mem))) :
    Ci mX9_orNone d [.int x0] mem P := Cw_of rfl (Nat.le_of_ble_eq_true rfl) rfl (b_X9_orNone_0 mem x0 h)
set_option maxRecDepth 20000 in
theorem E_X9_within {d : Nat} {P : Int32 → wf_Mem → Prop} {mem : wf_Mem} (x0 : Int32) (x1 : Int32)
    (h : ((0 ≤ x0 → ((x0 ≤ x1 → P x0 mem) ∧ (¬ x0 ≤ x1 → P x1 mem))) ∧ (¬ 0 ≤ x0 → P 0 mem))) :
    Ci mX9_within d [.int x0, .int x1] mem P := Cw_of rfl (Nat.le_of_ble_eq_true rfl) rfl (b_X9_within_0 mem x0 x1 h)
set_option maxRecDepth 20000 in
theorem E_X9_off {d : Nat} {P : Int32 → wf_Mem → Prop} {mem : wf_Mem} (x0 : Int32) (x1 : Int32)
    (h : ((x1 ≤ x0 → P (x0 - x1) mem) ∧ (¬ x1 ≤ x0 → P (x1 - x0) mem))) :
    Ci mX9_off d [.int x0, .int x1] mem P := Cw_of rfl (Nat.le_of_ble_eq_true rfl) rfl (b_X9_off_0 mem x0 x1 h)
set_option maxRecDepth 20000 in
theorem E_X9_becomes {d : Nat} {P : Int32 → wf_Mem → Prop} {mem : wf_Mem} (x1 : Int32) (x2 : Int32)
    (h : (vp_in x1 3088 ∧ (∀ x3_3 : Int32, x3_3 = (mem 121 x1.toNatClampNeg) → (vp_in x1 3088 ∧ ∀ mem4 : wf_Mem, mem4 = wf_ms mem 121 x1.toNatClampNeg x2 → P x3_3 mem4)))) :
    Ci mX9_becomes d [.ref 120, .int x1, .int x2] mem P := Cw_of rfl (Nat.le_of_ble_eq_true rfl) rfl (b_X9_becomes_0 mem x1 x2 h)
set_option maxRecDepth 20000 in
theorem E_X9_textAt {d : Nat} {P : Int32 → wf_Mem → Prop} {mem : wf_Mem} (x1 : Int32)
    (h : P (88 + (200 * x1)) mem) :
    Ci mX9_textAt d [.ref 120, .int x1] mem P := Cw_of rfl (Nat.le_of_ble_eq_true rfl) rfl (b_X9_textAt_0 mem x1 h)
set_option maxRecDepth 20000 in
theorem E_X9_wagonsOwn {d : Nat} {P : Int32 → wf_Mem → Prop} {mem : wf_Mem} (x1 : Int32) (x2 : Int32)
    (h : (vp_in ((12 + (3 * x1)) + x2) 3088 ∧ P (mem 121 ((12 + (3 * x1)) + x2).toNatClampNeg) mem)) :
    Ci mX9_wagonsOwn d [.ref 120, .int x1, .int x2] mem P := Cw_of rfl (Nat.le_of_ble_eq_true rfl) rfl (b_X9_wagonsOwn_0 mem x1 x2 h)
set_option maxRecDepth 20000 in
theorem E_X9_of {d : Nat} {P : Int32 → wf_Mem → Prop} {mem : wf_Mem} (x1 : Int32) (x2 : Int32)
    (h : (vp_in ((48 + (5 * x1)) + x2) 3088 ∧ P (mem 121 ((48 + (5 * x1)) + x2).toNatClampNeg) mem)) :
    Ci mX9_of d [.ref 120, .int x1, .int x2] mem P := Cw_of rfl (Nat.le_of_ble_eq_true rfl) rfl (b_X9_of_0 mem x1 x2 h)
set_option maxRecDepth 20000 in
theorem E_X9_isWagon {d : Nat} {P : Int32 → wf_Mem → Prop} {mem : wf_Mem} (x1 : Int32)
    (h : (Ci mX9_isIn d [.long (x1 : Int32).toInt64, .long 0, .long (((mem 121 0) - 1) : Int32).toInt64] mem (fun r4 mem3 => ((r4 = 0 ∨ r4 = 1) ∧ P r4 mem3)))) :
    Ci mX9_isWagon (d + 1) [.ref 120, .int x1] mem P := Cw_of rfl (Nat.le_of_ble_eq_true rfl) rfl (b_X9_isWagon_0 mem x1 h)
set_option maxRecDepth 20000 in
theorem E_X9_isWatcher {d : Nat} {P : Int32 → wf_Mem → Prop} {mem : wf_Mem} (x1 : Int32)
    (h : (Ci mX9_isIn d [.long (x1 : Int32).toInt64, .long 0, .long (((mem 121 1) - 1) : Int32).toInt64] mem (fun r4 mem3 => ((r4 = 0 ∨ r4 = 1) ∧ P r4 mem3)))) :
    Ci mX9_isWatcher (d + 1) [.ref 120, .int x1] mem P := Cw_of rfl (Nat.le_of_ble_eq_true rfl) rfl (b_X9_isWatcher_0 mem x1 h)
set_option maxRecDepth 20000 in
theorem E_X9_isText {d : Nat} {P : Int32 → wf_Mem → Prop} {mem : wf_Mem} (x1 : Int32)
    (h : (Ci mX9_isIn d [.long (x1 : Int32).toInt64, .long 0, .long (((mem 121 2) - 1) : Int32).toInt64] mem (fun r4 mem3 => ((r4 = 0 ∨ r4 = 1) ∧ P r4 mem3)))) :
    Ci mX9_isText (d + 1) [.ref 120, .int x1] mem P := Cw_of rfl (Nat.le_of_ble_eq_true rfl) rfl (b_X9_isText_0 mem x1 h)
set_option maxRecDepth 20000 in
theorem E_X9_drawn {d : Nat} {P : Int32 → wf_Mem → Prop} {mem : wf_Mem} 
    (h : (∀ mem2 : wf_Mem, mem2 = wf_ms mem 121 10 (((mem 121 10) * 1103515245) + 12345) → P (((mem2 121 10).toUInt32 >>> ((8 : Int32).toUInt32 &&& Int32.toUInt32 31)).toInt32) mem2)) :
    Ci mX9_drawn d [.ref 120] mem P := Cw_of rfl (Nat.le_of_ble_eq_true rfl) rfl (b_X9_drawn_0 mem  h)
set_option maxRecDepth 20000 in
theorem E_X9_wagon {d : Nat} {P : Int32 → wf_Mem → Prop} {mem : wf_Mem} (x1 : Int32)
    (h : (Ci mX9_isIn d [.long (x1 : Int32).toInt64, .long 0, .long 99] mem (fun r11 mem10 => ((¬ r11 = 0 → ((¬ (mem10 121 0) = 12 → (∀ x2_14 : Int32, x2_14 = (12 + (3 * (mem10 121 0))) → (vp_in x2_14 3088 ∧ ∀ mem15 : wf_Mem, mem15 = wf_ms mem10 121 x2_14.toNatClampNeg x1 → (vp_in (x2_14 + 1) 3088 ∧ ∀ mem16 : wf_Mem, mem16 = wf_ms mem15 121 (x2_14 + 1).toNatClampNeg 0 → (vp_in (x2_14 + 2) 3088 ∧ ∀ mem17 : wf_Mem, mem17 = wf_ms mem16 121 (x2_14 + 2).toNatClampNeg 0 → (∀ mem18 : wf_Mem, mem18 = wf_ms mem17 121 0 ((mem17 121 0) + 1) → P ((mem18 121 0) - 1) mem18)))))) ∧ ((mem10 121 0) = 12 → P (-1000000003) mem10))) ∧ (r11 = 0 → P (-1000000001) mem10))))) :
    Ci mX9_wagon (d + 1) [.ref 120, .int x1] mem P := Cw_of rfl (Nat.le_of_ble_eq_true rfl) rfl (b_X9_wagon_0 mem x1 h)
set_option maxRecDepth 20000 in
theorem E_X9_nextFires {d : Nat} {P : Int32 → wf_Mem → Prop} {mem : wf_Mem} (x1 : Int32)
    (h : (∀ x2_10 : Int32, x2_10 = (mem 121 0) → ((3 ≤ x2_10 → ((¬ x2_10 = 0) ∧ (Ci mX9_wagonsOwn d [.ref 120, .int ((x1 + 1) - (x1 + 1) / x2_10 * x2_10), .int 1] mem (fun r13 mem12 => ((¬ x2_10 = 0) ∧ (Ci mX9_wagonsOwn d [.ref 120, .int (((x1 + x2_10) - 1) - ((x1 + x2_10) - 1) / x2_10 * x2_10), .int 1] mem12 (fun r15 mem14 => P (r13 + r15) mem14))))))) ∧ (¬ 3 ≤ x2_10 → ((2 ≤ x2_10 → (Ci mX9_wagonsOwn d [.ref 120, .int (1 - x1), .int 1] mem (fun r18 mem17 => P r18 mem17))) ∧ (¬ 2 ≤ x2_10 → P 0 mem)))))) :
    Ci mX9_nextFires (d + 1) [.ref 120, .int x1] mem P := Cw_of rfl (Nat.le_of_ble_eq_true rfl) rfl (b_X9_nextFires_0 mem x1 h)
set_option maxRecDepth 20000 in
theorem E_X9_light {d : Nat} {P : Int32 → wf_Mem → Prop} {mem : wf_Mem} (x1 : Int32)
    (h : (Ci mX9_wagonsOwn d [.ref 120, .int x1, .int 1] mem (fun r16 mem15 => (Ci mX9_nextFires d [.ref 120, .int x1] mem15 (fun r18 mem17 => (Ci mX9_counts d [.ref 120, .int 0] mem17 (fun r20 mem19 => ((0 ≤ r20 → (∀ mem22 : wf_Mem, mem22 = wf_ms mem19 134 102 r16 → (∀ mem23 : wf_Mem, mem23 = wf_ms mem22 134 110 r18 → (∀ mem24 : wf_Mem, mem24 = wf_ms mem23 134 119 (mem23 121 3) → (Ci mX9_worked d [.ref 120, .int r20] mem24 (fun r26 mem25 => (Ci mX9_within d [.int r26, .int 99] mem25 (fun r28 mem27 => P r28 mem27)))))))) ∧ (¬ 0 ≤ r20 → P ((2 * r16) + r18) mem19))))))))) :
    Ci mX9_light (d + 1) [.ref 120, .int x1] mem P := Cw_of rfl (Nat.le_of_ble_eq_true rfl) rfl (b_X9_light_0 mem x1 h)
set_option maxRecDepth 20000 in
theorem E_X9_sees {d : Nat} {P : Int32 → wf_Mem → Prop} {mem : wf_Mem} (x1 : Int32)
    (h : (Ci mX9_of d [.ref 120, .int x1, .int 1] mem (fun r16 mem15 => (Ci mX9_of d [.ref 120, .int x1, .int 4] mem15 (fun r18 mem17 => ((r18 = 0 → P 0 mem17) ∧ (¬ r18 = 0 → (Ci mX9_isWagon d [.ref 120, .int r16] mem17 (fun r21 mem20 => ((¬ r21 = 0 → (Ci mX9_of d [.ref 120, .int x1, .int 2] mem20 (fun r24 mem23 => (Ci mX9_of d [.ref 120, .int x1, .int 3] mem23 (fun r26 mem25 => (∀ x3_27 : Int32, x3_27 = (r24 - (r26 / 10)) → ((0 ≤ x3_27 → Vw (Ni (d + 1) P) mX9_sees 52 [(0, .ref 120), (1, .int x1), (2, .int r16)] [.int x3_27] mem25) ∧ (¬ 0 ≤ x3_27 → Vw (Ni (d + 1) P) mX9_sees 52 [(0, .ref 120), (1, .int x1), (2, .int r16)] [.int 0] mem25)))))))) ∧ (r21 = 0 → P 0 mem20))))))))))) :
    Ci mX9_sees (d + 1) [.ref 120, .int x1] mem P := Cw_of rfl (Nat.le_of_ble_eq_true rfl) rfl (b_X9_sees_0 mem x1 h)
set_option maxRecDepth 20000 in
theorem E_X9_worth {d : Nat} {P : Int32 → wf_Mem → Prop} {mem : wf_Mem} (x1 : Int32)
    (h : (Ci mX9_of d [.ref 120, .int x1, .int 2] mem (fun r11 mem10 => (Ci mX9_of d [.ref 120, .int x1, .int 0] mem10 (fun r13 mem12 => ((r13 = 1 → P (r11 + 4) mem12) ∧ (¬ r13 = 1 → ((r13 = 2 → P (20 - r11) mem12) ∧ (¬ r13 = 2 → ((r13 = 3 → P (2 * (r11 + 4)) mem12) ∧ (¬ r13 = 3 → ((r13 = 4 → P (29 - r11) mem12) ∧ (¬ r13 = 4 → ((r13 = 5 → P 2 mem12) ∧ (¬ r13 = 5 → P r11 mem12))))))))))))))) :
    Ci mX9_worth (d + 1) [.ref 120, .int x1] mem P := Cw_of rfl (Nat.le_of_ble_eq_true rfl) rfl (b_X9_worth_0 mem x1 h)
set_option maxRecDepth 20000 in
theorem E_X9_guard {d : Nat} {P : Int32 → wf_Mem → Prop} {mem : wf_Mem} (x1 : Int32)
    (h : (Ci mX9_light d [.ref 120, .int x1] mem (fun r4 mem3 => Vw (Ni (d + 1) P) mX9_guard 8 [(0, .ref 120), (1, .int x1), (2, .int r4), (3, .int 0)] [] mem3))) :
    Ci mX9_guard (d + 1) [.ref 120, .int x1] mem P := Cw_of rfl (Nat.le_of_ble_eq_true rfl) rfl (b_X9_guard_0 mem x1 h)
set_option maxRecDepth 20000 in
theorem E_X9_fears {d : Nat} {P : Int32 → wf_Mem → Prop} {mem : wf_Mem} (x1 : Int32)
    (h : (Ci mX9_guard d [.ref 120, .int x1] mem (fun r18 mem17 => (Ci mX9_counts d [.ref 120, .int 1] mem17 (fun r20 mem19 => ((0 ≤ r20 → (∀ mem22 : wf_Mem, mem22 = wf_ms mem19 134 103 r18 → (Ci mX9_wagonsOwn d [.ref 120, .int x1, .int 2] mem22 (fun r24 mem23 => (∀ mem25 : wf_Mem, mem25 = wf_ms mem23 134 116 r24 → (∀ mem26 : wf_Mem, mem26 = wf_ms mem25 134 104 (mem25 121 5) → (Ci mX9_worked d [.ref 120, .int r20] mem26 (fun r28 mem27 => (Ci mX9_within d [.int r28, .int 999] mem27 (fun r30 mem29 => P r30 mem29)))))))))) ∧ (¬ 0 ≤ r20 → (Ci mX9_wagonsOwn d [.ref 120, .int x1, .int 2] mem19 (fun r32 mem31 => P (r18 + r32) mem31))))))))) :
    Ci mX9_fears (d + 1) [.ref 120, .int x1] mem P := Cw_of rfl (Nat.le_of_ble_eq_true rfl) rfl (b_X9_fears_0 mem x1 h)
set_option maxRecDepth 20000 in
theorem E_X9_at {d : Nat} {P : Int32 → wf_Mem → Prop} {mem : wf_Mem} (x1 : Int32) (x2 : Int32)
    (h : (Ci mX9_isWagon d [.ref 120, .int x1] mem (fun r23 mem22 => ((¬ r23 = 0 → ((x2 = 0 → (Ci mX9_wagonsOwn d [.ref 120, .int x1, .int x2] mem22 (fun r27 mem26 => P r27 mem26))) ∧ (¬ x2 = 0 → ((x2 = 1 → (Ci mX9_wagonsOwn d [.ref 120, .int x1, .int x2] mem22 (fun r30 mem29 => P r30 mem29))) ∧ (¬ x2 = 1 → ((x2 = 2 → (Ci mX9_wagonsOwn d [.ref 120, .int x1, .int x2] mem22 (fun r33 mem32 => P r33 mem32))) ∧ (¬ x2 = 2 → ((x2 = 3 → (Ci mX9_light d [.ref 120, .int x1] mem22 (fun r36 mem35 => P r36 mem35))) ∧ (¬ x2 = 3 → ((x2 = 4 → (Ci mX9_guard d [.ref 120, .int x1] mem22 (fun r39 mem38 => P r39 mem38))) ∧ (¬ x2 = 4 → ((x2 = 5 → (Ci mX9_fears d [.ref 120, .int x1] mem22 (fun r42 mem41 => P r42 mem41))) ∧ (¬ x2 = 5 → P (-1000000001) mem22))))))))))))) ∧ (r23 = 0 → P (-1000000001) mem22))))) :
    Ci mX9_at (d + 1) [.ref 120, .int x1, .int x2] mem P := Cw_of rfl (Nat.le_of_ble_eq_true rfl) rfl (b_X9_at_0 mem x1 x2 h)
set_option maxRecDepth 20000 in
theorem E_X9_lays {d : Nat} {P : Int32 → wf_Mem → Prop} {mem : wf_Mem} (x1 : Int32) (x2 : Int32) (x3 : Int32)
    (h : (Ci mX9_isWagon d [.ref 120, .int x1] mem (fun r9 mem8 => ((r9 = 0 → P (-1000000001) mem8) ∧ (¬ r9 = 0 → (Ci mX9_isIn d [.long (x2 : Int32).toInt64, .long 0, .long 2] mem8 (fun r12 mem11 => ((r12 = 0 → P (-1000000001) mem11) ∧ (¬ r12 = 0 → ((¬ x2 = 1 → Vw (Ni (d + 1) P) mX9_lays 37 [(0, .ref 120), (1, .int x1), (2, .int x2), (3, .int x3)] [.long 99, .long 0, .long (x3 : Int32).toInt64] mem11) ∧ (x2 = 1 → Vw (Ni (d + 1) P) mX9_lays 37 [(0, .ref 120), (1, .int x1), (2, .int x2), (3, .int x3)] [.long 9, .long 0, .long (x3 : Int32).toInt64] mem11))))))))))) :
    Ci mX9_lays (d + 1) [.ref 120, .int x1, .int x2, .int x3] mem P := Cw_of rfl (Nat.le_of_ble_eq_true rfl) rfl (b_X9_lays_0 mem x1 x2 x3 h)
set_option maxRecDepth 20000 in
theorem E_X9_far {d : Nat} {P : Int32 → wf_Mem → Prop} {mem : wf_Mem} (x1 : Int32) (x2 : Int32)
    (h : (Ci mX9_isWagon d [.ref 120, .int x1] mem (fun r11 mem10 => ((r11 = 0 → P (-1000000001) mem10) ∧ (¬ r11 = 0 → (Ci mX9_isWagon d [.ref 120, .int x2] mem10 (fun r14 mem13 => ((¬ r14 = 0 → (Ci mX9_off d [.int x1, .int x2] mem13 (fun r17 mem16 => ((((mem16 121 0) - r17) ≤ r17 → P ((mem16 121 0) - r17) mem16) ∧ (¬ ((mem16 121 0) - r17) ≤ r17 → P r17 mem16))))) ∧ (r14 = 0 → P (-1000000001) mem13))))))))) :
    Ci mX9_far (d + 1) [.ref 120, .int x1, .int x2] mem P := Cw_of rfl (Nat.le_of_ble_eq_true rfl) rfl (b_X9_far_0 mem x1 x2 h)
set_option maxRecDepth 20000 in
theorem E_X9_plain {d : Nat} {P : Int32 → wf_Mem → Prop} {mem : wf_Mem} (x1 : Int32) (x2 : Int32)
    (h : (Ci mX9_isIn d [.long (x1 : Int32).toInt64, .long 0, .long 2] mem (fun r6 mem5 => ((r6 = 0 → P (-1000000001) mem5) ∧ (¬ r6 = 0 → ((¬ x1 = 0 → Vw (Ni (d + 1) P) mX9_plain 28 [(0, .ref 120), (1, .int x1), (2, .int x2)] [.long 99, .long 0, .long (x2 : Int32).toInt64] mem5) ∧ (x1 = 0 → Vw (Ni (d + 1) P) mX9_plain 28 [(0, .ref 120), (1, .int x1), (2, .int x2)] [.long 9999, .long 0, .long (x2 : Int32).toInt64] mem5))))))) :
    Ci mX9_plain (d + 1) [.ref 120, .int x1, .int x2] mem P := Cw_of rfl (Nat.le_of_ble_eq_true rfl) rfl (b_X9_plain_0 mem x1 x2 h)
set_option maxRecDepth 20000 in
theorem E_X9_comes {d : Nat} {P : wf_Mem → Prop} {mem : wf_Mem} (x1 : Int32) (x2 : Int32) (x3 : Int32)
    (h : (∀ x4_8 : Int32, x4_8 = (48 + (5 * (mem 121 1))) → (vp_in x4_8 3088 ∧ ∀ mem9 : wf_Mem, mem9 = wf_ms mem 121 x4_8.toNatClampNeg x1 → (vp_in (x4_8 + 1) 3088 ∧ ∀ mem10 : wf_Mem, mem10 = wf_ms mem9 121 (x4_8 + 1).toNatClampNeg x2 → (vp_in (x4_8 + 2) 3088 ∧ ∀ mem11 : wf_Mem, mem11 = wf_ms mem10 121 (x4_8 + 2).toNatClampNeg x3 → (vp_in (x4_8 + 3) 3088 ∧ ∀ mem12 : wf_Mem, mem12 = wf_ms mem11 121 (x4_8 + 3).toNatClampNeg 0 → (vp_in (x4_8 + 4) 3088 ∧ ∀ mem13 : wf_Mem, mem13 = wf_ms mem12 121 (x4_8 + 4).toNatClampNeg 0 → (∀ mem14 : wf_Mem, mem14 = wf_ms mem13 121 1 ((mem13 121 1) + 1) → P mem14)))))))) :
    Cv mX9_comes d [.ref 120, .int x1, .int x2, .int x3] mem P := Cw_of rfl (Nat.le_of_ble_eq_true rfl) rfl (b_X9_comes_0 mem x1 x2 x3 h)
set_option maxRecDepth 20000 in
theorem E_X9_watcher {d : Nat} {P : Int32 → wf_Mem → Prop} {mem : wf_Mem} (x1 : Int32) (x2 : Int32) (x3 : Int32)
    (h : (Ci mX9_isIn d [.long (x1 : Int32).toInt64, .long 0, .long 5] mem (fun r13 mem12 => ((r13 = 0 → P (-1000000001) mem12) ∧ (¬ r13 = 0 → (Ci mX9_isIn d [.long (x2 : Int32).toInt64, .long 0, .long 11] mem12 (fun r16 mem15 => ((r16 = 0 → P (-1000000001) mem15) ∧ (¬ r16 = 0 → (Ci mX9_isIn d [.long (x3 : Int32).toInt64, .long 1, .long 9] mem15 (fun r19 mem18 => ((¬ r19 = 0 → ((¬ (mem18 121 1) = 8 → (Cv mX9_comes d [.ref 120, .int x1, .int x2, .int x3] mem18 (fun mem22 => P ((mem22 121 1) - 1) mem22))) ∧ ((mem18 121 1) = 8 → P (-1000000003) mem18))) ∧ (r19 = 0 → P (-1000000001) mem18))))))))))))) :
    Ci mX9_watcher (d + 1) [.ref 120, .int x1, .int x2, .int x3] mem P := Cw_of rfl (Nat.le_of_ble_eq_true rfl) rfl (b_X9_watcher_0 mem x1 x2 x3 h)
set_option maxRecDepth 20000 in
theorem E_X9_told {d : Nat} {P : Int32 → wf_Mem → Prop} {mem : wf_Mem} (x1 : Int32) (x2 : Int32)
    (h : (Ci mX9_isWatcher d [.ref 120, .int x1] mem (fun r16 mem15 => ((r16 = 0 → P (-1000000001) mem15) ∧ (¬ r16 = 0 → (Ci mX9_isIn d [.long (x2 : Int32).toInt64, .long 0, .long 6] mem15 (fun r19 mem18 => ((¬ r19 = 0 → ((5 ≤ x2 → ((¬ x2 = 5 → (Ci mX9_worth d [.ref 120, .int x1] mem18 (fun r24 mem23 => P r24 mem23))) ∧ (x2 = 5 → (Ci mX9_sees d [.ref 120, .int x1] mem18 (fun r26 mem25 => P r26 mem25))))) ∧ (¬ 5 ≤ x2 → (Ci mX9_of d [.ref 120, .int x1, .int x2] mem18 (fun r28 mem27 => P r28 mem27))))) ∧ (r19 = 0 → P (-1000000001) mem18))))))))) :
    Ci mX9_told (d + 1) [.ref 120, .int x1, .int x2] mem P := Cw_of rfl (Nat.le_of_ble_eq_true rfl) rfl (b_X9_told_0 mem x1 x2 h)
set_option maxRecDepth 20000 in
theorem E_X9_isOf {d : Nat} {P : Int32 → wf_Mem → Prop} {mem : wf_Mem} (x0 : Int32) (x1 : Int32)
    (h : ((x0 = x1 → P 1 mem) ∧ (¬ x0 = x1 → ((x1 = 0 → P 1 mem) ∧ (¬ x1 = 0 → ((¬ x1 = 1 → ((¬ x1 = 2 → P 0 mem) ∧ (x1 = 2 → ((¬ x0 = 4 → P 0 mem) ∧ (x0 = 4 → P 1 mem))))) ∧ (x1 = 1 → ((x0 = 3 → P 1 mem) ∧ (¬ x0 = 3 → ((¬ x1 = 2 → P 0 mem) ∧ (x1 = 2 → ((¬ x0 = 4 → P 0 mem) ∧ (x0 = 4 → P 1 mem))))))))))))) :
    Ci mX9_isOf d [.int x0, .int x1] mem P := Cw_of rfl (Nat.le_of_ble_eq_true rfl) rfl (b_X9_isOf_0 mem x0 x1 h)
set_option maxRecDepth 20000 in
theorem E_X9_as {d : Nat} {P : Int32 → wf_Mem → Prop} {mem : wf_Mem} (x1 : Int32) (x2 : Int32)
    (h : (Ci mX9_isWatcher d [.ref 120, .int x1] mem (fun r15 mem14 => ((r15 = 0 → P (-1000000001) mem14) ∧ (¬ r15 = 0 → (Ci mX9_isIn d [.long (x2 : Int32).toInt64, .long 0, .long 5] mem14 (fun r18 mem17 => ((¬ r18 = 0 → (Ci mX9_of d [.ref 120, .int x1, .int 0] mem17 (fun r21 mem20 => (Ci mX9_isOf d [.int r21, .int x2] mem20 (fun r23 mem22 => ((r23 = 0 → P (-1000000012) mem22) ∧ (¬ r23 = 0 → (Ci mX9_of d [.ref 120, .int x1, .int 2] mem22 (fun r26 mem25 => P r26 mem25))))))))) ∧ (r18 = 0 → P (-1000000001) mem17))))))))) :
    Ci mX9_as (d + 1) [.ref 120, .int x1, .int x2] mem P := Cw_of rfl (Nat.le_of_ble_eq_true rfl) rfl (b_X9_as_0 mem x1 x2 h)
set_option maxRecDepth 20000 in
theorem E_X9_turns {d : Nat} {P : Int32 → wf_Mem → Prop} {mem : wf_Mem} (x1 : Int32) (x2 : Int32)
    (h : (Ci mX9_isWatcher d [.ref 120, .int x1] mem (fun r10 mem9 => ((r10 = 0 → P (-1000000001) mem9) ∧ (¬ r10 = 0 → (Ci mX9_isIn d [.long (x2 : Int32).toInt64, .long 0, .long 5] mem9 (fun r13 mem12 => ((r13 = 0 → P (-1000000001) mem12) ∧ (¬ r13 = 0 → (Ci mX9_becomes d [.ref 120, .int (48 + (5 * x1)), .int x2] mem12 (fun r16 mem15 => P r16 mem15))))))))))) :
    Ci mX9_turns (d + 1) [.ref 120, .int x1, .int x2] mem P := Cw_of rfl (Nat.le_of_ble_eq_true rfl) rfl (b_X9_turns_0 mem x1 x2 h)
set_option maxRecDepth 20000 in
theorem E_X9_mayBe {d : Nat} {P : Int32 → wf_Mem → Prop} {mem : wf_Mem} (x0 : Int32) (x1 : Int32)
    (h : ((x0 = 1 → (Ci mX9_isIn d [.long (x1 : Int32).toInt64, .long 0, .long 11] mem (fun r15 mem14 => ((r15 = 0 ∨ r15 = 1) ∧ P r15 mem14)))) ∧ (¬ x0 = 1 → ((x0 = 2 → (Ci mX9_isIn d [.long (x1 : Int32).toInt64, .long 1, .long 9] mem (fun r18 mem17 => ((r18 = 0 ∨ r18 = 1) ∧ P r18 mem17)))) ∧ (¬ x0 = 2 → ((x0 = 3 → (Ci mX9_isIn d [.long (x1 : Int32).toInt64, .long 0, .long 999] mem (fun r21 mem20 => ((r21 = 0 ∨ r21 = 1) ∧ P r21 mem20)))) ∧ (¬ x0 = 3 → ((x0 = 4 → (Ci mX9_isIn d [.long (x1 : Int32).toInt64, .long 0, .long 1] mem (fun r24 mem23 => ((r24 = 0 ∨ r24 = 1) ∧ P r24 mem23)))) ∧ (¬ x0 = 4 → P 0 mem))))))))) :
    Ci mX9_mayBe (d + 1) [.int x0, .int x1] mem P := Cw_of rfl (Nat.le_of_ble_eq_true rfl) rfl (b_X9_mayBe_0 mem x0 x1 h)
set_option maxRecDepth 20000 in
theorem E_X9_set {d : Nat} {P : Int32 → wf_Mem → Prop} {mem : wf_Mem} (x1 : Int32) (x2 : Int32) (x3 : Int32)
    (h : (Ci mX9_isWatcher d [.ref 120, .int x1] mem (fun r10 mem9 => ((r10 = 0 → P (-1000000001) mem9) ∧ (¬ r10 = 0 → (Ci mX9_mayBe d [.int x2, .int x3] mem9 (fun r13 mem12 => ((r13 = 0 → P (-1000000001) mem12) ∧ (¬ r13 = 0 → (Ci mX9_becomes d [.ref 120, .int ((48 + (5 * x1)) + x2), .int x3] mem12 (fun r16 mem15 => P r16 mem15))))))))))) :
    Ci mX9_set (d + 1) [.ref 120, .int x1, .int x2, .int x3] mem P := Cw_of rfl (Nat.le_of_ble_eq_true rfl) rfl (b_X9_set_0 mem x1 x2 x3 h)
set_option maxRecDepth 20000 in
theorem E_X9_deal {d : Nat} {P : Int32 → wf_Mem → Prop} {mem : wf_Mem} (x1 : Int32)
    (h : (Ci mX9_isIn d [.long (x1 : Int32).toInt64, .long 1, .long 8] mem (fun r5 mem4 => ((¬ r5 = 0 → Vw (Ni (d + 1) P) mX9_deal 17 [(0, .ref 120), (1, .int x1), (2, .int 0)] [] mem4) ∧ (r5 = 0 → P (-1000000001) mem4))))) :
    Ci mX9_deal (d + 1) [.ref 120, .int x1] mem P := Cw_of rfl (Nat.le_of_ble_eq_true rfl) rfl (b_X9_deal_0 mem x1 h)
set_option maxRecDepth 20000 in
theorem E_X9_seed {d : Nat} {P : Int32 → wf_Mem → Prop} {mem : wf_Mem} (x1 : Int32)
    (h : (Ci mX9_becomes d [.ref 120, .int 10, .int x1] mem (fun r4 mem3 => P r4 mem3))) :
    Ci mX9_seed (d + 1) [.ref 120, .int x1] mem P := Cw_of rfl (Nat.le_of_ble_eq_true rfl) rfl (b_X9_seed_0 mem x1 h)
set_option maxRecDepth 20000 in
theorem E_X9_comeTo {d : Nat} {P : Int32 → wf_Mem → Prop} {mem : wf_Mem} 
    (h : Vw (Ni (d + 1) P) mX9_comeTo 6 [(0, .ref 120), (1, .int (-1)), (2, .int 0), (3, .int 0)] [] mem) :
    Ci mX9_comeTo (d + 1) [.ref 120] mem P := Cw_of rfl (Nat.le_of_ble_eq_true rfl) rfl (b_X9_comeTo_0 mem  h)
set_option maxRecDepth 20000 in
theorem E_X9_burns {d : Nat} {P : wf_Mem → Prop} {mem : wf_Mem} 
    (h : (∀ mem2 : wf_Mem, mem2 = wf_ms mem 120 12 0 → Vw (Nv (d + 1) P) mX9_burns 7 [(0, .ref 120), (1, .int 0)] [] mem2)) :
    Cv mX9_burns (d + 1) [.ref 120] mem P := Cw_of rfl (Nat.le_of_ble_eq_true rfl) rfl (b_X9_burns_0 mem  h)
set_option maxRecDepth 20000 in
theorem E_X9_comeAndTake {d : Nat} {P : wf_Mem → Prop} {mem : wf_Mem} 
    (h : (Ci mX9_comeTo d [.ref 120] mem (fun r15 mem14 => (∀ mem16 : wf_Mem, mem16 = wf_ms mem14 120 13 r15 → ((0 ≤ (mem16 120 13) → (∀ x1_18 : Int32, x1_18 = (12 + (3 * (mem16 120 13))) → (Ci mX9_guard d [.ref 120, .int (mem16 120 13)] mem16 (fun r20 mem19 => ((((mem19 121 4) + (mem19 121 5)) ≤ r20 → Vw (Nv (d + 1) P) mX9_comeAndTake 99 [(0, .ref 120), (1, .int x1_18)] [] mem19) ∧ (¬ ((mem19 121 4) + (mem19 121 5)) ≤ r20 → (vp_in x1_18 3088 ∧ (((mem19 121 x1_18.toNatClampNeg) ≤ 0 → Vw (Nv (d + 1) P) mX9_comeAndTake 99 [(0, .ref 120), (1, .int x1_18)] [] mem19) ∧ (¬ (mem19 121 x1_18.toNatClampNeg) ≤ 0 → (vp_in x1_18 3088 ∧ (vp_in x1_18 3088 ∧ ∀ mem23 : wf_Mem, mem23 = wf_ms mem19 121 x1_18.toNatClampNeg ((mem19 121 x1_18.toNatClampNeg) - 1) → (∀ mem24 : wf_Mem, mem24 = wf_ms mem23 121 8 ((mem23 121 8) + 1) → (∀ mem25 : wf_Mem, mem25 = wf_ms mem24 121 5 0 → (vp_in (x1_18 + 2) 3088 ∧ ∀ mem26 : wf_Mem, mem26 = wf_ms mem25 121 (x1_18 + 2).toNatClampNeg 0 → P mem26)))))))))))))) ∧ (¬ 0 ≤ (mem16 120 13) → P mem16)))))) :
    Cv mX9_comeAndTake (d + 1) [.ref 120] mem P := Cw_of rfl (Nat.le_of_ble_eq_true rfl) rfl (b_X9_comeAndTake_0 mem  h)
set_option maxRecDepth 20000 in
theorem E_X9_tires {d : Nat} {P : Int32 → wf_Mem → Prop} {mem : wf_Mem} (x1 : Int32)
    (h : (Ci mX9_counts d [.ref 120, .int 2] mem (fun r15 mem14 => ((0 ≤ r15 → (Ci mX9_of d [.ref 120, .int x1, .int 3] mem14 (fun r18 mem17 => (∀ mem19 : wf_Mem, mem19 = wf_ms mem17 134 116 r18 → (Ci mX9_of d [.ref 120, .int x1, .int 2] mem19 (fun r21 mem20 => (∀ mem22 : wf_Mem, mem22 = wf_ms mem20 134 101 r21 → (Ci mX9_worked d [.ref 120, .int r15] mem22 (fun r24 mem23 => (Ci mX9_within d [.int r24, .int 99] mem23 (fun r26 mem25 => P r26 mem25))))))))))) ∧ (¬ 0 ≤ r15 → P 1 mem14))))) :
    Ci mX9_tires (d + 1) [.ref 120, .int x1] mem P := Cw_of rfl (Nat.le_of_ble_eq_true rfl) rfl (b_X9_tires_0 mem x1 h)
set_option maxRecDepth 20000 in
theorem E_X9_goesOn {d : Nat} {P : wf_Mem → Prop} {mem : wf_Mem} 
    (h : (Cv mX9_burns d [.ref 120] mem (fun mem3 => (Cv mX9_comeAndTake d [.ref 120] mem3 (fun mem4 => Vw (Nv (d + 1) P) mX9_goesOn 10 [(0, .ref 120), (1, .int 0)] [] mem4))))) :
    Cv mX9_goesOn (d + 1) [.ref 120] mem P := Cw_of rfl (Nat.le_of_ble_eq_true rfl) rfl (b_X9_goesOn_0 mem  h)
set_option maxRecDepth 20000 in
theorem E_X9_hours {d : Nat} {P : Int32 → wf_Mem → Prop} {mem : wf_Mem} (x1 : Int32)
    (h : (Ci mX9_isIn d [.long (x1 : Int32).toInt64, .long 1, .long 300] mem (fun r6 mem5 => ((¬ r6 = 0 → (∀ x2_8 : Int32, x2_8 = (mem5 121 8) → Vw (Ni (d + 1) P) mX9_hours 25 [(0, .ref 120), (1, .int x1), (2, .int x2_8), (3, .int 0)] [] mem5)) ∧ (r6 = 0 → P (-1000000001) mem5))))) :
    Ci mX9_hours (d + 1) [.ref 120, .int x1] mem P := Cw_of rfl (Nat.le_of_ble_eq_true rfl) rfl (b_X9_hours_0 mem x1 h)
set_option maxRecDepth 20000 in
theorem E_X9_night {d : Nat} {P : Int32 → wf_Mem → Prop} {mem : wf_Mem} (x1 : Int32)
    (h : ((x1 = 0 → P (mem 121 8) mem) ∧ (¬ x1 = 0 → ((x1 = 1 → P (mem 121 7) mem) ∧ (¬ x1 = 1 → ((x1 = 2 → P (mem 121 9) mem) ∧ (¬ x1 = 2 → ((x1 = 3 → (Ci mX9_comeTo d [.ref 120] mem (fun r14 mem13 => (Ci mX9_orNone d [.int r14] mem13 (fun r16 mem15 => P r16 mem15))))) ∧ (¬ x1 = 3 → P (-1000000001) mem))))))))) :
    Ci mX9_night (d + 1) [.ref 120, .int x1] mem P := Cw_of rfl (Nat.le_of_ble_eq_true rfl) rfl (b_X9_night_0 mem x1 h)
set_option maxRecDepth 20000 in
theorem E_X9_allFoals {d : Nat} {P : Int32 → wf_Mem → Prop} {mem : wf_Mem} 
    (h : Vw (Ni (d + 1) P) mX9_allFoals 4 [(0, .ref 120), (1, .int 0), (2, .int 0)] [] mem) :
    Ci mX9_allFoals (d + 1) [.ref 120] mem P := Cw_of rfl (Nat.le_of_ble_eq_true rfl) rfl (b_X9_allFoals_0 mem  h)
set_option maxRecDepth 20000 in
theorem E_X9_laysBy {d : Nat} {P : wf_Mem → Prop} {mem : wf_Mem} 
    (h : Vw (Nv d P) mX9_laysBy 2 [(0, .ref 120), (1, .int 0)] [] mem) :
    Cv mX9_laysBy d [.ref 120] mem P := Cw_of rfl (Nat.le_of_ble_eq_true rfl) rfl (b_X9_laysBy_0 mem  h)
set_option maxRecDepth 20000 in
theorem E_X9_laysBack {d : Nat} {P : wf_Mem → Prop} {mem : wf_Mem} 
    (h : Vw (Nv d P) mX9_laysBack 2 [(0, .ref 120), (1, .int 0)] [] mem) :
    Cv mX9_laysBack d [.ref 120] mem P := Cw_of rfl (Nat.le_of_ble_eq_true rfl) rfl (b_X9_laysBack_0 mem  h)
set_option maxRecDepth 20000 in
theorem E_X9_goesOnMany {d : Nat} {P : wf_Mem → Prop} {mem : wf_Mem} (x1 : Int32)
    (h : Vw (Nv (d + 1) P) mX9_goesOnMany 2 [(0, .ref 120), (1, .int x1), (2, .int 0)] [] mem) :
    Cv mX9_goesOnMany (d + 1) [.ref 120, .int x1] mem P := Cw_of rfl (Nat.le_of_ble_eq_true rfl) rfl (b_X9_goesOnMany_0 mem x1 h)
set_option maxRecDepth 20000 in
theorem E_X9_behind {d : Nat} {P : Int32 → wf_Mem → Prop} {mem : wf_Mem} (x1 : Int32) (x2 : Int32)
    (h : (Ci mX9_isIn d [.long (x1 : Int32).toInt64, .long 0, .long 300] mem (fun r22 mem21 => ((r22 = 0 → P (-1000000001) mem21) ∧ (¬ r22 = 0 → (Ci mX9_isIn d [.long (x2 : Int32).toInt64, .long 0, .long 3] mem21 (fun r25 mem24 => ((¬ r25 = 0 → (Cv mX9_laysBy d [.ref 120] mem24 (fun mem27 => (Cv mX9_goesOnMany d [.ref 120, .int x1] mem27 (fun mem28 => ((¬ x2 = 0 → ((¬ x2 = 1 → ((¬ x2 = 2 → (Ci mX9_allFoals d [.ref 120] mem28 (fun r33 mem32 => (Cv mX9_laysBack d [.ref 120] mem32 (fun mem34 => P r33 mem34))))) ∧ (x2 = 2 → (∀ x3_35 : Int32, x3_35 = (mem28 121 5) → (Cv mX9_laysBack d [.ref 120] mem28 (fun mem36 => P x3_35 mem36)))))) ∧ (x2 = 1 → (∀ x3_37 : Int32, x3_37 = (mem28 121 3) → (Cv mX9_laysBack d [.ref 120] mem28 (fun mem38 => P x3_37 mem38)))))) ∧ (x2 = 0 → (∀ x3_39 : Int32, x3_39 = (mem28 121 8) → (Cv mX9_laysBack d [.ref 120] mem28 (fun mem40 => P x3_39 mem40)))))))))) ∧ (r25 = 0 → P (-1000000001) mem24))))))))) :
    Ci mX9_behind (d + 1) [.ref 120, .int x1, .int x2] mem P := Cw_of rfl (Nat.le_of_ble_eq_true rfl) rfl (b_X9_behind_0 mem x1 x2 h)
set_option maxRecDepth 20000 in
theorem E_X9_lasts {d : Nat} {P : Int32 → wf_Mem → Prop} {mem : wf_Mem} 
    (h : (Cv mX9_laysBy d [.ref 120] mem (fun mem2 => Vw (Ni (d + 1) P) mX9_lasts 8 [(0, .ref 120), (1, .int (-1)), (2, .int 1)] [] mem2))) :
    Ci mX9_lasts (d + 1) [.ref 120] mem P := Cw_of rfl (Nat.le_of_ble_eq_true rfl) rfl (b_X9_lasts_0 mem  h)
set_option maxRecDepth 20000 in
theorem E_X9_loss {d : Nat} {P : Int32 → wf_Mem → Prop} {mem : wf_Mem} 
    (h : (Cv mX9_laysBy d [.ref 120] mem (fun mem2 => Vw (Ni (d + 1) P) mX9_loss 8 [(0, .ref 120), (1, .int (-1)), (2, .int 1)] [] mem2))) :
    Ci mX9_loss (d + 1) [.ref 120] mem P := Cw_of rfl (Nat.le_of_ble_eq_true rfl) rfl (b_X9_loss_0 mem  h)
set_option maxRecDepth 20000 in
theorem E_X9_dark {d : Nat} {P : Int32 → wf_Mem → Prop} {mem : wf_Mem} (x1 : Int32)
    (h : (Ci mX9_isIn d [.long (x1 : Int32).toInt64, .long 0, .long 100] mem (fun r5 mem4 => ((¬ r5 = 0 → Vw (Ni (d + 1) P) mX9_dark 19 [(0, .ref 120), (1, .int x1), (2, .int 0), (3, .int 0)] [] mem4) ∧ (r5 = 0 → P (-1000000001) mem4))))) :
    Ci mX9_dark (d + 1) [.ref 120, .int x1] mem P := Cw_of rfl (Nat.le_of_ble_eq_true rfl) rfl (b_X9_dark_0 mem x1 h)
set_option maxRecDepth 20000 in
theorem E_X9_laysFires {d : Nat} {P : Int32 → wf_Mem → Prop} {mem : wf_Mem} (x1 : Int32)
    (h : Vw (Ni d P) mX9_laysFires 4 [(0, .ref 120), (1, .int x1), (2, .int 0), (3, .int 0)] [] mem) :
    Ci mX9_laysFires d [.ref 120, .int x1] mem P := Cw_of rfl (Nat.le_of_ble_eq_true rfl) rfl (b_X9_laysFires_0 mem x1 h)
set_option maxRecDepth 20000 in
theorem E_X9_leastLight {d : Nat} {P : Int32 → wf_Mem → Prop} {mem : wf_Mem} 
    (h : Vw (Ni (d + 1) P) mX9_leastLight 6 [(0, .ref 120), (1, .int 1000), (2, .int 0)] [] mem) :
    Ci mX9_leastLight (d + 1) [.ref 120] mem P := Cw_of rfl (Nat.le_of_ble_eq_true rfl) rfl (b_X9_leastLight_0 mem  h)
set_option maxRecDepth 20000 in
theorem E_X9_fires {d : Nat} {P : Int32 → wf_Mem → Prop} {mem : wf_Mem} (x1 : Int32) (x2 : Int32)
    (h : (Ci mX9_isIn d [.long (x1 : Int32).toInt64, .long 0, .long 18] mem (fun r11 mem10 => ((r11 = 0 → P (-1000000001) mem10) ∧ (¬ r11 = 0 → (Ci mX9_isIn d [.long (x2 : Int32).toInt64, .long 0, .long 2] mem10 (fun r14 mem13 => ((¬ r14 = 0 → (((mem13 121 0) = 0 → P (-1000000005) mem13) ∧ (¬ (mem13 121 0) = 0 → (((mem13 121 0) ≤ 6 → (Cv mX9_laysBy d [.ref 120] mem13 (fun mem18 => Vw (Ni (d + 1) P) mX9_fires 65 [(0, .ref 120), (1, .int x1), (2, .int x2), (3, .int 0), (4, .int (-1)), (5, .int 0), (6, .int 0)] [] mem18))) ∧ (¬ (mem13 121 0) ≤ 6 → P (-1000000005) mem13))))) ∧ (r14 = 0 → P (-1000000001) mem13))))))))) :
    Ci mX9_fires (d + 1) [.ref 120, .int x1, .int x2] mem P := Cw_of rfl (Nat.le_of_ble_eq_true rfl) rfl (b_X9_fires_0 mem x1 x2 h)
set_option maxRecDepth 20000 in
theorem E_X9_watch {d : Nat} {P : Int32 → wf_Mem → Prop} {mem : wf_Mem} (x1 : Int32) (x2 : Int32)
    (h : (Ci mX9_isIn d [.long (x1 : Int32).toInt64, .long 1, .long 60] mem (fun r9 mem8 => ((r9 = 0 → P (-1000000001) mem8) ∧ (¬ r9 = 0 → (Ci mX9_isIn d [.long (x2 : Int32).toInt64, .long 0, .long 1] mem8 (fun r12 mem11 => ((¬ r12 = 0 → (Cv mX9_laysBy d [.ref 120] mem11 (fun mem14 => Vw (Ni (d + 1) P) mX9_watch 37 [(0, .ref 120), (1, .int x1), (2, .int x2), (3, .int (-1)), (4, .int 0), (5, .int 0)] [] mem14))) ∧ (r12 = 0 → P (-1000000001) mem11))))))))) :
    Ci mX9_watch (d + 1) [.ref 120, .int x1, .int x2] mem P := Cw_of rfl (Nat.le_of_ble_eq_true rfl) rfl (b_X9_watch_0 mem x1 x2 h)
set_option maxRecDepth 20000 in
theorem E_X9_place {d : Nat} {P : Int32 → wf_Mem → Prop} {mem : wf_Mem} (x1 : Int32) (x2 : Int32)
    (h : (Ci mX9_isWatcher d [.ref 120, .int x1] mem (fun r9 mem8 => ((r9 = 0 → P (-1000000001) mem8) ∧ (¬ r9 = 0 → (Ci mX9_isIn d [.long (x2 : Int32).toInt64, .long 1, .long 60] mem8 (fun r12 mem11 => ((¬ r12 = 0 → (Cv mX9_laysBy d [.ref 120] mem11 (fun mem14 => Vw (Ni (d + 1) P) mX9_place 35 [(0, .ref 120), (1, .int x1), (2, .int x2), (3, .int (-1)), (4, .int 0), (5, .int 0)] [] mem14))) ∧ (r12 = 0 → P (-1000000001) mem11))))))))) :
    Ci mX9_place (d + 1) [.ref 120, .int x1, .int x2] mem P := Cw_of rfl (Nat.le_of_ble_eq_true rfl) rfl (b_X9_place_0 mem x1 x2 h)
set_option maxRecDepth 20000 in
theorem E_X9_feed {d : Nat} {P : Int32 → wf_Mem → Prop} {mem : wf_Mem} (x1 : Int32) (x2 : Int32) (x3 : Int32)
    (h : ((((mem 120 16) + 12) ≤ 96 → Vw (Ni d P) mX9_feed 18 [(0, .ref 120), (1, .int x1), (2, .int x2), (3, .int x3), (4, .int 0)] [] mem) ∧ (¬ ((mem 120 16) + 12) ≤ 96 → P (-1000000003) mem))) :
    Ci mX9_feed d [.ref 120, .int x1, .int x2, .int x3] mem P := Cw_of rfl (Nat.le_of_ble_eq_true rfl) rfl (b_X9_feed_0 mem x1 x2 x3 h)
set_option maxRecDepth 20000 in
theorem E_X9_trim {d : Nat} {P : Int32 → wf_Mem → Prop} {mem : wf_Mem} (x1 : Int32)
    (h : (Ci mX9_isIn d [.long (x1 : Int32).toInt64, .long 0, .long ((mem 120 16) : Int32).toInt64] mem (fun r6 mem5 => ((¬ r6 = 0 → (∀ mem8 : wf_Mem, mem8 = wf_ms mem5 120 16 x1 → P x1 mem8)) ∧ (r6 = 0 → P (-1000000001) mem5))))) :
    Ci mX9_trim (d + 1) [.ref 120, .int x1] mem P := Cw_of rfl (Nat.le_of_ble_eq_true rfl) rfl (b_X9_trim_0 mem x1 h)
set_option maxRecDepth 20000 in
theorem E_X9_isLetter {d : Nat} {P : Int32 → wf_Mem → Prop} {mem : wf_Mem} (x1 : Int32)
    (h : (((mem 120 16) ≤ x1 → P 0 mem) ∧ (¬ (mem 120 16) ≤ x1 → (vp_in x1 96 ∧ (Ci mX9_isIn d [.long ((mem 133 x1.toNatClampNeg) : Int32).toInt64, .long 97, .long 122] mem (fun r7 mem6 => ((r7 = 0 → P 0 mem6) ∧ (¬ r7 = 0 → P 1 mem6)))))))) :
    Ci mX9_isLetter (d + 1) [.ref 120, .int x1] mem P := Cw_of rfl (Nat.le_of_ble_eq_true rfl) rfl (b_X9_isLetter_0 mem x1 h)
set_option maxRecDepth 20000 in
theorem E_X9_isDigit {d : Nat} {P : Int32 → wf_Mem → Prop} {mem : wf_Mem} (x1 : Int32)
    (h : (((mem 120 16) ≤ x1 → P 0 mem) ∧ (¬ (mem 120 16) ≤ x1 → (vp_in x1 96 ∧ (Ci mX9_isIn d [.long ((mem 133 x1.toNatClampNeg) : Int32).toInt64, .long 48, .long 57] mem (fun r7 mem6 => ((r7 = 0 → P 0 mem6) ∧ (¬ r7 = 0 → P 1 mem6)))))))) :
    Ci mX9_isDigit (d + 1) [.ref 120, .int x1] mem P := Cw_of rfl (Nat.le_of_ble_eq_true rfl) rfl (b_X9_isDigit_0 mem x1 h)
set_option maxRecDepth 20000 in
theorem E_X9_nextToken {d : Nat} {P : wf_Mem → Prop} {mem : wf_Mem} 
    (h : (((mem 120 18) ≤ 0 → (∀ x2_9 : Int32, x2_9 = (mem 120 18) → Vw (Nv (d + 1) P) mX9_nextToken 34 [(0, .ref 120), (1, .int 0), (2, .int x2_9)] [] mem)) ∧ (¬ (mem 120 18) ≤ 0 → (((mem 120 19) = 1 → (∀ x2_11 : Int32, x2_11 = (mem 120 18) → Vw (Nv (d + 1) P) mX9_nextToken 34 [(0, .ref 120), (1, .int 1), (2, .int x2_11)] [] mem)) ∧ (¬ (mem 120 19) = 1 → ((¬ (mem 120 19) = 2 → (∀ x2_13 : Int32, x2_13 = (mem 120 18) → Vw (Nv (d + 1) P) mX9_nextToken 34 [(0, .ref 120), (1, .int 0), (2, .int x2_13)] [] mem)) ∧ ((mem 120 19) = 2 → (∀ x2_14 : Int32, x2_14 = (mem 120 18) → Vw (Nv (d + 1) P) mX9_nextToken 34 [(0, .ref 120), (1, .int 1), (2, .int x2_14)] [] mem)))))))) :
    Cv mX9_nextToken (d + 1) [.ref 120] mem P := Cw_of rfl (Nat.le_of_ble_eq_true rfl) rfl (b_X9_nextToken_0 mem  h)
set_option maxRecDepth 20000 in
theorem E_X9_isSign {d : Nat} {P : Int32 → wf_Mem → Prop} {mem : wf_Mem} (x1 : Int32)
    (h : ((¬ (mem 120 19) = 3 → P 0 mem) ∧ ((mem 120 19) = 3 → ((¬ (mem 120 21) = x1 → P 0 mem) ∧ ((mem 120 21) = x1 → P 1 mem))))) :
    Ci mX9_isSign d [.ref 120, .int x1] mem P := Cw_of rfl (Nat.le_of_ble_eq_true rfl) rfl (b_X9_isSign_0 mem x1 h)
set_option maxRecDepth 20000 in
theorem E_X9_isWordAt {d : Nat} {P : Int32 → wf_Mem → Prop} {mem : wf_Mem} (x1 : Int32) (x2 : Int32) (x3 : Int32) (x4 : Int32)
    (h : ((¬ x4 = 0 → Vw (Ni d P) mX9_isWordAt 10 [(0, .ref 120), (1, .int x1), (2, .int x2), (3, .int x3), (4, .int x4)] [.int 4] mem) ∧ (x4 = 0 → Vw (Ni d P) mX9_isWordAt 10 [(0, .ref 120), (1, .int x1), (2, .int x2), (3, .int x3), (4, .int x4)] [.int 3] mem))) :
    Ci mX9_isWordAt d [.ref 120, .int x1, .int x2, .int x3, .int x4] mem P := Cw_of rfl (Nat.le_of_ble_eq_true rfl) rfl (b_X9_isWordAt_0 mem x1 x2 x3 x4 h)
set_option maxRecDepth 20000 in
theorem E_X9_isLong {d : Nat} {P : Int32 → wf_Mem → Prop} {mem : wf_Mem} (x1 : Int32) (x2 : Int32) (x3 : Int32) (x4 : Int32) (x5 : Int32) (x6 : Int32)
    (h : ((¬ x6 = 0 → Vw (Ni d P) mX9_isLong 11 [(0, .ref 120), (1, .int x1), (2, .int x2), (3, .int x3), (4, .int x4), (5, .int x5), (6, .int x6)] [.int 6] mem) ∧ (x6 = 0 → Vw (Ni d P) mX9_isLong 11 [(0, .ref 120), (1, .int x1), (2, .int x2), (3, .int x3), (4, .int x4), (5, .int x5), (6, .int x6)] [.int 5] mem))) :
    Ci mX9_isLong d [.ref 120, .int x1, .int x2, .int x3, .int x4, .int x5, .int x6] mem P := Cw_of rfl (Nat.le_of_ble_eq_true rfl) rfl (b_X9_isLong_0 mem x1 x2 x3 x4 x5 x6 h)
set_option maxRecDepth 20000 in
theorem E_X9_key {d : Nat} {P : Int32 → wf_Mem → Prop} {mem : wf_Mem} 
    (h : (Ci mX9_isLong d [.ref 120, .int 108, .int 105, .int 103, .int 104, .int 116, .int 0] mem (fun r11 mem10 => ((r11 = 0 → (Ci mX9_isWordAt d [.ref 120, .int 102, .int 101, .int 97, .int 114] mem10 (fun r14 mem13 => ((r14 = 0 → (Ci mX9_isWordAt d [.ref 120, .int 116, .int 105, .int 114, .int 101] mem13 (fun r17 mem16 => ((r17 = 0 → P (-1) mem16) ∧ (¬ r17 = 0 → P 2 mem16))))) ∧ (¬ r14 = 0 → P 1 mem13))))) ∧ (¬ r11 = 0 → P 0 mem10))))) :
    Ci mX9_key (d + 1) [.ref 120] mem P := Cw_of rfl (Nat.le_of_ble_eq_true rfl) rfl (b_X9_key_0 mem  h)
set_option maxRecDepth 20000 in
theorem E_X9_isName {d : Nat} {P : Int32 → wf_Mem → Prop} {mem : wf_Mem} (x0 : Int32) (x1 : Int32)
    (h : ((x0 = 0 → ((x1 = 102 → P 1 mem) ∧ (¬ x1 = 102 → ((x1 = 110 → P 1 mem) ∧ (¬ x1 = 110 → ((¬ x1 = 119 → P 0 mem) ∧ (x1 = 119 → P 1 mem))))))) ∧ (¬ x0 = 0 → ((x0 = 1 → ((x1 = 103 → P 1 mem) ∧ (¬ x1 = 103 → ((x1 = 116 → P 1 mem) ∧ (¬ x1 = 116 → ((¬ x1 = 104 → P 0 mem) ∧ (x1 = 104 → P 1 mem))))))) ∧ (¬ x0 = 1 → ((x1 = 116 → P 1 mem) ∧ (¬ x1 = 116 → ((¬ x1 = 101 → P 0 mem) ∧ (x1 = 101 → P 1 mem))))))))) :
    Ci mX9_isName d [.int x0, .int x1] mem P := Cw_of rfl (Nat.le_of_ble_eq_true rfl) rfl (b_X9_isName_0 mem x0 x1 h)
set_option maxRecDepth 20000 in
theorem E_X9_step {d : Nat} {P : wf_Mem → Prop} {mem : wf_Mem} (x1 : Int32) (x2 : Int32)
    (h : (vp_in ((mem 120 25) + (2 * (mem 120 24))) 3088 ∧ ∀ mem4 : wf_Mem, mem4 = wf_ms mem 121 ((mem 120 25) + (2 * (mem 120 24))).toNatClampNeg x1 → (vp_in (((mem4 120 25) + (2 * (mem4 120 24))) + 1) 3088 ∧ ∀ mem5 : wf_Mem, mem5 = wf_ms mem4 121 (((mem4 120 25) + (2 * (mem4 120 24))) + 1).toNatClampNeg x2 → (∀ mem6 : wf_Mem, mem6 = wf_ms mem5 120 24 ((mem5 120 24) + 1) → P mem6)))) :
    Cv mX9_step d [.ref 120, .int x1, .int x2] mem P := Cw_of rfl (Nat.le_of_ble_eq_true rfl) rfl (b_X9_step_0 mem x1 x2 h)
set_option maxRecDepth 20000 in
theorem E_X9_either {d : Nat} {P : Int32 → wf_Mem → Prop} {mem : wf_Mem} (x1 : Int32)
    (h : (Ci mX9_both d [.ref 120, .int x1] mem (fun r5 mem4 => ((¬ r5 = 0 → Vw (Ni (d + 1) P) mX9_either 10 [(0, .ref 120), (1, .int x1)] [] mem4) ∧ (r5 = 0 → P 0 mem4))))) :
    Ci mX9_either (d + 1) [.ref 120, .int x1] mem P := Cw_of rfl (Nat.le_of_ble_eq_true rfl) rfl (b_X9_either_0 mem x1 h)
set_option maxRecDepth 20000 in
theorem E_X9_both {d : Nat} {P : Int32 → wf_Mem → Prop} {mem : wf_Mem} (x1 : Int32)
    (h : (Ci mX9_test d [.ref 120, .int x1] mem (fun r5 mem4 => ((¬ r5 = 0 → Vw (Ni (d + 1) P) mX9_both 10 [(0, .ref 120), (1, .int x1)] [] mem4) ∧ (r5 = 0 → P 0 mem4))))) :
    Ci mX9_both (d + 1) [.ref 120, .int x1] mem P := Cw_of rfl (Nat.le_of_ble_eq_true rfl) rfl (b_X9_both_0 mem x1 h)
set_option maxRecDepth 20000 in
theorem E_X9_test {d : Nat} {P : Int32 → wf_Mem → Prop} {mem : wf_Mem} (x1 : Int32)
    (h : (Ci mX9_sum d [.ref 120, .int x1] mem (fun r14 mem13 => ((¬ r14 = 0 → (Ci mX9_isSign d [.ref 120, .int 60] mem13 (fun r17 mem16 => ((¬ r17 = 0 → Vw (Ni (d + 1) P) mX9_test 37 [(0, .ref 120), (1, .int x1)] [] mem16) ∧ (r17 = 0 → (Ci mX9_isSign d [.ref 120, .int 61] mem16 (fun r20 mem19 => ((¬ r20 = 0 → Vw (Ni (d + 1) P) mX9_test 37 [(0, .ref 120), (1, .int x1)] [] mem19) ∧ (r20 = 0 → (Ci mX9_isSign d [.ref 120, .int 62] mem19 (fun r23 mem22 => ((r23 = 0 → P 1 mem22) ∧ (¬ r23 = 0 → Vw (Ni (d + 1) P) mX9_test 37 [(0, .ref 120), (1, .int x1)] [] mem22))))))))))))) ∧ (r14 = 0 → P 0 mem13))))) :
    Ci mX9_test (d + 1) [.ref 120, .int x1] mem P := Cw_of rfl (Nat.le_of_ble_eq_true rfl) rfl (b_X9_test_0 mem x1 h)
set_option maxRecDepth 20000 in
theorem E_X9_sum {d : Nat} {P : Int32 → wf_Mem → Prop} {mem : wf_Mem} (x1 : Int32)
    (h : (Ci mX9_term d [.ref 120, .int x1] mem (fun r5 mem4 => ((¬ r5 = 0 → Vw (Ni (d + 1) P) mX9_sum 10 [(0, .ref 120), (1, .int x1)] [] mem4) ∧ (r5 = 0 → P 0 mem4))))) :
    Ci mX9_sum (d + 1) [.ref 120, .int x1] mem P := Cw_of rfl (Nat.le_of_ble_eq_true rfl) rfl (b_X9_sum_0 mem x1 h)
set_option maxRecDepth 20000 in
theorem E_X9_term {d : Nat} {P : Int32 → wf_Mem → Prop} {mem : wf_Mem} (x1 : Int32)
    (h : (Ci mX9_part0 d [.ref 120, .int x1] mem (fun r5 mem4 => ((¬ r5 = 0 → Vw (Ni (d + 1) P) mX9_term 10 [(0, .ref 120), (1, .int x1)] [] mem4) ∧ (r5 = 0 → P 0 mem4))))) :
    Ci mX9_term (d + 1) [.ref 120, .int x1] mem P := Cw_of rfl (Nat.le_of_ble_eq_true rfl) rfl (b_X9_term_0 mem x1 h)
set_option maxRecDepth 20000 in
theorem E_X9_part0 {d : Nat} {P : Int32 → wf_Mem → Prop} {mem : wf_Mem} (x1 : Int32)
    (h : ((¬ (mem 120 19) = 2 → ((¬ (mem 120 19) = 1 → Vw (Ni (d + 1) P) mX9_part0 84 [(0, .ref 120), (1, .int x1)] [] mem) ∧ ((mem 120 19) = 1 → (((mem 120 21) = 0 → Vw (Ni (d + 1) P) mX9_part0 84 [(0, .ref 120), (1, .int x1)] [] mem) ∧ (¬ (mem 120 21) = 0 → (Ci mX9_isName d [.int x1, .int (mem 120 21)] mem (fun r17 mem16 => ((r17 = 0 → Vw (Ni (d + 1) P) mX9_part0 84 [(0, .ref 120), (1, .int x1)] [] mem16) ∧ (¬ r17 = 0 → (Cv mX9_step d [.ref 120, .int 1, .int (mem16 120 21)] mem16 (fun mem19 => (∀ mem20 : wf_Mem, mem20 = wf_ms mem19 120 26 ((mem19 120 26) + 1) → (Cv mX9_nextToken d [.ref 120] mem20 (fun mem21 => P 1 mem21)))))))))))))) ∧ ((mem 120 19) = 2 → (Cv mX9_step d [.ref 120, .int 0, .int (mem 120 20)] mem (fun mem22 => (∀ mem23 : wf_Mem, mem23 = wf_ms mem22 120 26 ((mem22 120 26) + 1) → (Cv mX9_nextToken d [.ref 120] mem23 (fun mem24 => P 1 mem24)))))))) :
    Ci mX9_part0 (d + 1) [.ref 120, .int x1] mem P := Cw_of rfl (Nat.le_of_ble_eq_true rfl) rfl (b_X9_part0_0 mem x1 h)
set_option maxRecDepth 20000 in
theorem E_X9_parse {d : Nat} {P : Int32 → wf_Mem → Prop} {mem : wf_Mem} 
    (h : (∀ mem10 : wf_Mem, mem10 = wf_ms mem 120 18 0 → (∀ mem11 : wf_Mem, mem11 = wf_ms mem10 120 19 3 → (∀ mem12 : wf_Mem, mem12 = wf_ms mem11 120 22 0 → (∀ mem13 : wf_Mem, mem13 = wf_ms mem12 120 23 0 → (∀ mem14 : wf_Mem, mem14 = wf_ms mem13 120 24 0 → (∀ mem15 : wf_Mem, mem15 = wf_ms mem14 120 26 0 → ((14 ≤ (mem15 121 2) → Vw (Ni (d + 1) P) mX9_parse 60 [(0, .ref 120)] [.int 2888, .ref 120] mem15) ∧ (¬ 14 ≤ (mem15 121 2) → (Ci mX9_textAt d [.ref 120, .int (mem15 121 2)] mem15 (fun r18 mem17 => Vw (Ni (d + 1) P) mX9_parse 60 [(0, .ref 120)] [.int (r18 + 4), .ref 120] mem17))))))))))) :
    Ci mX9_parse (d + 1) [.ref 120] mem P := Cw_of rfl (Nat.le_of_ble_eq_true rfl) rfl (b_X9_parse_0 mem  h)
set_option maxRecDepth 20000 in
theorem E_X9_text {d : Nat} {P : Int32 → wf_Mem → Prop} {mem : wf_Mem} 
    (h : (Ci mX9_parse d [.ref 120] mem (fun r12 mem11 => ((0 ≤ r12 → ((¬ (mem11 121 2) = 14 → (Ci mX9_textAt d [.ref 120, .int (mem11 121 2)] mem11 (fun r16 mem15 => (vp_in (r16 + 0) 3088 ∧ ∀ mem17 : wf_Mem, mem17 = wf_ms mem15 121 (r16 + 0).toNatClampNeg r12 → (vp_in (r16 + 1) 3088 ∧ ∀ mem18 : wf_Mem, mem18 = wf_ms mem17 121 (r16 + 1).toNatClampNeg (mem17 120 26) → (vp_in (r16 + 2) 3088 ∧ ∀ mem19 : wf_Mem, mem19 = wf_ms mem18 121 (r16 + 2).toNatClampNeg (mem18 120 24) → (∀ mem20 : wf_Mem, mem20 = wf_ms mem19 121 2 ((mem19 121 2) + 1) → P ((mem20 121 2) - 1) mem20))))))) ∧ ((mem11 121 2) = 14 → P (-1000000003) mem11))) ∧ (¬ 0 ≤ r12 → P ((-100) - (mem11 120 17)) mem11))))) :
    Ci mX9_text (d + 1) [.ref 120] mem P := Cw_of rfl (Nat.le_of_ble_eq_true rfl) rfl (b_X9_text_0 mem  h)
set_option maxRecDepth 20000 in
theorem E_X9_textTold {d : Nat} {P : Int32 → wf_Mem → Prop} {mem : wf_Mem} (x1 : Int32) (x2 : Int32)
    (h : (Ci mX9_isText d [.ref 120, .int x1] mem (fun r10 mem9 => ((r10 = 0 → P (-1000000001) mem9) ∧ (¬ r10 = 0 → (Ci mX9_isIn d [.long (x2 : Int32).toInt64, .long 0, .long 1] mem9 (fun r13 mem12 => ((¬ r13 = 0 → (Ci mX9_textAt d [.ref 120, .int x1] mem12 (fun r16 mem15 => (vp_in (r16 + x2) 3088 ∧ P (mem15 121 (r16 + x2).toNatClampNeg) mem15)))) ∧ (r13 = 0 → P (-1000000001) mem12))))))))) :
    Ci mX9_textTold (d + 1) [.ref 120, .int x1, .int x2] mem P := Cw_of rfl (Nat.le_of_ble_eq_true rfl) rfl (b_X9_textTold_0 mem x1 x2 h)
set_option maxRecDepth 20000 in
theorem E_X9_counts {d : Nat} {P : Int32 → wf_Mem → Prop} {mem : wf_Mem} (x1 : Int32)
    (h : Vw (Ni (d + 1) P) mX9_counts 4 [(0, .ref 120), (1, .int x1), (2, .int (-1)), (3, .int 0)] [] mem) :
    Ci mX9_counts (d + 1) [.ref 120, .int x1] mem P := Cw_of rfl (Nat.le_of_ble_eq_true rfl) rfl (b_X9_counts_0 mem x1 h)
set_option maxRecDepth 20000 in
theorem E_X9_why {d : Nat} {P : Int32 → wf_Mem → Prop} {mem : wf_Mem} (x1 : Int32)
    (h : (Ci mX9_isIn d [.long (x1 : Int32).toInt64, .long 0, .long 2] mem (fun r9 mem8 => ((r9 = 0 → P (-1000000001) mem8) ∧ (¬ r9 = 0 → (Ci mX9_counts d [.ref 120, .int x1] mem8 (fun r12 mem11 => (Ci mX9_orNone d [.int r12] mem11 (fun r14 mem13 => P r14 mem13))))))))) :
    Ci mX9_why (d + 1) [.ref 120, .int x1] mem P := Cw_of rfl (Nat.le_of_ble_eq_true rfl) rfl (b_X9_why_0 mem x1 h)
set_option maxRecDepth 20000 in
theorem E_X9_joined {d : Nat} {P : Int32 → wf_Mem → Prop} {mem : wf_Mem} (x0 : Int32) (x1 : Int32) (x2 : Int32)
    (h : ((x0 = 38 → ((x1 = 0 → P 0 mem) ∧ (¬ x1 = 0 → ((x2 = 0 → P 0 mem) ∧ (¬ x2 = 0 → P 1 mem))))) ∧ (¬ x0 = 38 → ((x0 = 42 → P (x1 * x2) mem) ∧ (¬ x0 = 42 → ((x0 = 43 → P (x1 + x2) mem) ∧ (¬ x0 = 43 → ((x0 = 45 → P (x1 - x2) mem) ∧ (¬ x0 = 45 → ((x0 = 47 → ((¬ x2 = 0 → ((¬ x2 = (-1) → ((¬ x2 = 0) ∧ P (x1 / x2) mem)) ∧ (x2 = (-1) → P (0 - x1) mem))) ∧ (x2 = 0 → P 0 mem))) ∧ (¬ x0 = 47 → ((x0 = 60 → ((x2 ≤ x1 → P 0 mem) ∧ (¬ x2 ≤ x1 → P 1 mem))) ∧ (¬ x0 = 60 → ((x0 = 61 → ((¬ x1 = x2 → P 0 mem) ∧ (x1 = x2 → P 1 mem))) ∧ (¬ x0 = 61 → ((x0 = 62 → ((x1 ≤ x2 → P 0 mem) ∧ (¬ x1 ≤ x2 → P 1 mem))) ∧ (¬ x0 = 62 → ((¬ x1 = 0 → P 1 mem) ∧ (x1 = 0 → ((x2 = 0 → P 0 mem) ∧ (¬ x2 = 0 → P 1 mem))))))))))))))))))))) :
    Ci mX9_joined d [.int x0, .int x1, .int x2] mem P := Cw_of rfl (Nat.le_of_ble_eq_true rfl) rfl (b_X9_joined_0 mem x0 x1 x2 h)
set_option maxRecDepth 20000 in
theorem E_X9_worked {d : Nat} {P : Int32 → wf_Mem → Prop} {mem : wf_Mem} (x1 : Int32)
    (h : Vw (Ni (d + 1) P) mX9_worked 4 [(0, .ref 120), (1, .int x1), (2, .int 0), (3, .int 0)] [] mem) :
    Ci mX9_worked (d + 1) [.ref 120, .int x1] mem P := Cw_of rfl (Nat.le_of_ble_eq_true rfl) rfl (b_X9_worked_0 mem x1 h)
set_option maxRecDepth 20000 in
theorem E_X9_isSheet {d : Nat} {P : Int32 → wf_Mem → Prop} {mem : wf_Mem} (x0 : Int32)
    (h : (Ci mX9_isIn d [.long (x0 : Int32).toInt64, .long 0, .long 3] mem (fun r4 mem3 => ((r4 = 0 ∨ r4 = 1) ∧ P r4 mem3)))) :
    Ci mX9_isSheet (d + 1) [.int x0] mem P := Cw_of rfl (Nat.le_of_ble_eq_true rfl) rfl (b_X9_isSheet_0 mem x0 h)
set_option maxRecDepth 20000 in
theorem E_X9_sheet {d : Nat} {P : Int32 → wf_Mem → Prop} {mem : wf_Mem} (x1 : Int32) (x2 : Int32) (x3 : Int32)
    (h : (Ci mX9_isSheet d [.int x1] mem (fun r14 mem13 => ((r14 = 0 → P (-1000000001) mem13) ∧ (¬ r14 = 0 → (Ci mX9_isIn d [.long (x2 : Int32).toInt64, .long (-1), .long 1] mem13 (fun r17 mem16 => ((r17 = 0 → P (-1000000001) mem16) ∧ (¬ r17 = 0 → ((x2 < 0 → ((x2 < 0 → Vw (Ni (d + 1) P) mX9_sheet 44 [(0, .ref 120), (1, .int x1), (2, .int x2), (3, .int x3)] [] mem16) ∧ (¬ x2 < 0 → ((0 ≤ x3 → Vw (Ni (d + 1) P) mX9_sheet 44 [(0, .ref 120), (1, .int x1), (2, .int x2), (3, .int x3)] [] mem16) ∧ (¬ 0 ≤ x3 → P (-1000000014) mem16))))) ∧ (¬ x2 < 0 → ((x3 ≤ 24 → ((x2 < 0 → Vw (Ni (d + 1) P) mX9_sheet 44 [(0, .ref 120), (1, .int x1), (2, .int x2), (3, .int x3)] [] mem16) ∧ (¬ x2 < 0 → ((0 ≤ x3 → Vw (Ni (d + 1) P) mX9_sheet 44 [(0, .ref 120), (1, .int x1), (2, .int x2), (3, .int x3)] [] mem16) ∧ (¬ 0 ≤ x3 → P (-1000000014) mem16))))) ∧ (¬ x3 ≤ 24 → P (-1000000001) mem16))))))))))))) :
    Ci mX9_sheet (d + 1) [.ref 120, .int x1, .int x2, .int x3] mem P := Cw_of rfl (Nat.le_of_ble_eq_true rfl) rfl (b_X9_sheet_0 mem x1 x2 x3 h)
set_option maxRecDepth 20000 in
theorem E_X9_mark {d : Nat} {P : Int32 → wf_Mem → Prop} {mem : wf_Mem} (x1 : Int32) (x2 : Int32) (x3 : Int32)
    (h : (Ci mX9_isSheet d [.int x1] mem (fun r11 mem10 => ((¬ r11 = 0 → (vp_in x1 4 ∧ ((0 ≤ (mem10 124 x1.toNatClampNeg) → (vp_in x1 4 ∧ (Ci mX9_isIn d [.long (x2 : Int32).toInt64, .long 0, .long (((mem10 125 x1.toNatClampNeg) - 1) : Int32).toInt64] mem10 (fun r15 mem14 => ((¬ r15 = 0 → (vp_in x1 4 ∧ ((¬ (mem14 124 x1.toNatClampNeg) = 0 → Vw (Ni (d + 1) P) mX9_mark 63 [(0, .ref 120), (1, .int x1), (2, .int x2), (3, .int x3)] [] mem14) ∧ ((mem14 124 x1.toNatClampNeg) = 0 → ((¬ x3 = (-1000000005) → Vw (Ni (d + 1) P) mX9_mark 63 [(0, .ref 120), (1, .int x1), (2, .int x2), (3, .int x3)] [] mem14) ∧ (x3 = (-1000000005) → P (-1000000012) mem14)))))) ∧ (r15 = 0 → P (-1000000013) mem14)))))) ∧ (¬ 0 ≤ (mem10 124 x1.toNatClampNeg) → P (-1000000011) mem10)))) ∧ (r11 = 0 → P (-1000000001) mem10))))) :
    Ci mX9_mark (d + 1) [.ref 120, .int x1, .int x2, .int x3] mem P := Cw_of rfl (Nat.le_of_ble_eq_true rfl) rfl (b_X9_mark_0 mem x1 x2 x3 h)
set_option maxRecDepth 20000 in
theorem E_X9_pour {d : Nat} {P : Int32 → wf_Mem → Prop} {mem : wf_Mem} (x1 : Int32)
    (h : (Ci mX9_isSheet d [.int x1] mem (fun r6 mem5 => ((¬ r6 = 0 → (vp_in x1 4 ∧ ((0 ≤ (mem5 124 x1.toNatClampNeg) → Vw (Ni (d + 1) P) mX9_pour 27 [(0, .ref 120), (1, .int x1), (2, .int 0), (3, .int 0)] [] mem5) ∧ (¬ 0 ≤ (mem5 124 x1.toNatClampNeg) → P (-1000000011) mem5)))) ∧ (r6 = 0 → P (-1000000001) mem5))))) :
    Ci mX9_pour (d + 1) [.ref 120, .int x1] mem P := Cw_of rfl (Nat.le_of_ble_eq_true rfl) rfl (b_X9_pour_0 mem x1 h)
set_option maxRecDepth 20000 in
theorem E_X9_reads {d : Nat} {P : Int32 → wf_Mem → Prop} {mem : wf_Mem} (x1 : Int32)
    (h : (Ci mX9_isSheet d [.int x1] mem (fun r6 mem5 => ((¬ r6 = 0 → (vp_in x1 4 ∧ ((0 ≤ (mem5 124 x1.toNatClampNeg) → Vw (Ni (d + 1) P) mX9_reads 25 [(0, .ref 120), (1, .int x1), (2, .int 0)] [] mem5) ∧ (¬ 0 ≤ (mem5 124 x1.toNatClampNeg) → P (-1000000011) mem5)))) ∧ (r6 = 0 → P (-1000000001) mem5))))) :
    Ci mX9_reads (d + 1) [.ref 120, .int x1] mem P := Cw_of rfl (Nat.le_of_ble_eq_true rfl) rfl (b_X9_reads_0 mem x1 h)
set_option maxRecDepth 20000 in
theorem E_X9_signs {d : Nat} {P : Int32 → wf_Mem → Prop} {mem : wf_Mem} (x1 : Int32) (x2 : Int32) (x3 : Int32)
    (h : (Ci mX9_isSheet d [.int x1] mem (fun r13 mem12 => ((r13 = 0 → P (-1000000001) mem12) ∧ (¬ r13 = 0 → (Ci mX9_isIn d [.long (x2 : Int32).toInt64, .long 0, .long 60] mem12 (fun r16 mem15 => ((r16 = 0 → P (-1000000001) mem15) ∧ (¬ r16 = 0 → (Ci mX9_isIn d [.long (x3 : Int32).toInt64, .long 0, .long 1] mem15 (fun r19 mem18 => ((¬ r19 = 0 → (vp_in x1 4 ∧ ((0 ≤ (mem18 124 x1.toNatClampNeg) → (Cv mX9_laysBy d [.ref 120] mem18 (fun mem22 => Vw (Ni (d + 1) P) mX9_signs 58 [(0, .ref 120), (1, .int x1), (2, .int x2), (3, .int x3), (4, .int (-1)), (5, .int 0), (6, .int 0)] [] mem22))) ∧ (¬ 0 ≤ (mem18 124 x1.toNatClampNeg) → P (-1000000011) mem18)))) ∧ (r19 = 0 → P (-1000000001) mem18))))))))))))) :
    Ci mX9_signs (d + 1) [.ref 120, .int x1, .int x2, .int x3] mem P := Cw_of rfl (Nat.le_of_ble_eq_true rfl) rfl (b_X9_signs_0 mem x1 x2 x3 h)
set_option maxRecDepth 20000 in
theorem E_X9_copy {d : Nat} {P : Int32 → wf_Mem → Prop} {mem : wf_Mem} (x1 : Int32) (x2 : Int32) (x3 : Int32) (x4 : Int32) (x5 : Int32)
    (h : (Ci mX9_isSheet d [.int x1] mem (fun r16 mem15 => ((r16 = 0 → P (-1000000001) mem15) ∧ (¬ r16 = 0 → (Ci mX9_isSheet d [.int x3] mem15 (fun r19 mem18 => ((¬ r19 = 0 → (vp_in x1 4 ∧ (((mem18 124 x1.toNatClampNeg) < 0 → P (-1000000011) mem18) ∧ (¬ (mem18 124 x1.toNatClampNeg) < 0 → (vp_in x3 4 ∧ ((0 ≤ (mem18 124 x3.toNatClampNeg) → (vp_in x1 4 ∧ (vp_in x3 4 ∧ (((mem18 124 x1.toNatClampNeg) = (mem18 124 x3.toNatClampNeg) → ((x2 < 0 → P (-1000000013) mem18) ∧ (¬ x2 < 0 → ((x4 < 0 → P (-1000000013) mem18) ∧ (¬ x4 < 0 → ((x5 < 0 → P (-1000000013) mem18) ∧ (¬ x5 < 0 → (vp_in x1 4 ∧ ((0 < (lg_cmp ((x2 : Int32).toInt64 + (x5 : Int32).toInt64) ((mem18 125 x1.toNatClampNeg) : Int32).toInt64) → P (-1000000013) mem18) ∧ (¬ 0 < (lg_cmp ((x2 : Int32).toInt64 + (x5 : Int32).toInt64) ((mem18 125 x1.toNatClampNeg) : Int32).toInt64) → (vp_in x3 4 ∧ (((lg_cmp ((x4 : Int32).toInt64 + (x5 : Int32).toInt64) ((mem18 125 x3.toNatClampNeg) : Int32).toInt64) ≤ 0 → Vw (Ni (d + 1) P) mX9_copy 113 [(0, .ref 120), (1, .int x1), (2, .int x2), (3, .int x3), (4, .int x4), (5, .int x5), (6, .int 0)] [] mem18) ∧ (¬ (lg_cmp ((x4 : Int32).toInt64 + (x5 : Int32).toInt64) ((mem18 125 x3.toNatClampNeg) : Int32).toInt64) ≤ 0 → P (-1000000013) mem18))))))))))))) ∧ (¬ (mem18 124 x1.toNatClampNeg) = (mem18 124 x3.toNatClampNeg) → P (-1000000012) mem18))))) ∧ (¬ 0 ≤ (mem18 124 x3.toNatClampNeg) → P (-1000000011) mem18))))))) ∧ (r19 = 0 → P (-1000000001) mem18))))))))) :
    Ci mX9_copy (d + 1) [.ref 120, .int x1, .int x2, .int x3, .int x4, .int x5] mem P := Cw_of rfl (Nat.le_of_ble_eq_true rfl) rfl (b_X9_copy_0 mem x1 x2 x3 x4 x5 h)
set_option maxRecDepth 20000 in
theorem E_X9_isSlot {d : Nat} {P : Int32 → wf_Mem → Prop} {mem : wf_Mem} (x0 : Int32)
    (h : (Ci mX9_isIn d [.long (x0 : Int32).toInt64, .long 0, .long 4] mem (fun r4 mem3 => ((r4 = 0 ∨ r4 = 1) ∧ P r4 mem3)))) :
    Ci mX9_isSlot (d + 1) [.int x0] mem P := Cw_of rfl (Nat.le_of_ble_eq_true rfl) rfl (b_X9_isSlot_0 mem x0 h)
set_option maxRecDepth 20000 in
theorem E_X9_lay {d : Nat} {P : Int32 → wf_Mem → Prop} {mem : wf_Mem} (x1 : Int32) (x2 : Int32) (x3 : Int32)
    (h : ((x2 = 0 → Vw (Ni (d + 1) P) mX9_lay 39 [(0, .ref 120), (1, .int x1), (2, .int x2), (3, .int x3)] [.int 1] mem) ∧ (¬ x2 = 0 → ((x2 = 3 → Vw (Ni (d + 1) P) mX9_lay 39 [(0, .ref 120), (1, .int x1), (2, .int x2), (3, .int x3)] [.int 1] mem) ∧ (¬ x2 = 3 → ((¬ x2 = 1 → Vw (Ni (d + 1) P) mX9_lay 22 [(0, .ref 120), (1, .int x1), (2, .int x2), (3, .int x3)] [] mem) ∧ (x2 = 1 → (Ci mX9_isWatcher d [.ref 120, .int x3] mem (fun r11 mem10 => ((¬ r11 = 0 → Vw (Ni (d + 1) P) mX9_lay 39 [(0, .ref 120), (1, .int x1), (2, .int x2), (3, .int x3)] [.int 1] mem10) ∧ (r11 = 0 → Vw (Ni (d + 1) P) mX9_lay 22 [(0, .ref 120), (1, .int x1), (2, .int x2), (3, .int x3)] [] mem10))))))))))) :
    Ci mX9_lay (d + 1) [.ref 120, .int x1, .int x2, .int x3] mem P := Cw_of rfl (Nat.le_of_ble_eq_true rfl) rfl (b_X9_lay_0 mem x1 x2 x3 h)
set_option maxRecDepth 20000 in
theorem E_X9_ask {d : Nat} {P : Int32 → wf_Mem → Prop} {mem : wf_Mem} (x1 : Int32) (x2 : Int32)
    (h : (Ci mX9_isSlot d [.int x1] mem (fun r13 mem12 => ((r13 = 0 → P (-1000000001) mem12) ∧ (¬ r13 = 0 → (Ci mX9_isIn d [.long (x2 : Int32).toInt64, .long 0, .long 5] mem12 (fun r16 mem15 => ((¬ r16 = 0 → (vp_in x1 5 ∧ ((¬ (mem15 127 x1.toNatClampNeg) = 0 → (vp_in x1 5 ∧ ((¬ (mem15 127 x1.toNatClampNeg) = 1 → P (-1000000012) mem15) ∧ ((mem15 127 x1.toNatClampNeg) = 1 → (vp_in x1 5 ∧ (Ci mX9_isOf d [.int (mem15 128 x1.toNatClampNeg), .int x2] mem15 (fun r21 mem20 => ((r21 = 0 → P (-1000000012) mem20) ∧ (¬ r21 = 0 → (vp_in x1 5 ∧ P (mem20 129 x1.toNatClampNeg) mem20)))))))))) ∧ ((mem15 127 x1.toNatClampNeg) = 0 → P (-1000000011) mem15)))) ∧ (r16 = 0 → P (-1000000001) mem15))))))))) :
    Ci mX9_ask (d + 1) [.ref 120, .int x1, .int x2] mem P := Cw_of rfl (Nat.le_of_ble_eq_true rfl) rfl (b_X9_ask_0 mem x1 x2 h)
set_option maxRecDepth 20000 in
theorem E_X9_item {d : Nat} {P : Int32 → wf_Mem → Prop} {mem : wf_Mem} (x1 : Int32) (x2 : Int32)
    (h : (Ci mX9_isSlot d [.int x1] mem (fun r12 mem11 => ((¬ r12 = 0 → (vp_in x1 5 ∧ (((mem11 127 x1.toNatClampNeg) = 2 → (vp_in x1 5 ∧ (Ci mX9_isIn d [.long (x2 : Int32).toInt64, .long 0, .long (((mem11 130 x1.toNatClampNeg) - 1) : Int32).toInt64] mem11 (fun r16 mem15 => ((¬ r16 = 0 → (vp_in ((24 * x1) + x2) 120 ∧ (∀ x3_18 : Int32, x3_18 = (mem15 131 ((24 * x1) + x2).toNatClampNeg) → ((¬ x3_18 = (-1000000005) → P x3_18 mem15) ∧ (x3_18 = (-1000000005) → P (-1000000012) mem15))))) ∧ (r16 = 0 → P (-1000000013) mem15)))))) ∧ (¬ (mem11 127 x1.toNatClampNeg) = 2 → (vp_in x1 5 ∧ ((¬ (mem11 127 x1.toNatClampNeg) = 0 → P (-1000000012) mem11) ∧ ((mem11 127 x1.toNatClampNeg) = 0 → P (-1000000011) mem11))))))) ∧ (r12 = 0 → P (-1000000001) mem11))))) :
    Ci mX9_item (d + 1) [.ref 120, .int x1, .int x2] mem P := Cw_of rfl (Nat.le_of_ble_eq_true rfl) rfl (b_X9_item_0 mem x1 x2 h)
set_option maxRecDepth 20000 in
theorem E_X9_rest {d : Nat} {P : Int32 → wf_Mem → Prop} {mem : wf_Mem} (x1 : Int32) (x2 : Int32)
    (h : (Ci mX9_isSlot d [.int x1] mem (fun r8 mem7 => ((¬ r8 = 0 → (vp_in x1 5 ∧ (((mem7 127 x1.toNatClampNeg) = 3 → ((¬ x2 = 0 → (vp_in x1 5 ∧ ((¬ x2 = 0) ∧ P ((mem7 128 x1.toNatClampNeg) - (mem7 128 x1.toNatClampNeg) / x2 * x2) mem7))) ∧ (x2 = 0 → P (-1000000002) mem7))) ∧ (¬ (mem7 127 x1.toNatClampNeg) = 3 → (vp_in x1 5 ∧ ((¬ (mem7 127 x1.toNatClampNeg) = 0 → P (-1000000012) mem7) ∧ ((mem7 127 x1.toNatClampNeg) = 0 → P (-1000000011) mem7))))))) ∧ (r8 = 0 → P (-1000000001) mem7))))) :
    Ci mX9_rest (d + 1) [.ref 120, .int x1, .int x2] mem P := Cw_of rfl (Nat.le_of_ble_eq_true rfl) rfl (b_X9_rest_0 mem x1 x2 h)
set_option maxRecDepth 20000 in
theorem E_X9_tell {d : Nat} {P : Int32 → wf_Mem → Prop} {mem : wf_Mem} (x1 : Int32)
    (h : ((¬ (mem 120 31) = 60 → (vp_in (mem 120 31) 60 ∧ ∀ mem5 : wf_Mem, mem5 = wf_ms mem 137 (mem 120 31).toNatClampNeg x1 → (∀ mem6 : wf_Mem, mem6 = wf_ms mem5 120 31 ((mem5 120 31) + 1) → P (mem6 120 31) mem6))) ∧ ((mem 120 31) = 60 → P (-1000000003) mem))) :
    Ci mX9_tell d [.ref 120, .int x1] mem P := Cw_of rfl (Nat.le_of_ble_eq_true rfl) rfl (b_X9_tell_0 mem x1 h)
set_option maxRecDepth 20000 in
theorem E_X9_setAside {d : Nat} {P : wf_Mem → Prop} {mem : wf_Mem} (x1 nx1 : Nat) (hx1 : wf_sh x1 = (20, nx1)) (x2 nx2 : Nat) (hx2 : wf_sh x2 = (20, nx2))
    (h : Vw (Nv d P) mX9_setAside 2 [(1, .ref x1), (2, .ref x2), (3, .int 0)] [] mem) :
    Cv mX9_setAside d [.ref 120, .ref x1, .ref x2] mem P := Cw_of rfl (Nat.le_of_ble_eq_true rfl) rfl (b_X9_setAside_0 mem x1 nx1 hx1 x2 nx2 hx2 h)
set_option maxRecDepth 20000 in
theorem E_X9_check {d : Nat} {P : Int32 → wf_Mem → Prop} {mem : wf_Mem} (x1 : Int32)
    (h : (∀ x2_9 : Int32, x2_9 = (mem 120 31) → (∀ mem10 : wf_Mem, mem10 = wf_ms mem 120 31 0 → (Ci mX9_isIn d [.long (x1 : Int32).toInt64, .long 1, .long 30] mem10 (fun r12 mem11 => ((¬ r12 = 0 → ((¬ (mem11 120 3) = 0 → (Cv mX9_setAside d [.ref 120, .ref 121, .ref 123] mem11 (fun mem15 => (Cv mX9_setAside d [.ref 120, .ref 122, .ref 121] mem15 (fun mem16 => Vw (Ni (d + 1) P) mX9_check 65 [(0, .ref 120), (1, .int x1), (2, .int x2_9), (3, .int 0), (4, .int 0)] [] mem16))))) ∧ ((mem11 120 3) = 0 → P (-1000000002) mem11))) ∧ (r12 = 0 → P (-1000000001) mem11))))))) :
    Ci mX9_check (d + 1) [.ref 120, .int x1] mem P := Cw_of rfl (Nat.le_of_ble_eq_true rfl) rfl (b_X9_check_0 mem x1 h)
set_option maxRecDepth 20000 in
theorem E_X9_keep {d : Nat} {P : Int32 → wf_Mem → Prop} {mem : wf_Mem} 
    (h : (∀ mem3 : wf_Mem, mem3 = wf_ms mem 120 3 1 → (Cv mX9_setAside d [.ref 120, .ref 121, .ref 122] mem3 (fun mem4 => P (mem4 121 0) mem4)))) :
    Ci mX9_keep (d + 1) [.ref 120] mem P := Cw_of rfl (Nat.le_of_ble_eq_true rfl) rfl (b_X9_keep_0 mem  h)
set_option maxRecDepth 20000 in
theorem E_X9_back {d : Nat} {P : Int32 → wf_Mem → Prop} {mem : wf_Mem} 
    (h : ((¬ (mem 120 3) = 0 → (Cv mX9_setAside d [.ref 120, .ref 122, .ref 121] mem (fun mem4 => P (mem4 121 0) mem4))) ∧ ((mem 120 3) = 0 → P (-1000000002) mem))) :
    Ci mX9_back (d + 1) [.ref 120] mem P := Cw_of rfl (Nat.le_of_ble_eq_true rfl) rfl (b_X9_back_0 mem  h)
set_option maxRecDepth 20000 in
theorem E_X9_awake {d : Nat} {P : Int32 → wf_Mem → Prop} {mem : wf_Mem} 
    (h : Vw (Ni (d + 1) P) mX9_awake 4 [(0, .ref 120), (1, .int 0), (2, .int 0)] [] mem) :
    Ci mX9_awake (d + 1) [.ref 120] mem P := Cw_of rfl (Nat.le_of_ble_eq_true rfl) rfl (b_X9_awake_0 mem  h)
set_option maxRecDepth 20000 in
theorem E_X9_count {d : Nat} {P : Int32 → wf_Mem → Prop} {mem : wf_Mem} (x1 : Int32)
    (h : ((x1 = 0 → P (mem 121 0) mem) ∧ (¬ x1 = 0 → ((x1 = 1 → P (mem 121 1) mem) ∧ (¬ x1 = 1 → ((x1 = 2 → (Ci mX9_awake d [.ref 120] mem (fun r21 mem20 => P r21 mem20))) ∧ (¬ x1 = 2 → ((x1 = 3 → P (mem 121 3) mem) ∧ (¬ x1 = 3 → ((x1 = 4 → P (mem 121 4) mem) ∧ (¬ x1 = 4 → ((x1 = 5 → P (mem 121 5) mem) ∧ (¬ x1 = 5 → ((x1 = 6 → P (mem 121 6) mem) ∧ (¬ x1 = 6 → ((x1 = 7 → (Ci mX9_allFoals d [.ref 120] mem (fun r28 mem27 => P r28 mem27))) ∧ (¬ x1 = 7 → ((x1 = 8 → P (mem 121 2) mem) ∧ (¬ x1 = 8 → ((x1 = 9 → P (mem 120 31) mem) ∧ (¬ x1 = 9 → ((x1 = 10 → P (mem 120 16) mem) ∧ (¬ x1 = 10 → ((x1 = 11 → P (mem 121 10) mem) ∧ (¬ x1 = 11 → P (-1000000001) mem))))))))))))))))))))))))) :
    Ci mX9_count (d + 1) [.ref 120, .int x1] mem P := Cw_of rfl (Nat.le_of_ble_eq_true rfl) rfl (b_X9_count_0 mem x1 h)
set_option maxRecDepth 20000 in
theorem E_J0_length_8abf5 {d : Nat} {P : Int32 → wf_Mem → Prop} {mem : wf_Mem} (x0 : Nat) (hx0 : x0 < 6)
    (h : (Ci mJ0_coder_7d493 d [.ref (100000 + 2 * x0)] mem (fun r4 mem3 => P ((Int32.ofNat (wf_sLen.getD x0 0)) >>> (r4 &&& 31)) mem3))) :
    Ci mJ0_length_8abf5 (d + 1) [.ref (100000 + 2 * x0)] mem P := Cw_of rfl (Nat.le_of_ble_eq_true rfl) rfl (b_J0_length_8abf5_0 mem x0 hx0 h)
set_option maxRecDepth 20000 in
theorem E_J0_charAt_5068e {d : Nat} {P : Int32 → wf_Mem → Prop} {mem : wf_Mem} (x0 : Nat) (hx0 : x0 < 6) (x1 : Int32)
    (h : (Ci mJ0_isLatin1_aae02 d [.ref (100000 + 2 * x0)] mem (fun r7 mem6 => ((r7 = 0 → False) ∧ (¬ r7 = 0 → (Ci mJ1_charAt_3b067 d [.ref (100001 + 2 * x0), .int x1] mem6 (fun r10 mem9 => (narrow .char (.int r10) = .int r10 ∧ P r10 mem9)))))))) :
    Ci mJ0_charAt_5068e (d + 1) [.ref (100000 + 2 * x0), .int x1] mem P := Cw_of rfl (Nat.le_of_ble_eq_true rfl) rfl (b_J0_charAt_5068e_0 mem x0 hx0 x1 h)
set_option maxRecDepth 20000 in
theorem E_J0_indexOf_0f7a4 {d : Nat} {P : Int32 → wf_Mem → Prop} {mem : wf_Mem} (x0 : Nat) (hx0 : x0 < 6) (x1 : Int32)
    (h : (Ci mJ0_indexOf_7cf53 d [.ref (100000 + 2 * x0), .int x1, .int 0] mem (fun r4 mem3 => P r4 mem3))) :
    Ci mJ0_indexOf_0f7a4 (d + 1) [.ref (100000 + 2 * x0), .int x1] mem P := Cw_of rfl (Nat.le_of_ble_eq_true rfl) rfl (b_J0_indexOf_0f7a4_0 mem x0 hx0 x1 h)
set_option maxRecDepth 20000 in
theorem E_J0_indexOf_7cf53 {d : Nat} {P : Int32 → wf_Mem → Prop} {mem : wf_Mem} (x0 : Nat) (hx0 : x0 < 6) (x1 : Int32) (x2 : Int32)
    (h : (Ci mJ0_isLatin1_aae02 d [.ref (100000 + 2 * x0)] mem (fun r9 mem8 => ((r9 = 0 → False) ∧ (¬ r9 = 0 → (Ci mJ0_length_8abf5 d [.ref (100000 + 2 * x0)] mem8 (fun r12 mem11 => (Ci mJ1_indexOf_4cfef d [.ref (100001 + 2 * x0), .int x1, .int x2, .int r12] mem11 (fun r14 mem13 => P r14 mem13))))))))) :
    Ci mJ0_indexOf_7cf53 (d + 1) [.ref (100000 + 2 * x0), .int x1, .int x2] mem P := Cw_of rfl (Nat.le_of_ble_eq_true rfl) rfl (b_J0_indexOf_7cf53_0 mem x0 hx0 x1 x2 h)
set_option maxRecDepth 20000 in
theorem E_J0_coder_7d493 {d : Nat} {P : Int32 → wf_Mem → Prop} {mem : wf_Mem} (x0 : Nat) (hx0 : x0 < 6)
    (h : P 0 mem) :
    Ci mJ0_coder_7d493 d [.ref (100000 + 2 * x0)] mem P := Cw_of rfl (Nat.le_of_ble_eq_true rfl) rfl (b_J0_coder_7d493_0 mem x0 hx0 h)
set_option maxRecDepth 20000 in
theorem E_J0_isLatin1_aae02 {d : Nat} {P : Int32 → wf_Mem → Prop} {mem : wf_Mem} (x0 : Nat) (hx0 : x0 < 6)
    (h : P 1 mem) :
    Ci mJ0_isLatin1_aae02 d [.ref (100000 + 2 * x0)] mem P := Cw_of rfl (Nat.le_of_ble_eq_true rfl) rfl (b_J0_isLatin1_aae02_0 mem x0 hx0 h)
set_option maxRecDepth 20000 in
theorem E_J0_checkIndex_df160 {d : Nat} {P : wf_Mem → Prop} {mem : wf_Mem} (x0 : Int32) (x1 : Int32)
    (h : (∀ v4 : Value, v4 = .null ∨ v4 = .ref 90001 → (Ci mJ3_checkIndex_8e157 d [.int x0, .int x1, v4] mem (fun r6 mem5 => P mem5)))) :
    Cv mJ0_checkIndex_df160 (d + 1) [.int x0, .int x1] mem P := Cw_of rfl (Nat.le_of_ble_eq_true rfl) rfl (b_J0_checkIndex_df160_0 mem x0 x1 h)
set_option maxRecDepth 20000 in
theorem E_J1_charAt_3b067 {d : Nat} {P : Int32 → wf_Mem → Prop} {mem : wf_Mem} (x0 : Nat) (hx0 : x0 < 6) (x1 : Int32)
    (h : (Cv mJ0_checkIndex_df160 d [.int x1, .int (Int32.ofNat (wf_sLen.getD x0 0))] mem (fun mem2 => (vp_in x1 (wf_sLen.getD x0 0) ∧ (narrow .char (.int (((((wf_sByt.getD x0 []).getD x1.toNatClampNeg 0) &&& 255).toUInt32 % 65536).toInt32)) = .int (((((wf_sByt.getD x0 []).getD x1.toNatClampNeg 0) &&& 255).toUInt32 % 65536).toInt32) ∧ P (((((wf_sByt.getD x0 []).getD x1.toNatClampNeg 0) &&& 255).toUInt32 % 65536).toInt32) mem2))))) :
    Ci mJ1_charAt_3b067 (d + 1) [.ref (100001 + 2 * x0), .int x1] mem P := Cw_of rfl (Nat.le_of_ble_eq_true rfl) rfl (b_J1_charAt_3b067_0 mem x0 hx0 x1 h)
set_option maxRecDepth 20000 in
theorem E_J1_canEncode_9a6ad {d : Nat} {P : Int32 → wf_Mem → Prop} {mem : wf_Mem} (x0 : Int32)
    (h : ((x0 < 0 → P 0 mem) ∧ (¬ x0 < 0 → ((255 < x0 → P 0 mem) ∧ (¬ 255 < x0 → P 1 mem))))) :
    Ci mJ1_canEncode_9a6ad d [.int x0] mem P := Cw_of rfl (Nat.le_of_ble_eq_true rfl) rfl (b_J1_canEncode_9a6ad_0 mem x0 h)
set_option maxRecDepth 20000 in
theorem E_J1_indexOf_4cfef {d : Nat} {P : Int32 → wf_Mem → Prop} {mem : wf_Mem} (x0 : Nat) (hx0 : x0 < 6) (x1 : Int32) (x2 : Int32) (x3 : Int32)
    (h : (Ci mJ1_canEncode_9a6ad d [.int x1] mem (fun r10 mem9 => ((¬ r10 = 0 → (∀ x2_12 : Int32, x2_12 = (if x2 < 0 then 0 else x2) → (∀ x3_13 : Int32, x3_13 = (if (Int32.ofNat (wf_sLen.getD x0 0)) < x3 then (Int32.ofNat (wf_sLen.getD x0 0)) else x3) → ((x2_12 < x3_13 → (Ci mJ1_indexOfChar_4cfef d [.ref (100001 + 2 * x0), .int x1, .int x2_12, .int x3_13] mem9 (fun r16 mem15 => P r16 mem15))) ∧ (¬ x2_12 < x3_13 → P (-1) mem9))))) ∧ (r10 = 0 → P (-1) mem9))))) :
    Ci mJ1_indexOf_4cfef (d + 1) [.ref (100001 + 2 * x0), .int x1, .int x2, .int x3] mem P := Cw_of rfl (Nat.le_of_ble_eq_true rfl) rfl (b_J1_indexOf_4cfef_0 mem x0 hx0 x1 x2 x3 h)
set_option maxRecDepth 20000 in
theorem E_J1_indexOfChar_4cfef {d : Nat} {P : Int32 → wf_Mem → Prop} {mem : wf_Mem} (x0 : Nat) (hx0 : x0 < 6) (x1 : Int32) (x2 : Int32) (x3 : Int32)
    (h : (∀ x4_2 : Int32, x4_2 = (x1.toInt8.toInt32) → Vw (Ni d P) mJ1_indexOfChar_4cfef 7 [(0, .ref (100001 + 2 * x0)), (3, .int x3), (4, .int x4_2), (5, .int x2)] [] mem)) :
    Ci mJ1_indexOfChar_4cfef d [.ref (100001 + 2 * x0), .int x1, .int x2, .int x3] mem P := Cw_of rfl (Nat.le_of_ble_eq_true rfl) rfl (b_J1_indexOfChar_4cfef_0 mem x0 hx0 x1 x2 x3 h)
set_option maxRecDepth 20000 in
theorem E_J7_fill_53178 {d : Nat} {P : wf_Mem → Prop} {mem : wf_Mem} (x0 nx0 : Nat) (hx0 : wf_sh x0 = (20, nx0)) (x1 : Int32)
    (h : (∀ x3_2 : Int32, x3_2 = (Int32.ofNat nx0) → Vw (Nv d P) mJ7_fill_53178 5 [(0, .ref x0), (1, .int x1), (2, .int 0), (3, .int x3_2)] [] mem)) :
    Cv mJ7_fill_53178 d [.ref x0, .int x1] mem P := Cw_of rfl (Nat.le_of_ble_eq_true rfl) rfl (b_J7_fill_53178_0 mem x0 nx0 hx0 x1 h)
