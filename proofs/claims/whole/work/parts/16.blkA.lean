set_option maxRecDepth 20000 in
theorem b_X0_takeFrom_0 {d : Nat} {P : wf_Mem → Prop} (mem : wf_Mem) (x0 : Nat) (hx0 : wf_sh x0 = (0, 0)) (x1 : Nat) (hx1 : wf_sh x1 = (0, 0))
    (h : (Cv mX3_takeFrom d [.ref (x0 + 1), .ref (x1 + 1)] mem (fun mem1 => (∀ mem2 : wf_Mem, mem2 = wf_ms mem1 x0 2 (mem1 x1 2) → Vw (Nv (d + 1) P) mX0_takeFrom 21 [(0, .ref x0), (1, .ref x1), (2, .int 0)] [] mem2)))) :
    Vw (Nv (d + 1) P) mX0_takeFrom 0 [(0, .ref x0), (1, .ref x1)] [] mem := by
  refine V_aload_n 0 dX0_takeFrom_0 rfl ?_
  refine V_getf (v := .ref (x0 + 1)) gf_X0_12 dX0_takeFrom_1 hx0 rfl ?_
  refine V_aload_n 1 dX0_takeFrom_4 rfl ?_
  refine V_getf (v := .ref (x1 + 1)) gf_X0_12 dX0_takeFrom_5 hx1 rfl ?_
  refine V_cVv [.ref (x1 + 1)] mv_X3_takeFrom w_5 dX0_takeFrom_8 wf_rok_m (sh_0_0 hx0) rfl (by decide) rfl rfl (Nat.le_of_ble_eq_true rfl) h ?_
  intro mem1 h
  refine V_aload_n 0 dX0_takeFrom_11 rfl ?_
  refine V_aload_n 1 dX0_takeFrom_12 rfl ?_
  refine V_getf (v := .int (mem1 x1 2)) gf_X0_24 dX0_takeFrom_13 hx1 rfl ?_
  refine V_putf pf_X0_24 dX0_takeFrom_16 hx0 rfl rfl ?_
  refine V_topm (fun mem2 emem2 => ?_)
  have h := h mem2 emem2
  refine V_iconst (v := 0) dX0_takeFrom_19 rfl ?_
  refine V_istore_n (lv' := [(0, .ref x0), (1, .ref x1), (2, .int 0)]) dX0_takeFrom_20 (by decide) rfl rfl ?_
  exact h
set_option maxRecDepth 20000 in
theorem b_X0_takeFrom_21 {d : Nat} {P : wf_Mem → Prop} (mem : wf_Mem) (x0 : Nat) (hx0 : wf_sh x0 = (0, 0)) (x1 : Nat) (hx1 : wf_sh x1 = (0, 0)) (x2 : Int32)
    (h : (((mem x0 2) ≤ x2 → (∀ mem2 : wf_Mem, mem2 = wf_ms mem x0 3 (mem x1 3) → (∀ mem3 : wf_Mem, mem3 = wf_ms mem2 x0 4 (mem2 x1 4) → (∀ mem4 : wf_Mem, mem4 = wf_ms mem3 x0 5 (mem3 x1 5) → (∀ mem5 : wf_Mem, mem5 = wf_ms mem4 x0 6 (mem4 x1 6) → (∀ mem6 : wf_Mem, mem6 = wf_ms mem5 x0 7 (mem5 x1 7) → (∀ mem7 : wf_Mem, mem7 = wf_ms mem6 x0 8 (mem6 x1 8) → (∀ mem8 : wf_Mem, mem8 = wf_ms mem7 x0 9 (mem7 x1 9) → (∀ mem9 : wf_Mem, mem9 = wf_ms mem8 x0 10 (mem8 x1 10) → (∀ mem10 : wf_Mem, mem10 = wf_ms mem9 x0 12 (mem9 x1 12) → ((¬ (0 : Int32) < 0 ∧ ¬ (0 : Int32) < 0 ∧ ¬ (3 : Int32) < 0 ∧ (0 : Int32).toNatClampNeg + (3 : Int32).toNatClampNeg ≤ 3 ∧ (0 : Int32).toNatClampNeg + (3 : Int32).toNatClampNeg ≤ 3) ∧ ∀ mem11 : wf_Mem, mem11 = wf_mc mem10 (x1 + 6) (0 : Int32).toNatClampNeg (x0 + 6) (0 : Int32).toNatClampNeg (3 : Int32).toNatClampNeg → P mem11))))))))))) ∧ (¬ (mem x0 2) ≤ x2 → (vp_in x2 8 ∧ (vp_in x2 8 ∧ (Cv mX7_takeFrom d [.ref ((x0 + 5) + 4 + x2.toNatClampNeg), .ref ((x1 + 5) + 4 + x2.toNatClampNeg)] mem (fun mem14 => Vw (Nv (d + 1) P) mX0_takeFrom 21 [(0, .ref x0), (1, .ref x1), (2, .int (x2 + 1))] [] mem14))))))) :
    Vw (Nv (d + 1) P) mX0_takeFrom 21 [(0, .ref x0), (1, .ref x1), (2, .int x2)] [] mem := by
  refine V_iload_n 2 dX0_takeFrom_21 rfl ?_
  refine V_aload_n 0 dX0_takeFrom_22 rfl ?_
  refine V_getf (v := .int (mem x0 2)) gf_X0_24 dX0_takeFrom_23 hx0 rfl ?_
  refine V_icmp_ge (tgt := 50) dX0_takeFrom_26 rfl ⟨fun c1 => ?_, fun c1 => ?_⟩
  · have h := h.1 c1
    refine V_aload_n 0 dX0_takeFrom_50 rfl ?_
    refine V_aload_n 1 dX0_takeFrom_51 rfl ?_
    refine V_getf (v := .int (mem x1 3)) gf_X0_28 dX0_takeFrom_52 hx1 rfl ?_
    refine V_putf pf_X0_28 dX0_takeFrom_55 hx0 rfl rfl ?_
    refine V_topm (fun mem2 emem2 => ?_)
    have h := h mem2 emem2
    refine V_aload_n 0 dX0_takeFrom_58 rfl ?_
    refine V_aload_n 1 dX0_takeFrom_59 rfl ?_
    refine V_getf (v := .int (mem2 x1 4)) gf_X0_31 dX0_takeFrom_60 hx1 rfl ?_
    refine V_putf pf_X0_31 dX0_takeFrom_63 hx0 rfl rfl ?_
    refine V_topm (fun mem3 emem3 => ?_)
    have h := h mem3 emem3
    refine V_aload_n 0 dX0_takeFrom_66 rfl ?_
    refine V_aload_n 1 dX0_takeFrom_67 rfl ?_
    refine V_getf (v := .int (mem3 x1 5)) gf_X0_34 dX0_takeFrom_68 hx1 rfl ?_
    refine V_putf pf_X0_34 dX0_takeFrom_71 hx0 rfl rfl ?_
    refine V_topm (fun mem4 emem4 => ?_)
    have h := h mem4 emem4
    refine V_aload_n 0 dX0_takeFrom_74 rfl ?_
    refine V_aload_n 1 dX0_takeFrom_75 rfl ?_
    refine V_getf (v := .int (mem4 x1 6)) gf_X0_37 dX0_takeFrom_76 hx1 rfl ?_
    refine V_putf pf_X0_37 dX0_takeFrom_79 hx0 rfl rfl ?_
    refine V_topm (fun mem5 emem5 => ?_)
    have h := h mem5 emem5
    refine V_aload_n 0 dX0_takeFrom_82 rfl ?_
    refine V_aload_n 1 dX0_takeFrom_83 rfl ?_
    refine V_getf (v := .int (mem5 x1 7)) gf_X0_40 dX0_takeFrom_84 hx1 rfl ?_
    refine V_putf pf_X0_40 dX0_takeFrom_87 hx0 rfl rfl ?_
    refine V_topm (fun mem6 emem6 => ?_)
    have h := h mem6 emem6
    refine V_aload_n 0 dX0_takeFrom_90 rfl ?_
    refine V_aload_n 1 dX0_takeFrom_91 rfl ?_
    refine V_getf (v := .int (mem6 x1 8)) gf_X0_43 dX0_takeFrom_92 hx1 rfl ?_
    refine V_putf pf_X0_43 dX0_takeFrom_95 hx0 rfl rfl ?_
    refine V_topm (fun mem7 emem7 => ?_)
    have h := h mem7 emem7
    refine V_aload_n 0 dX0_takeFrom_98 rfl ?_
    refine V_aload_n 1 dX0_takeFrom_99 rfl ?_
    refine V_getf (v := .int (mem7 x1 9)) gf_X0_46 dX0_takeFrom_100 hx1 rfl ?_
    refine V_putf pf_X0_46 dX0_takeFrom_103 hx0 rfl rfl ?_
    refine V_topm (fun mem8 emem8 => ?_)
    have h := h mem8 emem8
    refine V_aload_n 0 dX0_takeFrom_106 rfl ?_
    refine V_aload_n 1 dX0_takeFrom_107 rfl ?_
    refine V_getf (v := .int (mem8 x1 10)) gf_X0_49 dX0_takeFrom_108 hx1 rfl ?_
    refine V_putf pf_X0_49 dX0_takeFrom_111 hx0 rfl rfl ?_
    refine V_topm (fun mem9 emem9 => ?_)
    have h := h mem9 emem9
    refine V_aload_n 0 dX0_takeFrom_114 rfl ?_
    refine V_aload_n 1 dX0_takeFrom_115 rfl ?_
    refine V_getf (v := .int (mem9 x1 12)) gf_X0_52 dX0_takeFrom_116 hx1 rfl ?_
    refine V_putf pf_X0_52 dX0_takeFrom_119 hx0 rfl rfl ?_
    refine V_topm (fun mem10 emem10 => ?_)
    have h := h mem10 emem10
    refine V_aload_n 1 dX0_takeFrom_122 rfl ?_
    refine V_getf (v := .ref (x1 + 6)) gf_X0_56 dX0_takeFrom_123 hx1 rfl ?_
    refine V_iconst (v := 0) dX0_takeFrom_126 rfl ?_
    refine V_aload_n 0 dX0_takeFrom_127 rfl ?_
    refine V_getf (v := .ref (x0 + 6)) gf_X0_56 dX0_takeFrom_128 hx0 rfl ?_
    refine V_iconst (v := 0) dX0_takeFrom_131 rfl ?_
    refine V_aload_n 0 dX0_takeFrom_132 rfl ?_
    refine V_getf (v := .ref (x0 + 6)) gf_X0_56 dX0_takeFrom_133 hx0 rfl ?_
    refine V_alen (v := 3) dX0_takeFrom_136 (sh_0_13 hx0) rfl ?_
    refine V_copy w_17 wm_copy dX0_takeFrom_137 wf_rok_m (Nat.le_of_ble_eq_true rfl) (sh_0_13 hx1) (sh_0_13 hx0) ⟨h.1, ?_⟩
    refine V_topm (fun mem11 emem11 => ?_)
    have h := h.2 mem11 emem11
    exact V_vret dX0_takeFrom_140 rfl h
  · have h := h.2 c1
    refine V_aload_n 0 dX0_takeFrom_29 rfl ?_
    refine V_getf (v := .ref (x0 + 5)) gf_X0_20 dX0_takeFrom_30 hx0 rfl ?_
    refine V_iload_n 2 dX0_takeFrom_33 rfl ?_
    have hi12 := h.1
    refine V_aald (b := ((x0 + 5) + 4 + x2.toNatClampNeg)) dX0_takeFrom_34 (sh_0_1 hx0) (by decide) (by decide) rfl ⟨hi12, ?_⟩
    have h := h.2
    refine V_aload_n 1 dX0_takeFrom_35 rfl ?_
    refine V_getf (v := .ref (x1 + 5)) gf_X0_20 dX0_takeFrom_36 hx1 rfl ?_
    refine V_iload_n 2 dX0_takeFrom_39 rfl ?_
    have hi13 := h.1
    refine V_aald (b := ((x1 + 5) + 4 + x2.toNatClampNeg)) dX0_takeFrom_40 (sh_0_1 hx1) (by decide) (by decide) rfl ⟨hi13, ?_⟩
    have h := h.2
    refine V_cVv [.ref ((x1 + 5) + 4 + x2.toNatClampNeg)] mv_X7_takeFrom w_23 dX0_takeFrom_41 wf_rok_m (sh_r22 (sh_0_1 hx0) (wf_in_lt hi12)) rfl (by decide) rfl rfl (Nat.le_of_ble_eq_true rfl) h ?_
    intro mem14 h
    refine V_iinc (v := (x2 + 1)) (lv' := [(0, .ref x0), (1, .ref x1), (2, .int (x2 + 1))]) 2 dX0_takeFrom_44 rfl rfl (by decide) rfl rfl ?_
    refine V_goto (tgt := 21) dX0_takeFrom_47 rfl ?_
    exact h
set_option maxRecDepth 20000 in
theorem b_X0_hasWatcher_0 {d : Nat} {P : Int32 → wf_Mem → Prop} (mem : wf_Mem) (x0 : Nat) (hx0 : wf_sh x0 = (0, 0)) (x1 : Int32)
    (h : (Ci mX8_within d [.int x1, .int 0, .int ((mem x0 2) - 1)] mem (fun r2 mem1 => ((r2 = 0 ∨ r2 = 1) ∧ P r2 mem1)))) :
    Vw (Ni (d + 1) P) mX0_hasWatcher 0 [(0, .ref x0), (1, .int x1)] [] mem := by
  refine V_iload_n 1 dX0_hasWatcher_0 rfl ?_
  refine V_iconst (v := 0) dX0_hasWatcher_1 rfl ?_
  refine V_aload_n 0 dX0_hasWatcher_2 rfl ?_
  refine V_getf (v := .int (mem x0 2)) gf_X0_24 dX0_hasWatcher_3 hx0 rfl ?_
  refine V_iconst (v := 1) dX0_hasWatcher_6 rfl ?_
  refine V_isub dX0_hasWatcher_7 ?_
  refine V_cNi (host := RX8) [.int x1, .int 0, .int ((mem x0 2) - 1)] ms_X8_within (by decide +kernel) dX0_hasWatcher_8 wf_rok_m rfl rfl (Nat.le_of_ble_eq_true rfl) h ?_
  intro r2 mem1 h
  exact V_zret dX0_hasWatcher_11 rfl (wf_nb h.1) h.2
set_option maxRecDepth 20000 in
theorem b_X0_hires_0 {d : Nat} {P : Int32 → wf_Mem → Prop} (mem : wf_Mem) (x0 : Nat) (hx0 : wf_sh x0 = (0, 0)) (x1 : Int32) (x2 : Int32) (x3 : Int32)
    (h : (((mem x0 2) < 8 → (vp_in (mem x0 2) 8 ∧ (∀ mem3 : wf_Mem, mem3 = wf_ms mem ((x0 + 5) + 4 + (mem x0 2).toNatClampNeg) 0 x1 → (∀ mem4 : wf_Mem, mem4 = wf_ms mem3 ((x0 + 5) + 4 + (mem x0 2).toNatClampNeg) 1 x2 → (∀ mem5 : wf_Mem, mem5 = wf_ms mem4 ((x0 + 5) + 4 + (mem x0 2).toNatClampNeg) 2 x3 → (∀ mem6 : wf_Mem, mem6 = wf_ms mem5 ((x0 + 5) + 4 + (mem x0 2).toNatClampNeg) 3 0 → (∀ mem7 : wf_Mem, mem7 = wf_ms mem6 ((x0 + 5) + 4 + (mem x0 2).toNatClampNeg) 4 0 → (∀ mem8 : wf_Mem, mem8 = wf_ms mem7 x0 2 ((mem7 x0 2) + 1) → P ((mem8 x0 2) - 1) mem8)))))))) ∧ (¬ (mem x0 2) < 8 → P (-1000000003) mem))) :
    Vw (Ni d P) mX0_hires 0 [(0, .ref x0), (1, .int x1), (2, .int x2), (3, .int x3)] [] mem := by
  refine V_aload_n 0 dX0_hires_0 rfl ?_
  refine V_getf (v := .int (mem x0 2)) gf_X0_24 dX0_hires_1 hx0 rfl ?_
  refine V_bipush (v := 8) dX0_hires_4 rfl ?_
  refine V_icmp_lt (tgt := 12) dX0_hires_6 rfl ⟨fun c1 => ?_, fun c1 => ?_⟩
  · have h := h.1 c1
    refine V_aload_n 0 dX0_hires_12 rfl ?_
    refine V_getf (v := .ref (x0 + 5)) gf_X0_20 dX0_hires_13 hx0 rfl ?_
    refine V_aload_n 0 dX0_hires_16 rfl ?_
    refine V_getf (v := .int (mem x0 2)) gf_X0_24 dX0_hires_17 hx0 rfl ?_
    have hi2 := h.1
    refine V_aald (b := ((x0 + 5) + 4 + (mem x0 2).toNatClampNeg)) dX0_hires_20 (sh_0_1 hx0) (by decide) (by decide) rfl ⟨hi2, ?_⟩
    have h := h.2
    refine V_astore (lv' := [(0, .ref x0), (1, .int x1), (2, .int x2), (3, .int x3), (4, .ref ((x0 + 5) + 4 + (mem x0 2).toNatClampNeg))]) dX0_hires_21 (by decide) rfl rfl ?_
    refine V_aload 4 dX0_hires_23 rfl ?_
    refine V_iload_n 1 dX0_hires_25 rfl ?_
    refine V_putf pf_X0_92 dX0_hires_26 (sh_r22 (sh_0_1 hx0) (wf_in_lt hi2)) rfl rfl ?_
    refine V_topm (fun mem3 emem3 => ?_)
    have h := h mem3 emem3
    refine V_aload 4 dX0_hires_29 rfl ?_
    refine V_iload_n 2 dX0_hires_31 rfl ?_
    refine V_putf pf_X0_95 dX0_hires_32 (sh_r22 (sh_0_1 hx0) (wf_in_lt hi2)) rfl rfl ?_
    refine V_topm (fun mem4 emem4 => ?_)
    have h := h mem4 emem4
    refine V_aload 4 dX0_hires_35 rfl ?_
    refine V_iload_n 3 dX0_hires_37 rfl ?_
    refine V_putf pf_X0_98 dX0_hires_38 (sh_r22 (sh_0_1 hx0) (wf_in_lt hi2)) rfl rfl ?_
    refine V_topm (fun mem5 emem5 => ?_)
    have h := h mem5 emem5
    refine V_aload 4 dX0_hires_41 rfl ?_
    refine V_iconst (v := 0) dX0_hires_43 rfl ?_
    refine V_putf pf_X0_101 dX0_hires_44 (sh_r22 (sh_0_1 hx0) (wf_in_lt hi2)) rfl rfl ?_
    refine V_topm (fun mem6 emem6 => ?_)
    have h := h mem6 emem6
    refine V_aload 4 dX0_hires_47 rfl ?_
    refine V_iconst (v := 0) dX0_hires_49 rfl ?_
    refine V_putf pf_X0_104 dX0_hires_50 (sh_r22 (sh_0_1 hx0) (wf_in_lt hi2)) rfl rfl ?_
    refine V_topm (fun mem7 emem7 => ?_)
    have h := h mem7 emem7
    refine V_aload_n 0 dX0_hires_53 rfl ?_
    refine V_dup dX0_hires_54 rfl ?_
    refine V_getf (v := .int (mem7 x0 2)) gf_X0_24 dX0_hires_55 hx0 rfl ?_
    refine V_iconst (v := 1) dX0_hires_58 rfl ?_
    refine V_iadd dX0_hires_59 ?_
    refine V_putf pf_X0_24 dX0_hires_60 hx0 rfl rfl ?_
    refine V_topm (fun mem8 emem8 => ?_)
    have h := h mem8 emem8
    refine V_aload_n 0 dX0_hires_63 rfl ?_
    refine V_getf (v := .int (mem8 x0 2)) gf_X0_24 dX0_hires_64 hx0 rfl ?_
    refine V_iconst (v := 1) dX0_hires_67 rfl ?_
    refine V_isub dX0_hires_68 ?_
    exact V_iret dX0_hires_69 rfl h
  · have h := h.2 c1
    refine V_ldc w_32 dX0_hires_9 ?_
    exact V_iret dX0_hires_11 rfl h
set_option maxRecDepth 20000 in
theorem b_X0_draw_0 {d : Nat} {P : Int32 → wf_Mem → Prop} (mem : wf_Mem) (x0 : Nat) (hx0 : wf_sh x0 = (0, 0))
    (h : (∀ mem1 : wf_Mem, mem1 = wf_ms mem x0 10 (((mem x0 10) * 1103515245) + 12345) → P (((mem1 x0 10).toUInt32 >>> ((8 : Int32).toUInt32 &&& Int32.toUInt32 31)).toInt32) mem1)) :
    Vw (Ni d P) mX0_draw 0 [(0, .ref x0)] [] mem := by
  refine V_aload_n 0 dX0_draw_0 rfl ?_
  refine V_aload_n 0 dX0_draw_1 rfl ?_
  refine V_getf (v := .int (mem x0 10)) gf_X0_49 dX0_draw_2 hx0 rfl ?_
  refine V_ldc w_33 dX0_draw_5 ?_
  refine V_imul dX0_draw_7 ?_
  refine V_sipush (v := 12345) dX0_draw_8 rfl ?_
  refine V_iadd dX0_draw_11 ?_
  refine V_putf pf_X0_49 dX0_draw_12 hx0 rfl rfl ?_
  refine V_topm (fun mem1 emem1 => ?_)
  have h := h mem1 emem1
  refine V_aload_n 0 dX0_draw_15 rfl ?_
  refine V_getf (v := .int (mem1 x0 10)) gf_X0_49 dX0_draw_16 hx0 rfl ?_
  refine V_bipush (v := 8) dX0_draw_19 rfl ?_
  refine V_iushr dX0_draw_21 ?_
  exact V_iret dX0_draw_22 rfl h
set_option maxRecDepth 20000 in
theorem b_X0_onMany_0 {d : Nat} {P : Int32 → wf_Mem → Prop} (mem : wf_Mem) (x0 : Nat) (hx0 : wf_sh x0 = (0, 0))
    (h : Vw (Ni d P) mX0_onMany 4 [(0, .ref x0), (1, .int 0), (2, .int 0)] [] mem) :
    Vw (Ni d P) mX0_onMany 0 [(0, .ref x0)] [] mem := by
  refine V_iconst (v := 0) dX0_onMany_0 rfl ?_
  refine V_istore_n (lv' := [(0, .ref x0), (1, .int 0)]) dX0_onMany_1 (by decide) rfl rfl ?_
  refine V_iconst (v := 0) dX0_onMany_2 rfl ?_
  refine V_istore_n (lv' := [(0, .ref x0), (1, .int 0), (2, .int 0)]) dX0_onMany_3 (by decide) rfl rfl ?_
  exact h
set_option maxRecDepth 20000 in
theorem b_X0_onMany_4 {d : Nat} {P : Int32 → wf_Mem → Prop} (mem : wf_Mem) (x0 : Nat) (hx0 : wf_sh x0 = (0, 0)) (x1 : Int32) (x2 : Int32)
    (h : (((mem x0 2) ≤ x2 → P x1 mem) ∧ (¬ (mem x0 2) ≤ x2 → (vp_in x2 8 ∧ (∀ x1_3 : Int32, x1_3 = (x1 + (mem ((x0 + 5) + 4 + x2.toNatClampNeg) 4)) → Vw (Ni d P) mX0_onMany 4 [(0, .ref x0), (1, .int x1_3), (2, .int (x2 + 1))] [] mem))))) :
    Vw (Ni d P) mX0_onMany 4 [(0, .ref x0), (1, .int x1), (2, .int x2)] [] mem := by
  refine V_iload_n 2 dX0_onMany_4 rfl ?_
  refine V_aload_n 0 dX0_onMany_5 rfl ?_
  refine V_getf (v := .int (mem x0 2)) gf_X0_24 dX0_onMany_6 hx0 rfl ?_
  refine V_icmp_ge (tgt := 30) dX0_onMany_9 rfl ⟨fun c1 => ?_, fun c1 => ?_⟩
  · have h := h.1 c1
    refine V_iload_n 1 dX0_onMany_30 rfl ?_
    exact V_iret dX0_onMany_31 rfl h
  · have h := h.2 c1
    refine V_iload_n 1 dX0_onMany_12 rfl ?_
    refine V_aload_n 0 dX0_onMany_13 rfl ?_
    refine V_getf (v := .ref (x0 + 5)) gf_X0_20 dX0_onMany_14 hx0 rfl ?_
    refine V_iload_n 2 dX0_onMany_17 rfl ?_
    have hi2 := h.1
    refine V_aald (b := ((x0 + 5) + 4 + x2.toNatClampNeg)) dX0_onMany_18 (sh_0_1 hx0) (by decide) (by decide) rfl ⟨hi2, ?_⟩
    have h := h.2
    refine V_getf (v := .int (mem ((x0 + 5) + 4 + x2.toNatClampNeg) 4)) gf_X0_104 dX0_onMany_19 (sh_r22 (sh_0_1 hx0) (wf_in_lt hi2)) rfl ?_
    refine V_iadd dX0_onMany_22 ?_
    refine V_topi (fun x1_3 ex1_3 => ?_)
    have h := h x1_3 ex1_3
    refine V_istore_n (lv' := [(0, .ref x0), (1, .int x1_3), (2, .int x2)]) dX0_onMany_23 (by decide) rfl rfl ?_
    refine V_iinc (v := (x2 + 1)) (lv' := [(0, .ref x0), (1, .int x1_3), (2, .int (x2 + 1))]) 2 dX0_onMany_24 rfl rfl (by decide) rfl rfl ?_
    refine V_goto (tgt := 4) dX0_onMany_27 rfl ?_
    exact h
set_option maxRecDepth 20000 in
theorem b_X0_wakesOnly_0 {d : Nat} {P : wf_Mem → Prop} (mem : wf_Mem) (x0 : Nat) (hx0 : wf_sh x0 = (0, 0)) (x1 : Int32)
    (h : Vw (Nv d P) mX0_wakesOnly 2 [(0, .ref x0), (1, .int x1), (2, .int 0)] [] mem) :
    Vw (Nv d P) mX0_wakesOnly 0 [(0, .ref x0), (1, .int x1)] [] mem := by
  refine V_iconst (v := 0) dX0_wakesOnly_0 rfl ?_
  refine V_istore_n (lv' := [(0, .ref x0), (1, .int x1), (2, .int 0)]) dX0_wakesOnly_1 (by decide) rfl rfl ?_
  exact h
set_option maxRecDepth 20000 in
theorem b_X0_wakesOnly_2 {d : Nat} {P : wf_Mem → Prop} (mem : wf_Mem) (x0 : Nat) (hx0 : wf_sh x0 = (0, 0)) (x1 : Int32) (x2 : Int32)
    (h : (((mem x0 2) ≤ x2 → P mem) ∧ (¬ (mem x0 2) ≤ x2 → (vp_in x2 8 ∧ ((¬ x2 = x1 → (∀ mem4 : wf_Mem, mem4 = wf_ms mem ((x0 + 5) + 4 + x2.toNatClampNeg) 4 0 → Vw (Nv d P) mX0_wakesOnly 2 [(0, .ref x0), (1, .int x1), (2, .int (x2 + 1))] [] mem4)) ∧ (x2 = x1 → (∀ mem5 : wf_Mem, mem5 = wf_ms mem ((x0 + 5) + 4 + x2.toNatClampNeg) 4 1 → Vw (Nv d P) mX0_wakesOnly 2 [(0, .ref x0), (1, .int x1), (2, .int (x2 + 1))] [] mem5))))))) :
    Vw (Nv d P) mX0_wakesOnly 2 [(0, .ref x0), (1, .int x1), (2, .int x2)] [] mem := by
  refine V_iload_n 2 dX0_wakesOnly_2 rfl ?_
  refine V_aload_n 0 dX0_wakesOnly_3 rfl ?_
  refine V_getf (v := .int (mem x0 2)) gf_X0_24 dX0_wakesOnly_4 hx0 rfl ?_
  refine V_icmp_ge (tgt := 35) dX0_wakesOnly_7 rfl ⟨fun c1 => ?_, fun c1 => ?_⟩
  · have h := h.1 c1
    exact V_vret dX0_wakesOnly_35 rfl h
  · have h := h.2 c1
    refine V_aload_n 0 dX0_wakesOnly_10 rfl ?_
    refine V_getf (v := .ref (x0 + 5)) gf_X0_20 dX0_wakesOnly_11 hx0 rfl ?_
    refine V_iload_n 2 dX0_wakesOnly_14 rfl ?_
    have hi2 := h.1
    refine V_aald (b := ((x0 + 5) + 4 + x2.toNatClampNeg)) dX0_wakesOnly_15 (sh_0_1 hx0) (by decide) (by decide) rfl ⟨hi2, ?_⟩
    have h := h.2
    refine V_iload_n 2 dX0_wakesOnly_16 rfl ?_
    refine V_iload_n 1 dX0_wakesOnly_17 rfl ?_
    refine V_icmp_ne (tgt := 25) dX0_wakesOnly_18 rfl ⟨fun c3 => ?_, fun c3 => ?_⟩
    · have h := h.1 c3
      refine V_iconst (v := 0) dX0_wakesOnly_25 rfl ?_
      refine V_putf pf_X0_104 dX0_wakesOnly_26 (sh_r22 (sh_0_1 hx0) (wf_in_lt hi2)) rfl rfl ?_
      refine V_topm (fun mem4 emem4 => ?_)
      have h := h mem4 emem4
      refine V_iinc (v := (x2 + 1)) (lv' := [(0, .ref x0), (1, .int x1), (2, .int (x2 + 1))]) 2 dX0_wakesOnly_29 rfl rfl (by decide) rfl rfl ?_
      refine V_goto (tgt := 2) dX0_wakesOnly_32 rfl ?_
      exact h
    · have h := h.2 c3
      refine V_iconst (v := 1) dX0_wakesOnly_21 rfl ?_
      refine V_goto (tgt := 26) dX0_wakesOnly_22 rfl ?_
      refine V_putf pf_X0_104 dX0_wakesOnly_26 (sh_r22 (sh_0_1 hx0) (wf_in_lt hi2)) rfl rfl ?_
      refine V_topm (fun mem5 emem5 => ?_)
      have h := h mem5 emem5
      refine V_iinc (v := (x2 + 1)) (lv' := [(0, .ref x0), (1, .int x1), (2, .int (x2 + 1))]) 2 dX0_wakesOnly_29 rfl rfl (by decide) rfl rfl ?_
      refine V_goto (tgt := 2) dX0_wakesOnly_32 rfl ?_
      exact h
set_option maxRecDepth 20000 in
theorem b_X0_byLaw_0 {d : Nat} {P : Int32 → wf_Mem → Prop} (mem : wf_Mem) (x0 : Nat) (hx0 : wf_sh x0 = (0, 0)) (x1 : Int32) (x2 : Int32) (x3 : Int32) (x4 : Int32) (x5 : Int32)
    (h : (vp_in x1 3 ∧ (∀ x6_1 : Int32, x6_1 = (mem (x0 + 6) x1.toNatClampNeg) → (Ci mX8_within d [.int x6_1, .int 0, .int ((mem x0 12) - 1)] mem (fun r3 mem2 => ((r3 = 0 → P x5 mem2) ∧ (¬ r3 = 0 → (vp_in x6_1 15 ∧ (Ci mX2_work d [.ref (10 + 1 + 2 * x6_1.toNatClampNeg), .int x2, .int x3, .int x4] mem2 (fun r7 mem6 => P r7 mem6)))))))))) :
    Vw (Ni (d + 1) P) mX0_byLaw 0 [(0, .ref x0), (1, .int x1), (2, .int x2), (3, .int x3), (4, .int x4), (5, .int x5)] [] mem := by
  refine V_aload_n 0 dX0_byLaw_0 rfl ?_
  refine V_getf (v := .ref (x0 + 6)) gf_X0_56 dX0_byLaw_1 hx0 rfl ?_
  refine V_iload_n 1 dX0_byLaw_4 rfl ?_
  refine V_iald dX0_byLaw_5 (sh_0_13 hx0) ⟨h.1, ?_⟩
  have h := h.2
  refine V_topi (fun x6_1 ex6_1 => ?_)
  have h := h x6_1 ex6_1
  refine V_istore (lv' := [(0, .ref x0), (1, .int x1), (2, .int x2), (3, .int x3), (4, .int x4), (5, .int x5), (6, .int x6_1)]) dX0_byLaw_6 (by decide) rfl rfl ?_
  refine V_iload 6 dX0_byLaw_8 rfl ?_
  refine V_iconst (v := 0) dX0_byLaw_10 rfl ?_
  refine V_aload_n 0 dX0_byLaw_11 rfl ?_
  refine V_getf (v := .int (mem x0 12)) gf_X0_52 dX0_byLaw_12 hx0 rfl ?_
  refine V_iconst (v := 1) dX0_byLaw_15 rfl ?_
  refine V_isub dX0_byLaw_16 ?_
  refine V_cNi (host := RX8) [.int x6_1, .int 0, .int ((mem x0 12) - 1)] ms_X8_within (by decide +kernel) dX0_byLaw_17 wf_rok_m rfl rfl (Nat.le_of_ble_eq_true rfl) h ?_
  intro r3 mem2 h
  refine V_if_eq (tgt := 40) dX0_byLaw_20 rfl ⟨fun c4 => ?_, fun c4 => ?_⟩
  · have h := h.1 c4
    refine V_iload 5 dX0_byLaw_40 rfl ?_
    exact V_iret dX0_byLaw_42 rfl h
  · have h := h.2 c4
    refine V_aload_n 0 dX0_byLaw_23 rfl ?_
    refine V_getf (v := .ref 10) gf_X0_69 dX0_byLaw_24 hx0 rfl ?_
    refine V_iload 6 dX0_byLaw_27 rfl ?_
    have hi5 := h.1
    refine V_aald (b := (10 + 1 + 2 * x6_1.toNatClampNeg)) dX0_byLaw_29 sh_a10 (by decide) (by decide) rfl ⟨hi5, ?_⟩
    have h := h.2
    refine V_iload_n 2 dX0_byLaw_30 rfl ?_
    refine V_iload_n 3 dX0_byLaw_31 rfl ?_
    refine V_iload 4 dX0_byLaw_32 rfl ?_
    refine V_cVi [.int x2, .int x3, .int x4] mv_X2_work w_39 dX0_byLaw_34 wf_rok_m (sh_r21 sh_a10 (wf_in_lt hi5)) rfl (by decide) rfl rfl (Nat.le_of_ble_eq_true rfl) h ?_
    intro r7 mem6 h
    refine V_goto (tgt := 42) dX0_byLaw_37 rfl ?_
    exact V_iret dX0_byLaw_42 rfl h
set_option maxRecDepth 20000 in
theorem b_X0_lightBy_0 {d : Nat} {P : Int32 → wf_Mem → Prop} (mem : wf_Mem) (x0 : Nat) (hx0 : wf_sh x0 = (0, 0)) (x1 : Int32) (x2 : Int32)
    (h : (Ci mX0_byLaw d [.ref x0, .int 0, .int x1, .int x2, .int (mem x0 3), .int ((2 * x1) + x2)] mem (fun r2 mem1 => (Ci mX8_held d [.int r2, .int 0, .int 99] mem1 (fun r4 mem3 => P r4 mem3))))) :
    Vw (Ni (d + 1) P) mX0_lightBy 0 [(0, .ref x0), (1, .int x1), (2, .int x2)] [] mem := by
  refine V_aload_n 0 dX0_lightBy_0 rfl ?_
  refine V_iconst (v := 0) dX0_lightBy_1 rfl ?_
  refine V_iload_n 1 dX0_lightBy_2 rfl ?_
  refine V_iload_n 2 dX0_lightBy_3 rfl ?_
  refine V_aload_n 0 dX0_lightBy_4 rfl ?_
  refine V_getf (v := .int (mem x0 3)) gf_X0_28 dX0_lightBy_5 hx0 rfl ?_
  refine V_iconst (v := 2) dX0_lightBy_8 rfl ?_
  refine V_iload_n 1 dX0_lightBy_9 rfl ?_
  refine V_imul dX0_lightBy_10 ?_
  refine V_iload_n 2 dX0_lightBy_11 rfl ?_
  refine V_iadd dX0_lightBy_12 ?_
  refine V_cVi [.int 0, .int x1, .int x2, .int (mem x0 3), .int ((2 * x1) + x2)] mv_X0_byLaw w_44 dX0_lightBy_13 wf_rok_m hx0 rfl (by decide) rfl rfl (Nat.le_of_ble_eq_true rfl) h ?_
  intro r2 mem1 h
  refine V_iconst (v := 0) dX0_lightBy_16 rfl ?_
  refine V_bipush (v := 99) dX0_lightBy_17 rfl ?_
  refine V_cNi (host := RX8) [.int r2, .int 0, .int 99] ms_X8_held (by decide +kernel) dX0_lightBy_19 wf_rok_m rfl rfl (Nat.le_of_ble_eq_true rfl) h ?_
  intro r4 mem3 h
  exact V_iret dX0_lightBy_22 rfl h
set_option maxRecDepth 20000 in
theorem b_X0_measure_0 {d : Nat} {P : wf_Mem → Prop} (mem : wf_Mem) (x0 : Nat) (hx0 : wf_sh x0 = (0, 0))
    (h : Vw (Nv (d + 1) P) mX0_measure 2 [(0, .ref x0), (1, .int 0)] [] mem) :
    Vw (Nv (d + 1) P) mX0_measure 0 [(0, .ref x0)] [] mem := by
  refine V_iconst (v := 0) dX0_measure_0 rfl ?_
  refine V_istore_n (lv' := [(0, .ref x0), (1, .int 0)]) dX0_measure_1 (by decide) rfl rfl ?_
  exact h
set_option maxRecDepth 20000 in
theorem b_X0_measure_2 {d : Nat} {P : wf_Mem → Prop} (mem : wf_Mem) (x0 : Nat) (hx0 : wf_sh x0 = (0, 0)) (x1 : Int32)
    (h : (((mem (x0 + 1) 0) ≤ x1 → Vw (Nv (d + 1) P) mX0_measure 60 [(0, .ref x0), (1, .int 0)] [] mem) ∧ (¬ (mem (x0 + 1) 0) ≤ x1 → (vp_in x1 12 ∧ (Ci mX3_nextFires d [.ref (x0 + 1), .int x1] mem (fun r3 mem2 => (Ci mX0_lightBy d [.ref x0, .int (mem ((x0 + 1) + 2) x1.toNatClampNeg), .int r3] mem2 (fun r5 mem4 => (vp_in x1 12 ∧ ∀ mem6 : wf_Mem, mem6 = wf_ms mem4 (x0 + 7) x1.toNatClampNeg r5 → (vp_in x1 12 ∧ (vp_in x1 12 ∧ ∀ mem7 : wf_Mem, mem7 = wf_ms mem6 (x0 + 8) x1.toNatClampNeg (mem6 (x0 + 7) x1.toNatClampNeg) → Vw (Nv (d + 1) P) mX0_measure 2 [(0, .ref x0), (1, .int (x1 + 1))] [] mem7))))))))))) :
    Vw (Nv (d + 1) P) mX0_measure 2 [(0, .ref x0), (1, .int x1)] [] mem := by
  refine V_iload_n 1 dX0_measure_2 rfl ?_
  refine V_aload_n 0 dX0_measure_3 rfl ?_
  refine V_getf (v := .ref (x0 + 1)) gf_X0_12 dX0_measure_4 hx0 rfl ?_
  refine V_getf (v := .int (mem (x0 + 1) 0)) gf_X0_121 dX0_measure_7 (sh_0_0 hx0) rfl ?_
  refine V_icmp_ge (tgt := 58) dX0_measure_10 rfl ⟨fun c1 => ?_, fun c1 => ?_⟩
  · have h := h.1 c1
    refine V_iconst (v := 0) dX0_measure_58 rfl ?_
    refine V_istore_n (lv' := [(0, .ref x0), (1, .int 0)]) dX0_measure_59 (by decide) rfl rfl ?_
    exact h
  · have h := h.2 c1
    refine V_aload_n 0 dX0_measure_13 rfl ?_
    refine V_getf (v := .ref (x0 + 7)) gf_X0_60 dX0_measure_14 hx0 rfl ?_
    refine V_iload_n 1 dX0_measure_17 rfl ?_
    refine V_aload_n 0 dX0_measure_18 rfl ?_
    refine V_aload_n 0 dX0_measure_19 rfl ?_
    refine V_getf (v := .ref (x0 + 1)) gf_X0_12 dX0_measure_20 hx0 rfl ?_
    refine V_getf (v := .ref ((x0 + 1) + 2)) gf_X0_124 dX0_measure_23 (sh_0_0 hx0) rfl ?_
    refine V_iload_n 1 dX0_measure_26 rfl ?_
    refine V_iald dX0_measure_27 (sh_3_2 (sh_0_0 hx0)) ⟨h.1, ?_⟩
    have h := h.2
    refine V_aload_n 0 dX0_measure_28 rfl ?_
    refine V_getf (v := .ref (x0 + 1)) gf_X0_12 dX0_measure_29 hx0 rfl ?_
    refine V_iload_n 1 dX0_measure_32 rfl ?_
    refine V_cVi [.int x1] mv_X3_nextFires w_53 dX0_measure_33 wf_rok_m (sh_0_0 hx0) rfl (by decide) rfl rfl (Nat.le_of_ble_eq_true rfl) h ?_
    intro r3 mem2 h
    refine V_cVi [.int (mem ((x0 + 1) + 2) x1.toNatClampNeg), .int r3] mv_X0_lightBy w_57 dX0_measure_36 wf_rok_m hx0 rfl (by decide) rfl rfl (Nat.le_of_ble_eq_true rfl) h ?_
    intro r5 mem4 h
    refine V_iast dX0_measure_39 (sh_0_14 hx0) ⟨h.1, ?_⟩
    refine V_topm (fun mem6 emem6 => ?_)
    have h := h.2 mem6 emem6
    refine V_aload_n 0 dX0_measure_40 rfl ?_
    refine V_getf (v := .ref (x0 + 8)) gf_X0_63 dX0_measure_41 hx0 rfl ?_
    refine V_iload_n 1 dX0_measure_44 rfl ?_
    refine V_aload_n 0 dX0_measure_45 rfl ?_
    refine V_getf (v := .ref (x0 + 7)) gf_X0_60 dX0_measure_46 hx0 rfl ?_
    refine V_iload_n 1 dX0_measure_49 rfl ?_
    refine V_iald dX0_measure_50 (sh_0_14 hx0) ⟨h.1, ?_⟩
    have h := h.2
    refine V_iast dX0_measure_51 (sh_0_15 hx0) ⟨h.1, ?_⟩
    refine V_topm (fun mem7 emem7 => ?_)
    have h := h.2 mem7 emem7
    refine V_iinc (v := (x1 + 1)) (lv' := [(0, .ref x0), (1, .int (x1 + 1))]) 1 dX0_measure_52 rfl rfl (by decide) rfl rfl ?_
    refine V_goto (tgt := 2) dX0_measure_55 rfl ?_
    exact h
set_option maxRecDepth 20000 in
theorem b_X0_measure_60 {d : Nat} {P : wf_Mem → Prop} (mem : wf_Mem) (x0 : Nat) (hx0 : wf_sh x0 = (0, 0)) (x1 : Int32)
    (h : (((mem x0 2) ≤ x1 → P mem) ∧ (¬ (mem x0 2) ≤ x1 → (vp_in x1 8 ∧ (∀ x2_3 : Int32, x2_3 = (mem ((x0 + 5) + 4 + x1.toNatClampNeg) 1) → (Ci mX3_has d [.ref (x0 + 1), .int x2_3] mem (fun r5 mem4 => ((r5 = 0 → Vw (Nv (d + 1) P) mX0_measure 60 [(0, .ref x0), (1, .int (x1 + 1))] [] mem4) ∧ (¬ r5 = 0 → (vp_in x2_3 12 ∧ (vp_in x1 8 ∧ (Ci mX0_sightOf d [.ref x0, .ref ((x0 + 5) + 4 + x1.toNatClampNeg)] mem4 (fun r9 mem8 => (vp_in x2_3 12 ∧ ∀ mem10 : wf_Mem, mem10 = wf_ms mem8 (x0 + 8) x2_3.toNatClampNeg ((mem4 (x0 + 8) x2_3.toNatClampNeg) + r9) → Vw (Nv (d + 1) P) mX0_measure 60 [(0, .ref x0), (1, .int (x1 + 1))] [] mem10)))))))))))))) :
    Vw (Nv (d + 1) P) mX0_measure 60 [(0, .ref x0), (1, .int x1)] [] mem := by
  refine V_iload_n 1 dX0_measure_60 rfl ?_
  refine V_aload_n 0 dX0_measure_61 rfl ?_
  refine V_getf (v := .int (mem x0 2)) gf_X0_24 dX0_measure_62 hx0 rfl ?_
  refine V_icmp_ge (tgt := 114) dX0_measure_65 rfl ⟨fun c1 => ?_, fun c1 => ?_⟩
  · have h := h.1 c1
    exact V_vret dX0_measure_114 rfl h
  · have h := h.2 c1
    refine V_aload_n 0 dX0_measure_68 rfl ?_
    refine V_getf (v := .ref (x0 + 5)) gf_X0_20 dX0_measure_69 hx0 rfl ?_
    refine V_iload_n 1 dX0_measure_72 rfl ?_
    have hi2 := h.1
    refine V_aald (b := ((x0 + 5) + 4 + x1.toNatClampNeg)) dX0_measure_73 (sh_0_1 hx0) (by decide) (by decide) rfl ⟨hi2, ?_⟩
    have h := h.2
    refine V_getf (v := .int (mem ((x0 + 5) + 4 + x1.toNatClampNeg) 1)) gf_X0_95 dX0_measure_74 (sh_r22 (sh_0_1 hx0) (wf_in_lt hi2)) rfl ?_
    refine V_topi (fun x2_3 ex2_3 => ?_)
    have h := h x2_3 ex2_3
    refine V_istore_n (lv' := [(0, .ref x0), (1, .int x1), (2, .int x2_3)]) dX0_measure_77 (by decide) rfl rfl ?_
    refine V_aload_n 0 dX0_measure_78 rfl ?_
    refine V_getf (v := .ref (x0 + 1)) gf_X0_12 dX0_measure_79 hx0 rfl ?_
    refine V_iload_n 2 dX0_measure_82 rfl ?_
    refine V_cVi [.int x2_3] mv_X3_has w_62 dX0_measure_83 wf_rok_m (sh_0_0 hx0) rfl (by decide) rfl rfl (Nat.le_of_ble_eq_true rfl) h ?_
    intro r5 mem4 h
    refine V_if_eq (tgt := 108) dX0_measure_86 rfl ⟨fun c6 => ?_, fun c6 => ?_⟩
    · have h := h.1 c6
      refine V_iinc (v := (x1 + 1)) (lv' := [(0, .ref x0), (1, .int (x1 + 1)), (2, .int x2_3)]) 1 dX0_measure_108 rfl rfl (by decide) rfl rfl ?_
      refine V_goto (tgt := 60) dX0_measure_111 rfl ?_
      exact V_sub [0, 1] rfl h
    · have h := h.2 c6
      refine V_aload_n 0 dX0_measure_89 rfl ?_
      refine V_getf (v := .ref (x0 + 8)) gf_X0_63 dX0_measure_90 hx0 rfl ?_
      refine V_iload_n 2 dX0_measure_93 rfl ?_
      refine V_dup2 dX0_measure_94 rfl rfl ?_
      refine V_iald dX0_measure_95 (sh_0_15 hx0) ⟨h.1, ?_⟩
      have h := h.2
      refine V_aload_n 0 dX0_measure_96 rfl ?_
      refine V_aload_n 0 dX0_measure_97 rfl ?_
      refine V_getf (v := .ref (x0 + 5)) gf_X0_20 dX0_measure_98 hx0 rfl ?_
      refine V_iload_n 1 dX0_measure_101 rfl ?_
      have hi7 := h.1
      refine V_aald (b := ((x0 + 5) + 4 + x1.toNatClampNeg)) dX0_measure_102 (sh_0_1 hx0) (by decide) (by decide) rfl ⟨hi7, ?_⟩
      have h := h.2
      refine V_cVi [.ref ((x0 + 5) + 4 + x1.toNatClampNeg)] mv_X0_sightOf w_66 dX0_measure_103 wf_rok_m hx0 rfl (by decide) rfl rfl (Nat.le_of_ble_eq_true rfl) h ?_
      intro r9 mem8 h
      refine V_iadd dX0_measure_106 ?_
      refine V_iast dX0_measure_107 (sh_0_15 hx0) ⟨h.1, ?_⟩
      refine V_topm (fun mem10 emem10 => ?_)
      have h := h.2 mem10 emem10
      refine V_iinc (v := (x1 + 1)) (lv' := [(0, .ref x0), (1, .int (x1 + 1)), (2, .int x2_3)]) 1 dX0_measure_108 rfl rfl (by decide) rfl rfl ?_
      refine V_goto (tgt := 60) dX0_measure_111 rfl ?_
      exact V_sub [0, 1] rfl h
set_option maxRecDepth 20000 in
theorem b_X0_sightOf_0 {d : Nat} {P : Int32 → wf_Mem → Prop} (mem : wf_Mem) (x0 : Nat) (hx0 : wf_sh x0 = (0, 0)) (x1 : Nat) (hx1 : wf_sh x1 = (7, 0))
    (h : (Ci mX3_has d [.ref (x0 + 1), .int (mem x1 1)] mem (fun r2 mem1 => ((r2 = 0 → P 0 mem1) ∧ (¬ r2 = 0 → (vp_in (mem1 x1 1) 12 ∧ (vp_in (mem1 x1 1) 12 ∧ (Ci mX7_sight d [.ref x1, .int (mem1 (x0 + 7) (mem1 x1 1).toNatClampNeg), .int (mem1 ((x0 + 1) + 1) (mem1 x1 1).toNatClampNeg)] mem1 (fun r5 mem4 => P r5 mem4))))))))) :
    Vw (Ni (d + 1) P) mX0_sightOf 0 [(0, .ref x0), (1, .ref x1)] [] mem := by
  refine V_aload_n 0 dX0_sightOf_0 rfl ?_
  refine V_getf (v := .ref (x0 + 1)) gf_X0_12 dX0_sightOf_1 hx0 rfl ?_
  refine V_aload_n 1 dX0_sightOf_4 rfl ?_
  refine V_getf (v := .int (mem x1 1)) gf_X0_95 dX0_sightOf_5 hx1 rfl ?_
  refine V_cVi [.int (mem x1 1)] mv_X3_has w_62 dX0_sightOf_8 wf_rok_m (sh_0_0 hx0) rfl (by decide) rfl rfl (Nat.le_of_ble_eq_true rfl) h ?_
  intro r2 mem1 h
  refine V_if_eq (tgt := 42) dX0_sightOf_11 rfl ⟨fun c3 => ?_, fun c3 => ?_⟩
  · have h := h.1 c3
    refine V_iconst (v := 0) dX0_sightOf_42 rfl ?_
    exact V_iret dX0_sightOf_43 rfl h
  · have h := h.2 c3
    refine V_aload_n 1 dX0_sightOf_14 rfl ?_
    refine V_aload_n 0 dX0_sightOf_15 rfl ?_
    refine V_getf (v := .ref (x0 + 7)) gf_X0_60 dX0_sightOf_16 hx0 rfl ?_
    refine V_aload_n 1 dX0_sightOf_19 rfl ?_
    refine V_getf (v := .int (mem1 x1 1)) gf_X0_95 dX0_sightOf_20 hx1 rfl ?_
    refine V_iald dX0_sightOf_23 (sh_0_14 hx0) ⟨h.1, ?_⟩
    have h := h.2
    refine V_aload_n 0 dX0_sightOf_24 rfl ?_
    refine V_getf (v := .ref (x0 + 1)) gf_X0_12 dX0_sightOf_25 hx0 rfl ?_
    refine V_getf (v := .ref ((x0 + 1) + 1)) gf_X0_143 dX0_sightOf_28 (sh_0_0 hx0) rfl ?_
    refine V_aload_n 1 dX0_sightOf_31 rfl ?_
    refine V_getf (v := .int (mem1 x1 1)) gf_X0_95 dX0_sightOf_32 hx1 rfl ?_
    refine V_iald dX0_sightOf_35 (sh_3_1 (sh_0_0 hx0)) ⟨h.1, ?_⟩
    have h := h.2
    refine V_cVi [.int (mem1 (x0 + 7) (mem1 x1 1).toNatClampNeg), .int (mem1 ((x0 + 1) + 1) (mem1 x1 1).toNatClampNeg)] mv_X7_sight w_71 dX0_sightOf_36 wf_rok_m hx1 rfl (by decide) rfl rfl (Nat.le_of_ble_eq_true rfl) h ?_
    intro r5 mem4 h
    refine V_goto (tgt := 43) dX0_sightOf_39 rfl ?_
    exact V_iret dX0_sightOf_43 rfl h
set_option maxRecDepth 20000 in
theorem b_X0_fearsOf_0 {d : Nat} {P : Int32 → wf_Mem → Prop} (mem : wf_Mem) (x0 : Nat) (hx0 : wf_sh x0 = (0, 0)) (x1 : Int32)
    (h : (Ci mX3_has d [.ref (x0 + 1), .int x1] mem (fun r2 mem1 => ((¬ r2 = 0 → (vp_in x1 12 ∧ (∀ x2_4 : Int32, x2_4 = (mem1 ((x0 + 1) + 3) x1.toNatClampNeg) → (vp_in x1 12 ∧ (vp_in x1 12 ∧ (Ci mX0_byLaw d [.ref x0, .int 1, .int (mem1 (x0 + 8) x1.toNatClampNeg), .int x2_4, .int (mem1 x0 5), .int ((mem1 (x0 + 8) x1.toNatClampNeg) + x2_4)] mem1 (fun r6 mem5 => (Ci mX8_held d [.int r6, .int 0, .int 999] mem5 (fun r8 mem7 => P r8 mem7))))))))) ∧ (r2 = 0 → P 0 mem1))))) :
    Vw (Ni (d + 1) P) mX0_fearsOf 0 [(0, .ref x0), (1, .int x1)] [] mem := by
  refine V_aload_n 0 dX0_fearsOf_0 rfl ?_
  refine V_getf (v := .ref (x0 + 1)) gf_X0_12 dX0_fearsOf_1 hx0 rfl ?_
  refine V_iload_n 1 dX0_fearsOf_4 rfl ?_
  refine V_cVi [.int x1] mv_X3_has w_62 dX0_fearsOf_5 wf_rok_m (sh_0_0 hx0) rfl (by decide) rfl rfl (Nat.le_of_ble_eq_true rfl) h ?_
  intro r2 mem1 h
  refine V_if_ne (tgt := 13) dX0_fearsOf_8 rfl ⟨fun c3 => ?_, fun c3 => ?_⟩
  · have h := h.1 c3
    refine V_aload_n 0 dX0_fearsOf_13 rfl ?_
    refine V_getf (v := .ref (x0 + 1)) gf_X0_12 dX0_fearsOf_14 hx0 rfl ?_
    refine V_getf (v := .ref ((x0 + 1) + 3)) gf_X0_149 dX0_fearsOf_17 (sh_0_0 hx0) rfl ?_
    refine V_iload_n 1 dX0_fearsOf_20 rfl ?_
    refine V_iald dX0_fearsOf_21 (sh_3_3 (sh_0_0 hx0)) ⟨h.1, ?_⟩
    have h := h.2
    refine V_topi (fun x2_4 ex2_4 => ?_)
    have h := h x2_4 ex2_4
    refine V_istore_n (lv' := [(0, .ref x0), (1, .int x1), (2, .int x2_4)]) dX0_fearsOf_22 (by decide) rfl rfl ?_
    refine V_aload_n 0 dX0_fearsOf_23 rfl ?_
    refine V_iconst (v := 1) dX0_fearsOf_24 rfl ?_
    refine V_aload_n 0 dX0_fearsOf_25 rfl ?_
    refine V_getf (v := .ref (x0 + 8)) gf_X0_63 dX0_fearsOf_26 hx0 rfl ?_
    refine V_iload_n 1 dX0_fearsOf_29 rfl ?_
    refine V_iald dX0_fearsOf_30 (sh_0_15 hx0) ⟨h.1, ?_⟩
    have h := h.2
    refine V_iload_n 2 dX0_fearsOf_31 rfl ?_
    refine V_aload_n 0 dX0_fearsOf_32 rfl ?_
    refine V_getf (v := .int (mem1 x0 5)) gf_X0_34 dX0_fearsOf_33 hx0 rfl ?_
    refine V_aload_n 0 dX0_fearsOf_36 rfl ?_
    refine V_getf (v := .ref (x0 + 8)) gf_X0_63 dX0_fearsOf_37 hx0 rfl ?_
    refine V_iload_n 1 dX0_fearsOf_40 rfl ?_
    refine V_iald dX0_fearsOf_41 (sh_0_15 hx0) ⟨h.1, ?_⟩
    have h := h.2
    refine V_iload_n 2 dX0_fearsOf_42 rfl ?_
    refine V_iadd dX0_fearsOf_43 ?_
    refine V_cVi [.int 1, .int (mem1 (x0 + 8) x1.toNatClampNeg), .int x2_4, .int (mem1 x0 5), .int ((mem1 (x0 + 8) x1.toNatClampNeg) + x2_4)] mv_X0_byLaw w_44 dX0_fearsOf_44 wf_rok_m hx0 rfl (by decide) rfl rfl (Nat.le_of_ble_eq_true rfl) h ?_
    intro r6 mem5 h
    refine V_iconst (v := 0) dX0_fearsOf_47 rfl ?_
    refine V_sipush (v := 999) dX0_fearsOf_48 rfl ?_
    refine V_cNi (host := RX8) [.int r6, .int 0, .int 999] ms_X8_held (by decide +kernel) dX0_fearsOf_51 wf_rok_m rfl rfl (Nat.le_of_ble_eq_true rfl) h ?_
    intro r8 mem7 h
    exact V_iret dX0_fearsOf_54 rfl h
  · have h := h.2 c3
    refine V_iconst (v := 0) dX0_fearsOf_11 rfl ?_
    exact V_iret dX0_fearsOf_12 rfl h
set_option maxRecDepth 20000 in
theorem b_X0_leastFeared_0 {d : Nat} {P : Int32 → wf_Mem → Prop} (mem : wf_Mem) (x0 : Nat) (hx0 : wf_sh x0 = (0, 0))
    (h : Vw (Ni (d + 1) P) mX0_leastFeared 7 [(0, .ref x0), (1, .int (-1000000005)), (2, .int 0), (3, .int 0)] [] mem) :
    Vw (Ni (d + 1) P) mX0_leastFeared 0 [(0, .ref x0)] [] mem := by
  refine V_ldc w_73 dX0_leastFeared_0 ?_
  refine V_istore_n (lv' := [(0, .ref x0), (1, .int (-1000000005))]) dX0_leastFeared_2 (by decide) rfl rfl ?_
  refine V_iconst (v := 0) dX0_leastFeared_3 rfl ?_
  refine V_istore_n (lv' := [(0, .ref x0), (1, .int (-1000000005)), (2, .int 0)]) dX0_leastFeared_4 (by decide) rfl rfl ?_
  refine V_iconst (v := 0) dX0_leastFeared_5 rfl ?_
  refine V_istore_n (lv' := [(0, .ref x0), (1, .int (-1000000005)), (2, .int 0), (3, .int 0)]) dX0_leastFeared_6 (by decide) rfl rfl ?_
  exact h
set_option maxRecDepth 20000 in
theorem b_X0_leastFeared_7 {d : Nat} {P : Int32 → wf_Mem → Prop} (mem : wf_Mem) (x0 : Nat) (hx0 : wf_sh x0 = (0, 0)) (x1 : Int32) (x2 : Int32) (x3 : Int32)
    (h : (((mem (x0 + 1) 0) ≤ x3 → P x1 mem) ∧ (¬ (mem (x0 + 1) 0) ≤ x3 → (((mem x0 4) ≤ 0 → P x1 mem) ∧ (¬ (mem x0 4) ≤ 0 → (Ci mX0_fearsOf d [.ref x0, .int x3] mem (fun r4 mem3 => ((x1 = (-1000000005) → Vw (Ni (d + 1) P) mX0_leastFeared 7 [(0, .ref x0), (1, .int x3), (2, .int r4), (3, .int (x3 + 1))] [] mem3) ∧ (¬ x1 = (-1000000005) → ((x2 ≤ r4 → Vw (Ni (d + 1) P) mX0_leastFeared 7 [(0, .ref x0), (1, .int x1), (2, .int x2), (3, .int (x3 + 1))] [] mem3) ∧ (¬ x2 ≤ r4 → Vw (Ni (d + 1) P) mX0_leastFeared 7 [(0, .ref x0), (1, .int x3), (2, .int r4), (3, .int (x3 + 1))] [] mem3))))))))))) :
    Vw (Ni (d + 1) P) mX0_leastFeared 7 [(0, .ref x0), (1, .int x1), (2, .int x2), (3, .int x3)] [] mem := by
  refine V_iload_n 3 dX0_leastFeared_7 rfl ?_
  refine V_aload_n 0 dX0_leastFeared_8 rfl ?_
  refine V_getf (v := .ref (x0 + 1)) gf_X0_12 dX0_leastFeared_9 hx0 rfl ?_
  refine V_getf (v := .int (mem (x0 + 1) 0)) gf_X0_121 dX0_leastFeared_12 (sh_0_0 hx0) rfl ?_
  refine V_icmp_ge (tgt := 55) dX0_leastFeared_15 rfl ⟨fun c1 => ?_, fun c1 => ?_⟩
  · have h := h.1 c1
    refine V_iload_n 1 dX0_leastFeared_55 rfl ?_
    exact V_iret dX0_leastFeared_56 rfl h
  · have h := h.2 c1
    refine V_aload_n 0 dX0_leastFeared_18 rfl ?_
    refine V_getf (v := .int (mem x0 4)) gf_X0_31 dX0_leastFeared_19 hx0 rfl ?_
    refine V_if_le (tgt := 55) dX0_leastFeared_22 rfl ⟨fun c2 => ?_, fun c2 => ?_⟩
    · have h := h.1 c2
      refine V_iload_n 1 dX0_leastFeared_55 rfl ?_
      exact V_iret dX0_leastFeared_56 rfl h
    · have h := h.2 c2
      refine V_aload_n 0 dX0_leastFeared_25 rfl ?_
      refine V_iload_n 3 dX0_leastFeared_26 rfl ?_
      refine V_cVi [.int x3] mv_X0_fearsOf w_77 dX0_leastFeared_27 wf_rok_m hx0 rfl (by decide) rfl rfl (Nat.le_of_ble_eq_true rfl) h ?_
      intro r4 mem3 h
      refine V_istore (lv' := [(0, .ref x0), (1, .int x1), (2, .int x2), (3, .int x3), (4, .int r4)]) dX0_leastFeared_30 (by decide) rfl rfl ?_
      refine V_iload_n 1 dX0_leastFeared_32 rfl ?_
      refine V_ldc w_73 dX0_leastFeared_33 ?_
      refine V_icmp_eq (tgt := 44) dX0_leastFeared_35 rfl ⟨fun c5 => ?_, fun c5 => ?_⟩
      · have h := h.1 c5
        refine V_iload_n 3 dX0_leastFeared_44 rfl ?_
        refine V_istore_n (lv' := [(0, .ref x0), (1, .int x3), (2, .int x2), (3, .int x3), (4, .int r4)]) dX0_leastFeared_45 (by decide) rfl rfl ?_
        refine V_iload 4 dX0_leastFeared_46 rfl ?_
        refine V_istore_n (lv' := [(0, .ref x0), (1, .int x3), (2, .int r4), (3, .int x3), (4, .int r4)]) dX0_leastFeared_48 (by decide) rfl rfl ?_
        refine V_iinc (v := (x3 + 1)) (lv' := [(0, .ref x0), (1, .int x3), (2, .int r4), (3, .int (x3 + 1)), (4, .int r4)]) 3 dX0_leastFeared_49 rfl rfl (by decide) rfl rfl ?_
        refine V_goto (tgt := 7) dX0_leastFeared_52 rfl ?_
        exact V_sub [0, 1, 2, 3] rfl h
      · have h := h.2 c5
        refine V_iload 4 dX0_leastFeared_38 rfl ?_
        refine V_iload_n 2 dX0_leastFeared_40 rfl ?_
        refine V_icmp_ge (tgt := 49) dX0_leastFeared_41 rfl ⟨fun c6 => ?_, fun c6 => ?_⟩
        · have h := h.1 c6
          refine V_iinc (v := (x3 + 1)) (lv' := [(0, .ref x0), (1, .int x1), (2, .int x2), (3, .int (x3 + 1)), (4, .int r4)]) 3 dX0_leastFeared_49 rfl rfl (by decide) rfl rfl ?_
          refine V_goto (tgt := 7) dX0_leastFeared_52 rfl ?_
          exact V_sub [0, 1, 2, 3] rfl h
        · have h := h.2 c6
          refine V_iload_n 3 dX0_leastFeared_44 rfl ?_
          refine V_istore_n (lv' := [(0, .ref x0), (1, .int x3), (2, .int x2), (3, .int x3), (4, .int r4)]) dX0_leastFeared_45 (by decide) rfl rfl ?_
          refine V_iload 4 dX0_leastFeared_46 rfl ?_
          refine V_istore_n (lv' := [(0, .ref x0), (1, .int x3), (2, .int r4), (3, .int x3), (4, .int r4)]) dX0_leastFeared_48 (by decide) rfl rfl ?_
          refine V_iinc (v := (x3 + 1)) (lv' := [(0, .ref x0), (1, .int x3), (2, .int r4), (3, .int (x3 + 1)), (4, .int r4)]) 3 dX0_leastFeared_49 rfl rfl (by decide) rfl rfl ?_
          refine V_goto (tgt := 7) dX0_leastFeared_52 rfl ?_
          exact V_sub [0, 1, 2, 3] rfl h
set_option maxRecDepth 20000 in
theorem b_X0_cameTold_0 {d : Nat} {P : Int32 → wf_Mem → Prop} (mem : wf_Mem) (x0 : Nat) (hx0 : wf_sh x0 = (0, 0))
    (h : ((¬ (mem x0 16) = (-1000000005) → P (mem x0 16) mem) ∧ ((mem x0 16) = (-1000000005) → P 99 mem))) :
    Vw (Ni d P) mX0_cameTold 0 [(0, .ref x0)] [] mem := by
  refine V_aload_n 0 dX0_cameTold_0 rfl ?_
  refine V_getf (v := .int (mem x0 16)) gf_X0_66 dX0_cameTold_1 hx0 rfl ?_
  refine V_ldc w_73 dX0_cameTold_4 ?_
  refine V_icmp_ne (tgt := 14) dX0_cameTold_6 rfl ⟨fun c1 => ?_, fun c1 => ?_⟩
  · have h := h.1 c1
    refine V_aload_n 0 dX0_cameTold_14 rfl ?_
    refine V_getf (v := .int (mem x0 16)) gf_X0_66 dX0_cameTold_15 hx0 rfl ?_
    exact V_iret dX0_cameTold_18 rfl h
  · have h := h.2 c1
    refine V_bipush (v := 99) dX0_cameTold_9 rfl ?_
    refine V_goto (tgt := 18) dX0_cameTold_11 rfl ?_
    exact V_iret dX0_cameTold_18 rfl h
set_option maxRecDepth 20000 in
theorem b_X0_pass_0 {d : Nat} {P : wf_Mem → Prop} (mem : wf_Mem) (x0 : Nat) (hx0 : wf_sh x0 = (0, 0)) (x1 : Int32)
    (h : Vw (Nv (d + 1) P) mX0_pass 2 [(0, .ref x0), (1, .int x1), (2, .int 0)] [] mem) :
    Vw (Nv (d + 1) P) mX0_pass 0 [(0, .ref x0), (1, .int x1)] [] mem := by
  refine V_iconst (v := 0) dX0_pass_0 rfl ?_
  refine V_istore_n (lv' := [(0, .ref x0), (1, .int x1), (2, .int 0)]) dX0_pass_1 (by decide) rfl rfl ?_
  exact h
set_option maxRecDepth 20000 in
theorem b_X0_pass_2 {d : Nat} {P : wf_Mem → Prop} (mem : wf_Mem) (x0 : Nat) (hx0 : wf_sh x0 = (0, 0)) (x1 : Int32) (x2 : Int32)
    (h : ((x1 ≤ x2 → P mem) ∧ (¬ x1 ≤ x2 → (Ci mX0_burn d [.ref x0] mem (fun r3 mem2 => (Cv mX0_measure d [.ref x0] mem2 (fun mem4 => (Ci mX0_leastFeared d [.ref x0] mem4 (fun r6 mem5 => (∀ mem7 : wf_Mem, mem7 = wf_ms mem5 x0 16 r6 → (Ci mX3_has d [.ref (x0 + 1), .int (mem7 x0 16)] mem7 (fun r9 mem8 => ((r9 = 0 → (Cv mX0_tire d [.ref x0] mem8 (fun mem11 => (∀ mem12 : wf_Mem, mem12 = wf_ms mem11 x0 6 ((mem11 x0 6) + 1) → Vw (Nv (d + 1) P) mX0_pass 2 [(0, .ref x0), (1, .int x1), (2, .int (x2 + 1))] [] mem12)))) ∧ (¬ r9 = 0 → (Cv mX0_meet d [.ref x0, .int (mem8 x0 16)] mem8 (fun mem13 => (Cv mX0_tire d [.ref x0] mem13 (fun mem14 => (∀ mem15 : wf_Mem, mem15 = wf_ms mem14 x0 6 ((mem14 x0 6) + 1) → Vw (Nv (d + 1) P) mX0_pass 2 [(0, .ref x0), (1, .int x1), (2, .int (x2 + 1))] [] mem15))))))))))))))))))) :
    Vw (Nv (d + 1) P) mX0_pass 2 [(0, .ref x0), (1, .int x1), (2, .int x2)] [] mem := by
  refine V_iload_n 2 dX0_pass_2 rfl ?_
  refine V_iload_n 1 dX0_pass_3 rfl ?_
  refine V_icmp_ge (tgt := 66) dX0_pass_4 rfl ⟨fun c1 => ?_, fun c1 => ?_⟩
  · have h := h.1 c1
    exact V_vret dX0_pass_66 rfl h
  · have h := h.2 c1
    refine V_aload_n 0 dX0_pass_7 rfl ?_
    refine V_cVi [] mv_X0_burn w_82 dX0_pass_8 wf_rok_m hx0 rfl (by decide) rfl rfl (Nat.le_of_ble_eq_true rfl) h ?_
    intro r3 mem2 h
    refine V_pop dX0_pass_11 rfl ?_
    refine V_aload_n 0 dX0_pass_12 rfl ?_
    refine V_cVv [] mv_X0_measure w_86 dX0_pass_13 wf_rok_m hx0 rfl (by decide) rfl rfl (Nat.le_of_ble_eq_true rfl) h ?_
    intro mem4 h
    refine V_aload_n 0 dX0_pass_16 rfl ?_
    refine V_aload_n 0 dX0_pass_17 rfl ?_
    refine V_cVi [] mv_X0_leastFeared w_90 dX0_pass_18 wf_rok_m hx0 rfl (by decide) rfl rfl (Nat.le_of_ble_eq_true rfl) h ?_
    intro r6 mem5 h
    refine V_putf pf_X0_66 dX0_pass_21 hx0 rfl rfl ?_
    refine V_topm (fun mem7 emem7 => ?_)
    have h := h mem7 emem7
    refine V_aload_n 0 dX0_pass_24 rfl ?_
    refine V_getf (v := .ref (x0 + 1)) gf_X0_12 dX0_pass_25 hx0 rfl ?_
    refine V_aload_n 0 dX0_pass_28 rfl ?_
    refine V_getf (v := .int (mem7 x0 16)) gf_X0_66 dX0_pass_29 hx0 rfl ?_
    refine V_cVi [.int (mem7 x0 16)] mv_X3_has w_62 dX0_pass_32 wf_rok_m (sh_0_0 hx0) rfl (by decide) rfl rfl (Nat.le_of_ble_eq_true rfl) h ?_
    intro r9 mem8 h
    refine V_if_eq (tgt := 46) dX0_pass_35 rfl ⟨fun c10 => ?_, fun c10 => ?_⟩
    · have h := h.1 c10
      refine V_aload_n 0 dX0_pass_46 rfl ?_
      refine V_cVv [] mv_X0_tire w_94 dX0_pass_47 wf_rok_m hx0 rfl (by decide) rfl rfl (Nat.le_of_ble_eq_true rfl) h ?_
      intro mem11 h
      refine V_aload_n 0 dX0_pass_50 rfl ?_
      refine V_dup dX0_pass_51 rfl ?_
      refine V_getf (v := .int (mem11 x0 6)) gf_X0_37 dX0_pass_52 hx0 rfl ?_
      refine V_iconst (v := 1) dX0_pass_55 rfl ?_
      refine V_iadd dX0_pass_56 ?_
      refine V_putf pf_X0_37 dX0_pass_57 hx0 rfl rfl ?_
      refine V_topm (fun mem12 emem12 => ?_)
      have h := h mem12 emem12
      refine V_iinc (v := (x2 + 1)) (lv' := [(0, .ref x0), (1, .int x1), (2, .int (x2 + 1))]) 2 dX0_pass_60 rfl rfl (by decide) rfl rfl ?_
      refine V_goto (tgt := 2) dX0_pass_63 rfl ?_
      exact h
    · have h := h.2 c10
      refine V_aload_n 0 dX0_pass_38 rfl ?_
      refine V_aload_n 0 dX0_pass_39 rfl ?_
      refine V_getf (v := .int (mem8 x0 16)) gf_X0_66 dX0_pass_40 hx0 rfl ?_
      refine V_cVv [.int (mem8 x0 16)] mv_X0_meet w_98 dX0_pass_43 wf_rok_m hx0 rfl (by decide) rfl rfl (Nat.le_of_ble_eq_true rfl) h ?_
      intro mem13 h
      refine V_aload_n 0 dX0_pass_46 rfl ?_
      refine V_cVv [] mv_X0_tire w_94 dX0_pass_47 wf_rok_m hx0 rfl (by decide) rfl rfl (Nat.le_of_ble_eq_true rfl) h ?_
      intro mem14 h
      refine V_aload_n 0 dX0_pass_50 rfl ?_
      refine V_dup dX0_pass_51 rfl ?_
      refine V_getf (v := .int (mem14 x0 6)) gf_X0_37 dX0_pass_52 hx0 rfl ?_
      refine V_iconst (v := 1) dX0_pass_55 rfl ?_
      refine V_iadd dX0_pass_56 ?_
      refine V_putf pf_X0_37 dX0_pass_57 hx0 rfl rfl ?_
      refine V_topm (fun mem15 emem15 => ?_)
      have h := h mem15 emem15
      refine V_iinc (v := (x2 + 1)) (lv' := [(0, .ref x0), (1, .int x1), (2, .int (x2 + 1))]) 2 dX0_pass_60 rfl rfl (by decide) rfl rfl ?_
      refine V_goto (tgt := 2) dX0_pass_63 rfl ?_
      exact h
set_option maxRecDepth 20000 in
theorem b_X0_burn_0 {d : Nat} {P : Int32 → wf_Mem → Prop} (mem : wf_Mem) (x0 : Nat) (hx0 : wf_sh x0 = (0, 0))
    (h : Vw (Ni d P) mX0_burn 4 [(0, .ref x0), (1, .int 0), (2, .int 0)] [] mem) :
    Vw (Ni d P) mX0_burn 0 [(0, .ref x0)] [] mem := by
  refine V_iconst (v := 0) dX0_burn_0 rfl ?_
  refine V_istore_n (lv' := [(0, .ref x0), (1, .int 0)]) dX0_burn_1 (by decide) rfl rfl ?_
  refine V_iconst (v := 0) dX0_burn_2 rfl ?_
  refine V_istore_n (lv' := [(0, .ref x0), (1, .int 0), (2, .int 0)]) dX0_burn_3 (by decide) rfl rfl ?_
  exact h
set_option maxRecDepth 20000 in
theorem b_X0_burn_4 {d : Nat} {P : Int32 → wf_Mem → Prop} (mem : wf_Mem) (x0 : Nat) (hx0 : wf_sh x0 = (0, 0)) (x1 : Int32) (x2 : Int32)
    (h : (((mem (x0 + 1) 0) ≤ x2 → ((x1 = 0 ∨ x1 = 1) ∧ P x1 mem)) ∧ (¬ (mem (x0 + 1) 0) ≤ x2 → (vp_in x2 12 ∧ (((mem ((x0 + 1) + 2) x2.toNatClampNeg) ≤ (mem x0 3) → Vw (Ni d P) mX0_burn 43 [(0, .ref x0), (1, .int x1), (2, .int x2)] [] mem) ∧ (¬ (mem ((x0 + 1) + 2) x2.toNatClampNeg) ≤ (mem x0 3) → (vp_in x2 12 ∧ ∀ mem3 : wf_Mem, mem3 = wf_ms mem ((x0 + 1) + 2) x2.toNatClampNeg 0 → Vw (Ni d P) mX0_burn 43 [(0, .ref x0), (1, .int 1), (2, .int x2)] [] mem3))))))) :
    Vw (Ni d P) mX0_burn 4 [(0, .ref x0), (1, .int x1), (2, .int x2)] [] mem := by
  refine V_iload_n 2 dX0_burn_4 rfl ?_
  refine V_aload_n 0 dX0_burn_5 rfl ?_
  refine V_getf (v := .ref (x0 + 1)) gf_X0_12 dX0_burn_6 hx0 rfl ?_
  refine V_getf (v := .int (mem (x0 + 1) 0)) gf_X0_121 dX0_burn_9 (sh_0_0 hx0) rfl ?_
  refine V_icmp_ge (tgt := 85) dX0_burn_12 rfl ⟨fun c1 => ?_, fun c1 => ?_⟩
  · have h := h.1 c1
    refine V_iload_n 1 dX0_burn_85 rfl ?_
    exact V_zret dX0_burn_86 rfl (wf_nb h.1) h.2
  · have h := h.2 c1
    refine V_aload_n 0 dX0_burn_15 rfl ?_
    refine V_getf (v := .ref (x0 + 1)) gf_X0_12 dX0_burn_16 hx0 rfl ?_
    refine V_getf (v := .ref ((x0 + 1) + 2)) gf_X0_124 dX0_burn_19 (sh_0_0 hx0) rfl ?_
    refine V_iload_n 2 dX0_burn_22 rfl ?_
    refine V_iald dX0_burn_23 (sh_3_2 (sh_0_0 hx0)) ⟨h.1, ?_⟩
    have h := h.2
    refine V_aload_n 0 dX0_burn_24 rfl ?_
    refine V_getf (v := .int (mem x0 3)) gf_X0_28 dX0_burn_25 hx0 rfl ?_
    refine V_icmp_le (tgt := 43) dX0_burn_28 rfl ⟨fun c2 => ?_, fun c2 => ?_⟩
    · have h := h.1 c2
      exact h
    · have h := h.2 c2
      refine V_aload_n 0 dX0_burn_31 rfl ?_
      refine V_getf (v := .ref (x0 + 1)) gf_X0_12 dX0_burn_32 hx0 rfl ?_
      refine V_getf (v := .ref ((x0 + 1) + 2)) gf_X0_124 dX0_burn_35 (sh_0_0 hx0) rfl ?_
      refine V_iload_n 2 dX0_burn_38 rfl ?_
      refine V_iconst (v := 0) dX0_burn_39 rfl ?_
      refine V_iast dX0_burn_40 (sh_3_2 (sh_0_0 hx0)) ⟨h.1, ?_⟩
      refine V_topm (fun mem3 emem3 => ?_)
      have h := h.2 mem3 emem3
      refine V_iconst (v := 1) dX0_burn_41 rfl ?_
      refine V_istore_n (lv' := [(0, .ref x0), (1, .int 1), (2, .int x2)]) dX0_burn_42 (by decide) rfl rfl ?_
      exact h
set_option maxRecDepth 20000 in
theorem b_X0_burn_43 {d : Nat} {P : Int32 → wf_Mem → Prop} (mem : wf_Mem) (x0 : Nat) (hx0 : wf_sh x0 = (0, 0)) (x1 : Int32) (x2 : Int32)
    (h : (vp_in x2 12 ∧ (∀ mem1 : wf_Mem, mem1 = wf_ms mem x0 3 ((mem x0 3) - (mem ((x0 + 1) + 2) x2.toNatClampNeg)) → (vp_in x2 12 ∧ (∀ mem2 : wf_Mem, mem2 = wf_ms mem1 x0 9 ((mem1 x0 9) + (mem1 ((x0 + 1) + 2) x2.toNatClampNeg)) → Vw (Ni d P) mX0_burn 4 [(0, .ref x0), (1, .int x1), (2, .int (x2 + 1))] [] mem2))))) :
    Vw (Ni d P) mX0_burn 43 [(0, .ref x0), (1, .int x1), (2, .int x2)] [] mem := by
  refine V_aload_n 0 dX0_burn_43 rfl ?_
  refine V_dup dX0_burn_44 rfl ?_
  refine V_getf (v := .int (mem x0 3)) gf_X0_28 dX0_burn_45 hx0 rfl ?_
  refine V_aload_n 0 dX0_burn_48 rfl ?_
  refine V_getf (v := .ref (x0 + 1)) gf_X0_12 dX0_burn_49 hx0 rfl ?_
  refine V_getf (v := .ref ((x0 + 1) + 2)) gf_X0_124 dX0_burn_52 (sh_0_0 hx0) rfl ?_
  refine V_iload_n 2 dX0_burn_55 rfl ?_
  refine V_iald dX0_burn_56 (sh_3_2 (sh_0_0 hx0)) ⟨h.1, ?_⟩
  have h := h.2
  refine V_isub dX0_burn_57 ?_
  refine V_putf pf_X0_28 dX0_burn_58 hx0 rfl rfl ?_
  refine V_topm (fun mem1 emem1 => ?_)
  have h := h mem1 emem1
  refine V_aload_n 0 dX0_burn_61 rfl ?_
  refine V_dup dX0_burn_62 rfl ?_
  refine V_getf (v := .int (mem1 x0 9)) gf_X0_46 dX0_burn_63 hx0 rfl ?_
  refine V_aload_n 0 dX0_burn_66 rfl ?_
  refine V_getf (v := .ref (x0 + 1)) gf_X0_12 dX0_burn_67 hx0 rfl ?_
  refine V_getf (v := .ref ((x0 + 1) + 2)) gf_X0_124 dX0_burn_70 (sh_0_0 hx0) rfl ?_
  refine V_iload_n 2 dX0_burn_73 rfl ?_
  refine V_iald dX0_burn_74 (sh_3_2 (sh_0_0 hx0)) ⟨h.1, ?_⟩
  have h := h.2
  refine V_iadd dX0_burn_75 ?_
  refine V_putf pf_X0_46 dX0_burn_76 hx0 rfl rfl ?_
  refine V_topm (fun mem2 emem2 => ?_)
  have h := h mem2 emem2
  refine V_iinc (v := (x2 + 1)) (lv' := [(0, .ref x0), (1, .int x1), (2, .int (x2 + 1))]) 2 dX0_burn_79 rfl rfl (by decide) rfl rfl ?_
  refine V_goto (tgt := 4) dX0_burn_82 rfl ?_
  exact h
set_option maxRecDepth 20000 in
theorem b_X0_meet_0 {d : Nat} {P : wf_Mem → Prop} (mem : wf_Mem) (x0 : Nat) (hx0 : wf_sh x0 = (0, 0)) (x1 : Int32)
    (h : (vp_in x1 12 ∧ ((((mem x0 4) + (mem x0 5)) ≤ (mem (x0 + 8) x1.toNatClampNeg) → Vw (Nv (d + 1) P) mX0_meet 71 [(0, .ref x0), (1, .int x1)] [] mem) ∧ (¬ ((mem x0 4) + (mem x0 5)) ≤ (mem (x0 + 8) x1.toNatClampNeg) → (vp_in x1 12 ∧ (((mem ((x0 + 1) + 1) x1.toNatClampNeg) ≤ 0 → Vw (Nv (d + 1) P) mX0_meet 71 [(0, .ref x0), (1, .int x1)] [] mem) ∧ (¬ (mem ((x0 + 1) + 1) x1.toNatClampNeg) ≤ 0 → (vp_in x1 12 ∧ (vp_in x1 12 ∧ ∀ mem3 : wf_Mem, mem3 = wf_ms mem ((x0 + 1) + 1) x1.toNatClampNeg ((mem ((x0 + 1) + 1) x1.toNatClampNeg) - 1) → (vp_in x1 12 ∧ ∀ mem4 : wf_Mem, mem4 = wf_ms mem3 ((x0 + 1) + 3) x1.toNatClampNeg 0 → (∀ mem5 : wf_Mem, mem5 = wf_ms mem4 x0 8 ((mem4 x0 8) + 1) → (∀ mem6 : wf_Mem, mem6 = wf_ms mem5 x0 5 0 → P mem6)))))))))))) :
    Vw (Nv (d + 1) P) mX0_meet 0 [(0, .ref x0), (1, .int x1)] [] mem := by
  refine V_aload_n 0 dX0_meet_0 rfl ?_
  refine V_getf (v := .ref (x0 + 8)) gf_X0_63 dX0_meet_1 hx0 rfl ?_
  refine V_iload_n 1 dX0_meet_4 rfl ?_
  refine V_iald dX0_meet_5 (sh_0_15 hx0) ⟨h.1, ?_⟩
  have h := h.2
  refine V_aload_n 0 dX0_meet_6 rfl ?_
  refine V_getf (v := .int (mem x0 4)) gf_X0_31 dX0_meet_7 hx0 rfl ?_
  refine V_aload_n 0 dX0_meet_10 rfl ?_
  refine V_getf (v := .int (mem x0 5)) gf_X0_34 dX0_meet_11 hx0 rfl ?_
  refine V_iadd dX0_meet_14 ?_
  refine V_icmp_ge (tgt := 71) dX0_meet_15 rfl ⟨fun c1 => ?_, fun c1 => ?_⟩
  · have h := h.1 c1
    exact h
  · have h := h.2 c1
    refine V_aload_n 0 dX0_meet_18 rfl ?_
    refine V_getf (v := .ref (x0 + 1)) gf_X0_12 dX0_meet_19 hx0 rfl ?_
    refine V_getf (v := .ref ((x0 + 1) + 1)) gf_X0_143 dX0_meet_22 (sh_0_0 hx0) rfl ?_
    refine V_iload_n 1 dX0_meet_25 rfl ?_
    refine V_iald dX0_meet_26 (sh_3_1 (sh_0_0 hx0)) ⟨h.1, ?_⟩
    have h := h.2
    refine V_if_le (tgt := 71) dX0_meet_27 rfl ⟨fun c2 => ?_, fun c2 => ?_⟩
    · have h := h.1 c2
      exact h
    · have h := h.2 c2
      refine V_aload_n 0 dX0_meet_30 rfl ?_
      refine V_getf (v := .ref (x0 + 1)) gf_X0_12 dX0_meet_31 hx0 rfl ?_
      refine V_getf (v := .ref ((x0 + 1) + 1)) gf_X0_143 dX0_meet_34 (sh_0_0 hx0) rfl ?_
      refine V_iload_n 1 dX0_meet_37 rfl ?_
      refine V_dup2 dX0_meet_38 rfl rfl ?_
      refine V_iald dX0_meet_39 (sh_3_1 (sh_0_0 hx0)) ⟨h.1, ?_⟩
      have h := h.2
      refine V_iconst (v := 1) dX0_meet_40 rfl ?_
      refine V_isub dX0_meet_41 ?_
      refine V_iast dX0_meet_42 (sh_3_1 (sh_0_0 hx0)) ⟨h.1, ?_⟩
      refine V_topm (fun mem3 emem3 => ?_)
      have h := h.2 mem3 emem3
      refine V_aload_n 0 dX0_meet_43 rfl ?_
      refine V_getf (v := .ref (x0 + 1)) gf_X0_12 dX0_meet_44 hx0 rfl ?_
      refine V_getf (v := .ref ((x0 + 1) + 3)) gf_X0_149 dX0_meet_47 (sh_0_0 hx0) rfl ?_
      refine V_iload_n 1 dX0_meet_50 rfl ?_
      refine V_iconst (v := 0) dX0_meet_51 rfl ?_
      refine V_iast dX0_meet_52 (sh_3_3 (sh_0_0 hx0)) ⟨h.1, ?_⟩
      refine V_topm (fun mem4 emem4 => ?_)
      have h := h.2 mem4 emem4
      refine V_aload_n 0 dX0_meet_53 rfl ?_
      refine V_dup dX0_meet_54 rfl ?_
      refine V_getf (v := .int (mem4 x0 8)) gf_X0_43 dX0_meet_55 hx0 rfl ?_
      refine V_iconst (v := 1) dX0_meet_58 rfl ?_
      refine V_iadd dX0_meet_59 ?_
      refine V_putf pf_X0_43 dX0_meet_60 hx0 rfl rfl ?_
      refine V_topm (fun mem5 emem5 => ?_)
      have h := h mem5 emem5
      refine V_aload_n 0 dX0_meet_63 rfl ?_
      refine V_iconst (v := 0) dX0_meet_64 rfl ?_
      refine V_putf pf_X0_34 dX0_meet_65 hx0 rfl rfl ?_
      refine V_topm (fun mem6 emem6 => ?_)
      have h := h mem6 emem6
      refine V_goto (tgt := 111) dX0_meet_68 rfl ?_
      exact V_vret dX0_meet_111 rfl h
set_option maxRecDepth 20000 in
theorem b_X0_meet_71 {d : Nat} {P : wf_Mem → Prop} (mem : wf_Mem) (x0 : Nat) (hx0 : wf_sh x0 = (0, 0)) (x1 : Int32)
    (h : (vp_in x1 12 ∧ (vp_in x1 12 ∧ ∀ mem1 : wf_Mem, mem1 = wf_ms mem ((x0 + 1) + 3) x1.toNatClampNeg (if ((mem ((x0 + 1) + 3) x1.toNatClampNeg) + 1) < 99 then ((mem ((x0 + 1) + 3) x1.toNatClampNeg) + 1) else 99) → (∀ mem2 : wf_Mem, mem2 = wf_ms mem1 x0 5 (if ((mem1 x0 5) + 1) < 99 then ((mem1 x0 5) + 1) else 99) → P mem2)))) :
    Vw (Nv (d + 1) P) mX0_meet 71 [(0, .ref x0), (1, .int x1)] [] mem := by
  refine V_aload_n 0 dX0_meet_71 rfl ?_
  refine V_getf (v := .ref (x0 + 1)) gf_X0_12 dX0_meet_72 hx0 rfl ?_
  refine V_getf (v := .ref ((x0 + 1) + 3)) gf_X0_149 dX0_meet_75 (sh_0_0 hx0) rfl ?_
  refine V_iload_n 1 dX0_meet_78 rfl ?_
  refine V_bipush (v := 99) dX0_meet_79 rfl ?_
  refine V_aload_n 0 dX0_meet_81 rfl ?_
  refine V_getf (v := .ref (x0 + 1)) gf_X0_12 dX0_meet_82 hx0 rfl ?_
  refine V_getf (v := .ref ((x0 + 1) + 3)) gf_X0_149 dX0_meet_85 (sh_0_0 hx0) rfl ?_
  refine V_iload_n 1 dX0_meet_88 rfl ?_
  refine V_iald dX0_meet_89 (sh_3_3 (sh_0_0 hx0)) ⟨h.1, ?_⟩
  have h := h.2
  refine V_iconst (v := 1) dX0_meet_90 rfl ?_
  refine V_iadd dX0_meet_91 ?_
  refine V_mmin w_99 wm_min dX0_meet_92 wf_rok_m (Nat.le_of_ble_eq_true rfl) ?_
  refine V_iast dX0_meet_95 (sh_3_3 (sh_0_0 hx0)) ⟨h.1, ?_⟩
  refine V_topm (fun mem1 emem1 => ?_)
  have h := h.2 mem1 emem1
  refine V_aload_n 0 dX0_meet_96 rfl ?_
  refine V_bipush (v := 99) dX0_meet_97 rfl ?_
  refine V_aload_n 0 dX0_meet_99 rfl ?_
  refine V_getf (v := .int (mem1 x0 5)) gf_X0_34 dX0_meet_100 hx0 rfl ?_
  refine V_iconst (v := 1) dX0_meet_103 rfl ?_
  refine V_iadd dX0_meet_104 ?_
  refine V_mmin w_99 wm_min dX0_meet_105 wf_rok_m (Nat.le_of_ble_eq_true rfl) ?_
  refine V_putf pf_X0_34 dX0_meet_108 hx0 rfl rfl ?_
  refine V_topm (fun mem2 emem2 => ?_)
  have h := h mem2 emem2
  exact V_vret dX0_meet_111 rfl h
set_option maxRecDepth 20000 in
theorem b_X0_tire_0 {d : Nat} {P : wf_Mem → Prop} (mem : wf_Mem) (x0 : Nat) (hx0 : wf_sh x0 = (0, 0))
    (h : Vw (Nv (d + 1) P) mX0_tire 2 [(0, .ref x0), (1, .int 0)] [] mem) :
    Vw (Nv (d + 1) P) mX0_tire 0 [(0, .ref x0)] [] mem := by
  refine V_iconst (v := 0) dX0_tire_0 rfl ?_
  refine V_istore_n (lv' := [(0, .ref x0), (1, .int 0)]) dX0_tire_1 (by decide) rfl rfl ?_
  exact h
set_option maxRecDepth 20000 in
theorem b_X0_tire_2 {d : Nat} {P : wf_Mem → Prop} (mem : wf_Mem) (x0 : Nat) (hx0 : wf_sh x0 = (0, 0)) (x1 : Int32)
    (h : (((mem x0 2) ≤ x1 → P mem) ∧ (¬ (mem x0 2) ≤ x1 → (vp_in x1 8 ∧ ((¬ (mem ((x0 + 5) + 4 + x1.toNatClampNeg) 4) = 1 → (∀ mem4 : wf_Mem, mem4 = wf_ms mem ((x0 + 5) + 4 + x1.toNatClampNeg) 3 (if 0 < ((mem ((x0 + 5) + 4 + x1.toNatClampNeg) 3) - 2) then ((mem ((x0 + 5) + 4 + x1.toNatClampNeg) 3) - 2) else 0) → (∀ mem5 : wf_Mem, mem5 = wf_ms mem4 x0 7 ((mem4 x0 7) + 1) → Vw (Nv (d + 1) P) mX0_tire 2 [(0, .ref x0), (1, .int (x1 + 1))] [] mem5))) ∧ ((mem ((x0 + 5) + 4 + x1.toNatClampNeg) 4) = 1 → (Ci mX0_byLaw d [.ref x0, .int 2, .int (mem ((x0 + 5) + 4 + x1.toNatClampNeg) 3), .int (mem ((x0 + 5) + 4 + x1.toNatClampNeg) 2), .int 0, .int 1] mem (fun r7 mem6 => (Ci mX8_held d [.int r7, .int 0, .int 99] mem6 (fun r9 mem8 => (∀ mem10 : wf_Mem, mem10 = wf_ms mem8 ((x0 + 5) + 4 + x1.toNatClampNeg) 3 (if ((mem8 ((x0 + 5) + 4 + x1.toNatClampNeg) 3) + r9) < 999 then ((mem8 ((x0 + 5) + 4 + x1.toNatClampNeg) 3) + r9) else 999) → Vw (Nv (d + 1) P) mX0_tire 2 [(0, .ref x0), (1, .int (x1 + 1))] [] mem10))))))))))) :
    Vw (Nv (d + 1) P) mX0_tire 2 [(0, .ref x0), (1, .int x1)] [] mem := by
  refine V_iload_n 1 dX0_tire_2 rfl ?_
  refine V_aload_n 0 dX0_tire_3 rfl ?_
  refine V_getf (v := .int (mem x0 2)) gf_X0_24 dX0_tire_4 hx0 rfl ?_
  refine V_icmp_ge (tgt := 96) dX0_tire_7 rfl ⟨fun c1 => ?_, fun c1 => ?_⟩
  · have h := h.1 c1
    exact V_vret dX0_tire_96 rfl h
  · have h := h.2 c1
    refine V_aload_n 0 dX0_tire_10 rfl ?_
    refine V_getf (v := .ref (x0 + 5)) gf_X0_20 dX0_tire_11 hx0 rfl ?_
    refine V_iload_n 1 dX0_tire_14 rfl ?_
    have hi2 := h.1
    refine V_aald (b := ((x0 + 5) + 4 + x1.toNatClampNeg)) dX0_tire_15 (sh_0_1 hx0) (by decide) (by decide) rfl ⟨hi2, ?_⟩
    have h := h.2
    refine V_astore_n (lv' := [(0, .ref x0), (1, .int x1), (2, .ref ((x0 + 5) + 4 + x1.toNatClampNeg))]) dX0_tire_16 (by decide) rfl rfl ?_
    refine V_aload_n 2 dX0_tire_17 rfl ?_
    refine V_getf (v := .int (mem ((x0 + 5) + 4 + x1.toNatClampNeg) 4)) gf_X0_104 dX0_tire_18 (sh_r22 (sh_0_1 hx0) (wf_in_lt hi2)) rfl ?_
    refine V_iconst (v := 1) dX0_tire_21 rfl ?_
    refine V_icmp_ne (tgt := 66) dX0_tire_22 rfl ⟨fun c3 => ?_, fun c3 => ?_⟩
    · have h := h.1 c3
      refine V_aload_n 2 dX0_tire_66 rfl ?_
      refine V_iconst (v := 0) dX0_tire_67 rfl ?_
      refine V_aload_n 2 dX0_tire_68 rfl ?_
      refine V_getf (v := .int (mem ((x0 + 5) + 4 + x1.toNatClampNeg) 3)) gf_X0_101 dX0_tire_69 (sh_r22 (sh_0_1 hx0) (wf_in_lt hi2)) rfl ?_
      refine V_iconst (v := 2) dX0_tire_72 rfl ?_
      refine V_isub dX0_tire_73 ?_
      refine V_mmax w_100 wm_max dX0_tire_74 wf_rok_m (Nat.le_of_ble_eq_true rfl) ?_
      refine V_putf pf_X0_101 dX0_tire_77 (sh_r22 (sh_0_1 hx0) (wf_in_lt hi2)) rfl rfl ?_
      refine V_topm (fun mem4 emem4 => ?_)
      have h := h mem4 emem4
      refine V_aload_n 0 dX0_tire_80 rfl ?_
      refine V_dup dX0_tire_81 rfl ?_
      refine V_getf (v := .int (mem4 x0 7)) gf_X0_40 dX0_tire_82 hx0 rfl ?_
      refine V_iconst (v := 1) dX0_tire_85 rfl ?_
      refine V_iadd dX0_tire_86 ?_
      refine V_putf pf_X0_40 dX0_tire_87 hx0 rfl rfl ?_
      refine V_topm (fun mem5 emem5 => ?_)
      have h := h mem5 emem5
      refine V_iinc (v := (x1 + 1)) (lv' := [(0, .ref x0), (1, .int (x1 + 1)), (2, .ref ((x0 + 5) + 4 + x1.toNatClampNeg))]) 1 dX0_tire_90 rfl rfl (by decide) rfl rfl ?_
      refine V_goto (tgt := 2) dX0_tire_93 rfl ?_
      exact V_sub [0, 1] rfl h
    · have h := h.2 c3
      refine V_aload_n 0 dX0_tire_25 rfl ?_
      refine V_iconst (v := 2) dX0_tire_26 rfl ?_
      refine V_aload_n 2 dX0_tire_27 rfl ?_
      refine V_getf (v := .int (mem ((x0 + 5) + 4 + x1.toNatClampNeg) 3)) gf_X0_101 dX0_tire_28 (sh_r22 (sh_0_1 hx0) (wf_in_lt hi2)) rfl ?_
      refine V_aload_n 2 dX0_tire_31 rfl ?_
      refine V_getf (v := .int (mem ((x0 + 5) + 4 + x1.toNatClampNeg) 2)) gf_X0_98 dX0_tire_32 (sh_r22 (sh_0_1 hx0) (wf_in_lt hi2)) rfl ?_
      refine V_iconst (v := 0) dX0_tire_35 rfl ?_
      refine V_iconst (v := 1) dX0_tire_36 rfl ?_
      refine V_cVi [.int 2, .int (mem ((x0 + 5) + 4 + x1.toNatClampNeg) 3), .int (mem ((x0 + 5) + 4 + x1.toNatClampNeg) 2), .int 0, .int 1] mv_X0_byLaw w_44 dX0_tire_37 wf_rok_m hx0 rfl (by decide) rfl rfl (Nat.le_of_ble_eq_true rfl) h ?_
      intro r7 mem6 h
      refine V_iconst (v := 0) dX0_tire_40 rfl ?_
      refine V_bipush (v := 99) dX0_tire_41 rfl ?_
      refine V_cNi (host := RX8) [.int r7, .int 0, .int 99] ms_X8_held (by decide +kernel) dX0_tire_43 wf_rok_m rfl rfl (Nat.le_of_ble_eq_true rfl) h ?_
      intro r9 mem8 h
      refine V_istore_n (lv' := [(0, .ref x0), (1, .int x1), (2, .ref ((x0 + 5) + 4 + x1.toNatClampNeg)), (3, .int r9)]) dX0_tire_46 (by decide) rfl rfl ?_
      refine V_aload_n 2 dX0_tire_47 rfl ?_
      refine V_sipush (v := 999) dX0_tire_48 rfl ?_
      refine V_aload_n 2 dX0_tire_51 rfl ?_
      refine V_getf (v := .int (mem8 ((x0 + 5) + 4 + x1.toNatClampNeg) 3)) gf_X0_101 dX0_tire_52 (sh_r22 (sh_0_1 hx0) (wf_in_lt hi2)) rfl ?_
      refine V_iload_n 3 dX0_tire_55 rfl ?_
      refine V_iadd dX0_tire_56 ?_
      refine V_mmin w_99 wm_min dX0_tire_57 wf_rok_m (Nat.le_of_ble_eq_true rfl) ?_
      refine V_putf pf_X0_101 dX0_tire_60 (sh_r22 (sh_0_1 hx0) (wf_in_lt hi2)) rfl rfl ?_
      refine V_topm (fun mem10 emem10 => ?_)
      have h := h mem10 emem10
      refine V_goto (tgt := 90) dX0_tire_63 rfl ?_
      refine V_iinc (v := (x1 + 1)) (lv' := [(0, .ref x0), (1, .int (x1 + 1)), (2, .ref ((x0 + 5) + 4 + x1.toNatClampNeg)), (3, .int r9)]) 1 dX0_tire_90 rfl rfl (by decide) rfl rfl ?_
      refine V_goto (tgt := 2) dX0_tire_93 rfl ?_
      exact V_sub [0, 1] rfl h
set_option maxRecDepth 20000 in
theorem b_X1_runOn_0 {d : Nat} {P : wf_Mem → Prop} (mem : wf_Mem) (x1 : Nat) (hx1 : wf_sh x1 = (0, 0)) (x2 : Int32)
    (h : Vw (Nv (d + 1) P) mX1_runOn 2 [(0, .ref 1), (1, .ref x1), (2, .int x2), (3, .int 0)] [] mem) :
    Vw (Nv (d + 1) P) mX1_runOn 0 [(0, .ref 1), (1, .ref x1), (2, .int x2)] [] mem := by
  refine V_iconst (v := 0) dX1_runOn_0 rfl ?_
  refine V_istore_n (lv' := [(0, .ref 1), (1, .ref x1), (2, .int x2), (3, .int 0)]) dX1_runOn_1 (by decide) rfl rfl ?_
  exact h
set_option maxRecDepth 20000 in
theorem b_X1_runOn_2 {d : Nat} {P : wf_Mem → Prop} (mem : wf_Mem) (x1 : Nat) (hx1 : wf_sh x1 = (0, 0)) (x2 : Int32) (x3 : Int32)
    (h : ((28 ≤ x3 → (∀ mem2 : wf_Mem, mem2 = wf_ms mem 1 1 (-1) → (∀ x3_3 : Int32, x3_3 = (if 6 < (mem2 (x1 + 1) 0) then 6 else (mem2 (x1 + 1) 0)) → Vw (Nv (d + 1) P) mX1_runOn 56 [(0, .ref 1), (1, .ref x1), (2, .int x2), (3, .int x3_3), (4, .int 0)] [] mem2))) ∧ (¬ 28 ≤ x3 → (Ci mX0_lightBy d [.ref x1, .int (x3 / 7), .int (x3 - x3 / 7 * 7)] mem (fun r5 mem4 => (vp_in x3 28 ∧ ∀ mem6 : wf_Mem, mem6 = wf_ms mem4 2 x3.toNatClampNeg r5 → Vw (Nv (d + 1) P) mX1_runOn 2 [(0, .ref 1), (1, .ref x1), (2, .int x2), (3, .int (x3 + 1))] [] mem6)))))) :
    Vw (Nv (d + 1) P) mX1_runOn 2 [(0, .ref 1), (1, .ref x1), (2, .int x2), (3, .int x3)] [] mem := by
  refine V_iload_n 3 dX1_runOn_2 rfl ?_
  refine V_aload_n 0 dX1_runOn_3 rfl ?_
  refine V_getf (v := .ref 2) gf_X1_11 dX1_runOn_4 sh_a1 rfl ?_
  refine V_alen (v := 28) dX1_runOn_7 sh_a2 rfl ?_
  refine V_icmp_ge (tgt := 35) dX1_runOn_8 rfl ⟨fun c1 => ?_, fun c1 => ?_⟩
  · have h := h.1 c1
    refine V_aload_n 0 dX1_runOn_35 rfl ?_
    refine V_iconst (v := (-1)) dX1_runOn_36 rfl ?_
    refine V_putf pf_X1_15 dX1_runOn_37 sh_a1 rfl rfl ?_
    refine V_topm (fun mem2 emem2 => ?_)
    have h := h mem2 emem2
    refine V_aload_n 1 dX1_runOn_40 rfl ?_
    refine V_getf (v := .ref (x1 + 1)) gf_X1_31 dX1_runOn_41 hx1 rfl ?_
    refine V_getf (v := .int (mem2 (x1 + 1) 0)) gf_X1_35 dX1_runOn_44 (sh_0_0 hx1) rfl ?_
    refine V_bipush (v := 6) dX1_runOn_47 rfl ?_
    refine V_mmin w_105 wm_min dX1_runOn_49 wf_rok_m (Nat.le_of_ble_eq_true rfl) ?_
    refine V_topi (fun x3_3 ex3_3 => ?_)
    have h := h x3_3 ex3_3
    refine V_istore_n (lv' := [(0, .ref 1), (1, .ref x1), (2, .int x2), (3, .int x3_3)]) dX1_runOn_52 (by decide) rfl rfl ?_
    refine V_iconst (v := 0) dX1_runOn_53 rfl ?_
    refine V_istore (lv' := [(0, .ref 1), (1, .ref x1), (2, .int x2), (3, .int x3_3), (4, .int 0)]) dX1_runOn_54 (by decide) rfl rfl ?_
    exact h
  · have h := h.2 c1
    refine V_aload_n 0 dX1_runOn_11 rfl ?_
    refine V_getf (v := .ref 2) gf_X1_11 dX1_runOn_12 sh_a1 rfl ?_
    refine V_iload_n 3 dX1_runOn_15 rfl ?_
    refine V_aload_n 1 dX1_runOn_16 rfl ?_
    refine V_iload_n 3 dX1_runOn_17 rfl ?_
    refine V_bipush (v := 7) dX1_runOn_18 rfl ?_
    refine V_idiv dX1_runOn_20 ⟨by decide, ?_⟩
    refine V_iload_n 3 dX1_runOn_21 rfl ?_
    refine V_bipush (v := 7) dX1_runOn_22 rfl ?_
    refine V_irem dX1_runOn_24 ⟨by decide, ?_⟩
    refine V_cVi [.int (x3 / 7), .int (x3 - x3 / 7 * 7)] mv_X0_lightBy w_106 dX1_runOn_25 wf_rok_m hx1 rfl (by decide) rfl rfl (Nat.le_of_ble_eq_true rfl) h ?_
    intro r5 mem4 h
    refine V_iast dX1_runOn_28 sh_a2 ⟨h.1, ?_⟩
    refine V_topm (fun mem6 emem6 => ?_)
    have h := h.2 mem6 emem6
    refine V_iinc (v := (x3 + 1)) (lv' := [(0, .ref 1), (1, .ref x1), (2, .int x2), (3, .int (x3 + 1))]) 3 dX1_runOn_29 rfl rfl (by decide) rfl rfl ?_
    refine V_goto (tgt := 2) dX1_runOn_32 rfl ?_
    exact h
set_option maxRecDepth 20000 in
theorem b_X1_runOn_56 {d : Nat} {P : wf_Mem → Prop} (mem : wf_Mem) (x1 : Nat) (hx1 : wf_sh x1 = (0, 0)) (x2 : Int32) (x3 : Int32) (x4 : Int32)
    (h : ((((1 : Int32) <<< ((2 * x3) &&& 31)) ≤ x4 → P mem) ∧ (¬ ((1 : Int32) <<< ((2 * x3) &&& 31)) ≤ x4 → (Ci mX1_putFires d [.ref 1, .ref (x1 + 1), .int x3, .int x4] mem (fun r3 mem2 => ((x2 < r3 → Vw (Nv (d + 1) P) mX1_runOn 56 [(0, .ref 1), (1, .ref x1), (2, .int x2), (3, .int x3), (4, .int (x4 + 1))] [] mem2) ∧ (¬ x2 < r3 → (Ci mX1_leastLight d [.ref 1, .ref (x1 + 1), .int x3] mem2 (fun r6 mem5 => (((mem5 1 1) < r6 → (∀ mem8 : wf_Mem, mem8 = wf_ms mem5 1 1 r6 → (∀ mem9 : wf_Mem, mem9 = wf_ms mem8 1 2 r3 → (∀ mem10 : wf_Mem, mem10 = wf_ms mem9 1 3 x4 → Vw (Nv (d + 1) P) mX1_runOn 56 [(0, .ref 1), (1, .ref x1), (2, .int x2), (3, .int x3), (4, .int (x4 + 1))] [] mem10)))) ∧ (¬ (mem5 1 1) < r6 → ((¬ r6 = (mem5 1 1) → Vw (Nv (d + 1) P) mX1_runOn 56 [(0, .ref 1), (1, .ref x1), (2, .int x2), (3, .int x3), (4, .int (x4 + 1))] [] mem5) ∧ (r6 = (mem5 1 1) → (((mem5 1 2) ≤ r3 → Vw (Nv (d + 1) P) mX1_runOn 56 [(0, .ref 1), (1, .ref x1), (2, .int x2), (3, .int x3), (4, .int (x4 + 1))] [] mem5) ∧ (¬ (mem5 1 2) ≤ r3 → (∀ mem13 : wf_Mem, mem13 = wf_ms mem5 1 1 r6 → (∀ mem14 : wf_Mem, mem14 = wf_ms mem13 1 2 r3 → (∀ mem15 : wf_Mem, mem15 = wf_ms mem14 1 3 x4 → Vw (Nv (d + 1) P) mX1_runOn 56 [(0, .ref 1), (1, .ref x1), (2, .int x2), (3, .int x3), (4, .int (x4 + 1))] [] mem15)))))))))))))))))) :
    Vw (Nv (d + 1) P) mX1_runOn 56 [(0, .ref 1), (1, .ref x1), (2, .int x2), (3, .int x3), (4, .int x4)] [] mem := by
  refine V_iload 4 dX1_runOn_56 rfl ?_
  refine V_iconst (v := 1) dX1_runOn_58 rfl ?_
  refine V_iconst (v := 2) dX1_runOn_59 rfl ?_
  refine V_iload_n 3 dX1_runOn_60 rfl ?_
  refine V_imul dX1_runOn_61 ?_
  refine V_ishl dX1_runOn_62 ?_
  refine V_icmp_ge (tgt := 147) dX1_runOn_63 rfl ⟨fun c1 => ?_, fun c1 => ?_⟩
  · have h := h.1 c1
    exact V_vret dX1_runOn_147 rfl h
  · have h := h.2 c1
    refine V_aload_n 0 dX1_runOn_66 rfl ?_
    refine V_aload_n 1 dX1_runOn_67 rfl ?_
    refine V_getf (v := .ref (x1 + 1)) gf_X1_31 dX1_runOn_68 hx1 rfl ?_
    refine V_iload_n 3 dX1_runOn_71 rfl ?_
    refine V_iload 4 dX1_runOn_72 rfl ?_
    refine V_cVi [.ref (x1 + 1), .int x3, .int x4] mv_X1_putFires w_111 dX1_runOn_74 wf_rok_m sh_a1 rfl (by decide) rfl rfl (Nat.le_of_ble_eq_true rfl) h ?_
    intro r3 mem2 h
    refine V_istore (lv' := [(0, .ref 1), (1, .ref x1), (2, .int x2), (3, .int x3), (4, .int x4), (5, .int r3)]) dX1_runOn_77 (by decide) rfl rfl ?_
    refine V_iload 5 dX1_runOn_79 rfl ?_
    refine V_iload_n 2 dX1_runOn_81 rfl ?_
    refine V_icmp_gt (tgt := 141) dX1_runOn_82 rfl ⟨fun c4 => ?_, fun c4 => ?_⟩
    · have h := h.1 c4
      refine V_iinc (v := (x4 + 1)) (lv' := [(0, .ref 1), (1, .ref x1), (2, .int x2), (3, .int x3), (4, .int (x4 + 1)), (5, .int r3)]) 4 dX1_runOn_141 rfl rfl (by decide) rfl rfl ?_
      refine V_goto (tgt := 56) dX1_runOn_144 rfl ?_
      exact V_sub [0, 1, 2, 3, 4] rfl h
    · have h := h.2 c4
      refine V_aload_n 0 dX1_runOn_85 rfl ?_
      refine V_aload_n 1 dX1_runOn_86 rfl ?_
      refine V_getf (v := .ref (x1 + 1)) gf_X1_31 dX1_runOn_87 hx1 rfl ?_
      refine V_iload_n 3 dX1_runOn_90 rfl ?_
      refine V_cVi [.ref (x1 + 1), .int x3] mv_X1_leastLight w_115 dX1_runOn_91 wf_rok_m sh_a1 rfl (by decide) rfl rfl (Nat.le_of_ble_eq_true rfl) h ?_
      intro r6 mem5 h
      refine V_istore (lv' := [(0, .ref 1), (1, .ref x1), (2, .int x2), (3, .int x3), (4, .int x4), (5, .int r3), (6, .int r6)]) dX1_runOn_94 (by decide) rfl rfl ?_
      refine V_iload 6 dX1_runOn_96 rfl ?_
      refine V_aload_n 0 dX1_runOn_98 rfl ?_
      refine V_getf (v := .int (mem5 1 1)) gf_X1_15 dX1_runOn_99 sh_a1 rfl ?_
      refine V_icmp_gt (tgt := 123) dX1_runOn_102 rfl ⟨fun c7 => ?_, fun c7 => ?_⟩
      · have h := h.1 c7
        refine V_aload_n 0 dX1_runOn_123 rfl ?_
        refine V_iload 6 dX1_runOn_124 rfl ?_
        refine V_putf pf_X1_15 dX1_runOn_126 sh_a1 rfl rfl ?_
        refine V_topm (fun mem8 emem8 => ?_)
        have h := h mem8 emem8
        refine V_aload_n 0 dX1_runOn_129 rfl ?_
        refine V_iload 5 dX1_runOn_130 rfl ?_
        refine V_putf pf_X1_19 dX1_runOn_132 sh_a1 rfl rfl ?_
        refine V_topm (fun mem9 emem9 => ?_)
        have h := h mem9 emem9
        refine V_aload_n 0 dX1_runOn_135 rfl ?_
        refine V_iload 4 dX1_runOn_136 rfl ?_
        refine V_putf pf_X1_22 dX1_runOn_138 sh_a1 rfl rfl ?_
        refine V_topm (fun mem10 emem10 => ?_)
        have h := h mem10 emem10
        refine V_iinc (v := (x4 + 1)) (lv' := [(0, .ref 1), (1, .ref x1), (2, .int x2), (3, .int x3), (4, .int (x4 + 1)), (5, .int r3), (6, .int r6)]) 4 dX1_runOn_141 rfl rfl (by decide) rfl rfl ?_
        refine V_goto (tgt := 56) dX1_runOn_144 rfl ?_
        exact V_sub [0, 1, 2, 3, 4] rfl h
      · have h := h.2 c7
        refine V_iload 6 dX1_runOn_105 rfl ?_
        refine V_aload_n 0 dX1_runOn_107 rfl ?_
        refine V_getf (v := .int (mem5 1 1)) gf_X1_15 dX1_runOn_108 sh_a1 rfl ?_
        refine V_icmp_ne (tgt := 141) dX1_runOn_111 rfl ⟨fun c11 => ?_, fun c11 => ?_⟩
        · have h := h.1 c11
          refine V_iinc (v := (x4 + 1)) (lv' := [(0, .ref 1), (1, .ref x1), (2, .int x2), (3, .int x3), (4, .int (x4 + 1)), (5, .int r3), (6, .int r6)]) 4 dX1_runOn_141 rfl rfl (by decide) rfl rfl ?_
          refine V_goto (tgt := 56) dX1_runOn_144 rfl ?_
          exact V_sub [0, 1, 2, 3, 4] rfl h
        · have h := h.2 c11
          refine V_iload 5 dX1_runOn_114 rfl ?_
          refine V_aload_n 0 dX1_runOn_116 rfl ?_
          refine V_getf (v := .int (mem5 1 2)) gf_X1_19 dX1_runOn_117 sh_a1 rfl ?_
          refine V_icmp_ge (tgt := 141) dX1_runOn_120 rfl ⟨fun c12 => ?_, fun c12 => ?_⟩
          · have h := h.1 c12
            refine V_iinc (v := (x4 + 1)) (lv' := [(0, .ref 1), (1, .ref x1), (2, .int x2), (3, .int x3), (4, .int (x4 + 1)), (5, .int r3), (6, .int r6)]) 4 dX1_runOn_141 rfl rfl (by decide) rfl rfl ?_
            refine V_goto (tgt := 56) dX1_runOn_144 rfl ?_
            exact V_sub [0, 1, 2, 3, 4] rfl h
          · have h := h.2 c12
            refine V_aload_n 0 dX1_runOn_123 rfl ?_
            refine V_iload 6 dX1_runOn_124 rfl ?_
            refine V_putf pf_X1_15 dX1_runOn_126 sh_a1 rfl rfl ?_
            refine V_topm (fun mem13 emem13 => ?_)
            have h := h mem13 emem13
            refine V_aload_n 0 dX1_runOn_129 rfl ?_
            refine V_iload 5 dX1_runOn_130 rfl ?_
            refine V_putf pf_X1_19 dX1_runOn_132 sh_a1 rfl rfl ?_
            refine V_topm (fun mem14 emem14 => ?_)
            have h := h mem14 emem14
            refine V_aload_n 0 dX1_runOn_135 rfl ?_
            refine V_iload 4 dX1_runOn_136 rfl ?_
            refine V_putf pf_X1_22 dX1_runOn_138 sh_a1 rfl rfl ?_
            refine V_topm (fun mem15 emem15 => ?_)
            have h := h mem15 emem15
            refine V_iinc (v := (x4 + 1)) (lv' := [(0, .ref 1), (1, .ref x1), (2, .int x2), (3, .int x3), (4, .int (x4 + 1)), (5, .int r3), (6, .int r6)]) 4 dX1_runOn_141 rfl rfl (by decide) rfl rfl ?_
            refine V_goto (tgt := 56) dX1_runOn_144 rfl ?_
            exact V_sub [0, 1, 2, 3, 4] rfl h
set_option maxRecDepth 20000 in
theorem b_X1_putFires_0 {d : Nat} {P : Int32 → wf_Mem → Prop} (mem : wf_Mem) (x1 : Nat) (hx1 : wf_sh x1 = (3, 0)) (x2 : Int32) (x3 : Int32)
    (h : (∀ x6_1 : Int32, x6_1 = (x2 - 1) → Vw (Ni d P) mX1_putFires 11 [(1, .ref x1), (4, .int 0), (5, .int x3), (6, .int x6_1)] [] mem)) :
    Vw (Ni d P) mX1_putFires 0 [(0, .ref 1), (1, .ref x1), (2, .int x2), (3, .int x3)] [] mem := by
  refine V_iconst (v := 0) dX1_putFires_0 rfl ?_
  refine V_istore (lv' := [(0, .ref 1), (1, .ref x1), (2, .int x2), (3, .int x3), (4, .int 0)]) dX1_putFires_1 (by decide) rfl rfl ?_
  refine V_iload_n 3 dX1_putFires_3 rfl ?_
  refine V_istore (lv' := [(0, .ref 1), (1, .ref x1), (2, .int x2), (3, .int x3), (4, .int 0), (5, .int x3)]) dX1_putFires_4 (by decide) rfl rfl ?_
  refine V_iload_n 2 dX1_putFires_6 rfl ?_
  refine V_iconst (v := 1) dX1_putFires_7 rfl ?_
  refine V_isub dX1_putFires_8 ?_
  refine V_topi (fun x6_1 ex6_1 => ?_)
  have h := h x6_1 ex6_1
  refine V_istore (lv' := [(0, .ref 1), (1, .ref x1), (2, .int x2), (3, .int x3), (4, .int 0), (5, .int x3), (6, .int x6_1)]) dX1_putFires_9 (by decide) rfl rfl ?_
  exact V_sub [1, 4, 5, 6] rfl h
set_option maxRecDepth 20000 in
theorem b_X1_putFires_11 {d : Nat} {P : Int32 → wf_Mem → Prop} (mem : wf_Mem) (x1 : Nat) (hx1 : wf_sh x1 = (3, 0)) (x4 : Int32) (x5 : Int32) (x6 : Int32)
    (h : ((x6 < 0 → P x4 mem) ∧ (¬ x6 < 0 → (vp_in x6 12 ∧ ∀ mem2 : wf_Mem, mem2 = wf_ms mem (x1 + 2) x6.toNatClampNeg (x5 &&& 3) → (vp_in x6 12 ∧ (∀ x4_3 : Int32, x4_3 = (x4 + (mem2 (x1 + 2) x6.toNatClampNeg)) → (∀ x5_4 : Int32, x5_4 = (x5 >>> ((2 : Int32) &&& 31)) → Vw (Ni d P) mX1_putFires 11 [(1, .ref x1), (4, .int x4_3), (5, .int x5_4), (6, .int (x6 + (-1)))] [] mem2))))))) :
    Vw (Ni d P) mX1_putFires 11 [(1, .ref x1), (4, .int x4), (5, .int x5), (6, .int x6)] [] mem := by
  refine V_iload 3 dX1_putFires_11 rfl ?_
  refine V_if_lt (tgt := 51) dX1_putFires_13 rfl ⟨fun c1 => ?_, fun c1 => ?_⟩
  · have h := h.1 c1
    refine V_iload 1 dX1_putFires_51 rfl ?_
    exact V_iret dX1_putFires_53 rfl h
  · have h := h.2 c1
    refine V_aload_n 0 dX1_putFires_16 rfl ?_
    refine V_getf (v := .ref (x1 + 2)) gf_X1_53 dX1_putFires_17 hx1 rfl ?_
    refine V_iload 3 dX1_putFires_20 rfl ?_
    refine V_iload 2 dX1_putFires_22 rfl ?_
    refine V_iconst (v := 3) dX1_putFires_24 rfl ?_
    refine V_iand dX1_putFires_25 ?_
    refine V_iast dX1_putFires_26 (sh_3_2 hx1) ⟨h.1, ?_⟩
    refine V_topm (fun mem2 emem2 => ?_)
    have h := h.2 mem2 emem2
    refine V_iload 1 dX1_putFires_27 rfl ?_
    refine V_aload_n 0 dX1_putFires_29 rfl ?_
    refine V_getf (v := .ref (x1 + 2)) gf_X1_53 dX1_putFires_30 hx1 rfl ?_
    refine V_iload 3 dX1_putFires_33 rfl ?_
    refine V_iald dX1_putFires_35 (sh_3_2 hx1) ⟨h.1, ?_⟩
    have h := h.2
    refine V_iadd dX1_putFires_36 ?_
    refine V_topi (fun x4_3 ex4_3 => ?_)
    have h := h x4_3 ex4_3
    refine V_istore (lv' := [(1, .ref x1), (4, .int x4_3), (5, .int x5), (6, .int x6)]) dX1_putFires_37 (by decide) rfl rfl ?_
    refine V_iload 2 dX1_putFires_39 rfl ?_
    refine V_iconst (v := 2) dX1_putFires_41 rfl ?_
    refine V_ishr dX1_putFires_42 ?_
    refine V_topi (fun x5_4 ex5_4 => ?_)
    have h := h x5_4 ex5_4
    refine V_istore (lv' := [(1, .ref x1), (4, .int x4_3), (5, .int x5_4), (6, .int x6)]) dX1_putFires_43 (by decide) rfl rfl ?_
    refine V_iinc (v := (x6 + (-1))) (lv' := [(1, .ref x1), (4, .int x4_3), (5, .int x5_4), (6, .int (x6 + (-1)))]) 3 dX1_putFires_45 rfl rfl (by decide) rfl rfl ?_
    refine V_goto (tgt := 11) dX1_putFires_48 rfl ?_
    exact h
set_option maxRecDepth 20000 in
theorem b_X1_leastLight_0 {d : Nat} {P : Int32 → wf_Mem → Prop} (mem : wf_Mem) (x1 : Nat) (hx1 : wf_sh x1 = (3, 0)) (x2 : Int32)
    (h : Vw (Ni (d + 1) P) mX1_leastLight 6 [(0, .ref 1), (1, .ref x1), (2, .int x2), (3, .int 99), (4, .int 0)] [] mem) :
    Vw (Ni (d + 1) P) mX1_leastLight 0 [(0, .ref 1), (1, .ref x1), (2, .int x2)] [] mem := by
  refine V_bipush (v := 99) dX1_leastLight_0 rfl ?_
  refine V_istore_n (lv' := [(0, .ref 1), (1, .ref x1), (2, .int x2), (3, .int 99)]) dX1_leastLight_2 (by decide) rfl rfl ?_
  refine V_iconst (v := 0) dX1_leastLight_3 rfl ?_
  refine V_istore (lv' := [(0, .ref 1), (1, .ref x1), (2, .int x2), (3, .int 99), (4, .int 0)]) dX1_leastLight_4 (by decide) rfl rfl ?_
  exact h
set_option maxRecDepth 20000 in
theorem b_X1_leastLight_6 {d : Nat} {P : Int32 → wf_Mem → Prop} (mem : wf_Mem) (x1 : Nat) (hx1 : wf_sh x1 = (3, 0)) (x2 : Int32) (x3 : Int32) (x4 : Int32)
    (h : ((x2 ≤ x4 → P x3 mem) ∧ (¬ x2 ≤ x4 → (vp_in x4 12 ∧ (Ci mX3_nextFires d [.ref x1, .int x4] mem (fun r3 mem2 => (vp_in (((mem (x1 + 2) x4.toNatClampNeg) * 7) + r3) 28 ∧ (∀ x3_4 : Int32, x3_4 = (if (mem2 2 (((mem (x1 + 2) x4.toNatClampNeg) * 7) + r3).toNatClampNeg) < x3 then (mem2 2 (((mem (x1 + 2) x4.toNatClampNeg) * 7) + r3).toNatClampNeg) else x3) → Vw (Ni (d + 1) P) mX1_leastLight 6 [(0, .ref 1), (1, .ref x1), (2, .int x2), (3, .int x3_4), (4, .int (x4 + 1))] [] mem2)))))))) :
    Vw (Ni (d + 1) P) mX1_leastLight 6 [(0, .ref 1), (1, .ref x1), (2, .int x2), (3, .int x3), (4, .int x4)] [] mem := by
  refine V_iload 4 dX1_leastLight_6 rfl ?_
  refine V_iload_n 2 dX1_leastLight_8 rfl ?_
  refine V_icmp_ge (tgt := 45) dX1_leastLight_9 rfl ⟨fun c1 => ?_, fun c1 => ?_⟩
  · have h := h.1 c1
    refine V_iload_n 3 dX1_leastLight_45 rfl ?_
    exact V_iret dX1_leastLight_46 rfl h
  · have h := h.2 c1
    refine V_iload_n 3 dX1_leastLight_12 rfl ?_
    refine V_aload_n 0 dX1_leastLight_13 rfl ?_
    refine V_getf (v := .ref 2) gf_X1_11 dX1_leastLight_14 sh_a1 rfl ?_
    refine V_aload_n 1 dX1_leastLight_17 rfl ?_
    refine V_getf (v := .ref (x1 + 2)) gf_X1_53 dX1_leastLight_18 hx1 rfl ?_
    refine V_iload 4 dX1_leastLight_21 rfl ?_
    refine V_iald dX1_leastLight_23 (sh_3_2 hx1) ⟨h.1, ?_⟩
    have h := h.2
    refine V_bipush (v := 7) dX1_leastLight_24 rfl ?_
    refine V_imul dX1_leastLight_26 ?_
    refine V_aload_n 1 dX1_leastLight_27 rfl ?_
    refine V_iload 4 dX1_leastLight_28 rfl ?_
    refine V_cVi [.int x4] mv_X3_nextFires w_119 dX1_leastLight_30 wf_rok_m hx1 rfl (by decide) rfl rfl (Nat.le_of_ble_eq_true rfl) h ?_
    intro r3 mem2 h
    refine V_iadd dX1_leastLight_33 ?_
    refine V_iald dX1_leastLight_34 sh_a2 ⟨h.1, ?_⟩
    have h := h.2
    refine V_mmin w_105 wm_min dX1_leastLight_35 wf_rok_m (Nat.le_of_ble_eq_true rfl) ?_
    refine V_topi (fun x3_4 ex3_4 => ?_)
    have h := h x3_4 ex3_4
    refine V_istore_n (lv' := [(0, .ref 1), (1, .ref x1), (2, .int x2), (3, .int x3_4), (4, .int x4)]) dX1_leastLight_38 (by decide) rfl rfl ?_
    refine V_iinc (v := (x4 + 1)) (lv' := [(0, .ref 1), (1, .ref x1), (2, .int x2), (3, .int x3_4), (4, .int (x4 + 1))]) 4 dX1_leastLight_39 rfl rfl (by decide) rfl rfl ?_
    refine V_goto (tgt := 6) dX1_leastLight_42 rfl ?_
    exact h
set_option maxRecDepth 20000 in
theorem b_X2_begins_0 {d : Nat} {P : wf_Mem → Prop} (mem : wf_Mem) (x0 : Nat) (hx0 : wf_sh x0 = (2, 0)) (x1 : Int32)
    (h : (∀ mem1 : wf_Mem, mem1 = wf_ms mem x0 0 x1 → (∀ mem2 : wf_Mem, mem2 = wf_ms mem1 x0 1 0 → (∀ mem3 : wf_Mem, mem3 = wf_ms mem2 x0 3 0 → P mem3)))) :
    Vw (Nv d P) mX2_begins 0 [(0, .ref x0), (1, .int x1)] [] mem := by
  refine V_aload_n 0 dX2_begins_0 rfl ?_
  refine V_iload_n 1 dX2_begins_1 rfl ?_
  refine V_putf pf_X2_9 dX2_begins_2 hx0 rfl rfl ?_
  refine V_topm (fun mem1 emem1 => ?_)
  have h := h mem1 emem1
  refine V_aload_n 0 dX2_begins_5 rfl ?_
  refine V_iconst (v := 0) dX2_begins_6 rfl ?_
  refine V_putf pf_X2_15 dX2_begins_7 hx0 rfl rfl ?_
  refine V_topm (fun mem2 emem2 => ?_)
  have h := h mem2 emem2
  refine V_aload_n 0 dX2_begins_10 rfl ?_
  refine V_iconst (v := 0) dX2_begins_11 rfl ?_
  refine V_putf pf_X2_22 dX2_begins_12 hx0 rfl rfl ?_
  refine V_topm (fun mem3 emem3 => ?_)
  have h := h mem3 emem3
  exact V_vret dX2_begins_15 rfl h
set_option maxRecDepth 20000 in
theorem b_X2_addNumber_0 {d : Nat} {P : wf_Mem → Prop} (mem : wf_Mem) (x0 : Nat) (hx0 : wf_sh x0 = (2, 0)) (x1 : Int32)
    (h : (Cv mX2_addCode d [.ref x0, .int x1] mem (fun mem1 => (∀ mem2 : wf_Mem, mem2 = wf_ms mem1 x0 1 ((mem1 x0 1) + 1) → P mem2)))) :
    Vw (Nv (d + 1) P) mX2_addNumber 0 [(0, .ref x0), (1, .int x1)] [] mem := by
  refine V_aload_n 0 dX2_addNumber_0 rfl ?_
  refine V_iload_n 1 dX2_addNumber_1 rfl ?_
  refine V_cVv [.int x1] mv_X2_addCode w_126 dX2_addNumber_2 wf_rok_m hx0 rfl (by decide) rfl rfl (Nat.le_of_ble_eq_true rfl) h ?_
  intro mem1 h
  refine V_aload_n 0 dX2_addNumber_5 rfl ?_
  refine V_dup dX2_addNumber_6 rfl ?_
  refine V_getf (v := .int (mem1 x0 1)) gf_X2_15 dX2_addNumber_7 hx0 rfl ?_
  refine V_iconst (v := 1) dX2_addNumber_10 rfl ?_
  refine V_iadd dX2_addNumber_11 ?_
  refine V_putf pf_X2_15 dX2_addNumber_12 hx0 rfl rfl ?_
  refine V_topm (fun mem2 emem2 => ?_)
  have h := h mem2 emem2
  exact V_vret dX2_addNumber_15 rfl h
set_option maxRecDepth 20000 in
theorem b_X2_addName_0 {d : Nat} {P : wf_Mem → Prop} (mem : wf_Mem) (x0 : Nat) (hx0 : wf_sh x0 = (2, 0)) (x1 : Int32)
    (h : (Cv mX2_addCode d [.ref x0, .int ((-1) - x1)] mem (fun mem1 => (∀ mem2 : wf_Mem, mem2 = wf_ms mem1 x0 1 ((mem1 x0 1) + 1) → P mem2)))) :
    Vw (Nv (d + 1) P) mX2_addName 0 [(0, .ref x0), (1, .int x1)] [] mem := by
  refine V_aload_n 0 dX2_addName_0 rfl ?_
  refine V_iconst (v := (-1)) dX2_addName_1 rfl ?_
  refine V_iload_n 1 dX2_addName_2 rfl ?_
  refine V_isub dX2_addName_3 ?_
  refine V_cVv [.int ((-1) - x1)] mv_X2_addCode w_126 dX2_addName_4 wf_rok_m hx0 rfl (by decide) rfl rfl (Nat.le_of_ble_eq_true rfl) h ?_
  intro mem1 h
  refine V_aload_n 0 dX2_addName_7 rfl ?_
  refine V_dup dX2_addName_8 rfl ?_
  refine V_getf (v := .int (mem1 x0 1)) gf_X2_15 dX2_addName_9 hx0 rfl ?_
  refine V_iconst (v := 1) dX2_addName_12 rfl ?_
  refine V_iadd dX2_addName_13 ?_
  refine V_putf pf_X2_15 dX2_addName_14 hx0 rfl rfl ?_
  refine V_topm (fun mem2 emem2 => ?_)
  have h := h mem2 emem2
  exact V_vret dX2_addName_17 rfl h
set_option maxRecDepth 20000 in
theorem b_X2_addSign_0 {d : Nat} {P : wf_Mem → Prop} (mem : wf_Mem) (x0 : Nat) (hx0 : wf_sh x0 = (2, 0)) (x1 : Int32)
    (h : (Cv mX2_addCode d [.ref x0, .int ((-100) - x1)] mem (fun mem1 => P mem1))) :
    Vw (Nv (d + 1) P) mX2_addSign 0 [(0, .ref x0), (1, .int x1)] [] mem := by
  refine V_aload_n 0 dX2_addSign_0 rfl ?_
  refine V_bipush (v := (-100)) dX2_addSign_1 rfl ?_
  refine V_iload_n 1 dX2_addSign_3 rfl ?_
  refine V_isub dX2_addSign_4 ?_
  refine V_cVv [.int ((-100) - x1)] mv_X2_addCode w_126 dX2_addSign_5 wf_rok_m hx0 rfl (by decide) rfl rfl (Nat.le_of_ble_eq_true rfl) h ?_
  intro mem1 h
  exact V_vret dX2_addSign_8 rfl h
set_option maxRecDepth 20000 in
theorem b_X2_addCode_0 {d : Nat} {P : wf_Mem → Prop} (mem : wf_Mem) (x0 : Nat) (hx0 : wf_sh x0 = (2, 0)) (x1 : Int32)
    (h : ((96 ≤ (mem x0 3) → P mem) ∧ (¬ 96 ≤ (mem x0 3) → (vp_in (mem x0 3) 96 ∧ ∀ mem2 : wf_Mem, mem2 = wf_ms mem (x0 + 1) (mem x0 3).toNatClampNeg x1 → (∀ mem3 : wf_Mem, mem3 = wf_ms mem2 x0 3 ((mem2 x0 3) + 1) → P mem3))))) :
    Vw (Nv d P) mX2_addCode 0 [(0, .ref x0), (1, .int x1)] [] mem := by
  refine V_aload_n 0 dX2_addCode_0 rfl ?_
  refine V_getf (v := .int (mem x0 3)) gf_X2_22 dX2_addCode_1 hx0 rfl ?_
  refine V_aload_n 0 dX2_addCode_4 rfl ?_
  refine V_getf (v := .ref (x0 + 1)) gf_X2_18 dX2_addCode_5 hx0 rfl ?_
  refine V_alen (v := 96) dX2_addCode_8 (sh_2_2 hx0) rfl ?_
  refine V_icmp_ge (tgt := 32) dX2_addCode_9 rfl ⟨fun c1 => ?_, fun c1 => ?_⟩
  · have h := h.1 c1
    exact V_vret dX2_addCode_32 rfl h
  · have h := h.2 c1
    refine V_aload_n 0 dX2_addCode_12 rfl ?_
    refine V_getf (v := .ref (x0 + 1)) gf_X2_18 dX2_addCode_13 hx0 rfl ?_
    refine V_aload_n 0 dX2_addCode_16 rfl ?_
    refine V_getf (v := .int (mem x0 3)) gf_X2_22 dX2_addCode_17 hx0 rfl ?_
    refine V_iload_n 1 dX2_addCode_20 rfl ?_
    refine V_iast dX2_addCode_21 (sh_2_2 hx0) ⟨h.1, ?_⟩
    refine V_topm (fun mem2 emem2 => ?_)
    have h := h.2 mem2 emem2
    refine V_aload_n 0 dX2_addCode_22 rfl ?_
    refine V_dup dX2_addCode_23 rfl ?_
    refine V_getf (v := .int (mem2 x0 3)) gf_X2_22 dX2_addCode_24 hx0 rfl ?_
    refine V_iconst (v := 1) dX2_addCode_27 rfl ?_
    refine V_iadd dX2_addCode_28 ?_
    refine V_putf pf_X2_22 dX2_addCode_29 hx0 rfl rfl ?_
    refine V_topm (fun mem3 emem3 => ?_)
    have h := h mem3 emem3
    exact V_vret dX2_addCode_32 rfl h
set_option maxRecDepth 20000 in
theorem b_X2_work_0 {d : Nat} {P : Int32 → wf_Mem → Prop} (mem : wf_Mem) (x0 : Nat) (hx0 : wf_sh x0 = (2, 0)) (x1 : Int32) (x2 : Int32) (x3 : Int32)
    (h : Vw (Ni (d + 1) P) mX2_work 6 [(0, .ref x0), (1, .int x1), (2, .int x2), (3, .int x3), (4, .int 0), (5, .int 0)] [] mem) :
    Vw (Ni (d + 1) P) mX2_work 0 [(0, .ref x0), (1, .int x1), (2, .int x2), (3, .int x3)] [] mem := by
  refine V_iconst (v := 0) dX2_work_0 rfl ?_
  refine V_istore (lv' := [(0, .ref x0), (1, .int x1), (2, .int x2), (3, .int x3), (4, .int 0)]) dX2_work_1 (by decide) rfl rfl ?_
  refine V_iconst (v := 0) dX2_work_3 rfl ?_
  refine V_istore (lv' := [(0, .ref x0), (1, .int x1), (2, .int x2), (3, .int x3), (4, .int 0), (5, .int 0)]) dX2_work_4 (by decide) rfl rfl ?_
  exact h
set_option maxRecDepth 20000 in
theorem b_X2_work_6 {d : Nat} {P : Int32 → wf_Mem → Prop} (mem : wf_Mem) (x0 : Nat) (hx0 : wf_sh x0 = (2, 0)) (x1 : Int32) (x2 : Int32) (x3 : Int32) (x4 : Int32) (x5 : Int32)
    (h : (((mem x0 3) ≤ x5 → P (mem 9 0) mem) ∧ (¬ (mem x0 3) ≤ x5 → (vp_in x5 96 ∧ (∀ x6_2 : Int32, x6_2 = (mem (x0 + 1) x5.toNatClampNeg) → ((x6_2 < (-3) → Vw (Ni (d + 1) P) mX2_work 72 [(0, .ref x0), (1, .int x1), (2, .int x2), (3, .int x3), (4, .int x4), (5, .int x5), (6, .int x6_2)] [] mem) ∧ (¬ x6_2 < (-3) → ((96 ≤ x4 → Vw (Ni (d + 1) P) mX2_work 72 [(0, .ref x0), (1, .int x1), (2, .int x2), (3, .int x3), (4, .int x4), (5, .int x5), (6, .int x6_2)] [] mem) ∧ (¬ 96 ≤ x4 → ((x6_2 < 0 → (Ci mX2_named d [.int x6_2, .int x1, .int x2, .int x3] mem (fun r7 mem6 => (vp_in x4 96 ∧ ∀ mem8 : wf_Mem, mem8 = wf_ms mem6 9 x4.toNatClampNeg r7 → Vw (Ni (d + 1) P) mX2_work 6 [(0, .ref x0), (1, .int x1), (2, .int x2), (3, .int x3), (4, .int (x4 + 1)), (5, .int (x5 + 1))] [] mem8)))) ∧ (¬ x6_2 < 0 → (vp_in x4 96 ∧ ∀ mem9 : wf_Mem, mem9 = wf_ms mem 9 x4.toNatClampNeg x6_2 → Vw (Ni (d + 1) P) mX2_work 6 [(0, .ref x0), (1, .int x1), (2, .int x2), (3, .int x3), (4, .int (x4 + 1)), (5, .int (x5 + 1))] [] mem9)))))))))))) :
    Vw (Ni (d + 1) P) mX2_work 6 [(0, .ref x0), (1, .int x1), (2, .int x2), (3, .int x3), (4, .int x4), (5, .int x5)] [] mem := by
  refine V_iload 5 dX2_work_6 rfl ?_
  refine V_aload_n 0 dX2_work_8 rfl ?_
  refine V_getf (v := .int (mem x0 3)) gf_X2_22 dX2_work_9 hx0 rfl ?_
  refine V_icmp_ge (tgt := 163) dX2_work_12 rfl ⟨fun c1 => ?_, fun c1 => ?_⟩
  · have h := h.1 c1
    refine V_aload_n 0 dX2_work_163 rfl ?_
    refine V_getf (v := .ref 9) gf_X2_25 dX2_work_164 hx0 rfl ?_
    refine V_iconst (v := 0) dX2_work_167 rfl ?_
    refine V_ildL (j := 0) dX2_work_168 sh_a9 (by decide) (by decide) ?_
    exact V_iret dX2_work_169 rfl h
  · have h := h.2 c1
    refine V_aload_n 0 dX2_work_15 rfl ?_
    refine V_getf (v := .ref (x0 + 1)) gf_X2_18 dX2_work_16 hx0 rfl ?_
    refine V_iload 5 dX2_work_19 rfl ?_
    refine V_iald dX2_work_21 (sh_2_2 hx0) ⟨h.1, ?_⟩
    have h := h.2
    refine V_topi (fun x6_2 ex6_2 => ?_)
    have h := h x6_2 ex6_2
    refine V_istore (lv' := [(0, .ref x0), (1, .int x1), (2, .int x2), (3, .int x3), (4, .int x4), (5, .int x5), (6, .int x6_2)]) dX2_work_22 (by decide) rfl rfl ?_
    refine V_iload 6 dX2_work_24 rfl ?_
    refine V_bipush (v := (-3)) dX2_work_26 rfl ?_
    refine V_icmp_lt (tgt := 72) dX2_work_28 rfl ⟨fun c3 => ?_, fun c3 => ?_⟩
    · have h := h.1 c3
      exact h
    · have h := h.2 c3
      refine V_iload 4 dX2_work_31 rfl ?_
      refine V_aload_n 0 dX2_work_33 rfl ?_
      refine V_getf (v := .ref 9) gf_X2_25 dX2_work_34 hx0 rfl ?_
      refine V_alen (v := 96) dX2_work_37 sh_a9 rfl ?_
      refine V_icmp_ge (tgt := 72) dX2_work_38 rfl ⟨fun c4 => ?_, fun c4 => ?_⟩
      · have h := h.1 c4
        exact h
      · have h := h.2 c4
        refine V_aload_n 0 dX2_work_41 rfl ?_
        refine V_getf (v := .ref 9) gf_X2_25 dX2_work_42 hx0 rfl ?_
        refine V_iload 4 dX2_work_45 rfl ?_
        refine V_iload 6 dX2_work_47 rfl ?_
        refine V_if_lt (tgt := 57) dX2_work_49 rfl ⟨fun c5 => ?_, fun c5 => ?_⟩
        · have h := h.1 c5
          refine V_iload 6 dX2_work_57 rfl ?_
          refine V_iload_n 1 dX2_work_59 rfl ?_
          refine V_iload_n 2 dX2_work_60 rfl ?_
          refine V_iload_n 3 dX2_work_61 rfl ?_
          refine V_cSi [.int x6_2, .int x1, .int x2, .int x3] ms_X2_named w_131 dX2_work_62 wf_rok_m rfl rfl (Nat.le_of_ble_eq_true rfl) h ?_
          intro r7 mem6 h
          refine V_iast dX2_work_65 sh_a9 ⟨h.1, ?_⟩
          refine V_topm (fun mem8 emem8 => ?_)
          have h := h.2 mem8 emem8
          refine V_iinc (v := (x4 + 1)) (lv' := [(0, .ref x0), (1, .int x1), (2, .int x2), (3, .int x3), (4, .int (x4 + 1)), (5, .int x5), (6, .int x6_2)]) 4 dX2_work_66 rfl rfl (by decide) rfl rfl ?_
          refine V_goto (tgt := 157) dX2_work_69 rfl ?_
          refine V_iinc (v := (x5 + 1)) (lv' := [(0, .ref x0), (1, .int x1), (2, .int x2), (3, .int x3), (4, .int (x4 + 1)), (5, .int (x5 + 1)), (6, .int x6_2)]) 5 dX2_work_157 rfl rfl (by decide) rfl rfl ?_
          refine V_goto (tgt := 6) dX2_work_160 rfl ?_
          exact V_sub [0, 1, 2, 3, 4, 5] rfl h
        · have h := h.2 c5
          refine V_iload 6 dX2_work_52 rfl ?_
          refine V_goto (tgt := 65) dX2_work_54 rfl ?_
          refine V_iast dX2_work_65 sh_a9 ⟨h.1, ?_⟩
          refine V_topm (fun mem9 emem9 => ?_)
          have h := h.2 mem9 emem9
          refine V_iinc (v := (x4 + 1)) (lv' := [(0, .ref x0), (1, .int x1), (2, .int x2), (3, .int x3), (4, .int (x4 + 1)), (5, .int x5), (6, .int x6_2)]) 4 dX2_work_66 rfl rfl (by decide) rfl rfl ?_
          refine V_goto (tgt := 157) dX2_work_69 rfl ?_
          refine V_iinc (v := (x5 + 1)) (lv' := [(0, .ref x0), (1, .int x1), (2, .int x2), (3, .int x3), (4, .int (x4 + 1)), (5, .int (x5 + 1)), (6, .int x6_2)]) 5 dX2_work_157 rfl rfl (by decide) rfl rfl ?_
          refine V_goto (tgt := 6) dX2_work_160 rfl ?_
          exact V_sub [0, 1, 2, 3, 4, 5] rfl h
set_option maxRecDepth 20000 in
theorem b_X2_work_72 {d : Nat} {P : Int32 → wf_Mem → Prop} (mem : wf_Mem) (x0 : Nat) (hx0 : wf_sh x0 = (2, 0)) (x1 : Int32) (x2 : Int32) (x3 : Int32) (x4 : Int32) (x5 : Int32) (x6 : Int32)
    (h : ((¬ x6 = (-133) → Vw (Ni (d + 1) P) mX2_work 115 [(0, .ref x0), (1, .int x1), (2, .int x2), (3, .int x3), (4, .int x4), (5, .int x5), (6, .int x6)] [] mem) ∧ (x6 = (-133) → ((x4 < 1 → Vw (Ni (d + 1) P) mX2_work 115 [(0, .ref x0), (1, .int x1), (2, .int x2), (3, .int x3), (4, .int x4), (5, .int x5), (6, .int x6)] [] mem) ∧ (¬ x4 < 1 → (vp_in (x4 - 1) 96 ∧ ((¬ (mem 9 (x4 - 1).toNatClampNeg) = 0 → (vp_in (x4 - 1) 96 ∧ ∀ mem4 : wf_Mem, mem4 = wf_ms mem 9 (x4 - 1).toNatClampNeg 0 → Vw (Ni (d + 1) P) mX2_work 6 [(0, .ref x0), (1, .int x1), (2, .int x2), (3, .int x3), (4, .int x4), (5, .int (x5 + 1))] [] mem4)) ∧ ((mem 9 (x4 - 1).toNatClampNeg) = 0 → (vp_in (x4 - 1) 96 ∧ ∀ mem5 : wf_Mem, mem5 = wf_ms mem 9 (x4 - 1).toNatClampNeg 1 → Vw (Ni (d + 1) P) mX2_work 6 [(0, .ref x0), (1, .int x1), (2, .int x2), (3, .int x3), (4, .int x4), (5, .int (x5 + 1))] [] mem5))))))))) :
    Vw (Ni (d + 1) P) mX2_work 72 [(0, .ref x0), (1, .int x1), (2, .int x2), (3, .int x3), (4, .int x4), (5, .int x5), (6, .int x6)] [] mem := by
  refine V_iload 6 dX2_work_72 rfl ?_
  refine V_sipush (v := (-133)) dX2_work_74 rfl ?_
  refine V_icmp_ne (tgt := 115) dX2_work_77 rfl ⟨fun c1 => ?_, fun c1 => ?_⟩
  · have h := h.1 c1
    exact h
  · have h := h.2 c1
    refine V_iload 4 dX2_work_80 rfl ?_
    refine V_iconst (v := 1) dX2_work_82 rfl ?_
    refine V_icmp_lt (tgt := 115) dX2_work_83 rfl ⟨fun c2 => ?_, fun c2 => ?_⟩
    · have h := h.1 c2
      exact h
    · have h := h.2 c2
      refine V_aload_n 0 dX2_work_86 rfl ?_
      refine V_getf (v := .ref 9) gf_X2_25 dX2_work_87 hx0 rfl ?_
      refine V_iload 4 dX2_work_90 rfl ?_
      refine V_iconst (v := 1) dX2_work_92 rfl ?_
      refine V_isub dX2_work_93 ?_
      refine V_aload_n 0 dX2_work_94 rfl ?_
      refine V_getf (v := .ref 9) gf_X2_25 dX2_work_95 hx0 rfl ?_
      refine V_iload 4 dX2_work_98 rfl ?_
      refine V_iconst (v := 1) dX2_work_100 rfl ?_
      refine V_isub dX2_work_101 ?_
      refine V_iald dX2_work_102 sh_a9 ⟨h.1, ?_⟩
      have h := h.2
      refine V_if_ne (tgt := 110) dX2_work_103 rfl ⟨fun c3 => ?_, fun c3 => ?_⟩
      · have h := h.1 c3
        refine V_iconst (v := 0) dX2_work_110 rfl ?_
        refine V_iast dX2_work_111 sh_a9 ⟨h.1, ?_⟩
        refine V_topm (fun mem4 emem4 => ?_)
        have h := h.2 mem4 emem4
        refine V_goto (tgt := 157) dX2_work_112 rfl ?_
        refine V_iinc (v := (x5 + 1)) (lv' := [(0, .ref x0), (1, .int x1), (2, .int x2), (3, .int x3), (4, .int x4), (5, .int (x5 + 1)), (6, .int x6)]) 5 dX2_work_157 rfl rfl (by decide) rfl rfl ?_
        refine V_goto (tgt := 6) dX2_work_160 rfl ?_
        exact V_sub [0, 1, 2, 3, 4, 5] rfl h
      · have h := h.2 c3
        refine V_iconst (v := 1) dX2_work_106 rfl ?_
        refine V_goto (tgt := 111) dX2_work_107 rfl ?_
        refine V_iast dX2_work_111 sh_a9 ⟨h.1, ?_⟩
        refine V_topm (fun mem5 emem5 => ?_)
        have h := h.2 mem5 emem5
        refine V_goto (tgt := 157) dX2_work_112 rfl ?_
        refine V_iinc (v := (x5 + 1)) (lv' := [(0, .ref x0), (1, .int x1), (2, .int x2), (3, .int x3), (4, .int x4), (5, .int (x5 + 1)), (6, .int x6)]) 5 dX2_work_157 rfl rfl (by decide) rfl rfl ?_
        refine V_goto (tgt := 6) dX2_work_160 rfl ?_
        exact V_sub [0, 1, 2, 3, 4, 5] rfl h
set_option maxRecDepth 20000 in
theorem b_X2_work_115 {d : Nat} {P : Int32 → wf_Mem → Prop} (mem : wf_Mem) (x0 : Nat) (hx0 : wf_sh x0 = (2, 0)) (x1 : Int32) (x2 : Int32) (x3 : Int32) (x4 : Int32) (x5 : Int32) (x6 : Int32)
    (h : ((x4 < 2 → Vw (Ni (d + 1) P) mX2_work 6 [(0, .ref x0), (1, .int x1), (2, .int x2), (3, .int x3), (4, .int x4), (5, .int (x5 + 1))] [] mem) ∧ (¬ x4 < 2 → (vp_in ((x4 + (-1)) - 1) 96 ∧ (vp_in (x4 + (-1)) 96 ∧ (Ci mX2_joined d [.int ((-100) - x6), .int (mem 9 ((x4 + (-1)) - 1).toNatClampNeg), .int (mem 9 (x4 + (-1)).toNatClampNeg)] mem (fun r3 mem2 => (vp_in ((x4 + (-1)) - 1) 96 ∧ ∀ mem4 : wf_Mem, mem4 = wf_ms mem2 9 ((x4 + (-1)) - 1).toNatClampNeg r3 → Vw (Ni (d + 1) P) mX2_work 6 [(0, .ref x0), (1, .int x1), (2, .int x2), (3, .int x3), (4, .int (x4 + (-1))), (5, .int (x5 + 1))] [] mem4)))))))) :
    Vw (Ni (d + 1) P) mX2_work 115 [(0, .ref x0), (1, .int x1), (2, .int x2), (3, .int x3), (4, .int x4), (5, .int x5), (6, .int x6)] [] mem := by
  refine V_iload 4 dX2_work_115 rfl ?_
  refine V_iconst (v := 2) dX2_work_117 rfl ?_
  refine V_icmp_lt (tgt := 157) dX2_work_118 rfl ⟨fun c1 => ?_, fun c1 => ?_⟩
  · have h := h.1 c1
    refine V_iinc (v := (x5 + 1)) (lv' := [(0, .ref x0), (1, .int x1), (2, .int x2), (3, .int x3), (4, .int x4), (5, .int (x5 + 1)), (6, .int x6)]) 5 dX2_work_157 rfl rfl (by decide) rfl rfl ?_
    refine V_goto (tgt := 6) dX2_work_160 rfl ?_
    exact V_sub [0, 1, 2, 3, 4, 5] rfl h
  · have h := h.2 c1
    refine V_iinc (v := (x4 + (-1))) (lv' := [(0, .ref x0), (1, .int x1), (2, .int x2), (3, .int x3), (4, .int (x4 + (-1))), (5, .int x5), (6, .int x6)]) 4 dX2_work_121 rfl rfl (by decide) rfl rfl ?_
    refine V_aload_n 0 dX2_work_124 rfl ?_
    refine V_getf (v := .ref 9) gf_X2_25 dX2_work_125 hx0 rfl ?_
    refine V_iload 4 dX2_work_128 rfl ?_
    refine V_iconst (v := 1) dX2_work_130 rfl ?_
    refine V_isub dX2_work_131 ?_
    refine V_bipush (v := (-100)) dX2_work_132 rfl ?_
    refine V_iload 6 dX2_work_134 rfl ?_
    refine V_isub dX2_work_136 ?_
    refine V_aload_n 0 dX2_work_137 rfl ?_
    refine V_getf (v := .ref 9) gf_X2_25 dX2_work_138 hx0 rfl ?_
    refine V_iload 4 dX2_work_141 rfl ?_
    refine V_iconst (v := 1) dX2_work_143 rfl ?_
    refine V_isub dX2_work_144 ?_
    refine V_iald dX2_work_145 sh_a9 ⟨h.1, ?_⟩
    have h := h.2
    refine V_aload_n 0 dX2_work_146 rfl ?_
    refine V_getf (v := .ref 9) gf_X2_25 dX2_work_147 hx0 rfl ?_
    refine V_iload 4 dX2_work_150 rfl ?_
    refine V_iald dX2_work_152 sh_a9 ⟨h.1, ?_⟩
    have h := h.2
    refine V_cSi [.int ((-100) - x6), .int (mem 9 ((x4 + (-1)) - 1).toNatClampNeg), .int (mem 9 (x4 + (-1)).toNatClampNeg)] ms_X2_joined w_134 dX2_work_153 wf_rok_m rfl rfl (Nat.le_of_ble_eq_true rfl) h ?_
    intro r3 mem2 h
    refine V_iast dX2_work_156 sh_a9 ⟨h.1, ?_⟩
    refine V_topm (fun mem4 emem4 => ?_)
    have h := h.2 mem4 emem4
    refine V_iinc (v := (x5 + 1)) (lv' := [(0, .ref x0), (1, .int x1), (2, .int x2), (3, .int x3), (4, .int (x4 + (-1))), (5, .int (x5 + 1)), (6, .int x6)]) 5 dX2_work_157 rfl rfl (by decide) rfl rfl ?_
    refine V_goto (tgt := 6) dX2_work_160 rfl ?_
    exact V_sub [0, 1, 2, 3, 4, 5] rfl h
set_option maxRecDepth 20000 in
theorem b_X2_named_0 {d : Nat} {P : Int32 → wf_Mem → Prop} (mem : wf_Mem) (x0 : Int32) (x1 : Int32) (x2 : Int32) (x3 : Int32)
    (h : ((¬ x0 = (-1) → ((¬ x0 = (-3) → P x2 mem) ∧ (x0 = (-3) → P x3 mem))) ∧ (x0 = (-1) → P x1 mem))) :
    Vw (Ni d P) mX2_named 0 [(0, .int x0), (1, .int x1), (2, .int x2), (3, .int x3)] [] mem := by
  refine V_iload_n 0 dX2_named_0 rfl ?_
  refine V_iconst (v := (-1)) dX2_named_1 rfl ?_
  refine V_icmp_ne (tgt := 7) dX2_named_2 rfl ⟨fun c1 => ?_, fun c1 => ?_⟩
  · have h := h.1 c1
    refine V_iload_n 0 dX2_named_7 rfl ?_
    refine V_bipush (v := (-3)) dX2_named_8 rfl ?_
    refine V_icmp_ne (tgt := 17) dX2_named_10 rfl ⟨fun c2 => ?_, fun c2 => ?_⟩
    · have h := h.1 c2
      refine V_iload_n 2 dX2_named_17 rfl ?_
      exact V_iret dX2_named_18 rfl h
    · have h := h.2 c2
      refine V_iload_n 3 dX2_named_13 rfl ?_
      refine V_goto (tgt := 18) dX2_named_14 rfl ?_
      exact V_iret dX2_named_18 rfl h
  · have h := h.2 c1
    refine V_iload_n 1 dX2_named_5 rfl ?_
    exact V_iret dX2_named_6 rfl h
set_option maxRecDepth 20000 in
theorem b_X2_joined_0 {d : Nat} {P : Int32 → wf_Mem → Prop} (mem : wf_Mem) (x0 : Int32) (x1 : Int32) (x2 : Int32)
    (h : ((x0 = 38 → ((x1 = 0 → P 0 mem) ∧ (¬ x1 = 0 → ((x2 = 0 → P 0 mem) ∧ (¬ x2 = 0 → P 1 mem))))) ∧ (¬ x0 = 38 → ((x0 = 42 → P (x1 * x2) mem) ∧ (¬ x0 = 42 → ((x0 = 43 → P (x1 + x2) mem) ∧ (¬ x0 = 43 → ((x0 = 45 → P (x1 - x2) mem) ∧ (¬ x0 = 45 → ((x0 = 60 → ((x2 ≤ x1 → P 0 mem) ∧ (¬ x2 ≤ x1 → P 1 mem))) ∧ (¬ x0 = 60 → ((x0 = 61 → ((¬ x1 = x2 → P 0 mem) ∧ (x1 = x2 → P 1 mem))) ∧ (¬ x0 = 61 → ((x0 = 62 → ((x1 ≤ x2 → P 0 mem) ∧ (¬ x1 ≤ x2 → P 1 mem))) ∧ (¬ x0 = 62 → ((x0 = 124 → ((¬ x1 = 0 → P 1 mem) ∧ (x1 = 0 → ((x2 = 0 → P 0 mem) ∧ (¬ x2 = 0 → P 1 mem))))) ∧ (¬ x0 = 124 → ((¬ x2 = 0 → ((¬ x2 = 0) ∧ P (x1 / x2) mem)) ∧ (x2 = 0 → P 0 mem))))))))))))))))))) :
    Vw (Ni d P) mX2_joined 0 [(0, .int x0), (1, .int x1), (2, .int x2)] [] mem := by
  refine V_iload_n 0 dX2_joined_0 rfl ?_
  refine V_lswc [(38, 90), (42, 145), (43, 137), (45, 141), (60, 104), (61, 115), (62, 126), (124, 76)] 149 dX2_joined_1 (by decide +kernel) (by decide +kernel) ?_
  refine And.intro (fun c1 => ?_) (fun c1 => ?_)
  · have h := h.1 c1
    show Vw _ _ 90 _ _ _
    refine V_iload_n 1 dX2_joined_90 rfl ?_
    refine V_if_eq (tgt := 102) dX2_joined_91 rfl ⟨fun c2 => ?_, fun c2 => ?_⟩
    · have h := h.1 c2
      refine V_iconst (v := 0) dX2_joined_102 rfl ?_
      exact V_iret dX2_joined_103 rfl h
    · have h := h.2 c2
      refine V_iload_n 2 dX2_joined_94 rfl ?_
      refine V_if_eq (tgt := 102) dX2_joined_95 rfl ⟨fun c3 => ?_, fun c3 => ?_⟩
      · have h := h.1 c3
        refine V_iconst (v := 0) dX2_joined_102 rfl ?_
        exact V_iret dX2_joined_103 rfl h
      · have h := h.2 c3
        refine V_iconst (v := 1) dX2_joined_98 rfl ?_
        refine V_goto (tgt := 103) dX2_joined_99 rfl ?_
        exact V_iret dX2_joined_103 rfl h
  · have h := h.2 c1
    refine And.intro (fun c4 => ?_) (fun c4 => ?_)
    · have h := h.1 c4
      show Vw _ _ 145 _ _ _
      refine V_iload_n 1 dX2_joined_145 rfl ?_
      refine V_iload_n 2 dX2_joined_146 rfl ?_
      refine V_imul dX2_joined_147 ?_
      exact V_iret dX2_joined_148 rfl h
    · have h := h.2 c4
      refine And.intro (fun c5 => ?_) (fun c5 => ?_)
      · have h := h.1 c5
        show Vw _ _ 137 _ _ _
        refine V_iload_n 1 dX2_joined_137 rfl ?_
        refine V_iload_n 2 dX2_joined_138 rfl ?_
        refine V_iadd dX2_joined_139 ?_
        exact V_iret dX2_joined_140 rfl h
      · have h := h.2 c5
        refine And.intro (fun c6 => ?_) (fun c6 => ?_)
        · have h := h.1 c6
          show Vw _ _ 141 _ _ _
          refine V_iload_n 1 dX2_joined_141 rfl ?_
          refine V_iload_n 2 dX2_joined_142 rfl ?_
          refine V_isub dX2_joined_143 ?_
          exact V_iret dX2_joined_144 rfl h
        · have h := h.2 c6
          refine And.intro (fun c7 => ?_) (fun c7 => ?_)
          · have h := h.1 c7
            show Vw _ _ 104 _ _ _
            refine V_iload_n 1 dX2_joined_104 rfl ?_
            refine V_iload_n 2 dX2_joined_105 rfl ?_
            refine V_icmp_ge (tgt := 113) dX2_joined_106 rfl ⟨fun c8 => ?_, fun c8 => ?_⟩
            · have h := h.1 c8
              refine V_iconst (v := 0) dX2_joined_113 rfl ?_
              exact V_iret dX2_joined_114 rfl h
            · have h := h.2 c8
              refine V_iconst (v := 1) dX2_joined_109 rfl ?_
              refine V_goto (tgt := 114) dX2_joined_110 rfl ?_
              exact V_iret dX2_joined_114 rfl h
          · have h := h.2 c7
            refine And.intro (fun c9 => ?_) (fun c9 => ?_)
            · have h := h.1 c9
              show Vw _ _ 115 _ _ _
              refine V_iload_n 1 dX2_joined_115 rfl ?_
              refine V_iload_n 2 dX2_joined_116 rfl ?_
              refine V_icmp_ne (tgt := 124) dX2_joined_117 rfl ⟨fun c10 => ?_, fun c10 => ?_⟩
              · have h := h.1 c10
                refine V_iconst (v := 0) dX2_joined_124 rfl ?_
                exact V_iret dX2_joined_125 rfl h
              · have h := h.2 c10
                refine V_iconst (v := 1) dX2_joined_120 rfl ?_
                refine V_goto (tgt := 125) dX2_joined_121 rfl ?_
                exact V_iret dX2_joined_125 rfl h
            · have h := h.2 c9
              refine And.intro (fun c11 => ?_) (fun c11 => ?_)
              · have h := h.1 c11
                show Vw _ _ 126 _ _ _
                refine V_iload_n 1 dX2_joined_126 rfl ?_
                refine V_iload_n 2 dX2_joined_127 rfl ?_
                refine V_icmp_le (tgt := 135) dX2_joined_128 rfl ⟨fun c12 => ?_, fun c12 => ?_⟩
                · have h := h.1 c12
                  refine V_iconst (v := 0) dX2_joined_135 rfl ?_
                  exact V_iret dX2_joined_136 rfl h
                · have h := h.2 c12
                  refine V_iconst (v := 1) dX2_joined_131 rfl ?_
                  refine V_goto (tgt := 136) dX2_joined_132 rfl ?_
                  exact V_iret dX2_joined_136 rfl h
              · have h := h.2 c11
                refine And.intro (fun c13 => ?_) (fun c13 => ?_)
                · have h := h.1 c13
                  show Vw _ _ 76 _ _ _
                  refine V_iload_n 1 dX2_joined_76 rfl ?_
                  refine V_if_ne (tgt := 84) dX2_joined_77 rfl ⟨fun c14 => ?_, fun c14 => ?_⟩
                  · have h := h.1 c14
                    refine V_iconst (v := 1) dX2_joined_84 rfl ?_
                    refine V_goto (tgt := 89) dX2_joined_85 rfl ?_
                    exact V_iret dX2_joined_89 rfl h
                  · have h := h.2 c14
                    refine V_iload_n 2 dX2_joined_80 rfl ?_
                    refine V_if_eq (tgt := 88) dX2_joined_81 rfl ⟨fun c15 => ?_, fun c15 => ?_⟩
                    · have h := h.1 c15
                      refine V_iconst (v := 0) dX2_joined_88 rfl ?_
                      exact V_iret dX2_joined_89 rfl h
                    · have h := h.2 c15
                      refine V_iconst (v := 1) dX2_joined_84 rfl ?_
                      refine V_goto (tgt := 89) dX2_joined_85 rfl ?_
                      exact V_iret dX2_joined_89 rfl h
                · have h := h.2 c13
                  show Vw _ _ 149 _ _ _
                  refine V_iload_n 2 dX2_joined_149 rfl ?_
                  refine V_if_ne (tgt := 157) dX2_joined_150 rfl ⟨fun c16 => ?_, fun c16 => ?_⟩
                  · have h := h.1 c16
                    refine V_iload_n 1 dX2_joined_157 rfl ?_
                    refine V_iload_n 2 dX2_joined_158 rfl ?_
                    refine V_idiv dX2_joined_159 ⟨h.1, ?_⟩
                    have h := h.2
                    exact V_iret dX2_joined_160 rfl h
                  · have h := h.2 c16
                    refine V_iconst (v := 0) dX2_joined_153 rfl ?_
                    refine V_goto (tgt := 160) dX2_joined_154 rfl ?_
                    exact V_iret dX2_joined_160 rfl h
set_option maxRecDepth 20000 in
theorem b_X3_has_0 {d : Nat} {P : Int32 → wf_Mem → Prop} (mem : wf_Mem) (x0 : Nat) (hx0 : wf_sh x0 = (3, 0)) (x1 : Int32)
    (h : (Ci mX8_within d [.int x1, .int 0, .int ((mem x0 0) - 1)] mem (fun r2 mem1 => ((r2 = 0 ∨ r2 = 1) ∧ P r2 mem1)))) :
    Vw (Ni (d + 1) P) mX3_has 0 [(0, .ref x0), (1, .int x1)] [] mem := by
  refine V_iload_n 1 dX3_has_0 rfl ?_
  refine V_iconst (v := 0) dX3_has_1 rfl ?_
  refine V_aload_n 0 dX3_has_2 rfl ?_
  refine V_getf (v := .int (mem x0 0)) gf_X3_9 dX3_has_3 hx0 rfl ?_
  refine V_iconst (v := 1) dX3_has_6 rfl ?_
  refine V_isub dX3_has_7 ?_
  refine V_cNi (host := RX8) [.int x1, .int 0, .int ((mem x0 0) - 1)] ms_X8_within (by decide +kernel) dX3_has_8 wf_rok_m rfl rfl (Nat.le_of_ble_eq_true rfl) h ?_
  intro r2 mem1 h
  exact V_zret dX3_has_11 rfl (wf_nb h.1) h.2
set_option maxRecDepth 20000 in
theorem b_X3_joins_0 {d : Nat} {P : Int32 → wf_Mem → Prop} (mem : wf_Mem) (x0 : Nat) (hx0 : wf_sh x0 = (3, 0)) (x1 : Int32)
    (h : (((mem x0 0) < 12 → (vp_in (mem x0 0) 12 ∧ ∀ mem2 : wf_Mem, mem2 = wf_ms mem (x0 + 1) (mem x0 0).toNatClampNeg x1 → (vp_in (mem2 x0 0) 12 ∧ ∀ mem3 : wf_Mem, mem3 = wf_ms mem2 (x0 + 2) (mem2 x0 0).toNatClampNeg 0 → (vp_in (mem3 x0 0) 12 ∧ ∀ mem4 : wf_Mem, mem4 = wf_ms mem3 (x0 + 3) (mem3 x0 0).toNatClampNeg 0 → (∀ mem5 : wf_Mem, mem5 = wf_ms mem4 x0 0 ((mem4 x0 0) + 1) → P ((mem5 x0 0) - 1) mem5))))) ∧ (¬ (mem x0 0) < 12 → P (-1000000003) mem))) :
    Vw (Ni d P) mX3_joins 0 [(0, .ref x0), (1, .int x1)] [] mem := by
  refine V_aload_n 0 dX3_joins_0 rfl ?_
  refine V_getf (v := .int (mem x0 0)) gf_X3_9 dX3_joins_1 hx0 rfl ?_
  refine V_bipush (v := 12) dX3_joins_4 rfl ?_
  refine V_icmp_lt (tgt := 12) dX3_joins_6 rfl ⟨fun c1 => ?_, fun c1 => ?_⟩
  · have h := h.1 c1
    refine V_aload_n 0 dX3_joins_12 rfl ?_
    refine V_getf (v := .ref (x0 + 1)) gf_X3_15 dX3_joins_13 hx0 rfl ?_
    refine V_aload_n 0 dX3_joins_16 rfl ?_
    refine V_getf (v := .int (mem x0 0)) gf_X3_9 dX3_joins_17 hx0 rfl ?_
    refine V_iload_n 1 dX3_joins_20 rfl ?_
    refine V_iast dX3_joins_21 (sh_3_1 hx0) ⟨h.1, ?_⟩
    refine V_topm (fun mem2 emem2 => ?_)
    have h := h.2 mem2 emem2
    refine V_aload_n 0 dX3_joins_22 rfl ?_
    refine V_getf (v := .ref (x0 + 2)) gf_X3_19 dX3_joins_23 hx0 rfl ?_
    refine V_aload_n 0 dX3_joins_26 rfl ?_
    refine V_getf (v := .int (mem2 x0 0)) gf_X3_9 dX3_joins_27 hx0 rfl ?_
    refine V_iconst (v := 0) dX3_joins_30 rfl ?_
    refine V_iast dX3_joins_31 (sh_3_2 hx0) ⟨h.1, ?_⟩
    refine V_topm (fun mem3 emem3 => ?_)
    have h := h.2 mem3 emem3
    refine V_aload_n 0 dX3_joins_32 rfl ?_
    refine V_getf (v := .ref (x0 + 3)) gf_X3_22 dX3_joins_33 hx0 rfl ?_
    refine V_aload_n 0 dX3_joins_36 rfl ?_
    refine V_getf (v := .int (mem3 x0 0)) gf_X3_9 dX3_joins_37 hx0 rfl ?_
    refine V_iconst (v := 0) dX3_joins_40 rfl ?_
    refine V_iast dX3_joins_41 (sh_3_3 hx0) ⟨h.1, ?_⟩
    refine V_topm (fun mem4 emem4 => ?_)
    have h := h.2 mem4 emem4
    refine V_aload_n 0 dX3_joins_42 rfl ?_
    refine V_dup dX3_joins_43 rfl ?_
    refine V_getf (v := .int (mem4 x0 0)) gf_X3_9 dX3_joins_44 hx0 rfl ?_
    refine V_iconst (v := 1) dX3_joins_47 rfl ?_
    refine V_iadd dX3_joins_48 ?_
    refine V_putf pf_X3_9 dX3_joins_49 hx0 rfl rfl ?_
    refine V_topm (fun mem5 emem5 => ?_)
    have h := h mem5 emem5
    refine V_aload_n 0 dX3_joins_52 rfl ?_
    refine V_getf (v := .int (mem5 x0 0)) gf_X3_9 dX3_joins_53 hx0 rfl ?_
    refine V_iconst (v := 1) dX3_joins_56 rfl ?_
    refine V_isub dX3_joins_57 ?_
    exact V_iret dX3_joins_58 rfl h
  · have h := h.2 c1
    refine V_ldc w_139 dX3_joins_9 ?_
    exact V_iret dX3_joins_11 rfl h
set_option maxRecDepth 20000 in
theorem b_X3_row_0 {d : Nat} {P : Nat → wf_Mem → Prop} (mem : wf_Mem) (x0 : Nat) (hx0 : wf_sh x0 = (3, 0)) (x1 : Int32)
    (h : ((¬ x1 = 0 → ((¬ x1 = 1 → P (x0 + 3) mem) ∧ (x1 = 1 → P (x0 + 2) mem))) ∧ (x1 = 0 → P (x0 + 1) mem))) :
    Vw (Na d P) mX3_row 0 [(0, .ref x0), (1, .int x1)] [] mem := by
  refine V_iload_n 1 dX3_row_0 rfl ?_
  refine V_if_ne (tgt := 9) dX3_row_1 rfl ⟨fun c1 => ?_, fun c1 => ?_⟩
  · have h := h.1 c1
    refine V_iload_n 1 dX3_row_9 rfl ?_
    refine V_iconst (v := 1) dX3_row_10 rfl ?_
    refine V_icmp_ne (tgt := 21) dX3_row_11 rfl ⟨fun c2 => ?_, fun c2 => ?_⟩
    · have h := h.1 c2
      refine V_aload_n 0 dX3_row_21 rfl ?_
      refine V_getf (v := .ref (x0 + 3)) gf_X3_22 dX3_row_22 hx0 rfl ?_
      exact V_aret dX3_row_25 rfl (Or.inr ⟨_, rfl⟩) h
    · have h := h.2 c2
      refine V_aload_n 0 dX3_row_14 rfl ?_
      refine V_getf (v := .ref (x0 + 2)) gf_X3_19 dX3_row_15 hx0 rfl ?_
      refine V_goto (tgt := 25) dX3_row_18 rfl ?_
      exact V_aret dX3_row_25 rfl (Or.inr ⟨_, rfl⟩) h
  · have h := h.2 c1
    refine V_aload_n 0 dX3_row_4 rfl ?_
    refine V_getf (v := .ref (x0 + 1)) gf_X3_15 dX3_row_5 hx0 rfl ?_
    exact V_aret dX3_row_8 rfl (Or.inr ⟨_, rfl⟩) h
set_option maxRecDepth 20000 in
theorem b_X3_nextFires_0 {d : Nat} {P : Int32 → wf_Mem → Prop} (mem : wf_Mem) (x0 : Nat) (hx0 : wf_sh x0 = (3, 0)) (x1 : Int32)
    (h : (((mem x0 0) < 2 → P 0 mem) ∧ (¬ (mem x0 0) < 2 → (Ci mX3_has d [.ref x0, .int x1] mem (fun r3 mem2 => ((¬ r3 = 0 → ((¬ x1 = ((mem2 x0 0) - 1) → (∀ x2_6 : Int32, x2_6 = (x1 + 1) → ((¬ x1 = 0 → Vw (Ni (d + 1) P) mX3_nextFires 52 [(0, .ref x0), (2, .int x2_6)] [.int (x1 - 1)] mem2) ∧ (x1 = 0 → Vw (Ni (d + 1) P) mX3_nextFires 52 [(0, .ref x0), (2, .int x2_6)] [.int ((mem2 x0 0) - 1)] mem2)))) ∧ (x1 = ((mem2 x0 0) - 1) → ((¬ x1 = 0 → Vw (Ni (d + 1) P) mX3_nextFires 52 [(0, .ref x0), (2, .int 0)] [.int (x1 - 1)] mem2) ∧ (x1 = 0 → Vw (Ni (d + 1) P) mX3_nextFires 52 [(0, .ref x0), (2, .int 0)] [.int ((mem2 x0 0) - 1)] mem2))))) ∧ (r3 = 0 → P 0 mem2))))))) :
    Vw (Ni (d + 1) P) mX3_nextFires 0 [(0, .ref x0), (1, .int x1)] [] mem := by
  refine V_aload_n 0 dX3_nextFires_0 rfl ?_
  refine V_getf (v := .int (mem x0 0)) gf_X3_9 dX3_nextFires_1 hx0 rfl ?_
  refine V_iconst (v := 2) dX3_nextFires_4 rfl ?_
  refine V_icmp_lt (tgt := 16) dX3_nextFires_5 rfl ⟨fun c1 => ?_, fun c1 => ?_⟩
  · have h := h.1 c1
    refine V_iconst (v := 0) dX3_nextFires_16 rfl ?_
    exact V_iret dX3_nextFires_17 rfl h
  · have h := h.2 c1
    refine V_aload_n 0 dX3_nextFires_8 rfl ?_
    refine V_iload_n 1 dX3_nextFires_9 rfl ?_
    refine V_cVi [.int x1] mv_X3_has w_140 dX3_nextFires_10 wf_rok_m hx0 rfl (by decide) rfl rfl (Nat.le_of_ble_eq_true rfl) h ?_
    intro r3 mem2 h
    refine V_if_ne (tgt := 18) dX3_nextFires_13 rfl ⟨fun c4 => ?_, fun c4 => ?_⟩
    · have h := h.1 c4
      refine V_iload_n 1 dX3_nextFires_18 rfl ?_
      refine V_aload_n 0 dX3_nextFires_19 rfl ?_
      refine V_getf (v := .int (mem2 x0 0)) gf_X3_9 dX3_nextFires_20 hx0 rfl ?_
      refine V_iconst (v := 1) dX3_nextFires_23 rfl ?_
      refine V_isub dX3_nextFires_24 ?_
      refine V_icmp_ne (tgt := 32) dX3_nextFires_25 rfl ⟨fun c5 => ?_, fun c5 => ?_⟩
      · have h := h.1 c5
        refine V_iload_n 1 dX3_nextFires_32 rfl ?_
        refine V_iconst (v := 1) dX3_nextFires_33 rfl ?_
        refine V_iadd dX3_nextFires_34 ?_
        refine V_topi (fun x2_6 ex2_6 => ?_)
        have h := h x2_6 ex2_6
        refine V_istore_n (lv' := [(0, .ref x0), (1, .int x1), (2, .int x2_6)]) dX3_nextFires_35 (by decide) rfl rfl ?_
        refine V_iload_n 1 dX3_nextFires_36 rfl ?_
        refine V_if_ne (tgt := 49) dX3_nextFires_37 rfl ⟨fun c7 => ?_, fun c7 => ?_⟩
        · have h := h.1 c7
          refine V_iload_n 1 dX3_nextFires_49 rfl ?_
          refine V_iconst (v := 1) dX3_nextFires_50 rfl ?_
          refine V_isub dX3_nextFires_51 ?_
          exact V_sub [0, 2] rfl h
        · have h := h.2 c7
          refine V_aload_n 0 dX3_nextFires_40 rfl ?_
          refine V_getf (v := .int (mem2 x0 0)) gf_X3_9 dX3_nextFires_41 hx0 rfl ?_
          refine V_iconst (v := 1) dX3_nextFires_44 rfl ?_
          refine V_isub dX3_nextFires_45 ?_
          refine V_goto (tgt := 52) dX3_nextFires_46 rfl ?_
          exact V_sub [0, 2] rfl h
      · have h := h.2 c5
        refine V_iconst (v := 0) dX3_nextFires_28 rfl ?_
        refine V_goto (tgt := 35) dX3_nextFires_29 rfl ?_
        refine V_istore_n (lv' := [(0, .ref x0), (1, .int x1), (2, .int 0)]) dX3_nextFires_35 (by decide) rfl rfl ?_
        refine V_iload_n 1 dX3_nextFires_36 rfl ?_
        refine V_if_ne (tgt := 49) dX3_nextFires_37 rfl ⟨fun c8 => ?_, fun c8 => ?_⟩
        · have h := h.1 c8
          refine V_iload_n 1 dX3_nextFires_49 rfl ?_
          refine V_iconst (v := 1) dX3_nextFires_50 rfl ?_
          refine V_isub dX3_nextFires_51 ?_
          exact V_sub [0, 2] rfl h
        · have h := h.2 c8
          refine V_aload_n 0 dX3_nextFires_40 rfl ?_
          refine V_getf (v := .int (mem2 x0 0)) gf_X3_9 dX3_nextFires_41 hx0 rfl ?_
          refine V_iconst (v := 1) dX3_nextFires_44 rfl ?_
          refine V_isub dX3_nextFires_45 ?_
          refine V_goto (tgt := 52) dX3_nextFires_46 rfl ?_
          exact V_sub [0, 2] rfl h
    · have h := h.2 c4
      refine V_iconst (v := 0) dX3_nextFires_16 rfl ?_
      exact V_iret dX3_nextFires_17 rfl h
set_option maxRecDepth 20000 in
theorem b_X3_nextFires_52 {d : Nat} {P : Int32 → wf_Mem → Prop} (mem : wf_Mem) (x0 : Nat) (hx0 : wf_sh x0 = (3, 0)) (x2 : Int32) (y0 : Int32)
    (h : ((¬ x2 = y0 → (vp_in x2 12 ∧ (vp_in y0 12 ∧ P ((mem (x0 + 2) x2.toNatClampNeg) + (mem (x0 + 2) y0.toNatClampNeg)) mem))) ∧ (x2 = y0 → (vp_in x2 12 ∧ P (mem (x0 + 2) x2.toNatClampNeg) mem)))) :
    Vw (Ni (d + 1) P) mX3_nextFires 52 [(0, .ref x0), (2, .int x2)] [.int y0] mem := by
  refine V_istore_n (lv' := [(0, .ref x0), (2, .int x2), (3, .int y0)]) dX3_nextFires_52 (by decide) rfl rfl ?_
  refine V_iload_n 1 dX3_nextFires_53 rfl ?_
  refine V_iload_n 2 dX3_nextFires_54 rfl ?_
  refine V_icmp_ne (tgt := 67) dX3_nextFires_55 rfl ⟨fun c1 => ?_, fun c1 => ?_⟩
  · have h := h.1 c1
    refine V_aload_n 0 dX3_nextFires_67 rfl ?_
    refine V_getf (v := .ref (x0 + 2)) gf_X3_19 dX3_nextFires_68 hx0 rfl ?_
    refine V_iload_n 1 dX3_nextFires_71 rfl ?_
    refine V_iald dX3_nextFires_72 (sh_3_2 hx0) ⟨h.1, ?_⟩
    have h := h.2
    refine V_aload_n 0 dX3_nextFires_73 rfl ?_
    refine V_getf (v := .ref (x0 + 2)) gf_X3_19 dX3_nextFires_74 hx0 rfl ?_
    refine V_iload_n 2 dX3_nextFires_77 rfl ?_
    refine V_iald dX3_nextFires_78 (sh_3_2 hx0) ⟨h.1, ?_⟩
    have h := h.2
    refine V_iadd dX3_nextFires_79 ?_
    exact V_iret dX3_nextFires_80 rfl h
  · have h := h.2 c1
    refine V_aload_n 0 dX3_nextFires_58 rfl ?_
    refine V_getf (v := .ref (x0 + 2)) gf_X3_19 dX3_nextFires_59 hx0 rfl ?_
    refine V_iload_n 1 dX3_nextFires_62 rfl ?_
    refine V_iald dX3_nextFires_63 (sh_3_2 hx0) ⟨h.1, ?_⟩
    have h := h.2
    refine V_goto (tgt := 80) dX3_nextFires_64 rfl ?_
    exact V_iret dX3_nextFires_80 rfl h
set_option maxRecDepth 20000 in
theorem b_X3_allFoals_0 {d : Nat} {P : Int32 → wf_Mem → Prop} (mem : wf_Mem) (x0 : Nat) (hx0 : wf_sh x0 = (3, 0))
    (h : Vw (Ni d P) mX3_allFoals 4 [(0, .ref x0), (1, .int 0), (2, .int 0)] [] mem) :
    Vw (Ni d P) mX3_allFoals 0 [(0, .ref x0)] [] mem := by
  refine V_iconst (v := 0) dX3_allFoals_0 rfl ?_
  refine V_istore_n (lv' := [(0, .ref x0), (1, .int 0)]) dX3_allFoals_1 (by decide) rfl rfl ?_
  refine V_iconst (v := 0) dX3_allFoals_2 rfl ?_
  refine V_istore_n (lv' := [(0, .ref x0), (1, .int 0), (2, .int 0)]) dX3_allFoals_3 (by decide) rfl rfl ?_
  exact h
set_option maxRecDepth 20000 in
theorem b_X3_allFoals_4 {d : Nat} {P : Int32 → wf_Mem → Prop} (mem : wf_Mem) (x0 : Nat) (hx0 : wf_sh x0 = (3, 0)) (x1 : Int32) (x2 : Int32)
    (h : (((mem x0 0) ≤ x2 → P x1 mem) ∧ (¬ (mem x0 0) ≤ x2 → (vp_in x2 12 ∧ (∀ x1_2 : Int32, x1_2 = (x1 + (mem (x0 + 1) x2.toNatClampNeg)) → Vw (Ni d P) mX3_allFoals 4 [(0, .ref x0), (1, .int x1_2), (2, .int (x2 + 1))] [] mem))))) :
    Vw (Ni d P) mX3_allFoals 4 [(0, .ref x0), (1, .int x1), (2, .int x2)] [] mem := by
  refine V_iload_n 2 dX3_allFoals_4 rfl ?_
  refine V_aload_n 0 dX3_allFoals_5 rfl ?_
  refine V_getf (v := .int (mem x0 0)) gf_X3_9 dX3_allFoals_6 hx0 rfl ?_
  refine V_icmp_ge (tgt := 27) dX3_allFoals_9 rfl ⟨fun c1 => ?_, fun c1 => ?_⟩
  · have h := h.1 c1
    refine V_iload_n 1 dX3_allFoals_27 rfl ?_
    exact V_iret dX3_allFoals_28 rfl h
  · have h := h.2 c1
    refine V_iload_n 1 dX3_allFoals_12 rfl ?_
    refine V_aload_n 0 dX3_allFoals_13 rfl ?_
    refine V_getf (v := .ref (x0 + 1)) gf_X3_15 dX3_allFoals_14 hx0 rfl ?_
    refine V_iload_n 2 dX3_allFoals_17 rfl ?_
    refine V_iald dX3_allFoals_18 (sh_3_1 hx0) ⟨h.1, ?_⟩
    have h := h.2
    refine V_iadd dX3_allFoals_19 ?_
    refine V_topi (fun x1_2 ex1_2 => ?_)
    have h := h x1_2 ex1_2
    refine V_istore_n (lv' := [(0, .ref x0), (1, .int x1_2), (2, .int x2)]) dX3_allFoals_20 (by decide) rfl rfl ?_
    refine V_iinc (v := (x2 + 1)) (lv' := [(0, .ref x0), (1, .int x1_2), (2, .int (x2 + 1))]) 2 dX3_allFoals_21 rfl rfl (by decide) rfl rfl ?_
    refine V_goto (tgt := 4) dX3_allFoals_24 rfl ?_
    exact h
set_option maxRecDepth 20000 in
theorem b_X3_takeFrom_0 {d : Nat} {P : wf_Mem → Prop} (mem : wf_Mem) (x0 : Nat) (hx0 : wf_sh x0 = (3, 0)) (x1 : Nat) (hx1 : wf_sh x1 = (3, 0))
    (h : (∀ mem1 : wf_Mem, mem1 = wf_ms mem x0 0 (mem x1 0) → ((¬ (0 : Int32) < 0 ∧ ¬ (0 : Int32) < 0 ∧ ¬ (mem1 x0 0) < 0 ∧ (0 : Int32).toNatClampNeg + (mem1 x0 0).toNatClampNeg ≤ 12 ∧ (0 : Int32).toNatClampNeg + (mem1 x0 0).toNatClampNeg ≤ 12) ∧ ∀ mem2 : wf_Mem, mem2 = wf_mc mem1 (x1 + 1) (0 : Int32).toNatClampNeg (x0 + 1) (0 : Int32).toNatClampNeg (mem1 x0 0).toNatClampNeg → ((¬ (0 : Int32) < 0 ∧ ¬ (0 : Int32) < 0 ∧ ¬ (mem2 x0 0) < 0 ∧ (0 : Int32).toNatClampNeg + (mem2 x0 0).toNatClampNeg ≤ 12 ∧ (0 : Int32).toNatClampNeg + (mem2 x0 0).toNatClampNeg ≤ 12) ∧ ∀ mem3 : wf_Mem, mem3 = wf_mc mem2 (x1 + 2) (0 : Int32).toNatClampNeg (x0 + 2) (0 : Int32).toNatClampNeg (mem2 x0 0).toNatClampNeg → ((¬ (0 : Int32) < 0 ∧ ¬ (0 : Int32) < 0 ∧ ¬ (mem3 x0 0) < 0 ∧ (0 : Int32).toNatClampNeg + (mem3 x0 0).toNatClampNeg ≤ 12 ∧ (0 : Int32).toNatClampNeg + (mem3 x0 0).toNatClampNeg ≤ 12) ∧ ∀ mem4 : wf_Mem, mem4 = wf_mc mem3 (x1 + 3) (0 : Int32).toNatClampNeg (x0 + 3) (0 : Int32).toNatClampNeg (mem3 x0 0).toNatClampNeg → P mem4))))) :
    Vw (Nv (d + 1) P) mX3_takeFrom 0 [(0, .ref x0), (1, .ref x1)] [] mem := by
  refine V_aload_n 0 dX3_takeFrom_0 rfl ?_
  refine V_aload_n 1 dX3_takeFrom_1 rfl ?_
  refine V_getf (v := .int (mem x1 0)) gf_X3_9 dX3_takeFrom_2 hx1 rfl ?_
  refine V_putf pf_X3_9 dX3_takeFrom_5 hx0 rfl rfl ?_
  refine V_topm (fun mem1 emem1 => ?_)
  have h := h mem1 emem1
  refine V_aload_n 1 dX3_takeFrom_8 rfl ?_
  refine V_getf (v := .ref (x1 + 1)) gf_X3_15 dX3_takeFrom_9 hx1 rfl ?_
  refine V_iconst (v := 0) dX3_takeFrom_12 rfl ?_
  refine V_aload_n 0 dX3_takeFrom_13 rfl ?_
  refine V_getf (v := .ref (x0 + 1)) gf_X3_15 dX3_takeFrom_14 hx0 rfl ?_
  refine V_iconst (v := 0) dX3_takeFrom_17 rfl ?_
  refine V_aload_n 0 dX3_takeFrom_18 rfl ?_
  refine V_getf (v := .int (mem1 x0 0)) gf_X3_9 dX3_takeFrom_19 hx0 rfl ?_
  refine V_copy w_141 wm_copy dX3_takeFrom_22 wf_rok_m (Nat.le_of_ble_eq_true rfl) (sh_3_1 hx1) (sh_3_1 hx0) ⟨h.1, ?_⟩
  refine V_topm (fun mem2 emem2 => ?_)
  have h := h.2 mem2 emem2
  refine V_aload_n 1 dX3_takeFrom_25 rfl ?_
  refine V_getf (v := .ref (x1 + 2)) gf_X3_19 dX3_takeFrom_26 hx1 rfl ?_
  refine V_iconst (v := 0) dX3_takeFrom_29 rfl ?_
  refine V_aload_n 0 dX3_takeFrom_30 rfl ?_
  refine V_getf (v := .ref (x0 + 2)) gf_X3_19 dX3_takeFrom_31 hx0 rfl ?_
  refine V_iconst (v := 0) dX3_takeFrom_34 rfl ?_
  refine V_aload_n 0 dX3_takeFrom_35 rfl ?_
  refine V_getf (v := .int (mem2 x0 0)) gf_X3_9 dX3_takeFrom_36 hx0 rfl ?_
  refine V_copy w_141 wm_copy dX3_takeFrom_39 wf_rok_m (Nat.le_of_ble_eq_true rfl) (sh_3_2 hx1) (sh_3_2 hx0) ⟨h.1, ?_⟩
  refine V_topm (fun mem3 emem3 => ?_)
  have h := h.2 mem3 emem3
  refine V_aload_n 1 dX3_takeFrom_42 rfl ?_
  refine V_getf (v := .ref (x1 + 3)) gf_X3_22 dX3_takeFrom_43 hx1 rfl ?_
  refine V_iconst (v := 0) dX3_takeFrom_46 rfl ?_
  refine V_aload_n 0 dX3_takeFrom_47 rfl ?_
  refine V_getf (v := .ref (x0 + 3)) gf_X3_22 dX3_takeFrom_48 hx0 rfl ?_
  refine V_iconst (v := 0) dX3_takeFrom_51 rfl ?_
  refine V_aload_n 0 dX3_takeFrom_52 rfl ?_
  refine V_getf (v := .int (mem3 x0 0)) gf_X3_9 dX3_takeFrom_53 hx0 rfl ?_
  refine V_copy w_141 wm_copy dX3_takeFrom_56 wf_rok_m (Nat.le_of_ble_eq_true rfl) (sh_3_3 hx1) (sh_3_3 hx0) ⟨h.1, ?_⟩
  refine V_topm (fun mem4 emem4 => ?_)
  have h := h.2 mem4 emem4
  exact V_vret dX3_takeFrom_59 rfl h
set_option maxRecDepth 20000 in
theorem b_X4_has_0 {d : Nat} {P : Int32 → wf_Mem → Prop} (mem : wf_Mem) (x0 : Nat) (hx0 : wf_sh x0 = (4, 0)) (x1 : Int32)
    (h : (Ci mX8_within d [.int x1, .int 0, .int ((mem x0 1) - 1)] mem (fun r2 mem1 => ((r2 = 0 ∨ r2 = 1) ∧ P r2 mem1)))) :
    Vw (Ni (d + 1) P) mX4_has 0 [(0, .ref x0), (1, .int x1)] [] mem := by
  refine V_iload_n 1 dX4_has_0 rfl ?_
  refine V_iconst (v := 0) dX4_has_1 rfl ?_
  refine V_aload_n 0 dX4_has_2 rfl ?_
  refine V_getf (v := .int (mem x0 1)) gf_X4_15 dX4_has_3 hx0 rfl ?_
  refine V_iconst (v := 1) dX4_has_6 rfl ?_
  refine V_isub dX4_has_7 ?_
  refine V_cNi (host := RX8) [.int x1, .int 0, .int ((mem x0 1) - 1)] ms_X8_within (by decide +kernel) dX4_has_8 wf_rok_m rfl rfl (Nat.le_of_ble_eq_true rfl) h ?_
  intro r2 mem1 h
  exact V_zret dX4_has_11 rfl (wf_nb h.1) h.2
set_option maxRecDepth 20000 in
theorem b_X4_hasRun_0 {d : Nat} {P : Int32 → wf_Mem → Prop} (mem : wf_Mem) (x0 : Nat) (hx0 : wf_sh x0 = (4, 0)) (x1 : Int32) (x2 : Int32)
    (h : ((x1 < 0 → P 0 mem) ∧ (¬ x1 < 0 → ((x2 < 0 → P 0 mem) ∧ (¬ x2 < 0 → (((mem x0 1) < x2 → P 0 mem) ∧ (¬ (mem x0 1) < x2 → ((((mem x0 1) - x2) < x1 → P 0 mem) ∧ (¬ ((mem x0 1) - x2) < x1 → P 1 mem))))))))) :
    Vw (Ni d P) mX4_hasRun 0 [(0, .ref x0), (1, .int x1), (2, .int x2)] [] mem := by
  refine V_iload_n 1 dX4_hasRun_0 rfl ?_
  refine V_if_lt (tgt := 30) dX4_hasRun_1 rfl ⟨fun c1 => ?_, fun c1 => ?_⟩
  · have h := h.1 c1
    refine V_iconst (v := 0) dX4_hasRun_30 rfl ?_
    exact V_zret dX4_hasRun_31 rfl rfl h
  · have h := h.2 c1
    refine V_iload_n 2 dX4_hasRun_4 rfl ?_
    refine V_if_lt (tgt := 30) dX4_hasRun_5 rfl ⟨fun c2 => ?_, fun c2 => ?_⟩
    · have h := h.1 c2
      refine V_iconst (v := 0) dX4_hasRun_30 rfl ?_
      exact V_zret dX4_hasRun_31 rfl rfl h
    · have h := h.2 c2
      refine V_iload_n 2 dX4_hasRun_8 rfl ?_
      refine V_aload_n 0 dX4_hasRun_9 rfl ?_
      refine V_getf (v := .int (mem x0 1)) gf_X4_15 dX4_hasRun_10 hx0 rfl ?_
      refine V_icmp_gt (tgt := 30) dX4_hasRun_13 rfl ⟨fun c3 => ?_, fun c3 => ?_⟩
      · have h := h.1 c3
        refine V_iconst (v := 0) dX4_hasRun_30 rfl ?_
        exact V_zret dX4_hasRun_31 rfl rfl h
      · have h := h.2 c3
        refine V_iload_n 1 dX4_hasRun_16 rfl ?_
        refine V_aload_n 0 dX4_hasRun_17 rfl ?_
        refine V_getf (v := .int (mem x0 1)) gf_X4_15 dX4_hasRun_18 hx0 rfl ?_
        refine V_iload_n 2 dX4_hasRun_21 rfl ?_
        refine V_isub dX4_hasRun_22 ?_
        refine V_icmp_gt (tgt := 30) dX4_hasRun_23 rfl ⟨fun c4 => ?_, fun c4 => ?_⟩
        · have h := h.1 c4
          refine V_iconst (v := 0) dX4_hasRun_30 rfl ?_
          exact V_zret dX4_hasRun_31 rfl rfl h
        · have h := h.2 c4
          refine V_iconst (v := 1) dX4_hasRun_26 rfl ?_
          refine V_goto (tgt := 31) dX4_hasRun_27 rfl ?_
          exact V_zret dX4_hasRun_31 rfl rfl h
set_option maxRecDepth 20000 in
theorem b_X4_becomes_0 {d : Nat} {P : wf_Mem → Prop} (mem : wf_Mem) (x0 : Nat) (hx0 : wf_sh x0 = (4, 0)) (x1 : Int32) (x2 : Int32)
    (h : (∀ mem1 : wf_Mem, mem1 = wf_ms mem x0 0 x1 → (∀ mem2 : wf_Mem, mem2 = wf_ms mem1 x0 1 x2 → (Cv mJ7_fill_53178 d [.ref (x0 + 1), .int 0] mem2 (fun mem3 => P mem3))))) :
    Vw (Nv (d + 1) P) mX4_becomes 0 [(0, .ref x0), (1, .int x1), (2, .int x2)] [] mem := by
  refine V_aload_n 0 dX4_becomes_0 rfl ?_
  refine V_iload_n 1 dX4_becomes_1 rfl ?_
  refine V_putf pf_X4_9 dX4_becomes_2 hx0 rfl rfl ?_
  refine V_topm (fun mem1 emem1 => ?_)
  have h := h mem1 emem1
  refine V_aload_n 0 dX4_becomes_5 rfl ?_
  refine V_iload_n 2 dX4_becomes_6 rfl ?_
  refine V_putf pf_X4_15 dX4_becomes_7 hx0 rfl rfl ?_
  refine V_topm (fun mem2 emem2 => ?_)
  have h := h mem2 emem2
  refine V_aload_n 0 dX4_becomes_10 rfl ?_
  refine V_getf (v := .ref (x0 + 1)) gf_X4_18 dX4_becomes_11 hx0 rfl ?_
  refine V_iconst (v := 0) dX4_becomes_14 rfl ?_
  refine V_cSv [.ref (x0 + 1), .int 0] ms_J7_fill_53178 w_148 dX4_becomes_15 wf_rok_m rfl rfl (Nat.le_of_ble_eq_true rfl) h ?_
  intro mem3 h
  exact V_vret dX4_becomes_18 rfl h
set_option maxRecDepth 20000 in
theorem b_X4_takeFrom_0 {d : Nat} {P : wf_Mem → Prop} (mem : wf_Mem) (x0 : Nat) (hx0 : wf_sh x0 = (4, 0)) (x1 : Nat) (hx1 : wf_sh x1 = (4, 0))
    (h : (∀ mem1 : wf_Mem, mem1 = wf_ms mem x0 0 (mem x1 0) → (∀ mem2 : wf_Mem, mem2 = wf_ms mem1 x0 1 (mem1 x1 1) → ((¬ (0 : Int32) < 0 ∧ ¬ (0 : Int32) < 0 ∧ ¬ (mem2 x0 1) < 0 ∧ (0 : Int32).toNatClampNeg + (mem2 x0 1).toNatClampNeg ≤ 24 ∧ (0 : Int32).toNatClampNeg + (mem2 x0 1).toNatClampNeg ≤ 24) ∧ ∀ mem3 : wf_Mem, mem3 = wf_mc mem2 (x1 + 1) (0 : Int32).toNatClampNeg (x0 + 1) (0 : Int32).toNatClampNeg (mem2 x0 1).toNatClampNeg → P mem3)))) :
    Vw (Nv (d + 1) P) mX4_takeFrom 0 [(0, .ref x0), (1, .ref x1)] [] mem := by
  refine V_aload_n 0 dX4_takeFrom_0 rfl ?_
  refine V_aload_n 1 dX4_takeFrom_1 rfl ?_
  refine V_getf (v := .int (mem x1 0)) gf_X4_9 dX4_takeFrom_2 hx1 rfl ?_
  refine V_putf pf_X4_9 dX4_takeFrom_5 hx0 rfl rfl ?_
  refine V_topm (fun mem1 emem1 => ?_)
  have h := h mem1 emem1
  refine V_aload_n 0 dX4_takeFrom_8 rfl ?_
  refine V_aload_n 1 dX4_takeFrom_9 rfl ?_
  refine V_getf (v := .int (mem1 x1 1)) gf_X4_15 dX4_takeFrom_10 hx1 rfl ?_
  refine V_putf pf_X4_15 dX4_takeFrom_13 hx0 rfl rfl ?_
  refine V_topm (fun mem2 emem2 => ?_)
  have h := h mem2 emem2
  refine V_aload_n 1 dX4_takeFrom_16 rfl ?_
  refine V_getf (v := .ref (x1 + 1)) gf_X4_18 dX4_takeFrom_17 hx1 rfl ?_
  refine V_iconst (v := 0) dX4_takeFrom_20 rfl ?_
  refine V_aload_n 0 dX4_takeFrom_21 rfl ?_
  refine V_getf (v := .ref (x0 + 1)) gf_X4_18 dX4_takeFrom_22 hx0 rfl ?_
  refine V_iconst (v := 0) dX4_takeFrom_25 rfl ?_
  refine V_aload_n 0 dX4_takeFrom_26 rfl ?_
  refine V_getf (v := .int (mem2 x0 1)) gf_X4_15 dX4_takeFrom_27 hx0 rfl ?_
  refine V_copy w_149 wm_copy dX4_takeFrom_30 wf_rok_m (Nat.le_of_ble_eq_true rfl) (sh_4_2 hx1) (sh_4_2 hx0) ⟨h.1, ?_⟩
  refine V_topm (fun mem3 emem3 => ?_)
  have h := h.2 mem3 emem3
  exact V_vret dX4_takeFrom_33 rfl h
set_option maxRecDepth 20000 in
theorem b_X4_differences_0 {d : Nat} {P : Int32 → wf_Mem → Prop} (mem : wf_Mem) (x0 : Nat) (hx0 : wf_sh x0 = (4, 0)) (x1 : Nat) (hx1 : wf_sh x1 = (3, 0))
    (h : Vw (Ni (d + 1) P) mX4_differences 4 [(0, .ref x0), (1, .ref x1), (2, .int 0), (3, .int 0)] [] mem) :
    Vw (Ni (d + 1) P) mX4_differences 0 [(0, .ref x0), (1, .ref x1)] [] mem := by
  refine V_iconst (v := 0) dX4_differences_0 rfl ?_
  refine V_istore_n (lv' := [(0, .ref x0), (1, .ref x1), (2, .int 0)]) dX4_differences_1 (by decide) rfl rfl ?_
  refine V_iconst (v := 0) dX4_differences_2 rfl ?_
  refine V_istore_n (lv' := [(0, .ref x0), (1, .ref x1), (2, .int 0), (3, .int 0)]) dX4_differences_3 (by decide) rfl rfl ?_
  exact h
set_option maxRecDepth 20000 in
theorem b_X4_differences_4 {d : Nat} {P : Int32 → wf_Mem → Prop} (mem : wf_Mem) (x0 : Nat) (hx0 : wf_sh x0 = (4, 0)) (x1 : Nat) (hx1 : wf_sh x1 = (3, 0)) (x2 : Int32) (x3 : Int32)
    (h : (((mem x0 1) ≤ x3 → P x2 mem) ∧ (¬ (mem x0 1) ≤ x3 → (vp_in x3 24 ∧ (((mem (x0 + 1) x3.toNatClampNeg) = (-1000000005) → Vw (Ni (d + 1) P) mX4_differences 4 [(0, .ref x0), (1, .ref x1), (2, .int x2), (3, .int (x3 + 1))] [] mem) ∧ (¬ (mem (x0 + 1) x3.toNatClampNeg) = (-1000000005) → (Ci mX3_has d [.ref x1, .int x3] mem (fun r4 mem3 => ((r4 = 0 → Vw (Ni (d + 1) P) mX4_differences 41 [(0, .ref x0), (1, .ref x1), (2, .int x2), (3, .int x3)] [.int 0] mem3) ∧ (¬ r4 = 0 → (vp_in x3 12 ∧ Vw (Ni (d + 1) P) mX4_differences 41 [(0, .ref x0), (1, .ref x1), (2, .int x2), (3, .int x3)] [.int (mem3 (x1 + 1) x3.toNatClampNeg)] mem3))))))))))) :
    Vw (Ni (d + 1) P) mX4_differences 4 [(0, .ref x0), (1, .ref x1), (2, .int x2), (3, .int x3)] [] mem := by
  refine V_iload_n 3 dX4_differences_4 rfl ?_
  refine V_aload_n 0 dX4_differences_5 rfl ?_
  refine V_getf (v := .int (mem x0 1)) gf_X4_15 dX4_differences_6 hx0 rfl ?_
  refine V_icmp_ge (tgt := 64) dX4_differences_9 rfl ⟨fun c1 => ?_, fun c1 => ?_⟩
  · have h := h.1 c1
    refine V_iload_n 2 dX4_differences_64 rfl ?_
    exact V_iret dX4_differences_65 rfl h
  · have h := h.2 c1
    refine V_aload_n 0 dX4_differences_12 rfl ?_
    refine V_getf (v := .ref (x0 + 1)) gf_X4_18 dX4_differences_13 hx0 rfl ?_
    refine V_iload_n 3 dX4_differences_16 rfl ?_
    refine V_iald dX4_differences_17 (sh_4_2 hx0) ⟨h.1, ?_⟩
    have h := h.2
    refine V_ldc w_150 dX4_differences_18 ?_
    refine V_icmp_eq (tgt := 58) dX4_differences_20 rfl ⟨fun c2 => ?_, fun c2 => ?_⟩
    · have h := h.1 c2
      refine V_iinc (v := (x3 + 1)) (lv' := [(0, .ref x0), (1, .ref x1), (2, .int x2), (3, .int (x3 + 1))]) 3 dX4_differences_58 rfl rfl (by decide) rfl rfl ?_
      refine V_goto (tgt := 4) dX4_differences_61 rfl ?_
      exact h
    · have h := h.2 c2
      refine V_aload_n 1 dX4_differences_23 rfl ?_
      refine V_iload_n 3 dX4_differences_24 rfl ?_
      refine V_cVi [.int x3] mv_X3_has w_151 dX4_differences_25 wf_rok_m hx1 rfl (by decide) rfl rfl (Nat.le_of_ble_eq_true rfl) h ?_
      intro r4 mem3 h
      refine V_if_eq (tgt := 40) dX4_differences_28 rfl ⟨fun c5 => ?_, fun c5 => ?_⟩
      · have h := h.1 c5
        refine V_iconst (v := 0) dX4_differences_40 rfl ?_
        exact h
      · have h := h.2 c5
        refine V_aload_n 1 dX4_differences_31 rfl ?_
        refine V_getf (v := .ref (x1 + 1)) gf_X4_45 dX4_differences_32 hx1 rfl ?_
        refine V_iload_n 3 dX4_differences_35 rfl ?_
        refine V_iald dX4_differences_36 (sh_3_1 hx1) ⟨h.1, ?_⟩
        have h := h.2
        refine V_goto (tgt := 41) dX4_differences_37 rfl ?_
        exact h
set_option maxRecDepth 20000 in
theorem b_X4_differences_41 {d : Nat} {P : Int32 → wf_Mem → Prop} (mem : wf_Mem) (x0 : Nat) (hx0 : wf_sh x0 = (4, 0)) (x1 : Nat) (hx1 : wf_sh x1 = (3, 0)) (x2 : Int32) (x3 : Int32) (y0 : Int32)
    (h : (vp_in x3 24 ∧ (∀ x2_1 : Int32, x2_1 = (x2 + (if 0 ≤ ((mem (x0 + 1) x3.toNatClampNeg) - y0) then ((mem (x0 + 1) x3.toNatClampNeg) - y0) else 0 - ((mem (x0 + 1) x3.toNatClampNeg) - y0))) → Vw (Ni (d + 1) P) mX4_differences 4 [(0, .ref x0), (1, .ref x1), (2, .int x2_1), (3, .int (x3 + 1))] [] mem))) :
    Vw (Ni (d + 1) P) mX4_differences 41 [(0, .ref x0), (1, .ref x1), (2, .int x2), (3, .int x3)] [.int y0] mem := by
  refine V_istore (lv' := [(0, .ref x0), (1, .ref x1), (2, .int x2), (3, .int x3), (4, .int y0)]) dX4_differences_41 (by decide) rfl rfl ?_
  refine V_iload_n 2 dX4_differences_43 rfl ?_
  refine V_aload_n 0 dX4_differences_44 rfl ?_
  refine V_getf (v := .ref (x0 + 1)) gf_X4_18 dX4_differences_45 hx0 rfl ?_
  refine V_iload_n 3 dX4_differences_48 rfl ?_
  refine V_iald dX4_differences_49 (sh_4_2 hx0) ⟨h.1, ?_⟩
  have h := h.2
  refine V_iload 4 dX4_differences_50 rfl ?_
  refine V_isub dX4_differences_52 ?_
  refine V_mabs w_153 wm_abs dX4_differences_53 wf_rok_m (Nat.le_of_ble_eq_true rfl) ?_
  refine V_iadd dX4_differences_56 ?_
  refine V_topi (fun x2_1 ex2_1 => ?_)
  have h := h x2_1 ex2_1
  refine V_istore_n (lv' := [(0, .ref x0), (1, .ref x1), (2, .int x2_1), (3, .int x3), (4, .int y0)]) dX4_differences_57 (by decide) rfl rfl ?_
  refine V_iinc (v := (x3 + 1)) (lv' := [(0, .ref x0), (1, .ref x1), (2, .int x2_1), (3, .int (x3 + 1)), (4, .int y0)]) 3 dX4_differences_58 rfl rfl (by decide) rfl rfl ?_
  refine V_goto (tgt := 4) dX4_differences_61 rfl ?_
  exact V_sub [0, 1, 2, 3] rfl h
set_option maxRecDepth 20000 in
theorem b_X7_canBe_0 {d : Nat} {P : Int32 → wf_Mem → Prop} (mem : wf_Mem) (x0 : Int32) (x1 : Int32)
    (h : ((x0 = 1 → (Ci mX8_within d [.int x1, .int 0, .int 11] mem (fun r3 mem2 => ((r3 = 0 ∨ r3 = 1) ∧ P r3 mem2)))) ∧ (¬ x0 = 1 → ((x0 = 2 → (Ci mX8_within d [.int x1, .int 1, .int 9] mem (fun r6 mem5 => ((r6 = 0 ∨ r6 = 1) ∧ P r6 mem5)))) ∧ (¬ x0 = 2 → ((x0 = 3 → (Ci mX8_within d [.int x1, .int 0, .int 999] mem (fun r9 mem8 => ((r9 = 0 ∨ r9 = 1) ∧ P r9 mem8)))) ∧ (¬ x0 = 3 → ((x0 = 4 → (Ci mX8_within d [.int x1, .int 0, .int 1] mem (fun r12 mem11 => ((r12 = 0 ∨ r12 = 1) ∧ P r12 mem11)))) ∧ (¬ x0 = 4 → P 0 mem))))))))) :
    Vw (Ni (d + 1) P) mX7_canBe 0 [(0, .int x0), (1, .int x1)] [] mem := by
  refine V_iload_n 0 dX7_canBe_0 rfl ?_
  refine V_tswc [(1, 32), (2, 40), (3, 48), (4, 57)] 64 dX7_canBe_1 (by decide +kernel) ?_
  refine And.intro (fun c1 => ?_) (fun c1 => ?_)
  · have h := h.1 c1
    show Vw _ _ 32 _ _ _
    refine V_iload_n 1 dX7_canBe_32 rfl ?_
    refine V_iconst (v := 0) dX7_canBe_33 rfl ?_
    refine V_bipush (v := 11) dX7_canBe_34 rfl ?_
    refine V_cNi (host := RX8) [.int x1, .int 0, .int 11] ms_X8_within (by decide +kernel) dX7_canBe_36 wf_rok_m rfl rfl (Nat.le_of_ble_eq_true rfl) h ?_
    intro r3 mem2 h
    exact V_zret dX7_canBe_39 rfl (wf_nb h.1) h.2
  · have h := h.2 c1
    refine And.intro (fun c4 => ?_) (fun c4 => ?_)
    · have h := h.1 c4
      show Vw _ _ 40 _ _ _
      refine V_iload_n 1 dX7_canBe_40 rfl ?_
      refine V_iconst (v := 1) dX7_canBe_41 rfl ?_
      refine V_bipush (v := 9) dX7_canBe_42 rfl ?_
      refine V_cNi (host := RX8) [.int x1, .int 1, .int 9] ms_X8_within (by decide +kernel) dX7_canBe_44 wf_rok_m rfl rfl (Nat.le_of_ble_eq_true rfl) h ?_
      intro r6 mem5 h
      exact V_zret dX7_canBe_47 rfl (wf_nb h.1) h.2
    · have h := h.2 c4
      refine And.intro (fun c7 => ?_) (fun c7 => ?_)
      · have h := h.1 c7
        show Vw _ _ 48 _ _ _
        refine V_iload_n 1 dX7_canBe_48 rfl ?_
        refine V_iconst (v := 0) dX7_canBe_49 rfl ?_
        refine V_sipush (v := 999) dX7_canBe_50 rfl ?_
        refine V_cNi (host := RX8) [.int x1, .int 0, .int 999] ms_X8_within (by decide +kernel) dX7_canBe_53 wf_rok_m rfl rfl (Nat.le_of_ble_eq_true rfl) h ?_
        intro r9 mem8 h
        exact V_zret dX7_canBe_56 rfl (wf_nb h.1) h.2
      · have h := h.2 c7
        refine And.intro (fun c10 => ?_) (fun c10 => ?_)
        · have h := h.1 c10
          show Vw _ _ 57 _ _ _
          refine V_iload_n 1 dX7_canBe_57 rfl ?_
          refine V_iconst (v := 0) dX7_canBe_58 rfl ?_
          refine V_iconst (v := 1) dX7_canBe_59 rfl ?_
          refine V_cNi (host := RX8) [.int x1, .int 0, .int 1] ms_X8_within (by decide +kernel) dX7_canBe_60 wf_rok_m rfl rfl (Nat.le_of_ble_eq_true rfl) h ?_
          intro r12 mem11 h
          exact V_zret dX7_canBe_63 rfl (wf_nb h.1) h.2
        · have h := h.2 c10
          show Vw _ _ 64 _ _ _
          refine V_iconst (v := 0) dX7_canBe_64 rfl ?_
          exact V_zret dX7_canBe_65 rfl rfl h
set_option maxRecDepth 20000 in
theorem b_X7_isOf_0 {d : Nat} {P : Int32 → wf_Mem → Prop} (mem : wf_Mem) (x0 : Nat) (hx0 : wf_sh x0 = (7, 0)) (x1 : Int32)
    (h : (∀ x2_1 : Int32, x2_1 = (mem x0 0) → Vw (Ni (d + 1) P) mX7_isOf 7 [(1, .int x1), (2, .int x2_1), (3, .int 0)] [] mem)) :
    Vw (Ni (d + 1) P) mX7_isOf 0 [(0, .ref x0), (1, .int x1)] [] mem := by
  refine V_aload_n 0 dX7_isOf_0 rfl ?_
  refine V_getf (v := .int (mem x0 0)) gf_X7_9 dX7_isOf_1 hx0 rfl ?_
  refine V_topi (fun x2_1 ex2_1 => ?_)
  have h := h x2_1 ex2_1
  refine V_istore_n (lv' := [(0, .ref x0), (1, .int x1), (2, .int x2_1)]) dX7_isOf_4 (by decide) rfl rfl ?_
  refine V_iconst (v := 0) dX7_isOf_5 rfl ?_
  refine V_istore_n (lv' := [(0, .ref x0), (1, .int x1), (2, .int x2_1), (3, .int 0)]) dX7_isOf_6 (by decide) rfl rfl ?_
  exact V_sub [1, 2, 3] rfl h
set_option maxRecDepth 20000 in
theorem b_X7_isOf_7 {d : Nat} {P : Int32 → wf_Mem → Prop} (mem : wf_Mem) (x1 : Int32) (x2 : Int32) (x3 : Int32)
    (h : ((6 ≤ x3 → P 0 mem) ∧ (¬ 6 ≤ x3 → (Ci mX8_isKind d [.int x2] mem (fun r3 mem2 => ((r3 = 0 → P 0 mem2) ∧ (¬ r3 = 0 → ((¬ x2 = x1 → (vp_in x2 6 ∧ (∀ x2_6 : Int32, x2_6 = (wf_abv x2.toNatClampNeg) → Vw (Ni (d + 1) P) mX7_isOf 7 [(1, .int x1), (2, .int x2_6), (3, .int (x3 + 1))] [] mem2))) ∧ (x2 = x1 → P 1 mem2))))))))) :
    Vw (Ni (d + 1) P) mX7_isOf 7 [(1, .int x1), (2, .int x2), (3, .int x3)] [] mem := by
  refine V_iload_n 2 dX7_isOf_7 rfl ?_
  refine V_getAbvN (by decide +kernel) dX7_isOf_8 ?_
  refine V_abvLen dX7_isOf_11 ?_
  refine V_icmp_ge (tgt := 41) dX7_isOf_12 rfl ⟨fun c1 => ?_, fun c1 => ?_⟩
  · have h := h.1 c1
    refine V_iconst (v := 0) dX7_isOf_41 rfl ?_
    exact V_zret dX7_isOf_42 rfl rfl h
  · have h := h.2 c1
    refine V_iload_n 1 dX7_isOf_15 rfl ?_
    refine V_cNi (host := RX8) [.int x2] ms_X8_isKind (by decide +kernel) dX7_isOf_16 wf_rok_m rfl rfl (Nat.le_of_ble_eq_true rfl) h ?_
    intro r3 mem2 h
    refine V_if_eq (tgt := 41) dX7_isOf_19 rfl ⟨fun c4 => ?_, fun c4 => ?_⟩
    · have h := h.1 c4
      refine V_iconst (v := 0) dX7_isOf_41 rfl ?_
      exact V_zret dX7_isOf_42 rfl rfl h
    · have h := h.2 c4
      refine V_iload_n 1 dX7_isOf_22 rfl ?_
      refine V_iload_n 0 dX7_isOf_23 rfl ?_
      refine V_icmp_ne (tgt := 29) dX7_isOf_24 rfl ⟨fun c5 => ?_, fun c5 => ?_⟩
      · have h := h.1 c5
        refine V_getAbvN (by decide +kernel) dX7_isOf_29 ?_
        refine V_iload_n 1 dX7_isOf_32 rfl ?_
        refine V_abvLd dX7_isOf_33 ⟨h.1, ?_⟩
        have h := h.2
        refine V_topi (fun x2_6 ex2_6 => ?_)
        have h := h x2_6 ex2_6
        refine V_istore_n (lv' := [(1, .int x1), (2, .int x2_6), (3, .int x3)]) dX7_isOf_34 (by decide) rfl rfl ?_
        refine V_iinc (v := (x3 + 1)) (lv' := [(1, .int x1), (2, .int x2_6), (3, .int (x3 + 1))]) 2 dX7_isOf_35 rfl rfl (by decide) rfl rfl ?_
        refine V_goto (tgt := 7) dX7_isOf_38 rfl ?_
        exact h
      · have h := h.2 c5
        refine V_iconst (v := 1) dX7_isOf_27 rfl ?_
        exact V_zret dX7_isOf_28 rfl rfl h
set_option maxRecDepth 20000 in
theorem b_X7_sight_0 {d : Nat} {P : Int32 → wf_Mem → Prop} (mem : wf_Mem) (x0 : Nat) (hx0 : wf_sh x0 = (7, 0)) (x1 : Int32) (x2 : Int32)
    (h : ((¬ (mem x0 4) = 0 → (((mem x0 0) = 1 → (Ci mX7_plainSight d [.ref x0, .int x1] mem (fun r4 mem3 => P (r4 / 2) mem3))) ∧ (¬ (mem x0 0) = 1 → (((mem x0 0) = 2 → P (mem x0 2) mem) ∧ (¬ (mem x0 0) = 2 → (((mem x0 0) = 3 → (Ci mX7_plainSight d [.ref x0, .int x1] mem (fun r8 mem7 => P ((r8 / 2) + 1) mem7))) ∧ (¬ (mem x0 0) = 3 → (((mem x0 0) = 4 → ((x2 ≤ 0 → P (mem x0 2) mem) ∧ (¬ x2 ≤ 0 → P ((mem x0 2) + 3) mem))) ∧ (¬ (mem x0 0) = 4 → (((mem x0 0) = 5 → (((mem x0 3) ≤ 5 → (Ci mX7_plainSight d [.ref x0, .int x1] mem (fun r14 mem13 => P r14 mem13))) ∧ (¬ (mem x0 3) ≤ 5 → P 0 mem))) ∧ (¬ (mem x0 0) = 5 → (Ci mX7_plainSight d [.ref x0, .int x1] mem (fun r16 mem15 => P r16 mem15))))))))))))) ∧ ((mem x0 4) = 0 → P 0 mem))) :
    Vw (Ni (d + 1) P) mX7_sight 0 [(0, .ref x0), (1, .int x1), (2, .int x2)] [] mem := by
  refine V_aload_n 0 dX7_sight_0 rfl ?_
  refine V_getf (v := .int (mem x0 4)) gf_X7_24 dX7_sight_1 hx0 rfl ?_
  refine V_if_ne (tgt := 9) dX7_sight_4 rfl ⟨fun c1 => ?_, fun c1 => ?_⟩
  · have h := h.1 c1
    refine V_aload_n 0 dX7_sight_9 rfl ?_
    refine V_getf (v := .int (mem x0 0)) gf_X7_9 dX7_sight_10 hx0 rfl ?_
    refine V_tswc [(1, 48), (2, 66), (3, 56), (4, 71), (5, 89)] 107 dX7_sight_13 (by decide +kernel) ?_
    refine And.intro (fun c2 => ?_) (fun c2 => ?_)
    · have h := h.1 c2
      show Vw _ _ 48 _ _ _
      refine V_aload_n 0 dX7_sight_48 rfl ?_
      refine V_iload_n 1 dX7_sight_49 rfl ?_
      refine V_cVi [.int x1] mv_X7_plainSight w_263 dX7_sight_50 wf_rok_m hx0 rfl (by decide) rfl rfl (Nat.le_of_ble_eq_true rfl) h ?_
      intro r4 mem3 h
      refine V_iconst (v := 2) dX7_sight_53 rfl ?_
      refine V_idiv dX7_sight_54 ⟨by decide, ?_⟩
      exact V_iret dX7_sight_55 rfl h
    · have h := h.2 c2
      refine And.intro (fun c5 => ?_) (fun c5 => ?_)
      · have h := h.1 c5
        show Vw _ _ 66 _ _ _
        refine V_aload_n 0 dX7_sight_66 rfl ?_
        refine V_getf (v := .int (mem x0 2)) gf_X7_18 dX7_sight_67 hx0 rfl ?_
        exact V_iret dX7_sight_70 rfl h
      · have h := h.2 c5
        refine And.intro (fun c6 => ?_) (fun c6 => ?_)
        · have h := h.1 c6
          show Vw _ _ 56 _ _ _
          refine V_aload_n 0 dX7_sight_56 rfl ?_
          refine V_iload_n 1 dX7_sight_57 rfl ?_
          refine V_cVi [.int x1] mv_X7_plainSight w_263 dX7_sight_58 wf_rok_m hx0 rfl (by decide) rfl rfl (Nat.le_of_ble_eq_true rfl) h ?_
          intro r8 mem7 h
          refine V_iconst (v := 2) dX7_sight_61 rfl ?_
          refine V_idiv dX7_sight_62 ⟨by decide, ?_⟩
          refine V_iconst (v := 1) dX7_sight_63 rfl ?_
          refine V_iadd dX7_sight_64 ?_
          exact V_iret dX7_sight_65 rfl h
        · have h := h.2 c6
          refine And.intro (fun c9 => ?_) (fun c9 => ?_)
          · have h := h.1 c9
            show Vw _ _ 71 _ _ _
            refine V_iload_n 2 dX7_sight_71 rfl ?_
            refine V_if_le (tgt := 84) dX7_sight_72 rfl ⟨fun c10 => ?_, fun c10 => ?_⟩
            · have h := h.1 c10
              refine V_aload_n 0 dX7_sight_84 rfl ?_
              refine V_getf (v := .int (mem x0 2)) gf_X7_18 dX7_sight_85 hx0 rfl ?_
              exact V_iret dX7_sight_88 rfl h
            · have h := h.2 c10
              refine V_aload_n 0 dX7_sight_75 rfl ?_
              refine V_getf (v := .int (mem x0 2)) gf_X7_18 dX7_sight_76 hx0 rfl ?_
              refine V_iconst (v := 3) dX7_sight_79 rfl ?_
              refine V_iadd dX7_sight_80 ?_
              refine V_goto (tgt := 88) dX7_sight_81 rfl ?_
              exact V_iret dX7_sight_88 rfl h
          · have h := h.2 c9
            refine And.intro (fun c11 => ?_) (fun c11 => ?_)
            · have h := h.1 c11
              show Vw _ _ 89 _ _ _
              refine V_aload_n 0 dX7_sight_89 rfl ?_
              refine V_getf (v := .int (mem x0 3)) gf_X7_21 dX7_sight_90 hx0 rfl ?_
              refine V_iconst (v := 5) dX7_sight_93 rfl ?_
              refine V_icmp_le (tgt := 101) dX7_sight_94 rfl ⟨fun c12 => ?_, fun c12 => ?_⟩
              · have h := h.1 c12
                refine V_aload_n 0 dX7_sight_101 rfl ?_
                refine V_iload_n 1 dX7_sight_102 rfl ?_
                refine V_cVi [.int x1] mv_X7_plainSight w_263 dX7_sight_103 wf_rok_m hx0 rfl (by decide) rfl rfl (Nat.le_of_ble_eq_true rfl) h ?_
                intro r14 mem13 h
                exact V_iret dX7_sight_106 rfl h
              · have h := h.2 c12
                refine V_iconst (v := 0) dX7_sight_97 rfl ?_
                refine V_goto (tgt := 106) dX7_sight_98 rfl ?_
                exact V_iret dX7_sight_106 rfl h
            · have h := h.2 c11
              show Vw _ _ 107 _ _ _
              refine V_aload_n 0 dX7_sight_107 rfl ?_
              refine V_iload_n 1 dX7_sight_108 rfl ?_
              refine V_cVi [.int x1] mv_X7_plainSight w_263 dX7_sight_109 wf_rok_m hx0 rfl (by decide) rfl rfl (Nat.le_of_ble_eq_true rfl) h ?_
              intro r16 mem15 h
              exact V_iret dX7_sight_112 rfl h
  · have h := h.2 c1
    refine V_iconst (v := 0) dX7_sight_7 rfl ?_
    exact V_iret dX7_sight_8 rfl h
set_option maxRecDepth 20000 in
theorem b_X7_plainSight_0 {d : Nat} {P : Int32 → wf_Mem → Prop} (mem : wf_Mem) (x0 : Nat) (hx0 : wf_sh x0 = (7, 0)) (x1 : Int32)
    (h : P ((if 0 < ((mem x0 2) - ((mem x0 3) / 10)) then ((mem x0 2) - ((mem x0 3) / 10)) else 0) + (x1 / 4)) mem) :
    Vw (Ni (d + 1) P) mX7_plainSight 0 [(0, .ref x0), (1, .int x1)] [] mem := by
  refine V_iconst (v := 0) dX7_plainSight_0 rfl ?_
  refine V_aload_n 0 dX7_plainSight_1 rfl ?_
  refine V_getf (v := .int (mem x0 2)) gf_X7_18 dX7_plainSight_2 hx0 rfl ?_
  refine V_aload_n 0 dX7_plainSight_5 rfl ?_
  refine V_getf (v := .int (mem x0 3)) gf_X7_21 dX7_plainSight_6 hx0 rfl ?_
  refine V_bipush (v := 10) dX7_plainSight_9 rfl ?_
  refine V_idiv dX7_plainSight_11 ⟨by decide, ?_⟩
  refine V_isub dX7_plainSight_12 ?_
  refine V_mmax w_266 wm_max dX7_plainSight_13 wf_rok_m (Nat.le_of_ble_eq_true rfl) ?_
  refine V_iload_n 1 dX7_plainSight_16 rfl ?_
  refine V_iconst (v := 4) dX7_plainSight_17 rfl ?_
  refine V_idiv dX7_plainSight_18 ⟨by decide, ?_⟩
  refine V_iadd dX7_plainSight_19 ?_
  exact V_iret dX7_plainSight_20 rfl h
set_option maxRecDepth 20000 in
theorem b_X7_worth_0 {d : Nat} {P : Int32 → wf_Mem → Prop} (mem : wf_Mem) (x0 : Nat) (hx0 : wf_sh x0 = (7, 0))
    (h : (((mem x0 0) = 1 → P ((mem x0 2) + 4) mem) ∧ (¬ (mem x0 0) = 1 → (((mem x0 0) = 2 → P (20 - (mem x0 2)) mem) ∧ (¬ (mem x0 0) = 2 → (((mem x0 0) = 3 → P (2 * ((mem x0 2) + 4)) mem) ∧ (¬ (mem x0 0) = 3 → (((mem x0 0) = 4 → P ((20 - (mem x0 2)) + 9) mem) ∧ (¬ (mem x0 0) = 4 → (((mem x0 0) = 5 → P 2 mem) ∧ (¬ (mem x0 0) = 5 → P (mem x0 2) mem))))))))))) :
    Vw (Ni d P) mX7_worth 0 [(0, .ref x0)] [] mem := by
  refine V_aload_n 0 dX7_worth_0 rfl ?_
  refine V_getf (v := .int (mem x0 0)) gf_X7_9 dX7_worth_1 hx0 rfl ?_
  refine V_tswc [(1, 40), (2, 56), (3, 47), (4, 64), (5, 75)] 77 dX7_worth_4 (by decide +kernel) ?_
  refine And.intro (fun c1 => ?_) (fun c1 => ?_)
  · have h := h.1 c1
    show Vw _ _ 40 _ _ _
    refine V_aload_n 0 dX7_worth_40 rfl ?_
    refine V_getf (v := .int (mem x0 2)) gf_X7_18 dX7_worth_41 hx0 rfl ?_
    refine V_iconst (v := 4) dX7_worth_44 rfl ?_
    refine V_iadd dX7_worth_45 ?_
    exact V_iret dX7_worth_46 rfl h
  · have h := h.2 c1
    refine And.intro (fun c2 => ?_) (fun c2 => ?_)
    · have h := h.1 c2
      show Vw _ _ 56 _ _ _
      refine V_bipush (v := 20) dX7_worth_56 rfl ?_
      refine V_aload_n 0 dX7_worth_58 rfl ?_
      refine V_getf (v := .int (mem x0 2)) gf_X7_18 dX7_worth_59 hx0 rfl ?_
      refine V_isub dX7_worth_62 ?_
      exact V_iret dX7_worth_63 rfl h
    · have h := h.2 c2
      refine And.intro (fun c3 => ?_) (fun c3 => ?_)
      · have h := h.1 c3
        show Vw _ _ 47 _ _ _
        refine V_iconst (v := 2) dX7_worth_47 rfl ?_
        refine V_aload_n 0 dX7_worth_48 rfl ?_
        refine V_getf (v := .int (mem x0 2)) gf_X7_18 dX7_worth_49 hx0 rfl ?_
        refine V_iconst (v := 4) dX7_worth_52 rfl ?_
        refine V_iadd dX7_worth_53 ?_
        refine V_imul dX7_worth_54 ?_
        exact V_iret dX7_worth_55 rfl h
      · have h := h.2 c3
        refine And.intro (fun c4 => ?_) (fun c4 => ?_)
        · have h := h.1 c4
          show Vw _ _ 64 _ _ _
          refine V_bipush (v := 20) dX7_worth_64 rfl ?_
          refine V_aload_n 0 dX7_worth_66 rfl ?_
          refine V_getf (v := .int (mem x0 2)) gf_X7_18 dX7_worth_67 hx0 rfl ?_
          refine V_isub dX7_worth_70 ?_
          refine V_bipush (v := 9) dX7_worth_71 rfl ?_
          refine V_iadd dX7_worth_73 ?_
          exact V_iret dX7_worth_74 rfl h
        · have h := h.2 c4
          refine And.intro (fun c5 => ?_) (fun c5 => ?_)
          · have h := h.1 c5
            show Vw _ _ 75 _ _ _
            refine V_iconst (v := 2) dX7_worth_75 rfl ?_
            exact V_iret dX7_worth_76 rfl h
          · have h := h.2 c5
            show Vw _ _ 77 _ _ _
            refine V_aload_n 0 dX7_worth_77 rfl ?_
            refine V_getf (v := .int (mem x0 2)) gf_X7_18 dX7_worth_78 hx0 rfl ?_
            exact V_iret dX7_worth_81 rfl h
set_option maxRecDepth 20000 in
theorem b_X7_takeFrom_0 {d : Nat} {P : wf_Mem → Prop} (mem : wf_Mem) (x0 : Nat) (hx0 : wf_sh x0 = (7, 0)) (x1 : Nat) (hx1 : wf_sh x1 = (7, 0))
    (h : (∀ mem1 : wf_Mem, mem1 = wf_ms mem x0 0 (mem x1 0) → (∀ mem2 : wf_Mem, mem2 = wf_ms mem1 x0 1 (mem1 x1 1) → (∀ mem3 : wf_Mem, mem3 = wf_ms mem2 x0 2 (mem2 x1 2) → (∀ mem4 : wf_Mem, mem4 = wf_ms mem3 x0 3 (mem3 x1 3) → (∀ mem5 : wf_Mem, mem5 = wf_ms mem4 x0 4 (mem4 x1 4) → P mem5)))))) :
    Vw (Nv d P) mX7_takeFrom 0 [(0, .ref x0), (1, .ref x1)] [] mem := by
  refine V_aload_n 0 dX7_takeFrom_0 rfl ?_
  refine V_aload_n 1 dX7_takeFrom_1 rfl ?_
  refine V_getf (v := .int (mem x1 0)) gf_X7_9 dX7_takeFrom_2 hx1 rfl ?_
  refine V_putf pf_X7_9 dX7_takeFrom_5 hx0 rfl rfl ?_
  refine V_topm (fun mem1 emem1 => ?_)
  have h := h mem1 emem1
  refine V_aload_n 0 dX7_takeFrom_8 rfl ?_
  refine V_aload_n 1 dX7_takeFrom_9 rfl ?_
  refine V_getf (v := .int (mem1 x1 1)) gf_X7_15 dX7_takeFrom_10 hx1 rfl ?_
  refine V_putf pf_X7_15 dX7_takeFrom_13 hx0 rfl rfl ?_
  refine V_topm (fun mem2 emem2 => ?_)
  have h := h mem2 emem2
  refine V_aload_n 0 dX7_takeFrom_16 rfl ?_
  refine V_aload_n 1 dX7_takeFrom_17 rfl ?_
  refine V_getf (v := .int (mem2 x1 2)) gf_X7_18 dX7_takeFrom_18 hx1 rfl ?_
  refine V_putf pf_X7_18 dX7_takeFrom_21 hx0 rfl rfl ?_
  refine V_topm (fun mem3 emem3 => ?_)
  have h := h mem3 emem3
  refine V_aload_n 0 dX7_takeFrom_24 rfl ?_
  refine V_aload_n 1 dX7_takeFrom_25 rfl ?_
  refine V_getf (v := .int (mem3 x1 3)) gf_X7_21 dX7_takeFrom_26 hx1 rfl ?_
  refine V_putf pf_X7_21 dX7_takeFrom_29 hx0 rfl rfl ?_
  refine V_topm (fun mem4 emem4 => ?_)
  have h := h mem4 emem4
  refine V_aload_n 0 dX7_takeFrom_32 rfl ?_
  refine V_aload_n 1 dX7_takeFrom_33 rfl ?_
  refine V_getf (v := .int (mem4 x1 4)) gf_X7_24 dX7_takeFrom_34 hx1 rfl ?_
  refine V_putf pf_X7_24 dX7_takeFrom_37 hx0 rfl rfl ?_
  refine V_topm (fun mem5 emem5 => ?_)
  have h := h mem5 emem5
  exact V_vret dX7_takeFrom_40 rfl h
