set_option maxRecDepth 20000 in
theorem b_X9_laysFires_0 {d : Nat} {P : Int32 → wf_Mem → Prop} (mem : wf_Mem) (x1 : Int32)
    (h : Vw (Ni d P) mX9_laysFires 4 [(0, .ref 120), (1, .int x1), (2, .int 0), (3, .int 0)] [] mem) :
    Vw (Ni d P) mX9_laysFires 0 [(0, .ref 120), (1, .int x1)] [] mem := by
  refine V_iconst (v := 0) dX9_laysFires_0 rfl ?_
  refine V_istore_n (lv' := [(0, .ref 120), (1, .int x1), (2, .int 0)]) dX9_laysFires_1 (by decide) rfl rfl ?_
  refine V_iconst (v := 0) dX9_laysFires_2 rfl ?_
  refine V_istore_n (lv' := [(0, .ref 120), (1, .int x1), (2, .int 0), (3, .int 0)]) dX9_laysFires_3 (by decide) rfl rfl ?_
  exact h
set_option maxRecDepth 20000 in
theorem b_X9_laysFires_4 {d : Nat} {P : Int32 → wf_Mem → Prop} (mem : wf_Mem) (x1 : Int32) (x2 : Int32) (x3 : Int32)
    (h : (((mem 121 0) ≤ x3 → P x2 mem) ∧ (¬ (mem 121 0) ≤ x3 → (∀ x4_2 : Int32, x4_2 = ((x1 >>> ((2 * (((mem 121 0) - 1) - x3)) &&& 31)) &&& 3) → (vp_in ((12 + (3 * x3)) + 1) 3088 ∧ ∀ mem3 : wf_Mem, mem3 = wf_ms mem 121 ((12 + (3 * x3)) + 1).toNatClampNeg x4_2 → (∀ x2_4 : Int32, x2_4 = (x2 + x4_2) → Vw (Ni d P) mX9_laysFires 4 [(0, .ref 120), (1, .int x1), (2, .int x2_4), (3, .int (x3 + 1))] [] mem3)))))) :
    Vw (Ni d P) mX9_laysFires 4 [(0, .ref 120), (1, .int x1), (2, .int x2), (3, .int x3)] [] mem := by
  refine V_iload_n 3 dX9_laysFires_4 rfl ?_
  refine V_aload_n 0 dX9_laysFires_5 rfl ?_
  refine V_getf (v := .ref 121) gf_X9_7 dX9_laysFires_6 sh_a120 rfl ?_
  refine V_iconst (v := 0) dX9_laysFires_9 rfl ?_
  refine V_ildL (j := 0) dX9_laysFires_10 sh_a121 (by decide) (by decide) ?_
  refine V_icmp_ge (tgt := 58) dX9_laysFires_11 rfl ⟨fun c1 => ?_, fun c1 => ?_⟩
  · have h := h.1 c1
    refine V_iload_n 2 dX9_laysFires_58 rfl ?_
    exact V_iret dX9_laysFires_59 rfl h
  · have h := h.2 c1
    refine V_iload_n 1 dX9_laysFires_14 rfl ?_
    refine V_iconst (v := 2) dX9_laysFires_15 rfl ?_
    refine V_aload_n 0 dX9_laysFires_16 rfl ?_
    refine V_getf (v := .ref 121) gf_X9_7 dX9_laysFires_17 sh_a120 rfl ?_
    refine V_iconst (v := 0) dX9_laysFires_20 rfl ?_
    refine V_ildL (j := 0) dX9_laysFires_21 sh_a121 (by decide) (by decide) ?_
    refine V_iconst (v := 1) dX9_laysFires_22 rfl ?_
    refine V_isub dX9_laysFires_23 ?_
    refine V_iload_n 3 dX9_laysFires_24 rfl ?_
    refine V_isub dX9_laysFires_25 ?_
    refine V_imul dX9_laysFires_26 ?_
    refine V_ishr dX9_laysFires_27 ?_
    refine V_iconst (v := 3) dX9_laysFires_28 rfl ?_
    refine V_iand dX9_laysFires_29 ?_
    refine V_topi (fun x4_2 ex4_2 => ?_)
    have h := h x4_2 ex4_2
    refine V_istore (lv' := [(0, .ref 120), (1, .int x1), (2, .int x2), (3, .int x3), (4, .int x4_2)]) dX9_laysFires_30 (by decide) rfl rfl ?_
    refine V_aload_n 0 dX9_laysFires_32 rfl ?_
    refine V_getf (v := .ref 121) gf_X9_7 dX9_laysFires_33 sh_a120 rfl ?_
    refine V_bipush (v := 12) dX9_laysFires_36 rfl ?_
    refine V_iconst (v := 3) dX9_laysFires_38 rfl ?_
    refine V_iload_n 3 dX9_laysFires_39 rfl ?_
    refine V_imul dX9_laysFires_40 ?_
    refine V_iadd dX9_laysFires_41 ?_
    refine V_iconst (v := 1) dX9_laysFires_42 rfl ?_
    refine V_iadd dX9_laysFires_43 ?_
    refine V_iload 4 dX9_laysFires_44 rfl ?_
    refine V_iast dX9_laysFires_46 sh_a121 ⟨h.1, ?_⟩
    refine V_topm (fun mem3 emem3 => ?_)
    have h := h.2 mem3 emem3
    refine V_iload_n 2 dX9_laysFires_47 rfl ?_
    refine V_iload 4 dX9_laysFires_48 rfl ?_
    refine V_iadd dX9_laysFires_50 ?_
    refine V_topi (fun x2_4 ex2_4 => ?_)
    have h := h x2_4 ex2_4
    refine V_istore_n (lv' := [(0, .ref 120), (1, .int x1), (2, .int x2_4), (3, .int x3), (4, .int x4_2)]) dX9_laysFires_51 (by decide) rfl rfl ?_
    refine V_iinc (v := (x3 + 1)) (lv' := [(0, .ref 120), (1, .int x1), (2, .int x2_4), (3, .int (x3 + 1)), (4, .int x4_2)]) 3 dX9_laysFires_52 rfl rfl (by decide) rfl rfl ?_
    refine V_goto (tgt := 4) dX9_laysFires_55 rfl ?_
    exact V_sub [0, 1, 2, 3] rfl h
set_option maxRecDepth 20000 in
theorem b_X9_leastLight_0 {d : Nat} {P : Int32 → wf_Mem → Prop} (mem : wf_Mem) 
    (h : Vw (Ni (d + 1) P) mX9_leastLight 6 [(0, .ref 120), (1, .int 1000), (2, .int 0)] [] mem) :
    Vw (Ni (d + 1) P) mX9_leastLight 0 [(0, .ref 120)] [] mem := by
  refine V_sipush (v := 1000) dX9_leastLight_0 rfl ?_
  refine V_istore_n (lv' := [(0, .ref 120), (1, .int 1000)]) dX9_leastLight_3 (by decide) rfl rfl ?_
  refine V_iconst (v := 0) dX9_leastLight_4 rfl ?_
  refine V_istore_n (lv' := [(0, .ref 120), (1, .int 1000), (2, .int 0)]) dX9_leastLight_5 (by decide) rfl rfl ?_
  exact h
set_option maxRecDepth 20000 in
theorem b_X9_leastLight_6 {d : Nat} {P : Int32 → wf_Mem → Prop} (mem : wf_Mem) (x1 : Int32) (x2 : Int32)
    (h : (((mem 121 0) ≤ x2 → P x1 mem) ∧ (¬ (mem 121 0) ≤ x2 → (Ci mX9_light d [.ref 120, .int x2] mem (fun r3 mem2 => ((x1 ≤ r3 → Vw (Ni (d + 1) P) mX9_leastLight 6 [(0, .ref 120), (1, .int x1), (2, .int (x2 + 1))] [] mem2) ∧ (¬ x1 ≤ r3 → Vw (Ni (d + 1) P) mX9_leastLight 6 [(0, .ref 120), (1, .int r3), (2, .int (x2 + 1))] [] mem2))))))) :
    Vw (Ni (d + 1) P) mX9_leastLight 6 [(0, .ref 120), (1, .int x1), (2, .int x2)] [] mem := by
  refine V_iload_n 2 dX9_leastLight_6 rfl ?_
  refine V_aload_n 0 dX9_leastLight_7 rfl ?_
  refine V_getf (v := .ref 121) gf_X9_7 dX9_leastLight_8 sh_a120 rfl ?_
  refine V_iconst (v := 0) dX9_leastLight_11 rfl ?_
  refine V_ildL (j := 0) dX9_leastLight_12 sh_a121 (by decide) (by decide) ?_
  refine V_icmp_ge (tgt := 39) dX9_leastLight_13 rfl ⟨fun c1 => ?_, fun c1 => ?_⟩
  · have h := h.1 c1
    refine V_iload_n 1 dX9_leastLight_39 rfl ?_
    exact V_iret dX9_leastLight_40 rfl h
  · have h := h.2 c1
    refine V_aload_n 0 dX9_leastLight_16 rfl ?_
    refine V_iload_n 2 dX9_leastLight_17 rfl ?_
    refine V_cVi [.int x2] mv_X9_light w_474 dX9_leastLight_18 wf_rok_m sh_a120 rfl (by decide) rfl rfl (Nat.le_of_ble_eq_true rfl) h ?_
    intro r3 mem2 h
    refine V_istore_n (lv' := [(0, .ref 120), (1, .int x1), (2, .int x2), (3, .int r3)]) dX9_leastLight_21 (by decide) rfl rfl ?_
    refine V_iload_n 3 dX9_leastLight_22 rfl ?_
    refine V_iload_n 1 dX9_leastLight_23 rfl ?_
    refine V_icmp_ge (tgt := 31) dX9_leastLight_24 rfl ⟨fun c4 => ?_, fun c4 => ?_⟩
    · have h := h.1 c4
      refine V_iload_n 1 dX9_leastLight_31 rfl ?_
      refine V_istore_n (lv' := [(0, .ref 120), (1, .int x1), (2, .int x2), (3, .int r3)]) dX9_leastLight_32 (by decide) rfl rfl ?_
      refine V_iinc (v := (x2 + 1)) (lv' := [(0, .ref 120), (1, .int x1), (2, .int (x2 + 1)), (3, .int r3)]) 2 dX9_leastLight_33 rfl rfl (by decide) rfl rfl ?_
      refine V_goto (tgt := 6) dX9_leastLight_36 rfl ?_
      exact V_sub [0, 1, 2] rfl h
    · have h := h.2 c4
      refine V_iload_n 3 dX9_leastLight_27 rfl ?_
      refine V_goto (tgt := 32) dX9_leastLight_28 rfl ?_
      refine V_istore_n (lv' := [(0, .ref 120), (1, .int r3), (2, .int x2), (3, .int r3)]) dX9_leastLight_32 (by decide) rfl rfl ?_
      refine V_iinc (v := (x2 + 1)) (lv' := [(0, .ref 120), (1, .int r3), (2, .int (x2 + 1)), (3, .int r3)]) 2 dX9_leastLight_33 rfl rfl (by decide) rfl rfl ?_
      refine V_goto (tgt := 6) dX9_leastLight_36 rfl ?_
      exact V_sub [0, 1, 2] rfl h
set_option maxRecDepth 20000 in
theorem b_X9_fires_0 {d : Nat} {P : Int32 → wf_Mem → Prop} (mem : wf_Mem) (x1 : Int32) (x2 : Int32)
    (h : (Ci mX9_isIn d [.long (x1 : Int32).toInt64, .long 0, .long 18] mem (fun r2 mem1 => ((r2 = 0 → P (-1000000001) mem1) ∧ (¬ r2 = 0 → (Ci mX9_isIn d [.long (x2 : Int32).toInt64, .long 0, .long 2] mem1 (fun r5 mem4 => ((¬ r5 = 0 → (((mem4 121 0) = 0 → P (-1000000005) mem4) ∧ (¬ (mem4 121 0) = 0 → (((mem4 121 0) ≤ 6 → (Cv mX9_laysBy d [.ref 120] mem4 (fun mem9 => Vw (Ni (d + 1) P) mX9_fires 65 [(0, .ref 120), (1, .int x1), (2, .int x2), (3, .int 0), (4, .int (-1)), (5, .int 0), (6, .int 0)] [] mem9))) ∧ (¬ (mem4 121 0) ≤ 6 → P (-1000000005) mem4))))) ∧ (r5 = 0 → P (-1000000001) mem4))))))))) :
    Vw (Ni (d + 1) P) mX9_fires 0 [(0, .ref 120), (1, .int x1), (2, .int x2)] [] mem := by
  refine V_iload_n 1 dX9_fires_0 rfl ?_
  refine V_i2l dX9_fires_1 ?_
  refine V_lconst (v := 0) dX9_fires_2 rfl ?_
  refine V_ldc2 w_570 dX9_fires_3 ?_
  refine V_cSi [.long (x1 : Int32).toInt64, .long 0, .long 18] ms_X9_isIn w_438 dX9_fires_6 wf_rok_m rfl rfl (Nat.le_of_ble_eq_true rfl) h ?_
  intro r2 mem1 h
  refine V_if_eq (tgt := 24) dX9_fires_9 rfl ⟨fun c3 => ?_, fun c3 => ?_⟩
  · have h := h.1 c3
    refine V_ldc w_442 dX9_fires_24 ?_
    exact V_iret dX9_fires_26 rfl h
  · have h := h.2 c3
    refine V_iload_n 2 dX9_fires_12 rfl ?_
    refine V_i2l dX9_fires_13 ?_
    refine V_lconst (v := 0) dX9_fires_14 rfl ?_
    refine V_ldc2 w_487 dX9_fires_15 ?_
    refine V_cSi [.long (x2 : Int32).toInt64, .long 0, .long 2] ms_X9_isIn w_438 dX9_fires_18 wf_rok_m rfl rfl (Nat.le_of_ble_eq_true rfl) h ?_
    intro r5 mem4 h
    refine V_if_ne (tgt := 27) dX9_fires_21 rfl ⟨fun c6 => ?_, fun c6 => ?_⟩
    · have h := h.1 c6
      refine V_aload_n 0 dX9_fires_27 rfl ?_
      refine V_getf (v := .ref 121) gf_X9_7 dX9_fires_28 sh_a120 rfl ?_
      refine V_iconst (v := 0) dX9_fires_31 rfl ?_
      refine V_ildL (j := 0) dX9_fires_32 sh_a121 (by decide) (by decide) ?_
      refine V_if_eq (tgt := 47) dX9_fires_33 rfl ⟨fun c7 => ?_, fun c7 => ?_⟩
      · have h := h.1 c7
        refine V_ldc w_433 dX9_fires_47 ?_
        exact V_iret dX9_fires_49 rfl h
      · have h := h.2 c7
        refine V_aload_n 0 dX9_fires_36 rfl ?_
        refine V_getf (v := .ref 121) gf_X9_7 dX9_fires_37 sh_a120 rfl ?_
        refine V_iconst (v := 0) dX9_fires_40 rfl ?_
        refine V_ildL (j := 0) dX9_fires_41 sh_a121 (by decide) (by decide) ?_
        refine V_bipush (v := 6) dX9_fires_42 rfl ?_
        refine V_icmp_le (tgt := 50) dX9_fires_44 rfl ⟨fun c8 => ?_, fun c8 => ?_⟩
        · have h := h.1 c8
          refine V_aload_n 0 dX9_fires_50 rfl ?_
          refine V_cVv [] mv_X9_laysBy w_556 dX9_fires_51 wf_rok_m sh_a120 rfl (by decide) rfl rfl (Nat.le_of_ble_eq_true rfl) h ?_
          intro mem9 h
          refine V_iconst (v := 0) dX9_fires_54 rfl ?_
          refine V_istore_n (lv' := [(0, .ref 120), (1, .int x1), (2, .int x2), (3, .int 0)]) dX9_fires_55 (by decide) rfl rfl ?_
          refine V_iconst (v := (-1)) dX9_fires_56 rfl ?_
          refine V_istore (lv' := [(0, .ref 120), (1, .int x1), (2, .int x2), (3, .int 0), (4, .int (-1))]) dX9_fires_57 (by decide) rfl rfl ?_
          refine V_iconst (v := 0) dX9_fires_59 rfl ?_
          refine V_istore (lv' := [(0, .ref 120), (1, .int x1), (2, .int x2), (3, .int 0), (4, .int (-1)), (5, .int 0)]) dX9_fires_60 (by decide) rfl rfl ?_
          refine V_iconst (v := 0) dX9_fires_62 rfl ?_
          refine V_istore (lv' := [(0, .ref 120), (1, .int x1), (2, .int x2), (3, .int 0), (4, .int (-1)), (5, .int 0), (6, .int 0)]) dX9_fires_63 (by decide) rfl rfl ?_
          exact h
        · have h := h.2 c8
          refine V_ldc w_433 dX9_fires_47 ?_
          exact V_iret dX9_fires_49 rfl h
    · have h := h.2 c6
      refine V_ldc w_442 dX9_fires_24 ?_
      exact V_iret dX9_fires_26 rfl h
set_option maxRecDepth 20000 in
theorem b_X9_fires_65 {d : Nat} {P : Int32 → wf_Mem → Prop} (mem : wf_Mem) (x1 : Int32) (x2 : Int32) (x3 : Int32) (x4 : Int32) (x5 : Int32) (x6 : Int32)
    (h : ((((1 : Int32) <<< ((2 * (mem 121 0)) &&& 31)) ≤ x6 → (Cv mX9_laysBack d [.ref 120] mem (fun mem2 => ((¬ x2 = 0 → ((¬ x2 = 1 → P x3 mem2) ∧ (x2 = 1 → P x5 mem2))) ∧ (x2 = 0 → P x4 mem2))))) ∧ (¬ ((1 : Int32) <<< ((2 * (mem 121 0)) &&& 31)) ≤ x6 → (Ci mX9_laysFires d [.ref 120, .int x6] mem (fun r6 mem5 => ((r6 ≤ x1 → (Ci mX9_leastLight d [.ref 120] mem5 (fun r9 mem8 => Vw (Ni (d + 1) P) mX9_fires 102 [(0, .ref 120), (1, .int x1), (2, .int x2), (3, .int x3), (4, .int x4), (5, .int x5), (6, .int x6), (7, .int r6)] [.int r9] mem8))) ∧ (¬ r6 ≤ x1 → Vw (Ni (d + 1) P) mX9_fires 102 [(0, .ref 120), (1, .int x1), (2, .int x2), (3, .int x3), (4, .int x4), (5, .int x5), (6, .int x6), (7, .int r6)] [.int (-1)] mem5))))))) :
    Vw (Ni (d + 1) P) mX9_fires 65 [(0, .ref 120), (1, .int x1), (2, .int x2), (3, .int x3), (4, .int x4), (5, .int x5), (6, .int x6)] [] mem := by
  refine V_iload 6 dX9_fires_65 rfl ?_
  refine V_iconst (v := 1) dX9_fires_67 rfl ?_
  refine V_iconst (v := 2) dX9_fires_68 rfl ?_
  refine V_aload_n 0 dX9_fires_69 rfl ?_
  refine V_getf (v := .ref 121) gf_X9_7 dX9_fires_70 sh_a120 rfl ?_
  refine V_iconst (v := 0) dX9_fires_73 rfl ?_
  refine V_ildL (j := 0) dX9_fires_74 sh_a121 (by decide) (by decide) ?_
  refine V_imul dX9_fires_75 ?_
  refine V_ishl dX9_fires_76 ?_
  refine V_icmp_ge (tgt := 147) dX9_fires_77 rfl ⟨fun c1 => ?_, fun c1 => ?_⟩
  · have h := h.1 c1
    refine V_aload_n 0 dX9_fires_147 rfl ?_
    refine V_cVv [] mv_X9_laysBack w_568 dX9_fires_148 wf_rok_m sh_a120 rfl (by decide) rfl rfl (Nat.le_of_ble_eq_true rfl) h ?_
    intro mem2 h
    refine V_iload_n 2 dX9_fires_151 rfl ?_
    refine V_if_ne (tgt := 160) dX9_fires_152 rfl ⟨fun c3 => ?_, fun c3 => ?_⟩
    · have h := h.1 c3
      refine V_iload_n 2 dX9_fires_160 rfl ?_
      refine V_iconst (v := 1) dX9_fires_161 rfl ?_
      refine V_icmp_ne (tgt := 170) dX9_fires_162 rfl ⟨fun c4 => ?_, fun c4 => ?_⟩
      · have h := h.1 c4
        refine V_iload_n 3 dX9_fires_170 rfl ?_
        exact V_iret dX9_fires_171 rfl h
      · have h := h.2 c4
        refine V_iload 5 dX9_fires_165 rfl ?_
        refine V_goto (tgt := 171) dX9_fires_167 rfl ?_
        exact V_iret dX9_fires_171 rfl h
    · have h := h.2 c3
      refine V_iload 4 dX9_fires_155 rfl ?_
      refine V_goto (tgt := 171) dX9_fires_157 rfl ?_
      exact V_iret dX9_fires_171 rfl h
  · have h := h.2 c1
    refine V_aload_n 0 dX9_fires_80 rfl ?_
    refine V_iload 6 dX9_fires_81 rfl ?_
    refine V_cVi [.int x6] mv_X9_laysFires w_574 dX9_fires_83 wf_rok_m sh_a120 rfl (by decide) rfl rfl (Nat.le_of_ble_eq_true rfl) h ?_
    intro r6 mem5 h
    refine V_istore (lv' := [(0, .ref 120), (1, .int x1), (2, .int x2), (3, .int x3), (4, .int x4), (5, .int x5), (6, .int x6), (7, .int r6)]) dX9_fires_86 (by decide) rfl rfl ?_
    refine V_iload 7 dX9_fires_88 rfl ?_
    refine V_iload_n 1 dX9_fires_90 rfl ?_
    refine V_icmp_le (tgt := 98) dX9_fires_91 rfl ⟨fun c7 => ?_, fun c7 => ?_⟩
    · have h := h.1 c7
      refine V_aload_n 0 dX9_fires_98 rfl ?_
      refine V_cVi [] mv_X9_leastLight w_578 dX9_fires_99 wf_rok_m sh_a120 rfl (by decide) rfl rfl (Nat.le_of_ble_eq_true rfl) h ?_
      intro r9 mem8 h
      exact h
    · have h := h.2 c7
      refine V_iconst (v := (-1)) dX9_fires_94 rfl ?_
      refine V_goto (tgt := 102) dX9_fires_95 rfl ?_
      exact h
set_option maxRecDepth 20000 in
theorem b_X9_fires_102 {d : Nat} {P : Int32 → wf_Mem → Prop} (mem : wf_Mem) (x1 : Int32) (x2 : Int32) (x3 : Int32) (x4 : Int32) (x5 : Int32) (x6 : Int32) (x7 : Int32) (y0 : Int32)
    (h : ((x4 < y0 → Vw (Ni (d + 1) P) mX9_fires 65 [(0, .ref 120), (1, .int x1), (2, .int x2), (3, .int x6), (4, .int y0), (5, .int x7), (6, .int (x6 + 1))] [] mem) ∧ (¬ x4 < y0 → ((y0 < 0 → Vw (Ni (d + 1) P) mX9_fires 65 [(0, .ref 120), (1, .int x1), (2, .int x2), (3, .int x3), (4, .int x4), (5, .int x5), (6, .int (x6 + 1))] [] mem) ∧ (¬ y0 < 0 → ((¬ y0 = x4 → Vw (Ni (d + 1) P) mX9_fires 65 [(0, .ref 120), (1, .int x1), (2, .int x2), (3, .int x3), (4, .int x4), (5, .int x5), (6, .int (x6 + 1))] [] mem) ∧ (y0 = x4 → ((x5 ≤ x7 → Vw (Ni (d + 1) P) mX9_fires 65 [(0, .ref 120), (1, .int x1), (2, .int x2), (3, .int x3), (4, .int x4), (5, .int x5), (6, .int (x6 + 1))] [] mem) ∧ (¬ x5 ≤ x7 → Vw (Ni (d + 1) P) mX9_fires 65 [(0, .ref 120), (1, .int x1), (2, .int x2), (3, .int x6), (4, .int y0), (5, .int x7), (6, .int (x6 + 1))] [] mem))))))))) :
    Vw (Ni (d + 1) P) mX9_fires 102 [(0, .ref 120), (1, .int x1), (2, .int x2), (3, .int x3), (4, .int x4), (5, .int x5), (6, .int x6), (7, .int x7)] [.int y0] mem := by
  refine V_istore (lv' := [(0, .ref 120), (1, .int x1), (2, .int x2), (3, .int x3), (4, .int x4), (5, .int x5), (6, .int x6), (7, .int x7), (8, .int y0)]) dX9_fires_102 (by decide) rfl rfl ?_
  refine V_iload 8 dX9_fires_104 rfl ?_
  refine V_iload 4 dX9_fires_106 rfl ?_
  refine V_icmp_gt (tgt := 130) dX9_fires_108 rfl ⟨fun c1 => ?_, fun c1 => ?_⟩
  · have h := h.1 c1
    refine V_iload 6 dX9_fires_130 rfl ?_
    refine V_istore_n (lv' := [(0, .ref 120), (1, .int x1), (2, .int x2), (3, .int x6), (4, .int x4), (5, .int x5), (6, .int x6), (7, .int x7), (8, .int y0)]) dX9_fires_132 (by decide) rfl rfl ?_
    refine V_iload 8 dX9_fires_133 rfl ?_
    refine V_istore (lv' := [(0, .ref 120), (1, .int x1), (2, .int x2), (3, .int x6), (4, .int y0), (5, .int x5), (6, .int x6), (7, .int x7), (8, .int y0)]) dX9_fires_135 (by decide) rfl rfl ?_
    refine V_iload 7 dX9_fires_137 rfl ?_
    refine V_istore (lv' := [(0, .ref 120), (1, .int x1), (2, .int x2), (3, .int x6), (4, .int y0), (5, .int x7), (6, .int x6), (7, .int x7), (8, .int y0)]) dX9_fires_139 (by decide) rfl rfl ?_
    refine V_iinc (v := (x6 + 1)) (lv' := [(0, .ref 120), (1, .int x1), (2, .int x2), (3, .int x6), (4, .int y0), (5, .int x7), (6, .int (x6 + 1)), (7, .int x7), (8, .int y0)]) 6 dX9_fires_141 rfl rfl (by decide) rfl rfl ?_
    refine V_goto (tgt := 65) dX9_fires_144 rfl ?_
    exact V_sub [0, 1, 2, 3, 4, 5, 6] rfl h
  · have h := h.2 c1
    refine V_iload 8 dX9_fires_111 rfl ?_
    refine V_if_lt (tgt := 141) dX9_fires_113 rfl ⟨fun c2 => ?_, fun c2 => ?_⟩
    · have h := h.1 c2
      refine V_iinc (v := (x6 + 1)) (lv' := [(0, .ref 120), (1, .int x1), (2, .int x2), (3, .int x3), (4, .int x4), (5, .int x5), (6, .int (x6 + 1)), (7, .int x7), (8, .int y0)]) 6 dX9_fires_141 rfl rfl (by decide) rfl rfl ?_
      refine V_goto (tgt := 65) dX9_fires_144 rfl ?_
      exact V_sub [0, 1, 2, 3, 4, 5, 6] rfl h
    · have h := h.2 c2
      refine V_iload 8 dX9_fires_116 rfl ?_
      refine V_iload 4 dX9_fires_118 rfl ?_
      refine V_icmp_ne (tgt := 141) dX9_fires_120 rfl ⟨fun c3 => ?_, fun c3 => ?_⟩
      · have h := h.1 c3
        refine V_iinc (v := (x6 + 1)) (lv' := [(0, .ref 120), (1, .int x1), (2, .int x2), (3, .int x3), (4, .int x4), (5, .int x5), (6, .int (x6 + 1)), (7, .int x7), (8, .int y0)]) 6 dX9_fires_141 rfl rfl (by decide) rfl rfl ?_
        refine V_goto (tgt := 65) dX9_fires_144 rfl ?_
        exact V_sub [0, 1, 2, 3, 4, 5, 6] rfl h
      · have h := h.2 c3
        refine V_iload 7 dX9_fires_123 rfl ?_
        refine V_iload 5 dX9_fires_125 rfl ?_
        refine V_icmp_ge (tgt := 141) dX9_fires_127 rfl ⟨fun c4 => ?_, fun c4 => ?_⟩
        · have h := h.1 c4
          refine V_iinc (v := (x6 + 1)) (lv' := [(0, .ref 120), (1, .int x1), (2, .int x2), (3, .int x3), (4, .int x4), (5, .int x5), (6, .int (x6 + 1)), (7, .int x7), (8, .int y0)]) 6 dX9_fires_141 rfl rfl (by decide) rfl rfl ?_
          refine V_goto (tgt := 65) dX9_fires_144 rfl ?_
          exact V_sub [0, 1, 2, 3, 4, 5, 6] rfl h
        · have h := h.2 c4
          refine V_iload 6 dX9_fires_130 rfl ?_
          refine V_istore_n (lv' := [(0, .ref 120), (1, .int x1), (2, .int x2), (3, .int x6), (4, .int x4), (5, .int x5), (6, .int x6), (7, .int x7), (8, .int y0)]) dX9_fires_132 (by decide) rfl rfl ?_
          refine V_iload 8 dX9_fires_133 rfl ?_
          refine V_istore (lv' := [(0, .ref 120), (1, .int x1), (2, .int x2), (3, .int x6), (4, .int y0), (5, .int x5), (6, .int x6), (7, .int x7), (8, .int y0)]) dX9_fires_135 (by decide) rfl rfl ?_
          refine V_iload 7 dX9_fires_137 rfl ?_
          refine V_istore (lv' := [(0, .ref 120), (1, .int x1), (2, .int x2), (3, .int x6), (4, .int y0), (5, .int x7), (6, .int x6), (7, .int x7), (8, .int y0)]) dX9_fires_139 (by decide) rfl rfl ?_
          refine V_iinc (v := (x6 + 1)) (lv' := [(0, .ref 120), (1, .int x1), (2, .int x2), (3, .int x6), (4, .int y0), (5, .int x7), (6, .int (x6 + 1)), (7, .int x7), (8, .int y0)]) 6 dX9_fires_141 rfl rfl (by decide) rfl rfl ?_
          refine V_goto (tgt := 65) dX9_fires_144 rfl ?_
          exact V_sub [0, 1, 2, 3, 4, 5, 6] rfl h
set_option maxRecDepth 20000 in
theorem b_X9_watch_0 {d : Nat} {P : Int32 → wf_Mem → Prop} (mem : wf_Mem) (x1 : Int32) (x2 : Int32)
    (h : (Ci mX9_isIn d [.long (x1 : Int32).toInt64, .long 1, .long 60] mem (fun r2 mem1 => ((r2 = 0 → P (-1000000001) mem1) ∧ (¬ r2 = 0 → (Ci mX9_isIn d [.long (x2 : Int32).toInt64, .long 0, .long 1] mem1 (fun r5 mem4 => ((¬ r5 = 0 → (Cv mX9_laysBy d [.ref 120] mem4 (fun mem7 => Vw (Ni (d + 1) P) mX9_watch 37 [(0, .ref 120), (1, .int x1), (2, .int x2), (3, .int (-1)), (4, .int 0), (5, .int 0)] [] mem7))) ∧ (r5 = 0 → P (-1000000001) mem4))))))))) :
    Vw (Ni (d + 1) P) mX9_watch 0 [(0, .ref 120), (1, .int x1), (2, .int x2)] [] mem := by
  refine V_iload_n 1 dX9_watch_0 rfl ?_
  refine V_i2l dX9_watch_1 ?_
  refine V_lconst (v := 1) dX9_watch_2 rfl ?_
  refine V_ldc2 w_579 dX9_watch_3 ?_
  refine V_cSi [.long (x1 : Int32).toInt64, .long 1, .long 60] ms_X9_isIn w_438 dX9_watch_6 wf_rok_m rfl rfl (Nat.le_of_ble_eq_true rfl) h ?_
  intro r2 mem1 h
  refine V_if_eq (tgt := 22) dX9_watch_9 rfl ⟨fun c3 => ?_, fun c3 => ?_⟩
  · have h := h.1 c3
    refine V_ldc w_442 dX9_watch_22 ?_
    exact V_iret dX9_watch_24 rfl h
  · have h := h.2 c3
    refine V_iload_n 2 dX9_watch_12 rfl ?_
    refine V_i2l dX9_watch_13 ?_
    refine V_lconst (v := 0) dX9_watch_14 rfl ?_
    refine V_lconst (v := 1) dX9_watch_15 rfl ?_
    refine V_cSi [.long (x2 : Int32).toInt64, .long 0, .long 1] ms_X9_isIn w_438 dX9_watch_16 wf_rok_m rfl rfl (Nat.le_of_ble_eq_true rfl) h ?_
    intro r5 mem4 h
    refine V_if_ne (tgt := 25) dX9_watch_19 rfl ⟨fun c6 => ?_, fun c6 => ?_⟩
    · have h := h.1 c6
      refine V_aload_n 0 dX9_watch_25 rfl ?_
      refine V_cVv [] mv_X9_laysBy w_556 dX9_watch_26 wf_rok_m sh_a120 rfl (by decide) rfl rfl (Nat.le_of_ble_eq_true rfl) h ?_
      intro mem7 h
      refine V_iconst (v := (-1)) dX9_watch_29 rfl ?_
      refine V_istore_n (lv' := [(0, .ref 120), (1, .int x1), (2, .int x2), (3, .int (-1))]) dX9_watch_30 (by decide) rfl rfl ?_
      refine V_iconst (v := 0) dX9_watch_31 rfl ?_
      refine V_istore (lv' := [(0, .ref 120), (1, .int x1), (2, .int x2), (3, .int (-1)), (4, .int 0)]) dX9_watch_32 (by decide) rfl rfl ?_
      refine V_iconst (v := 0) dX9_watch_34 rfl ?_
      refine V_istore (lv' := [(0, .ref 120), (1, .int x1), (2, .int x2), (3, .int (-1)), (4, .int 0), (5, .int 0)]) dX9_watch_35 (by decide) rfl rfl ?_
      exact h
    · have h := h.2 c6
      refine V_ldc w_442 dX9_watch_22 ?_
      exact V_iret dX9_watch_24 rfl h
set_option maxRecDepth 20000 in
theorem b_X9_watch_37 {d : Nat} {P : Int32 → wf_Mem → Prop} (mem : wf_Mem) (x1 : Int32) (x2 : Int32) (x3 : Int32) (x4 : Int32) (x5 : Int32)
    (h : (((mem 121 1) ≤ x5 → ((0 ≤ x3 → ((¬ x2 = 0 → P x4 mem) ∧ (x2 = 0 → P x3 mem))) ∧ (¬ 0 ≤ x3 → P (-1000000005) mem))) ∧ (¬ (mem 121 1) ≤ x5 → Vw (Ni (d + 1) P) mX9_watch 51 [(0, .ref 120), (1, .int x1), (2, .int x2), (3, .int x3), (4, .int x4), (5, .int x5), (6, .int 0)] [] mem))) :
    Vw (Ni (d + 1) P) mX9_watch 37 [(0, .ref 120), (1, .int x1), (2, .int x2), (3, .int x3), (4, .int x4), (5, .int x5)] [] mem := by
  refine V_iload 5 dX9_watch_37 rfl ?_
  refine V_aload_n 0 dX9_watch_39 rfl ?_
  refine V_getf (v := .ref 121) gf_X9_7 dX9_watch_40 sh_a120 rfl ?_
  refine V_iconst (v := 1) dX9_watch_43 rfl ?_
  refine V_ildL (j := 1) dX9_watch_44 sh_a121 (by decide) (by decide) ?_
  refine V_icmp_ge (tgt := 136) dX9_watch_45 rfl ⟨fun c1 => ?_, fun c1 => ?_⟩
  · have h := h.1 c1
    refine V_iload_n 3 dX9_watch_136 rfl ?_
    refine V_if_ge (tgt := 145) dX9_watch_137 rfl ⟨fun c2 => ?_, fun c2 => ?_⟩
    · have h := h.1 c2
      refine V_iload_n 2 dX9_watch_145 rfl ?_
      refine V_if_ne (tgt := 153) dX9_watch_146 rfl ⟨fun c3 => ?_, fun c3 => ?_⟩
      · have h := h.1 c3
        refine V_iload 4 dX9_watch_153 rfl ?_
        exact V_iret dX9_watch_155 rfl h
      · have h := h.2 c3
        refine V_iload_n 3 dX9_watch_149 rfl ?_
        refine V_goto (tgt := 155) dX9_watch_150 rfl ?_
        exact V_iret dX9_watch_155 rfl h
    · have h := h.2 c2
      refine V_ldc w_433 dX9_watch_140 ?_
      refine V_goto (tgt := 155) dX9_watch_142 rfl ?_
      exact V_iret dX9_watch_155 rfl h
  · have h := h.2 c1
    refine V_iconst (v := 0) dX9_watch_48 rfl ?_
    refine V_istore (lv' := [(0, .ref 120), (1, .int x1), (2, .int x2), (3, .int x3), (4, .int x4), (5, .int x5), (6, .int 0)]) dX9_watch_49 (by decide) rfl rfl ?_
    exact h
set_option maxRecDepth 20000 in
theorem b_X9_watch_51 {d : Nat} {P : Int32 → wf_Mem → Prop} (mem : wf_Mem) (x1 : Int32) (x2 : Int32) (x3 : Int32) (x4 : Int32) (x5 : Int32) (x6 : Int32)
    (h : (((mem 121 1) ≤ x6 → (Cv mX9_goesOnMany d [.ref 120, .int x1] mem (fun mem2 => (∀ x6_3 : Int32, x6_3 = (mem2 121 8) → (Cv mX9_laysBack d [.ref 120] mem2 (fun mem4 => ((x3 < 0 → Vw (Ni (d + 1) P) mX9_watch 37 [(0, .ref 120), (1, .int x1), (2, .int x2), (3, .int x5), (4, .int x6_3), (5, .int (x5 + 1))] [] mem4) ∧ (¬ x3 < 0 → ((x4 ≤ x6_3 → Vw (Ni (d + 1) P) mX9_watch 37 [(0, .ref 120), (1, .int x1), (2, .int x2), (3, .int x3), (4, .int x4), (5, .int (x5 + 1))] [] mem4) ∧ (¬ x4 ≤ x6_3 → Vw (Ni (d + 1) P) mX9_watch 37 [(0, .ref 120), (1, .int x1), (2, .int x2), (3, .int x5), (4, .int x6_3), (5, .int (x5 + 1))] [] mem4)))))))))) ∧ (¬ (mem 121 1) ≤ x6 → ((¬ x6 = x5 → (vp_in ((48 + (5 * x6)) + 4) 3088 ∧ ∀ mem8 : wf_Mem, mem8 = wf_ms mem 121 ((48 + (5 * x6)) + 4).toNatClampNeg 0 → Vw (Ni (d + 1) P) mX9_watch 51 [(0, .ref 120), (1, .int x1), (2, .int x2), (3, .int x3), (4, .int x4), (5, .int x5), (6, .int (x6 + 1))] [] mem8)) ∧ (x6 = x5 → (vp_in ((48 + (5 * x6)) + 4) 3088 ∧ ∀ mem9 : wf_Mem, mem9 = wf_ms mem 121 ((48 + (5 * x6)) + 4).toNatClampNeg 1 → Vw (Ni (d + 1) P) mX9_watch 51 [(0, .ref 120), (1, .int x1), (2, .int x2), (3, .int x3), (4, .int x4), (5, .int x5), (6, .int (x6 + 1))] [] mem9)))))) :
    Vw (Ni (d + 1) P) mX9_watch 51 [(0, .ref 120), (1, .int x1), (2, .int x2), (3, .int x3), (4, .int x4), (5, .int x5), (6, .int x6)] [] mem := by
  refine V_iload 6 dX9_watch_51 rfl ?_
  refine V_aload_n 0 dX9_watch_53 rfl ?_
  refine V_getf (v := .ref 121) gf_X9_7 dX9_watch_54 sh_a120 rfl ?_
  refine V_iconst (v := 1) dX9_watch_57 rfl ?_
  refine V_ildL (j := 1) dX9_watch_58 sh_a121 (by decide) (by decide) ?_
  refine V_icmp_ge (tgt := 94) dX9_watch_59 rfl ⟨fun c1 => ?_, fun c1 => ?_⟩
  · have h := h.1 c1
    refine V_aload_n 0 dX9_watch_94 rfl ?_
    refine V_iload_n 1 dX9_watch_95 rfl ?_
    refine V_cVv [.int x1] mv_X9_goesOnMany w_560 dX9_watch_96 wf_rok_m sh_a120 rfl (by decide) rfl rfl (Nat.le_of_ble_eq_true rfl) h ?_
    intro mem2 h
    refine V_aload_n 0 dX9_watch_99 rfl ?_
    refine V_getf (v := .ref 121) gf_X9_7 dX9_watch_100 sh_a120 rfl ?_
    refine V_bipush (v := 8) dX9_watch_103 rfl ?_
    refine V_ildL (j := 8) dX9_watch_105 sh_a121 (by decide) (by decide) ?_
    refine V_topi (fun x6_3 ex6_3 => ?_)
    have h := h x6_3 ex6_3
    refine V_istore (lv' := [(0, .ref 120), (1, .int x1), (2, .int x2), (3, .int x3), (4, .int x4), (5, .int x5), (6, .int x6_3)]) dX9_watch_106 (by decide) rfl rfl ?_
    refine V_aload_n 0 dX9_watch_108 rfl ?_
    refine V_cVv [] mv_X9_laysBack w_568 dX9_watch_109 wf_rok_m sh_a120 rfl (by decide) rfl rfl (Nat.le_of_ble_eq_true rfl) h ?_
    intro mem4 h
    refine V_iload_n 3 dX9_watch_112 rfl ?_
    refine V_if_lt (tgt := 123) dX9_watch_113 rfl ⟨fun c5 => ?_, fun c5 => ?_⟩
    · have h := h.1 c5
      refine V_iload 5 dX9_watch_123 rfl ?_
      refine V_istore_n (lv' := [(0, .ref 120), (1, .int x1), (2, .int x2), (3, .int x5), (4, .int x4), (5, .int x5), (6, .int x6_3)]) dX9_watch_125 (by decide) rfl rfl ?_
      refine V_iload 6 dX9_watch_126 rfl ?_
      refine V_istore (lv' := [(0, .ref 120), (1, .int x1), (2, .int x2), (3, .int x5), (4, .int x6_3), (5, .int x5), (6, .int x6_3)]) dX9_watch_128 (by decide) rfl rfl ?_
      refine V_iinc (v := (x5 + 1)) (lv' := [(0, .ref 120), (1, .int x1), (2, .int x2), (3, .int x5), (4, .int x6_3), (5, .int (x5 + 1)), (6, .int x6_3)]) 5 dX9_watch_130 rfl rfl (by decide) rfl rfl ?_
      refine V_goto (tgt := 37) dX9_watch_133 rfl ?_
      exact V_sub [0, 1, 2, 3, 4, 5] rfl h
    · have h := h.2 c5
      refine V_iload 6 dX9_watch_116 rfl ?_
      refine V_iload 4 dX9_watch_118 rfl ?_
      refine V_icmp_ge (tgt := 130) dX9_watch_120 rfl ⟨fun c6 => ?_, fun c6 => ?_⟩
      · have h := h.1 c6
        refine V_iinc (v := (x5 + 1)) (lv' := [(0, .ref 120), (1, .int x1), (2, .int x2), (3, .int x3), (4, .int x4), (5, .int (x5 + 1)), (6, .int x6_3)]) 5 dX9_watch_130 rfl rfl (by decide) rfl rfl ?_
        refine V_goto (tgt := 37) dX9_watch_133 rfl ?_
        exact V_sub [0, 1, 2, 3, 4, 5] rfl h
      · have h := h.2 c6
        refine V_iload 5 dX9_watch_123 rfl ?_
        refine V_istore_n (lv' := [(0, .ref 120), (1, .int x1), (2, .int x2), (3, .int x5), (4, .int x4), (5, .int x5), (6, .int x6_3)]) dX9_watch_125 (by decide) rfl rfl ?_
        refine V_iload 6 dX9_watch_126 rfl ?_
        refine V_istore (lv' := [(0, .ref 120), (1, .int x1), (2, .int x2), (3, .int x5), (4, .int x6_3), (5, .int x5), (6, .int x6_3)]) dX9_watch_128 (by decide) rfl rfl ?_
        refine V_iinc (v := (x5 + 1)) (lv' := [(0, .ref 120), (1, .int x1), (2, .int x2), (3, .int x5), (4, .int x6_3), (5, .int (x5 + 1)), (6, .int x6_3)]) 5 dX9_watch_130 rfl rfl (by decide) rfl rfl ?_
        refine V_goto (tgt := 37) dX9_watch_133 rfl ?_
        exact V_sub [0, 1, 2, 3, 4, 5] rfl h
  · have h := h.2 c1
    refine V_aload_n 0 dX9_watch_62 rfl ?_
    refine V_getf (v := .ref 121) gf_X9_7 dX9_watch_63 sh_a120 rfl ?_
    refine V_bipush (v := 48) dX9_watch_66 rfl ?_
    refine V_iconst (v := 5) dX9_watch_68 rfl ?_
    refine V_iload 6 dX9_watch_69 rfl ?_
    refine V_imul dX9_watch_71 ?_
    refine V_iadd dX9_watch_72 ?_
    refine V_iconst (v := 4) dX9_watch_73 rfl ?_
    refine V_iadd dX9_watch_74 ?_
    refine V_iload 6 dX9_watch_75 rfl ?_
    refine V_iload 5 dX9_watch_77 rfl ?_
    refine V_icmp_ne (tgt := 86) dX9_watch_79 rfl ⟨fun c7 => ?_, fun c7 => ?_⟩
    · have h := h.1 c7
      refine V_iconst (v := 0) dX9_watch_86 rfl ?_
      refine V_iast dX9_watch_87 sh_a121 ⟨h.1, ?_⟩
      refine V_topm (fun mem8 emem8 => ?_)
      have h := h.2 mem8 emem8
      refine V_iinc (v := (x6 + 1)) (lv' := [(0, .ref 120), (1, .int x1), (2, .int x2), (3, .int x3), (4, .int x4), (5, .int x5), (6, .int (x6 + 1))]) 6 dX9_watch_88 rfl rfl (by decide) rfl rfl ?_
      refine V_goto (tgt := 51) dX9_watch_91 rfl ?_
      exact h
    · have h := h.2 c7
      refine V_iconst (v := 1) dX9_watch_82 rfl ?_
      refine V_goto (tgt := 87) dX9_watch_83 rfl ?_
      refine V_iast dX9_watch_87 sh_a121 ⟨h.1, ?_⟩
      refine V_topm (fun mem9 emem9 => ?_)
      have h := h.2 mem9 emem9
      refine V_iinc (v := (x6 + 1)) (lv' := [(0, .ref 120), (1, .int x1), (2, .int x2), (3, .int x3), (4, .int x4), (5, .int x5), (6, .int (x6 + 1))]) 6 dX9_watch_88 rfl rfl (by decide) rfl rfl ?_
      refine V_goto (tgt := 51) dX9_watch_91 rfl ?_
      exact h
set_option maxRecDepth 20000 in
theorem b_X9_place_0 {d : Nat} {P : Int32 → wf_Mem → Prop} (mem : wf_Mem) (x1 : Int32) (x2 : Int32)
    (h : (Ci mX9_isWatcher d [.ref 120, .int x1] mem (fun r2 mem1 => ((r2 = 0 → P (-1000000001) mem1) ∧ (¬ r2 = 0 → (Ci mX9_isIn d [.long (x2 : Int32).toInt64, .long 1, .long 60] mem1 (fun r5 mem4 => ((¬ r5 = 0 → (Cv mX9_laysBy d [.ref 120] mem4 (fun mem7 => Vw (Ni (d + 1) P) mX9_place 35 [(0, .ref 120), (1, .int x1), (2, .int x2), (3, .int (-1)), (4, .int 0), (5, .int 0)] [] mem7))) ∧ (r5 = 0 → P (-1000000001) mem4))))))))) :
    Vw (Ni (d + 1) P) mX9_place 0 [(0, .ref 120), (1, .int x1), (2, .int x2)] [] mem := by
  refine V_aload_n 0 dX9_place_0 rfl ?_
  refine V_iload_n 1 dX9_place_1 rfl ?_
  refine V_cVi [.int x1] mv_X9_isWatcher w_506 dX9_place_2 wf_rok_m sh_a120 rfl (by decide) rfl rfl (Nat.le_of_ble_eq_true rfl) h ?_
  intro r2 mem1 h
  refine V_if_eq (tgt := 20) dX9_place_5 rfl ⟨fun c3 => ?_, fun c3 => ?_⟩
  · have h := h.1 c3
    refine V_ldc w_442 dX9_place_20 ?_
    exact V_iret dX9_place_22 rfl h
  · have h := h.2 c3
    refine V_iload_n 2 dX9_place_8 rfl ?_
    refine V_i2l dX9_place_9 ?_
    refine V_lconst (v := 1) dX9_place_10 rfl ?_
    refine V_ldc2 w_579 dX9_place_11 ?_
    refine V_cSi [.long (x2 : Int32).toInt64, .long 1, .long 60] ms_X9_isIn w_438 dX9_place_14 wf_rok_m rfl rfl (Nat.le_of_ble_eq_true rfl) h ?_
    intro r5 mem4 h
    refine V_if_ne (tgt := 23) dX9_place_17 rfl ⟨fun c6 => ?_, fun c6 => ?_⟩
    · have h := h.1 c6
      refine V_aload_n 0 dX9_place_23 rfl ?_
      refine V_cVv [] mv_X9_laysBy w_556 dX9_place_24 wf_rok_m sh_a120 rfl (by decide) rfl rfl (Nat.le_of_ble_eq_true rfl) h ?_
      intro mem7 h
      refine V_iconst (v := (-1)) dX9_place_27 rfl ?_
      refine V_istore_n (lv' := [(0, .ref 120), (1, .int x1), (2, .int x2), (3, .int (-1))]) dX9_place_28 (by decide) rfl rfl ?_
      refine V_iconst (v := 0) dX9_place_29 rfl ?_
      refine V_istore (lv' := [(0, .ref 120), (1, .int x1), (2, .int x2), (3, .int (-1)), (4, .int 0)]) dX9_place_30 (by decide) rfl rfl ?_
      refine V_iconst (v := 0) dX9_place_32 rfl ?_
      refine V_istore (lv' := [(0, .ref 120), (1, .int x1), (2, .int x2), (3, .int (-1)), (4, .int 0), (5, .int 0)]) dX9_place_33 (by decide) rfl rfl ?_
      exact h
    · have h := h.2 c6
      refine V_ldc w_442 dX9_place_20 ?_
      exact V_iret dX9_place_22 rfl h
set_option maxRecDepth 20000 in
theorem b_X9_place_35 {d : Nat} {P : Int32 → wf_Mem → Prop} (mem : wf_Mem) (x1 : Int32) (x2 : Int32) (x3 : Int32) (x4 : Int32) (x5 : Int32)
    (h : (((mem 121 0) ≤ x5 → (Ci mX9_orNone d [.int x3] mem (fun r3 mem2 => P r3 mem2))) ∧ (¬ (mem 121 0) ≤ x5 → (vp_in ((48 + (5 * x1)) + 1) 3088 ∧ ∀ mem4 : wf_Mem, mem4 = wf_ms mem 121 ((48 + (5 * x1)) + 1).toNatClampNeg x5 → (vp_in ((48 + (5 * x1)) + 4) 3088 ∧ ∀ mem5 : wf_Mem, mem5 = wf_ms mem4 121 ((48 + (5 * x1)) + 4).toNatClampNeg 1 → (Cv mX9_goesOnMany d [.ref 120, .int x2] mem5 (fun mem6 => (∀ x6_7 : Int32, x6_7 = (mem6 121 8) → (Cv mX9_laysBack d [.ref 120] mem6 (fun mem8 => ((x3 < 0 → Vw (Ni (d + 1) P) mX9_place 35 [(0, .ref 120), (1, .int x1), (2, .int x2), (3, .int x5), (4, .int x6_7), (5, .int (x5 + 1))] [] mem8) ∧ (¬ x3 < 0 → ((x4 ≤ x6_7 → Vw (Ni (d + 1) P) mX9_place 35 [(0, .ref 120), (1, .int x1), (2, .int x2), (3, .int x3), (4, .int x4), (5, .int (x5 + 1))] [] mem8) ∧ (¬ x4 ≤ x6_7 → Vw (Ni (d + 1) P) mX9_place 35 [(0, .ref 120), (1, .int x1), (2, .int x2), (3, .int x5), (4, .int x6_7), (5, .int (x5 + 1))] [] mem8)))))))))))))) :
    Vw (Ni (d + 1) P) mX9_place 35 [(0, .ref 120), (1, .int x1), (2, .int x2), (3, .int x3), (4, .int x4), (5, .int x5)] [] mem := by
  refine V_iload 5 dX9_place_35 rfl ?_
  refine V_aload_n 0 dX9_place_37 rfl ?_
  refine V_getf (v := .ref 121) gf_X9_7 dX9_place_38 sh_a120 rfl ?_
  refine V_iconst (v := 0) dX9_place_41 rfl ?_
  refine V_ildL (j := 0) dX9_place_42 sh_a121 (by decide) (by decide) ?_
  refine V_icmp_ge (tgt := 117) dX9_place_43 rfl ⟨fun c1 => ?_, fun c1 => ?_⟩
  · have h := h.1 c1
    refine V_iload_n 3 dX9_place_117 rfl ?_
    refine V_cSi [.int x3] ms_X9_orNone w_550 dX9_place_118 wf_rok_m rfl rfl (Nat.le_of_ble_eq_true rfl) h ?_
    intro r3 mem2 h
    exact V_iret dX9_place_121 rfl h
  · have h := h.2 c1
    refine V_aload_n 0 dX9_place_46 rfl ?_
    refine V_getf (v := .ref 121) gf_X9_7 dX9_place_47 sh_a120 rfl ?_
    refine V_bipush (v := 48) dX9_place_50 rfl ?_
    refine V_iconst (v := 5) dX9_place_52 rfl ?_
    refine V_iload_n 1 dX9_place_53 rfl ?_
    refine V_imul dX9_place_54 ?_
    refine V_iadd dX9_place_55 ?_
    refine V_iconst (v := 1) dX9_place_56 rfl ?_
    refine V_iadd dX9_place_57 ?_
    refine V_iload 5 dX9_place_58 rfl ?_
    refine V_iast dX9_place_60 sh_a121 ⟨h.1, ?_⟩
    refine V_topm (fun mem4 emem4 => ?_)
    have h := h.2 mem4 emem4
    refine V_aload_n 0 dX9_place_61 rfl ?_
    refine V_getf (v := .ref 121) gf_X9_7 dX9_place_62 sh_a120 rfl ?_
    refine V_bipush (v := 48) dX9_place_65 rfl ?_
    refine V_iconst (v := 5) dX9_place_67 rfl ?_
    refine V_iload_n 1 dX9_place_68 rfl ?_
    refine V_imul dX9_place_69 ?_
    refine V_iadd dX9_place_70 ?_
    refine V_iconst (v := 4) dX9_place_71 rfl ?_
    refine V_iadd dX9_place_72 ?_
    refine V_iconst (v := 1) dX9_place_73 rfl ?_
    refine V_iast dX9_place_74 sh_a121 ⟨h.1, ?_⟩
    refine V_topm (fun mem5 emem5 => ?_)
    have h := h.2 mem5 emem5
    refine V_aload_n 0 dX9_place_75 rfl ?_
    refine V_iload_n 2 dX9_place_76 rfl ?_
    refine V_cVv [.int x2] mv_X9_goesOnMany w_560 dX9_place_77 wf_rok_m sh_a120 rfl (by decide) rfl rfl (Nat.le_of_ble_eq_true rfl) h ?_
    intro mem6 h
    refine V_aload_n 0 dX9_place_80 rfl ?_
    refine V_getf (v := .ref 121) gf_X9_7 dX9_place_81 sh_a120 rfl ?_
    refine V_bipush (v := 8) dX9_place_84 rfl ?_
    refine V_ildL (j := 8) dX9_place_86 sh_a121 (by decide) (by decide) ?_
    refine V_topi (fun x6_7 ex6_7 => ?_)
    have h := h x6_7 ex6_7
    refine V_istore (lv' := [(0, .ref 120), (1, .int x1), (2, .int x2), (3, .int x3), (4, .int x4), (5, .int x5), (6, .int x6_7)]) dX9_place_87 (by decide) rfl rfl ?_
    refine V_aload_n 0 dX9_place_89 rfl ?_
    refine V_cVv [] mv_X9_laysBack w_568 dX9_place_90 wf_rok_m sh_a120 rfl (by decide) rfl rfl (Nat.le_of_ble_eq_true rfl) h ?_
    intro mem8 h
    refine V_iload_n 3 dX9_place_93 rfl ?_
    refine V_if_lt (tgt := 104) dX9_place_94 rfl ⟨fun c9 => ?_, fun c9 => ?_⟩
    · have h := h.1 c9
      refine V_iload 5 dX9_place_104 rfl ?_
      refine V_istore_n (lv' := [(0, .ref 120), (1, .int x1), (2, .int x2), (3, .int x5), (4, .int x4), (5, .int x5), (6, .int x6_7)]) dX9_place_106 (by decide) rfl rfl ?_
      refine V_iload 6 dX9_place_107 rfl ?_
      refine V_istore (lv' := [(0, .ref 120), (1, .int x1), (2, .int x2), (3, .int x5), (4, .int x6_7), (5, .int x5), (6, .int x6_7)]) dX9_place_109 (by decide) rfl rfl ?_
      refine V_iinc (v := (x5 + 1)) (lv' := [(0, .ref 120), (1, .int x1), (2, .int x2), (3, .int x5), (4, .int x6_7), (5, .int (x5 + 1)), (6, .int x6_7)]) 5 dX9_place_111 rfl rfl (by decide) rfl rfl ?_
      refine V_goto (tgt := 35) dX9_place_114 rfl ?_
      exact V_sub [0, 1, 2, 3, 4, 5] rfl h
    · have h := h.2 c9
      refine V_iload 6 dX9_place_97 rfl ?_
      refine V_iload 4 dX9_place_99 rfl ?_
      refine V_icmp_ge (tgt := 111) dX9_place_101 rfl ⟨fun c10 => ?_, fun c10 => ?_⟩
      · have h := h.1 c10
        refine V_iinc (v := (x5 + 1)) (lv' := [(0, .ref 120), (1, .int x1), (2, .int x2), (3, .int x3), (4, .int x4), (5, .int (x5 + 1)), (6, .int x6_7)]) 5 dX9_place_111 rfl rfl (by decide) rfl rfl ?_
        refine V_goto (tgt := 35) dX9_place_114 rfl ?_
        exact V_sub [0, 1, 2, 3, 4, 5] rfl h
      · have h := h.2 c10
        refine V_iload 5 dX9_place_104 rfl ?_
        refine V_istore_n (lv' := [(0, .ref 120), (1, .int x1), (2, .int x2), (3, .int x5), (4, .int x4), (5, .int x5), (6, .int x6_7)]) dX9_place_106 (by decide) rfl rfl ?_
        refine V_iload 6 dX9_place_107 rfl ?_
        refine V_istore (lv' := [(0, .ref 120), (1, .int x1), (2, .int x2), (3, .int x5), (4, .int x6_7), (5, .int x5), (6, .int x6_7)]) dX9_place_109 (by decide) rfl rfl ?_
        refine V_iinc (v := (x5 + 1)) (lv' := [(0, .ref 120), (1, .int x1), (2, .int x2), (3, .int x5), (4, .int x6_7), (5, .int (x5 + 1)), (6, .int x6_7)]) 5 dX9_place_111 rfl rfl (by decide) rfl rfl ?_
        refine V_goto (tgt := 35) dX9_place_114 rfl ?_
        exact V_sub [0, 1, 2, 3, 4, 5] rfl h
set_option maxRecDepth 20000 in
theorem b_X9_feed_0 {d : Nat} {P : Int32 → wf_Mem → Prop} (mem : wf_Mem) (x1 : Int32) (x2 : Int32) (x3 : Int32)
    (h : ((((mem 120 16) + 12) ≤ 96 → Vw (Ni d P) mX9_feed 18 [(0, .ref 120), (1, .int x1), (2, .int x2), (3, .int x3), (4, .int 0)] [] mem) ∧ (¬ ((mem 120 16) + 12) ≤ 96 → P (-1000000003) mem))) :
    Vw (Ni d P) mX9_feed 0 [(0, .ref 120), (1, .int x1), (2, .int x2), (3, .int x3)] [] mem := by
  refine V_aload_n 0 dX9_feed_0 rfl ?_
  refine V_getf (v := .int (mem 120 16)) gf_X9_209 dX9_feed_1 sh_a120 rfl ?_
  refine V_bipush (v := 12) dX9_feed_4 rfl ?_
  refine V_iadd dX9_feed_6 ?_
  refine V_bipush (v := 96) dX9_feed_7 rfl ?_
  refine V_icmp_le (tgt := 15) dX9_feed_9 rfl ⟨fun c1 => ?_, fun c1 => ?_⟩
  · have h := h.1 c1
    refine V_iconst (v := 0) dX9_feed_15 rfl ?_
    refine V_istore (lv' := [(0, .ref 120), (1, .int x1), (2, .int x2), (3, .int x3), (4, .int 0)]) dX9_feed_16 (by decide) rfl rfl ?_
    exact h
  · have h := h.2 c1
    refine V_ldc w_441 dX9_feed_12 ?_
    exact V_iret dX9_feed_14 rfl h
set_option maxRecDepth 20000 in
theorem b_X9_feed_18 {d : Nat} {P : Int32 → wf_Mem → Prop} (mem : wf_Mem) (x1 : Int32) (x2 : Int32) (x3 : Int32) (x4 : Int32)
    (h : ((12 ≤ x4 → P (mem 120 16) mem) ∧ (¬ 12 ≤ x4 → ((4 ≤ x4 → ((8 ≤ x4 → Vw (Ni d P) mX9_feed 47 [(0, .ref 120), (1, .int x1), (2, .int x2), (3, .int x3), (4, .int x4)] [.int x3] mem) ∧ (¬ 8 ≤ x4 → Vw (Ni d P) mX9_feed 47 [(0, .ref 120), (1, .int x1), (2, .int x2), (3, .int x3), (4, .int x4)] [.int x2] mem))) ∧ (¬ 4 ≤ x4 → Vw (Ni d P) mX9_feed 47 [(0, .ref 120), (1, .int x1), (2, .int x2), (3, .int x3), (4, .int x4)] [.int x1] mem))))) :
    Vw (Ni d P) mX9_feed 18 [(0, .ref 120), (1, .int x1), (2, .int x2), (3, .int x3), (4, .int x4)] [] mem := by
  refine V_iload 4 dX9_feed_18 rfl ?_
  refine V_bipush (v := 12) dX9_feed_20 rfl ?_
  refine V_icmp_ge (tgt := 91) dX9_feed_22 rfl ⟨fun c1 => ?_, fun c1 => ?_⟩
  · have h := h.1 c1
    refine V_aload_n 0 dX9_feed_91 rfl ?_
    refine V_getf (v := .int (mem 120 16)) gf_X9_209 dX9_feed_92 sh_a120 rfl ?_
    exact V_iret dX9_feed_95 rfl h
  · have h := h.2 c1
    refine V_iload 4 dX9_feed_25 rfl ?_
    refine V_iconst (v := 4) dX9_feed_27 rfl ?_
    refine V_icmp_ge (tgt := 35) dX9_feed_28 rfl ⟨fun c2 => ?_, fun c2 => ?_⟩
    · have h := h.1 c2
      refine V_iload 4 dX9_feed_35 rfl ?_
      refine V_bipush (v := 8) dX9_feed_37 rfl ?_
      refine V_icmp_ge (tgt := 46) dX9_feed_39 rfl ⟨fun c3 => ?_, fun c3 => ?_⟩
      · have h := h.1 c3
        refine V_iload_n 3 dX9_feed_46 rfl ?_
        exact h
      · have h := h.2 c3
        refine V_iload_n 2 dX9_feed_42 rfl ?_
        refine V_goto (tgt := 47) dX9_feed_43 rfl ?_
        exact h
    · have h := h.2 c2
      refine V_iload_n 1 dX9_feed_31 rfl ?_
      refine V_goto (tgt := 47) dX9_feed_32 rfl ?_
      exact h
set_option maxRecDepth 20000 in
theorem b_X9_feed_47 {d : Nat} {P : Int32 → wf_Mem → Prop} (mem : wf_Mem) (x1 : Int32) (x2 : Int32) (x3 : Int32) (x4 : Int32) (y0 : Int32)
    (h : (vp_in (mem 120 16) 96 ∧ ∀ mem1 : wf_Mem, mem1 = wf_ms mem 133 (mem 120 16).toNatClampNeg ((y0 >>> ((24 - (8 * (x4 - x4 / 4 * 4))) &&& 31)) &&& 255) → (∀ mem2 : wf_Mem, mem2 = wf_ms mem1 120 16 ((mem1 120 16) + 1) → Vw (Ni d P) mX9_feed 18 [(0, .ref 120), (1, .int x1), (2, .int x2), (3, .int x3), (4, .int (x4 + 1))] [] mem2))) :
    Vw (Ni d P) mX9_feed 47 [(0, .ref 120), (1, .int x1), (2, .int x2), (3, .int x3), (4, .int x4)] [.int y0] mem := by
  refine V_istore (lv' := [(0, .ref 120), (1, .int x1), (2, .int x2), (3, .int x3), (4, .int x4), (5, .int y0)]) dX9_feed_47 (by decide) rfl rfl ?_
  refine V_aload_n 0 dX9_feed_49 rfl ?_
  refine V_getf (v := .ref 133) gf_X9_46 dX9_feed_50 sh_a120 rfl ?_
  refine V_aload_n 0 dX9_feed_53 rfl ?_
  refine V_getf (v := .int (mem 120 16)) gf_X9_209 dX9_feed_54 sh_a120 rfl ?_
  refine V_iload 5 dX9_feed_57 rfl ?_
  refine V_bipush (v := 24) dX9_feed_59 rfl ?_
  refine V_bipush (v := 8) dX9_feed_61 rfl ?_
  refine V_iload 4 dX9_feed_63 rfl ?_
  refine V_iconst (v := 4) dX9_feed_65 rfl ?_
  refine V_irem dX9_feed_66 ⟨by decide, ?_⟩
  refine V_imul dX9_feed_67 ?_
  refine V_isub dX9_feed_68 ?_
  refine V_ishr dX9_feed_69 ?_
  refine V_sipush (v := 255) dX9_feed_70 rfl ?_
  refine V_iand dX9_feed_73 ?_
  refine V_iast dX9_feed_74 sh_a133 ⟨h.1, ?_⟩
  refine V_topm (fun mem1 emem1 => ?_)
  have h := h.2 mem1 emem1
  refine V_aload_n 0 dX9_feed_75 rfl ?_
  refine V_dup dX9_feed_76 rfl ?_
  refine V_getf (v := .int (mem1 120 16)) gf_X9_209 dX9_feed_77 sh_a120 rfl ?_
  refine V_iconst (v := 1) dX9_feed_80 rfl ?_
  refine V_iadd dX9_feed_81 ?_
  refine V_putf pf_X9_209 dX9_feed_82 sh_a120 rfl rfl ?_
  refine V_topm (fun mem2 emem2 => ?_)
  have h := h mem2 emem2
  refine V_iinc (v := (x4 + 1)) (lv' := [(0, .ref 120), (1, .int x1), (2, .int x2), (3, .int x3), (4, .int (x4 + 1)), (5, .int y0)]) 4 dX9_feed_85 rfl rfl (by decide) rfl rfl ?_
  refine V_goto (tgt := 18) dX9_feed_88 rfl ?_
  exact V_sub [0, 1, 2, 3, 4] rfl h
set_option maxRecDepth 20000 in
theorem b_X9_trim_0 {d : Nat} {P : Int32 → wf_Mem → Prop} (mem : wf_Mem) (x1 : Int32)
    (h : (Ci mX9_isIn d [.long (x1 : Int32).toInt64, .long 0, .long ((mem 120 16) : Int32).toInt64] mem (fun r2 mem1 => ((¬ r2 = 0 → (∀ mem4 : wf_Mem, mem4 = wf_ms mem1 120 16 x1 → P x1 mem4)) ∧ (r2 = 0 → P (-1000000001) mem1))))) :
    Vw (Ni (d + 1) P) mX9_trim 0 [(0, .ref 120), (1, .int x1)] [] mem := by
  refine V_iload_n 1 dX9_trim_0 rfl ?_
  refine V_i2l dX9_trim_1 ?_
  refine V_lconst (v := 0) dX9_trim_2 rfl ?_
  refine V_aload_n 0 dX9_trim_3 rfl ?_
  refine V_getf (v := .int (mem 120 16)) gf_X9_209 dX9_trim_4 sh_a120 rfl ?_
  refine V_i2l dX9_trim_7 ?_
  refine V_cSi [.long (x1 : Int32).toInt64, .long 0, .long ((mem 120 16) : Int32).toInt64] ms_X9_isIn w_438 dX9_trim_8 wf_rok_m rfl rfl (Nat.le_of_ble_eq_true rfl) h ?_
  intro r2 mem1 h
  refine V_if_ne (tgt := 17) dX9_trim_11 rfl ⟨fun c3 => ?_, fun c3 => ?_⟩
  · have h := h.1 c3
    refine V_aload_n 0 dX9_trim_17 rfl ?_
    refine V_iload_n 1 dX9_trim_18 rfl ?_
    refine V_putf pf_X9_209 dX9_trim_19 sh_a120 rfl rfl ?_
    refine V_topm (fun mem4 emem4 => ?_)
    have h := h mem4 emem4
    refine V_iload_n 1 dX9_trim_22 rfl ?_
    exact V_iret dX9_trim_23 rfl h
  · have h := h.2 c3
    refine V_ldc w_442 dX9_trim_14 ?_
    exact V_iret dX9_trim_16 rfl h
set_option maxRecDepth 20000 in
theorem b_X9_isLetter_0 {d : Nat} {P : Int32 → wf_Mem → Prop} (mem : wf_Mem) (x1 : Int32)
    (h : (((mem 120 16) ≤ x1 → P 0 mem) ∧ (¬ (mem 120 16) ≤ x1 → (vp_in x1 96 ∧ (Ci mX9_isIn d [.long ((mem 133 x1.toNatClampNeg) : Int32).toInt64, .long 97, .long 122] mem (fun r3 mem2 => ((r3 = 0 → P 0 mem2) ∧ (¬ r3 = 0 → P 1 mem2)))))))) :
    Vw (Ni (d + 1) P) mX9_isLetter 0 [(0, .ref 120), (1, .int x1)] [] mem := by
  refine V_iload_n 1 dX9_isLetter_0 rfl ?_
  refine V_aload_n 0 dX9_isLetter_1 rfl ?_
  refine V_getf (v := .int (mem 120 16)) gf_X9_209 dX9_isLetter_2 sh_a120 rfl ?_
  refine V_icmp_ge (tgt := 31) dX9_isLetter_5 rfl ⟨fun c1 => ?_, fun c1 => ?_⟩
  · have h := h.1 c1
    refine V_iconst (v := 0) dX9_isLetter_31 rfl ?_
    exact V_zret dX9_isLetter_32 rfl rfl h
  · have h := h.2 c1
    refine V_aload_n 0 dX9_isLetter_8 rfl ?_
    refine V_getf (v := .ref 133) gf_X9_46 dX9_isLetter_9 sh_a120 rfl ?_
    refine V_iload_n 1 dX9_isLetter_12 rfl ?_
    refine V_iald dX9_isLetter_13 sh_a133 ⟨h.1, ?_⟩
    have h := h.2
    refine V_i2l dX9_isLetter_14 ?_
    refine V_ldc2 w_582 dX9_isLetter_15 ?_
    refine V_ldc2 w_583 dX9_isLetter_18 ?_
    refine V_cSi [.long ((mem 133 x1.toNatClampNeg) : Int32).toInt64, .long 97, .long 122] ms_X9_isIn w_438 dX9_isLetter_21 wf_rok_m rfl rfl (Nat.le_of_ble_eq_true rfl) h ?_
    intro r3 mem2 h
    refine V_if_eq (tgt := 31) dX9_isLetter_24 rfl ⟨fun c4 => ?_, fun c4 => ?_⟩
    · have h := h.1 c4
      refine V_iconst (v := 0) dX9_isLetter_31 rfl ?_
      exact V_zret dX9_isLetter_32 rfl rfl h
    · have h := h.2 c4
      refine V_iconst (v := 1) dX9_isLetter_27 rfl ?_
      refine V_goto (tgt := 32) dX9_isLetter_28 rfl ?_
      exact V_zret dX9_isLetter_32 rfl rfl h
set_option maxRecDepth 20000 in
theorem b_X9_isDigit_0 {d : Nat} {P : Int32 → wf_Mem → Prop} (mem : wf_Mem) (x1 : Int32)
    (h : (((mem 120 16) ≤ x1 → P 0 mem) ∧ (¬ (mem 120 16) ≤ x1 → (vp_in x1 96 ∧ (Ci mX9_isIn d [.long ((mem 133 x1.toNatClampNeg) : Int32).toInt64, .long 48, .long 57] mem (fun r3 mem2 => ((r3 = 0 → P 0 mem2) ∧ (¬ r3 = 0 → P 1 mem2)))))))) :
    Vw (Ni (d + 1) P) mX9_isDigit 0 [(0, .ref 120), (1, .int x1)] [] mem := by
  refine V_iload_n 1 dX9_isDigit_0 rfl ?_
  refine V_aload_n 0 dX9_isDigit_1 rfl ?_
  refine V_getf (v := .int (mem 120 16)) gf_X9_209 dX9_isDigit_2 sh_a120 rfl ?_
  refine V_icmp_ge (tgt := 31) dX9_isDigit_5 rfl ⟨fun c1 => ?_, fun c1 => ?_⟩
  · have h := h.1 c1
    refine V_iconst (v := 0) dX9_isDigit_31 rfl ?_
    exact V_zret dX9_isDigit_32 rfl rfl h
  · have h := h.2 c1
    refine V_aload_n 0 dX9_isDigit_8 rfl ?_
    refine V_getf (v := .ref 133) gf_X9_46 dX9_isDigit_9 sh_a120 rfl ?_
    refine V_iload_n 1 dX9_isDigit_12 rfl ?_
    refine V_iald dX9_isDigit_13 sh_a133 ⟨h.1, ?_⟩
    have h := h.2
    refine V_i2l dX9_isDigit_14 ?_
    refine V_ldc2 w_584 dX9_isDigit_15 ?_
    refine V_ldc2 w_585 dX9_isDigit_18 ?_
    refine V_cSi [.long ((mem 133 x1.toNatClampNeg) : Int32).toInt64, .long 48, .long 57] ms_X9_isIn w_438 dX9_isDigit_21 wf_rok_m rfl rfl (Nat.le_of_ble_eq_true rfl) h ?_
    intro r3 mem2 h
    refine V_if_eq (tgt := 31) dX9_isDigit_24 rfl ⟨fun c4 => ?_, fun c4 => ?_⟩
    · have h := h.1 c4
      refine V_iconst (v := 0) dX9_isDigit_31 rfl ?_
      exact V_zret dX9_isDigit_32 rfl rfl h
    · have h := h.2 c4
      refine V_iconst (v := 1) dX9_isDigit_27 rfl ?_
      refine V_goto (tgt := 32) dX9_isDigit_28 rfl ?_
      exact V_zret dX9_isDigit_32 rfl rfl h
set_option maxRecDepth 20000 in
theorem b_X9_nextToken_0 {d : Nat} {P : wf_Mem → Prop} (mem : wf_Mem) 
    (h : (((mem 120 18) ≤ 0 → (∀ x2_2 : Int32, x2_2 = (mem 120 18) → Vw (Nv (d + 1) P) mX9_nextToken 34 [(0, .ref 120), (1, .int 0), (2, .int x2_2)] [] mem)) ∧ (¬ (mem 120 18) ≤ 0 → (((mem 120 19) = 1 → (∀ x2_4 : Int32, x2_4 = (mem 120 18) → Vw (Nv (d + 1) P) mX9_nextToken 34 [(0, .ref 120), (1, .int 1), (2, .int x2_4)] [] mem)) ∧ (¬ (mem 120 19) = 1 → ((¬ (mem 120 19) = 2 → (∀ x2_6 : Int32, x2_6 = (mem 120 18) → Vw (Nv (d + 1) P) mX9_nextToken 34 [(0, .ref 120), (1, .int 0), (2, .int x2_6)] [] mem)) ∧ ((mem 120 19) = 2 → (∀ x2_7 : Int32, x2_7 = (mem 120 18) → Vw (Nv (d + 1) P) mX9_nextToken 34 [(0, .ref 120), (1, .int 1), (2, .int x2_7)] [] mem)))))))) :
    Vw (Nv (d + 1) P) mX9_nextToken 0 [(0, .ref 120)] [] mem := by
  refine V_aload_n 0 dX9_nextToken_0 rfl ?_
  refine V_getf (v := .int (mem 120 18)) gf_X9_220 dX9_nextToken_1 sh_a120 rfl ?_
  refine V_if_le (tgt := 27) dX9_nextToken_4 rfl ⟨fun c1 => ?_, fun c1 => ?_⟩
  · have h := h.1 c1
    refine V_iconst (v := 0) dX9_nextToken_27 rfl ?_
    refine V_istore_n (lv' := [(0, .ref 120), (1, .int 0)]) dX9_nextToken_28 (by decide) rfl rfl ?_
    refine V_aload_n 0 dX9_nextToken_29 rfl ?_
    refine V_getf (v := .int (mem 120 18)) gf_X9_220 dX9_nextToken_30 sh_a120 rfl ?_
    refine V_topi (fun x2_2 ex2_2 => ?_)
    have h := h x2_2 ex2_2
    refine V_istore_n (lv' := [(0, .ref 120), (1, .int 0), (2, .int x2_2)]) dX9_nextToken_33 (by decide) rfl rfl ?_
    exact h
  · have h := h.2 c1
    refine V_aload_n 0 dX9_nextToken_7 rfl ?_
    refine V_getf (v := .int (mem 120 19)) gf_X9_223 dX9_nextToken_8 sh_a120 rfl ?_
    refine V_iconst (v := 1) dX9_nextToken_11 rfl ?_
    refine V_icmp_eq (tgt := 23) dX9_nextToken_12 rfl ⟨fun c3 => ?_, fun c3 => ?_⟩
    · have h := h.1 c3
      refine V_iconst (v := 1) dX9_nextToken_23 rfl ?_
      refine V_goto (tgt := 28) dX9_nextToken_24 rfl ?_
      refine V_istore_n (lv' := [(0, .ref 120), (1, .int 1)]) dX9_nextToken_28 (by decide) rfl rfl ?_
      refine V_aload_n 0 dX9_nextToken_29 rfl ?_
      refine V_getf (v := .int (mem 120 18)) gf_X9_220 dX9_nextToken_30 sh_a120 rfl ?_
      refine V_topi (fun x2_4 ex2_4 => ?_)
      have h := h x2_4 ex2_4
      refine V_istore_n (lv' := [(0, .ref 120), (1, .int 1), (2, .int x2_4)]) dX9_nextToken_33 (by decide) rfl rfl ?_
      exact h
    · have h := h.2 c3
      refine V_aload_n 0 dX9_nextToken_15 rfl ?_
      refine V_getf (v := .int (mem 120 19)) gf_X9_223 dX9_nextToken_16 sh_a120 rfl ?_
      refine V_iconst (v := 2) dX9_nextToken_19 rfl ?_
      refine V_icmp_ne (tgt := 27) dX9_nextToken_20 rfl ⟨fun c5 => ?_, fun c5 => ?_⟩
      · have h := h.1 c5
        refine V_iconst (v := 0) dX9_nextToken_27 rfl ?_
        refine V_istore_n (lv' := [(0, .ref 120), (1, .int 0)]) dX9_nextToken_28 (by decide) rfl rfl ?_
        refine V_aload_n 0 dX9_nextToken_29 rfl ?_
        refine V_getf (v := .int (mem 120 18)) gf_X9_220 dX9_nextToken_30 sh_a120 rfl ?_
        refine V_topi (fun x2_6 ex2_6 => ?_)
        have h := h x2_6 ex2_6
        refine V_istore_n (lv' := [(0, .ref 120), (1, .int 0), (2, .int x2_6)]) dX9_nextToken_33 (by decide) rfl rfl ?_
        exact h
      · have h := h.2 c5
        refine V_iconst (v := 1) dX9_nextToken_23 rfl ?_
        refine V_goto (tgt := 28) dX9_nextToken_24 rfl ?_
        refine V_istore_n (lv' := [(0, .ref 120), (1, .int 1)]) dX9_nextToken_28 (by decide) rfl rfl ?_
        refine V_aload_n 0 dX9_nextToken_29 rfl ?_
        refine V_getf (v := .int (mem 120 18)) gf_X9_220 dX9_nextToken_30 sh_a120 rfl ?_
        refine V_topi (fun x2_7 ex2_7 => ?_)
        have h := h x2_7 ex2_7
        refine V_istore_n (lv' := [(0, .ref 120), (1, .int 1), (2, .int x2_7)]) dX9_nextToken_33 (by decide) rfl rfl ?_
        exact h
set_option maxRecDepth 20000 in
theorem b_X9_nextToken_34 {d : Nat} {P : wf_Mem → Prop} (mem : wf_Mem) (x1 : Int32) (x2 : Int32)
    (h : (((mem 120 16) ≤ (mem 120 18) → ((x1 = 0 → Vw (Nv (d + 1) P) mX9_nextToken 89 [(0, .ref 120)] [.int 0] mem) ∧ (¬ x1 = 0 → ((¬ x2 = (mem 120 18) → Vw (Nv (d + 1) P) mX9_nextToken 89 [(0, .ref 120)] [.int 0] mem) ∧ (x2 = (mem 120 18) → Vw (Nv (d + 1) P) mX9_nextToken 89 [(0, .ref 120)] [.int 1] mem))))) ∧ (¬ (mem 120 16) ≤ (mem 120 18) → (vp_in (mem 120 18) 96 ∧ ((¬ (mem 133 (mem 120 18).toNatClampNeg) = 32 → ((x1 = 0 → Vw (Nv (d + 1) P) mX9_nextToken 89 [(0, .ref 120)] [.int 0] mem) ∧ (¬ x1 = 0 → ((¬ x2 = (mem 120 18) → Vw (Nv (d + 1) P) mX9_nextToken 89 [(0, .ref 120)] [.int 0] mem) ∧ (x2 = (mem 120 18) → Vw (Nv (d + 1) P) mX9_nextToken 89 [(0, .ref 120)] [.int 1] mem))))) ∧ ((mem 133 (mem 120 18).toNatClampNeg) = 32 → (∀ mem7 : wf_Mem, mem7 = wf_ms mem 120 18 ((mem 120 18) + 1) → Vw (Nv (d + 1) P) mX9_nextToken 34 [(0, .ref 120), (1, .int x1), (2, .int x2)] [] mem7))))))) :
    Vw (Nv (d + 1) P) mX9_nextToken 34 [(0, .ref 120), (1, .int x1), (2, .int x2)] [] mem := by
  refine V_aload_n 0 dX9_nextToken_34 rfl ?_
  refine V_getf (v := .int (mem 120 18)) gf_X9_220 dX9_nextToken_35 sh_a120 rfl ?_
  refine V_aload_n 0 dX9_nextToken_38 rfl ?_
  refine V_getf (v := .int (mem 120 16)) gf_X9_209 dX9_nextToken_39 sh_a120 rfl ?_
  refine V_icmp_ge (tgt := 72) dX9_nextToken_42 rfl ⟨fun c1 => ?_, fun c1 => ?_⟩
  · have h := h.1 c1
    refine V_iload_n 1 dX9_nextToken_72 rfl ?_
    refine V_if_eq (tgt := 88) dX9_nextToken_73 rfl ⟨fun c2 => ?_, fun c2 => ?_⟩
    · have h := h.1 c2
      refine V_iconst (v := 0) dX9_nextToken_88 rfl ?_
      exact V_sub [0] rfl h
    · have h := h.2 c2
      refine V_iload_n 2 dX9_nextToken_76 rfl ?_
      refine V_aload_n 0 dX9_nextToken_77 rfl ?_
      refine V_getf (v := .int (mem 120 18)) gf_X9_220 dX9_nextToken_78 sh_a120 rfl ?_
      refine V_icmp_ne (tgt := 88) dX9_nextToken_81 rfl ⟨fun c3 => ?_, fun c3 => ?_⟩
      · have h := h.1 c3
        refine V_iconst (v := 0) dX9_nextToken_88 rfl ?_
        exact V_sub [0] rfl h
      · have h := h.2 c3
        refine V_iconst (v := 1) dX9_nextToken_84 rfl ?_
        refine V_goto (tgt := 89) dX9_nextToken_85 rfl ?_
        exact V_sub [0] rfl h
  · have h := h.2 c1
    refine V_aload_n 0 dX9_nextToken_45 rfl ?_
    refine V_getf (v := .ref 133) gf_X9_46 dX9_nextToken_46 sh_a120 rfl ?_
    refine V_aload_n 0 dX9_nextToken_49 rfl ?_
    refine V_getf (v := .int (mem 120 18)) gf_X9_220 dX9_nextToken_50 sh_a120 rfl ?_
    refine V_iald dX9_nextToken_53 sh_a133 ⟨h.1, ?_⟩
    have h := h.2
    refine V_bipush (v := 32) dX9_nextToken_54 rfl ?_
    refine V_icmp_ne (tgt := 72) dX9_nextToken_56 rfl ⟨fun c4 => ?_, fun c4 => ?_⟩
    · have h := h.1 c4
      refine V_iload_n 1 dX9_nextToken_72 rfl ?_
      refine V_if_eq (tgt := 88) dX9_nextToken_73 rfl ⟨fun c5 => ?_, fun c5 => ?_⟩
      · have h := h.1 c5
        refine V_iconst (v := 0) dX9_nextToken_88 rfl ?_
        exact V_sub [0] rfl h
      · have h := h.2 c5
        refine V_iload_n 2 dX9_nextToken_76 rfl ?_
        refine V_aload_n 0 dX9_nextToken_77 rfl ?_
        refine V_getf (v := .int (mem 120 18)) gf_X9_220 dX9_nextToken_78 sh_a120 rfl ?_
        refine V_icmp_ne (tgt := 88) dX9_nextToken_81 rfl ⟨fun c6 => ?_, fun c6 => ?_⟩
        · have h := h.1 c6
          refine V_iconst (v := 0) dX9_nextToken_88 rfl ?_
          exact V_sub [0] rfl h
        · have h := h.2 c6
          refine V_iconst (v := 1) dX9_nextToken_84 rfl ?_
          refine V_goto (tgt := 89) dX9_nextToken_85 rfl ?_
          exact V_sub [0] rfl h
    · have h := h.2 c4
      refine V_aload_n 0 dX9_nextToken_59 rfl ?_
      refine V_dup dX9_nextToken_60 rfl ?_
      refine V_getf (v := .int (mem 120 18)) gf_X9_220 dX9_nextToken_61 sh_a120 rfl ?_
      refine V_iconst (v := 1) dX9_nextToken_64 rfl ?_
      refine V_iadd dX9_nextToken_65 ?_
      refine V_putf pf_X9_220 dX9_nextToken_66 sh_a120 rfl rfl ?_
      refine V_topm (fun mem7 emem7 => ?_)
      have h := h mem7 emem7
      refine V_goto (tgt := 34) dX9_nextToken_69 rfl ?_
      exact h
set_option maxRecDepth 20000 in
theorem b_X9_nextToken_89 {d : Nat} {P : wf_Mem → Prop} (mem : wf_Mem) (y0 : Int32)
    (h : (∀ mem1 : wf_Mem, mem1 = wf_ms mem 120 17 (mem 120 18) → ((¬ (mem1 120 17) = (mem1 120 16) → (Ci mX9_isLetter d [.ref 120, .int (mem1 120 17)] mem1 (fun r4 mem3 => ((r4 = 0 → (Ci mX9_isDigit d [.ref 120, .int (mem3 120 17)] mem3 (fun r7 mem6 => ((r7 = 0 → (∀ mem9 : wf_Mem, mem9 = wf_ms mem6 120 19 3 → (vp_in (mem9 120 17) 96 ∧ (∀ mem10 : wf_Mem, mem10 = wf_ms mem9 120 21 (mem9 133 (mem9 120 17).toNatClampNeg) → (∀ mem11 : wf_Mem, mem11 = wf_ms mem10 120 18 ((mem10 120 18) + 1) → P mem11))))) ∧ (¬ r7 = 0 → (∀ mem12 : wf_Mem, mem12 = wf_ms mem6 120 20 0 → Vw (Nv (d + 1) P) mX9_nextToken 214 [(0, .ref 120), (1, .int y0)] [] mem12)))))) ∧ (¬ r4 = 0 → Vw (Nv (d + 1) P) mX9_nextToken 128 [(0, .ref 120), (1, .int y0)] [] mem3))))) ∧ ((mem1 120 17) = (mem1 120 16) → (∀ mem13 : wf_Mem, mem13 = wf_ms mem1 120 19 0 → P mem13))))) :
    Vw (Nv (d + 1) P) mX9_nextToken 89 [(0, .ref 120)] [.int y0] mem := by
  refine V_istore_n (lv' := [(0, .ref 120), (1, .int y0)]) dX9_nextToken_89 (by decide) rfl rfl ?_
  refine V_aload_n 0 dX9_nextToken_90 rfl ?_
  refine V_aload_n 0 dX9_nextToken_91 rfl ?_
  refine V_getf (v := .int (mem 120 18)) gf_X9_220 dX9_nextToken_92 sh_a120 rfl ?_
  refine V_putf pf_X9_226 dX9_nextToken_95 sh_a120 rfl rfl ?_
  refine V_topm (fun mem1 emem1 => ?_)
  have h := h mem1 emem1
  refine V_aload_n 0 dX9_nextToken_98 rfl ?_
  refine V_getf (v := .int (mem1 120 17)) gf_X9_226 dX9_nextToken_99 sh_a120 rfl ?_
  refine V_aload_n 0 dX9_nextToken_102 rfl ?_
  refine V_getf (v := .int (mem1 120 16)) gf_X9_209 dX9_nextToken_103 sh_a120 rfl ?_
  refine V_icmp_ne (tgt := 117) dX9_nextToken_106 rfl ⟨fun c2 => ?_, fun c2 => ?_⟩
  · have h := h.1 c2
    refine V_aload_n 0 dX9_nextToken_117 rfl ?_
    refine V_aload_n 0 dX9_nextToken_118 rfl ?_
    refine V_getf (v := .int (mem1 120 17)) gf_X9_226 dX9_nextToken_119 sh_a120 rfl ?_
    refine V_cVi [.int (mem1 120 17)] mv_X9_isLetter w_592 dX9_nextToken_122 wf_rok_m sh_a120 rfl (by decide) rfl rfl (Nat.le_of_ble_eq_true rfl) h ?_
    intro r4 mem3 h
    refine V_if_eq (tgt := 198) dX9_nextToken_125 rfl ⟨fun c5 => ?_, fun c5 => ?_⟩
    · have h := h.1 c5
      refine V_aload_n 0 dX9_nextToken_198 rfl ?_
      refine V_aload_n 0 dX9_nextToken_199 rfl ?_
      refine V_getf (v := .int (mem3 120 17)) gf_X9_226 dX9_nextToken_200 sh_a120 rfl ?_
      refine V_cVi [.int (mem3 120 17)] mv_X9_isDigit w_596 dX9_nextToken_203 wf_rok_m sh_a120 rfl (by decide) rfl rfl (Nat.le_of_ble_eq_true rfl) h ?_
      intro r7 mem6 h
      refine V_if_eq (tgt := 311) dX9_nextToken_206 rfl ⟨fun c8 => ?_, fun c8 => ?_⟩
      · have h := h.1 c8
        refine V_aload_n 0 dX9_nextToken_311 rfl ?_
        refine V_iconst (v := 3) dX9_nextToken_312 rfl ?_
        refine V_putf pf_X9_223 dX9_nextToken_313 sh_a120 rfl rfl ?_
        refine V_topm (fun mem9 emem9 => ?_)
        have h := h mem9 emem9
        refine V_aload_n 0 dX9_nextToken_316 rfl ?_
        refine V_aload_n 0 dX9_nextToken_317 rfl ?_
        refine V_getf (v := .ref 133) gf_X9_46 dX9_nextToken_318 sh_a120 rfl ?_
        refine V_aload_n 0 dX9_nextToken_321 rfl ?_
        refine V_getf (v := .int (mem9 120 17)) gf_X9_226 dX9_nextToken_322 sh_a120 rfl ?_
        refine V_iald dX9_nextToken_325 sh_a133 ⟨h.1, ?_⟩
        have h := h.2
        refine V_putf pf_X9_232 dX9_nextToken_326 sh_a120 rfl rfl ?_
        refine V_topm (fun mem10 emem10 => ?_)
        have h := h mem10 emem10
        refine V_aload_n 0 dX9_nextToken_329 rfl ?_
        refine V_dup dX9_nextToken_330 rfl ?_
        refine V_getf (v := .int (mem10 120 18)) gf_X9_220 dX9_nextToken_331 sh_a120 rfl ?_
        refine V_iconst (v := 1) dX9_nextToken_334 rfl ?_
        refine V_iadd dX9_nextToken_335 ?_
        refine V_putf pf_X9_220 dX9_nextToken_336 sh_a120 rfl rfl ?_
        refine V_topm (fun mem11 emem11 => ?_)
        have h := h mem11 emem11
        exact V_vret dX9_nextToken_339 rfl h
      · have h := h.2 c8
        refine V_aload_n 0 dX9_nextToken_209 rfl ?_
        refine V_iconst (v := 0) dX9_nextToken_210 rfl ?_
        refine V_putf pf_X9_238 dX9_nextToken_211 sh_a120 rfl rfl ?_
        refine V_topm (fun mem12 emem12 => ?_)
        have h := h mem12 emem12
        exact h
    · have h := h.2 c5
      exact h
  · have h := h.2 c2
    refine V_aload_n 0 dX9_nextToken_109 rfl ?_
    refine V_iconst (v := 0) dX9_nextToken_110 rfl ?_
    refine V_putf pf_X9_223 dX9_nextToken_111 sh_a120 rfl rfl ?_
    refine V_topm (fun mem13 emem13 => ?_)
    have h := h mem13 emem13
    refine V_goto (tgt := 339) dX9_nextToken_114 rfl ?_
    exact V_vret dX9_nextToken_339 rfl h
set_option maxRecDepth 20000 in
theorem b_X9_nextToken_128 {d : Nat} {P : wf_Mem → Prop} (mem : wf_Mem) (x1 : Int32)
    (h : (Ci mX9_isLetter d [.ref 120, .int (mem 120 18)] mem (fun r2 mem1 => ((r2 = 0 → ((x1 = 0 → Vw (Nv (d + 1) P) mX9_nextToken 162 [(0, .ref 120)] [.int 1, .ref 120] mem1) ∧ (¬ x1 = 0 → Vw (Nv (d + 1) P) mX9_nextToken 162 [(0, .ref 120)] [.int 4, .ref 120] mem1))) ∧ (¬ r2 = 0 → (∀ mem5 : wf_Mem, mem5 = wf_ms mem1 120 18 ((mem1 120 18) + 1) → Vw (Nv (d + 1) P) mX9_nextToken 128 [(0, .ref 120), (1, .int x1)] [] mem5)))))) :
    Vw (Nv (d + 1) P) mX9_nextToken 128 [(0, .ref 120), (1, .int x1)] [] mem := by
  refine V_aload_n 0 dX9_nextToken_128 rfl ?_
  refine V_aload_n 0 dX9_nextToken_129 rfl ?_
  refine V_getf (v := .int (mem 120 18)) gf_X9_220 dX9_nextToken_130 sh_a120 rfl ?_
  refine V_cVi [.int (mem 120 18)] mv_X9_isLetter w_592 dX9_nextToken_133 wf_rok_m sh_a120 rfl (by decide) rfl rfl (Nat.le_of_ble_eq_true rfl) h ?_
  intro r2 mem1 h
  refine V_if_eq (tgt := 152) dX9_nextToken_136 rfl ⟨fun c3 => ?_, fun c3 => ?_⟩
  · have h := h.1 c3
    refine V_aload_n 0 dX9_nextToken_152 rfl ?_
    refine V_iload_n 1 dX9_nextToken_153 rfl ?_
    refine V_if_eq (tgt := 161) dX9_nextToken_154 rfl ⟨fun c4 => ?_, fun c4 => ?_⟩
    · have h := h.1 c4
      refine V_iconst (v := 1) dX9_nextToken_161 rfl ?_
      exact V_sub [0] rfl h
    · have h := h.2 c4
      refine V_iconst (v := 4) dX9_nextToken_157 rfl ?_
      refine V_goto (tgt := 162) dX9_nextToken_158 rfl ?_
      exact V_sub [0] rfl h
  · have h := h.2 c3
    refine V_aload_n 0 dX9_nextToken_139 rfl ?_
    refine V_dup dX9_nextToken_140 rfl ?_
    refine V_getf (v := .int (mem1 120 18)) gf_X9_220 dX9_nextToken_141 sh_a120 rfl ?_
    refine V_iconst (v := 1) dX9_nextToken_144 rfl ?_
    refine V_iadd dX9_nextToken_145 ?_
    refine V_putf pf_X9_220 dX9_nextToken_146 sh_a120 rfl rfl ?_
    refine V_topm (fun mem5 emem5 => ?_)
    have h := h mem5 emem5
    refine V_goto (tgt := 128) dX9_nextToken_149 rfl ?_
    exact h
set_option maxRecDepth 20000 in
theorem b_X9_nextToken_162 {d : Nat} {P : wf_Mem → Prop} (mem : wf_Mem) (y1 : Int32)
    (h : (∀ mem1 : wf_Mem, mem1 = wf_ms mem 120 19 y1 → ((¬ ((mem1 120 18) - (mem1 120 17)) = 1 → (∀ mem3 : wf_Mem, mem3 = wf_ms mem1 120 21 0 → P mem3)) ∧ (((mem1 120 18) - (mem1 120 17)) = 1 → (vp_in (mem1 120 17) 96 ∧ (∀ mem4 : wf_Mem, mem4 = wf_ms mem1 120 21 (mem1 133 (mem1 120 17).toNatClampNeg) → P mem4)))))) :
    Vw (Nv (d + 1) P) mX9_nextToken 162 [(0, .ref 120)] [.int y1, .ref 120] mem := by
  refine V_putf pf_X9_223 dX9_nextToken_162 sh_a120 rfl rfl ?_
  refine V_topm (fun mem1 emem1 => ?_)
  have h := h mem1 emem1
  refine V_aload_n 0 dX9_nextToken_165 rfl ?_
  refine V_aload_n 0 dX9_nextToken_166 rfl ?_
  refine V_getf (v := .int (mem1 120 18)) gf_X9_220 dX9_nextToken_167 sh_a120 rfl ?_
  refine V_aload_n 0 dX9_nextToken_170 rfl ?_
  refine V_getf (v := .int (mem1 120 17)) gf_X9_226 dX9_nextToken_171 sh_a120 rfl ?_
  refine V_isub dX9_nextToken_174 ?_
  refine V_iconst (v := 1) dX9_nextToken_175 rfl ?_
  refine V_icmp_ne (tgt := 191) dX9_nextToken_176 rfl ⟨fun c2 => ?_, fun c2 => ?_⟩
  · have h := h.1 c2
    refine V_iconst (v := 0) dX9_nextToken_191 rfl ?_
    refine V_putf pf_X9_232 dX9_nextToken_192 sh_a120 rfl rfl ?_
    refine V_topm (fun mem3 emem3 => ?_)
    have h := h mem3 emem3
    refine V_goto (tgt := 339) dX9_nextToken_195 rfl ?_
    exact V_vret dX9_nextToken_339 rfl h
  · have h := h.2 c2
    refine V_aload_n 0 dX9_nextToken_179 rfl ?_
    refine V_getf (v := .ref 133) gf_X9_46 dX9_nextToken_180 sh_a120 rfl ?_
    refine V_aload_n 0 dX9_nextToken_183 rfl ?_
    refine V_getf (v := .int (mem1 120 17)) gf_X9_226 dX9_nextToken_184 sh_a120 rfl ?_
    refine V_iald dX9_nextToken_187 sh_a133 ⟨h.1, ?_⟩
    have h := h.2
    refine V_goto (tgt := 192) dX9_nextToken_188 rfl ?_
    refine V_putf pf_X9_232 dX9_nextToken_192 sh_a120 rfl rfl ?_
    refine V_topm (fun mem4 emem4 => ?_)
    have h := h mem4 emem4
    refine V_goto (tgt := 339) dX9_nextToken_195 rfl ?_
    exact V_vret dX9_nextToken_339 rfl h
set_option maxRecDepth 20000 in
theorem b_X9_nextToken_214 {d : Nat} {P : wf_Mem → Prop} (mem : wf_Mem) (x1 : Int32)
    (h : (Ci mX9_isDigit d [.ref 120, .int (mem 120 18)] mem (fun r2 mem1 => ((r2 = 0 → ((¬ x1 = 0 → (∀ mem5 : wf_Mem, mem5 = wf_ms mem1 120 19 4 → P mem5)) ∧ (x1 = 0 → ((((mem1 120 18) - (mem1 120 17)) ≤ 4 → (∀ mem7 : wf_Mem, mem7 = wf_ms mem1 120 19 2 → P mem7)) ∧ (¬ ((mem1 120 18) - (mem1 120 17)) ≤ 4 → (∀ mem8 : wf_Mem, mem8 = wf_ms mem1 120 19 4 → P mem8)))))) ∧ (¬ r2 = 0 → ((4 ≤ ((mem1 120 18) - (mem1 120 17)) → (∀ mem10 : wf_Mem, mem10 = wf_ms mem1 120 20 (mem1 120 20) → (∀ mem11 : wf_Mem, mem11 = wf_ms mem10 120 18 ((mem10 120 18) + 1) → Vw (Nv (d + 1) P) mX9_nextToken 214 [(0, .ref 120), (1, .int x1)] [] mem11))) ∧ (¬ 4 ≤ ((mem1 120 18) - (mem1 120 17)) → (vp_in (mem1 120 18) 96 ∧ (∀ mem12 : wf_Mem, mem12 = wf_ms mem1 120 20 (((10 * (mem1 120 20)) + (mem1 133 (mem1 120 18).toNatClampNeg)) - 48) → (∀ mem13 : wf_Mem, mem13 = wf_ms mem12 120 18 ((mem12 120 18) + 1) → Vw (Nv (d + 1) P) mX9_nextToken 214 [(0, .ref 120), (1, .int x1)] [] mem13)))))))))) :
    Vw (Nv (d + 1) P) mX9_nextToken 214 [(0, .ref 120), (1, .int x1)] [] mem := by
  refine V_aload_n 0 dX9_nextToken_214 rfl ?_
  refine V_aload_n 0 dX9_nextToken_215 rfl ?_
  refine V_getf (v := .int (mem 120 18)) gf_X9_220 dX9_nextToken_216 sh_a120 rfl ?_
  refine V_cVi [.int (mem 120 18)] mv_X9_isDigit w_596 dX9_nextToken_219 wf_rok_m sh_a120 rfl (by decide) rfl rfl (Nat.le_of_ble_eq_true rfl) h ?_
  intro r2 mem1 h
  refine V_if_eq (tgt := 282) dX9_nextToken_222 rfl ⟨fun c3 => ?_, fun c3 => ?_⟩
  · have h := h.1 c3
    refine V_aload_n 0 dX9_nextToken_282 rfl ?_
    refine V_iload_n 1 dX9_nextToken_283 rfl ?_
    refine V_if_ne (tgt := 300) dX9_nextToken_284 rfl ⟨fun c4 => ?_, fun c4 => ?_⟩
    · have h := h.1 c4
      refine V_iconst (v := 4) dX9_nextToken_300 rfl ?_
      refine V_goto (tgt := 305) dX9_nextToken_301 rfl ?_
      refine V_putf pf_X9_223 dX9_nextToken_305 sh_a120 rfl rfl ?_
      refine V_topm (fun mem5 emem5 => ?_)
      have h := h mem5 emem5
      refine V_goto (tgt := 339) dX9_nextToken_308 rfl ?_
      exact V_vret dX9_nextToken_339 rfl h
    · have h := h.2 c4
      refine V_aload_n 0 dX9_nextToken_287 rfl ?_
      refine V_getf (v := .int (mem1 120 18)) gf_X9_220 dX9_nextToken_288 sh_a120 rfl ?_
      refine V_aload_n 0 dX9_nextToken_291 rfl ?_
      refine V_getf (v := .int (mem1 120 17)) gf_X9_226 dX9_nextToken_292 sh_a120 rfl ?_
      refine V_isub dX9_nextToken_295 ?_
      refine V_iconst (v := 4) dX9_nextToken_296 rfl ?_
      refine V_icmp_le (tgt := 304) dX9_nextToken_297 rfl ⟨fun c6 => ?_, fun c6 => ?_⟩
      · have h := h.1 c6
        refine V_iconst (v := 2) dX9_nextToken_304 rfl ?_
        refine V_putf pf_X9_223 dX9_nextToken_305 sh_a120 rfl rfl ?_
        refine V_topm (fun mem7 emem7 => ?_)
        have h := h mem7 emem7
        refine V_goto (tgt := 339) dX9_nextToken_308 rfl ?_
        exact V_vret dX9_nextToken_339 rfl h
      · have h := h.2 c6
        refine V_iconst (v := 4) dX9_nextToken_300 rfl ?_
        refine V_goto (tgt := 305) dX9_nextToken_301 rfl ?_
        refine V_putf pf_X9_223 dX9_nextToken_305 sh_a120 rfl rfl ?_
        refine V_topm (fun mem8 emem8 => ?_)
        have h := h mem8 emem8
        refine V_goto (tgt := 339) dX9_nextToken_308 rfl ?_
        exact V_vret dX9_nextToken_339 rfl h
  · have h := h.2 c3
    refine V_aload_n 0 dX9_nextToken_225 rfl ?_
    refine V_aload_n 0 dX9_nextToken_226 rfl ?_
    refine V_getf (v := .int (mem1 120 18)) gf_X9_220 dX9_nextToken_227 sh_a120 rfl ?_
    refine V_aload_n 0 dX9_nextToken_230 rfl ?_
    refine V_getf (v := .int (mem1 120 17)) gf_X9_226 dX9_nextToken_231 sh_a120 rfl ?_
    refine V_isub dX9_nextToken_234 ?_
    refine V_iconst (v := 4) dX9_nextToken_235 rfl ?_
    refine V_icmp_ge (tgt := 262) dX9_nextToken_236 rfl ⟨fun c9 => ?_, fun c9 => ?_⟩
    · have h := h.1 c9
      refine V_aload_n 0 dX9_nextToken_262 rfl ?_
      refine V_getf (v := .int (mem1 120 20)) gf_X9_238 dX9_nextToken_263 sh_a120 rfl ?_
      refine V_putf pf_X9_238 dX9_nextToken_266 sh_a120 rfl rfl ?_
      refine V_topm (fun mem10 emem10 => ?_)
      have h := h mem10 emem10
      refine V_aload_n 0 dX9_nextToken_269 rfl ?_
      refine V_dup dX9_nextToken_270 rfl ?_
      refine V_getf (v := .int (mem10 120 18)) gf_X9_220 dX9_nextToken_271 sh_a120 rfl ?_
      refine V_iconst (v := 1) dX9_nextToken_274 rfl ?_
      refine V_iadd dX9_nextToken_275 ?_
      refine V_putf pf_X9_220 dX9_nextToken_276 sh_a120 rfl rfl ?_
      refine V_topm (fun mem11 emem11 => ?_)
      have h := h mem11 emem11
      refine V_goto (tgt := 214) dX9_nextToken_279 rfl ?_
      exact h
    · have h := h.2 c9
      refine V_bipush (v := 10) dX9_nextToken_239 rfl ?_
      refine V_aload_n 0 dX9_nextToken_241 rfl ?_
      refine V_getf (v := .int (mem1 120 20)) gf_X9_238 dX9_nextToken_242 sh_a120 rfl ?_
      refine V_imul dX9_nextToken_245 ?_
      refine V_aload_n 0 dX9_nextToken_246 rfl ?_
      refine V_getf (v := .ref 133) gf_X9_46 dX9_nextToken_247 sh_a120 rfl ?_
      refine V_aload_n 0 dX9_nextToken_250 rfl ?_
      refine V_getf (v := .int (mem1 120 18)) gf_X9_220 dX9_nextToken_251 sh_a120 rfl ?_
      refine V_iald dX9_nextToken_254 sh_a133 ⟨h.1, ?_⟩
      have h := h.2
      refine V_iadd dX9_nextToken_255 ?_
      refine V_bipush (v := 48) dX9_nextToken_256 rfl ?_
      refine V_isub dX9_nextToken_258 ?_
      refine V_goto (tgt := 266) dX9_nextToken_259 rfl ?_
      refine V_putf pf_X9_238 dX9_nextToken_266 sh_a120 rfl rfl ?_
      refine V_topm (fun mem12 emem12 => ?_)
      have h := h mem12 emem12
      refine V_aload_n 0 dX9_nextToken_269 rfl ?_
      refine V_dup dX9_nextToken_270 rfl ?_
      refine V_getf (v := .int (mem12 120 18)) gf_X9_220 dX9_nextToken_271 sh_a120 rfl ?_
      refine V_iconst (v := 1) dX9_nextToken_274 rfl ?_
      refine V_iadd dX9_nextToken_275 ?_
      refine V_putf pf_X9_220 dX9_nextToken_276 sh_a120 rfl rfl ?_
      refine V_topm (fun mem13 emem13 => ?_)
      have h := h mem13 emem13
      refine V_goto (tgt := 214) dX9_nextToken_279 rfl ?_
      exact h
set_option maxRecDepth 20000 in
theorem b_X9_isSign_0 {d : Nat} {P : Int32 → wf_Mem → Prop} (mem : wf_Mem) (x1 : Int32)
    (h : ((¬ (mem 120 19) = 3 → P 0 mem) ∧ ((mem 120 19) = 3 → ((¬ (mem 120 21) = x1 → P 0 mem) ∧ ((mem 120 21) = x1 → P 1 mem))))) :
    Vw (Ni d P) mX9_isSign 0 [(0, .ref 120), (1, .int x1)] [] mem := by
  refine V_aload_n 0 dX9_isSign_0 rfl ?_
  refine V_getf (v := .int (mem 120 19)) gf_X9_223 dX9_isSign_1 sh_a120 rfl ?_
  refine V_iconst (v := 3) dX9_isSign_4 rfl ?_
  refine V_icmp_ne (tgt := 20) dX9_isSign_5 rfl ⟨fun c1 => ?_, fun c1 => ?_⟩
  · have h := h.1 c1
    refine V_iconst (v := 0) dX9_isSign_20 rfl ?_
    exact V_zret dX9_isSign_21 rfl rfl h
  · have h := h.2 c1
    refine V_aload_n 0 dX9_isSign_8 rfl ?_
    refine V_getf (v := .int (mem 120 21)) gf_X9_232 dX9_isSign_9 sh_a120 rfl ?_
    refine V_iload_n 1 dX9_isSign_12 rfl ?_
    refine V_icmp_ne (tgt := 20) dX9_isSign_13 rfl ⟨fun c2 => ?_, fun c2 => ?_⟩
    · have h := h.1 c2
      refine V_iconst (v := 0) dX9_isSign_20 rfl ?_
      exact V_zret dX9_isSign_21 rfl rfl h
    · have h := h.2 c2
      refine V_iconst (v := 1) dX9_isSign_16 rfl ?_
      refine V_goto (tgt := 21) dX9_isSign_17 rfl ?_
      exact V_zret dX9_isSign_21 rfl rfl h
set_option maxRecDepth 20000 in
theorem b_X9_isWordAt_0 {d : Nat} {P : Int32 → wf_Mem → Prop} (mem : wf_Mem) (x1 : Int32) (x2 : Int32) (x3 : Int32) (x4 : Int32)
    (h : ((¬ x4 = 0 → Vw (Ni d P) mX9_isWordAt 10 [(0, .ref 120), (1, .int x1), (2, .int x2), (3, .int x3), (4, .int x4)] [.int 4] mem) ∧ (x4 = 0 → Vw (Ni d P) mX9_isWordAt 10 [(0, .ref 120), (1, .int x1), (2, .int x2), (3, .int x3), (4, .int x4)] [.int 3] mem))) :
    Vw (Ni d P) mX9_isWordAt 0 [(0, .ref 120), (1, .int x1), (2, .int x2), (3, .int x3), (4, .int x4)] [] mem := by
  refine V_iload 4 dX9_isWordAt_0 rfl ?_
  refine V_if_ne (tgt := 9) dX9_isWordAt_2 rfl ⟨fun c1 => ?_, fun c1 => ?_⟩
  · have h := h.1 c1
    refine V_iconst (v := 4) dX9_isWordAt_9 rfl ?_
    exact h
  · have h := h.2 c1
    refine V_iconst (v := 3) dX9_isWordAt_5 rfl ?_
    refine V_goto (tgt := 10) dX9_isWordAt_6 rfl ?_
    exact h
set_option maxRecDepth 20000 in
theorem b_X9_isWordAt_10 {d : Nat} {P : Int32 → wf_Mem → Prop} (mem : wf_Mem) (x1 : Int32) (x2 : Int32) (x3 : Int32) (x4 : Int32) (y0 : Int32)
    (h : ((¬ (mem 120 19) = 1 → P 0 mem) ∧ ((mem 120 19) = 1 → ((¬ ((mem 120 18) - (mem 120 17)) = y0 → P 0 mem) ∧ (((mem 120 18) - (mem 120 17)) = y0 → (vp_in (mem 120 17) 96 ∧ ((¬ (mem 133 (mem 120 17).toNatClampNeg) = x1 → P 0 mem) ∧ ((mem 133 (mem 120 17).toNatClampNeg) = x1 → (vp_in ((mem 120 17) + 1) 96 ∧ ((¬ (mem 133 ((mem 120 17) + 1).toNatClampNeg) = x2 → P 0 mem) ∧ ((mem 133 ((mem 120 17) + 1).toNatClampNeg) = x2 → (vp_in ((mem 120 17) + 2) 96 ∧ ((¬ (mem 133 ((mem 120 17) + 2).toNatClampNeg) = x3 → P 0 mem) ∧ ((mem 133 ((mem 120 17) + 2).toNatClampNeg) = x3 → ((x4 = 0 → P 1 mem) ∧ (¬ x4 = 0 → (vp_in ((mem 120 17) + 3) 96 ∧ ((¬ (mem 133 ((mem 120 17) + 3).toNatClampNeg) = x4 → P 0 mem) ∧ ((mem 133 ((mem 120 17) + 3).toNatClampNeg) = x4 → P 1 mem))))))))))))))))))) :
    Vw (Ni d P) mX9_isWordAt 10 [(0, .ref 120), (1, .int x1), (2, .int x2), (3, .int x3), (4, .int x4)] [.int y0] mem := by
  refine V_istore (lv' := [(0, .ref 120), (1, .int x1), (2, .int x2), (3, .int x3), (4, .int x4), (5, .int y0)]) dX9_isWordAt_10 (by decide) rfl rfl ?_
  refine V_aload_n 0 dX9_isWordAt_12 rfl ?_
  refine V_getf (v := .int (mem 120 19)) gf_X9_223 dX9_isWordAt_13 sh_a120 rfl ?_
  refine V_iconst (v := 1) dX9_isWordAt_16 rfl ?_
  refine V_icmp_ne (tgt := 102) dX9_isWordAt_17 rfl ⟨fun c1 => ?_, fun c1 => ?_⟩
  · have h := h.1 c1
    refine V_iconst (v := 0) dX9_isWordAt_102 rfl ?_
    exact V_zret dX9_isWordAt_103 rfl rfl h
  · have h := h.2 c1
    refine V_aload_n 0 dX9_isWordAt_20 rfl ?_
    refine V_getf (v := .int (mem 120 18)) gf_X9_220 dX9_isWordAt_21 sh_a120 rfl ?_
    refine V_aload_n 0 dX9_isWordAt_24 rfl ?_
    refine V_getf (v := .int (mem 120 17)) gf_X9_226 dX9_isWordAt_25 sh_a120 rfl ?_
    refine V_isub dX9_isWordAt_28 ?_
    refine V_iload 5 dX9_isWordAt_29 rfl ?_
    refine V_icmp_ne (tgt := 102) dX9_isWordAt_31 rfl ⟨fun c2 => ?_, fun c2 => ?_⟩
    · have h := h.1 c2
      refine V_iconst (v := 0) dX9_isWordAt_102 rfl ?_
      exact V_zret dX9_isWordAt_103 rfl rfl h
    · have h := h.2 c2
      refine V_aload_n 0 dX9_isWordAt_34 rfl ?_
      refine V_getf (v := .ref 133) gf_X9_46 dX9_isWordAt_35 sh_a120 rfl ?_
      refine V_aload_n 0 dX9_isWordAt_38 rfl ?_
      refine V_getf (v := .int (mem 120 17)) gf_X9_226 dX9_isWordAt_39 sh_a120 rfl ?_
      refine V_iald dX9_isWordAt_42 sh_a133 ⟨h.1, ?_⟩
      have h := h.2
      refine V_iload_n 1 dX9_isWordAt_43 rfl ?_
      refine V_icmp_ne (tgt := 102) dX9_isWordAt_44 rfl ⟨fun c3 => ?_, fun c3 => ?_⟩
      · have h := h.1 c3
        refine V_iconst (v := 0) dX9_isWordAt_102 rfl ?_
        exact V_zret dX9_isWordAt_103 rfl rfl h
      · have h := h.2 c3
        refine V_aload_n 0 dX9_isWordAt_47 rfl ?_
        refine V_getf (v := .ref 133) gf_X9_46 dX9_isWordAt_48 sh_a120 rfl ?_
        refine V_aload_n 0 dX9_isWordAt_51 rfl ?_
        refine V_getf (v := .int (mem 120 17)) gf_X9_226 dX9_isWordAt_52 sh_a120 rfl ?_
        refine V_iconst (v := 1) dX9_isWordAt_55 rfl ?_
        refine V_iadd dX9_isWordAt_56 ?_
        refine V_iald dX9_isWordAt_57 sh_a133 ⟨h.1, ?_⟩
        have h := h.2
        refine V_iload_n 2 dX9_isWordAt_58 rfl ?_
        refine V_icmp_ne (tgt := 102) dX9_isWordAt_59 rfl ⟨fun c4 => ?_, fun c4 => ?_⟩
        · have h := h.1 c4
          refine V_iconst (v := 0) dX9_isWordAt_102 rfl ?_
          exact V_zret dX9_isWordAt_103 rfl rfl h
        · have h := h.2 c4
          refine V_aload_n 0 dX9_isWordAt_62 rfl ?_
          refine V_getf (v := .ref 133) gf_X9_46 dX9_isWordAt_63 sh_a120 rfl ?_
          refine V_aload_n 0 dX9_isWordAt_66 rfl ?_
          refine V_getf (v := .int (mem 120 17)) gf_X9_226 dX9_isWordAt_67 sh_a120 rfl ?_
          refine V_iconst (v := 2) dX9_isWordAt_70 rfl ?_
          refine V_iadd dX9_isWordAt_71 ?_
          refine V_iald dX9_isWordAt_72 sh_a133 ⟨h.1, ?_⟩
          have h := h.2
          refine V_iload_n 3 dX9_isWordAt_73 rfl ?_
          refine V_icmp_ne (tgt := 102) dX9_isWordAt_74 rfl ⟨fun c5 => ?_, fun c5 => ?_⟩
          · have h := h.1 c5
            refine V_iconst (v := 0) dX9_isWordAt_102 rfl ?_
            exact V_zret dX9_isWordAt_103 rfl rfl h
          · have h := h.2 c5
            refine V_iload 4 dX9_isWordAt_77 rfl ?_
            refine V_if_eq (tgt := 98) dX9_isWordAt_79 rfl ⟨fun c6 => ?_, fun c6 => ?_⟩
            · have h := h.1 c6
              refine V_iconst (v := 1) dX9_isWordAt_98 rfl ?_
              refine V_goto (tgt := 103) dX9_isWordAt_99 rfl ?_
              exact V_zret dX9_isWordAt_103 rfl rfl h
            · have h := h.2 c6
              refine V_aload_n 0 dX9_isWordAt_82 rfl ?_
              refine V_getf (v := .ref 133) gf_X9_46 dX9_isWordAt_83 sh_a120 rfl ?_
              refine V_aload_n 0 dX9_isWordAt_86 rfl ?_
              refine V_getf (v := .int (mem 120 17)) gf_X9_226 dX9_isWordAt_87 sh_a120 rfl ?_
              refine V_iconst (v := 3) dX9_isWordAt_90 rfl ?_
              refine V_iadd dX9_isWordAt_91 ?_
              refine V_iald dX9_isWordAt_92 sh_a133 ⟨h.1, ?_⟩
              have h := h.2
              refine V_iload 4 dX9_isWordAt_93 rfl ?_
              refine V_icmp_ne (tgt := 102) dX9_isWordAt_95 rfl ⟨fun c7 => ?_, fun c7 => ?_⟩
              · have h := h.1 c7
                refine V_iconst (v := 0) dX9_isWordAt_102 rfl ?_
                exact V_zret dX9_isWordAt_103 rfl rfl h
              · have h := h.2 c7
                refine V_iconst (v := 1) dX9_isWordAt_98 rfl ?_
                refine V_goto (tgt := 103) dX9_isWordAt_99 rfl ?_
                exact V_zret dX9_isWordAt_103 rfl rfl h
set_option maxRecDepth 20000 in
theorem b_X9_isLong_0 {d : Nat} {P : Int32 → wf_Mem → Prop} (mem : wf_Mem) (x1 : Int32) (x2 : Int32) (x3 : Int32) (x4 : Int32) (x5 : Int32) (x6 : Int32)
    (h : ((¬ x6 = 0 → Vw (Ni d P) mX9_isLong 11 [(0, .ref 120), (1, .int x1), (2, .int x2), (3, .int x3), (4, .int x4), (5, .int x5), (6, .int x6)] [.int 6] mem) ∧ (x6 = 0 → Vw (Ni d P) mX9_isLong 11 [(0, .ref 120), (1, .int x1), (2, .int x2), (3, .int x3), (4, .int x4), (5, .int x5), (6, .int x6)] [.int 5] mem))) :
    Vw (Ni d P) mX9_isLong 0 [(0, .ref 120), (1, .int x1), (2, .int x2), (3, .int x3), (4, .int x4), (5, .int x5), (6, .int x6)] [] mem := by
  refine V_iload 6 dX9_isLong_0 rfl ?_
  refine V_if_ne (tgt := 9) dX9_isLong_2 rfl ⟨fun c1 => ?_, fun c1 => ?_⟩
  · have h := h.1 c1
    refine V_bipush (v := 6) dX9_isLong_9 rfl ?_
    exact h
  · have h := h.2 c1
    refine V_iconst (v := 5) dX9_isLong_5 rfl ?_
    refine V_goto (tgt := 11) dX9_isLong_6 rfl ?_
    exact h
set_option maxRecDepth 20000 in
theorem b_X9_isLong_11 {d : Nat} {P : Int32 → wf_Mem → Prop} (mem : wf_Mem) (x1 : Int32) (x2 : Int32) (x3 : Int32) (x4 : Int32) (x5 : Int32) (x6 : Int32) (y0 : Int32)
    (h : ((¬ (mem 120 19) = 1 → P 0 mem) ∧ ((mem 120 19) = 1 → ((¬ ((mem 120 18) - (mem 120 17)) = y0 → P 0 mem) ∧ (((mem 120 18) - (mem 120 17)) = y0 → (vp_in (mem 120 17) 96 ∧ ((¬ (mem 133 (mem 120 17).toNatClampNeg) = x1 → P 0 mem) ∧ ((mem 133 (mem 120 17).toNatClampNeg) = x1 → (vp_in ((mem 120 17) + 1) 96 ∧ ((¬ (mem 133 ((mem 120 17) + 1).toNatClampNeg) = x2 → P 0 mem) ∧ ((mem 133 ((mem 120 17) + 1).toNatClampNeg) = x2 → (vp_in ((mem 120 17) + 2) 96 ∧ ((¬ (mem 133 ((mem 120 17) + 2).toNatClampNeg) = x3 → P 0 mem) ∧ ((mem 133 ((mem 120 17) + 2).toNatClampNeg) = x3 → (vp_in ((mem 120 17) + 3) 96 ∧ ((¬ (mem 133 ((mem 120 17) + 3).toNatClampNeg) = x4 → P 0 mem) ∧ ((mem 133 ((mem 120 17) + 3).toNatClampNeg) = x4 → (vp_in ((mem 120 17) + 4) 96 ∧ ((¬ (mem 133 ((mem 120 17) + 4).toNatClampNeg) = x5 → P 0 mem) ∧ ((mem 133 ((mem 120 17) + 4).toNatClampNeg) = x5 → ((x6 = 0 → P 1 mem) ∧ (¬ x6 = 0 → (vp_in ((mem 120 17) + 5) 96 ∧ ((¬ (mem 133 ((mem 120 17) + 5).toNatClampNeg) = x6 → P 0 mem) ∧ ((mem 133 ((mem 120 17) + 5).toNatClampNeg) = x6 → P 1 mem))))))))))))))))))))))))) :
    Vw (Ni d P) mX9_isLong 11 [(0, .ref 120), (1, .int x1), (2, .int x2), (3, .int x3), (4, .int x4), (5, .int x5), (6, .int x6)] [.int y0] mem := by
  refine V_istore (lv' := [(0, .ref 120), (1, .int x1), (2, .int x2), (3, .int x3), (4, .int x4), (5, .int x5), (6, .int x6), (7, .int y0)]) dX9_isLong_11 (by decide) rfl rfl ?_
  refine V_aload_n 0 dX9_isLong_13 rfl ?_
  refine V_getf (v := .int (mem 120 19)) gf_X9_223 dX9_isLong_14 sh_a120 rfl ?_
  refine V_iconst (v := 1) dX9_isLong_17 rfl ?_
  refine V_icmp_ne (tgt := 135) dX9_isLong_18 rfl ⟨fun c1 => ?_, fun c1 => ?_⟩
  · have h := h.1 c1
    refine V_iconst (v := 0) dX9_isLong_135 rfl ?_
    exact V_zret dX9_isLong_136 rfl rfl h
  · have h := h.2 c1
    refine V_aload_n 0 dX9_isLong_21 rfl ?_
    refine V_getf (v := .int (mem 120 18)) gf_X9_220 dX9_isLong_22 sh_a120 rfl ?_
    refine V_aload_n 0 dX9_isLong_25 rfl ?_
    refine V_getf (v := .int (mem 120 17)) gf_X9_226 dX9_isLong_26 sh_a120 rfl ?_
    refine V_isub dX9_isLong_29 ?_
    refine V_iload 7 dX9_isLong_30 rfl ?_
    refine V_icmp_ne (tgt := 135) dX9_isLong_32 rfl ⟨fun c2 => ?_, fun c2 => ?_⟩
    · have h := h.1 c2
      refine V_iconst (v := 0) dX9_isLong_135 rfl ?_
      exact V_zret dX9_isLong_136 rfl rfl h
    · have h := h.2 c2
      refine V_aload_n 0 dX9_isLong_35 rfl ?_
      refine V_getf (v := .ref 133) gf_X9_46 dX9_isLong_36 sh_a120 rfl ?_
      refine V_aload_n 0 dX9_isLong_39 rfl ?_
      refine V_getf (v := .int (mem 120 17)) gf_X9_226 dX9_isLong_40 sh_a120 rfl ?_
      refine V_iald dX9_isLong_43 sh_a133 ⟨h.1, ?_⟩
      have h := h.2
      refine V_iload_n 1 dX9_isLong_44 rfl ?_
      refine V_icmp_ne (tgt := 135) dX9_isLong_45 rfl ⟨fun c3 => ?_, fun c3 => ?_⟩
      · have h := h.1 c3
        refine V_iconst (v := 0) dX9_isLong_135 rfl ?_
        exact V_zret dX9_isLong_136 rfl rfl h
      · have h := h.2 c3
        refine V_aload_n 0 dX9_isLong_48 rfl ?_
        refine V_getf (v := .ref 133) gf_X9_46 dX9_isLong_49 sh_a120 rfl ?_
        refine V_aload_n 0 dX9_isLong_52 rfl ?_
        refine V_getf (v := .int (mem 120 17)) gf_X9_226 dX9_isLong_53 sh_a120 rfl ?_
        refine V_iconst (v := 1) dX9_isLong_56 rfl ?_
        refine V_iadd dX9_isLong_57 ?_
        refine V_iald dX9_isLong_58 sh_a133 ⟨h.1, ?_⟩
        have h := h.2
        refine V_iload_n 2 dX9_isLong_59 rfl ?_
        refine V_icmp_ne (tgt := 135) dX9_isLong_60 rfl ⟨fun c4 => ?_, fun c4 => ?_⟩
        · have h := h.1 c4
          refine V_iconst (v := 0) dX9_isLong_135 rfl ?_
          exact V_zret dX9_isLong_136 rfl rfl h
        · have h := h.2 c4
          refine V_aload_n 0 dX9_isLong_63 rfl ?_
          refine V_getf (v := .ref 133) gf_X9_46 dX9_isLong_64 sh_a120 rfl ?_
          refine V_aload_n 0 dX9_isLong_67 rfl ?_
          refine V_getf (v := .int (mem 120 17)) gf_X9_226 dX9_isLong_68 sh_a120 rfl ?_
          refine V_iconst (v := 2) dX9_isLong_71 rfl ?_
          refine V_iadd dX9_isLong_72 ?_
          refine V_iald dX9_isLong_73 sh_a133 ⟨h.1, ?_⟩
          have h := h.2
          refine V_iload_n 3 dX9_isLong_74 rfl ?_
          refine V_icmp_ne (tgt := 135) dX9_isLong_75 rfl ⟨fun c5 => ?_, fun c5 => ?_⟩
          · have h := h.1 c5
            refine V_iconst (v := 0) dX9_isLong_135 rfl ?_
            exact V_zret dX9_isLong_136 rfl rfl h
          · have h := h.2 c5
            refine V_aload_n 0 dX9_isLong_78 rfl ?_
            refine V_getf (v := .ref 133) gf_X9_46 dX9_isLong_79 sh_a120 rfl ?_
            refine V_aload_n 0 dX9_isLong_82 rfl ?_
            refine V_getf (v := .int (mem 120 17)) gf_X9_226 dX9_isLong_83 sh_a120 rfl ?_
            refine V_iconst (v := 3) dX9_isLong_86 rfl ?_
            refine V_iadd dX9_isLong_87 ?_
            refine V_iald dX9_isLong_88 sh_a133 ⟨h.1, ?_⟩
            have h := h.2
            refine V_iload 4 dX9_isLong_89 rfl ?_
            refine V_icmp_ne (tgt := 135) dX9_isLong_91 rfl ⟨fun c6 => ?_, fun c6 => ?_⟩
            · have h := h.1 c6
              refine V_iconst (v := 0) dX9_isLong_135 rfl ?_
              exact V_zret dX9_isLong_136 rfl rfl h
            · have h := h.2 c6
              refine V_aload_n 0 dX9_isLong_94 rfl ?_
              refine V_getf (v := .ref 133) gf_X9_46 dX9_isLong_95 sh_a120 rfl ?_
              refine V_aload_n 0 dX9_isLong_98 rfl ?_
              refine V_getf (v := .int (mem 120 17)) gf_X9_226 dX9_isLong_99 sh_a120 rfl ?_
              refine V_iconst (v := 4) dX9_isLong_102 rfl ?_
              refine V_iadd dX9_isLong_103 ?_
              refine V_iald dX9_isLong_104 sh_a133 ⟨h.1, ?_⟩
              have h := h.2
              refine V_iload 5 dX9_isLong_105 rfl ?_
              refine V_icmp_ne (tgt := 135) dX9_isLong_107 rfl ⟨fun c7 => ?_, fun c7 => ?_⟩
              · have h := h.1 c7
                refine V_iconst (v := 0) dX9_isLong_135 rfl ?_
                exact V_zret dX9_isLong_136 rfl rfl h
              · have h := h.2 c7
                refine V_iload 6 dX9_isLong_110 rfl ?_
                refine V_if_eq (tgt := 131) dX9_isLong_112 rfl ⟨fun c8 => ?_, fun c8 => ?_⟩
                · have h := h.1 c8
                  refine V_iconst (v := 1) dX9_isLong_131 rfl ?_
                  refine V_goto (tgt := 136) dX9_isLong_132 rfl ?_
                  exact V_zret dX9_isLong_136 rfl rfl h
                · have h := h.2 c8
                  refine V_aload_n 0 dX9_isLong_115 rfl ?_
                  refine V_getf (v := .ref 133) gf_X9_46 dX9_isLong_116 sh_a120 rfl ?_
                  refine V_aload_n 0 dX9_isLong_119 rfl ?_
                  refine V_getf (v := .int (mem 120 17)) gf_X9_226 dX9_isLong_120 sh_a120 rfl ?_
                  refine V_iconst (v := 5) dX9_isLong_123 rfl ?_
                  refine V_iadd dX9_isLong_124 ?_
                  refine V_iald dX9_isLong_125 sh_a133 ⟨h.1, ?_⟩
                  have h := h.2
                  refine V_iload 6 dX9_isLong_126 rfl ?_
                  refine V_icmp_ne (tgt := 135) dX9_isLong_128 rfl ⟨fun c9 => ?_, fun c9 => ?_⟩
                  · have h := h.1 c9
                    refine V_iconst (v := 0) dX9_isLong_135 rfl ?_
                    exact V_zret dX9_isLong_136 rfl rfl h
                  · have h := h.2 c9
                    refine V_iconst (v := 1) dX9_isLong_131 rfl ?_
                    refine V_goto (tgt := 136) dX9_isLong_132 rfl ?_
                    exact V_zret dX9_isLong_136 rfl rfl h
set_option maxRecDepth 20000 in
theorem b_X9_key_0 {d : Nat} {P : Int32 → wf_Mem → Prop} (mem : wf_Mem) 
    (h : (Ci mX9_isLong d [.ref 120, .int 108, .int 105, .int 103, .int 104, .int 116, .int 0] mem (fun r2 mem1 => ((r2 = 0 → (Ci mX9_isWordAt d [.ref 120, .int 102, .int 101, .int 97, .int 114] mem1 (fun r5 mem4 => ((r5 = 0 → (Ci mX9_isWordAt d [.ref 120, .int 116, .int 105, .int 114, .int 101] mem4 (fun r8 mem7 => ((r8 = 0 → P (-1) mem7) ∧ (¬ r8 = 0 → P 2 mem7))))) ∧ (¬ r5 = 0 → P 1 mem4))))) ∧ (¬ r2 = 0 → P 0 mem1))))) :
    Vw (Ni (d + 1) P) mX9_key 0 [(0, .ref 120)] [] mem := by
  refine V_aload_n 0 dX9_key_0 rfl ?_
  refine V_bipush (v := 108) dX9_key_1 rfl ?_
  refine V_bipush (v := 105) dX9_key_3 rfl ?_
  refine V_bipush (v := 103) dX9_key_5 rfl ?_
  refine V_bipush (v := 104) dX9_key_7 rfl ?_
  refine V_bipush (v := 116) dX9_key_9 rfl ?_
  refine V_iconst (v := 0) dX9_key_11 rfl ?_
  refine V_cVi [.int 108, .int 105, .int 103, .int 104, .int 116, .int 0] mv_X9_isLong w_602 dX9_key_12 wf_rok_m sh_a120 rfl (by decide) rfl rfl (Nat.le_of_ble_eq_true rfl) h ?_
  intro r2 mem1 h
  refine V_if_eq (tgt := 20) dX9_key_15 rfl ⟨fun c3 => ?_, fun c3 => ?_⟩
  · have h := h.1 c3
    refine V_aload_n 0 dX9_key_20 rfl ?_
    refine V_bipush (v := 102) dX9_key_21 rfl ?_
    refine V_bipush (v := 101) dX9_key_23 rfl ?_
    refine V_bipush (v := 97) dX9_key_25 rfl ?_
    refine V_bipush (v := 114) dX9_key_27 rfl ?_
    refine V_cVi [.int 102, .int 101, .int 97, .int 114] mv_X9_isWordAt w_606 dX9_key_29 wf_rok_m sh_a120 rfl (by decide) rfl rfl (Nat.le_of_ble_eq_true rfl) h ?_
    intro r5 mem4 h
    refine V_if_eq (tgt := 37) dX9_key_32 rfl ⟨fun c6 => ?_, fun c6 => ?_⟩
    · have h := h.1 c6
      refine V_aload_n 0 dX9_key_37 rfl ?_
      refine V_bipush (v := 116) dX9_key_38 rfl ?_
      refine V_bipush (v := 105) dX9_key_40 rfl ?_
      refine V_bipush (v := 114) dX9_key_42 rfl ?_
      refine V_bipush (v := 101) dX9_key_44 rfl ?_
      refine V_cVi [.int 116, .int 105, .int 114, .int 101] mv_X9_isWordAt w_606 dX9_key_46 wf_rok_m sh_a120 rfl (by decide) rfl rfl (Nat.le_of_ble_eq_true rfl) h ?_
      intro r8 mem7 h
      refine V_if_eq (tgt := 56) dX9_key_49 rfl ⟨fun c9 => ?_, fun c9 => ?_⟩
      · have h := h.1 c9
        refine V_iconst (v := (-1)) dX9_key_56 rfl ?_
        exact V_iret dX9_key_57 rfl h
      · have h := h.2 c9
        refine V_iconst (v := 2) dX9_key_52 rfl ?_
        refine V_goto (tgt := 57) dX9_key_53 rfl ?_
        exact V_iret dX9_key_57 rfl h
    · have h := h.2 c6
      refine V_iconst (v := 1) dX9_key_35 rfl ?_
      exact V_iret dX9_key_36 rfl h
  · have h := h.2 c3
    refine V_iconst (v := 0) dX9_key_18 rfl ?_
    exact V_iret dX9_key_19 rfl h
set_option maxRecDepth 20000 in
theorem b_X9_isName_0 {d : Nat} {P : Int32 → wf_Mem → Prop} (mem : wf_Mem) (x0 : Int32) (x1 : Int32)
    (h : ((x0 = 0 → ((x1 = 102 → P 1 mem) ∧ (¬ x1 = 102 → ((x1 = 110 → P 1 mem) ∧ (¬ x1 = 110 → ((¬ x1 = 119 → P 0 mem) ∧ (x1 = 119 → P 1 mem))))))) ∧ (¬ x0 = 0 → ((x0 = 1 → ((x1 = 103 → P 1 mem) ∧ (¬ x1 = 103 → ((x1 = 116 → P 1 mem) ∧ (¬ x1 = 116 → ((¬ x1 = 104 → P 0 mem) ∧ (x1 = 104 → P 1 mem))))))) ∧ (¬ x0 = 1 → ((x1 = 116 → P 1 mem) ∧ (¬ x1 = 116 → ((¬ x1 = 101 → P 0 mem) ∧ (x1 = 101 → P 1 mem))))))))) :
    Vw (Ni d P) mX9_isName 0 [(0, .int x0), (1, .int x1)] [] mem := by
  refine V_iload_n 0 dX9_isName_0 rfl ?_
  refine V_lswc [(0, 28), (1, 52)] 76 dX9_isName_1 (by decide +kernel) (by decide +kernel) ?_
  refine And.intro (fun c1 => ?_) (fun c1 => ?_)
  · have h := h.1 c1
    show Vw _ _ 28 _ _ _
    refine V_iload_n 1 dX9_isName_28 rfl ?_
    refine V_bipush (v := 102) dX9_isName_29 rfl ?_
    refine V_icmp_eq (tgt := 46) dX9_isName_31 rfl ⟨fun c2 => ?_, fun c2 => ?_⟩
    · have h := h.1 c2
      refine V_iconst (v := 1) dX9_isName_46 rfl ?_
      refine V_goto (tgt := 51) dX9_isName_47 rfl ?_
      exact V_zret dX9_isName_51 rfl rfl h
    · have h := h.2 c2
      refine V_iload_n 1 dX9_isName_34 rfl ?_
      refine V_bipush (v := 110) dX9_isName_35 rfl ?_
      refine V_icmp_eq (tgt := 46) dX9_isName_37 rfl ⟨fun c3 => ?_, fun c3 => ?_⟩
      · have h := h.1 c3
        refine V_iconst (v := 1) dX9_isName_46 rfl ?_
        refine V_goto (tgt := 51) dX9_isName_47 rfl ?_
        exact V_zret dX9_isName_51 rfl rfl h
      · have h := h.2 c3
        refine V_iload_n 1 dX9_isName_40 rfl ?_
        refine V_bipush (v := 119) dX9_isName_41 rfl ?_
        refine V_icmp_ne (tgt := 50) dX9_isName_43 rfl ⟨fun c4 => ?_, fun c4 => ?_⟩
        · have h := h.1 c4
          refine V_iconst (v := 0) dX9_isName_50 rfl ?_
          exact V_zret dX9_isName_51 rfl rfl h
        · have h := h.2 c4
          refine V_iconst (v := 1) dX9_isName_46 rfl ?_
          refine V_goto (tgt := 51) dX9_isName_47 rfl ?_
          exact V_zret dX9_isName_51 rfl rfl h
  · have h := h.2 c1
    refine And.intro (fun c5 => ?_) (fun c5 => ?_)
    · have h := h.1 c5
      show Vw _ _ 52 _ _ _
      refine V_iload_n 1 dX9_isName_52 rfl ?_
      refine V_bipush (v := 103) dX9_isName_53 rfl ?_
      refine V_icmp_eq (tgt := 70) dX9_isName_55 rfl ⟨fun c6 => ?_, fun c6 => ?_⟩
      · have h := h.1 c6
        refine V_iconst (v := 1) dX9_isName_70 rfl ?_
        refine V_goto (tgt := 75) dX9_isName_71 rfl ?_
        exact V_zret dX9_isName_75 rfl rfl h
      · have h := h.2 c6
        refine V_iload_n 1 dX9_isName_58 rfl ?_
        refine V_bipush (v := 116) dX9_isName_59 rfl ?_
        refine V_icmp_eq (tgt := 70) dX9_isName_61 rfl ⟨fun c7 => ?_, fun c7 => ?_⟩
        · have h := h.1 c7
          refine V_iconst (v := 1) dX9_isName_70 rfl ?_
          refine V_goto (tgt := 75) dX9_isName_71 rfl ?_
          exact V_zret dX9_isName_75 rfl rfl h
        · have h := h.2 c7
          refine V_iload_n 1 dX9_isName_64 rfl ?_
          refine V_bipush (v := 104) dX9_isName_65 rfl ?_
          refine V_icmp_ne (tgt := 74) dX9_isName_67 rfl ⟨fun c8 => ?_, fun c8 => ?_⟩
          · have h := h.1 c8
            refine V_iconst (v := 0) dX9_isName_74 rfl ?_
            exact V_zret dX9_isName_75 rfl rfl h
          · have h := h.2 c8
            refine V_iconst (v := 1) dX9_isName_70 rfl ?_
            refine V_goto (tgt := 75) dX9_isName_71 rfl ?_
            exact V_zret dX9_isName_75 rfl rfl h
    · have h := h.2 c5
      show Vw _ _ 76 _ _ _
      refine V_iload_n 1 dX9_isName_76 rfl ?_
      refine V_bipush (v := 116) dX9_isName_77 rfl ?_
      refine V_icmp_eq (tgt := 88) dX9_isName_79 rfl ⟨fun c9 => ?_, fun c9 => ?_⟩
      · have h := h.1 c9
        refine V_iconst (v := 1) dX9_isName_88 rfl ?_
        refine V_goto (tgt := 93) dX9_isName_89 rfl ?_
        exact V_zret dX9_isName_93 rfl rfl h
      · have h := h.2 c9
        refine V_iload_n 1 dX9_isName_82 rfl ?_
        refine V_bipush (v := 101) dX9_isName_83 rfl ?_
        refine V_icmp_ne (tgt := 92) dX9_isName_85 rfl ⟨fun c10 => ?_, fun c10 => ?_⟩
        · have h := h.1 c10
          refine V_iconst (v := 0) dX9_isName_92 rfl ?_
          exact V_zret dX9_isName_93 rfl rfl h
        · have h := h.2 c10
          refine V_iconst (v := 1) dX9_isName_88 rfl ?_
          refine V_goto (tgt := 93) dX9_isName_89 rfl ?_
          exact V_zret dX9_isName_93 rfl rfl h
set_option maxRecDepth 20000 in
theorem b_X9_step_0 {d : Nat} {P : wf_Mem → Prop} (mem : wf_Mem) (x1 : Int32) (x2 : Int32)
    (h : (vp_in ((mem 120 25) + (2 * (mem 120 24))) 3088 ∧ ∀ mem1 : wf_Mem, mem1 = wf_ms mem 121 ((mem 120 25) + (2 * (mem 120 24))).toNatClampNeg x1 → (vp_in (((mem1 120 25) + (2 * (mem1 120 24))) + 1) 3088 ∧ ∀ mem2 : wf_Mem, mem2 = wf_ms mem1 121 (((mem1 120 25) + (2 * (mem1 120 24))) + 1).toNatClampNeg x2 → (∀ mem3 : wf_Mem, mem3 = wf_ms mem2 120 24 ((mem2 120 24) + 1) → P mem3)))) :
    Vw (Nv d P) mX9_step 0 [(0, .ref 120), (1, .int x1), (2, .int x2)] [] mem := by
  refine V_aload_n 0 dX9_step_0 rfl ?_
  refine V_getf (v := .ref 121) gf_X9_7 dX9_step_1 sh_a120 rfl ?_
  refine V_aload_n 0 dX9_step_4 rfl ?_
  refine V_getf (v := .int (mem 120 25)) gf_X9_249 dX9_step_5 sh_a120 rfl ?_
  refine V_iconst (v := 2) dX9_step_8 rfl ?_
  refine V_aload_n 0 dX9_step_9 rfl ?_
  refine V_getf (v := .int (mem 120 24)) gf_X9_252 dX9_step_10 sh_a120 rfl ?_
  refine V_imul dX9_step_13 ?_
  refine V_iadd dX9_step_14 ?_
  refine V_iload_n 1 dX9_step_15 rfl ?_
  refine V_iast dX9_step_16 sh_a121 ⟨h.1, ?_⟩
  refine V_topm (fun mem1 emem1 => ?_)
  have h := h.2 mem1 emem1
  refine V_aload_n 0 dX9_step_17 rfl ?_
  refine V_getf (v := .ref 121) gf_X9_7 dX9_step_18 sh_a120 rfl ?_
  refine V_aload_n 0 dX9_step_21 rfl ?_
  refine V_getf (v := .int (mem1 120 25)) gf_X9_249 dX9_step_22 sh_a120 rfl ?_
  refine V_iconst (v := 2) dX9_step_25 rfl ?_
  refine V_aload_n 0 dX9_step_26 rfl ?_
  refine V_getf (v := .int (mem1 120 24)) gf_X9_252 dX9_step_27 sh_a120 rfl ?_
  refine V_imul dX9_step_30 ?_
  refine V_iadd dX9_step_31 ?_
  refine V_iconst (v := 1) dX9_step_32 rfl ?_
  refine V_iadd dX9_step_33 ?_
  refine V_iload_n 2 dX9_step_34 rfl ?_
  refine V_iast dX9_step_35 sh_a121 ⟨h.1, ?_⟩
  refine V_topm (fun mem2 emem2 => ?_)
  have h := h.2 mem2 emem2
  refine V_aload_n 0 dX9_step_36 rfl ?_
  refine V_dup dX9_step_37 rfl ?_
  refine V_getf (v := .int (mem2 120 24)) gf_X9_252 dX9_step_38 sh_a120 rfl ?_
  refine V_iconst (v := 1) dX9_step_41 rfl ?_
  refine V_iadd dX9_step_42 ?_
  refine V_putf pf_X9_252 dX9_step_43 sh_a120 rfl rfl ?_
  refine V_topm (fun mem3 emem3 => ?_)
  have h := h mem3 emem3
  exact V_vret dX9_step_46 rfl h
set_option maxRecDepth 20000 in
theorem b_X9_either_0 {d : Nat} {P : Int32 → wf_Mem → Prop} (mem : wf_Mem) (x1 : Int32)
    (h : (Ci mX9_both d [.ref 120, .int x1] mem (fun r2 mem1 => ((¬ r2 = 0 → Vw (Ni (d + 1) P) mX9_either 10 [(0, .ref 120), (1, .int x1)] [] mem1) ∧ (r2 = 0 → P 0 mem1))))) :
    Vw (Ni (d + 1) P) mX9_either 0 [(0, .ref 120), (1, .int x1)] [] mem := by
  refine V_aload_n 0 dX9_either_0 rfl ?_
  refine V_iload_n 1 dX9_either_1 rfl ?_
  refine V_cVi [.int x1] mv_X9_both w_612 dX9_either_2 wf_rok_m sh_a120 rfl (by decide) rfl rfl (Nat.le_of_ble_eq_true rfl) h ?_
  intro r2 mem1 h
  refine V_if_ne (tgt := 10) dX9_either_5 rfl ⟨fun c3 => ?_, fun c3 => ?_⟩
  · have h := h.1 c3
    exact h
  · have h := h.2 c3
    refine V_iconst (v := 0) dX9_either_8 rfl ?_
    exact V_zret dX9_either_9 rfl rfl h
set_option maxRecDepth 20000 in
theorem b_X9_either_10 {d : Nat} {P : Int32 → wf_Mem → Prop} (mem : wf_Mem) (x1 : Int32)
    (h : (Ci mX9_isSign d [.ref 120, .int 124] mem (fun r2 mem1 => ((r2 = 0 → P 1 mem1) ∧ (¬ r2 = 0 → (Cv mX9_nextToken d [.ref 120] mem1 (fun mem4 => (Ci mX9_both d [.ref 120, .int x1] mem4 (fun r6 mem5 => ((¬ r6 = 0 → (Cv mX9_step d [.ref 120, .int 2, .int 124] mem5 (fun mem8 => Vw (Ni (d + 1) P) mX9_either 10 [(0, .ref 120), (1, .int x1)] [] mem8))) ∧ (r6 = 0 → P 0 mem5))))))))))) :
    Vw (Ni (d + 1) P) mX9_either 10 [(0, .ref 120), (1, .int x1)] [] mem := by
  refine V_aload_n 0 dX9_either_10 rfl ?_
  refine V_bipush (v := 124) dX9_either_11 rfl ?_
  refine V_cVi [.int 124] mv_X9_isSign w_616 dX9_either_13 wf_rok_m sh_a120 rfl (by decide) rfl rfl (Nat.le_of_ble_eq_true rfl) h ?_
  intro r2 mem1 h
  refine V_if_eq (tgt := 43) dX9_either_16 rfl ⟨fun c3 => ?_, fun c3 => ?_⟩
  · have h := h.1 c3
    refine V_iconst (v := 1) dX9_either_43 rfl ?_
    exact V_zret dX9_either_44 rfl rfl h
  · have h := h.2 c3
    refine V_aload_n 0 dX9_either_19 rfl ?_
    refine V_cVv [] mv_X9_nextToken w_620 dX9_either_20 wf_rok_m sh_a120 rfl (by decide) rfl rfl (Nat.le_of_ble_eq_true rfl) h ?_
    intro mem4 h
    refine V_aload_n 0 dX9_either_23 rfl ?_
    refine V_iload_n 1 dX9_either_24 rfl ?_
    refine V_cVi [.int x1] mv_X9_both w_612 dX9_either_25 wf_rok_m sh_a120 rfl (by decide) rfl rfl (Nat.le_of_ble_eq_true rfl) h ?_
    intro r6 mem5 h
    refine V_if_ne (tgt := 33) dX9_either_28 rfl ⟨fun c7 => ?_, fun c7 => ?_⟩
    · have h := h.1 c7
      refine V_aload_n 0 dX9_either_33 rfl ?_
      refine V_iconst (v := 2) dX9_either_34 rfl ?_
      refine V_bipush (v := 124) dX9_either_35 rfl ?_
      refine V_cVv [.int 2, .int 124] mv_X9_step w_624 dX9_either_37 wf_rok_m sh_a120 rfl (by decide) rfl rfl (Nat.le_of_ble_eq_true rfl) h ?_
      intro mem8 h
      refine V_goto (tgt := 10) dX9_either_40 rfl ?_
      exact h
    · have h := h.2 c7
      refine V_iconst (v := 0) dX9_either_31 rfl ?_
      exact V_zret dX9_either_32 rfl rfl h
set_option maxRecDepth 20000 in
theorem b_X9_both_0 {d : Nat} {P : Int32 → wf_Mem → Prop} (mem : wf_Mem) (x1 : Int32)
    (h : (Ci mX9_test d [.ref 120, .int x1] mem (fun r2 mem1 => ((¬ r2 = 0 → Vw (Ni (d + 1) P) mX9_both 10 [(0, .ref 120), (1, .int x1)] [] mem1) ∧ (r2 = 0 → P 0 mem1))))) :
    Vw (Ni (d + 1) P) mX9_both 0 [(0, .ref 120), (1, .int x1)] [] mem := by
  refine V_aload_n 0 dX9_both_0 rfl ?_
  refine V_iload_n 1 dX9_both_1 rfl ?_
  refine V_cVi [.int x1] mv_X9_test w_628 dX9_both_2 wf_rok_m sh_a120 rfl (by decide) rfl rfl (Nat.le_of_ble_eq_true rfl) h ?_
  intro r2 mem1 h
  refine V_if_ne (tgt := 10) dX9_both_5 rfl ⟨fun c3 => ?_, fun c3 => ?_⟩
  · have h := h.1 c3
    exact h
  · have h := h.2 c3
    refine V_iconst (v := 0) dX9_both_8 rfl ?_
    exact V_zret dX9_both_9 rfl rfl h
set_option maxRecDepth 20000 in
theorem b_X9_both_10 {d : Nat} {P : Int32 → wf_Mem → Prop} (mem : wf_Mem) (x1 : Int32)
    (h : (Ci mX9_isSign d [.ref 120, .int 38] mem (fun r2 mem1 => ((r2 = 0 → P 1 mem1) ∧ (¬ r2 = 0 → (Cv mX9_nextToken d [.ref 120] mem1 (fun mem4 => (Ci mX9_test d [.ref 120, .int x1] mem4 (fun r6 mem5 => ((¬ r6 = 0 → (Cv mX9_step d [.ref 120, .int 2, .int 38] mem5 (fun mem8 => Vw (Ni (d + 1) P) mX9_both 10 [(0, .ref 120), (1, .int x1)] [] mem8))) ∧ (r6 = 0 → P 0 mem5))))))))))) :
    Vw (Ni (d + 1) P) mX9_both 10 [(0, .ref 120), (1, .int x1)] [] mem := by
  refine V_aload_n 0 dX9_both_10 rfl ?_
  refine V_bipush (v := 38) dX9_both_11 rfl ?_
  refine V_cVi [.int 38] mv_X9_isSign w_616 dX9_both_13 wf_rok_m sh_a120 rfl (by decide) rfl rfl (Nat.le_of_ble_eq_true rfl) h ?_
  intro r2 mem1 h
  refine V_if_eq (tgt := 43) dX9_both_16 rfl ⟨fun c3 => ?_, fun c3 => ?_⟩
  · have h := h.1 c3
    refine V_iconst (v := 1) dX9_both_43 rfl ?_
    exact V_zret dX9_both_44 rfl rfl h
  · have h := h.2 c3
    refine V_aload_n 0 dX9_both_19 rfl ?_
    refine V_cVv [] mv_X9_nextToken w_620 dX9_both_20 wf_rok_m sh_a120 rfl (by decide) rfl rfl (Nat.le_of_ble_eq_true rfl) h ?_
    intro mem4 h
    refine V_aload_n 0 dX9_both_23 rfl ?_
    refine V_iload_n 1 dX9_both_24 rfl ?_
    refine V_cVi [.int x1] mv_X9_test w_628 dX9_both_25 wf_rok_m sh_a120 rfl (by decide) rfl rfl (Nat.le_of_ble_eq_true rfl) h ?_
    intro r6 mem5 h
    refine V_if_ne (tgt := 33) dX9_both_28 rfl ⟨fun c7 => ?_, fun c7 => ?_⟩
    · have h := h.1 c7
      refine V_aload_n 0 dX9_both_33 rfl ?_
      refine V_iconst (v := 2) dX9_both_34 rfl ?_
      refine V_bipush (v := 38) dX9_both_35 rfl ?_
      refine V_cVv [.int 2, .int 38] mv_X9_step w_624 dX9_both_37 wf_rok_m sh_a120 rfl (by decide) rfl rfl (Nat.le_of_ble_eq_true rfl) h ?_
      intro mem8 h
      refine V_goto (tgt := 10) dX9_both_40 rfl ?_
      exact h
    · have h := h.2 c7
      refine V_iconst (v := 0) dX9_both_31 rfl ?_
      exact V_zret dX9_both_32 rfl rfl h
set_option maxRecDepth 20000 in
theorem b_X9_test_0 {d : Nat} {P : Int32 → wf_Mem → Prop} (mem : wf_Mem) (x1 : Int32)
    (h : (Ci mX9_sum d [.ref 120, .int x1] mem (fun r2 mem1 => ((¬ r2 = 0 → (Ci mX9_isSign d [.ref 120, .int 60] mem1 (fun r5 mem4 => ((¬ r5 = 0 → Vw (Ni (d + 1) P) mX9_test 37 [(0, .ref 120), (1, .int x1)] [] mem4) ∧ (r5 = 0 → (Ci mX9_isSign d [.ref 120, .int 61] mem4 (fun r8 mem7 => ((¬ r8 = 0 → Vw (Ni (d + 1) P) mX9_test 37 [(0, .ref 120), (1, .int x1)] [] mem7) ∧ (r8 = 0 → (Ci mX9_isSign d [.ref 120, .int 62] mem7 (fun r11 mem10 => ((r11 = 0 → P 1 mem10) ∧ (¬ r11 = 0 → Vw (Ni (d + 1) P) mX9_test 37 [(0, .ref 120), (1, .int x1)] [] mem10))))))))))))) ∧ (r2 = 0 → P 0 mem1))))) :
    Vw (Ni (d + 1) P) mX9_test 0 [(0, .ref 120), (1, .int x1)] [] mem := by
  refine V_aload_n 0 dX9_test_0 rfl ?_
  refine V_iload_n 1 dX9_test_1 rfl ?_
  refine V_cVi [.int x1] mv_X9_sum w_632 dX9_test_2 wf_rok_m sh_a120 rfl (by decide) rfl rfl (Nat.le_of_ble_eq_true rfl) h ?_
  intro r2 mem1 h
  refine V_if_ne (tgt := 10) dX9_test_5 rfl ⟨fun c3 => ?_, fun c3 => ?_⟩
  · have h := h.1 c3
    refine V_aload_n 0 dX9_test_10 rfl ?_
    refine V_bipush (v := 60) dX9_test_11 rfl ?_
    refine V_cVi [.int 60] mv_X9_isSign w_616 dX9_test_13 wf_rok_m sh_a120 rfl (by decide) rfl rfl (Nat.le_of_ble_eq_true rfl) h ?_
    intro r5 mem4 h
    refine V_if_ne (tgt := 37) dX9_test_16 rfl ⟨fun c6 => ?_, fun c6 => ?_⟩
    · have h := h.1 c6
      exact h
    · have h := h.2 c6
      refine V_aload_n 0 dX9_test_19 rfl ?_
      refine V_bipush (v := 61) dX9_test_20 rfl ?_
      refine V_cVi [.int 61] mv_X9_isSign w_616 dX9_test_22 wf_rok_m sh_a120 rfl (by decide) rfl rfl (Nat.le_of_ble_eq_true rfl) h ?_
      intro r8 mem7 h
      refine V_if_ne (tgt := 37) dX9_test_25 rfl ⟨fun c9 => ?_, fun c9 => ?_⟩
      · have h := h.1 c9
        exact h
      · have h := h.2 c9
        refine V_aload_n 0 dX9_test_28 rfl ?_
        refine V_bipush (v := 62) dX9_test_29 rfl ?_
        refine V_cVi [.int 62] mv_X9_isSign w_616 dX9_test_31 wf_rok_m sh_a120 rfl (by decide) rfl rfl (Nat.le_of_ble_eq_true rfl) h ?_
        intro r11 mem10 h
        refine V_if_eq (tgt := 62) dX9_test_34 rfl ⟨fun c12 => ?_, fun c12 => ?_⟩
        · have h := h.1 c12
          refine V_iconst (v := 1) dX9_test_62 rfl ?_
          exact V_zret dX9_test_63 rfl rfl h
        · have h := h.2 c12
          exact h
  · have h := h.2 c3
    refine V_iconst (v := 0) dX9_test_8 rfl ?_
    exact V_zret dX9_test_9 rfl rfl h
set_option maxRecDepth 20000 in
theorem b_X9_test_37 {d : Nat} {P : Int32 → wf_Mem → Prop} (mem : wf_Mem) (x1 : Int32)
    (h : (∀ x2_1 : Int32, x2_1 = (mem 120 21) → (Cv mX9_nextToken d [.ref 120] mem (fun mem2 => (Ci mX9_sum d [.ref 120, .int x1] mem2 (fun r4 mem3 => ((¬ r4 = 0 → (Cv mX9_step d [.ref 120, .int 2, .int x2_1] mem3 (fun mem6 => P 1 mem6))) ∧ (r4 = 0 → P 0 mem3)))))))) :
    Vw (Ni (d + 1) P) mX9_test 37 [(0, .ref 120), (1, .int x1)] [] mem := by
  refine V_aload_n 0 dX9_test_37 rfl ?_
  refine V_getf (v := .int (mem 120 21)) gf_X9_232 dX9_test_38 sh_a120 rfl ?_
  refine V_topi (fun x2_1 ex2_1 => ?_)
  have h := h x2_1 ex2_1
  refine V_istore_n (lv' := [(0, .ref 120), (1, .int x1), (2, .int x2_1)]) dX9_test_41 (by decide) rfl rfl ?_
  refine V_aload_n 0 dX9_test_42 rfl ?_
  refine V_cVv [] mv_X9_nextToken w_620 dX9_test_43 wf_rok_m sh_a120 rfl (by decide) rfl rfl (Nat.le_of_ble_eq_true rfl) h ?_
  intro mem2 h
  refine V_aload_n 0 dX9_test_46 rfl ?_
  refine V_iload_n 1 dX9_test_47 rfl ?_
  refine V_cVi [.int x1] mv_X9_sum w_632 dX9_test_48 wf_rok_m sh_a120 rfl (by decide) rfl rfl (Nat.le_of_ble_eq_true rfl) h ?_
  intro r4 mem3 h
  refine V_if_ne (tgt := 56) dX9_test_51 rfl ⟨fun c5 => ?_, fun c5 => ?_⟩
  · have h := h.1 c5
    refine V_aload_n 0 dX9_test_56 rfl ?_
    refine V_iconst (v := 2) dX9_test_57 rfl ?_
    refine V_iload_n 2 dX9_test_58 rfl ?_
    refine V_cVv [.int 2, .int x2_1] mv_X9_step w_624 dX9_test_59 wf_rok_m sh_a120 rfl (by decide) rfl rfl (Nat.le_of_ble_eq_true rfl) h ?_
    intro mem6 h
    refine V_iconst (v := 1) dX9_test_62 rfl ?_
    exact V_zret dX9_test_63 rfl rfl h
  · have h := h.2 c5
    refine V_iconst (v := 0) dX9_test_54 rfl ?_
    exact V_zret dX9_test_55 rfl rfl h
set_option maxRecDepth 20000 in
theorem b_X9_sum_0 {d : Nat} {P : Int32 → wf_Mem → Prop} (mem : wf_Mem) (x1 : Int32)
    (h : (Ci mX9_term d [.ref 120, .int x1] mem (fun r2 mem1 => ((¬ r2 = 0 → Vw (Ni (d + 1) P) mX9_sum 10 [(0, .ref 120), (1, .int x1)] [] mem1) ∧ (r2 = 0 → P 0 mem1))))) :
    Vw (Ni (d + 1) P) mX9_sum 0 [(0, .ref 120), (1, .int x1)] [] mem := by
  refine V_aload_n 0 dX9_sum_0 rfl ?_
  refine V_iload_n 1 dX9_sum_1 rfl ?_
  refine V_cVi [.int x1] mv_X9_term w_636 dX9_sum_2 wf_rok_m sh_a120 rfl (by decide) rfl rfl (Nat.le_of_ble_eq_true rfl) h ?_
  intro r2 mem1 h
  refine V_if_ne (tgt := 10) dX9_sum_5 rfl ⟨fun c3 => ?_, fun c3 => ?_⟩
  · have h := h.1 c3
    exact h
  · have h := h.2 c3
    refine V_iconst (v := 0) dX9_sum_8 rfl ?_
    exact V_zret dX9_sum_9 rfl rfl h
set_option maxRecDepth 20000 in
theorem b_X9_sum_10 {d : Nat} {P : Int32 → wf_Mem → Prop} (mem : wf_Mem) (x1 : Int32)
    (h : (Ci mX9_isSign d [.ref 120, .int 43] mem (fun r2 mem1 => ((¬ r2 = 0 → Vw (Ni (d + 1) P) mX9_sum 28 [(0, .ref 120), (1, .int x1)] [] mem1) ∧ (r2 = 0 → (Ci mX9_isSign d [.ref 120, .int 45] mem1 (fun r5 mem4 => ((r5 = 0 → P 1 mem4) ∧ (¬ r5 = 0 → Vw (Ni (d + 1) P) mX9_sum 28 [(0, .ref 120), (1, .int x1)] [] mem4))))))))) :
    Vw (Ni (d + 1) P) mX9_sum 10 [(0, .ref 120), (1, .int x1)] [] mem := by
  refine V_aload_n 0 dX9_sum_10 rfl ?_
  refine V_bipush (v := 43) dX9_sum_11 rfl ?_
  refine V_cVi [.int 43] mv_X9_isSign w_616 dX9_sum_13 wf_rok_m sh_a120 rfl (by decide) rfl rfl (Nat.le_of_ble_eq_true rfl) h ?_
  intro r2 mem1 h
  refine V_if_ne (tgt := 28) dX9_sum_16 rfl ⟨fun c3 => ?_, fun c3 => ?_⟩
  · have h := h.1 c3
    exact h
  · have h := h.2 c3
    refine V_aload_n 0 dX9_sum_19 rfl ?_
    refine V_bipush (v := 45) dX9_sum_20 rfl ?_
    refine V_cVi [.int 45] mv_X9_isSign w_616 dX9_sum_22 wf_rok_m sh_a120 rfl (by decide) rfl rfl (Nat.le_of_ble_eq_true rfl) h ?_
    intro r5 mem4 h
    refine V_if_eq (tgt := 56) dX9_sum_25 rfl ⟨fun c6 => ?_, fun c6 => ?_⟩
    · have h := h.1 c6
      refine V_iconst (v := 1) dX9_sum_56 rfl ?_
      exact V_zret dX9_sum_57 rfl rfl h
    · have h := h.2 c6
      exact h
set_option maxRecDepth 20000 in
theorem b_X9_sum_28 {d : Nat} {P : Int32 → wf_Mem → Prop} (mem : wf_Mem) (x1 : Int32)
    (h : (∀ x2_1 : Int32, x2_1 = (mem 120 21) → (Cv mX9_nextToken d [.ref 120] mem (fun mem2 => (Ci mX9_term d [.ref 120, .int x1] mem2 (fun r4 mem3 => ((¬ r4 = 0 → (Cv mX9_step d [.ref 120, .int 2, .int x2_1] mem3 (fun mem6 => Vw (Ni (d + 1) P) mX9_sum 10 [(0, .ref 120), (1, .int x1)] [] mem6))) ∧ (r4 = 0 → P 0 mem3)))))))) :
    Vw (Ni (d + 1) P) mX9_sum 28 [(0, .ref 120), (1, .int x1)] [] mem := by
  refine V_aload_n 0 dX9_sum_28 rfl ?_
  refine V_getf (v := .int (mem 120 21)) gf_X9_232 dX9_sum_29 sh_a120 rfl ?_
  refine V_topi (fun x2_1 ex2_1 => ?_)
  have h := h x2_1 ex2_1
  refine V_istore_n (lv' := [(0, .ref 120), (1, .int x1), (2, .int x2_1)]) dX9_sum_32 (by decide) rfl rfl ?_
  refine V_aload_n 0 dX9_sum_33 rfl ?_
  refine V_cVv [] mv_X9_nextToken w_620 dX9_sum_34 wf_rok_m sh_a120 rfl (by decide) rfl rfl (Nat.le_of_ble_eq_true rfl) h ?_
  intro mem2 h
  refine V_aload_n 0 dX9_sum_37 rfl ?_
  refine V_iload_n 1 dX9_sum_38 rfl ?_
  refine V_cVi [.int x1] mv_X9_term w_636 dX9_sum_39 wf_rok_m sh_a120 rfl (by decide) rfl rfl (Nat.le_of_ble_eq_true rfl) h ?_
  intro r4 mem3 h
  refine V_if_ne (tgt := 47) dX9_sum_42 rfl ⟨fun c5 => ?_, fun c5 => ?_⟩
  · have h := h.1 c5
    refine V_aload_n 0 dX9_sum_47 rfl ?_
    refine V_iconst (v := 2) dX9_sum_48 rfl ?_
    refine V_iload_n 2 dX9_sum_49 rfl ?_
    refine V_cVv [.int 2, .int x2_1] mv_X9_step w_624 dX9_sum_50 wf_rok_m sh_a120 rfl (by decide) rfl rfl (Nat.le_of_ble_eq_true rfl) h ?_
    intro mem6 h
    refine V_goto (tgt := 10) dX9_sum_53 rfl ?_
    exact V_sub [0, 1] rfl h
  · have h := h.2 c5
    refine V_iconst (v := 0) dX9_sum_45 rfl ?_
    exact V_zret dX9_sum_46 rfl rfl h
set_option maxRecDepth 20000 in
theorem b_X9_term_0 {d : Nat} {P : Int32 → wf_Mem → Prop} (mem : wf_Mem) (x1 : Int32)
    (h : (Ci mX9_part0 d [.ref 120, .int x1] mem (fun r2 mem1 => ((¬ r2 = 0 → Vw (Ni (d + 1) P) mX9_term 10 [(0, .ref 120), (1, .int x1)] [] mem1) ∧ (r2 = 0 → P 0 mem1))))) :
    Vw (Ni (d + 1) P) mX9_term 0 [(0, .ref 120), (1, .int x1)] [] mem := by
  refine V_aload_n 0 dX9_term_0 rfl ?_
  refine V_iload_n 1 dX9_term_1 rfl ?_
  refine V_cVi [.int x1] mv_X9_part0 w_640 dX9_term_2 wf_rok_m sh_a120 rfl (by decide) rfl rfl (Nat.le_of_ble_eq_true rfl) h ?_
  intro r2 mem1 h
  refine V_if_ne (tgt := 10) dX9_term_5 rfl ⟨fun c3 => ?_, fun c3 => ?_⟩
  · have h := h.1 c3
    exact h
  · have h := h.2 c3
    refine V_iconst (v := 0) dX9_term_8 rfl ?_
    exact V_zret dX9_term_9 rfl rfl h
set_option maxRecDepth 20000 in
theorem b_X9_term_10 {d : Nat} {P : Int32 → wf_Mem → Prop} (mem : wf_Mem) (x1 : Int32)
    (h : (Ci mX9_isSign d [.ref 120, .int 42] mem (fun r2 mem1 => ((¬ r2 = 0 → Vw (Ni (d + 1) P) mX9_term 28 [(0, .ref 120), (1, .int x1)] [] mem1) ∧ (r2 = 0 → (Ci mX9_isSign d [.ref 120, .int 47] mem1 (fun r5 mem4 => ((r5 = 0 → P 1 mem4) ∧ (¬ r5 = 0 → Vw (Ni (d + 1) P) mX9_term 28 [(0, .ref 120), (1, .int x1)] [] mem4))))))))) :
    Vw (Ni (d + 1) P) mX9_term 10 [(0, .ref 120), (1, .int x1)] [] mem := by
  refine V_aload_n 0 dX9_term_10 rfl ?_
  refine V_bipush (v := 42) dX9_term_11 rfl ?_
  refine V_cVi [.int 42] mv_X9_isSign w_616 dX9_term_13 wf_rok_m sh_a120 rfl (by decide) rfl rfl (Nat.le_of_ble_eq_true rfl) h ?_
  intro r2 mem1 h
  refine V_if_ne (tgt := 28) dX9_term_16 rfl ⟨fun c3 => ?_, fun c3 => ?_⟩
  · have h := h.1 c3
    exact h
  · have h := h.2 c3
    refine V_aload_n 0 dX9_term_19 rfl ?_
    refine V_bipush (v := 47) dX9_term_20 rfl ?_
    refine V_cVi [.int 47] mv_X9_isSign w_616 dX9_term_22 wf_rok_m sh_a120 rfl (by decide) rfl rfl (Nat.le_of_ble_eq_true rfl) h ?_
    intro r5 mem4 h
    refine V_if_eq (tgt := 56) dX9_term_25 rfl ⟨fun c6 => ?_, fun c6 => ?_⟩
    · have h := h.1 c6
      refine V_iconst (v := 1) dX9_term_56 rfl ?_
      exact V_zret dX9_term_57 rfl rfl h
    · have h := h.2 c6
      exact h
set_option maxRecDepth 20000 in
theorem b_X9_term_28 {d : Nat} {P : Int32 → wf_Mem → Prop} (mem : wf_Mem) (x1 : Int32)
    (h : (∀ x2_1 : Int32, x2_1 = (mem 120 21) → (Cv mX9_nextToken d [.ref 120] mem (fun mem2 => (Ci mX9_part0 d [.ref 120, .int x1] mem2 (fun r4 mem3 => ((¬ r4 = 0 → (Cv mX9_step d [.ref 120, .int 2, .int x2_1] mem3 (fun mem6 => Vw (Ni (d + 1) P) mX9_term 10 [(0, .ref 120), (1, .int x1)] [] mem6))) ∧ (r4 = 0 → P 0 mem3)))))))) :
    Vw (Ni (d + 1) P) mX9_term 28 [(0, .ref 120), (1, .int x1)] [] mem := by
  refine V_aload_n 0 dX9_term_28 rfl ?_
  refine V_getf (v := .int (mem 120 21)) gf_X9_232 dX9_term_29 sh_a120 rfl ?_
  refine V_topi (fun x2_1 ex2_1 => ?_)
  have h := h x2_1 ex2_1
  refine V_istore_n (lv' := [(0, .ref 120), (1, .int x1), (2, .int x2_1)]) dX9_term_32 (by decide) rfl rfl ?_
  refine V_aload_n 0 dX9_term_33 rfl ?_
  refine V_cVv [] mv_X9_nextToken w_620 dX9_term_34 wf_rok_m sh_a120 rfl (by decide) rfl rfl (Nat.le_of_ble_eq_true rfl) h ?_
  intro mem2 h
  refine V_aload_n 0 dX9_term_37 rfl ?_
  refine V_iload_n 1 dX9_term_38 rfl ?_
  refine V_cVi [.int x1] mv_X9_part0 w_640 dX9_term_39 wf_rok_m sh_a120 rfl (by decide) rfl rfl (Nat.le_of_ble_eq_true rfl) h ?_
  intro r4 mem3 h
  refine V_if_ne (tgt := 47) dX9_term_42 rfl ⟨fun c5 => ?_, fun c5 => ?_⟩
  · have h := h.1 c5
    refine V_aload_n 0 dX9_term_47 rfl ?_
    refine V_iconst (v := 2) dX9_term_48 rfl ?_
    refine V_iload_n 2 dX9_term_49 rfl ?_
    refine V_cVv [.int 2, .int x2_1] mv_X9_step w_624 dX9_term_50 wf_rok_m sh_a120 rfl (by decide) rfl rfl (Nat.le_of_ble_eq_true rfl) h ?_
    intro mem6 h
    refine V_goto (tgt := 10) dX9_term_53 rfl ?_
    exact V_sub [0, 1] rfl h
  · have h := h.2 c5
    refine V_iconst (v := 0) dX9_term_45 rfl ?_
    exact V_zret dX9_term_46 rfl rfl h
set_option maxRecDepth 20000 in
theorem b_X9_part0_0 {d : Nat} {P : Int32 → wf_Mem → Prop} (mem : wf_Mem) (x1 : Int32)
    (h : ((¬ (mem 120 19) = 2 → ((¬ (mem 120 19) = 1 → Vw (Ni (d + 1) P) mX9_part0 84 [(0, .ref 120), (1, .int x1)] [] mem) ∧ ((mem 120 19) = 1 → (((mem 120 21) = 0 → Vw (Ni (d + 1) P) mX9_part0 84 [(0, .ref 120), (1, .int x1)] [] mem) ∧ (¬ (mem 120 21) = 0 → (Ci mX9_isName d [.int x1, .int (mem 120 21)] mem (fun r5 mem4 => ((r5 = 0 → Vw (Ni (d + 1) P) mX9_part0 84 [(0, .ref 120), (1, .int x1)] [] mem4) ∧ (¬ r5 = 0 → (Cv mX9_step d [.ref 120, .int 1, .int (mem4 120 21)] mem4 (fun mem7 => (∀ mem8 : wf_Mem, mem8 = wf_ms mem7 120 26 ((mem7 120 26) + 1) → (Cv mX9_nextToken d [.ref 120] mem8 (fun mem9 => P 1 mem9)))))))))))))) ∧ ((mem 120 19) = 2 → (Cv mX9_step d [.ref 120, .int 0, .int (mem 120 20)] mem (fun mem10 => (∀ mem11 : wf_Mem, mem11 = wf_ms mem10 120 26 ((mem10 120 26) + 1) → (Cv mX9_nextToken d [.ref 120] mem11 (fun mem12 => P 1 mem12)))))))) :
    Vw (Ni (d + 1) P) mX9_part0 0 [(0, .ref 120), (1, .int x1)] [] mem := by
  refine V_aload_n 0 dX9_part0_0 rfl ?_
  refine V_getf (v := .int (mem 120 19)) gf_X9_223 dX9_part0_1 sh_a120 rfl ?_
  refine V_iconst (v := 2) dX9_part0_4 rfl ?_
  refine V_icmp_ne (tgt := 33) dX9_part0_5 rfl ⟨fun c1 => ?_, fun c1 => ?_⟩
  · have h := h.1 c1
    refine V_aload_n 0 dX9_part0_33 rfl ?_
    refine V_getf (v := .int (mem 120 19)) gf_X9_223 dX9_part0_34 sh_a120 rfl ?_
    refine V_iconst (v := 1) dX9_part0_37 rfl ?_
    refine V_icmp_ne (tgt := 84) dX9_part0_38 rfl ⟨fun c2 => ?_, fun c2 => ?_⟩
    · have h := h.1 c2
      exact h
    · have h := h.2 c2
      refine V_aload_n 0 dX9_part0_41 rfl ?_
      refine V_getf (v := .int (mem 120 21)) gf_X9_232 dX9_part0_42 sh_a120 rfl ?_
      refine V_if_eq (tgt := 84) dX9_part0_45 rfl ⟨fun c3 => ?_, fun c3 => ?_⟩
      · have h := h.1 c3
        exact h
      · have h := h.2 c3
        refine V_iload_n 1 dX9_part0_48 rfl ?_
        refine V_aload_n 0 dX9_part0_49 rfl ?_
        refine V_getf (v := .int (mem 120 21)) gf_X9_232 dX9_part0_50 sh_a120 rfl ?_
        refine V_cSi [.int x1, .int (mem 120 21)] ms_X9_isName w_643 dX9_part0_53 wf_rok_m rfl rfl (Nat.le_of_ble_eq_true rfl) h ?_
        intro r5 mem4 h
        refine V_if_eq (tgt := 84) dX9_part0_56 rfl ⟨fun c6 => ?_, fun c6 => ?_⟩
        · have h := h.1 c6
          exact h
        · have h := h.2 c6
          refine V_aload_n 0 dX9_part0_59 rfl ?_
          refine V_iconst (v := 1) dX9_part0_60 rfl ?_
          refine V_aload_n 0 dX9_part0_61 rfl ?_
          refine V_getf (v := .int (mem4 120 21)) gf_X9_232 dX9_part0_62 sh_a120 rfl ?_
          refine V_cVv [.int 1, .int (mem4 120 21)] mv_X9_step w_624 dX9_part0_65 wf_rok_m sh_a120 rfl (by decide) rfl rfl (Nat.le_of_ble_eq_true rfl) h ?_
          intro mem7 h
          refine V_aload_n 0 dX9_part0_68 rfl ?_
          refine V_dup dX9_part0_69 rfl ?_
          refine V_getf (v := .int (mem7 120 26)) gf_X9_280 dX9_part0_70 sh_a120 rfl ?_
          refine V_iconst (v := 1) dX9_part0_73 rfl ?_
          refine V_iadd dX9_part0_74 ?_
          refine V_putf pf_X9_280 dX9_part0_75 sh_a120 rfl rfl ?_
          refine V_topm (fun mem8 emem8 => ?_)
          have h := h mem8 emem8
          refine V_aload_n 0 dX9_part0_78 rfl ?_
          refine V_cVv [] mv_X9_nextToken w_620 dX9_part0_79 wf_rok_m sh_a120 rfl (by decide) rfl rfl (Nat.le_of_ble_eq_true rfl) h ?_
          intro mem9 h
          refine V_iconst (v := 1) dX9_part0_82 rfl ?_
          exact V_zret dX9_part0_83 rfl rfl h
  · have h := h.2 c1
    refine V_aload_n 0 dX9_part0_8 rfl ?_
    refine V_iconst (v := 0) dX9_part0_9 rfl ?_
    refine V_aload_n 0 dX9_part0_10 rfl ?_
    refine V_getf (v := .int (mem 120 20)) gf_X9_238 dX9_part0_11 sh_a120 rfl ?_
    refine V_cVv [.int 0, .int (mem 120 20)] mv_X9_step w_624 dX9_part0_14 wf_rok_m sh_a120 rfl (by decide) rfl rfl (Nat.le_of_ble_eq_true rfl) h ?_
    intro mem10 h
    refine V_aload_n 0 dX9_part0_17 rfl ?_
    refine V_dup dX9_part0_18 rfl ?_
    refine V_getf (v := .int (mem10 120 26)) gf_X9_280 dX9_part0_19 sh_a120 rfl ?_
    refine V_iconst (v := 1) dX9_part0_22 rfl ?_
    refine V_iadd dX9_part0_23 ?_
    refine V_putf pf_X9_280 dX9_part0_24 sh_a120 rfl rfl ?_
    refine V_topm (fun mem11 emem11 => ?_)
    have h := h mem11 emem11
    refine V_aload_n 0 dX9_part0_27 rfl ?_
    refine V_cVv [] mv_X9_nextToken w_620 dX9_part0_28 wf_rok_m sh_a120 rfl (by decide) rfl rfl (Nat.le_of_ble_eq_true rfl) h ?_
    intro mem12 h
    refine V_iconst (v := 1) dX9_part0_31 rfl ?_
    exact V_zret dX9_part0_32 rfl rfl h
set_option maxRecDepth 20000 in
theorem b_X9_part0_84 {d : Nat} {P : Int32 → wf_Mem → Prop} (mem : wf_Mem) (x1 : Int32)
    (h : (Ci mX9_isSign d [.ref 120, .int 33] mem (fun r2 mem1 => ((r2 = 0 → Vw (Ni (d + 1) P) mX9_part0 145 [(0, .ref 120), (1, .int x1)] [] mem1) ∧ (¬ r2 = 0 → ((8 ≤ (mem1 120 23) → Vw (Ni (d + 1) P) mX9_part0 145 [(0, .ref 120), (1, .int x1)] [] mem1) ∧ (¬ 8 ≤ (mem1 120 23) → (∀ mem5 : wf_Mem, mem5 = wf_ms mem1 120 23 ((mem1 120 23) + 1) → (Cv mX9_nextToken d [.ref 120] mem5 (fun mem6 => (Ci mX9_part0 d [.ref 120, .int x1] mem6 (fun r8 mem7 => ((¬ r8 = 0 → (∀ mem10 : wf_Mem, mem10 = wf_ms mem7 120 23 ((mem7 120 23) - 1) → (Cv mX9_step d [.ref 120, .int 2, .int 33] mem10 (fun mem11 => P 1 mem11)))) ∧ (r8 = 0 → P 0 mem7)))))))))))))) :
    Vw (Ni (d + 1) P) mX9_part0 84 [(0, .ref 120), (1, .int x1)] [] mem := by
  refine V_aload_n 0 dX9_part0_84 rfl ?_
  refine V_bipush (v := 33) dX9_part0_85 rfl ?_
  refine V_cVi [.int 33] mv_X9_isSign w_616 dX9_part0_87 wf_rok_m sh_a120 rfl (by decide) rfl rfl (Nat.le_of_ble_eq_true rfl) h ?_
  intro r2 mem1 h
  refine V_if_eq (tgt := 145) dX9_part0_90 rfl ⟨fun c3 => ?_, fun c3 => ?_⟩
  · have h := h.1 c3
    exact h
  · have h := h.2 c3
    refine V_aload_n 0 dX9_part0_93 rfl ?_
    refine V_getf (v := .int (mem1 120 23)) gf_X9_286 dX9_part0_94 sh_a120 rfl ?_
    refine V_bipush (v := 8) dX9_part0_97 rfl ?_
    refine V_icmp_ge (tgt := 145) dX9_part0_99 rfl ⟨fun c4 => ?_, fun c4 => ?_⟩
    · have h := h.1 c4
      exact h
    · have h := h.2 c4
      refine V_aload_n 0 dX9_part0_102 rfl ?_
      refine V_dup dX9_part0_103 rfl ?_
      refine V_getf (v := .int (mem1 120 23)) gf_X9_286 dX9_part0_104 sh_a120 rfl ?_
      refine V_iconst (v := 1) dX9_part0_107 rfl ?_
      refine V_iadd dX9_part0_108 ?_
      refine V_putf pf_X9_286 dX9_part0_109 sh_a120 rfl rfl ?_
      refine V_topm (fun mem5 emem5 => ?_)
      have h := h mem5 emem5
      refine V_aload_n 0 dX9_part0_112 rfl ?_
      refine V_cVv [] mv_X9_nextToken w_620 dX9_part0_113 wf_rok_m sh_a120 rfl (by decide) rfl rfl (Nat.le_of_ble_eq_true rfl) h ?_
      intro mem6 h
      refine V_aload_n 0 dX9_part0_116 rfl ?_
      refine V_iload_n 1 dX9_part0_117 rfl ?_
      refine V_cVi [.int x1] mv_X9_part0 w_640 dX9_part0_118 wf_rok_m sh_a120 rfl (by decide) rfl rfl (Nat.le_of_ble_eq_true rfl) h ?_
      intro r8 mem7 h
      refine V_if_ne (tgt := 126) dX9_part0_121 rfl ⟨fun c9 => ?_, fun c9 => ?_⟩
      · have h := h.1 c9
        refine V_aload_n 0 dX9_part0_126 rfl ?_
        refine V_dup dX9_part0_127 rfl ?_
        refine V_getf (v := .int (mem7 120 23)) gf_X9_286 dX9_part0_128 sh_a120 rfl ?_
        refine V_iconst (v := 1) dX9_part0_131 rfl ?_
        refine V_isub dX9_part0_132 ?_
        refine V_putf pf_X9_286 dX9_part0_133 sh_a120 rfl rfl ?_
        refine V_topm (fun mem10 emem10 => ?_)
        have h := h mem10 emem10
        refine V_aload_n 0 dX9_part0_136 rfl ?_
        refine V_iconst (v := 2) dX9_part0_137 rfl ?_
        refine V_bipush (v := 33) dX9_part0_138 rfl ?_
        refine V_cVv [.int 2, .int 33] mv_X9_step w_624 dX9_part0_140 wf_rok_m sh_a120 rfl (by decide) rfl rfl (Nat.le_of_ble_eq_true rfl) h ?_
        intro mem11 h
        refine V_iconst (v := 1) dX9_part0_143 rfl ?_
        exact V_zret dX9_part0_144 rfl rfl h
      · have h := h.2 c9
        refine V_iconst (v := 0) dX9_part0_124 rfl ?_
        exact V_zret dX9_part0_125 rfl rfl h
set_option maxRecDepth 20000 in
theorem b_X9_part0_145 {d : Nat} {P : Int32 → wf_Mem → Prop} (mem : wf_Mem) (x1 : Int32)
    (h : (Ci mX9_isSign d [.ref 120, .int 40] mem (fun r2 mem1 => ((r2 = 0 → P 0 mem1) ∧ (¬ r2 = 0 → ((¬ (mem1 120 22) = 8 → (∀ mem5 : wf_Mem, mem5 = wf_ms mem1 120 22 ((mem1 120 22) + 1) → (Cv mX9_nextToken d [.ref 120] mem5 (fun mem6 => (Ci mX9_either d [.ref 120, .int x1] mem6 (fun r8 mem7 => ((r8 = 0 → P 0 mem7) ∧ (¬ r8 = 0 → (Ci mX9_isSign d [.ref 120, .int 41] mem7 (fun r11 mem10 => ((¬ r11 = 0 → (∀ mem13 : wf_Mem, mem13 = wf_ms mem10 120 22 ((mem10 120 22) - 1) → (Cv mX9_nextToken d [.ref 120] mem13 (fun mem14 => P 1 mem14)))) ∧ (r11 = 0 → P 0 mem10)))))))))))) ∧ ((mem1 120 22) = 8 → P 0 mem1))))))) :
    Vw (Ni (d + 1) P) mX9_part0 145 [(0, .ref 120), (1, .int x1)] [] mem := by
  refine V_aload_n 0 dX9_part0_145 rfl ?_
  refine V_bipush (v := 40) dX9_part0_146 rfl ?_
  refine V_cVi [.int 40] mv_X9_isSign w_616 dX9_part0_148 wf_rok_m sh_a120 rfl (by decide) rfl rfl (Nat.le_of_ble_eq_true rfl) h ?_
  intro r2 mem1 h
  refine V_if_eq (tgt := 163) dX9_part0_151 rfl ⟨fun c3 => ?_, fun c3 => ?_⟩
  · have h := h.1 c3
    refine V_iconst (v := 0) dX9_part0_163 rfl ?_
    exact V_zret dX9_part0_164 rfl rfl h
  · have h := h.2 c3
    refine V_aload_n 0 dX9_part0_154 rfl ?_
    refine V_getf (v := .int (mem1 120 22)) gf_X9_289 dX9_part0_155 sh_a120 rfl ?_
    refine V_bipush (v := 8) dX9_part0_158 rfl ?_
    refine V_icmp_ne (tgt := 165) dX9_part0_160 rfl ⟨fun c4 => ?_, fun c4 => ?_⟩
    · have h := h.1 c4
      refine V_aload_n 0 dX9_part0_165 rfl ?_
      refine V_dup dX9_part0_166 rfl ?_
      refine V_getf (v := .int (mem1 120 22)) gf_X9_289 dX9_part0_167 sh_a120 rfl ?_
      refine V_iconst (v := 1) dX9_part0_170 rfl ?_
      refine V_iadd dX9_part0_171 ?_
      refine V_putf pf_X9_289 dX9_part0_172 sh_a120 rfl rfl ?_
      refine V_topm (fun mem5 emem5 => ?_)
      have h := h mem5 emem5
      refine V_aload_n 0 dX9_part0_175 rfl ?_
      refine V_cVv [] mv_X9_nextToken w_620 dX9_part0_176 wf_rok_m sh_a120 rfl (by decide) rfl rfl (Nat.le_of_ble_eq_true rfl) h ?_
      intro mem6 h
      refine V_aload_n 0 dX9_part0_179 rfl ?_
      refine V_iload_n 1 dX9_part0_180 rfl ?_
      refine V_cVi [.int x1] mv_X9_either w_650 dX9_part0_181 wf_rok_m sh_a120 rfl (by decide) rfl rfl (Nat.le_of_ble_eq_true rfl) h ?_
      intro r8 mem7 h
      refine V_if_eq (tgt := 196) dX9_part0_184 rfl ⟨fun c9 => ?_, fun c9 => ?_⟩
      · have h := h.1 c9
        refine V_iconst (v := 0) dX9_part0_196 rfl ?_
        exact V_zret dX9_part0_197 rfl rfl h
      · have h := h.2 c9
        refine V_aload_n 0 dX9_part0_187 rfl ?_
        refine V_bipush (v := 41) dX9_part0_188 rfl ?_
        refine V_cVi [.int 41] mv_X9_isSign w_616 dX9_part0_190 wf_rok_m sh_a120 rfl (by decide) rfl rfl (Nat.le_of_ble_eq_true rfl) h ?_
        intro r11 mem10 h
        refine V_if_ne (tgt := 198) dX9_part0_193 rfl ⟨fun c12 => ?_, fun c12 => ?_⟩
        · have h := h.1 c12
          refine V_aload_n 0 dX9_part0_198 rfl ?_
          refine V_dup dX9_part0_199 rfl ?_
          refine V_getf (v := .int (mem10 120 22)) gf_X9_289 dX9_part0_200 sh_a120 rfl ?_
          refine V_iconst (v := 1) dX9_part0_203 rfl ?_
          refine V_isub dX9_part0_204 ?_
          refine V_putf pf_X9_289 dX9_part0_205 sh_a120 rfl rfl ?_
          refine V_topm (fun mem13 emem13 => ?_)
          have h := h mem13 emem13
          refine V_aload_n 0 dX9_part0_208 rfl ?_
          refine V_cVv [] mv_X9_nextToken w_620 dX9_part0_209 wf_rok_m sh_a120 rfl (by decide) rfl rfl (Nat.le_of_ble_eq_true rfl) h ?_
          intro mem14 h
          refine V_iconst (v := 1) dX9_part0_212 rfl ?_
          exact V_zret dX9_part0_213 rfl rfl h
        · have h := h.2 c12
          refine V_iconst (v := 0) dX9_part0_196 rfl ?_
          exact V_zret dX9_part0_197 rfl rfl h
    · have h := h.2 c4
      refine V_iconst (v := 0) dX9_part0_163 rfl ?_
      exact V_zret dX9_part0_164 rfl rfl h
set_option maxRecDepth 20000 in
theorem b_X9_parse_0 {d : Nat} {P : Int32 → wf_Mem → Prop} (mem : wf_Mem) 
    (h : (∀ mem1 : wf_Mem, mem1 = wf_ms mem 120 18 0 → (∀ mem2 : wf_Mem, mem2 = wf_ms mem1 120 19 3 → (∀ mem3 : wf_Mem, mem3 = wf_ms mem2 120 22 0 → (∀ mem4 : wf_Mem, mem4 = wf_ms mem3 120 23 0 → (∀ mem5 : wf_Mem, mem5 = wf_ms mem4 120 24 0 → (∀ mem6 : wf_Mem, mem6 = wf_ms mem5 120 26 0 → ((14 ≤ (mem6 121 2) → Vw (Ni (d + 1) P) mX9_parse 60 [(0, .ref 120)] [.int 2888, .ref 120] mem6) ∧ (¬ 14 ≤ (mem6 121 2) → (Ci mX9_textAt d [.ref 120, .int (mem6 121 2)] mem6 (fun r9 mem8 => Vw (Ni (d + 1) P) mX9_parse 60 [(0, .ref 120)] [.int (r9 + 4), .ref 120] mem8))))))))))) :
    Vw (Ni (d + 1) P) mX9_parse 0 [(0, .ref 120)] [] mem := by
  refine V_aload_n 0 dX9_parse_0 rfl ?_
  refine V_iconst (v := 0) dX9_parse_1 rfl ?_
  refine V_putf pf_X9_220 dX9_parse_2 sh_a120 rfl rfl ?_
  refine V_topm (fun mem1 emem1 => ?_)
  have h := h mem1 emem1
  refine V_aload_n 0 dX9_parse_5 rfl ?_
  refine V_iconst (v := 3) dX9_parse_6 rfl ?_
  refine V_putf pf_X9_223 dX9_parse_7 sh_a120 rfl rfl ?_
  refine V_topm (fun mem2 emem2 => ?_)
  have h := h mem2 emem2
  refine V_aload_n 0 dX9_parse_10 rfl ?_
  refine V_iconst (v := 0) dX9_parse_11 rfl ?_
  refine V_putf pf_X9_289 dX9_parse_12 sh_a120 rfl rfl ?_
  refine V_topm (fun mem3 emem3 => ?_)
  have h := h mem3 emem3
  refine V_aload_n 0 dX9_parse_15 rfl ?_
  refine V_iconst (v := 0) dX9_parse_16 rfl ?_
  refine V_putf pf_X9_286 dX9_parse_17 sh_a120 rfl rfl ?_
  refine V_topm (fun mem4 emem4 => ?_)
  have h := h mem4 emem4
  refine V_aload_n 0 dX9_parse_20 rfl ?_
  refine V_iconst (v := 0) dX9_parse_21 rfl ?_
  refine V_putf pf_X9_252 dX9_parse_22 sh_a120 rfl rfl ?_
  refine V_topm (fun mem5 emem5 => ?_)
  have h := h mem5 emem5
  refine V_aload_n 0 dX9_parse_25 rfl ?_
  refine V_iconst (v := 0) dX9_parse_26 rfl ?_
  refine V_putf pf_X9_280 dX9_parse_27 sh_a120 rfl rfl ?_
  refine V_topm (fun mem6 emem6 => ?_)
  have h := h mem6 emem6
  refine V_aload_n 0 dX9_parse_30 rfl ?_
  refine V_aload_n 0 dX9_parse_31 rfl ?_
  refine V_getf (v := .ref 121) gf_X9_7 dX9_parse_32 sh_a120 rfl ?_
  refine V_iconst (v := 2) dX9_parse_35 rfl ?_
  refine V_ildL (j := 2) dX9_parse_36 sh_a121 (by decide) (by decide) ?_
  refine V_bipush (v := 14) dX9_parse_37 rfl ?_
  refine V_icmp_ge (tgt := 57) dX9_parse_39 rfl ⟨fun c7 => ?_, fun c7 => ?_⟩
  · have h := h.1 c7
    refine V_sipush (v := 2888) dX9_parse_57 rfl ?_
    exact h
  · have h := h.2 c7
    refine V_aload_n 0 dX9_parse_42 rfl ?_
    refine V_aload_n 0 dX9_parse_43 rfl ?_
    refine V_getf (v := .ref 121) gf_X9_7 dX9_parse_44 sh_a120 rfl ?_
    refine V_iconst (v := 2) dX9_parse_47 rfl ?_
    refine V_ildL (j := 2) dX9_parse_48 sh_a121 (by decide) (by decide) ?_
    refine V_cVi [.int (mem6 121 2)] mv_X9_textAt w_654 dX9_parse_49 wf_rok_m sh_a120 rfl (by decide) rfl rfl (Nat.le_of_ble_eq_true rfl) h ?_
    intro r9 mem8 h
    refine V_iconst (v := 4) dX9_parse_52 rfl ?_
    refine V_iadd dX9_parse_53 ?_
    refine V_goto (tgt := 60) dX9_parse_54 rfl ?_
    exact h
set_option maxRecDepth 20000 in
theorem b_X9_parse_60 {d : Nat} {P : Int32 → wf_Mem → Prop} (mem : wf_Mem) (y1 : Int32)
    (h : (∀ mem1 : wf_Mem, mem1 = wf_ms mem 120 25 y1 → (Cv mX9_nextToken d [.ref 120] mem1 (fun mem2 => (Ci mX9_key d [.ref 120] mem2 (fun r4 mem3 => ((r4 < 0 → Vw (Ni (d + 1) P) mX9_parse 81 [(0, .ref 120), (1, .int r4)] [.int 0] mem3) ∧ (¬ r4 < 0 → Vw (Ni (d + 1) P) mX9_parse 81 [(0, .ref 120), (1, .int r4)] [.int 1] mem3)))))))) :
    Vw (Ni (d + 1) P) mX9_parse 60 [(0, .ref 120)] [.int y1, .ref 120] mem := by
  refine V_putf pf_X9_249 dX9_parse_60 sh_a120 rfl rfl ?_
  refine V_topm (fun mem1 emem1 => ?_)
  have h := h mem1 emem1
  refine V_aload_n 0 dX9_parse_63 rfl ?_
  refine V_cVv [] mv_X9_nextToken w_620 dX9_parse_64 wf_rok_m sh_a120 rfl (by decide) rfl rfl (Nat.le_of_ble_eq_true rfl) h ?_
  intro mem2 h
  refine V_aload_n 0 dX9_parse_67 rfl ?_
  refine V_cVi [] mv_X9_key w_658 dX9_parse_68 wf_rok_m sh_a120 rfl (by decide) rfl rfl (Nat.le_of_ble_eq_true rfl) h ?_
  intro r4 mem3 h
  refine V_istore_n (lv' := [(0, .ref 120), (1, .int r4)]) dX9_parse_71 (by decide) rfl rfl ?_
  refine V_iload_n 1 dX9_parse_72 rfl ?_
  refine V_if_lt (tgt := 80) dX9_parse_73 rfl ⟨fun c5 => ?_, fun c5 => ?_⟩
  · have h := h.1 c5
    refine V_iconst (v := 0) dX9_parse_80 rfl ?_
    exact h
  · have h := h.2 c5
    refine V_iconst (v := 1) dX9_parse_76 rfl ?_
    refine V_goto (tgt := 81) dX9_parse_77 rfl ?_
    exact h
set_option maxRecDepth 20000 in
theorem b_X9_parse_81 {d : Nat} {P : Int32 → wf_Mem → Prop} (mem : wf_Mem) (x1 : Int32) (y0 : Int32)
    (h : ((y0 = 0 → (∀ mem2 : wf_Mem, mem2 = wf_ms mem 120 16 0 → ((y0 = 0 → P (-1) mem2) ∧ (¬ y0 = 0 → P x1 mem2)))) ∧ (¬ y0 = 0 → (Cv mX9_nextToken d [.ref 120] mem (fun mem4 => (Ci mX9_either d [.ref 120, .int x1] mem4 (fun r6 mem5 => ((r6 = 0 → (∀ mem8 : wf_Mem, mem8 = wf_ms mem5 120 16 0 → P (-1) mem8)) ∧ (¬ r6 = 0 → ((¬ (mem5 120 19) = 0 → (∀ mem11 : wf_Mem, mem11 = wf_ms mem5 120 16 0 → P (-1) mem11)) ∧ ((mem5 120 19) = 0 → (∀ mem13 : wf_Mem, mem13 = wf_ms mem5 120 16 0 → P x1 mem13)))))))))))) :
    Vw (Ni (d + 1) P) mX9_parse 81 [(0, .ref 120), (1, .int x1)] [.int y0] mem := by
  refine V_istore_n (lv' := [(0, .ref 120), (1, .int x1), (2, .int y0)]) dX9_parse_81 (by decide) rfl rfl ?_
  refine V_iload_n 2 dX9_parse_82 rfl ?_
  refine V_if_eq (tgt := 111) dX9_parse_83 rfl ⟨fun c1 => ?_, fun c1 => ?_⟩
  · have h := h.1 c1
    refine V_aload_n 0 dX9_parse_111 rfl ?_
    refine V_iconst (v := 0) dX9_parse_112 rfl ?_
    refine V_putf pf_X9_209 dX9_parse_113 sh_a120 rfl rfl ?_
    refine V_topm (fun mem2 emem2 => ?_)
    have h := h mem2 emem2
    refine V_iload_n 2 dX9_parse_116 rfl ?_
    refine V_if_eq (tgt := 124) dX9_parse_117 rfl ⟨fun c3 => ?_, fun c3 => ?_⟩
    · have h := h.1 c3
      refine V_iconst (v := (-1)) dX9_parse_124 rfl ?_
      exact V_iret dX9_parse_125 rfl h
    · have h := h.2 c3
      refine V_iload_n 1 dX9_parse_120 rfl ?_
      refine V_goto (tgt := 125) dX9_parse_121 rfl ?_
      exact V_iret dX9_parse_125 rfl h
  · have h := h.2 c1
    refine V_aload_n 0 dX9_parse_86 rfl ?_
    refine V_cVv [] mv_X9_nextToken w_620 dX9_parse_87 wf_rok_m sh_a120 rfl (by decide) rfl rfl (Nat.le_of_ble_eq_true rfl) h ?_
    intro mem4 h
    refine V_aload_n 0 dX9_parse_90 rfl ?_
    refine V_iload_n 1 dX9_parse_91 rfl ?_
    refine V_cVi [.int x1] mv_X9_either w_650 dX9_parse_92 wf_rok_m sh_a120 rfl (by decide) rfl rfl (Nat.le_of_ble_eq_true rfl) h ?_
    intro r6 mem5 h
    refine V_if_eq (tgt := 109) dX9_parse_95 rfl ⟨fun c7 => ?_, fun c7 => ?_⟩
    · have h := h.1 c7
      refine V_iconst (v := 0) dX9_parse_109 rfl ?_
      refine V_istore_n (lv' := [(0, .ref 120), (1, .int x1), (2, .int 0)]) dX9_parse_110 (by decide) rfl rfl ?_
      refine V_aload_n 0 dX9_parse_111 rfl ?_
      refine V_iconst (v := 0) dX9_parse_112 rfl ?_
      refine V_putf pf_X9_209 dX9_parse_113 sh_a120 rfl rfl ?_
      refine V_topm (fun mem8 emem8 => ?_)
      have h := h mem8 emem8
      refine V_iload_n 2 dX9_parse_116 rfl ?_
      refine V_if_eq (tgt := 124) dX9_parse_117 rfl ⟨fun c9 => ?_, fun c9 => ?_⟩
      · refine V_iconst (v := (-1)) dX9_parse_124 rfl ?_
        exact V_iret dX9_parse_125 rfl h
      · exact absurd c9 (by decide)
    · have h := h.2 c7
      refine V_aload_n 0 dX9_parse_98 rfl ?_
      refine V_getf (v := .int (mem5 120 19)) gf_X9_223 dX9_parse_99 sh_a120 rfl ?_
      refine V_if_ne (tgt := 109) dX9_parse_102 rfl ⟨fun c10 => ?_, fun c10 => ?_⟩
      · have h := h.1 c10
        refine V_iconst (v := 0) dX9_parse_109 rfl ?_
        refine V_istore_n (lv' := [(0, .ref 120), (1, .int x1), (2, .int 0)]) dX9_parse_110 (by decide) rfl rfl ?_
        refine V_aload_n 0 dX9_parse_111 rfl ?_
        refine V_iconst (v := 0) dX9_parse_112 rfl ?_
        refine V_putf pf_X9_209 dX9_parse_113 sh_a120 rfl rfl ?_
        refine V_topm (fun mem11 emem11 => ?_)
        have h := h mem11 emem11
        refine V_iload_n 2 dX9_parse_116 rfl ?_
        refine V_if_eq (tgt := 124) dX9_parse_117 rfl ⟨fun c12 => ?_, fun c12 => ?_⟩
        · refine V_iconst (v := (-1)) dX9_parse_124 rfl ?_
          exact V_iret dX9_parse_125 rfl h
        · exact absurd c12 (by decide)
      · have h := h.2 c10
        refine V_iconst (v := 1) dX9_parse_105 rfl ?_
        refine V_goto (tgt := 110) dX9_parse_106 rfl ?_
        refine V_istore_n (lv' := [(0, .ref 120), (1, .int x1), (2, .int 1)]) dX9_parse_110 (by decide) rfl rfl ?_
        refine V_aload_n 0 dX9_parse_111 rfl ?_
        refine V_iconst (v := 0) dX9_parse_112 rfl ?_
        refine V_putf pf_X9_209 dX9_parse_113 sh_a120 rfl rfl ?_
        refine V_topm (fun mem13 emem13 => ?_)
        have h := h mem13 emem13
        refine V_iload_n 2 dX9_parse_116 rfl ?_
        refine V_if_eq (tgt := 124) dX9_parse_117 rfl ⟨fun c14 => ?_, fun c14 => ?_⟩
        · exact absurd c14 (by decide)
        · refine V_iload_n 1 dX9_parse_120 rfl ?_
          refine V_goto (tgt := 125) dX9_parse_121 rfl ?_
          exact V_iret dX9_parse_125 rfl h
set_option maxRecDepth 20000 in
theorem b_X9_text_0 {d : Nat} {P : Int32 → wf_Mem → Prop} (mem : wf_Mem) 
    (h : (Ci mX9_parse d [.ref 120] mem (fun r2 mem1 => ((0 ≤ r2 → ((¬ (mem1 121 2) = 14 → (Ci mX9_textAt d [.ref 120, .int (mem1 121 2)] mem1 (fun r6 mem5 => (vp_in (r6 + 0) 3088 ∧ ∀ mem7 : wf_Mem, mem7 = wf_ms mem5 121 (r6 + 0).toNatClampNeg r2 → (vp_in (r6 + 1) 3088 ∧ ∀ mem8 : wf_Mem, mem8 = wf_ms mem7 121 (r6 + 1).toNatClampNeg (mem7 120 26) → (vp_in (r6 + 2) 3088 ∧ ∀ mem9 : wf_Mem, mem9 = wf_ms mem8 121 (r6 + 2).toNatClampNeg (mem8 120 24) → (∀ mem10 : wf_Mem, mem10 = wf_ms mem9 121 2 ((mem9 121 2) + 1) → P ((mem10 121 2) - 1) mem10))))))) ∧ ((mem1 121 2) = 14 → P (-1000000003) mem1))) ∧ (¬ 0 ≤ r2 → P ((-100) - (mem1 120 17)) mem1))))) :
    Vw (Ni (d + 1) P) mX9_text 0 [(0, .ref 120)] [] mem := by
  refine V_aload_n 0 dX9_text_0 rfl ?_
  refine V_cVi [] mv_X9_parse w_662 dX9_text_1 wf_rok_m sh_a120 rfl (by decide) rfl rfl (Nat.le_of_ble_eq_true rfl) h ?_
  intro r2 mem1 h
  refine V_istore_n (lv' := [(0, .ref 120), (1, .int r2)]) dX9_text_4 (by decide) rfl rfl ?_
  refine V_iload_n 1 dX9_text_5 rfl ?_
  refine V_if_ge (tgt := 17) dX9_text_6 rfl ⟨fun c3 => ?_, fun c3 => ?_⟩
  · have h := h.1 c3
    refine V_aload_n 0 dX9_text_17 rfl ?_
    refine V_getf (v := .ref 121) gf_X9_7 dX9_text_18 sh_a120 rfl ?_
    refine V_iconst (v := 2) dX9_text_21 rfl ?_
    refine V_ildL (j := 2) dX9_text_22 sh_a121 (by decide) (by decide) ?_
    refine V_bipush (v := 14) dX9_text_23 rfl ?_
    refine V_icmp_ne (tgt := 31) dX9_text_25 rfl ⟨fun c4 => ?_, fun c4 => ?_⟩
    · have h := h.1 c4
      refine V_aload_n 0 dX9_text_31 rfl ?_
      refine V_aload_n 0 dX9_text_32 rfl ?_
      refine V_getf (v := .ref 121) gf_X9_7 dX9_text_33 sh_a120 rfl ?_
      refine V_iconst (v := 2) dX9_text_36 rfl ?_
      refine V_ildL (j := 2) dX9_text_37 sh_a121 (by decide) (by decide) ?_
      refine V_cVi [.int (mem1 121 2)] mv_X9_textAt w_654 dX9_text_38 wf_rok_m sh_a120 rfl (by decide) rfl rfl (Nat.le_of_ble_eq_true rfl) h ?_
      intro r6 mem5 h
      refine V_istore_n (lv' := [(0, .ref 120), (1, .int r2), (2, .int r6)]) dX9_text_41 (by decide) rfl rfl ?_
      refine V_aload_n 0 dX9_text_42 rfl ?_
      refine V_getf (v := .ref 121) gf_X9_7 dX9_text_43 sh_a120 rfl ?_
      refine V_iload_n 2 dX9_text_46 rfl ?_
      refine V_iconst (v := 0) dX9_text_47 rfl ?_
      refine V_iadd dX9_text_48 ?_
      refine V_iload_n 1 dX9_text_49 rfl ?_
      refine V_iast dX9_text_50 sh_a121 ⟨h.1, ?_⟩
      refine V_topm (fun mem7 emem7 => ?_)
      have h := h.2 mem7 emem7
      refine V_aload_n 0 dX9_text_51 rfl ?_
      refine V_getf (v := .ref 121) gf_X9_7 dX9_text_52 sh_a120 rfl ?_
      refine V_iload_n 2 dX9_text_55 rfl ?_
      refine V_iconst (v := 1) dX9_text_56 rfl ?_
      refine V_iadd dX9_text_57 ?_
      refine V_aload_n 0 dX9_text_58 rfl ?_
      refine V_getf (v := .int (mem7 120 26)) gf_X9_280 dX9_text_59 sh_a120 rfl ?_
      refine V_iast dX9_text_62 sh_a121 ⟨h.1, ?_⟩
      refine V_topm (fun mem8 emem8 => ?_)
      have h := h.2 mem8 emem8
      refine V_aload_n 0 dX9_text_63 rfl ?_
      refine V_getf (v := .ref 121) gf_X9_7 dX9_text_64 sh_a120 rfl ?_
      refine V_iload_n 2 dX9_text_67 rfl ?_
      refine V_iconst (v := 2) dX9_text_68 rfl ?_
      refine V_iadd dX9_text_69 ?_
      refine V_aload_n 0 dX9_text_70 rfl ?_
      refine V_getf (v := .int (mem8 120 24)) gf_X9_252 dX9_text_71 sh_a120 rfl ?_
      refine V_iast dX9_text_74 sh_a121 ⟨h.1, ?_⟩
      refine V_topm (fun mem9 emem9 => ?_)
      have h := h.2 mem9 emem9
      refine V_aload_n 0 dX9_text_75 rfl ?_
      refine V_getf (v := .ref 121) gf_X9_7 dX9_text_76 sh_a120 rfl ?_
      refine V_iconst (v := 2) dX9_text_79 rfl ?_
      refine V_dup2 dX9_text_80 rfl rfl ?_
      refine V_ildL (j := 2) dX9_text_81 sh_a121 (by decide) (by decide) ?_
      refine V_iconst (v := 1) dX9_text_82 rfl ?_
      refine V_iadd dX9_text_83 ?_
      refine V_istL (j := 2) dX9_text_84 sh_a121 (by decide) (by decide) ?_
      refine V_topm (fun mem10 emem10 => ?_)
      have h := h mem10 emem10
      refine V_aload_n 0 dX9_text_85 rfl ?_
      refine V_getf (v := .ref 121) gf_X9_7 dX9_text_86 sh_a120 rfl ?_
      refine V_iconst (v := 2) dX9_text_89 rfl ?_
      refine V_ildL (j := 2) dX9_text_90 sh_a121 (by decide) (by decide) ?_
      refine V_iconst (v := 1) dX9_text_91 rfl ?_
      refine V_isub dX9_text_92 ?_
      exact V_iret dX9_text_93 rfl h
    · have h := h.2 c4
      refine V_ldc w_441 dX9_text_28 ?_
      exact V_iret dX9_text_30 rfl h
  · have h := h.2 c3
    refine V_bipush (v := (-100)) dX9_text_9 rfl ?_
    refine V_aload_n 0 dX9_text_11 rfl ?_
    refine V_getf (v := .int (mem1 120 17)) gf_X9_226 dX9_text_12 sh_a120 rfl ?_
    refine V_isub dX9_text_15 ?_
    exact V_iret dX9_text_16 rfl h
set_option maxRecDepth 20000 in
theorem b_X9_textTold_0 {d : Nat} {P : Int32 → wf_Mem → Prop} (mem : wf_Mem) (x1 : Int32) (x2 : Int32)
    (h : (Ci mX9_isText d [.ref 120, .int x1] mem (fun r2 mem1 => ((r2 = 0 → P (-1000000001) mem1) ∧ (¬ r2 = 0 → (Ci mX9_isIn d [.long (x2 : Int32).toInt64, .long 0, .long 1] mem1 (fun r5 mem4 => ((¬ r5 = 0 → (Ci mX9_textAt d [.ref 120, .int x1] mem4 (fun r8 mem7 => (vp_in (r8 + x2) 3088 ∧ P (mem7 121 (r8 + x2).toNatClampNeg) mem7)))) ∧ (r5 = 0 → P (-1000000001) mem4))))))))) :
    Vw (Ni (d + 1) P) mX9_textTold 0 [(0, .ref 120), (1, .int x1), (2, .int x2)] [] mem := by
  refine V_aload_n 0 dX9_textTold_0 rfl ?_
  refine V_iload_n 1 dX9_textTold_1 rfl ?_
  refine V_cVi [.int x1] mv_X9_isText w_666 dX9_textTold_2 wf_rok_m sh_a120 rfl (by decide) rfl rfl (Nat.le_of_ble_eq_true rfl) h ?_
  intro r2 mem1 h
  refine V_if_eq (tgt := 18) dX9_textTold_5 rfl ⟨fun c3 => ?_, fun c3 => ?_⟩
  · have h := h.1 c3
    refine V_ldc w_442 dX9_textTold_18 ?_
    exact V_iret dX9_textTold_20 rfl h
  · have h := h.2 c3
    refine V_iload_n 2 dX9_textTold_8 rfl ?_
    refine V_i2l dX9_textTold_9 ?_
    refine V_lconst (v := 0) dX9_textTold_10 rfl ?_
    refine V_lconst (v := 1) dX9_textTold_11 rfl ?_
    refine V_cSi [.long (x2 : Int32).toInt64, .long 0, .long 1] ms_X9_isIn w_438 dX9_textTold_12 wf_rok_m rfl rfl (Nat.le_of_ble_eq_true rfl) h ?_
    intro r5 mem4 h
    refine V_if_ne (tgt := 21) dX9_textTold_15 rfl ⟨fun c6 => ?_, fun c6 => ?_⟩
    · have h := h.1 c6
      refine V_aload_n 0 dX9_textTold_21 rfl ?_
      refine V_getf (v := .ref 121) gf_X9_7 dX9_textTold_22 sh_a120 rfl ?_
      refine V_aload_n 0 dX9_textTold_25 rfl ?_
      refine V_iload_n 1 dX9_textTold_26 rfl ?_
      refine V_cVi [.int x1] mv_X9_textAt w_654 dX9_textTold_27 wf_rok_m sh_a120 rfl (by decide) rfl rfl (Nat.le_of_ble_eq_true rfl) h ?_
      intro r8 mem7 h
      refine V_iload_n 2 dX9_textTold_30 rfl ?_
      refine V_iadd dX9_textTold_31 ?_
      refine V_iald dX9_textTold_32 sh_a121 ⟨h.1, ?_⟩
      have h := h.2
      exact V_iret dX9_textTold_33 rfl h
    · have h := h.2 c6
      refine V_ldc w_442 dX9_textTold_18 ?_
      exact V_iret dX9_textTold_20 rfl h
set_option maxRecDepth 20000 in
theorem b_X9_counts_0 {d : Nat} {P : Int32 → wf_Mem → Prop} (mem : wf_Mem) (x1 : Int32)
    (h : Vw (Ni (d + 1) P) mX9_counts 4 [(0, .ref 120), (1, .int x1), (2, .int (-1)), (3, .int 0)] [] mem) :
    Vw (Ni (d + 1) P) mX9_counts 0 [(0, .ref 120), (1, .int x1)] [] mem := by
  refine V_iconst (v := (-1)) dX9_counts_0 rfl ?_
  refine V_istore_n (lv' := [(0, .ref 120), (1, .int x1), (2, .int (-1))]) dX9_counts_1 (by decide) rfl rfl ?_
  refine V_iconst (v := 0) dX9_counts_2 rfl ?_
  refine V_istore_n (lv' := [(0, .ref 120), (1, .int x1), (2, .int (-1)), (3, .int 0)]) dX9_counts_3 (by decide) rfl rfl ?_
  exact h
set_option maxRecDepth 20000 in
theorem b_X9_counts_4 {d : Nat} {P : Int32 → wf_Mem → Prop} (mem : wf_Mem) (x1 : Int32) (x2 : Int32) (x3 : Int32)
    (h : (((mem 121 2) ≤ x3 → P x2 mem) ∧ (¬ (mem 121 2) ≤ x3 → (Ci mX9_textAt d [.ref 120, .int x3] mem (fun r3 mem2 => (vp_in r3 3088 ∧ ((¬ (mem2 121 r3.toNatClampNeg) = x1 → Vw (Ni (d + 1) P) mX9_counts 4 [(0, .ref 120), (1, .int x1), (2, .int x2), (3, .int (x3 + 1))] [] mem2) ∧ ((mem2 121 r3.toNatClampNeg) = x1 → Vw (Ni (d + 1) P) mX9_counts 4 [(0, .ref 120), (1, .int x1), (2, .int x3), (3, .int (x3 + 1))] [] mem2)))))))) :
    Vw (Ni (d + 1) P) mX9_counts 4 [(0, .ref 120), (1, .int x1), (2, .int x2), (3, .int x3)] [] mem := by
  refine V_iload_n 3 dX9_counts_4 rfl ?_
  refine V_aload_n 0 dX9_counts_5 rfl ?_
  refine V_getf (v := .ref 121) gf_X9_7 dX9_counts_6 sh_a120 rfl ?_
  refine V_iconst (v := 2) dX9_counts_9 rfl ?_
  refine V_ildL (j := 2) dX9_counts_10 sh_a121 (by decide) (by decide) ?_
  refine V_icmp_ge (tgt := 40) dX9_counts_11 rfl ⟨fun c1 => ?_, fun c1 => ?_⟩
  · have h := h.1 c1
    refine V_iload_n 2 dX9_counts_40 rfl ?_
    exact V_iret dX9_counts_41 rfl h
  · have h := h.2 c1
    refine V_aload_n 0 dX9_counts_14 rfl ?_
    refine V_getf (v := .ref 121) gf_X9_7 dX9_counts_15 sh_a120 rfl ?_
    refine V_aload_n 0 dX9_counts_18 rfl ?_
    refine V_iload_n 3 dX9_counts_19 rfl ?_
    refine V_cVi [.int x3] mv_X9_textAt w_654 dX9_counts_20 wf_rok_m sh_a120 rfl (by decide) rfl rfl (Nat.le_of_ble_eq_true rfl) h ?_
    intro r3 mem2 h
    refine V_iald dX9_counts_23 sh_a121 ⟨h.1, ?_⟩
    have h := h.2
    refine V_iload_n 1 dX9_counts_24 rfl ?_
    refine V_icmp_ne (tgt := 32) dX9_counts_25 rfl ⟨fun c4 => ?_, fun c4 => ?_⟩
    · have h := h.1 c4
      refine V_iload_n 2 dX9_counts_32 rfl ?_
      refine V_istore_n (lv' := [(0, .ref 120), (1, .int x1), (2, .int x2), (3, .int x3)]) dX9_counts_33 (by decide) rfl rfl ?_
      refine V_iinc (v := (x3 + 1)) (lv' := [(0, .ref 120), (1, .int x1), (2, .int x2), (3, .int (x3 + 1))]) 3 dX9_counts_34 rfl rfl (by decide) rfl rfl ?_
      refine V_goto (tgt := 4) dX9_counts_37 rfl ?_
      exact h
    · have h := h.2 c4
      refine V_iload_n 3 dX9_counts_28 rfl ?_
      refine V_goto (tgt := 33) dX9_counts_29 rfl ?_
      refine V_istore_n (lv' := [(0, .ref 120), (1, .int x1), (2, .int x3), (3, .int x3)]) dX9_counts_33 (by decide) rfl rfl ?_
      refine V_iinc (v := (x3 + 1)) (lv' := [(0, .ref 120), (1, .int x1), (2, .int x3), (3, .int (x3 + 1))]) 3 dX9_counts_34 rfl rfl (by decide) rfl rfl ?_
      refine V_goto (tgt := 4) dX9_counts_37 rfl ?_
      exact h
set_option maxRecDepth 20000 in
theorem b_X9_why_0 {d : Nat} {P : Int32 → wf_Mem → Prop} (mem : wf_Mem) (x1 : Int32)
    (h : (Ci mX9_isIn d [.long (x1 : Int32).toInt64, .long 0, .long 2] mem (fun r2 mem1 => ((r2 = 0 → P (-1000000001) mem1) ∧ (¬ r2 = 0 → (Ci mX9_counts d [.ref 120, .int x1] mem1 (fun r5 mem4 => (Ci mX9_orNone d [.int r5] mem4 (fun r7 mem6 => P r7 mem6))))))))) :
    Vw (Ni (d + 1) P) mX9_why 0 [(0, .ref 120), (1, .int x1)] [] mem := by
  refine V_iload_n 1 dX9_why_0 rfl ?_
  refine V_i2l dX9_why_1 ?_
  refine V_lconst (v := 0) dX9_why_2 rfl ?_
  refine V_ldc2 w_487 dX9_why_3 ?_
  refine V_cSi [.long (x1 : Int32).toInt64, .long 0, .long 2] ms_X9_isIn w_438 dX9_why_6 wf_rok_m rfl rfl (Nat.le_of_ble_eq_true rfl) h ?_
  intro r2 mem1 h
  refine V_if_eq (tgt := 23) dX9_why_9 rfl ⟨fun c3 => ?_, fun c3 => ?_⟩
  · have h := h.1 c3
    refine V_ldc w_442 dX9_why_23 ?_
    exact V_iret dX9_why_25 rfl h
  · have h := h.2 c3
    refine V_aload_n 0 dX9_why_12 rfl ?_
    refine V_iload_n 1 dX9_why_13 rfl ?_
    refine V_cVi [.int x1] mv_X9_counts w_454 dX9_why_14 wf_rok_m sh_a120 rfl (by decide) rfl rfl (Nat.le_of_ble_eq_true rfl) h ?_
    intro r5 mem4 h
    refine V_cSi [.int r5] ms_X9_orNone w_550 dX9_why_17 wf_rok_m rfl rfl (Nat.le_of_ble_eq_true rfl) h ?_
    intro r7 mem6 h
    refine V_goto (tgt := 25) dX9_why_20 rfl ?_
    exact V_iret dX9_why_25 rfl h
set_option maxRecDepth 20000 in
theorem b_X9_joined_0 {d : Nat} {P : Int32 → wf_Mem → Prop} (mem : wf_Mem) (x0 : Int32) (x1 : Int32) (x2 : Int32)
    (h : ((x0 = 38 → ((x1 = 0 → P 0 mem) ∧ (¬ x1 = 0 → ((x2 = 0 → P 0 mem) ∧ (¬ x2 = 0 → P 1 mem))))) ∧ (¬ x0 = 38 → ((x0 = 42 → P (x1 * x2) mem) ∧ (¬ x0 = 42 → ((x0 = 43 → P (x1 + x2) mem) ∧ (¬ x0 = 43 → ((x0 = 45 → P (x1 - x2) mem) ∧ (¬ x0 = 45 → ((x0 = 47 → ((¬ x2 = 0 → ((¬ x2 = (-1) → ((¬ x2 = 0) ∧ P (x1 / x2) mem)) ∧ (x2 = (-1) → P (0 - x1) mem))) ∧ (x2 = 0 → P 0 mem))) ∧ (¬ x0 = 47 → ((x0 = 60 → ((x2 ≤ x1 → P 0 mem) ∧ (¬ x2 ≤ x1 → P 1 mem))) ∧ (¬ x0 = 60 → ((x0 = 61 → ((¬ x1 = x2 → P 0 mem) ∧ (x1 = x2 → P 1 mem))) ∧ (¬ x0 = 61 → ((x0 = 62 → ((x1 ≤ x2 → P 0 mem) ∧ (¬ x1 ≤ x2 → P 1 mem))) ∧ (¬ x0 = 62 → ((¬ x1 = 0 → P 1 mem) ∧ (x1 = 0 → ((x2 = 0 → P 0 mem) ∧ (¬ x2 = 0 → P 1 mem))))))))))))))))))))) :
    Vw (Ni d P) mX9_joined 0 [(0, .int x0), (1, .int x1), (2, .int x2)] [] mem := by
  refine V_iload_n 0 dX9_joined_0 rfl ?_
  refine V_tswc [(38, 183), (42, 124), (43, 116), (45, 120), (47, 128), (60, 150), (61, 172), (62, 161)] 197 dX9_joined_1 (by decide +kernel) ?_
  refine And.intro (fun c1 => ?_) (fun c1 => ?_)
  · have h := h.1 c1
    show Vw _ _ 183 _ _ _
    refine V_iload_n 1 dX9_joined_183 rfl ?_
    refine V_if_eq (tgt := 195) dX9_joined_184 rfl ⟨fun c2 => ?_, fun c2 => ?_⟩
    · have h := h.1 c2
      refine V_iconst (v := 0) dX9_joined_195 rfl ?_
      exact V_iret dX9_joined_196 rfl h
    · have h := h.2 c2
      refine V_iload_n 2 dX9_joined_187 rfl ?_
      refine V_if_eq (tgt := 195) dX9_joined_188 rfl ⟨fun c3 => ?_, fun c3 => ?_⟩
      · have h := h.1 c3
        refine V_iconst (v := 0) dX9_joined_195 rfl ?_
        exact V_iret dX9_joined_196 rfl h
      · have h := h.2 c3
        refine V_iconst (v := 1) dX9_joined_191 rfl ?_
        refine V_goto (tgt := 196) dX9_joined_192 rfl ?_
        exact V_iret dX9_joined_196 rfl h
  · have h := h.2 c1
    refine And.intro (fun c4 => ?_) (fun c4 => ?_)
    · have h := h.1 c4
      show Vw _ _ 124 _ _ _
      refine V_iload_n 1 dX9_joined_124 rfl ?_
      refine V_iload_n 2 dX9_joined_125 rfl ?_
      refine V_imul dX9_joined_126 ?_
      exact V_iret dX9_joined_127 rfl h
    · have h := h.2 c4
      refine And.intro (fun c5 => ?_) (fun c5 => ?_)
      · have h := h.1 c5
        show Vw _ _ 116 _ _ _
        refine V_iload_n 1 dX9_joined_116 rfl ?_
        refine V_iload_n 2 dX9_joined_117 rfl ?_
        refine V_iadd dX9_joined_118 ?_
        exact V_iret dX9_joined_119 rfl h
      · have h := h.2 c5
        refine And.intro (fun c6 => ?_) (fun c6 => ?_)
        · have h := h.1 c6
          show Vw _ _ 120 _ _ _
          refine V_iload_n 1 dX9_joined_120 rfl ?_
          refine V_iload_n 2 dX9_joined_121 rfl ?_
          refine V_isub dX9_joined_122 ?_
          exact V_iret dX9_joined_123 rfl h
        · have h := h.2 c6
          refine And.intro (fun c7 => ?_) (fun c7 => ?_)
          · have h := h.1 c7
            show Vw _ _ 128 _ _ _
            refine V_iload_n 2 dX9_joined_128 rfl ?_
            refine V_if_ne (tgt := 136) dX9_joined_129 rfl ⟨fun c8 => ?_, fun c8 => ?_⟩
            · have h := h.1 c8
              refine V_iload_n 2 dX9_joined_136 rfl ?_
              refine V_iconst (v := (-1)) dX9_joined_137 rfl ?_
              refine V_icmp_ne (tgt := 146) dX9_joined_138 rfl ⟨fun c9 => ?_, fun c9 => ?_⟩
              · have h := h.1 c9
                refine V_iload_n 1 dX9_joined_146 rfl ?_
                refine V_iload_n 2 dX9_joined_147 rfl ?_
                refine V_idiv dX9_joined_148 ⟨h.1, ?_⟩
                have h := h.2
                exact V_iret dX9_joined_149 rfl h
              · have h := h.2 c9
                refine V_iload_n 1 dX9_joined_141 rfl ?_
                refine V_ineg dX9_joined_142 ?_
                refine V_goto (tgt := 149) dX9_joined_143 rfl ?_
                exact V_iret dX9_joined_149 rfl h
            · have h := h.2 c8
              refine V_iconst (v := 0) dX9_joined_132 rfl ?_
              refine V_goto (tgt := 149) dX9_joined_133 rfl ?_
              exact V_iret dX9_joined_149 rfl h
          · have h := h.2 c7
            refine And.intro (fun c10 => ?_) (fun c10 => ?_)
            · have h := h.1 c10
              show Vw _ _ 150 _ _ _
              refine V_iload_n 1 dX9_joined_150 rfl ?_
              refine V_iload_n 2 dX9_joined_151 rfl ?_
              refine V_icmp_ge (tgt := 159) dX9_joined_152 rfl ⟨fun c11 => ?_, fun c11 => ?_⟩
              · have h := h.1 c11
                refine V_iconst (v := 0) dX9_joined_159 rfl ?_
                exact V_iret dX9_joined_160 rfl h
              · have h := h.2 c11
                refine V_iconst (v := 1) dX9_joined_155 rfl ?_
                refine V_goto (tgt := 160) dX9_joined_156 rfl ?_
                exact V_iret dX9_joined_160 rfl h
            · have h := h.2 c10
              refine And.intro (fun c12 => ?_) (fun c12 => ?_)
              · have h := h.1 c12
                show Vw _ _ 172 _ _ _
                refine V_iload_n 1 dX9_joined_172 rfl ?_
                refine V_iload_n 2 dX9_joined_173 rfl ?_
                refine V_icmp_ne (tgt := 181) dX9_joined_174 rfl ⟨fun c13 => ?_, fun c13 => ?_⟩
                · have h := h.1 c13
                  refine V_iconst (v := 0) dX9_joined_181 rfl ?_
                  exact V_iret dX9_joined_182 rfl h
                · have h := h.2 c13
                  refine V_iconst (v := 1) dX9_joined_177 rfl ?_
                  refine V_goto (tgt := 182) dX9_joined_178 rfl ?_
                  exact V_iret dX9_joined_182 rfl h
              · have h := h.2 c12
                refine And.intro (fun c14 => ?_) (fun c14 => ?_)
                · have h := h.1 c14
                  show Vw _ _ 161 _ _ _
                  refine V_iload_n 1 dX9_joined_161 rfl ?_
                  refine V_iload_n 2 dX9_joined_162 rfl ?_
                  refine V_icmp_le (tgt := 170) dX9_joined_163 rfl ⟨fun c15 => ?_, fun c15 => ?_⟩
                  · have h := h.1 c15
                    refine V_iconst (v := 0) dX9_joined_170 rfl ?_
                    exact V_iret dX9_joined_171 rfl h
                  · have h := h.2 c15
                    refine V_iconst (v := 1) dX9_joined_166 rfl ?_
                    refine V_goto (tgt := 171) dX9_joined_167 rfl ?_
                    exact V_iret dX9_joined_171 rfl h
                · have h := h.2 c14
                  show Vw _ _ 197 _ _ _
                  refine V_iload_n 1 dX9_joined_197 rfl ?_
                  refine V_if_ne (tgt := 205) dX9_joined_198 rfl ⟨fun c16 => ?_, fun c16 => ?_⟩
                  · have h := h.1 c16
                    refine V_iconst (v := 1) dX9_joined_205 rfl ?_
                    refine V_goto (tgt := 210) dX9_joined_206 rfl ?_
                    exact V_iret dX9_joined_210 rfl h
                  · have h := h.2 c16
                    refine V_iload_n 2 dX9_joined_201 rfl ?_
                    refine V_if_eq (tgt := 209) dX9_joined_202 rfl ⟨fun c17 => ?_, fun c17 => ?_⟩
                    · have h := h.1 c17
                      refine V_iconst (v := 0) dX9_joined_209 rfl ?_
                      exact V_iret dX9_joined_210 rfl h
                    · have h := h.2 c17
                      refine V_iconst (v := 1) dX9_joined_205 rfl ?_
                      refine V_goto (tgt := 210) dX9_joined_206 rfl ?_
                      exact V_iret dX9_joined_210 rfl h
set_option maxRecDepth 20000 in
theorem b_X9_worked_0 {d : Nat} {P : Int32 → wf_Mem → Prop} (mem : wf_Mem) (x1 : Int32)
    (h : Vw (Ni (d + 1) P) mX9_worked 4 [(0, .ref 120), (1, .int x1), (2, .int 0), (3, .int 0)] [] mem) :
    Vw (Ni (d + 1) P) mX9_worked 0 [(0, .ref 120), (1, .int x1)] [] mem := by
  refine V_iconst (v := 0) dX9_worked_0 rfl ?_
  refine V_istore_n (lv' := [(0, .ref 120), (1, .int x1), (2, .int 0)]) dX9_worked_1 (by decide) rfl rfl ?_
  refine V_iconst (v := 0) dX9_worked_2 rfl ?_
  refine V_istore_n (lv' := [(0, .ref 120), (1, .int x1), (2, .int 0), (3, .int 0)]) dX9_worked_3 (by decide) rfl rfl ?_
  exact h
set_option maxRecDepth 20000 in
theorem b_X9_worked_4 {d : Nat} {P : Int32 → wf_Mem → Prop} (mem : wf_Mem) (x1 : Int32) (x2 : Int32) (x3 : Int32)
    (h : (Ci mX9_textAt d [.ref 120, .int x1] mem (fun r2 mem1 => (vp_in (r2 + 2) 3088 ∧ (((mem1 121 (r2 + 2).toNatClampNeg) ≤ x3 → P (mem1 135 0) mem1) ∧ (¬ (mem1 121 (r2 + 2).toNatClampNeg) ≤ x3 → (Ci mX9_textAt d [.ref 120, .int x1] mem1 (fun r5 mem4 => (vp_in ((r5 + 4) + (2 * x3)) 3088 ∧ (∀ x4_6 : Int32, x4_6 = (mem4 121 ((r5 + 4) + (2 * x3)).toNatClampNeg) → (Ci mX9_textAt d [.ref 120, .int x1] mem4 (fun r8 mem7 => (vp_in (((r8 + 4) + (2 * x3)) + 1) 3088 ∧ (∀ x5_9 : Int32, x5_9 = (mem7 121 (((r8 + 4) + (2 * x3)) + 1).toNatClampNeg) → ((x4_6 = 2 → ((¬ x5_9 = 33 → (vp_in ((x2 + (-1)) - 1) 100 ∧ (vp_in (x2 + (-1)) 100 ∧ (Ci mX9_joined d [.int x5_9, .int (mem7 135 ((x2 + (-1)) - 1).toNatClampNeg), .int (mem7 135 (x2 + (-1)).toNatClampNeg)] mem7 (fun r13 mem12 => (vp_in ((x2 + (-1)) - 1) 100 ∧ ∀ mem14 : wf_Mem, mem14 = wf_ms mem12 135 ((x2 + (-1)) - 1).toNatClampNeg r13 → Vw (Ni (d + 1) P) mX9_worked 4 [(0, .ref 120), (1, .int x1), (2, .int (x2 + (-1))), (3, .int (x3 + 1))] [] mem14)))))) ∧ (x5_9 = 33 → (vp_in (x2 - 1) 100 ∧ ((¬ (mem7 135 (x2 - 1).toNatClampNeg) = 0 → (vp_in (x2 - 1) 100 ∧ ∀ mem16 : wf_Mem, mem16 = wf_ms mem7 135 (x2 - 1).toNatClampNeg 0 → Vw (Ni (d + 1) P) mX9_worked 4 [(0, .ref 120), (1, .int x1), (2, .int x2), (3, .int (x3 + 1))] [] mem16)) ∧ ((mem7 135 (x2 - 1).toNatClampNeg) = 0 → (vp_in (x2 - 1) 100 ∧ ∀ mem17 : wf_Mem, mem17 = wf_ms mem7 135 (x2 - 1).toNatClampNeg 1 → Vw (Ni (d + 1) P) mX9_worked 4 [(0, .ref 120), (1, .int x1), (2, .int x2), (3, .int (x3 + 1))] [] mem17))))))) ∧ (¬ x4_6 = 2 → ((¬ x4_6 = 0 → (vp_in x5_9 128 ∧ (vp_in x2 100 ∧ ∀ mem19 : wf_Mem, mem19 = wf_ms mem7 135 x2.toNatClampNeg (mem7 134 x5_9.toNatClampNeg) → Vw (Ni (d + 1) P) mX9_worked 4 [(0, .ref 120), (1, .int x1), (2, .int (x2 + 1)), (3, .int (x3 + 1))] [] mem19))) ∧ (x4_6 = 0 → (vp_in x2 100 ∧ ∀ mem20 : wf_Mem, mem20 = wf_ms mem7 135 x2.toNatClampNeg x5_9 → Vw (Ni (d + 1) P) mX9_worked 4 [(0, .ref 120), (1, .int x1), (2, .int (x2 + 1)), (3, .int (x3 + 1))] [] mem20))))))))))))))))))) :
    Vw (Ni (d + 1) P) mX9_worked 4 [(0, .ref 120), (1, .int x1), (2, .int x2), (3, .int x3)] [] mem := by
  refine V_iload_n 3 dX9_worked_4 rfl ?_
  refine V_aload_n 0 dX9_worked_5 rfl ?_
  refine V_getf (v := .ref 121) gf_X9_7 dX9_worked_6 sh_a120 rfl ?_
  refine V_aload_n 0 dX9_worked_9 rfl ?_
  refine V_iload_n 1 dX9_worked_10 rfl ?_
  refine V_cVi [.int x1] mv_X9_textAt w_654 dX9_worked_11 wf_rok_m sh_a120 rfl (by decide) rfl rfl (Nat.le_of_ble_eq_true rfl) h ?_
  intro r2 mem1 h
  refine V_iconst (v := 2) dX9_worked_14 rfl ?_
  refine V_iadd dX9_worked_15 ?_
  refine V_iald dX9_worked_16 sh_a121 ⟨h.1, ?_⟩
  have h := h.2
  refine V_icmp_ge (tgt := 163) dX9_worked_17 rfl ⟨fun c3 => ?_, fun c3 => ?_⟩
  · have h := h.1 c3
    refine V_aload_n 0 dX9_worked_163 rfl ?_
    refine V_getf (v := .ref 135) gf_X9_52 dX9_worked_164 sh_a120 rfl ?_
    refine V_iconst (v := 0) dX9_worked_167 rfl ?_
    refine V_ildL (j := 0) dX9_worked_168 sh_a135 (by decide) (by decide) ?_
    exact V_iret dX9_worked_169 rfl h
  · have h := h.2 c3
    refine V_aload_n 0 dX9_worked_20 rfl ?_
    refine V_getf (v := .ref 121) gf_X9_7 dX9_worked_21 sh_a120 rfl ?_
    refine V_aload_n 0 dX9_worked_24 rfl ?_
    refine V_iload_n 1 dX9_worked_25 rfl ?_
    refine V_cVi [.int x1] mv_X9_textAt w_654 dX9_worked_26 wf_rok_m sh_a120 rfl (by decide) rfl rfl (Nat.le_of_ble_eq_true rfl) h ?_
    intro r5 mem4 h
    refine V_iconst (v := 4) dX9_worked_29 rfl ?_
    refine V_iadd dX9_worked_30 ?_
    refine V_iconst (v := 2) dX9_worked_31 rfl ?_
    refine V_iload_n 3 dX9_worked_32 rfl ?_
    refine V_imul dX9_worked_33 ?_
    refine V_iadd dX9_worked_34 ?_
    refine V_iald dX9_worked_35 sh_a121 ⟨h.1, ?_⟩
    have h := h.2
    refine V_topi (fun x4_6 ex4_6 => ?_)
    have h := h x4_6 ex4_6
    refine V_istore (lv' := [(0, .ref 120), (1, .int x1), (2, .int x2), (3, .int x3), (4, .int x4_6)]) dX9_worked_36 (by decide) rfl rfl ?_
    refine V_aload_n 0 dX9_worked_38 rfl ?_
    refine V_getf (v := .ref 121) gf_X9_7 dX9_worked_39 sh_a120 rfl ?_
    refine V_aload_n 0 dX9_worked_42 rfl ?_
    refine V_iload_n 1 dX9_worked_43 rfl ?_
    refine V_cVi [.int x1] mv_X9_textAt w_654 dX9_worked_44 wf_rok_m sh_a120 rfl (by decide) rfl rfl (Nat.le_of_ble_eq_true rfl) h ?_
    intro r8 mem7 h
    refine V_iconst (v := 4) dX9_worked_47 rfl ?_
    refine V_iadd dX9_worked_48 ?_
    refine V_iconst (v := 2) dX9_worked_49 rfl ?_
    refine V_iload_n 3 dX9_worked_50 rfl ?_
    refine V_imul dX9_worked_51 ?_
    refine V_iadd dX9_worked_52 ?_
    refine V_iconst (v := 1) dX9_worked_53 rfl ?_
    refine V_iadd dX9_worked_54 ?_
    refine V_iald dX9_worked_55 sh_a121 ⟨h.1, ?_⟩
    have h := h.2
    refine V_topi (fun x5_9 ex5_9 => ?_)
    have h := h x5_9 ex5_9
    refine V_istore (lv' := [(0, .ref 120), (1, .int x1), (2, .int x2), (3, .int x3), (4, .int x4_6), (5, .int x5_9)]) dX9_worked_56 (by decide) rfl rfl ?_
    refine V_iload 4 dX9_worked_58 rfl ?_
    refine V_iconst (v := 2) dX9_worked_60 rfl ?_
    refine V_icmp_eq (tgt := 93) dX9_worked_61 rfl ⟨fun c10 => ?_, fun c10 => ?_⟩
    · have h := h.1 c10
      refine V_iload 5 dX9_worked_93 rfl ?_
      refine V_bipush (v := 33) dX9_worked_95 rfl ?_
      refine V_icmp_ne (tgt := 127) dX9_worked_97 rfl ⟨fun c11 => ?_, fun c11 => ?_⟩
      · have h := h.1 c11
        refine V_iinc (v := (x2 + (-1))) (lv' := [(0, .ref 120), (1, .int x1), (2, .int (x2 + (-1))), (3, .int x3), (4, .int x4_6), (5, .int x5_9)]) 2 dX9_worked_127 rfl rfl (by decide) rfl rfl ?_
        refine V_aload_n 0 dX9_worked_130 rfl ?_
        refine V_getf (v := .ref 135) gf_X9_52 dX9_worked_131 sh_a120 rfl ?_
        refine V_iload_n 2 dX9_worked_134 rfl ?_
        refine V_iconst (v := 1) dX9_worked_135 rfl ?_
        refine V_isub dX9_worked_136 ?_
        refine V_iload 5 dX9_worked_137 rfl ?_
        refine V_aload_n 0 dX9_worked_139 rfl ?_
        refine V_getf (v := .ref 135) gf_X9_52 dX9_worked_140 sh_a120 rfl ?_
        refine V_iload_n 2 dX9_worked_143 rfl ?_
        refine V_iconst (v := 1) dX9_worked_144 rfl ?_
        refine V_isub dX9_worked_145 ?_
        refine V_iald dX9_worked_146 sh_a135 ⟨h.1, ?_⟩
        have h := h.2
        refine V_aload_n 0 dX9_worked_147 rfl ?_
        refine V_getf (v := .ref 135) gf_X9_52 dX9_worked_148 sh_a120 rfl ?_
        refine V_iload_n 2 dX9_worked_151 rfl ?_
        refine V_iald dX9_worked_152 sh_a135 ⟨h.1, ?_⟩
        have h := h.2
        refine V_cSi [.int x5_9, .int (mem7 135 ((x2 + (-1)) - 1).toNatClampNeg), .int (mem7 135 (x2 + (-1)).toNatClampNeg)] ms_X9_joined w_670 dX9_worked_153 wf_rok_m rfl rfl (Nat.le_of_ble_eq_true rfl) h ?_
        intro r13 mem12 h
        refine V_iast dX9_worked_156 sh_a135 ⟨h.1, ?_⟩
        refine V_topm (fun mem14 emem14 => ?_)
        have h := h.2 mem14 emem14
        refine V_iinc (v := (x3 + 1)) (lv' := [(0, .ref 120), (1, .int x1), (2, .int (x2 + (-1))), (3, .int (x3 + 1)), (4, .int x4_6), (5, .int x5_9)]) 3 dX9_worked_157 rfl rfl (by decide) rfl rfl ?_
        refine V_goto (tgt := 4) dX9_worked_160 rfl ?_
        exact V_sub [0, 1, 2, 3] rfl h
      · have h := h.2 c11
        refine V_aload_n 0 dX9_worked_100 rfl ?_
        refine V_getf (v := .ref 135) gf_X9_52 dX9_worked_101 sh_a120 rfl ?_
        refine V_iload_n 2 dX9_worked_104 rfl ?_
        refine V_iconst (v := 1) dX9_worked_105 rfl ?_
        refine V_isub dX9_worked_106 ?_
        refine V_aload_n 0 dX9_worked_107 rfl ?_
        refine V_getf (v := .ref 135) gf_X9_52 dX9_worked_108 sh_a120 rfl ?_
        refine V_iload_n 2 dX9_worked_111 rfl ?_
        refine V_iconst (v := 1) dX9_worked_112 rfl ?_
        refine V_isub dX9_worked_113 ?_
        refine V_iald dX9_worked_114 sh_a135 ⟨h.1, ?_⟩
        have h := h.2
        refine V_if_ne (tgt := 122) dX9_worked_115 rfl ⟨fun c15 => ?_, fun c15 => ?_⟩
        · have h := h.1 c15
          refine V_iconst (v := 0) dX9_worked_122 rfl ?_
          refine V_iast dX9_worked_123 sh_a135 ⟨h.1, ?_⟩
          refine V_topm (fun mem16 emem16 => ?_)
          have h := h.2 mem16 emem16
          refine V_goto (tgt := 157) dX9_worked_124 rfl ?_
          refine V_iinc (v := (x3 + 1)) (lv' := [(0, .ref 120), (1, .int x1), (2, .int x2), (3, .int (x3 + 1)), (4, .int x4_6), (5, .int x5_9)]) 3 dX9_worked_157 rfl rfl (by decide) rfl rfl ?_
          refine V_goto (tgt := 4) dX9_worked_160 rfl ?_
          exact V_sub [0, 1, 2, 3] rfl h
        · have h := h.2 c15
          refine V_iconst (v := 1) dX9_worked_118 rfl ?_
          refine V_goto (tgt := 123) dX9_worked_119 rfl ?_
          refine V_iast dX9_worked_123 sh_a135 ⟨h.1, ?_⟩
          refine V_topm (fun mem17 emem17 => ?_)
          have h := h.2 mem17 emem17
          refine V_goto (tgt := 157) dX9_worked_124 rfl ?_
          refine V_iinc (v := (x3 + 1)) (lv' := [(0, .ref 120), (1, .int x1), (2, .int x2), (3, .int (x3 + 1)), (4, .int x4_6), (5, .int x5_9)]) 3 dX9_worked_157 rfl rfl (by decide) rfl rfl ?_
          refine V_goto (tgt := 4) dX9_worked_160 rfl ?_
          exact V_sub [0, 1, 2, 3] rfl h
    · have h := h.2 c10
      refine V_aload_n 0 dX9_worked_64 rfl ?_
      refine V_getf (v := .ref 135) gf_X9_52 dX9_worked_65 sh_a120 rfl ?_
      refine V_iload_n 2 dX9_worked_68 rfl ?_
      refine V_iload 4 dX9_worked_69 rfl ?_
      refine V_if_ne (tgt := 79) dX9_worked_71 rfl ⟨fun c18 => ?_, fun c18 => ?_⟩
      · have h := h.1 c18
        refine V_aload_n 0 dX9_worked_79 rfl ?_
        refine V_getf (v := .ref 134) gf_X9_49 dX9_worked_80 sh_a120 rfl ?_
        refine V_iload 5 dX9_worked_83 rfl ?_
        refine V_iald dX9_worked_85 sh_a134 ⟨h.1, ?_⟩
        have h := h.2
        refine V_iast dX9_worked_86 sh_a135 ⟨h.1, ?_⟩
        refine V_topm (fun mem19 emem19 => ?_)
        have h := h.2 mem19 emem19
        refine V_iinc (v := (x2 + 1)) (lv' := [(0, .ref 120), (1, .int x1), (2, .int (x2 + 1)), (3, .int x3), (4, .int x4_6), (5, .int x5_9)]) 2 dX9_worked_87 rfl rfl (by decide) rfl rfl ?_
        refine V_goto (tgt := 157) dX9_worked_90 rfl ?_
        refine V_iinc (v := (x3 + 1)) (lv' := [(0, .ref 120), (1, .int x1), (2, .int (x2 + 1)), (3, .int (x3 + 1)), (4, .int x4_6), (5, .int x5_9)]) 3 dX9_worked_157 rfl rfl (by decide) rfl rfl ?_
        refine V_goto (tgt := 4) dX9_worked_160 rfl ?_
        exact V_sub [0, 1, 2, 3] rfl h
      · have h := h.2 c18
        refine V_iload 5 dX9_worked_74 rfl ?_
        refine V_goto (tgt := 86) dX9_worked_76 rfl ?_
        refine V_iast dX9_worked_86 sh_a135 ⟨h.1, ?_⟩
        refine V_topm (fun mem20 emem20 => ?_)
        have h := h.2 mem20 emem20
        refine V_iinc (v := (x2 + 1)) (lv' := [(0, .ref 120), (1, .int x1), (2, .int (x2 + 1)), (3, .int x3), (4, .int x4_6), (5, .int x5_9)]) 2 dX9_worked_87 rfl rfl (by decide) rfl rfl ?_
        refine V_goto (tgt := 157) dX9_worked_90 rfl ?_
        refine V_iinc (v := (x3 + 1)) (lv' := [(0, .ref 120), (1, .int x1), (2, .int (x2 + 1)), (3, .int (x3 + 1)), (4, .int x4_6), (5, .int x5_9)]) 3 dX9_worked_157 rfl rfl (by decide) rfl rfl ?_
        refine V_goto (tgt := 4) dX9_worked_160 rfl ?_
        exact V_sub [0, 1, 2, 3] rfl h
set_option maxRecDepth 20000 in
theorem b_X9_isSheet_0 {d : Nat} {P : Int32 → wf_Mem → Prop} (mem : wf_Mem) (x0 : Int32)
    (h : (Ci mX9_isIn d [.long (x0 : Int32).toInt64, .long 0, .long 3] mem (fun r2 mem1 => ((r2 = 0 ∨ r2 = 1) ∧ P r2 mem1)))) :
    Vw (Ni (d + 1) P) mX9_isSheet 0 [(0, .int x0)] [] mem := by
  refine V_iload_n 0 dX9_isSheet_0 rfl ?_
  refine V_i2l dX9_isSheet_1 ?_
  refine V_lconst (v := 0) dX9_isSheet_2 rfl ?_
  refine V_ldc2 w_552 dX9_isSheet_3 ?_
  refine V_cSi [.long (x0 : Int32).toInt64, .long 0, .long 3] ms_X9_isIn w_438 dX9_isSheet_6 wf_rok_m rfl rfl (Nat.le_of_ble_eq_true rfl) h ?_
  intro r2 mem1 h
  exact V_zret dX9_isSheet_9 rfl (wf_nb h.1) h.2
set_option maxRecDepth 20000 in
theorem b_X9_sheet_0 {d : Nat} {P : Int32 → wf_Mem → Prop} (mem : wf_Mem) (x1 : Int32) (x2 : Int32) (x3 : Int32)
    (h : (Ci mX9_isSheet d [.int x1] mem (fun r2 mem1 => ((r2 = 0 → P (-1000000001) mem1) ∧ (¬ r2 = 0 → (Ci mX9_isIn d [.long (x2 : Int32).toInt64, .long (-1), .long 1] mem1 (fun r5 mem4 => ((r5 = 0 → P (-1000000001) mem4) ∧ (¬ r5 = 0 → ((x2 < 0 → ((x2 < 0 → Vw (Ni (d + 1) P) mX9_sheet 44 [(0, .ref 120), (1, .int x1), (2, .int x2), (3, .int x3)] [] mem4) ∧ (¬ x2 < 0 → ((0 ≤ x3 → Vw (Ni (d + 1) P) mX9_sheet 44 [(0, .ref 120), (1, .int x1), (2, .int x2), (3, .int x3)] [] mem4) ∧ (¬ 0 ≤ x3 → P (-1000000014) mem4))))) ∧ (¬ x2 < 0 → ((x3 ≤ 24 → ((x2 < 0 → Vw (Ni (d + 1) P) mX9_sheet 44 [(0, .ref 120), (1, .int x1), (2, .int x2), (3, .int x3)] [] mem4) ∧ (¬ x2 < 0 → ((0 ≤ x3 → Vw (Ni (d + 1) P) mX9_sheet 44 [(0, .ref 120), (1, .int x1), (2, .int x2), (3, .int x3)] [] mem4) ∧ (¬ 0 ≤ x3 → P (-1000000014) mem4))))) ∧ (¬ x3 ≤ 24 → P (-1000000001) mem4))))))))))))) :
    Vw (Ni (d + 1) P) mX9_sheet 0 [(0, .ref 120), (1, .int x1), (2, .int x2), (3, .int x3)] [] mem := by
  refine V_iload_n 1 dX9_sheet_0 rfl ?_
  refine V_cSi [.int x1] ms_X9_isSheet w_673 dX9_sheet_1 wf_rok_m rfl rfl (Nat.le_of_ble_eq_true rfl) h ?_
  intro r2 mem1 h
  refine V_if_eq (tgt := 29) dX9_sheet_4 rfl ⟨fun c3 => ?_, fun c3 => ?_⟩
  · have h := h.1 c3
    refine V_ldc w_442 dX9_sheet_29 ?_
    exact V_iret dX9_sheet_31 rfl h
  · have h := h.2 c3
    refine V_iload_n 2 dX9_sheet_7 rfl ?_
    refine V_i2l dX9_sheet_8 ?_
    refine V_ldc2 w_674 dX9_sheet_9 ?_
    refine V_lconst (v := 1) dX9_sheet_12 rfl ?_
    refine V_cSi [.long (x2 : Int32).toInt64, .long (-1), .long 1] ms_X9_isIn w_438 dX9_sheet_13 wf_rok_m rfl rfl (Nat.le_of_ble_eq_true rfl) h ?_
    intro r5 mem4 h
    refine V_if_eq (tgt := 29) dX9_sheet_16 rfl ⟨fun c6 => ?_, fun c6 => ?_⟩
    · have h := h.1 c6
      refine V_ldc w_442 dX9_sheet_29 ?_
      exact V_iret dX9_sheet_31 rfl h
    · have h := h.2 c6
      refine V_iload_n 2 dX9_sheet_19 rfl ?_
      refine V_if_lt (tgt := 32) dX9_sheet_20 rfl ⟨fun c7 => ?_, fun c7 => ?_⟩
      · have h := h.1 c7
        refine V_iload_n 2 dX9_sheet_32 rfl ?_
        refine V_if_lt (tgt := 44) dX9_sheet_33 rfl ⟨fun c8 => ?_, fun c8 => ?_⟩
        · have h := h.1 c8
          exact h
        · have h := h.2 c8
          refine V_iload_n 3 dX9_sheet_36 rfl ?_
          refine V_if_ge (tgt := 44) dX9_sheet_37 rfl ⟨fun c9 => ?_, fun c9 => ?_⟩
          · have h := h.1 c9
            exact h
          · have h := h.2 c9
            refine V_ldcw w_675 dX9_sheet_40 ?_
            exact V_iret dX9_sheet_43 rfl h
      · have h := h.2 c7
        refine V_iload_n 3 dX9_sheet_23 rfl ?_
        refine V_bipush (v := 24) dX9_sheet_24 rfl ?_
        refine V_icmp_le (tgt := 32) dX9_sheet_26 rfl ⟨fun c10 => ?_, fun c10 => ?_⟩
        · have h := h.1 c10
          refine V_iload_n 2 dX9_sheet_32 rfl ?_
          refine V_if_lt (tgt := 44) dX9_sheet_33 rfl ⟨fun c11 => ?_, fun c11 => ?_⟩
          · have h := h.1 c11
            exact h
          · have h := h.2 c11
            refine V_iload_n 3 dX9_sheet_36 rfl ?_
            refine V_if_ge (tgt := 44) dX9_sheet_37 rfl ⟨fun c12 => ?_, fun c12 => ?_⟩
            · have h := h.1 c12
              exact h
            · have h := h.2 c12
              refine V_ldcw w_675 dX9_sheet_40 ?_
              exact V_iret dX9_sheet_43 rfl h
        · have h := h.2 c10
          refine V_ldc w_442 dX9_sheet_29 ?_
          exact V_iret dX9_sheet_31 rfl h
set_option maxRecDepth 20000 in
theorem b_X9_sheet_44 {d : Nat} {P : Int32 → wf_Mem → Prop} (mem : wf_Mem) (x1 : Int32) (x2 : Int32) (x3 : Int32)
    (h : (vp_in x1 4 ∧ ∀ mem1 : wf_Mem, mem1 = wf_ms mem 124 x1.toNatClampNeg x2 → ((0 ≤ x2 → (vp_in x1 4 ∧ ∀ mem3 : wf_Mem, mem3 = wf_ms mem1 125 x1.toNatClampNeg x3 → Vw (Ni (d + 1) P) mX9_sheet 69 [(0, .ref 120), (1, .int x1), (4, .int 0)] [] mem3)) ∧ (¬ 0 ≤ x2 → (vp_in x1 4 ∧ ∀ mem4 : wf_Mem, mem4 = wf_ms mem1 125 x1.toNatClampNeg 0 → Vw (Ni (d + 1) P) mX9_sheet 69 [(0, .ref 120), (1, .int x1), (4, .int 0)] [] mem4))))) :
    Vw (Ni (d + 1) P) mX9_sheet 44 [(0, .ref 120), (1, .int x1), (2, .int x2), (3, .int x3)] [] mem := by
  refine V_aload_n 0 dX9_sheet_44 rfl ?_
  refine V_getf (v := .ref 124) gf_X9_19 dX9_sheet_45 sh_a120 rfl ?_
  refine V_iload_n 1 dX9_sheet_48 rfl ?_
  refine V_iload_n 2 dX9_sheet_49 rfl ?_
  refine V_iast dX9_sheet_50 sh_a124 ⟨h.1, ?_⟩
  refine V_topm (fun mem1 emem1 => ?_)
  have h := h.2 mem1 emem1
  refine V_aload_n 0 dX9_sheet_51 rfl ?_
  refine V_getf (v := .ref 125) gf_X9_22 dX9_sheet_52 sh_a120 rfl ?_
  refine V_iload_n 1 dX9_sheet_55 rfl ?_
  refine V_iload_n 2 dX9_sheet_56 rfl ?_
  refine V_if_ge (tgt := 64) dX9_sheet_57 rfl ⟨fun c2 => ?_, fun c2 => ?_⟩
  · have h := h.1 c2
    refine V_iload_n 3 dX9_sheet_64 rfl ?_
    refine V_iast dX9_sheet_65 sh_a125 ⟨h.1, ?_⟩
    refine V_topm (fun mem3 emem3 => ?_)
    have h := h.2 mem3 emem3
    refine V_iconst (v := 0) dX9_sheet_66 rfl ?_
    refine V_istore (lv' := [(0, .ref 120), (1, .int x1), (2, .int x2), (3, .int x3), (4, .int 0)]) dX9_sheet_67 (by decide) rfl rfl ?_
    exact V_sub [0, 1, 4] rfl h
  · have h := h.2 c2
    refine V_iconst (v := 0) dX9_sheet_60 rfl ?_
    refine V_goto (tgt := 65) dX9_sheet_61 rfl ?_
    refine V_iast dX9_sheet_65 sh_a125 ⟨h.1, ?_⟩
    refine V_topm (fun mem4 emem4 => ?_)
    have h := h.2 mem4 emem4
    refine V_iconst (v := 0) dX9_sheet_66 rfl ?_
    refine V_istore (lv' := [(0, .ref 120), (1, .int x1), (2, .int x2), (3, .int x3), (4, .int 0)]) dX9_sheet_67 (by decide) rfl rfl ?_
    exact V_sub [0, 1, 4] rfl h
set_option maxRecDepth 20000 in
theorem b_X9_sheet_69 {d : Nat} {P : Int32 → wf_Mem → Prop} (mem : wf_Mem) (x1 : Int32) (x4 : Int32)
    (h : ((24 ≤ x4 → (vp_in x1 4 ∧ P (mem 125 x1.toNatClampNeg) mem)) ∧ (¬ 24 ≤ x4 → (vp_in ((24 * x1) + x4) 96 ∧ ∀ mem2 : wf_Mem, mem2 = wf_ms mem 126 ((24 * x1) + x4).toNatClampNeg 0 → Vw (Ni (d + 1) P) mX9_sheet 69 [(0, .ref 120), (1, .int x1), (4, .int (x4 + 1))] [] mem2)))) :
    Vw (Ni (d + 1) P) mX9_sheet 69 [(0, .ref 120), (1, .int x1), (4, .int x4)] [] mem := by
  refine V_iload 2 dX9_sheet_69 rfl ?_
  refine V_bipush (v := 24) dX9_sheet_71 rfl ?_
  refine V_icmp_ge (tgt := 95) dX9_sheet_73 rfl ⟨fun c1 => ?_, fun c1 => ?_⟩
  · have h := h.1 c1
    refine V_aload_n 0 dX9_sheet_95 rfl ?_
    refine V_getf (v := .ref 125) gf_X9_22 dX9_sheet_96 sh_a120 rfl ?_
    refine V_iload_n 1 dX9_sheet_99 rfl ?_
    refine V_iald dX9_sheet_100 sh_a125 ⟨h.1, ?_⟩
    have h := h.2
    exact V_iret dX9_sheet_101 rfl h
  · have h := h.2 c1
    refine V_aload_n 0 dX9_sheet_76 rfl ?_
    refine V_getf (v := .ref 126) gf_X9_25 dX9_sheet_77 sh_a120 rfl ?_
    refine V_bipush (v := 24) dX9_sheet_80 rfl ?_
    refine V_iload_n 1 dX9_sheet_82 rfl ?_
    refine V_imul dX9_sheet_83 ?_
    refine V_iload 2 dX9_sheet_84 rfl ?_
    refine V_iadd dX9_sheet_86 ?_
    refine V_iconst (v := 0) dX9_sheet_87 rfl ?_
    refine V_iast dX9_sheet_88 sh_a126 ⟨h.1, ?_⟩
    refine V_topm (fun mem2 emem2 => ?_)
    have h := h.2 mem2 emem2
    refine V_iinc (v := (x4 + 1)) (lv' := [(0, .ref 120), (1, .int x1), (4, .int (x4 + 1))]) 2 dX9_sheet_89 rfl rfl (by decide) rfl rfl ?_
    refine V_goto (tgt := 69) dX9_sheet_92 rfl ?_
    exact h
set_option maxRecDepth 20000 in
theorem b_X9_mark_0 {d : Nat} {P : Int32 → wf_Mem → Prop} (mem : wf_Mem) (x1 : Int32) (x2 : Int32) (x3 : Int32)
    (h : (Ci mX9_isSheet d [.int x1] mem (fun r2 mem1 => ((¬ r2 = 0 → (vp_in x1 4 ∧ ((0 ≤ (mem1 124 x1.toNatClampNeg) → (vp_in x1 4 ∧ (Ci mX9_isIn d [.long (x2 : Int32).toInt64, .long 0, .long (((mem1 125 x1.toNatClampNeg) - 1) : Int32).toInt64] mem1 (fun r6 mem5 => ((¬ r6 = 0 → (vp_in x1 4 ∧ ((¬ (mem5 124 x1.toNatClampNeg) = 0 → Vw (Ni (d + 1) P) mX9_mark 63 [(0, .ref 120), (1, .int x1), (2, .int x2), (3, .int x3)] [] mem5) ∧ ((mem5 124 x1.toNatClampNeg) = 0 → ((¬ x3 = (-1000000005) → Vw (Ni (d + 1) P) mX9_mark 63 [(0, .ref 120), (1, .int x1), (2, .int x2), (3, .int x3)] [] mem5) ∧ (x3 = (-1000000005) → P (-1000000012) mem5)))))) ∧ (r6 = 0 → P (-1000000013) mem5)))))) ∧ (¬ 0 ≤ (mem1 124 x1.toNatClampNeg) → P (-1000000011) mem1)))) ∧ (r2 = 0 → P (-1000000001) mem1))))) :
    Vw (Ni (d + 1) P) mX9_mark 0 [(0, .ref 120), (1, .int x1), (2, .int x2), (3, .int x3)] [] mem := by
  refine V_iload_n 1 dX9_mark_0 rfl ?_
  refine V_cSi [.int x1] ms_X9_isSheet w_673 dX9_mark_1 wf_rok_m rfl rfl (Nat.le_of_ble_eq_true rfl) h ?_
  intro r2 mem1 h
  refine V_if_ne (tgt := 10) dX9_mark_4 rfl ⟨fun c3 => ?_, fun c3 => ?_⟩
  · have h := h.1 c3
    refine V_aload_n 0 dX9_mark_10 rfl ?_
    refine V_getf (v := .ref 124) gf_X9_19 dX9_mark_11 sh_a120 rfl ?_
    refine V_iload_n 1 dX9_mark_14 rfl ?_
    refine V_iald dX9_mark_15 sh_a124 ⟨h.1, ?_⟩
    have h := h.2
    refine V_if_ge (tgt := 23) dX9_mark_16 rfl ⟨fun c4 => ?_, fun c4 => ?_⟩
    · have h := h.1 c4
      refine V_iload_n 2 dX9_mark_23 rfl ?_
      refine V_i2l dX9_mark_24 ?_
      refine V_lconst (v := 0) dX9_mark_25 rfl ?_
      refine V_aload_n 0 dX9_mark_26 rfl ?_
      refine V_getf (v := .ref 125) gf_X9_22 dX9_mark_27 sh_a120 rfl ?_
      refine V_iload_n 1 dX9_mark_30 rfl ?_
      refine V_iald dX9_mark_31 sh_a125 ⟨h.1, ?_⟩
      have h := h.2
      refine V_iconst (v := 1) dX9_mark_32 rfl ?_
      refine V_isub dX9_mark_33 ?_
      refine V_i2l dX9_mark_34 ?_
      refine V_cSi [.long (x2 : Int32).toInt64, .long 0, .long (((mem1 125 x1.toNatClampNeg) - 1) : Int32).toInt64] ms_X9_isIn w_438 dX9_mark_35 wf_rok_m rfl rfl (Nat.le_of_ble_eq_true rfl) h ?_
      intro r6 mem5 h
      refine V_if_ne (tgt := 45) dX9_mark_38 rfl ⟨fun c7 => ?_, fun c7 => ?_⟩
      · have h := h.1 c7
        refine V_aload_n 0 dX9_mark_45 rfl ?_
        refine V_getf (v := .ref 124) gf_X9_19 dX9_mark_46 sh_a120 rfl ?_
        refine V_iload_n 1 dX9_mark_49 rfl ?_
        refine V_iald dX9_mark_50 sh_a124 ⟨h.1, ?_⟩
        have h := h.2
        refine V_if_ne (tgt := 63) dX9_mark_51 rfl ⟨fun c8 => ?_, fun c8 => ?_⟩
        · have h := h.1 c8
          exact h
        · have h := h.2 c8
          refine V_iload_n 3 dX9_mark_54 rfl ?_
          refine V_ldc w_433 dX9_mark_55 ?_
          refine V_icmp_ne (tgt := 63) dX9_mark_57 rfl ⟨fun c9 => ?_, fun c9 => ?_⟩
          · have h := h.1 c9
            exact h
          · have h := h.2 c9
            refine V_ldc w_515 dX9_mark_60 ?_
            exact V_iret dX9_mark_62 rfl h
      · have h := h.2 c7
        refine V_ldcw w_679 dX9_mark_41 ?_
        exact V_iret dX9_mark_44 rfl h
    · have h := h.2 c4
      refine V_ldcw w_680 dX9_mark_19 ?_
      exact V_iret dX9_mark_22 rfl h
  · have h := h.2 c3
    refine V_ldc w_442 dX9_mark_7 ?_
    exact V_iret dX9_mark_9 rfl h
set_option maxRecDepth 20000 in
theorem b_X9_mark_63 {d : Nat} {P : Int32 → wf_Mem → Prop} (mem : wf_Mem) (x1 : Int32) (x2 : Int32) (x3 : Int32)
    (h : (vp_in x1 4 ∧ ((¬ (mem 124 x1.toNatClampNeg) = 1 → Vw (Ni (d + 1) P) mX9_mark 96 [(0, .ref 120), (1, .int x1), (2, .int x2), (3, .int x3)] [] mem) ∧ ((mem 124 x1.toNatClampNeg) = 1 → ((x3 = (-1000000005) → Vw (Ni (d + 1) P) mX9_mark 96 [(0, .ref 120), (1, .int x1), (2, .int x2), (3, .int x3)] [] mem) ∧ (¬ x3 = (-1000000005) → (Ci mX9_isIn d [.long (x3 : Int32).toInt64, .long (-99999), .long 99999] mem (fun r4 mem3 => ((¬ r4 = 0 → Vw (Ni (d + 1) P) mX9_mark 96 [(0, .ref 120), (1, .int x1), (2, .int x2), (3, .int x3)] [] mem3) ∧ (r4 = 0 → P (-1000000001) mem3)))))))))) :
    Vw (Ni (d + 1) P) mX9_mark 63 [(0, .ref 120), (1, .int x1), (2, .int x2), (3, .int x3)] [] mem := by
  refine V_aload_n 0 dX9_mark_63 rfl ?_
  refine V_getf (v := .ref 124) gf_X9_19 dX9_mark_64 sh_a120 rfl ?_
  refine V_iload_n 1 dX9_mark_67 rfl ?_
  refine V_iald dX9_mark_68 sh_a124 ⟨h.1, ?_⟩
  have h := h.2
  refine V_iconst (v := 1) dX9_mark_69 rfl ?_
  refine V_icmp_ne (tgt := 96) dX9_mark_70 rfl ⟨fun c1 => ?_, fun c1 => ?_⟩
  · have h := h.1 c1
    exact h
  · have h := h.2 c1
    refine V_iload_n 3 dX9_mark_73 rfl ?_
    refine V_ldc w_433 dX9_mark_74 ?_
    refine V_icmp_eq (tgt := 96) dX9_mark_76 rfl ⟨fun c2 => ?_, fun c2 => ?_⟩
    · have h := h.1 c2
      exact h
    · have h := h.2 c2
      refine V_iload_n 3 dX9_mark_79 rfl ?_
      refine V_i2l dX9_mark_80 ?_
      refine V_ldc2 w_681 dX9_mark_81 ?_
      refine V_ldc2 w_682 dX9_mark_84 ?_
      refine V_cSi [.long (x3 : Int32).toInt64, .long (-99999), .long 99999] ms_X9_isIn w_438 dX9_mark_87 wf_rok_m rfl rfl (Nat.le_of_ble_eq_true rfl) h ?_
      intro r4 mem3 h
      refine V_if_ne (tgt := 96) dX9_mark_90 rfl ⟨fun c5 => ?_, fun c5 => ?_⟩
      · have h := h.1 c5
        exact h
      · have h := h.2 c5
        refine V_ldc w_442 dX9_mark_93 ?_
        exact V_iret dX9_mark_95 rfl h
set_option maxRecDepth 20000 in
theorem b_X9_mark_96 {d : Nat} {P : Int32 → wf_Mem → Prop} (mem : wf_Mem) (x1 : Int32) (x2 : Int32) (x3 : Int32)
    (h : (vp_in x1 4 ∧ ((¬ (mem 124 x1.toNatClampNeg) = 0 → (vp_in ((24 * x1) + x2) 96 ∧ ∀ mem2 : wf_Mem, mem2 = wf_ms mem 126 ((24 * x1) + x2).toNatClampNeg x3 → P 1 mem2)) ∧ ((mem 124 x1.toNatClampNeg) = 0 → (vp_in ((24 * x1) + x2) 96 ∧ ∀ mem3 : wf_Mem, mem3 = wf_ms mem 126 ((24 * x1) + x2).toNatClampNeg ((x3 <<< ((16 : Int32) &&& 31)) >>> ((16 : Int32) &&& 31)) → P 1 mem3))))) :
    Vw (Ni (d + 1) P) mX9_mark 96 [(0, .ref 120), (1, .int x1), (2, .int x2), (3, .int x3)] [] mem := by
  refine V_aload_n 0 dX9_mark_96 rfl ?_
  refine V_getf (v := .ref 126) gf_X9_25 dX9_mark_97 sh_a120 rfl ?_
  refine V_bipush (v := 24) dX9_mark_100 rfl ?_
  refine V_iload_n 1 dX9_mark_102 rfl ?_
  refine V_imul dX9_mark_103 ?_
  refine V_iload_n 2 dX9_mark_104 rfl ?_
  refine V_iadd dX9_mark_105 ?_
  refine V_aload_n 0 dX9_mark_106 rfl ?_
  refine V_getf (v := .ref 124) gf_X9_19 dX9_mark_107 sh_a120 rfl ?_
  refine V_iload_n 1 dX9_mark_110 rfl ?_
  refine V_iald dX9_mark_111 sh_a124 ⟨h.1, ?_⟩
  have h := h.2
  refine V_if_ne (tgt := 125) dX9_mark_112 rfl ⟨fun c1 => ?_, fun c1 => ?_⟩
  · have h := h.1 c1
    refine V_iload_n 3 dX9_mark_125 rfl ?_
    refine V_iast dX9_mark_126 sh_a126 ⟨h.1, ?_⟩
    refine V_topm (fun mem2 emem2 => ?_)
    have h := h.2 mem2 emem2
    refine V_iconst (v := 1) dX9_mark_127 rfl ?_
    exact V_iret dX9_mark_128 rfl h
  · have h := h.2 c1
    refine V_iload_n 3 dX9_mark_115 rfl ?_
    refine V_bipush (v := 16) dX9_mark_116 rfl ?_
    refine V_ishl dX9_mark_118 ?_
    refine V_bipush (v := 16) dX9_mark_119 rfl ?_
    refine V_ishr dX9_mark_121 ?_
    refine V_goto (tgt := 126) dX9_mark_122 rfl ?_
    refine V_iast dX9_mark_126 sh_a126 ⟨h.1, ?_⟩
    refine V_topm (fun mem3 emem3 => ?_)
    have h := h.2 mem3 emem3
    refine V_iconst (v := 1) dX9_mark_127 rfl ?_
    exact V_iret dX9_mark_128 rfl h
set_option maxRecDepth 20000 in
theorem b_X9_pour_0 {d : Nat} {P : Int32 → wf_Mem → Prop} (mem : wf_Mem) (x1 : Int32)
    (h : (Ci mX9_isSheet d [.int x1] mem (fun r2 mem1 => ((¬ r2 = 0 → (vp_in x1 4 ∧ ((0 ≤ (mem1 124 x1.toNatClampNeg) → Vw (Ni (d + 1) P) mX9_pour 27 [(0, .ref 120), (1, .int x1), (2, .int 0), (3, .int 0)] [] mem1) ∧ (¬ 0 ≤ (mem1 124 x1.toNatClampNeg) → P (-1000000011) mem1)))) ∧ (r2 = 0 → P (-1000000001) mem1))))) :
    Vw (Ni (d + 1) P) mX9_pour 0 [(0, .ref 120), (1, .int x1)] [] mem := by
  refine V_iload_n 1 dX9_pour_0 rfl ?_
  refine V_cSi [.int x1] ms_X9_isSheet w_673 dX9_pour_1 wf_rok_m rfl rfl (Nat.le_of_ble_eq_true rfl) h ?_
  intro r2 mem1 h
  refine V_if_ne (tgt := 10) dX9_pour_4 rfl ⟨fun c3 => ?_, fun c3 => ?_⟩
  · have h := h.1 c3
    refine V_aload_n 0 dX9_pour_10 rfl ?_
    refine V_getf (v := .ref 124) gf_X9_19 dX9_pour_11 sh_a120 rfl ?_
    refine V_iload_n 1 dX9_pour_14 rfl ?_
    refine V_iald dX9_pour_15 sh_a124 ⟨h.1, ?_⟩
    have h := h.2
    refine V_if_ge (tgt := 23) dX9_pour_16 rfl ⟨fun c4 => ?_, fun c4 => ?_⟩
    · have h := h.1 c4
      refine V_iconst (v := 0) dX9_pour_23 rfl ?_
      refine V_istore_n (lv' := [(0, .ref 120), (1, .int x1), (2, .int 0)]) dX9_pour_24 (by decide) rfl rfl ?_
      refine V_iconst (v := 0) dX9_pour_25 rfl ?_
      refine V_istore_n (lv' := [(0, .ref 120), (1, .int x1), (2, .int 0), (3, .int 0)]) dX9_pour_26 (by decide) rfl rfl ?_
      exact h
    · have h := h.2 c4
      refine V_ldcw w_680 dX9_pour_19 ?_
      exact V_iret dX9_pour_22 rfl h
  · have h := h.2 c3
    refine V_ldc w_442 dX9_pour_7 ?_
    exact V_iret dX9_pour_9 rfl h
set_option maxRecDepth 20000 in
theorem b_X9_pour_27 {d : Nat} {P : Int32 → wf_Mem → Prop} (mem : wf_Mem) (x1 : Int32) (x2 : Int32) (x3 : Int32)
    (h : (vp_in x1 4 ∧ (((mem 125 x1.toNatClampNeg) ≤ x3 → P x2 mem) ∧ (¬ (mem 125 x1.toNatClampNeg) ≤ x3 → (((mem 121 0) ≤ x3 → P x2 mem) ∧ (¬ (mem 121 0) ≤ x3 → (vp_in ((24 * x1) + x3) 96 ∧ (∀ x4_3 : Int32, x4_3 = (mem 126 ((24 * x1) + x3).toNatClampNeg) → ((¬ x4_3 = (-1000000005) → (Ci mX9_within d [.int x4_3, .int 99] mem (fun r6 mem5 => Vw (Ni (d + 1) P) mX9_pour 83 [(0, .ref 120), (1, .int x1), (2, .int x2), (3, .int x3)] [.int r6] mem5))) ∧ (x4_3 = (-1000000005) → (Ci mX9_wagonsOwn d [.ref 120, .int x3, .int 0] mem (fun r8 mem7 => Vw (Ni (d + 1) P) mX9_pour 83 [(0, .ref 120), (1, .int x1), (2, .int x2), (3, .int x3)] [.int r8] mem7)))))))))))) :
    Vw (Ni (d + 1) P) mX9_pour 27 [(0, .ref 120), (1, .int x1), (2, .int x2), (3, .int x3)] [] mem := by
  refine V_iload_n 3 dX9_pour_27 rfl ?_
  refine V_aload_n 0 dX9_pour_28 rfl ?_
  refine V_getf (v := .ref 125) gf_X9_22 dX9_pour_29 sh_a120 rfl ?_
  refine V_iload_n 1 dX9_pour_32 rfl ?_
  refine V_iald dX9_pour_33 sh_a125 ⟨h.1, ?_⟩
  have h := h.2
  refine V_icmp_ge (tgt := 116) dX9_pour_34 rfl ⟨fun c1 => ?_, fun c1 => ?_⟩
  · have h := h.1 c1
    refine V_iload_n 2 dX9_pour_116 rfl ?_
    exact V_iret dX9_pour_117 rfl h
  · have h := h.2 c1
    refine V_iload_n 3 dX9_pour_37 rfl ?_
    refine V_aload_n 0 dX9_pour_38 rfl ?_
    refine V_getf (v := .ref 121) gf_X9_7 dX9_pour_39 sh_a120 rfl ?_
    refine V_iconst (v := 0) dX9_pour_42 rfl ?_
    refine V_ildL (j := 0) dX9_pour_43 sh_a121 (by decide) (by decide) ?_
    refine V_icmp_ge (tgt := 116) dX9_pour_44 rfl ⟨fun c2 => ?_, fun c2 => ?_⟩
    · have h := h.1 c2
      refine V_iload_n 2 dX9_pour_116 rfl ?_
      exact V_iret dX9_pour_117 rfl h
    · have h := h.2 c2
      refine V_aload_n 0 dX9_pour_47 rfl ?_
      refine V_getf (v := .ref 126) gf_X9_25 dX9_pour_48 sh_a120 rfl ?_
      refine V_bipush (v := 24) dX9_pour_51 rfl ?_
      refine V_iload_n 1 dX9_pour_53 rfl ?_
      refine V_imul dX9_pour_54 ?_
      refine V_iload_n 3 dX9_pour_55 rfl ?_
      refine V_iadd dX9_pour_56 ?_
      refine V_iald dX9_pour_57 sh_a126 ⟨h.1, ?_⟩
      have h := h.2
      refine V_topi (fun x4_3 ex4_3 => ?_)
      have h := h x4_3 ex4_3
      refine V_istore (lv' := [(0, .ref 120), (1, .int x1), (2, .int x2), (3, .int x3), (4, .int x4_3)]) dX9_pour_58 (by decide) rfl rfl ?_
      refine V_iload 4 dX9_pour_60 rfl ?_
      refine V_ldc w_433 dX9_pour_62 ?_
      refine V_icmp_ne (tgt := 76) dX9_pour_64 rfl ⟨fun c4 => ?_, fun c4 => ?_⟩
      · have h := h.1 c4
        refine V_iload 4 dX9_pour_76 rfl ?_
        refine V_bipush (v := 99) dX9_pour_78 rfl ?_
        refine V_cSi [.int x4_3, .int 99] ms_X9_within w_462 dX9_pour_80 wf_rok_m rfl rfl (Nat.le_of_ble_eq_true rfl) h ?_
        intro r6 mem5 h
        exact V_sub [0, 1, 2, 3] rfl h
      · have h := h.2 c4
        refine V_aload_n 0 dX9_pour_67 rfl ?_
        refine V_iload_n 3 dX9_pour_68 rfl ?_
        refine V_iconst (v := 0) dX9_pour_69 rfl ?_
        refine V_cVi [.int x3, .int 0] mv_X9_wagonsOwn w_446 dX9_pour_70 wf_rok_m sh_a120 rfl (by decide) rfl rfl (Nat.le_of_ble_eq_true rfl) h ?_
        intro r8 mem7 h
        refine V_goto (tgt := 83) dX9_pour_73 rfl ?_
        exact V_sub [0, 1, 2, 3] rfl h
set_option maxRecDepth 20000 in
theorem b_X9_pour_83 {d : Nat} {P : Int32 → wf_Mem → Prop} (mem : wf_Mem) (x1 : Int32) (x2 : Int32) (x3 : Int32) (y0 : Int32)
    (h : (Ci mX9_becomes d [.ref 120, .int (12 + (3 * x3)), .int y0] mem (fun r2 mem1 => ((¬ y0 = r2 → (∀ x2_4 : Int32, x2_4 = (x2 + 1) → Vw (Ni (d + 1) P) mX9_pour 27 [(0, .ref 120), (1, .int x1), (2, .int x2_4), (3, .int (x3 + 1))] [] mem1)) ∧ (y0 = r2 → (∀ x2_5 : Int32, x2_5 = (x2 + 0) → Vw (Ni (d + 1) P) mX9_pour 27 [(0, .ref 120), (1, .int x1), (2, .int x2_5), (3, .int (x3 + 1))] [] mem1)))))) :
    Vw (Ni (d + 1) P) mX9_pour 83 [(0, .ref 120), (1, .int x1), (2, .int x2), (3, .int x3)] [.int y0] mem := by
  refine V_istore (lv' := [(0, .ref 120), (1, .int x1), (2, .int x2), (3, .int x3), (5, .int y0)]) dX9_pour_83 (by decide) rfl rfl ?_
  refine V_iload_n 2 dX9_pour_85 rfl ?_
  refine V_iload 4 dX9_pour_86 rfl ?_
  refine V_aload_n 0 dX9_pour_88 rfl ?_
  refine V_bipush (v := 12) dX9_pour_89 rfl ?_
  refine V_iconst (v := 3) dX9_pour_91 rfl ?_
  refine V_iload_n 3 dX9_pour_92 rfl ?_
  refine V_imul dX9_pour_93 ?_
  refine V_iadd dX9_pour_94 ?_
  refine V_iload 4 dX9_pour_95 rfl ?_
  refine V_cVi [.int (12 + (3 * x3)), .int y0] mv_X9_becomes w_492 dX9_pour_97 wf_rok_m sh_a120 rfl (by decide) rfl rfl (Nat.le_of_ble_eq_true rfl) h ?_
  intro r2 mem1 h
  refine V_icmp_ne (tgt := 107) dX9_pour_100 rfl ⟨fun c3 => ?_, fun c3 => ?_⟩
  · have h := h.1 c3
    refine V_iconst (v := 1) dX9_pour_107 rfl ?_
    refine V_iadd dX9_pour_108 ?_
    refine V_topi (fun x2_4 ex2_4 => ?_)
    have h := h x2_4 ex2_4
    refine V_istore_n (lv' := [(0, .ref 120), (1, .int x1), (2, .int x2_4), (3, .int x3), (5, .int y0)]) dX9_pour_109 (by decide) rfl rfl ?_
    refine V_iinc (v := (x3 + 1)) (lv' := [(0, .ref 120), (1, .int x1), (2, .int x2_4), (3, .int (x3 + 1)), (5, .int y0)]) 3 dX9_pour_110 rfl rfl (by decide) rfl rfl ?_
    refine V_goto (tgt := 27) dX9_pour_113 rfl ?_
    exact V_sub [0, 1, 2, 3] rfl h
  · have h := h.2 c3
    refine V_iconst (v := 0) dX9_pour_103 rfl ?_
    refine V_goto (tgt := 108) dX9_pour_104 rfl ?_
    refine V_iadd dX9_pour_108 ?_
    refine V_topi (fun x2_5 ex2_5 => ?_)
    have h := h x2_5 ex2_5
    refine V_istore_n (lv' := [(0, .ref 120), (1, .int x1), (2, .int x2_5), (3, .int x3), (5, .int y0)]) dX9_pour_109 (by decide) rfl rfl ?_
    refine V_iinc (v := (x3 + 1)) (lv' := [(0, .ref 120), (1, .int x1), (2, .int x2_5), (3, .int (x3 + 1)), (5, .int y0)]) 3 dX9_pour_110 rfl rfl (by decide) rfl rfl ?_
    refine V_goto (tgt := 27) dX9_pour_113 rfl ?_
    exact V_sub [0, 1, 2, 3] rfl h
set_option maxRecDepth 20000 in
theorem b_X9_reads_0 {d : Nat} {P : Int32 → wf_Mem → Prop} (mem : wf_Mem) (x1 : Int32)
    (h : (Ci mX9_isSheet d [.int x1] mem (fun r2 mem1 => ((¬ r2 = 0 → (vp_in x1 4 ∧ ((0 ≤ (mem1 124 x1.toNatClampNeg) → Vw (Ni (d + 1) P) mX9_reads 25 [(0, .ref 120), (1, .int x1), (2, .int 0)] [] mem1) ∧ (¬ 0 ≤ (mem1 124 x1.toNatClampNeg) → P (-1000000011) mem1)))) ∧ (r2 = 0 → P (-1000000001) mem1))))) :
    Vw (Ni (d + 1) P) mX9_reads 0 [(0, .ref 120), (1, .int x1)] [] mem := by
  refine V_iload_n 1 dX9_reads_0 rfl ?_
  refine V_cSi [.int x1] ms_X9_isSheet w_673 dX9_reads_1 wf_rok_m rfl rfl (Nat.le_of_ble_eq_true rfl) h ?_
  intro r2 mem1 h
  refine V_if_ne (tgt := 10) dX9_reads_4 rfl ⟨fun c3 => ?_, fun c3 => ?_⟩
  · have h := h.1 c3
    refine V_aload_n 0 dX9_reads_10 rfl ?_
    refine V_getf (v := .ref 124) gf_X9_19 dX9_reads_11 sh_a120 rfl ?_
    refine V_iload_n 1 dX9_reads_14 rfl ?_
    refine V_iald dX9_reads_15 sh_a124 ⟨h.1, ?_⟩
    have h := h.2
    refine V_if_ge (tgt := 23) dX9_reads_16 rfl ⟨fun c4 => ?_, fun c4 => ?_⟩
    · have h := h.1 c4
      refine V_iconst (v := 0) dX9_reads_23 rfl ?_
      refine V_istore_n (lv' := [(0, .ref 120), (1, .int x1), (2, .int 0)]) dX9_reads_24 (by decide) rfl rfl ?_
      exact h
    · have h := h.2 c4
      refine V_ldcw w_680 dX9_reads_19 ?_
      exact V_iret dX9_reads_22 rfl h
  · have h := h.2 c3
    refine V_ldc w_442 dX9_reads_7 ?_
    exact V_iret dX9_reads_9 rfl h
set_option maxRecDepth 20000 in
theorem b_X9_reads_25 {d : Nat} {P : Int32 → wf_Mem → Prop} (mem : wf_Mem) (x1 : Int32) (x2 : Int32)
    (h : (vp_in x1 4 ∧ (((mem 125 x1.toNatClampNeg) ≤ x2 → P (-1000000005) mem) ∧ (¬ (mem 125 x1.toNatClampNeg) ≤ x2 → (vp_in ((24 * x1) + x2) 96 ∧ (∀ x3_2 : Int32, x3_2 = (mem 126 ((24 * x1) + x2).toNatClampNeg) → ((x3_2 = (-1000000005) → Vw (Ni (d + 1) P) mX9_reads 25 [(0, .ref 120), (1, .int x1), (2, .int (x2 + 1))] [] mem) ∧ (¬ x3_2 = (-1000000005) → (((mem 121 0) ≤ x2 → P x2 mem) ∧ (¬ (mem 121 0) ≤ x2 → (Ci mX9_light d [.ref 120, .int x2] mem (fun r6 mem5 => ((x3_2 = r6 → Vw (Ni (d + 1) P) mX9_reads 25 [(0, .ref 120), (1, .int x1), (2, .int (x2 + 1))] [] mem5) ∧ (¬ x3_2 = r6 → P x2 mem5)))))))))))))) :
    Vw (Ni (d + 1) P) mX9_reads 25 [(0, .ref 120), (1, .int x1), (2, .int x2)] [] mem := by
  refine V_iload_n 2 dX9_reads_25 rfl ?_
  refine V_aload_n 0 dX9_reads_26 rfl ?_
  refine V_getf (v := .ref 125) gf_X9_22 dX9_reads_27 sh_a120 rfl ?_
  refine V_iload_n 1 dX9_reads_30 rfl ?_
  refine V_iald dX9_reads_31 sh_a125 ⟨h.1, ?_⟩
  have h := h.2
  refine V_icmp_ge (tgt := 80) dX9_reads_32 rfl ⟨fun c1 => ?_, fun c1 => ?_⟩
  · have h := h.1 c1
    refine V_ldc w_433 dX9_reads_80 ?_
    exact V_iret dX9_reads_82 rfl h
  · have h := h.2 c1
    refine V_aload_n 0 dX9_reads_35 rfl ?_
    refine V_getf (v := .ref 126) gf_X9_25 dX9_reads_36 sh_a120 rfl ?_
    refine V_bipush (v := 24) dX9_reads_39 rfl ?_
    refine V_iload_n 1 dX9_reads_41 rfl ?_
    refine V_imul dX9_reads_42 ?_
    refine V_iload_n 2 dX9_reads_43 rfl ?_
    refine V_iadd dX9_reads_44 ?_
    refine V_iald dX9_reads_45 sh_a126 ⟨h.1, ?_⟩
    have h := h.2
    refine V_topi (fun x3_2 ex3_2 => ?_)
    have h := h x3_2 ex3_2
    refine V_istore_n (lv' := [(0, .ref 120), (1, .int x1), (2, .int x2), (3, .int x3_2)]) dX9_reads_46 (by decide) rfl rfl ?_
    refine V_iload_n 3 dX9_reads_47 rfl ?_
    refine V_ldc w_433 dX9_reads_48 ?_
    refine V_icmp_eq (tgt := 74) dX9_reads_50 rfl ⟨fun c3 => ?_, fun c3 => ?_⟩
    · have h := h.1 c3
      refine V_iinc (v := (x2 + 1)) (lv' := [(0, .ref 120), (1, .int x1), (2, .int (x2 + 1)), (3, .int x3_2)]) 2 dX9_reads_74 rfl rfl (by decide) rfl rfl ?_
      refine V_goto (tgt := 25) dX9_reads_77 rfl ?_
      exact V_sub [0, 1, 2] rfl h
    · have h := h.2 c3
      refine V_iload_n 2 dX9_reads_53 rfl ?_
      refine V_aload_n 0 dX9_reads_54 rfl ?_
      refine V_getf (v := .ref 121) gf_X9_7 dX9_reads_55 sh_a120 rfl ?_
      refine V_iconst (v := 0) dX9_reads_58 rfl ?_
      refine V_ildL (j := 0) dX9_reads_59 sh_a121 (by decide) (by decide) ?_
      refine V_icmp_ge (tgt := 72) dX9_reads_60 rfl ⟨fun c4 => ?_, fun c4 => ?_⟩
      · have h := h.1 c4
        refine V_iload_n 2 dX9_reads_72 rfl ?_
        exact V_iret dX9_reads_73 rfl h
      · have h := h.2 c4
        refine V_iload_n 3 dX9_reads_63 rfl ?_
        refine V_aload_n 0 dX9_reads_64 rfl ?_
        refine V_iload_n 2 dX9_reads_65 rfl ?_
        refine V_cVi [.int x2] mv_X9_light w_474 dX9_reads_66 wf_rok_m sh_a120 rfl (by decide) rfl rfl (Nat.le_of_ble_eq_true rfl) h ?_
        intro r6 mem5 h
        refine V_icmp_eq (tgt := 74) dX9_reads_69 rfl ⟨fun c7 => ?_, fun c7 => ?_⟩
        · have h := h.1 c7
          refine V_iinc (v := (x2 + 1)) (lv' := [(0, .ref 120), (1, .int x1), (2, .int (x2 + 1)), (3, .int x3_2)]) 2 dX9_reads_74 rfl rfl (by decide) rfl rfl ?_
          refine V_goto (tgt := 25) dX9_reads_77 rfl ?_
          exact V_sub [0, 1, 2] rfl h
        · have h := h.2 c7
          refine V_iload_n 2 dX9_reads_72 rfl ?_
          exact V_iret dX9_reads_73 rfl h
set_option maxRecDepth 20000 in
theorem b_X9_signs_0 {d : Nat} {P : Int32 → wf_Mem → Prop} (mem : wf_Mem) (x1 : Int32) (x2 : Int32) (x3 : Int32)
    (h : (Ci mX9_isSheet d [.int x1] mem (fun r2 mem1 => ((r2 = 0 → P (-1000000001) mem1) ∧ (¬ r2 = 0 → (Ci mX9_isIn d [.long (x2 : Int32).toInt64, .long 0, .long 60] mem1 (fun r5 mem4 => ((r5 = 0 → P (-1000000001) mem4) ∧ (¬ r5 = 0 → (Ci mX9_isIn d [.long (x3 : Int32).toInt64, .long 0, .long 1] mem4 (fun r8 mem7 => ((¬ r8 = 0 → (vp_in x1 4 ∧ ((0 ≤ (mem7 124 x1.toNatClampNeg) → (Cv mX9_laysBy d [.ref 120] mem7 (fun mem11 => Vw (Ni (d + 1) P) mX9_signs 58 [(0, .ref 120), (1, .int x1), (2, .int x2), (3, .int x3), (4, .int (-1)), (5, .int 0), (6, .int 0)] [] mem11))) ∧ (¬ 0 ≤ (mem7 124 x1.toNatClampNeg) → P (-1000000011) mem7)))) ∧ (r8 = 0 → P (-1000000001) mem7))))))))))))) :
    Vw (Ni (d + 1) P) mX9_signs 0 [(0, .ref 120), (1, .int x1), (2, .int x2), (3, .int x3)] [] mem := by
  refine V_iload_n 1 dX9_signs_0 rfl ?_
  refine V_cSi [.int x1] ms_X9_isSheet w_673 dX9_signs_1 wf_rok_m rfl rfl (Nat.le_of_ble_eq_true rfl) h ?_
  intro r2 mem1 h
  refine V_if_eq (tgt := 29) dX9_signs_4 rfl ⟨fun c3 => ?_, fun c3 => ?_⟩
  · have h := h.1 c3
    refine V_ldc w_442 dX9_signs_29 ?_
    exact V_iret dX9_signs_31 rfl h
  · have h := h.2 c3
    refine V_iload_n 2 dX9_signs_7 rfl ?_
    refine V_i2l dX9_signs_8 ?_
    refine V_lconst (v := 0) dX9_signs_9 rfl ?_
    refine V_ldc2 w_579 dX9_signs_10 ?_
    refine V_cSi [.long (x2 : Int32).toInt64, .long 0, .long 60] ms_X9_isIn w_438 dX9_signs_13 wf_rok_m rfl rfl (Nat.le_of_ble_eq_true rfl) h ?_
    intro r5 mem4 h
    refine V_if_eq (tgt := 29) dX9_signs_16 rfl ⟨fun c6 => ?_, fun c6 => ?_⟩
    · have h := h.1 c6
      refine V_ldc w_442 dX9_signs_29 ?_
      exact V_iret dX9_signs_31 rfl h
    · have h := h.2 c6
      refine V_iload_n 3 dX9_signs_19 rfl ?_
      refine V_i2l dX9_signs_20 ?_
      refine V_lconst (v := 0) dX9_signs_21 rfl ?_
      refine V_lconst (v := 1) dX9_signs_22 rfl ?_
      refine V_cSi [.long (x3 : Int32).toInt64, .long 0, .long 1] ms_X9_isIn w_438 dX9_signs_23 wf_rok_m rfl rfl (Nat.le_of_ble_eq_true rfl) h ?_
      intro r8 mem7 h
      refine V_if_ne (tgt := 32) dX9_signs_26 rfl ⟨fun c9 => ?_, fun c9 => ?_⟩
      · have h := h.1 c9
        refine V_aload_n 0 dX9_signs_32 rfl ?_
        refine V_getf (v := .ref 124) gf_X9_19 dX9_signs_33 sh_a120 rfl ?_
        refine V_iload_n 1 dX9_signs_36 rfl ?_
        refine V_iald dX9_signs_37 sh_a124 ⟨h.1, ?_⟩
        have h := h.2
        refine V_if_ge (tgt := 45) dX9_signs_38 rfl ⟨fun c10 => ?_, fun c10 => ?_⟩
        · have h := h.1 c10
          refine V_aload_n 0 dX9_signs_45 rfl ?_
          refine V_cVv [] mv_X9_laysBy w_556 dX9_signs_46 wf_rok_m sh_a120 rfl (by decide) rfl rfl (Nat.le_of_ble_eq_true rfl) h ?_
          intro mem11 h
          refine V_iconst (v := (-1)) dX9_signs_49 rfl ?_
          refine V_istore (lv' := [(0, .ref 120), (1, .int x1), (2, .int x2), (3, .int x3), (4, .int (-1))]) dX9_signs_50 (by decide) rfl rfl ?_
          refine V_iconst (v := 0) dX9_signs_52 rfl ?_
          refine V_istore (lv' := [(0, .ref 120), (1, .int x1), (2, .int x2), (3, .int x3), (4, .int (-1)), (5, .int 0)]) dX9_signs_53 (by decide) rfl rfl ?_
          refine V_iconst (v := 0) dX9_signs_55 rfl ?_
          refine V_istore (lv' := [(0, .ref 120), (1, .int x1), (2, .int x2), (3, .int x3), (4, .int (-1)), (5, .int 0), (6, .int 0)]) dX9_signs_56 (by decide) rfl rfl ?_
          exact h
        · have h := h.2 c10
          refine V_ldcw w_680 dX9_signs_41 ?_
          exact V_iret dX9_signs_44 rfl h
      · have h := h.2 c9
        refine V_ldc w_442 dX9_signs_29 ?_
        exact V_iret dX9_signs_31 rfl h
set_option maxRecDepth 20000 in
theorem b_X9_signs_58 {d : Nat} {P : Int32 → wf_Mem → Prop} (mem : wf_Mem) (x1 : Int32) (x2 : Int32) (x3 : Int32) (x4 : Int32) (x5 : Int32) (x6 : Int32)
    (h : ((40 < x6 → ((¬ x3 = 0 → P x5 mem) ∧ (x3 = 0 → P x4 mem))) ∧ (¬ 40 < x6 → (∀ mem3 : wf_Mem, mem3 = wf_ms mem 121 4 x6 → (Cv mX9_goesOnMany d [.ref 120, .int x2] mem3 (fun mem4 => Vw (Ni (d + 1) P) mX9_signs 84 [(0, .ref 120), (1, .int x1), (2, .int x2), (3, .int x3), (4, .int x4), (5, .int x5), (6, .int x6), (7, .int 0), (8, .int 0)] [] mem4)))))) :
    Vw (Ni (d + 1) P) mX9_signs 58 [(0, .ref 120), (1, .int x1), (2, .int x2), (3, .int x3), (4, .int x4), (5, .int x5), (6, .int x6)] [] mem := by
  refine V_iload 6 dX9_signs_58 rfl ?_
  refine V_bipush (v := 40) dX9_signs_60 rfl ?_
  refine V_icmp_gt (tgt := 188) dX9_signs_62 rfl ⟨fun c1 => ?_, fun c1 => ?_⟩
  · have h := h.1 c1
    refine V_iload_n 3 dX9_signs_188 rfl ?_
    refine V_if_ne (tgt := 197) dX9_signs_189 rfl ⟨fun c2 => ?_, fun c2 => ?_⟩
    · have h := h.1 c2
      refine V_iload 5 dX9_signs_197 rfl ?_
      exact V_iret dX9_signs_199 rfl h
    · have h := h.2 c2
      refine V_iload 4 dX9_signs_192 rfl ?_
      refine V_goto (tgt := 199) dX9_signs_194 rfl ?_
      exact V_iret dX9_signs_199 rfl h
  · have h := h.2 c1
    refine V_aload_n 0 dX9_signs_65 rfl ?_
    refine V_getf (v := .ref 121) gf_X9_7 dX9_signs_66 sh_a120 rfl ?_
    refine V_iconst (v := 4) dX9_signs_69 rfl ?_
    refine V_iload 6 dX9_signs_70 rfl ?_
    refine V_istL (j := 4) dX9_signs_72 sh_a121 (by decide) (by decide) ?_
    refine V_topm (fun mem3 emem3 => ?_)
    have h := h mem3 emem3
    refine V_aload_n 0 dX9_signs_73 rfl ?_
    refine V_iload_n 2 dX9_signs_74 rfl ?_
    refine V_cVv [.int x2] mv_X9_goesOnMany w_560 dX9_signs_75 wf_rok_m sh_a120 rfl (by decide) rfl rfl (Nat.le_of_ble_eq_true rfl) h ?_
    intro mem4 h
    refine V_iconst (v := 0) dX9_signs_78 rfl ?_
    refine V_istore (lv' := [(0, .ref 120), (1, .int x1), (2, .int x2), (3, .int x3), (4, .int x4), (5, .int x5), (6, .int x6), (7, .int 0)]) dX9_signs_79 (by decide) rfl rfl ?_
    refine V_iconst (v := 0) dX9_signs_81 rfl ?_
    refine V_istore (lv' := [(0, .ref 120), (1, .int x1), (2, .int x2), (3, .int x3), (4, .int x4), (5, .int x5), (6, .int x6), (7, .int 0), (8, .int 0)]) dX9_signs_82 (by decide) rfl rfl ?_
    exact h
set_option maxRecDepth 20000 in
theorem b_X9_signs_84 {d : Nat} {P : Int32 → wf_Mem → Prop} (mem : wf_Mem) (x1 : Int32) (x2 : Int32) (x3 : Int32) (x4 : Int32) (x5 : Int32) (x6 : Int32) (x7 : Int32) (x8 : Int32)
    (h : (vp_in x1 4 ∧ (((mem 125 x1.toNatClampNeg) ≤ x8 → (Cv mX9_laysBack d [.ref 120] mem (fun mem2 => ((x4 < 0 → Vw (Ni (d + 1) P) mX9_signs 58 [(0, .ref 120), (1, .int x1), (2, .int x2), (3, .int x3), (4, .int x6), (5, .int x7), (6, .int (x6 + 1))] [] mem2) ∧ (¬ x4 < 0 → ((x5 ≤ x7 → Vw (Ni (d + 1) P) mX9_signs 58 [(0, .ref 120), (1, .int x1), (2, .int x2), (3, .int x3), (4, .int x4), (5, .int x5), (6, .int (x6 + 1))] [] mem2) ∧ (¬ x5 ≤ x7 → Vw (Ni (d + 1) P) mX9_signs 58 [(0, .ref 120), (1, .int x1), (2, .int x2), (3, .int x3), (4, .int x6), (5, .int x7), (6, .int (x6 + 1))] [] mem2))))))) ∧ (¬ (mem 125 x1.toNatClampNeg) ≤ x8 → (vp_in ((24 * x1) + x8) 96 ∧ (∀ x9_5 : Int32, x9_5 = (mem 126 ((24 * x1) + x8).toNatClampNeg) → ((¬ x9_5 = (-1000000005) → (((mem 121 0) ≤ x8 → (Ci mX9_off d [.int x9_5, .int 0] mem (fun r9 mem8 => (∀ x7_10 : Int32, x7_10 = (x7 + r9) → Vw (Ni (d + 1) P) mX9_signs 84 [(0, .ref 120), (1, .int x1), (2, .int x2), (3, .int x3), (4, .int x4), (5, .int x5), (6, .int x6), (7, .int x7_10), (8, .int (x8 + 1))] [] mem8)))) ∧ (¬ (mem 121 0) ≤ x8 → (Ci mX9_wagonsOwn d [.ref 120, .int x8, .int 0] mem (fun r12 mem11 => (Ci mX9_off d [.int x9_5, .int r12] mem11 (fun r14 mem13 => (∀ x7_15 : Int32, x7_15 = (x7 + r14) → Vw (Ni (d + 1) P) mX9_signs 84 [(0, .ref 120), (1, .int x1), (2, .int x2), (3, .int x3), (4, .int x4), (5, .int x5), (6, .int x6), (7, .int x7_15), (8, .int (x8 + 1))] [] mem13)))))))) ∧ (x9_5 = (-1000000005) → (∀ x7_16 : Int32, x7_16 = (x7 + 0) → Vw (Ni (d + 1) P) mX9_signs 84 [(0, .ref 120), (1, .int x1), (2, .int x2), (3, .int x3), (4, .int x4), (5, .int x5), (6, .int x6), (7, .int x7_16), (8, .int (x8 + 1))] [] mem))))))))) :
    Vw (Ni (d + 1) P) mX9_signs 84 [(0, .ref 120), (1, .int x1), (2, .int x2), (3, .int x3), (4, .int x4), (5, .int x5), (6, .int x6), (7, .int x7), (8, .int x8)] [] mem := by
  refine V_iload 8 dX9_signs_84 rfl ?_
  refine V_aload_n 0 dX9_signs_86 rfl ?_
  refine V_getf (v := .ref 125) gf_X9_22 dX9_signs_87 sh_a120 rfl ?_
  refine V_iload_n 1 dX9_signs_90 rfl ?_
  refine V_iald dX9_signs_91 sh_a125 ⟨h.1, ?_⟩
  have h := h.2
  refine V_icmp_ge (tgt := 158) dX9_signs_92 rfl ⟨fun c1 => ?_, fun c1 => ?_⟩
  · have h := h.1 c1
    refine V_aload_n 0 dX9_signs_158 rfl ?_
    refine V_cVv [] mv_X9_laysBack w_568 dX9_signs_159 wf_rok_m sh_a120 rfl (by decide) rfl rfl (Nat.le_of_ble_eq_true rfl) h ?_
    intro mem2 h
    refine V_iload 4 dX9_signs_162 rfl ?_
    refine V_if_lt (tgt := 174) dX9_signs_164 rfl ⟨fun c3 => ?_, fun c3 => ?_⟩
    · have h := h.1 c3
      refine V_iload 6 dX9_signs_174 rfl ?_
      refine V_istore (lv' := [(0, .ref 120), (1, .int x1), (2, .int x2), (3, .int x3), (4, .int x6), (5, .int x5), (6, .int x6), (7, .int x7), (8, .int x8)]) dX9_signs_176 (by decide) rfl rfl ?_
      refine V_iload 7 dX9_signs_178 rfl ?_
      refine V_istore (lv' := [(0, .ref 120), (1, .int x1), (2, .int x2), (3, .int x3), (4, .int x6), (5, .int x7), (6, .int x6), (7, .int x7), (8, .int x8)]) dX9_signs_180 (by decide) rfl rfl ?_
      refine V_iinc (v := (x6 + 1)) (lv' := [(0, .ref 120), (1, .int x1), (2, .int x2), (3, .int x3), (4, .int x6), (5, .int x7), (6, .int (x6 + 1)), (7, .int x7), (8, .int x8)]) 6 dX9_signs_182 rfl rfl (by decide) rfl rfl ?_
      refine V_goto (tgt := 58) dX9_signs_185 rfl ?_
      exact V_sub [0, 1, 2, 3, 4, 5, 6] rfl h
    · have h := h.2 c3
      refine V_iload 7 dX9_signs_167 rfl ?_
      refine V_iload 5 dX9_signs_169 rfl ?_
      refine V_icmp_ge (tgt := 182) dX9_signs_171 rfl ⟨fun c4 => ?_, fun c4 => ?_⟩
      · have h := h.1 c4
        refine V_iinc (v := (x6 + 1)) (lv' := [(0, .ref 120), (1, .int x1), (2, .int x2), (3, .int x3), (4, .int x4), (5, .int x5), (6, .int (x6 + 1)), (7, .int x7), (8, .int x8)]) 6 dX9_signs_182 rfl rfl (by decide) rfl rfl ?_
        refine V_goto (tgt := 58) dX9_signs_185 rfl ?_
        exact V_sub [0, 1, 2, 3, 4, 5, 6] rfl h
      · have h := h.2 c4
        refine V_iload 6 dX9_signs_174 rfl ?_
        refine V_istore (lv' := [(0, .ref 120), (1, .int x1), (2, .int x2), (3, .int x3), (4, .int x6), (5, .int x5), (6, .int x6), (7, .int x7), (8, .int x8)]) dX9_signs_176 (by decide) rfl rfl ?_
        refine V_iload 7 dX9_signs_178 rfl ?_
        refine V_istore (lv' := [(0, .ref 120), (1, .int x1), (2, .int x2), (3, .int x3), (4, .int x6), (5, .int x7), (6, .int x6), (7, .int x7), (8, .int x8)]) dX9_signs_180 (by decide) rfl rfl ?_
        refine V_iinc (v := (x6 + 1)) (lv' := [(0, .ref 120), (1, .int x1), (2, .int x2), (3, .int x3), (4, .int x6), (5, .int x7), (6, .int (x6 + 1)), (7, .int x7), (8, .int x8)]) 6 dX9_signs_182 rfl rfl (by decide) rfl rfl ?_
        refine V_goto (tgt := 58) dX9_signs_185 rfl ?_
        exact V_sub [0, 1, 2, 3, 4, 5, 6] rfl h
  · have h := h.2 c1
    refine V_aload_n 0 dX9_signs_95 rfl ?_
    refine V_getf (v := .ref 126) gf_X9_25 dX9_signs_96 sh_a120 rfl ?_
    refine V_bipush (v := 24) dX9_signs_99 rfl ?_
    refine V_iload_n 1 dX9_signs_101 rfl ?_
    refine V_imul dX9_signs_102 ?_
    refine V_iload 8 dX9_signs_103 rfl ?_
    refine V_iadd dX9_signs_105 ?_
    refine V_iald dX9_signs_106 sh_a126 ⟨h.1, ?_⟩
    have h := h.2
    refine V_topi (fun x9_5 ex9_5 => ?_)
    have h := h x9_5 ex9_5
    refine V_istore (lv' := [(0, .ref 120), (1, .int x1), (2, .int x2), (3, .int x3), (4, .int x4), (5, .int x5), (6, .int x6), (7, .int x7), (8, .int x8), (9, .int x9_5)]) dX9_signs_107 (by decide) rfl rfl ?_
    refine V_iload 7 dX9_signs_109 rfl ?_
    refine V_iload 9 dX9_signs_111 rfl ?_
    refine V_ldc w_433 dX9_signs_113 ?_
    refine V_icmp_ne (tgt := 122) dX9_signs_115 rfl ⟨fun c6 => ?_, fun c6 => ?_⟩
    · have h := h.1 c6
      refine V_iload 9 dX9_signs_122 rfl ?_
      refine V_iload 8 dX9_signs_124 rfl ?_
      refine V_aload_n 0 dX9_signs_126 rfl ?_
      refine V_getf (v := .ref 121) gf_X9_7 dX9_signs_127 sh_a120 rfl ?_
      refine V_iconst (v := 0) dX9_signs_130 rfl ?_
      refine V_ildL (j := 0) dX9_signs_131 sh_a121 (by decide) (by decide) ?_
      refine V_icmp_ge (tgt := 145) dX9_signs_132 rfl ⟨fun c7 => ?_, fun c7 => ?_⟩
      · have h := h.1 c7
        refine V_iconst (v := 0) dX9_signs_145 rfl ?_
        refine V_cSi [.int x9_5, .int 0] ms_X9_off w_495 dX9_signs_146 wf_rok_m rfl rfl (Nat.le_of_ble_eq_true rfl) h ?_
        intro r9 mem8 h
        refine V_iadd dX9_signs_149 ?_
        refine V_topi (fun x7_10 ex7_10 => ?_)
        have h := h x7_10 ex7_10
        refine V_istore (lv' := [(0, .ref 120), (1, .int x1), (2, .int x2), (3, .int x3), (4, .int x4), (5, .int x5), (6, .int x6), (7, .int x7_10), (8, .int x8), (9, .int x9_5)]) dX9_signs_150 (by decide) rfl rfl ?_
        refine V_iinc (v := (x8 + 1)) (lv' := [(0, .ref 120), (1, .int x1), (2, .int x2), (3, .int x3), (4, .int x4), (5, .int x5), (6, .int x6), (7, .int x7_10), (8, .int (x8 + 1)), (9, .int x9_5)]) 8 dX9_signs_152 rfl rfl (by decide) rfl rfl ?_
        refine V_goto (tgt := 84) dX9_signs_155 rfl ?_
        exact V_sub [0, 1, 2, 3, 4, 5, 6, 7, 8] rfl h
      · have h := h.2 c7
        refine V_aload_n 0 dX9_signs_135 rfl ?_
        refine V_iload 8 dX9_signs_136 rfl ?_
        refine V_iconst (v := 0) dX9_signs_138 rfl ?_
        refine V_cVi [.int x8, .int 0] mv_X9_wagonsOwn w_446 dX9_signs_139 wf_rok_m sh_a120 rfl (by decide) rfl rfl (Nat.le_of_ble_eq_true rfl) h ?_
        intro r12 mem11 h
        refine V_goto (tgt := 146) dX9_signs_142 rfl ?_
        refine V_cSi [.int x9_5, .int r12] ms_X9_off w_495 dX9_signs_146 wf_rok_m rfl rfl (Nat.le_of_ble_eq_true rfl) h ?_
        intro r14 mem13 h
        refine V_iadd dX9_signs_149 ?_
        refine V_topi (fun x7_15 ex7_15 => ?_)
        have h := h x7_15 ex7_15
        refine V_istore (lv' := [(0, .ref 120), (1, .int x1), (2, .int x2), (3, .int x3), (4, .int x4), (5, .int x5), (6, .int x6), (7, .int x7_15), (8, .int x8), (9, .int x9_5)]) dX9_signs_150 (by decide) rfl rfl ?_
        refine V_iinc (v := (x8 + 1)) (lv' := [(0, .ref 120), (1, .int x1), (2, .int x2), (3, .int x3), (4, .int x4), (5, .int x5), (6, .int x6), (7, .int x7_15), (8, .int (x8 + 1)), (9, .int x9_5)]) 8 dX9_signs_152 rfl rfl (by decide) rfl rfl ?_
        refine V_goto (tgt := 84) dX9_signs_155 rfl ?_
        exact V_sub [0, 1, 2, 3, 4, 5, 6, 7, 8] rfl h
    · have h := h.2 c6
      refine V_iconst (v := 0) dX9_signs_118 rfl ?_
      refine V_goto (tgt := 149) dX9_signs_119 rfl ?_
      refine V_iadd dX9_signs_149 ?_
      refine V_topi (fun x7_16 ex7_16 => ?_)
      have h := h x7_16 ex7_16
      refine V_istore (lv' := [(0, .ref 120), (1, .int x1), (2, .int x2), (3, .int x3), (4, .int x4), (5, .int x5), (6, .int x6), (7, .int x7_16), (8, .int x8), (9, .int x9_5)]) dX9_signs_150 (by decide) rfl rfl ?_
      refine V_iinc (v := (x8 + 1)) (lv' := [(0, .ref 120), (1, .int x1), (2, .int x2), (3, .int x3), (4, .int x4), (5, .int x5), (6, .int x6), (7, .int x7_16), (8, .int (x8 + 1)), (9, .int x9_5)]) 8 dX9_signs_152 rfl rfl (by decide) rfl rfl ?_
      refine V_goto (tgt := 84) dX9_signs_155 rfl ?_
      exact V_sub [0, 1, 2, 3, 4, 5, 6, 7, 8] rfl h
set_option maxRecDepth 20000 in
theorem b_X9_copy_0 {d : Nat} {P : Int32 → wf_Mem → Prop} (mem : wf_Mem) (x1 : Int32) (x2 : Int32) (x3 : Int32) (x4 : Int32) (x5 : Int32)
    (h : (Ci mX9_isSheet d [.int x1] mem (fun r2 mem1 => ((r2 = 0 → P (-1000000001) mem1) ∧ (¬ r2 = 0 → (Ci mX9_isSheet d [.int x3] mem1 (fun r5 mem4 => ((¬ r5 = 0 → (vp_in x1 4 ∧ (((mem4 124 x1.toNatClampNeg) < 0 → P (-1000000011) mem4) ∧ (¬ (mem4 124 x1.toNatClampNeg) < 0 → (vp_in x3 4 ∧ ((0 ≤ (mem4 124 x3.toNatClampNeg) → (vp_in x1 4 ∧ (vp_in x3 4 ∧ (((mem4 124 x1.toNatClampNeg) = (mem4 124 x3.toNatClampNeg) → ((x2 < 0 → P (-1000000013) mem4) ∧ (¬ x2 < 0 → ((x4 < 0 → P (-1000000013) mem4) ∧ (¬ x4 < 0 → ((x5 < 0 → P (-1000000013) mem4) ∧ (¬ x5 < 0 → (vp_in x1 4 ∧ ((0 < (lg_cmp ((x2 : Int32).toInt64 + (x5 : Int32).toInt64) ((mem4 125 x1.toNatClampNeg) : Int32).toInt64) → P (-1000000013) mem4) ∧ (¬ 0 < (lg_cmp ((x2 : Int32).toInt64 + (x5 : Int32).toInt64) ((mem4 125 x1.toNatClampNeg) : Int32).toInt64) → (vp_in x3 4 ∧ (((lg_cmp ((x4 : Int32).toInt64 + (x5 : Int32).toInt64) ((mem4 125 x3.toNatClampNeg) : Int32).toInt64) ≤ 0 → Vw (Ni (d + 1) P) mX9_copy 113 [(0, .ref 120), (1, .int x1), (2, .int x2), (3, .int x3), (4, .int x4), (5, .int x5), (6, .int 0)] [] mem4) ∧ (¬ (lg_cmp ((x4 : Int32).toInt64 + (x5 : Int32).toInt64) ((mem4 125 x3.toNatClampNeg) : Int32).toInt64) ≤ 0 → P (-1000000013) mem4))))))))))))) ∧ (¬ (mem4 124 x1.toNatClampNeg) = (mem4 124 x3.toNatClampNeg) → P (-1000000012) mem4))))) ∧ (¬ 0 ≤ (mem4 124 x3.toNatClampNeg) → P (-1000000011) mem4))))))) ∧ (r5 = 0 → P (-1000000001) mem4))))))))) :
    Vw (Ni (d + 1) P) mX9_copy 0 [(0, .ref 120), (1, .int x1), (2, .int x2), (3, .int x3), (4, .int x4), (5, .int x5)] [] mem := by
  refine V_iload_n 1 dX9_copy_0 rfl ?_
  refine V_cSi [.int x1] ms_X9_isSheet w_673 dX9_copy_1 wf_rok_m rfl rfl (Nat.le_of_ble_eq_true rfl) h ?_
  intro r2 mem1 h
  refine V_if_eq (tgt := 14) dX9_copy_4 rfl ⟨fun c3 => ?_, fun c3 => ?_⟩
  · have h := h.1 c3
    refine V_ldc w_442 dX9_copy_14 ?_
    exact V_iret dX9_copy_16 rfl h
  · have h := h.2 c3
    refine V_iload_n 3 dX9_copy_7 rfl ?_
    refine V_cSi [.int x3] ms_X9_isSheet w_673 dX9_copy_8 wf_rok_m rfl rfl (Nat.le_of_ble_eq_true rfl) h ?_
    intro r5 mem4 h
    refine V_if_ne (tgt := 17) dX9_copy_11 rfl ⟨fun c6 => ?_, fun c6 => ?_⟩
    · have h := h.1 c6
      refine V_aload_n 0 dX9_copy_17 rfl ?_
      refine V_getf (v := .ref 124) gf_X9_19 dX9_copy_18 sh_a120 rfl ?_
      refine V_iload_n 1 dX9_copy_21 rfl ?_
      refine V_iald dX9_copy_22 sh_a124 ⟨h.1, ?_⟩
      have h := h.2
      refine V_if_lt (tgt := 35) dX9_copy_23 rfl ⟨fun c7 => ?_, fun c7 => ?_⟩
      · have h := h.1 c7
        refine V_ldcw w_680 dX9_copy_35 ?_
        exact V_iret dX9_copy_38 rfl h
      · have h := h.2 c7
        refine V_aload_n 0 dX9_copy_26 rfl ?_
        refine V_getf (v := .ref 124) gf_X9_19 dX9_copy_27 sh_a120 rfl ?_
        refine V_iload_n 3 dX9_copy_30 rfl ?_
        refine V_iald dX9_copy_31 sh_a124 ⟨h.1, ?_⟩
        have h := h.2
        refine V_if_ge (tgt := 39) dX9_copy_32 rfl ⟨fun c8 => ?_, fun c8 => ?_⟩
        · have h := h.1 c8
          refine V_aload_n 0 dX9_copy_39 rfl ?_
          refine V_getf (v := .ref 124) gf_X9_19 dX9_copy_40 sh_a120 rfl ?_
          refine V_iload_n 1 dX9_copy_43 rfl ?_
          refine V_iald dX9_copy_44 sh_a124 ⟨h.1, ?_⟩
          have h := h.2
          refine V_aload_n 0 dX9_copy_45 rfl ?_
          refine V_getf (v := .ref 124) gf_X9_19 dX9_copy_46 sh_a120 rfl ?_
          refine V_iload_n 3 dX9_copy_49 rfl ?_
          refine V_iald dX9_copy_50 sh_a124 ⟨h.1, ?_⟩
          have h := h.2
          refine V_icmp_eq (tgt := 57) dX9_copy_51 rfl ⟨fun c9 => ?_, fun c9 => ?_⟩
          · have h := h.1 c9
            refine V_iload_n 2 dX9_copy_57 rfl ?_
            refine V_if_lt (tgt := 106) dX9_copy_58 rfl ⟨fun c10 => ?_, fun c10 => ?_⟩
            · have h := h.1 c10
              refine V_ldcw w_679 dX9_copy_106 ?_
              exact V_iret dX9_copy_109 rfl h
            · have h := h.2 c10
              refine V_iload 4 dX9_copy_61 rfl ?_
              refine V_if_lt (tgt := 106) dX9_copy_63 rfl ⟨fun c11 => ?_, fun c11 => ?_⟩
              · have h := h.1 c11
                refine V_ldcw w_679 dX9_copy_106 ?_
                exact V_iret dX9_copy_109 rfl h
              · have h := h.2 c11
                refine V_iload 5 dX9_copy_66 rfl ?_
                refine V_if_lt (tgt := 106) dX9_copy_68 rfl ⟨fun c12 => ?_, fun c12 => ?_⟩
                · have h := h.1 c12
                  refine V_ldcw w_679 dX9_copy_106 ?_
                  exact V_iret dX9_copy_109 rfl h
                · have h := h.2 c12
                  refine V_iload_n 2 dX9_copy_71 rfl ?_
                  refine V_i2l dX9_copy_72 ?_
                  refine V_iload 5 dX9_copy_73 rfl ?_
                  refine V_i2l dX9_copy_75 ?_
                  refine V_ladd dX9_copy_76 ?_
                  refine V_aload_n 0 dX9_copy_77 rfl ?_
                  refine V_getf (v := .ref 125) gf_X9_22 dX9_copy_78 sh_a120 rfl ?_
                  refine V_iload_n 1 dX9_copy_81 rfl ?_
                  refine V_iald dX9_copy_82 sh_a125 ⟨h.1, ?_⟩
                  have h := h.2
                  refine V_i2l dX9_copy_83 ?_
                  refine V_lcmp dX9_copy_84 ?_
                  refine V_if_gt (tgt := 106) dX9_copy_85 rfl ⟨fun c13 => ?_, fun c13 => ?_⟩
                  · have h := h.1 c13
                    refine V_ldcw w_679 dX9_copy_106 ?_
                    exact V_iret dX9_copy_109 rfl h
                  · have h := h.2 c13
                    refine V_iload 4 dX9_copy_88 rfl ?_
                    refine V_i2l dX9_copy_90 ?_
                    refine V_iload 5 dX9_copy_91 rfl ?_
                    refine V_i2l dX9_copy_93 ?_
                    refine V_ladd dX9_copy_94 ?_
                    refine V_aload_n 0 dX9_copy_95 rfl ?_
                    refine V_getf (v := .ref 125) gf_X9_22 dX9_copy_96 sh_a120 rfl ?_
                    refine V_iload_n 3 dX9_copy_99 rfl ?_
                    refine V_iald dX9_copy_100 sh_a125 ⟨h.1, ?_⟩
                    have h := h.2
                    refine V_i2l dX9_copy_101 ?_
                    refine V_lcmp dX9_copy_102 ?_
                    refine V_if_le (tgt := 110) dX9_copy_103 rfl ⟨fun c14 => ?_, fun c14 => ?_⟩
                    · have h := h.1 c14
                      refine V_iconst (v := 0) dX9_copy_110 rfl ?_
                      refine V_istore (lv' := [(0, .ref 120), (1, .int x1), (2, .int x2), (3, .int x3), (4, .int x4), (5, .int x5), (6, .int 0)]) dX9_copy_111 (by decide) rfl rfl ?_
                      exact h
                    · have h := h.2 c14
                      refine V_ldcw w_679 dX9_copy_106 ?_
                      exact V_iret dX9_copy_109 rfl h
          · have h := h.2 c9
            refine V_ldc w_515 dX9_copy_54 ?_
            exact V_iret dX9_copy_56 rfl h
        · have h := h.2 c8
          refine V_ldcw w_680 dX9_copy_35 ?_
          exact V_iret dX9_copy_38 rfl h
    · have h := h.2 c6
      refine V_ldc w_442 dX9_copy_14 ?_
      exact V_iret dX9_copy_16 rfl h
set_option maxRecDepth 20000 in
theorem b_X9_copy_113 {d : Nat} {P : Int32 → wf_Mem → Prop} (mem : wf_Mem) (x1 : Int32) (x2 : Int32) (x3 : Int32) (x4 : Int32) (x5 : Int32) (x6 : Int32)
    (h : ((x5 ≤ x6 → Vw (Ni (d + 1) P) mX9_copy 150 [(0, .ref 120), (3, .int x3), (4, .int x4), (5, .int x5), (6, .int 0)] [] mem) ∧ (¬ x5 ≤ x6 → (vp_in (((24 * x1) + x2) + x6) 96 ∧ (vp_in x6 24 ∧ ∀ mem2 : wf_Mem, mem2 = wf_ms mem 136 x6.toNatClampNeg (mem 126 (((24 * x1) + x2) + x6).toNatClampNeg) → Vw (Ni (d + 1) P) mX9_copy 113 [(0, .ref 120), (1, .int x1), (2, .int x2), (3, .int x3), (4, .int x4), (5, .int x5), (6, .int (x6 + 1))] [] mem2))))) :
    Vw (Ni (d + 1) P) mX9_copy 113 [(0, .ref 120), (1, .int x1), (2, .int x2), (3, .int x3), (4, .int x4), (5, .int x5), (6, .int x6)] [] mem := by
  refine V_iload 6 dX9_copy_113 rfl ?_
  refine V_iload 5 dX9_copy_115 rfl ?_
  refine V_icmp_ge (tgt := 147) dX9_copy_117 rfl ⟨fun c1 => ?_, fun c1 => ?_⟩
  · have h := h.1 c1
    refine V_iconst (v := 0) dX9_copy_147 rfl ?_
    refine V_istore (lv' := [(0, .ref 120), (1, .int x1), (2, .int x2), (3, .int x3), (4, .int x4), (5, .int x5), (6, .int 0)]) dX9_copy_148 (by decide) rfl rfl ?_
    exact V_sub [0, 3, 4, 5, 6] rfl h
  · have h := h.2 c1
    refine V_aload_n 0 dX9_copy_120 rfl ?_
    refine V_getf (v := .ref 136) gf_X9_55 dX9_copy_121 sh_a120 rfl ?_
    refine V_iload 6 dX9_copy_124 rfl ?_
    refine V_aload_n 0 dX9_copy_126 rfl ?_
    refine V_getf (v := .ref 126) gf_X9_25 dX9_copy_127 sh_a120 rfl ?_
    refine V_bipush (v := 24) dX9_copy_130 rfl ?_
    refine V_iload_n 1 dX9_copy_132 rfl ?_
    refine V_imul dX9_copy_133 ?_
    refine V_iload_n 2 dX9_copy_134 rfl ?_
    refine V_iadd dX9_copy_135 ?_
    refine V_iload 6 dX9_copy_136 rfl ?_
    refine V_iadd dX9_copy_138 ?_
    refine V_iald dX9_copy_139 sh_a126 ⟨h.1, ?_⟩
    have h := h.2
    refine V_iast dX9_copy_140 sh_a136 ⟨h.1, ?_⟩
    refine V_topm (fun mem2 emem2 => ?_)
    have h := h.2 mem2 emem2
    refine V_iinc (v := (x6 + 1)) (lv' := [(0, .ref 120), (1, .int x1), (2, .int x2), (3, .int x3), (4, .int x4), (5, .int x5), (6, .int (x6 + 1))]) 6 dX9_copy_141 rfl rfl (by decide) rfl rfl ?_
    refine V_goto (tgt := 113) dX9_copy_144 rfl ?_
    exact h
set_option maxRecDepth 20000 in
theorem b_X9_copy_150 {d : Nat} {P : Int32 → wf_Mem → Prop} (mem : wf_Mem) (x3 : Int32) (x4 : Int32) (x5 : Int32) (x6 : Int32)
    (h : ((x5 ≤ x6 → P x5 mem) ∧ (¬ x5 ≤ x6 → (vp_in x6 24 ∧ (vp_in (((24 * x3) + x4) + x6) 96 ∧ ∀ mem2 : wf_Mem, mem2 = wf_ms mem 126 (((24 * x3) + x4) + x6).toNatClampNeg (mem 136 x6.toNatClampNeg) → Vw (Ni (d + 1) P) mX9_copy 150 [(0, .ref 120), (3, .int x3), (4, .int x4), (5, .int x5), (6, .int (x6 + 1))] [] mem2))))) :
    Vw (Ni (d + 1) P) mX9_copy 150 [(0, .ref 120), (3, .int x3), (4, .int x4), (5, .int x5), (6, .int x6)] [] mem := by
  refine V_iload 4 dX9_copy_150 rfl ?_
  refine V_iload 3 dX9_copy_152 rfl ?_
  refine V_icmp_ge (tgt := 185) dX9_copy_154 rfl ⟨fun c1 => ?_, fun c1 => ?_⟩
  · have h := h.1 c1
    refine V_iload 3 dX9_copy_185 rfl ?_
    exact V_iret dX9_copy_187 rfl h
  · have h := h.2 c1
    refine V_aload_n 0 dX9_copy_157 rfl ?_
    refine V_getf (v := .ref 126) gf_X9_25 dX9_copy_158 sh_a120 rfl ?_
    refine V_bipush (v := 24) dX9_copy_161 rfl ?_
    refine V_iload_n 1 dX9_copy_163 rfl ?_
    refine V_imul dX9_copy_164 ?_
    refine V_iload 2 dX9_copy_165 rfl ?_
    refine V_iadd dX9_copy_167 ?_
    refine V_iload 4 dX9_copy_168 rfl ?_
    refine V_iadd dX9_copy_170 ?_
    refine V_aload_n 0 dX9_copy_171 rfl ?_
    refine V_getf (v := .ref 136) gf_X9_55 dX9_copy_172 sh_a120 rfl ?_
    refine V_iload 4 dX9_copy_175 rfl ?_
    refine V_iald dX9_copy_177 sh_a136 ⟨h.1, ?_⟩
    have h := h.2
    refine V_iast dX9_copy_178 sh_a126 ⟨h.1, ?_⟩
    refine V_topm (fun mem2 emem2 => ?_)
    have h := h.2 mem2 emem2
    refine V_iinc (v := (x6 + 1)) (lv' := [(0, .ref 120), (3, .int x3), (4, .int x4), (5, .int x5), (6, .int (x6 + 1))]) 4 dX9_copy_179 rfl rfl (by decide) rfl rfl ?_
    refine V_goto (tgt := 150) dX9_copy_182 rfl ?_
    exact h
set_option maxRecDepth 20000 in
theorem b_X9_isSlot_0 {d : Nat} {P : Int32 → wf_Mem → Prop} (mem : wf_Mem) (x0 : Int32)
    (h : (Ci mX9_isIn d [.long (x0 : Int32).toInt64, .long 0, .long 4] mem (fun r2 mem1 => ((r2 = 0 ∨ r2 = 1) ∧ P r2 mem1)))) :
    Vw (Ni (d + 1) P) mX9_isSlot 0 [(0, .int x0)] [] mem := by
  refine V_iload_n 0 dX9_isSlot_0 rfl ?_
  refine V_i2l dX9_isSlot_1 ?_
  refine V_lconst (v := 0) dX9_isSlot_2 rfl ?_
  refine V_ldc2 w_684 dX9_isSlot_3 ?_
  refine V_cSi [.long (x0 : Int32).toInt64, .long 0, .long 4] ms_X9_isIn w_438 dX9_isSlot_6 wf_rok_m rfl rfl (Nat.le_of_ble_eq_true rfl) h ?_
  intro r2 mem1 h
  exact V_zret dX9_isSlot_9 rfl (wf_nb h.1) h.2
set_option maxRecDepth 20000 in
theorem b_X9_lay_0 {d : Nat} {P : Int32 → wf_Mem → Prop} (mem : wf_Mem) (x1 : Int32) (x2 : Int32) (x3 : Int32)
    (h : ((x2 = 0 → Vw (Ni (d + 1) P) mX9_lay 39 [(0, .ref 120), (1, .int x1), (2, .int x2), (3, .int x3)] [.int 1] mem) ∧ (¬ x2 = 0 → ((x2 = 3 → Vw (Ni (d + 1) P) mX9_lay 39 [(0, .ref 120), (1, .int x1), (2, .int x2), (3, .int x3)] [.int 1] mem) ∧ (¬ x2 = 3 → ((¬ x2 = 1 → Vw (Ni (d + 1) P) mX9_lay 22 [(0, .ref 120), (1, .int x1), (2, .int x2), (3, .int x3)] [] mem) ∧ (x2 = 1 → (Ci mX9_isWatcher d [.ref 120, .int x3] mem (fun r5 mem4 => ((¬ r5 = 0 → Vw (Ni (d + 1) P) mX9_lay 39 [(0, .ref 120), (1, .int x1), (2, .int x2), (3, .int x3)] [.int 1] mem4) ∧ (r5 = 0 → Vw (Ni (d + 1) P) mX9_lay 22 [(0, .ref 120), (1, .int x1), (2, .int x2), (3, .int x3)] [] mem4))))))))))) :
    Vw (Ni (d + 1) P) mX9_lay 0 [(0, .ref 120), (1, .int x1), (2, .int x2), (3, .int x3)] [] mem := by
  refine V_iload_n 2 dX9_lay_0 rfl ?_
  refine V_if_eq (tgt := 34) dX9_lay_1 rfl ⟨fun c1 => ?_, fun c1 => ?_⟩
  · have h := h.1 c1
    refine V_iconst (v := 1) dX9_lay_34 rfl ?_
    refine V_goto (tgt := 39) dX9_lay_35 rfl ?_
    exact h
  · have h := h.2 c1
    refine V_iload_n 2 dX9_lay_4 rfl ?_
    refine V_iconst (v := 3) dX9_lay_5 rfl ?_
    refine V_icmp_eq (tgt := 34) dX9_lay_6 rfl ⟨fun c2 => ?_, fun c2 => ?_⟩
    · have h := h.1 c2
      refine V_iconst (v := 1) dX9_lay_34 rfl ?_
      refine V_goto (tgt := 39) dX9_lay_35 rfl ?_
      exact h
    · have h := h.2 c2
      refine V_iload_n 2 dX9_lay_9 rfl ?_
      refine V_iconst (v := 1) dX9_lay_10 rfl ?_
      refine V_icmp_ne (tgt := 22) dX9_lay_11 rfl ⟨fun c3 => ?_, fun c3 => ?_⟩
      · have h := h.1 c3
        exact h
      · have h := h.2 c3
        refine V_aload_n 0 dX9_lay_14 rfl ?_
        refine V_iload_n 3 dX9_lay_15 rfl ?_
        refine V_cVi [.int x3] mv_X9_isWatcher w_506 dX9_lay_16 wf_rok_m sh_a120 rfl (by decide) rfl rfl (Nat.le_of_ble_eq_true rfl) h ?_
        intro r5 mem4 h
        refine V_if_ne (tgt := 34) dX9_lay_19 rfl ⟨fun c6 => ?_, fun c6 => ?_⟩
        · have h := h.1 c6
          refine V_iconst (v := 1) dX9_lay_34 rfl ?_
          refine V_goto (tgt := 39) dX9_lay_35 rfl ?_
          exact h
        · have h := h.2 c6
          exact h
set_option maxRecDepth 20000 in
theorem b_X9_lay_22 {d : Nat} {P : Int32 → wf_Mem → Prop} (mem : wf_Mem) (x1 : Int32) (x2 : Int32) (x3 : Int32)
    (h : ((¬ x2 = 2 → Vw (Ni (d + 1) P) mX9_lay 39 [(0, .ref 120), (1, .int x1), (2, .int x2), (3, .int x3)] [.int 0] mem) ∧ (x2 = 2 → (Ci mX9_isSheet d [.int x3] mem (fun r3 mem2 => ((r3 = 0 → Vw (Ni (d + 1) P) mX9_lay 39 [(0, .ref 120), (1, .int x1), (2, .int x2), (3, .int x3)] [.int 0] mem2) ∧ (¬ r3 = 0 → Vw (Ni (d + 1) P) mX9_lay 39 [(0, .ref 120), (1, .int x1), (2, .int x2), (3, .int x3)] [.int 1] mem2))))))) :
    Vw (Ni (d + 1) P) mX9_lay 22 [(0, .ref 120), (1, .int x1), (2, .int x2), (3, .int x3)] [] mem := by
  refine V_iload_n 2 dX9_lay_22 rfl ?_
  refine V_iconst (v := 2) dX9_lay_23 rfl ?_
  refine V_icmp_ne (tgt := 38) dX9_lay_24 rfl ⟨fun c1 => ?_, fun c1 => ?_⟩
  · have h := h.1 c1
    refine V_iconst (v := 0) dX9_lay_38 rfl ?_
    exact h
  · have h := h.2 c1
    refine V_iload_n 3 dX9_lay_27 rfl ?_
    refine V_cSi [.int x3] ms_X9_isSheet w_673 dX9_lay_28 wf_rok_m rfl rfl (Nat.le_of_ble_eq_true rfl) h ?_
    intro r3 mem2 h
    refine V_if_eq (tgt := 38) dX9_lay_31 rfl ⟨fun c4 => ?_, fun c4 => ?_⟩
    · have h := h.1 c4
      refine V_iconst (v := 0) dX9_lay_38 rfl ?_
      exact h
    · have h := h.2 c4
      refine V_iconst (v := 1) dX9_lay_34 rfl ?_
      refine V_goto (tgt := 39) dX9_lay_35 rfl ?_
      exact h
set_option maxRecDepth 20000 in
theorem b_X9_lay_39 {d : Nat} {P : Int32 → wf_Mem → Prop} (mem : wf_Mem) (x1 : Int32) (x2 : Int32) (x3 : Int32) (y0 : Int32)
    (h : (Ci mX9_isSlot d [.int x1] mem (fun r2 mem1 => ((r2 = 0 → P (-1000000001) mem1) ∧ (¬ r2 = 0 → ((¬ y0 = 0 → ((¬ x2 = 2 → Vw (Ni (d + 1) P) mX9_lay 74 [(0, .ref 120), (1, .int x1), (2, .int x2), (3, .int x3)] [] mem1) ∧ (x2 = 2 → (vp_in x3 4 ∧ ((0 ≤ (mem1 124 x3.toNatClampNeg) → Vw (Ni (d + 1) P) mX9_lay 74 [(0, .ref 120), (1, .int x1), (2, .int x2), (3, .int x3)] [] mem1) ∧ (¬ 0 ≤ (mem1 124 x3.toNatClampNeg) → P (-1000000011) mem1)))))) ∧ (y0 = 0 → P (-1000000001) mem1))))))) :
    Vw (Ni (d + 1) P) mX9_lay 39 [(0, .ref 120), (1, .int x1), (2, .int x2), (3, .int x3)] [.int y0] mem := by
  refine V_istore (lv' := [(0, .ref 120), (1, .int x1), (2, .int x2), (3, .int x3), (4, .int y0)]) dX9_lay_39 (by decide) rfl rfl ?_
  refine V_iload_n 1 dX9_lay_41 rfl ?_
  refine V_cSi [.int x1] ms_X9_isSlot w_687 dX9_lay_42 wf_rok_m rfl rfl (Nat.le_of_ble_eq_true rfl) h ?_
  intro r2 mem1 h
  refine V_if_eq (tgt := 53) dX9_lay_45 rfl ⟨fun c3 => ?_, fun c3 => ?_⟩
  · have h := h.1 c3
    refine V_ldc w_442 dX9_lay_53 ?_
    exact V_iret dX9_lay_55 rfl h
  · have h := h.2 c3
    refine V_iload 4 dX9_lay_48 rfl ?_
    refine V_if_ne (tgt := 56) dX9_lay_50 rfl ⟨fun c4 => ?_, fun c4 => ?_⟩
    · have h := h.1 c4
      refine V_iload_n 2 dX9_lay_56 rfl ?_
      refine V_iconst (v := 2) dX9_lay_57 rfl ?_
      refine V_icmp_ne (tgt := 74) dX9_lay_58 rfl ⟨fun c5 => ?_, fun c5 => ?_⟩
      · have h := h.1 c5
        exact V_sub [0, 1, 2, 3] rfl h
      · have h := h.2 c5
        refine V_aload_n 0 dX9_lay_61 rfl ?_
        refine V_getf (v := .ref 124) gf_X9_19 dX9_lay_62 sh_a120 rfl ?_
        refine V_iload_n 3 dX9_lay_65 rfl ?_
        refine V_iald dX9_lay_66 sh_a124 ⟨h.1, ?_⟩
        have h := h.2
        refine V_if_ge (tgt := 74) dX9_lay_67 rfl ⟨fun c6 => ?_, fun c6 => ?_⟩
        · have h := h.1 c6
          exact V_sub [0, 1, 2, 3] rfl h
        · have h := h.2 c6
          refine V_ldcw w_680 dX9_lay_70 ?_
          exact V_iret dX9_lay_73 rfl h
    · have h := h.2 c4
      refine V_ldc w_442 dX9_lay_53 ?_
      exact V_iret dX9_lay_55 rfl h
set_option maxRecDepth 20000 in
theorem b_X9_lay_74 {d : Nat} {P : Int32 → wf_Mem → Prop} (mem : wf_Mem) (x1 : Int32) (x2 : Int32) (x3 : Int32)
    (h : (vp_in x1 5 ∧ (∀ x5_1 : Int32, x5_1 = (mem 127 x1.toNatClampNeg) → (vp_in x1 5 ∧ ∀ mem2 : wf_Mem, mem2 = wf_ms mem 127 x1.toNatClampNeg x2 → ((¬ x2 = 1 → Vw (Ni (d + 1) P) mX9_lay 109 [(0, .ref 120), (1, .int x1), (2, .int x2), (3, .int x3), (5, .int x5_1)] [.int x3, .int x1, .ref 128] mem2) ∧ (x2 = 1 → (Ci mX9_of d [.ref 120, .int x3, .int 0] mem2 (fun r5 mem4 => Vw (Ni (d + 1) P) mX9_lay 109 [(0, .ref 120), (1, .int x1), (2, .int x2), (3, .int x3), (5, .int x5_1)] [.int r5, .int x1, .ref 128] mem4)))))))) :
    Vw (Ni (d + 1) P) mX9_lay 74 [(0, .ref 120), (1, .int x1), (2, .int x2), (3, .int x3)] [] mem := by
  refine V_aload_n 0 dX9_lay_74 rfl ?_
  refine V_getf (v := .ref 127) gf_X9_28 dX9_lay_75 sh_a120 rfl ?_
  refine V_iload_n 1 dX9_lay_78 rfl ?_
  refine V_iald dX9_lay_79 sh_a127 ⟨h.1, ?_⟩
  have h := h.2
  refine V_topi (fun x5_1 ex5_1 => ?_)
  have h := h x5_1 ex5_1
  refine V_istore (lv' := [(0, .ref 120), (1, .int x1), (2, .int x2), (3, .int x3), (5, .int x5_1)]) dX9_lay_80 (by decide) rfl rfl ?_
  refine V_aload_n 0 dX9_lay_82 rfl ?_
  refine V_getf (v := .ref 127) gf_X9_28 dX9_lay_83 sh_a120 rfl ?_
  refine V_iload_n 1 dX9_lay_86 rfl ?_
  refine V_iload_n 2 dX9_lay_87 rfl ?_
  refine V_iast dX9_lay_88 sh_a127 ⟨h.1, ?_⟩
  refine V_topm (fun mem2 emem2 => ?_)
  have h := h.2 mem2 emem2
  refine V_aload_n 0 dX9_lay_89 rfl ?_
  refine V_getf (v := .ref 128) gf_X9_31 dX9_lay_90 sh_a120 rfl ?_
  refine V_iload_n 1 dX9_lay_93 rfl ?_
  refine V_iload_n 2 dX9_lay_94 rfl ?_
  refine V_iconst (v := 1) dX9_lay_95 rfl ?_
  refine V_icmp_ne (tgt := 108) dX9_lay_96 rfl ⟨fun c3 => ?_, fun c3 => ?_⟩
  · have h := h.1 c3
    refine V_iload_n 3 dX9_lay_108 rfl ?_
    exact h
  · have h := h.2 c3
    refine V_aload_n 0 dX9_lay_99 rfl ?_
    refine V_iload_n 3 dX9_lay_100 rfl ?_
    refine V_iconst (v := 0) dX9_lay_101 rfl ?_
    refine V_cVi [.int x3, .int 0] mv_X9_of w_466 dX9_lay_102 wf_rok_m sh_a120 rfl (by decide) rfl rfl (Nat.le_of_ble_eq_true rfl) h ?_
    intro r5 mem4 h
    refine V_goto (tgt := 109) dX9_lay_105 rfl ?_
    exact h
set_option maxRecDepth 20000 in
theorem b_X9_lay_109 {d : Nat} {P : Int32 → wf_Mem → Prop} (mem : wf_Mem) (x1 : Int32) (x2 : Int32) (x3 : Int32) (x5 : Int32) (y1 : Int32) (y2 : Int32)
    (h : (vp_in y1 5 ∧ ∀ mem1 : wf_Mem, mem1 = wf_ms mem 128 y1.toNatClampNeg y2 → ((¬ x2 = 1 → Vw (Ni (d + 1) P) mX9_lay 129 [(0, .ref 120), (1, .int x1), (2, .int x2), (3, .int x3), (5, .int x5)] [.int 0, .int x1, .ref 129] mem1) ∧ (x2 = 1 → (Ci mX9_worth d [.ref 120, .int x3] mem1 (fun r4 mem3 => Vw (Ni (d + 1) P) mX9_lay 129 [(0, .ref 120), (1, .int x1), (2, .int x2), (3, .int x3), (5, .int x5)] [.int r4, .int x1, .ref 129] mem3)))))) :
    Vw (Ni (d + 1) P) mX9_lay 109 [(0, .ref 120), (1, .int x1), (2, .int x2), (3, .int x3), (5, .int x5)] [.int y2, .int y1, .ref 128] mem := by
  refine V_iast dX9_lay_109 sh_a128 ⟨h.1, ?_⟩
  refine V_topm (fun mem1 emem1 => ?_)
  have h := h.2 mem1 emem1
  refine V_aload_n 0 dX9_lay_110 rfl ?_
  refine V_getf (v := .ref 129) gf_X9_34 dX9_lay_111 sh_a120 rfl ?_
  refine V_iload_n 1 dX9_lay_114 rfl ?_
  refine V_iload_n 2 dX9_lay_115 rfl ?_
  refine V_iconst (v := 1) dX9_lay_116 rfl ?_
  refine V_icmp_ne (tgt := 128) dX9_lay_117 rfl ⟨fun c2 => ?_, fun c2 => ?_⟩
  · have h := h.1 c2
    refine V_iconst (v := 0) dX9_lay_128 rfl ?_
    exact h
  · have h := h.2 c2
    refine V_aload_n 0 dX9_lay_120 rfl ?_
    refine V_iload_n 3 dX9_lay_121 rfl ?_
    refine V_cVi [.int x3] mv_X9_worth w_511 dX9_lay_122 wf_rok_m sh_a120 rfl (by decide) rfl rfl (Nat.le_of_ble_eq_true rfl) h ?_
    intro r4 mem3 h
    refine V_goto (tgt := 129) dX9_lay_125 rfl ?_
    exact h
set_option maxRecDepth 20000 in
theorem b_X9_lay_129 {d : Nat} {P : Int32 → wf_Mem → Prop} (mem : wf_Mem) (x1 : Int32) (x2 : Int32) (x3 : Int32) (x5 : Int32) (y1 : Int32) (y2 : Int32)
    (h : (vp_in y1 5 ∧ ∀ mem1 : wf_Mem, mem1 = wf_ms mem 129 y1.toNatClampNeg y2 → ((¬ x2 = 2 → P x5 mem1) ∧ (x2 = 2 → (vp_in x3 4 ∧ (vp_in x1 5 ∧ ∀ mem3 : wf_Mem, mem3 = wf_ms mem1 130 x1.toNatClampNeg (mem1 125 x3.toNatClampNeg) → Vw (Ni (d + 1) P) mX9_lay 150 [(0, .ref 120), (1, .int x1), (3, .int x3), (5, .int x5), (6, .int 0)] [] mem3)))))) :
    Vw (Ni (d + 1) P) mX9_lay 129 [(0, .ref 120), (1, .int x1), (2, .int x2), (3, .int x3), (5, .int x5)] [.int y2, .int y1, .ref 129] mem := by
  refine V_iast dX9_lay_129 sh_a129 ⟨h.1, ?_⟩
  refine V_topm (fun mem1 emem1 => ?_)
  have h := h.2 mem1 emem1
  refine V_iload_n 2 dX9_lay_130 rfl ?_
  refine V_iconst (v := 2) dX9_lay_131 rfl ?_
  refine V_icmp_ne (tgt := 187) dX9_lay_132 rfl ⟨fun c2 => ?_, fun c2 => ?_⟩
  · have h := h.1 c2
    refine V_iload 4 dX9_lay_187 rfl ?_
    exact V_iret dX9_lay_189 rfl h
  · have h := h.2 c2
    refine V_aload_n 0 dX9_lay_135 rfl ?_
    refine V_getf (v := .ref 130) gf_X9_37 dX9_lay_136 sh_a120 rfl ?_
    refine V_iload_n 1 dX9_lay_139 rfl ?_
    refine V_aload_n 0 dX9_lay_140 rfl ?_
    refine V_getf (v := .ref 125) gf_X9_22 dX9_lay_141 sh_a120 rfl ?_
    refine V_iload_n 3 dX9_lay_144 rfl ?_
    refine V_iald dX9_lay_145 sh_a125 ⟨h.1, ?_⟩
    have h := h.2
    refine V_iast dX9_lay_146 sh_a130 ⟨h.1, ?_⟩
    refine V_topm (fun mem3 emem3 => ?_)
    have h := h.2 mem3 emem3
    refine V_iconst (v := 0) dX9_lay_147 rfl ?_
    refine V_istore (lv' := [(0, .ref 120), (1, .int x1), (2, .int x2), (3, .int x3), (5, .int x5), (6, .int 0)]) dX9_lay_148 (by decide) rfl rfl ?_
    exact V_sub [0, 1, 3, 4, 5] rfl h
set_option maxRecDepth 20000 in
theorem b_X9_lay_150 {d : Nat} {P : Int32 → wf_Mem → Prop} (mem : wf_Mem) (x1 : Int32) (x3 : Int32) (x5 : Int32) (x6 : Int32)
    (h : ((24 ≤ x6 → P x5 mem) ∧ (¬ 24 ≤ x6 → (vp_in ((24 * x3) + x6) 96 ∧ (vp_in ((24 * x1) + x6) 120 ∧ ∀ mem2 : wf_Mem, mem2 = wf_ms mem 131 ((24 * x1) + x6).toNatClampNeg (mem 126 ((24 * x3) + x6).toNatClampNeg) → Vw (Ni (d + 1) P) mX9_lay 150 [(0, .ref 120), (1, .int x1), (3, .int x3), (5, .int x5), (6, .int (x6 + 1))] [] mem2))))) :
    Vw (Ni (d + 1) P) mX9_lay 150 [(0, .ref 120), (1, .int x1), (3, .int x3), (5, .int x5), (6, .int x6)] [] mem := by
  refine V_iload 4 dX9_lay_150 rfl ?_
  refine V_bipush (v := 24) dX9_lay_152 rfl ?_
  refine V_icmp_ge (tgt := 187) dX9_lay_154 rfl ⟨fun c1 => ?_, fun c1 => ?_⟩
  · have h := h.1 c1
    refine V_iload 3 dX9_lay_187 rfl ?_
    exact V_iret dX9_lay_189 rfl h
  · have h := h.2 c1
    refine V_aload_n 0 dX9_lay_157 rfl ?_
    refine V_getf (v := .ref 131) gf_X9_40 dX9_lay_158 sh_a120 rfl ?_
    refine V_bipush (v := 24) dX9_lay_161 rfl ?_
    refine V_iload_n 1 dX9_lay_163 rfl ?_
    refine V_imul dX9_lay_164 ?_
    refine V_iload 4 dX9_lay_165 rfl ?_
    refine V_iadd dX9_lay_167 ?_
    refine V_aload_n 0 dX9_lay_168 rfl ?_
    refine V_getf (v := .ref 126) gf_X9_25 dX9_lay_169 sh_a120 rfl ?_
    refine V_bipush (v := 24) dX9_lay_172 rfl ?_
    refine V_iload_n 2 dX9_lay_174 rfl ?_
    refine V_imul dX9_lay_175 ?_
    refine V_iload 4 dX9_lay_176 rfl ?_
    refine V_iadd dX9_lay_178 ?_
    refine V_iald dX9_lay_179 sh_a126 ⟨h.1, ?_⟩
    have h := h.2
    refine V_iast dX9_lay_180 sh_a131 ⟨h.1, ?_⟩
    refine V_topm (fun mem2 emem2 => ?_)
    have h := h.2 mem2 emem2
    refine V_iinc (v := (x6 + 1)) (lv' := [(0, .ref 120), (1, .int x1), (3, .int x3), (5, .int x5), (6, .int (x6 + 1))]) 4 dX9_lay_181 rfl rfl (by decide) rfl rfl ?_
    refine V_goto (tgt := 150) dX9_lay_184 rfl ?_
    exact h
set_option maxRecDepth 20000 in
theorem b_X9_ask_0 {d : Nat} {P : Int32 → wf_Mem → Prop} (mem : wf_Mem) (x1 : Int32) (x2 : Int32)
    (h : (Ci mX9_isSlot d [.int x1] mem (fun r2 mem1 => ((r2 = 0 → P (-1000000001) mem1) ∧ (¬ r2 = 0 → (Ci mX9_isIn d [.long (x2 : Int32).toInt64, .long 0, .long 5] mem1 (fun r5 mem4 => ((¬ r5 = 0 → (vp_in x1 5 ∧ ((¬ (mem4 127 x1.toNatClampNeg) = 0 → (vp_in x1 5 ∧ ((¬ (mem4 127 x1.toNatClampNeg) = 1 → P (-1000000012) mem4) ∧ ((mem4 127 x1.toNatClampNeg) = 1 → (vp_in x1 5 ∧ (Ci mX9_isOf d [.int (mem4 128 x1.toNatClampNeg), .int x2] mem4 (fun r10 mem9 => ((r10 = 0 → P (-1000000012) mem9) ∧ (¬ r10 = 0 → (vp_in x1 5 ∧ P (mem9 129 x1.toNatClampNeg) mem9)))))))))) ∧ ((mem4 127 x1.toNatClampNeg) = 0 → P (-1000000011) mem4)))) ∧ (r5 = 0 → P (-1000000001) mem4))))))))) :
    Vw (Ni (d + 1) P) mX9_ask 0 [(0, .ref 120), (1, .int x1), (2, .int x2)] [] mem := by
  refine V_iload_n 1 dX9_ask_0 rfl ?_
  refine V_cSi [.int x1] ms_X9_isSlot w_687 dX9_ask_1 wf_rok_m rfl rfl (Nat.le_of_ble_eq_true rfl) h ?_
  intro r2 mem1 h
  refine V_if_eq (tgt := 19) dX9_ask_4 rfl ⟨fun c3 => ?_, fun c3 => ?_⟩
  · have h := h.1 c3
    refine V_ldc w_442 dX9_ask_19 ?_
    exact V_iret dX9_ask_21 rfl h
  · have h := h.2 c3
    refine V_iload_n 2 dX9_ask_7 rfl ?_
    refine V_i2l dX9_ask_8 ?_
    refine V_lconst (v := 0) dX9_ask_9 rfl ?_
    refine V_ldc2 w_497 dX9_ask_10 ?_
    refine V_cSi [.long (x2 : Int32).toInt64, .long 0, .long 5] ms_X9_isIn w_438 dX9_ask_13 wf_rok_m rfl rfl (Nat.le_of_ble_eq_true rfl) h ?_
    intro r5 mem4 h
    refine V_if_ne (tgt := 22) dX9_ask_16 rfl ⟨fun c6 => ?_, fun c6 => ?_⟩
    · have h := h.1 c6
      refine V_aload_n 0 dX9_ask_22 rfl ?_
      refine V_getf (v := .ref 127) gf_X9_28 dX9_ask_23 sh_a120 rfl ?_
      refine V_iload_n 1 dX9_ask_26 rfl ?_
      refine V_iald dX9_ask_27 sh_a127 ⟨h.1, ?_⟩
      have h := h.2
      refine V_if_ne (tgt := 35) dX9_ask_28 rfl ⟨fun c7 => ?_, fun c7 => ?_⟩
      · have h := h.1 c7
        refine V_aload_n 0 dX9_ask_35 rfl ?_
        refine V_getf (v := .ref 127) gf_X9_28 dX9_ask_36 sh_a120 rfl ?_
        refine V_iload_n 1 dX9_ask_39 rfl ?_
        refine V_iald dX9_ask_40 sh_a127 ⟨h.1, ?_⟩
        have h := h.2
        refine V_iconst (v := 1) dX9_ask_41 rfl ?_
        refine V_icmp_ne (tgt := 67) dX9_ask_42 rfl ⟨fun c8 => ?_, fun c8 => ?_⟩
        · have h := h.1 c8
          refine V_ldc w_515 dX9_ask_67 ?_
          exact V_iret dX9_ask_69 rfl h
        · have h := h.2 c8
          refine V_aload_n 0 dX9_ask_45 rfl ?_
          refine V_getf (v := .ref 128) gf_X9_31 dX9_ask_46 sh_a120 rfl ?_
          refine V_iload_n 1 dX9_ask_49 rfl ?_
          refine V_iald dX9_ask_50 sh_a128 ⟨h.1, ?_⟩
          have h := h.2
          refine V_iload_n 2 dX9_ask_51 rfl ?_
          refine V_cSi [.int (mem4 128 x1.toNatClampNeg), .int x2] ms_X9_isOf w_514 dX9_ask_52 wf_rok_m rfl rfl (Nat.le_of_ble_eq_true rfl) h ?_
          intro r10 mem9 h
          refine V_if_eq (tgt := 67) dX9_ask_55 rfl ⟨fun c11 => ?_, fun c11 => ?_⟩
          · have h := h.1 c11
            refine V_ldc w_515 dX9_ask_67 ?_
            exact V_iret dX9_ask_69 rfl h
          · have h := h.2 c11
            refine V_aload_n 0 dX9_ask_58 rfl ?_
            refine V_getf (v := .ref 129) gf_X9_34 dX9_ask_59 sh_a120 rfl ?_
            refine V_iload_n 1 dX9_ask_62 rfl ?_
            refine V_iald dX9_ask_63 sh_a129 ⟨h.1, ?_⟩
            have h := h.2
            refine V_goto (tgt := 69) dX9_ask_64 rfl ?_
            exact V_iret dX9_ask_69 rfl h
      · have h := h.2 c7
        refine V_ldcw w_680 dX9_ask_31 ?_
        exact V_iret dX9_ask_34 rfl h
    · have h := h.2 c6
      refine V_ldc w_442 dX9_ask_19 ?_
      exact V_iret dX9_ask_21 rfl h
set_option maxRecDepth 20000 in
theorem b_X9_item_0 {d : Nat} {P : Int32 → wf_Mem → Prop} (mem : wf_Mem) (x1 : Int32) (x2 : Int32)
    (h : (Ci mX9_isSlot d [.int x1] mem (fun r2 mem1 => ((¬ r2 = 0 → (vp_in x1 5 ∧ (((mem1 127 x1.toNatClampNeg) = 2 → (vp_in x1 5 ∧ (Ci mX9_isIn d [.long (x2 : Int32).toInt64, .long 0, .long (((mem1 130 x1.toNatClampNeg) - 1) : Int32).toInt64] mem1 (fun r6 mem5 => ((¬ r6 = 0 → (vp_in ((24 * x1) + x2) 120 ∧ (∀ x3_8 : Int32, x3_8 = (mem5 131 ((24 * x1) + x2).toNatClampNeg) → ((¬ x3_8 = (-1000000005) → P x3_8 mem5) ∧ (x3_8 = (-1000000005) → P (-1000000012) mem5))))) ∧ (r6 = 0 → P (-1000000013) mem5)))))) ∧ (¬ (mem1 127 x1.toNatClampNeg) = 2 → (vp_in x1 5 ∧ ((¬ (mem1 127 x1.toNatClampNeg) = 0 → P (-1000000012) mem1) ∧ ((mem1 127 x1.toNatClampNeg) = 0 → P (-1000000011) mem1))))))) ∧ (r2 = 0 → P (-1000000001) mem1))))) :
    Vw (Ni (d + 1) P) mX9_item 0 [(0, .ref 120), (1, .int x1), (2, .int x2)] [] mem := by
  refine V_iload_n 1 dX9_item_0 rfl ?_
  refine V_cSi [.int x1] ms_X9_isSlot w_687 dX9_item_1 wf_rok_m rfl rfl (Nat.le_of_ble_eq_true rfl) h ?_
  intro r2 mem1 h
  refine V_if_ne (tgt := 10) dX9_item_4 rfl ⟨fun c3 => ?_, fun c3 => ?_⟩
  · have h := h.1 c3
    refine V_aload_n 0 dX9_item_10 rfl ?_
    refine V_getf (v := .ref 127) gf_X9_28 dX9_item_11 sh_a120 rfl ?_
    refine V_iload_n 1 dX9_item_14 rfl ?_
    refine V_iald dX9_item_15 sh_a127 ⟨h.1, ?_⟩
    have h := h.2
    refine V_iconst (v := 2) dX9_item_16 rfl ?_
    refine V_icmp_eq (tgt := 38) dX9_item_17 rfl ⟨fun c4 => ?_, fun c4 => ?_⟩
    · have h := h.1 c4
      refine V_iload_n 2 dX9_item_38 rfl ?_
      refine V_i2l dX9_item_39 ?_
      refine V_lconst (v := 0) dX9_item_40 rfl ?_
      refine V_aload_n 0 dX9_item_41 rfl ?_
      refine V_getf (v := .ref 130) gf_X9_37 dX9_item_42 sh_a120 rfl ?_
      refine V_iload_n 1 dX9_item_45 rfl ?_
      refine V_iald dX9_item_46 sh_a130 ⟨h.1, ?_⟩
      have h := h.2
      refine V_iconst (v := 1) dX9_item_47 rfl ?_
      refine V_isub dX9_item_48 ?_
      refine V_i2l dX9_item_49 ?_
      refine V_cSi [.long (x2 : Int32).toInt64, .long 0, .long (((mem1 130 x1.toNatClampNeg) - 1) : Int32).toInt64] ms_X9_isIn w_438 dX9_item_50 wf_rok_m rfl rfl (Nat.le_of_ble_eq_true rfl) h ?_
      intro r6 mem5 h
      refine V_if_ne (tgt := 60) dX9_item_53 rfl ⟨fun c7 => ?_, fun c7 => ?_⟩
      · have h := h.1 c7
        refine V_aload_n 0 dX9_item_60 rfl ?_
        refine V_getf (v := .ref 131) gf_X9_40 dX9_item_61 sh_a120 rfl ?_
        refine V_bipush (v := 24) dX9_item_64 rfl ?_
        refine V_iload_n 1 dX9_item_66 rfl ?_
        refine V_imul dX9_item_67 ?_
        refine V_iload_n 2 dX9_item_68 rfl ?_
        refine V_iadd dX9_item_69 ?_
        refine V_iald dX9_item_70 sh_a131 ⟨h.1, ?_⟩
        have h := h.2
        refine V_topi (fun x3_8 ex3_8 => ?_)
        have h := h x3_8 ex3_8
        refine V_istore_n (lv' := [(0, .ref 120), (1, .int x1), (2, .int x2), (3, .int x3_8)]) dX9_item_71 (by decide) rfl rfl ?_
        refine V_iload_n 3 dX9_item_72 rfl ?_
        refine V_ldc w_433 dX9_item_73 ?_
        refine V_icmp_ne (tgt := 83) dX9_item_75 rfl ⟨fun c9 => ?_, fun c9 => ?_⟩
        · have h := h.1 c9
          refine V_iload_n 3 dX9_item_83 rfl ?_
          exact V_iret dX9_item_84 rfl h
        · have h := h.2 c9
          refine V_ldc w_515 dX9_item_78 ?_
          refine V_goto (tgt := 84) dX9_item_80 rfl ?_
          exact V_iret dX9_item_84 rfl h
      · have h := h.2 c7
        refine V_ldcw w_679 dX9_item_56 ?_
        exact V_iret dX9_item_59 rfl h
    · have h := h.2 c4
      refine V_aload_n 0 dX9_item_20 rfl ?_
      refine V_getf (v := .ref 127) gf_X9_28 dX9_item_21 sh_a120 rfl ?_
      refine V_iload_n 1 dX9_item_24 rfl ?_
      refine V_iald dX9_item_25 sh_a127 ⟨h.1, ?_⟩
      have h := h.2
      refine V_if_ne (tgt := 35) dX9_item_26 rfl ⟨fun c10 => ?_, fun c10 => ?_⟩
      · have h := h.1 c10
        refine V_ldc w_515 dX9_item_35 ?_
        exact V_iret dX9_item_37 rfl h
      · have h := h.2 c10
        refine V_ldcw w_680 dX9_item_29 ?_
        refine V_goto (tgt := 37) dX9_item_32 rfl ?_
        exact V_iret dX9_item_37 rfl h
  · have h := h.2 c3
    refine V_ldc w_442 dX9_item_7 ?_
    exact V_iret dX9_item_9 rfl h
set_option maxRecDepth 20000 in
theorem b_X9_rest_0 {d : Nat} {P : Int32 → wf_Mem → Prop} (mem : wf_Mem) (x1 : Int32) (x2 : Int32)
    (h : (Ci mX9_isSlot d [.int x1] mem (fun r2 mem1 => ((¬ r2 = 0 → (vp_in x1 5 ∧ (((mem1 127 x1.toNatClampNeg) = 3 → ((¬ x2 = 0 → (vp_in x1 5 ∧ ((¬ x2 = 0) ∧ P ((mem1 128 x1.toNatClampNeg) - (mem1 128 x1.toNatClampNeg) / x2 * x2) mem1))) ∧ (x2 = 0 → P (-1000000002) mem1))) ∧ (¬ (mem1 127 x1.toNatClampNeg) = 3 → (vp_in x1 5 ∧ ((¬ (mem1 127 x1.toNatClampNeg) = 0 → P (-1000000012) mem1) ∧ ((mem1 127 x1.toNatClampNeg) = 0 → P (-1000000011) mem1))))))) ∧ (r2 = 0 → P (-1000000001) mem1))))) :
    Vw (Ni (d + 1) P) mX9_rest 0 [(0, .ref 120), (1, .int x1), (2, .int x2)] [] mem := by
  refine V_iload_n 1 dX9_rest_0 rfl ?_
  refine V_cSi [.int x1] ms_X9_isSlot w_687 dX9_rest_1 wf_rok_m rfl rfl (Nat.le_of_ble_eq_true rfl) h ?_
  intro r2 mem1 h
  refine V_if_ne (tgt := 10) dX9_rest_4 rfl ⟨fun c3 => ?_, fun c3 => ?_⟩
  · have h := h.1 c3
    refine V_aload_n 0 dX9_rest_10 rfl ?_
    refine V_getf (v := .ref 127) gf_X9_28 dX9_rest_11 sh_a120 rfl ?_
    refine V_iload_n 1 dX9_rest_14 rfl ?_
    refine V_iald dX9_rest_15 sh_a127 ⟨h.1, ?_⟩
    have h := h.2
    refine V_iconst (v := 3) dX9_rest_16 rfl ?_
    refine V_icmp_eq (tgt := 38) dX9_rest_17 rfl ⟨fun c4 => ?_, fun c4 => ?_⟩
    · have h := h.1 c4
      refine V_iload_n 2 dX9_rest_38 rfl ?_
      refine V_if_ne (tgt := 48) dX9_rest_39 rfl ⟨fun c5 => ?_, fun c5 => ?_⟩
      · have h := h.1 c5
        refine V_aload_n 0 dX9_rest_48 rfl ?_
        refine V_getf (v := .ref 128) gf_X9_31 dX9_rest_49 sh_a120 rfl ?_
        refine V_iload_n 1 dX9_rest_52 rfl ?_
        refine V_iald dX9_rest_53 sh_a128 ⟨h.1, ?_⟩
        have h := h.2
        refine V_iload_n 2 dX9_rest_54 rfl ?_
        refine V_irem dX9_rest_55 ⟨h.1, ?_⟩
        have h := h.2
        exact V_iret dX9_rest_56 rfl h
      · have h := h.2 c5
        refine V_ldcw w_693 dX9_rest_42 ?_
        refine V_goto (tgt := 56) dX9_rest_45 rfl ?_
        exact V_iret dX9_rest_56 rfl h
    · have h := h.2 c4
      refine V_aload_n 0 dX9_rest_20 rfl ?_
      refine V_getf (v := .ref 127) gf_X9_28 dX9_rest_21 sh_a120 rfl ?_
      refine V_iload_n 1 dX9_rest_24 rfl ?_
      refine V_iald dX9_rest_25 sh_a127 ⟨h.1, ?_⟩
      have h := h.2
      refine V_if_ne (tgt := 35) dX9_rest_26 rfl ⟨fun c6 => ?_, fun c6 => ?_⟩
      · have h := h.1 c6
        refine V_ldc w_515 dX9_rest_35 ?_
        exact V_iret dX9_rest_37 rfl h
      · have h := h.2 c6
        refine V_ldcw w_680 dX9_rest_29 ?_
        refine V_goto (tgt := 37) dX9_rest_32 rfl ?_
        exact V_iret dX9_rest_37 rfl h
  · have h := h.2 c3
    refine V_ldc w_442 dX9_rest_7 ?_
    exact V_iret dX9_rest_9 rfl h
set_option maxRecDepth 20000 in
theorem b_X9_tell_0 {d : Nat} {P : Int32 → wf_Mem → Prop} (mem : wf_Mem) (x1 : Int32)
    (h : ((¬ (mem 120 31) = 60 → (vp_in (mem 120 31) 60 ∧ ∀ mem2 : wf_Mem, mem2 = wf_ms mem 137 (mem 120 31).toNatClampNeg x1 → (∀ mem3 : wf_Mem, mem3 = wf_ms mem2 120 31 ((mem2 120 31) + 1) → P (mem3 120 31) mem3))) ∧ ((mem 120 31) = 60 → P (-1000000003) mem))) :
    Vw (Ni d P) mX9_tell 0 [(0, .ref 120), (1, .int x1)] [] mem := by
  refine V_aload_n 0 dX9_tell_0 rfl ?_
  refine V_getf (v := .int (mem 120 31)) gf_X9_329 dX9_tell_1 sh_a120 rfl ?_
  refine V_bipush (v := 60) dX9_tell_4 rfl ?_
  refine V_icmp_ne (tgt := 12) dX9_tell_6 rfl ⟨fun c1 => ?_, fun c1 => ?_⟩
  · have h := h.1 c1
    refine V_aload_n 0 dX9_tell_12 rfl ?_
    refine V_getf (v := .ref 137) gf_X9_58 dX9_tell_13 sh_a120 rfl ?_
    refine V_aload_n 0 dX9_tell_16 rfl ?_
    refine V_getf (v := .int (mem 120 31)) gf_X9_329 dX9_tell_17 sh_a120 rfl ?_
    refine V_iload_n 1 dX9_tell_20 rfl ?_
    refine V_iast dX9_tell_21 sh_a137 ⟨h.1, ?_⟩
    refine V_topm (fun mem2 emem2 => ?_)
    have h := h.2 mem2 emem2
    refine V_aload_n 0 dX9_tell_22 rfl ?_
    refine V_dup dX9_tell_23 rfl ?_
    refine V_getf (v := .int (mem2 120 31)) gf_X9_329 dX9_tell_24 sh_a120 rfl ?_
    refine V_iconst (v := 1) dX9_tell_27 rfl ?_
    refine V_iadd dX9_tell_28 ?_
    refine V_putf pf_X9_329 dX9_tell_29 sh_a120 rfl rfl ?_
    refine V_topm (fun mem3 emem3 => ?_)
    have h := h mem3 emem3
    refine V_aload_n 0 dX9_tell_32 rfl ?_
    refine V_getf (v := .int (mem3 120 31)) gf_X9_329 dX9_tell_33 sh_a120 rfl ?_
    exact V_iret dX9_tell_36 rfl h
  · have h := h.2 c1
    refine V_ldc w_441 dX9_tell_9 ?_
    exact V_iret dX9_tell_11 rfl h
set_option maxRecDepth 20000 in
theorem b_X9_setAside_0 {d : Nat} {P : wf_Mem → Prop} (mem : wf_Mem) (x1 nx1 : Nat) (hx1 : wf_sh x1 = (20, nx1)) (x2 nx2 : Nat) (hx2 : wf_sh x2 = (20, nx2))
    (h : Vw (Nv d P) mX9_setAside 2 [(1, .ref x1), (2, .ref x2), (3, .int 0)] [] mem) :
    Vw (Nv d P) mX9_setAside 0 [(0, .ref 120), (1, .ref x1), (2, .ref x2)] [] mem := by
  refine V_iconst (v := 0) dX9_setAside_0 rfl ?_
  refine V_istore_n (lv' := [(0, .ref 120), (1, .ref x1), (2, .ref x2), (3, .int 0)]) dX9_setAside_1 (by decide) rfl rfl ?_
  exact V_sub [1, 2, 3] rfl h
set_option maxRecDepth 20000 in
theorem b_X9_setAside_2 {d : Nat} {P : wf_Mem → Prop} (mem : wf_Mem) (x1 nx1 : Nat) (hx1 : wf_sh x1 = (20, nx1)) (x2 nx2 : Nat) (hx2 : wf_sh x2 = (20, nx2)) (x3 : Int32)
    (h : ((2888 ≤ x3 → P mem) ∧ (¬ 2888 ≤ x3 → (vp_in x3 nx1 ∧ (vp_in x3 nx2 ∧ ∀ mem2 : wf_Mem, mem2 = wf_ms mem x2 x3.toNatClampNeg (mem x1 x3.toNatClampNeg) → Vw (Nv d P) mX9_setAside 2 [(1, .ref x1), (2, .ref x2), (3, .int (x3 + 1))] [] mem2))))) :
    Vw (Nv d P) mX9_setAside 2 [(1, .ref x1), (2, .ref x2), (3, .int x3)] [] mem := by
  refine V_iload_n 2 dX9_setAside_2 rfl ?_
  refine V_sipush (v := 2888) dX9_setAside_3 rfl ?_
  refine V_icmp_ge (tgt := 21) dX9_setAside_6 rfl ⟨fun c1 => ?_, fun c1 => ?_⟩
  · have h := h.1 c1
    exact V_vret dX9_setAside_21 rfl h
  · have h := h.2 c1
    refine V_aload_n 1 dX9_setAside_9 rfl ?_
    refine V_iload_n 2 dX9_setAside_10 rfl ?_
    refine V_aload_n 0 dX9_setAside_11 rfl ?_
    refine V_iload_n 2 dX9_setAside_12 rfl ?_
    refine V_iald dX9_setAside_13 hx1 ⟨h.1, ?_⟩
    have h := h.2
    refine V_iast dX9_setAside_14 hx2 ⟨h.1, ?_⟩
    refine V_topm (fun mem2 emem2 => ?_)
    have h := h.2 mem2 emem2
    refine V_iinc (v := (x3 + 1)) (lv' := [(1, .ref x1), (2, .ref x2), (3, .int (x3 + 1))]) 2 dX9_setAside_15 rfl rfl (by decide) rfl rfl ?_
    refine V_goto (tgt := 2) dX9_setAside_18 rfl ?_
    exact h
set_option maxRecDepth 20000 in
theorem b_X9_check_0 {d : Nat} {P : Int32 → wf_Mem → Prop} (mem : wf_Mem) (x1 : Int32)
    (h : (∀ x2_1 : Int32, x2_1 = (mem 120 31) → (∀ mem2 : wf_Mem, mem2 = wf_ms mem 120 31 0 → (Ci mX9_isIn d [.long (x1 : Int32).toInt64, .long 1, .long 30] mem2 (fun r4 mem3 => ((¬ r4 = 0 → ((¬ (mem3 120 3) = 0 → (Cv mX9_setAside d [.ref 120, .ref 121, .ref 123] mem3 (fun mem7 => (Cv mX9_setAside d [.ref 120, .ref 122, .ref 121] mem7 (fun mem8 => Vw (Ni (d + 1) P) mX9_check 65 [(0, .ref 120), (1, .int x1), (2, .int x2_1), (3, .int 0), (4, .int 0)] [] mem8))))) ∧ ((mem3 120 3) = 0 → P (-1000000002) mem3))) ∧ (r4 = 0 → P (-1000000001) mem3))))))) :
    Vw (Ni (d + 1) P) mX9_check 0 [(0, .ref 120), (1, .int x1)] [] mem := by
  refine V_aload_n 0 dX9_check_0 rfl ?_
  refine V_getf (v := .int (mem 120 31)) gf_X9_329 dX9_check_1 sh_a120 rfl ?_
  refine V_topi (fun x2_1 ex2_1 => ?_)
  have h := h x2_1 ex2_1
  refine V_istore_n (lv' := [(0, .ref 120), (1, .int x1), (2, .int x2_1)]) dX9_check_4 (by decide) rfl rfl ?_
  refine V_aload_n 0 dX9_check_5 rfl ?_
  refine V_iconst (v := 0) dX9_check_6 rfl ?_
  refine V_putf pf_X9_329 dX9_check_7 sh_a120 rfl rfl ?_
  refine V_topm (fun mem2 emem2 => ?_)
  have h := h mem2 emem2
  refine V_iload_n 1 dX9_check_10 rfl ?_
  refine V_i2l dX9_check_11 ?_
  refine V_lconst (v := 1) dX9_check_12 rfl ?_
  refine V_ldc2 w_696 dX9_check_13 ?_
  refine V_cSi [.long (x1 : Int32).toInt64, .long 1, .long 30] ms_X9_isIn w_438 dX9_check_16 wf_rok_m rfl rfl (Nat.le_of_ble_eq_true rfl) h ?_
  intro r4 mem3 h
  refine V_if_ne (tgt := 25) dX9_check_19 rfl ⟨fun c5 => ?_, fun c5 => ?_⟩
  · have h := h.1 c5
    refine V_aload_n 0 dX9_check_25 rfl ?_
    refine V_getf (v := .int (mem3 120 3)) gf_X9_334 dX9_check_26 sh_a120 rfl ?_
    refine V_if_ne (tgt := 36) dX9_check_29 rfl ⟨fun c6 => ?_, fun c6 => ?_⟩
    · have h := h.1 c6
      refine V_aload_n 0 dX9_check_36 rfl ?_
      refine V_aload_n 0 dX9_check_37 rfl ?_
      refine V_getf (v := .ref 121) gf_X9_7 dX9_check_38 sh_a120 rfl ?_
      refine V_aload_n 0 dX9_check_41 rfl ?_
      refine V_getf (v := .ref 123) gf_X9_16 dX9_check_42 sh_a120 rfl ?_
      refine V_cVv [.ref 121, .ref 123] mv_X9_setAside w_702 dX9_check_45 wf_rok_m sh_a120 rfl (by decide) rfl rfl (Nat.le_of_ble_eq_true rfl) h ?_
      intro mem7 h
      refine V_aload_n 0 dX9_check_48 rfl ?_
      refine V_aload_n 0 dX9_check_49 rfl ?_
      refine V_getf (v := .ref 122) gf_X9_13 dX9_check_50 sh_a120 rfl ?_
      refine V_aload_n 0 dX9_check_53 rfl ?_
      refine V_getf (v := .ref 121) gf_X9_7 dX9_check_54 sh_a120 rfl ?_
      refine V_cVv [.ref 122, .ref 121] mv_X9_setAside w_702 dX9_check_57 wf_rok_m sh_a120 rfl (by decide) rfl rfl (Nat.le_of_ble_eq_true rfl) h ?_
      intro mem8 h
      refine V_iconst (v := 0) dX9_check_60 rfl ?_
      refine V_istore_n (lv' := [(0, .ref 120), (1, .int x1), (2, .int x2_1), (3, .int 0)]) dX9_check_61 (by decide) rfl rfl ?_
      refine V_iconst (v := 0) dX9_check_62 rfl ?_
      refine V_istore (lv' := [(0, .ref 120), (1, .int x1), (2, .int x2_1), (3, .int 0), (4, .int 0)]) dX9_check_63 (by decide) rfl rfl ?_
      exact h
    · have h := h.2 c6
      refine V_ldcw w_693 dX9_check_32 ?_
      exact V_iret dX9_check_35 rfl h
  · have h := h.2 c5
    refine V_ldc w_442 dX9_check_22 ?_
    exact V_iret dX9_check_24 rfl h
set_option maxRecDepth 20000 in
theorem b_X9_check_65 {d : Nat} {P : Int32 → wf_Mem → Prop} (mem : wf_Mem) (x1 : Int32) (x2 : Int32) (x3 : Int32) (x4 : Int32)
    (h : ((x1 ≤ x4 → (Cv mX9_setAside d [.ref 120, .ref 123, .ref 121] mem (fun mem2 => Vw (Ni (d + 1) P) mX9_check 159 [(0, .ref 120), (2, .int x2), (3, .int x3), (4, .int 0)] [] mem2))) ∧ (¬ x1 ≤ x4 → ((9999 ≤ (mem 121 6) → (Cv mX9_setAside d [.ref 120, .ref 123, .ref 121] mem (fun mem4 => Vw (Ni (d + 1) P) mX9_check 159 [(0, .ref 120), (2, .int x2), (3, .int x3), (4, .int 0)] [] mem4))) ∧ (¬ 9999 ≤ (mem 121 6) → (Cv mX9_goesOn d [.ref 120] mem (fun mem5 => ((0 ≤ (mem5 120 13) → Vw (Ni (d + 1) P) mX9_check 109 [(0, .ref 120), (1, .int x1), (2, .int x2), (3, .int x3), (4, .int x4)] [.int (mem5 120 13), .int x3, .ref 138] mem5) ∧ (¬ 0 ≤ (mem5 120 13) → Vw (Ni (d + 1) P) mX9_check 109 [(0, .ref 120), (1, .int x1), (2, .int x2), (3, .int x3), (4, .int x4)] [.int 99, .int x3, .ref 138] mem5))))))))) :
    Vw (Ni (d + 1) P) mX9_check 65 [(0, .ref 120), (1, .int x1), (2, .int x2), (3, .int x3), (4, .int x4)] [] mem := by
  refine V_iload 4 dX9_check_65 rfl ?_
  refine V_iload_n 1 dX9_check_67 rfl ?_
  refine V_icmp_ge (tgt := 144) dX9_check_68 rfl ⟨fun c1 => ?_, fun c1 => ?_⟩
  · have h := h.1 c1
    refine V_aload_n 0 dX9_check_144 rfl ?_
    refine V_aload_n 0 dX9_check_145 rfl ?_
    refine V_getf (v := .ref 123) gf_X9_16 dX9_check_146 sh_a120 rfl ?_
    refine V_aload_n 0 dX9_check_149 rfl ?_
    refine V_getf (v := .ref 121) gf_X9_7 dX9_check_150 sh_a120 rfl ?_
    refine V_cVv [.ref 123, .ref 121] mv_X9_setAside w_702 dX9_check_153 wf_rok_m sh_a120 rfl (by decide) rfl rfl (Nat.le_of_ble_eq_true rfl) h ?_
    intro mem2 h
    refine V_iconst (v := 0) dX9_check_156 rfl ?_
    refine V_istore (lv' := [(0, .ref 120), (1, .int x1), (2, .int x2), (3, .int x3), (4, .int 0)]) dX9_check_157 (by decide) rfl rfl ?_
    exact V_sub [0, 2, 3, 4] rfl h
  · have h := h.2 c1
    refine V_aload_n 0 dX9_check_71 rfl ?_
    refine V_getf (v := .ref 121) gf_X9_7 dX9_check_72 sh_a120 rfl ?_
    refine V_bipush (v := 6) dX9_check_75 rfl ?_
    refine V_ildL (j := 6) dX9_check_77 sh_a121 (by decide) (by decide) ?_
    refine V_sipush (v := 9999) dX9_check_78 rfl ?_
    refine V_icmp_ge (tgt := 144) dX9_check_81 rfl ⟨fun c3 => ?_, fun c3 => ?_⟩
    · have h := h.1 c3
      refine V_aload_n 0 dX9_check_144 rfl ?_
      refine V_aload_n 0 dX9_check_145 rfl ?_
      refine V_getf (v := .ref 123) gf_X9_16 dX9_check_146 sh_a120 rfl ?_
      refine V_aload_n 0 dX9_check_149 rfl ?_
      refine V_getf (v := .ref 121) gf_X9_7 dX9_check_150 sh_a120 rfl ?_
      refine V_cVv [.ref 123, .ref 121] mv_X9_setAside w_702 dX9_check_153 wf_rok_m sh_a120 rfl (by decide) rfl rfl (Nat.le_of_ble_eq_true rfl) h ?_
      intro mem4 h
      refine V_iconst (v := 0) dX9_check_156 rfl ?_
      refine V_istore (lv' := [(0, .ref 120), (1, .int x1), (2, .int x2), (3, .int x3), (4, .int 0)]) dX9_check_157 (by decide) rfl rfl ?_
      exact V_sub [0, 2, 3, 4] rfl h
    · have h := h.2 c3
      refine V_aload_n 0 dX9_check_84 rfl ?_
      refine V_cVv [] mv_X9_goesOn w_547 dX9_check_85 wf_rok_m sh_a120 rfl (by decide) rfl rfl (Nat.le_of_ble_eq_true rfl) h ?_
      intro mem5 h
      refine V_aload_n 0 dX9_check_88 rfl ?_
      refine V_getf (v := .ref 138) gf_X9_61 dX9_check_89 sh_a120 rfl ?_
      refine V_iload_n 3 dX9_check_92 rfl ?_
      refine V_aload_n 0 dX9_check_93 rfl ?_
      refine V_getf (v := .int (mem5 120 13)) gf_X9_161 dX9_check_94 sh_a120 rfl ?_
      refine V_if_ge (tgt := 105) dX9_check_97 rfl ⟨fun c6 => ?_, fun c6 => ?_⟩
      · have h := h.1 c6
        refine V_aload_n 0 dX9_check_105 rfl ?_
        refine V_getf (v := .int (mem5 120 13)) gf_X9_161 dX9_check_106 sh_a120 rfl ?_
        exact h
      · have h := h.2 c6
        refine V_bipush (v := 99) dX9_check_100 rfl ?_
        refine V_goto (tgt := 109) dX9_check_102 rfl ?_
        exact h
set_option maxRecDepth 20000 in
theorem b_X9_check_109 {d : Nat} {P : Int32 → wf_Mem → Prop} (mem : wf_Mem) (x1 : Int32) (x2 : Int32) (x3 : Int32) (x4 : Int32) (y1 : Int32) (y2 : Int32)
    (h : (vp_in y1 60 ∧ ∀ mem1 : wf_Mem, mem1 = wf_ms mem 138 y1.toNatClampNeg y2 → (vp_in (x3 + 1) 60 ∧ ∀ mem2 : wf_Mem, mem2 = wf_ms mem1 138 (x3 + 1).toNatClampNeg ((mem1 121 8) + (100 * (mem1 121 3))) → Vw (Ni (d + 1) P) mX9_check 65 [(0, .ref 120), (1, .int x1), (2, .int x2), (3, .int (x3 + 2)), (4, .int (x4 + 1))] [] mem2))) :
    Vw (Ni (d + 1) P) mX9_check 109 [(0, .ref 120), (1, .int x1), (2, .int x2), (3, .int x3), (4, .int x4)] [.int y2, .int y1, .ref 138] mem := by
  refine V_iast dX9_check_109 sh_a138 ⟨h.1, ?_⟩
  refine V_topm (fun mem1 emem1 => ?_)
  have h := h.2 mem1 emem1
  refine V_aload_n 0 dX9_check_110 rfl ?_
  refine V_getf (v := .ref 138) gf_X9_61 dX9_check_111 sh_a120 rfl ?_
  refine V_iload_n 3 dX9_check_114 rfl ?_
  refine V_iconst (v := 1) dX9_check_115 rfl ?_
  refine V_iadd dX9_check_116 ?_
  refine V_aload_n 0 dX9_check_117 rfl ?_
  refine V_getf (v := .ref 121) gf_X9_7 dX9_check_118 sh_a120 rfl ?_
  refine V_bipush (v := 8) dX9_check_121 rfl ?_
  refine V_ildL (j := 8) dX9_check_123 sh_a121 (by decide) (by decide) ?_
  refine V_bipush (v := 100) dX9_check_124 rfl ?_
  refine V_aload_n 0 dX9_check_126 rfl ?_
  refine V_getf (v := .ref 121) gf_X9_7 dX9_check_127 sh_a120 rfl ?_
  refine V_iconst (v := 3) dX9_check_130 rfl ?_
  refine V_ildL (j := 3) dX9_check_131 sh_a121 (by decide) (by decide) ?_
  refine V_imul dX9_check_132 ?_
  refine V_iadd dX9_check_133 ?_
  refine V_iast dX9_check_134 sh_a138 ⟨h.1, ?_⟩
  refine V_topm (fun mem2 emem2 => ?_)
  have h := h.2 mem2 emem2
  refine V_iinc (v := (x3 + 2)) (lv' := [(0, .ref 120), (1, .int x1), (2, .int x2), (3, .int (x3 + 2)), (4, .int x4)]) 3 dX9_check_135 rfl rfl (by decide) rfl rfl ?_
  refine V_iinc (v := (x4 + 1)) (lv' := [(0, .ref 120), (1, .int x1), (2, .int x2), (3, .int (x3 + 2)), (4, .int (x4 + 1))]) 4 dX9_check_138 rfl rfl (by decide) rfl rfl ?_
  refine V_goto (tgt := 65) dX9_check_141 rfl ?_
  exact h
set_option maxRecDepth 20000 in
theorem b_X9_check_159 {d : Nat} {P : Int32 → wf_Mem → Prop} (mem : wf_Mem) (x2 : Int32) (x3 : Int32) (x4 : Int32)
    (h : ((x2 ≤ x4 → Vw (Ni (d + 1) P) mX9_check 194 [(2, .int x2), (3, .int x3), (4, .int x4)] [] mem) ∧ (¬ x2 ≤ x4 → ((x3 ≤ x4 → Vw (Ni (d + 1) P) mX9_check 194 [(2, .int x2), (3, .int x3), (4, .int x4)] [] mem) ∧ (¬ x3 ≤ x4 → (vp_in x4 60 ∧ (vp_in x4 60 ∧ ((¬ (mem 137 x4.toNatClampNeg) = (mem 138 x4.toNatClampNeg) → Vw (Ni (d + 1) P) mX9_check 194 [(2, .int x2), (3, .int x3), (4, .int x4)] [] mem) ∧ ((mem 137 x4.toNatClampNeg) = (mem 138 x4.toNatClampNeg) → Vw (Ni (d + 1) P) mX9_check 159 [(0, .ref 120), (2, .int x2), (3, .int x3), (4, .int (x4 + 1))] [] mem))))))))) :
    Vw (Ni (d + 1) P) mX9_check 159 [(0, .ref 120), (2, .int x2), (3, .int x3), (4, .int x4)] [] mem := by
  refine V_iload 3 dX9_check_159 rfl ?_
  refine V_iload_n 1 dX9_check_161 rfl ?_
  refine V_icmp_ge (tgt := 194) dX9_check_162 rfl ⟨fun c1 => ?_, fun c1 => ?_⟩
  · have h := h.1 c1
    exact V_sub [1, 2, 3] rfl h
  · have h := h.2 c1
    refine V_iload 3 dX9_check_165 rfl ?_
    refine V_iload_n 2 dX9_check_167 rfl ?_
    refine V_icmp_ge (tgt := 194) dX9_check_168 rfl ⟨fun c2 => ?_, fun c2 => ?_⟩
    · have h := h.1 c2
      exact V_sub [1, 2, 3] rfl h
    · have h := h.2 c2
      refine V_aload_n 0 dX9_check_171 rfl ?_
      refine V_getf (v := .ref 137) gf_X9_58 dX9_check_172 sh_a120 rfl ?_
      refine V_iload 3 dX9_check_175 rfl ?_
      refine V_iald dX9_check_177 sh_a137 ⟨h.1, ?_⟩
      have h := h.2
      refine V_aload_n 0 dX9_check_178 rfl ?_
      refine V_getf (v := .ref 138) gf_X9_61 dX9_check_179 sh_a120 rfl ?_
      refine V_iload 3 dX9_check_182 rfl ?_
      refine V_iald dX9_check_184 sh_a138 ⟨h.1, ?_⟩
      have h := h.2
      refine V_icmp_ne (tgt := 194) dX9_check_185 rfl ⟨fun c3 => ?_, fun c3 => ?_⟩
      · have h := h.1 c3
        exact V_sub [1, 2, 3] rfl h
      · have h := h.2 c3
        refine V_iinc (v := (x4 + 1)) (lv' := [(0, .ref 120), (2, .int x2), (3, .int x3), (4, .int (x4 + 1))]) 3 dX9_check_188 rfl rfl (by decide) rfl rfl ?_
        refine V_goto (tgt := 159) dX9_check_191 rfl ?_
        exact h
set_option maxRecDepth 20000 in
theorem b_X9_check_194 {d : Nat} {P : Int32 → wf_Mem → Prop} (mem : wf_Mem) (x2 : Int32) (x3 : Int32) (x4 : Int32)
    (h : ((¬ x4 = x2 → P (1 + x4) mem) ∧ (x4 = x2 → ((¬ x4 = x3 → P (1 + x4) mem) ∧ (x4 = x3 → P 0 mem))))) :
    Vw (Ni (d + 1) P) mX9_check 194 [(2, .int x2), (3, .int x3), (4, .int x4)] [] mem := by
  refine V_iload 2 dX9_check_194 rfl ?_
  refine V_iload_n 0 dX9_check_196 rfl ?_
  refine V_icmp_ne (tgt := 210) dX9_check_197 rfl ⟨fun c1 => ?_, fun c1 => ?_⟩
  · have h := h.1 c1
    refine V_iconst (v := 1) dX9_check_210 rfl ?_
    refine V_iload 2 dX9_check_211 rfl ?_
    refine V_iadd dX9_check_213 ?_
    exact V_iret dX9_check_214 rfl h
  · have h := h.2 c1
    refine V_iload 2 dX9_check_200 rfl ?_
    refine V_iload_n 1 dX9_check_202 rfl ?_
    refine V_icmp_ne (tgt := 210) dX9_check_203 rfl ⟨fun c2 => ?_, fun c2 => ?_⟩
    · have h := h.1 c2
      refine V_iconst (v := 1) dX9_check_210 rfl ?_
      refine V_iload 2 dX9_check_211 rfl ?_
      refine V_iadd dX9_check_213 ?_
      exact V_iret dX9_check_214 rfl h
    · have h := h.2 c2
      refine V_iconst (v := 0) dX9_check_206 rfl ?_
      refine V_goto (tgt := 214) dX9_check_207 rfl ?_
      exact V_iret dX9_check_214 rfl h
set_option maxRecDepth 20000 in
theorem b_X9_keep_0 {d : Nat} {P : Int32 → wf_Mem → Prop} (mem : wf_Mem) 
    (h : (∀ mem1 : wf_Mem, mem1 = wf_ms mem 120 3 1 → (Cv mX9_setAside d [.ref 120, .ref 121, .ref 122] mem1 (fun mem2 => P (mem2 121 0) mem2)))) :
    Vw (Ni (d + 1) P) mX9_keep 0 [(0, .ref 120)] [] mem := by
  refine V_aload_n 0 dX9_keep_0 rfl ?_
  refine V_iconst (v := 1) dX9_keep_1 rfl ?_
  refine V_putf pf_X9_334 dX9_keep_2 sh_a120 rfl rfl ?_
  refine V_topm (fun mem1 emem1 => ?_)
  have h := h mem1 emem1
  refine V_aload_n 0 dX9_keep_5 rfl ?_
  refine V_aload_n 0 dX9_keep_6 rfl ?_
  refine V_getf (v := .ref 121) gf_X9_7 dX9_keep_7 sh_a120 rfl ?_
  refine V_aload_n 0 dX9_keep_10 rfl ?_
  refine V_getf (v := .ref 122) gf_X9_13 dX9_keep_11 sh_a120 rfl ?_
  refine V_cVv [.ref 121, .ref 122] mv_X9_setAside w_702 dX9_keep_14 wf_rok_m sh_a120 rfl (by decide) rfl rfl (Nat.le_of_ble_eq_true rfl) h ?_
  intro mem2 h
  refine V_aload_n 0 dX9_keep_17 rfl ?_
  refine V_getf (v := .ref 121) gf_X9_7 dX9_keep_18 sh_a120 rfl ?_
  refine V_iconst (v := 0) dX9_keep_21 rfl ?_
  refine V_ildL (j := 0) dX9_keep_22 sh_a121 (by decide) (by decide) ?_
  exact V_iret dX9_keep_23 rfl h
set_option maxRecDepth 20000 in
theorem b_X9_back_0 {d : Nat} {P : Int32 → wf_Mem → Prop} (mem : wf_Mem) 
    (h : ((¬ (mem 120 3) = 0 → (Cv mX9_setAside d [.ref 120, .ref 122, .ref 121] mem (fun mem2 => P (mem2 121 0) mem2))) ∧ ((mem 120 3) = 0 → P (-1000000002) mem))) :
    Vw (Ni (d + 1) P) mX9_back 0 [(0, .ref 120)] [] mem := by
  refine V_aload_n 0 dX9_back_0 rfl ?_
  refine V_getf (v := .int (mem 120 3)) gf_X9_334 dX9_back_1 sh_a120 rfl ?_
  refine V_if_ne (tgt := 11) dX9_back_4 rfl ⟨fun c1 => ?_, fun c1 => ?_⟩
  · have h := h.1 c1
    refine V_aload_n 0 dX9_back_11 rfl ?_
    refine V_aload_n 0 dX9_back_12 rfl ?_
    refine V_getf (v := .ref 122) gf_X9_13 dX9_back_13 sh_a120 rfl ?_
    refine V_aload_n 0 dX9_back_16 rfl ?_
    refine V_getf (v := .ref 121) gf_X9_7 dX9_back_17 sh_a120 rfl ?_
    refine V_cVv [.ref 122, .ref 121] mv_X9_setAside w_702 dX9_back_20 wf_rok_m sh_a120 rfl (by decide) rfl rfl (Nat.le_of_ble_eq_true rfl) h ?_
    intro mem2 h
    refine V_aload_n 0 dX9_back_23 rfl ?_
    refine V_getf (v := .ref 121) gf_X9_7 dX9_back_24 sh_a120 rfl ?_
    refine V_iconst (v := 0) dX9_back_27 rfl ?_
    refine V_ildL (j := 0) dX9_back_28 sh_a121 (by decide) (by decide) ?_
    exact V_iret dX9_back_29 rfl h
  · have h := h.2 c1
    refine V_ldcw w_693 dX9_back_7 ?_
    exact V_iret dX9_back_10 rfl h
set_option maxRecDepth 20000 in
theorem b_X9_awake_0 {d : Nat} {P : Int32 → wf_Mem → Prop} (mem : wf_Mem) 
    (h : Vw (Ni (d + 1) P) mX9_awake 4 [(0, .ref 120), (1, .int 0), (2, .int 0)] [] mem) :
    Vw (Ni (d + 1) P) mX9_awake 0 [(0, .ref 120)] [] mem := by
  refine V_iconst (v := 0) dX9_awake_0 rfl ?_
  refine V_istore_n (lv' := [(0, .ref 120), (1, .int 0)]) dX9_awake_1 (by decide) rfl rfl ?_
  refine V_iconst (v := 0) dX9_awake_2 rfl ?_
  refine V_istore_n (lv' := [(0, .ref 120), (1, .int 0), (2, .int 0)]) dX9_awake_3 (by decide) rfl rfl ?_
  exact h
set_option maxRecDepth 20000 in
theorem b_X9_awake_4 {d : Nat} {P : Int32 → wf_Mem → Prop} (mem : wf_Mem) (x1 : Int32) (x2 : Int32)
    (h : (((mem 121 1) ≤ x2 → P x1 mem) ∧ (¬ (mem 121 1) ≤ x2 → (Ci mX9_of d [.ref 120, .int x2, .int 4] mem (fun r3 mem2 => (∀ x1_4 : Int32, x1_4 = (x1 + r3) → Vw (Ni (d + 1) P) mX9_awake 4 [(0, .ref 120), (1, .int x1_4), (2, .int (x2 + 1))] [] mem2)))))) :
    Vw (Ni (d + 1) P) mX9_awake 4 [(0, .ref 120), (1, .int x1), (2, .int x2)] [] mem := by
  refine V_iload_n 2 dX9_awake_4 rfl ?_
  refine V_aload_n 0 dX9_awake_5 rfl ?_
  refine V_getf (v := .ref 121) gf_X9_7 dX9_awake_6 sh_a120 rfl ?_
  refine V_iconst (v := 1) dX9_awake_9 rfl ?_
  refine V_ildL (j := 1) dX9_awake_10 sh_a121 (by decide) (by decide) ?_
  refine V_icmp_ge (tgt := 29) dX9_awake_11 rfl ⟨fun c1 => ?_, fun c1 => ?_⟩
  · have h := h.1 c1
    refine V_iload_n 1 dX9_awake_29 rfl ?_
    exact V_iret dX9_awake_30 rfl h
  · have h := h.2 c1
    refine V_iload_n 1 dX9_awake_14 rfl ?_
    refine V_aload_n 0 dX9_awake_15 rfl ?_
    refine V_iload_n 2 dX9_awake_16 rfl ?_
    refine V_iconst (v := 4) dX9_awake_17 rfl ?_
    refine V_cVi [.int x2, .int 4] mv_X9_of w_466 dX9_awake_18 wf_rok_m sh_a120 rfl (by decide) rfl rfl (Nat.le_of_ble_eq_true rfl) h ?_
    intro r3 mem2 h
    refine V_iadd dX9_awake_21 ?_
    refine V_topi (fun x1_4 ex1_4 => ?_)
    have h := h x1_4 ex1_4
    refine V_istore_n (lv' := [(0, .ref 120), (1, .int x1_4), (2, .int x2)]) dX9_awake_22 (by decide) rfl rfl ?_
    refine V_iinc (v := (x2 + 1)) (lv' := [(0, .ref 120), (1, .int x1_4), (2, .int (x2 + 1))]) 2 dX9_awake_23 rfl rfl (by decide) rfl rfl ?_
    refine V_goto (tgt := 4) dX9_awake_26 rfl ?_
    exact h
set_option maxRecDepth 20000 in
theorem b_X9_count_0 {d : Nat} {P : Int32 → wf_Mem → Prop} (mem : wf_Mem) (x1 : Int32)
    (h : ((x1 = 0 → P (mem 121 0) mem) ∧ (¬ x1 = 0 → ((x1 = 1 → P (mem 121 1) mem) ∧ (¬ x1 = 1 → ((x1 = 2 → (Ci mX9_awake d [.ref 120] mem (fun r5 mem4 => P r5 mem4))) ∧ (¬ x1 = 2 → ((x1 = 3 → P (mem 121 3) mem) ∧ (¬ x1 = 3 → ((x1 = 4 → P (mem 121 4) mem) ∧ (¬ x1 = 4 → ((x1 = 5 → P (mem 121 5) mem) ∧ (¬ x1 = 5 → ((x1 = 6 → P (mem 121 6) mem) ∧ (¬ x1 = 6 → ((x1 = 7 → (Ci mX9_allFoals d [.ref 120] mem (fun r12 mem11 => P r12 mem11))) ∧ (¬ x1 = 7 → ((x1 = 8 → P (mem 121 2) mem) ∧ (¬ x1 = 8 → ((x1 = 9 → P (mem 120 31) mem) ∧ (¬ x1 = 9 → ((x1 = 10 → P (mem 120 16) mem) ∧ (¬ x1 = 10 → ((x1 = 11 → P (mem 121 10) mem) ∧ (¬ x1 = 11 → P (-1000000001) mem))))))))))))))))))))))))) :
    Vw (Ni (d + 1) P) mX9_count 0 [(0, .ref 120), (1, .int x1)] [] mem := by
  refine V_iload_n 1 dX9_count_0 rfl ?_
  refine V_tswc [(0, 64), (1, 71), (2, 78), (3, 83), (4, 90), (5, 97), (6, 104), (7, 112), (8, 117), (9, 124), (10, 129), (11, 134)] 142 dX9_count_1 (by decide +kernel) ?_
  refine And.intro (fun c1 => ?_) (fun c1 => ?_)
  · have h := h.1 c1
    show Vw _ _ 64 _ _ _
    refine V_aload_n 0 dX9_count_64 rfl ?_
    refine V_getf (v := .ref 121) gf_X9_7 dX9_count_65 sh_a120 rfl ?_
    refine V_iconst (v := 0) dX9_count_68 rfl ?_
    refine V_ildL (j := 0) dX9_count_69 sh_a121 (by decide) (by decide) ?_
    exact V_iret dX9_count_70 rfl h
  · have h := h.2 c1
    refine And.intro (fun c2 => ?_) (fun c2 => ?_)
    · have h := h.1 c2
      show Vw _ _ 71 _ _ _
      refine V_aload_n 0 dX9_count_71 rfl ?_
      refine V_getf (v := .ref 121) gf_X9_7 dX9_count_72 sh_a120 rfl ?_
      refine V_iconst (v := 1) dX9_count_75 rfl ?_
      refine V_ildL (j := 1) dX9_count_76 sh_a121 (by decide) (by decide) ?_
      exact V_iret dX9_count_77 rfl h
    · have h := h.2 c2
      refine And.intro (fun c3 => ?_) (fun c3 => ?_)
      · have h := h.1 c3
        show Vw _ _ 78 _ _ _
        refine V_aload_n 0 dX9_count_78 rfl ?_
        refine V_cVi [] mv_X9_awake w_708 dX9_count_79 wf_rok_m sh_a120 rfl (by decide) rfl rfl (Nat.le_of_ble_eq_true rfl) h ?_
        intro r5 mem4 h
        exact V_iret dX9_count_82 rfl h
      · have h := h.2 c3
        refine And.intro (fun c6 => ?_) (fun c6 => ?_)
        · have h := h.1 c6
          show Vw _ _ 83 _ _ _
          refine V_aload_n 0 dX9_count_83 rfl ?_
          refine V_getf (v := .ref 121) gf_X9_7 dX9_count_84 sh_a120 rfl ?_
          refine V_iconst (v := 3) dX9_count_87 rfl ?_
          refine V_ildL (j := 3) dX9_count_88 sh_a121 (by decide) (by decide) ?_
          exact V_iret dX9_count_89 rfl h
        · have h := h.2 c6
          refine And.intro (fun c7 => ?_) (fun c7 => ?_)
          · have h := h.1 c7
            show Vw _ _ 90 _ _ _
            refine V_aload_n 0 dX9_count_90 rfl ?_
            refine V_getf (v := .ref 121) gf_X9_7 dX9_count_91 sh_a120 rfl ?_
            refine V_iconst (v := 4) dX9_count_94 rfl ?_
            refine V_ildL (j := 4) dX9_count_95 sh_a121 (by decide) (by decide) ?_
            exact V_iret dX9_count_96 rfl h
          · have h := h.2 c7
            refine And.intro (fun c8 => ?_) (fun c8 => ?_)
            · have h := h.1 c8
              show Vw _ _ 97 _ _ _
              refine V_aload_n 0 dX9_count_97 rfl ?_
              refine V_getf (v := .ref 121) gf_X9_7 dX9_count_98 sh_a120 rfl ?_
              refine V_iconst (v := 5) dX9_count_101 rfl ?_
              refine V_ildL (j := 5) dX9_count_102 sh_a121 (by decide) (by decide) ?_
              exact V_iret dX9_count_103 rfl h
            · have h := h.2 c8
              refine And.intro (fun c9 => ?_) (fun c9 => ?_)
              · have h := h.1 c9
                show Vw _ _ 104 _ _ _
                refine V_aload_n 0 dX9_count_104 rfl ?_
                refine V_getf (v := .ref 121) gf_X9_7 dX9_count_105 sh_a120 rfl ?_
                refine V_bipush (v := 6) dX9_count_108 rfl ?_
                refine V_ildL (j := 6) dX9_count_110 sh_a121 (by decide) (by decide) ?_
                exact V_iret dX9_count_111 rfl h
              · have h := h.2 c9
                refine And.intro (fun c10 => ?_) (fun c10 => ?_)
                · have h := h.1 c10
                  show Vw _ _ 112 _ _ _
                  refine V_aload_n 0 dX9_count_112 rfl ?_
                  refine V_cVi [] mv_X9_allFoals w_564 dX9_count_113 wf_rok_m sh_a120 rfl (by decide) rfl rfl (Nat.le_of_ble_eq_true rfl) h ?_
                  intro r12 mem11 h
                  exact V_iret dX9_count_116 rfl h
                · have h := h.2 c10
                  refine And.intro (fun c13 => ?_) (fun c13 => ?_)
                  · have h := h.1 c13
                    show Vw _ _ 117 _ _ _
                    refine V_aload_n 0 dX9_count_117 rfl ?_
                    refine V_getf (v := .ref 121) gf_X9_7 dX9_count_118 sh_a120 rfl ?_
                    refine V_iconst (v := 2) dX9_count_121 rfl ?_
                    refine V_ildL (j := 2) dX9_count_122 sh_a121 (by decide) (by decide) ?_
                    exact V_iret dX9_count_123 rfl h
                  · have h := h.2 c13
                    refine And.intro (fun c14 => ?_) (fun c14 => ?_)
                    · have h := h.1 c14
                      show Vw _ _ 124 _ _ _
                      refine V_aload_n 0 dX9_count_124 rfl ?_
                      refine V_getf (v := .int (mem 120 31)) gf_X9_329 dX9_count_125 sh_a120 rfl ?_
                      exact V_iret dX9_count_128 rfl h
                    · have h := h.2 c14
                      refine And.intro (fun c15 => ?_) (fun c15 => ?_)
                      · have h := h.1 c15
                        show Vw _ _ 129 _ _ _
                        refine V_aload_n 0 dX9_count_129 rfl ?_
                        refine V_getf (v := .int (mem 120 16)) gf_X9_209 dX9_count_130 sh_a120 rfl ?_
                        exact V_iret dX9_count_133 rfl h
                      · have h := h.2 c15
                        refine And.intro (fun c16 => ?_) (fun c16 => ?_)
                        · have h := h.1 c16
                          show Vw _ _ 134 _ _ _
                          refine V_aload_n 0 dX9_count_134 rfl ?_
                          refine V_getf (v := .ref 121) gf_X9_7 dX9_count_135 sh_a120 rfl ?_
                          refine V_bipush (v := 10) dX9_count_138 rfl ?_
                          refine V_ildL (j := 10) dX9_count_140 sh_a121 (by decide) (by decide) ?_
                          exact V_iret dX9_count_141 rfl h
                        · have h := h.2 c16
                          show Vw _ _ 142 _ _ _
                          refine V_ldc w_442 dX9_count_142 ?_
                          exact V_iret dX9_count_144 rfl h
