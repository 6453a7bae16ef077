set_option maxRecDepth 20000 in
theorem b_X8_wagon_0 {d : Nat} {P : Int32 → wf_Mem → Prop} (mem : wf_Mem) (x1 : Int32)
    (h : (Ci mX8_within d [.int x1, .int 0, .int 99] mem (fun r2 mem1 => ((¬ r2 = 0 → (Ci mX3_joins d [.ref 42, .int x1] mem1 (fun r5 mem4 => P r5 mem4))) ∧ (r2 = 0 → P (-1000000001) mem1))))) :
    Vw (Ni (d + 1) P) mX8_wagon 0 [(0, .ref 0), (1, .int x1)] [] mem := by
  refine V_iload_n 1 dX8_wagon_0 rfl ?_
  refine V_iconst (v := 0) dX8_wagon_1 rfl ?_
  refine V_bipush (v := 99) dX8_wagon_2 rfl ?_
  refine V_cSi [.int x1, .int 0, .int 99] ms_X8_within w_268 dX8_wagon_4 wf_rok_m rfl rfl (Nat.le_of_ble_eq_true rfl) h ?_
  intro r2 mem1 h
  refine V_if_ne (tgt := 13) dX8_wagon_7 rfl ⟨fun c3 => ?_, fun c3 => ?_⟩
  · have h := h.1 c3
    refine V_aload_n 0 dX8_wagon_13 rfl ?_
    refine V_getf (v := .ref 41) gf_X8_60 dX8_wagon_14 sh_a0 rfl ?_
    refine V_getf (v := .ref 42) gf_X8_82 dX8_wagon_17 sh_a41 rfl ?_
    refine V_iload_n 1 dX8_wagon_20 rfl ?_
    refine V_cVi [.int x1] mv_X3_joins w_274 dX8_wagon_21 wf_rok_m sh_a42 rfl (by decide) rfl rfl (Nat.le_of_ble_eq_true rfl) h ?_
    intro r5 mem4 h
    exact V_iret dX8_wagon_24 rfl h
  · have h := h.2 c3
    refine V_ldc w_275 dX8_wagon_10 ?_
    exact V_iret dX8_wagon_12 rfl h
set_option maxRecDepth 20000 in
theorem b_X8_at_0 {d : Nat} {P : Int32 → wf_Mem → Prop} (mem : wf_Mem) (x1 : Int32) (x2 : Int32)
    (h : (Ci mX3_has d [.ref 42, .int x1] mem (fun r2 mem1 => ((r2 = 0 → P (-1000000001) mem1) ∧ (¬ r2 = 0 → (Ci mX8_within d [.int x2, .int 0, .int 5] mem1 (fun r5 mem4 => ((¬ r5 = 0 → ((2 < x2 → (Cv mX0_measure d [.ref 41] mem4 (fun mem8 => ((x2 = 3 → (vp_in x1 12 ∧ P (mem8 48 x1.toNatClampNeg) mem8)) ∧ (¬ x2 = 3 → ((x2 = 4 → (vp_in x1 12 ∧ P (mem8 49 x1.toNatClampNeg) mem8)) ∧ (¬ x2 = 4 → (Ci mX0_fearsOf d [.ref 41, .int x1] mem8 (fun r12 mem11 => P r12 mem11))))))))) ∧ (¬ 2 < x2 → (Ca mX3_row d [.ref 42, .int x2] mem4 (fun a14 mem13 => wf_sh a14 = (20, 12) ∧ (vp_in x1 12 ∧ P (mem13 a14 x1.toNatClampNeg) mem13)))))) ∧ (r5 = 0 → P (-1000000001) mem4))))))))) :
    Vw (Ni (d + 1) P) mX8_at 0 [(0, .ref 0), (1, .int x1), (2, .int x2)] [] mem := by
  refine V_aload_n 0 dX8_at_0 rfl ?_
  refine V_getf (v := .ref 41) gf_X8_60 dX8_at_1 sh_a0 rfl ?_
  refine V_getf (v := .ref 42) gf_X8_82 dX8_at_4 sh_a41 rfl ?_
  refine V_iload_n 1 dX8_at_7 rfl ?_
  refine V_cVi [.int x1] mv_X3_has w_276 dX8_at_8 wf_rok_m sh_a42 rfl (by decide) rfl rfl (Nat.le_of_ble_eq_true rfl) h ?_
  intro r2 mem1 h
  refine V_if_eq (tgt := 23) dX8_at_11 rfl ⟨fun c3 => ?_, fun c3 => ?_⟩
  · have h := h.1 c3
    refine V_ldc w_275 dX8_at_23 ?_
    exact V_iret dX8_at_25 rfl h
  · have h := h.2 c3
    refine V_iload_n 2 dX8_at_14 rfl ?_
    refine V_iconst (v := 0) dX8_at_15 rfl ?_
    refine V_iconst (v := 5) dX8_at_16 rfl ?_
    refine V_cSi [.int x2, .int 0, .int 5] ms_X8_within w_268 dX8_at_17 wf_rok_m rfl rfl (Nat.le_of_ble_eq_true rfl) h ?_
    intro r5 mem4 h
    refine V_if_ne (tgt := 26) dX8_at_20 rfl ⟨fun c6 => ?_, fun c6 => ?_⟩
    · have h := h.1 c6
      refine V_iload_n 2 dX8_at_26 rfl ?_
      refine V_iconst (v := 2) dX8_at_27 rfl ?_
      refine V_icmp_gt (tgt := 45) dX8_at_28 rfl ⟨fun c7 => ?_, fun c7 => ?_⟩
      · have h := h.1 c7
        refine V_aload_n 0 dX8_at_45 rfl ?_
        refine V_getf (v := .ref 41) gf_X8_60 dX8_at_46 sh_a0 rfl ?_
        refine V_cVv [] mv_X0_measure w_277 dX8_at_49 wf_rok_m sh_a41 rfl (by decide) rfl rfl (Nat.le_of_ble_eq_true rfl) h ?_
        intro mem8 h
        refine V_iload_n 2 dX8_at_52 rfl ?_
        refine V_lswc [(3, 80), (4, 90)] 100 dX8_at_53 (by decide +kernel) (by decide +kernel) ?_
        refine And.intro (fun c9 => ?_) (fun c9 => ?_)
        · have h := h.1 c9
          show Vw _ _ 80 _ _ _
          refine V_aload_n 0 dX8_at_80 rfl ?_
          refine V_getf (v := .ref 41) gf_X8_60 dX8_at_81 sh_a0 rfl ?_
          refine V_getf (v := .ref 48) gf_X8_103 dX8_at_84 sh_a41 rfl ?_
          refine V_iload_n 1 dX8_at_87 rfl ?_
          refine V_iald dX8_at_88 sh_a48 ⟨h.1, ?_⟩
          have h := h.2
          exact V_iret dX8_at_89 rfl h
        · have h := h.2 c9
          refine And.intro (fun c10 => ?_) (fun c10 => ?_)
          · have h := h.1 c10
            show Vw _ _ 90 _ _ _
            refine V_aload_n 0 dX8_at_90 rfl ?_
            refine V_getf (v := .ref 41) gf_X8_60 dX8_at_91 sh_a0 rfl ?_
            refine V_getf (v := .ref 49) gf_X8_106 dX8_at_94 sh_a41 rfl ?_
            refine V_iload_n 1 dX8_at_97 rfl ?_
            refine V_iald dX8_at_98 sh_a49 ⟨h.1, ?_⟩
            have h := h.2
            exact V_iret dX8_at_99 rfl h
          · have h := h.2 c10
            show Vw _ _ 100 _ _ _
            refine V_aload_n 0 dX8_at_100 rfl ?_
            refine V_getf (v := .ref 41) gf_X8_60 dX8_at_101 sh_a0 rfl ?_
            refine V_iload_n 1 dX8_at_104 rfl ?_
            refine V_cVi [.int x1] mv_X0_fearsOf w_280 dX8_at_105 wf_rok_m sh_a41 rfl (by decide) rfl rfl (Nat.le_of_ble_eq_true rfl) h ?_
            intro r12 mem11 h
            exact V_iret dX8_at_108 rfl h
      · have h := h.2 c7
        refine V_aload_n 0 dX8_at_31 rfl ?_
        refine V_getf (v := .ref 41) gf_X8_60 dX8_at_32 sh_a0 rfl ?_
        refine V_getf (v := .ref 42) gf_X8_82 dX8_at_35 sh_a41 rfl ?_
        refine V_iload_n 2 dX8_at_38 rfl ?_
        refine V_cVa [.int x2] mv_X3_row w_284 dX8_at_39 wf_rok_m sh_a42 rfl (by decide) rfl rfl (Nat.le_of_ble_eq_true rfl) h ?_
        intro a14 mem13 h
        have ha14 := h.1
        have h := h.2
        refine V_iload_n 1 dX8_at_42 rfl ?_
        refine V_iald dX8_at_43 ha14 ⟨h.1, ?_⟩
        have h := h.2
        exact V_iret dX8_at_44 rfl h
    · have h := h.2 c6
      refine V_ldc w_275 dX8_at_23 ?_
      exact V_iret dX8_at_25 rfl h
set_option maxRecDepth 20000 in
theorem b_X8_lays_0 {d : Nat} {P : Int32 → wf_Mem → Prop} (mem : wf_Mem) (x1 : Int32) (x2 : Int32) (x3 : Int32)
    (h : (Ci mX3_has d [.ref 42, .int x1] mem (fun r2 mem1 => ((r2 = 0 → P (-1000000001) mem1) ∧ (¬ r2 = 0 → (Ci mX8_within d [.int x2, .int 0, .int 2] mem1 (fun r5 mem4 => ((r5 = 0 → P (-1000000001) mem4) ∧ (¬ r5 = 0 → ((¬ x2 = 1 → Vw (Ni (d + 1) P) mX8_lays 37 [(0, .ref 0), (1, .int x1), (2, .int x2), (3, .int x3)] [.int 99, .int 0, .int x3] mem4) ∧ (x2 = 1 → Vw (Ni (d + 1) P) mX8_lays 37 [(0, .ref 0), (1, .int x1), (2, .int x2), (3, .int x3)] [.int 9, .int 0, .int x3] mem4))))))))))) :
    Vw (Ni (d + 1) P) mX8_lays 0 [(0, .ref 0), (1, .int x1), (2, .int x2), (3, .int x3)] [] mem := by
  refine V_aload_n 0 dX8_lays_0 rfl ?_
  refine V_getf (v := .ref 41) gf_X8_60 dX8_lays_1 sh_a0 rfl ?_
  refine V_getf (v := .ref 42) gf_X8_82 dX8_lays_4 sh_a41 rfl ?_
  refine V_iload_n 1 dX8_lays_7 rfl ?_
  refine V_cVi [.int x1] mv_X3_has w_276 dX8_lays_8 wf_rok_m sh_a42 rfl (by decide) rfl rfl (Nat.le_of_ble_eq_true rfl) h ?_
  intro r2 mem1 h
  refine V_if_eq (tgt := 43) dX8_lays_11 rfl ⟨fun c3 => ?_, fun c3 => ?_⟩
  · have h := h.1 c3
    refine V_ldc w_275 dX8_lays_43 ?_
    exact V_iret dX8_lays_45 rfl h
  · have h := h.2 c3
    refine V_iload_n 2 dX8_lays_14 rfl ?_
    refine V_iconst (v := 0) dX8_lays_15 rfl ?_
    refine V_iconst (v := 2) dX8_lays_16 rfl ?_
    refine V_cSi [.int x2, .int 0, .int 2] ms_X8_within w_268 dX8_lays_17 wf_rok_m rfl rfl (Nat.le_of_ble_eq_true rfl) h ?_
    intro r5 mem4 h
    refine V_if_eq (tgt := 43) dX8_lays_20 rfl ⟨fun c6 => ?_, fun c6 => ?_⟩
    · have h := h.1 c6
      refine V_ldc w_275 dX8_lays_43 ?_
      exact V_iret dX8_lays_45 rfl h
    · have h := h.2 c6
      refine V_iload_n 3 dX8_lays_23 rfl ?_
      refine V_iconst (v := 0) dX8_lays_24 rfl ?_
      refine V_iload_n 2 dX8_lays_25 rfl ?_
      refine V_iconst (v := 1) dX8_lays_26 rfl ?_
      refine V_icmp_ne (tgt := 35) dX8_lays_27 rfl ⟨fun c7 => ?_, fun c7 => ?_⟩
      · have h := h.1 c7
        refine V_bipush (v := 99) dX8_lays_35 rfl ?_
        exact h
      · have h := h.2 c7
        refine V_bipush (v := 9) dX8_lays_30 rfl ?_
        refine V_goto (tgt := 37) dX8_lays_32 rfl ?_
        exact h
set_option maxRecDepth 20000 in
theorem b_X8_lays_37 {d : Nat} {P : Int32 → wf_Mem → Prop} (mem : wf_Mem) (x1 : Int32) (x2 : Int32) (x3 : Int32) (y0 : Int32) (y1 : Int32) (y2 : Int32)
    (h : (Ci mX8_within d [.int y0, .int y1, .int y2] mem (fun r2 mem1 => ((¬ r2 = 0 → (Ca mX3_row d [.ref 42, .int x2] mem1 (fun a5 mem4 => wf_sh a5 = (20, 12) ∧ (vp_in x1 12 ∧ (∀ x5_6 : Int32, x5_6 = (mem4 a5 x1.toNatClampNeg) → (vp_in x1 12 ∧ ∀ mem7 : wf_Mem, mem7 = wf_ms mem4 a5 x1.toNatClampNeg x3 → P x5_6 mem7)))))) ∧ (r2 = 0 → P (-1000000001) mem1))))) :
    Vw (Ni (d + 1) P) mX8_lays 37 [(0, .ref 0), (1, .int x1), (2, .int x2), (3, .int x3)] [.int y2, .int y1, .int y0] mem := by
  refine V_cSi [.int y0, .int y1, .int y2] ms_X8_within w_268 dX8_lays_37 wf_rok_m rfl rfl (Nat.le_of_ble_eq_true rfl) h ?_
  intro r2 mem1 h
  refine V_if_ne (tgt := 46) dX8_lays_40 rfl ⟨fun c3 => ?_, fun c3 => ?_⟩
  · have h := h.1 c3
    refine V_aload_n 0 dX8_lays_46 rfl ?_
    refine V_getf (v := .ref 41) gf_X8_60 dX8_lays_47 sh_a0 rfl ?_
    refine V_getf (v := .ref 42) gf_X8_82 dX8_lays_50 sh_a41 rfl ?_
    refine V_iload_n 2 dX8_lays_53 rfl ?_
    refine V_cVa [.int x2] mv_X3_row w_284 dX8_lays_54 wf_rok_m sh_a42 rfl (by decide) rfl rfl (Nat.le_of_ble_eq_true rfl) h ?_
    intro a5 mem4 h
    have ha5 := h.1
    have h := h.2
    refine V_astore (lv' := [(0, .ref 0), (1, .int x1), (2, .int x2), (3, .int x3), (4, .ref a5)]) dX8_lays_57 (by decide) rfl rfl ?_
    refine V_aload 4 dX8_lays_59 rfl ?_
    refine V_iload_n 1 dX8_lays_61 rfl ?_
    refine V_iald dX8_lays_62 ha5 ⟨h.1, ?_⟩
    have h := h.2
    refine V_topi (fun x5_6 ex5_6 => ?_)
    have h := h x5_6 ex5_6
    refine V_istore (lv' := [(0, .ref 0), (1, .int x1), (2, .int x2), (3, .int x3), (4, .ref a5), (5, .int x5_6)]) dX8_lays_63 (by decide) rfl rfl ?_
    refine V_aload 4 dX8_lays_65 rfl ?_
    refine V_iload_n 1 dX8_lays_67 rfl ?_
    refine V_iload_n 3 dX8_lays_68 rfl ?_
    refine V_iast dX8_lays_69 ha5 ⟨h.1, ?_⟩
    refine V_topm (fun mem7 emem7 => ?_)
    have h := h.2 mem7 emem7
    refine V_iload 5 dX8_lays_70 rfl ?_
    exact V_iret dX8_lays_72 rfl h
  · have h := h.2 c3
    refine V_ldc w_275 dX8_lays_43 ?_
    exact V_iret dX8_lays_45 rfl h
set_option maxRecDepth 20000 in
theorem b_X8_far_0 {d : Nat} {P : Int32 → wf_Mem → Prop} (mem : wf_Mem) (x1 : Int32) (x2 : Int32)
    (h : (Ci mX3_has d [.ref 42, .int x1] mem (fun r2 mem1 => ((r2 = 0 → P (-1000000001) mem1) ∧ (¬ r2 = 0 → (Ci mX3_has d [.ref 42, .int x2] mem1 (fun r5 mem4 => ((¬ r5 = 0 → (∀ x3_7 : Int32, x3_7 = (if 0 ≤ (x1 - x2) then (x1 - x2) else 0 - (x1 - x2)) → P (if ((mem4 42 0) - x3_7) < x3_7 then ((mem4 42 0) - x3_7) else x3_7) mem4)) ∧ (r5 = 0 → P (-1000000001) mem4))))))))) :
    Vw (Ni (d + 1) P) mX8_far 0 [(0, .ref 0), (1, .int x1), (2, .int x2)] [] mem := by
  refine V_aload_n 0 dX8_far_0 rfl ?_
  refine V_getf (v := .ref 41) gf_X8_60 dX8_far_1 sh_a0 rfl ?_
  refine V_getf (v := .ref 42) gf_X8_82 dX8_far_4 sh_a41 rfl ?_
  refine V_iload_n 1 dX8_far_7 rfl ?_
  refine V_cVi [.int x1] mv_X3_has w_276 dX8_far_8 wf_rok_m sh_a42 rfl (by decide) rfl rfl (Nat.le_of_ble_eq_true rfl) h ?_
  intro r2 mem1 h
  refine V_if_eq (tgt := 28) dX8_far_11 rfl ⟨fun c3 => ?_, fun c3 => ?_⟩
  · have h := h.1 c3
    refine V_ldc w_275 dX8_far_28 ?_
    exact V_iret dX8_far_30 rfl h
  · have h := h.2 c3
    refine V_aload_n 0 dX8_far_14 rfl ?_
    refine V_getf (v := .ref 41) gf_X8_60 dX8_far_15 sh_a0 rfl ?_
    refine V_getf (v := .ref 42) gf_X8_82 dX8_far_18 sh_a41 rfl ?_
    refine V_iload_n 2 dX8_far_21 rfl ?_
    refine V_cVi [.int x2] mv_X3_has w_276 dX8_far_22 wf_rok_m sh_a42 rfl (by decide) rfl rfl (Nat.le_of_ble_eq_true rfl) h ?_
    intro r5 mem4 h
    refine V_if_ne (tgt := 31) dX8_far_25 rfl ⟨fun c6 => ?_, fun c6 => ?_⟩
    · have h := h.1 c6
      refine V_iload_n 1 dX8_far_31 rfl ?_
      refine V_iload_n 2 dX8_far_32 rfl ?_
      refine V_isub dX8_far_33 ?_
      refine V_mabs w_285 wm_abs dX8_far_34 wf_rok_m (Nat.le_of_ble_eq_true rfl) ?_
      refine V_topi (fun x3_7 ex3_7 => ?_)
      have h := h x3_7 ex3_7
      refine V_istore_n (lv' := [(0, .ref 0), (1, .int x1), (2, .int x2), (3, .int x3_7)]) dX8_far_37 (by decide) rfl rfl ?_
      refine V_iload_n 3 dX8_far_38 rfl ?_
      refine V_aload_n 0 dX8_far_39 rfl ?_
      refine V_getf (v := .ref 41) gf_X8_60 dX8_far_40 sh_a0 rfl ?_
      refine V_getf (v := .ref 42) gf_X8_82 dX8_far_43 sh_a41 rfl ?_
      refine V_getf (v := .int (mem4 42 0)) gf_X8_117 dX8_far_46 sh_a42 rfl ?_
      refine V_iload_n 3 dX8_far_49 rfl ?_
      refine V_isub dX8_far_50 ?_
      refine V_mmin w_287 wm_min dX8_far_51 wf_rok_m (Nat.le_of_ble_eq_true rfl) ?_
      exact V_iret dX8_far_54 rfl h
    · have h := h.2 c6
      refine V_ldc w_275 dX8_far_28 ?_
      exact V_iret dX8_far_30 rfl h
set_option maxRecDepth 20000 in
theorem b_X8_plain_0 {d : Nat} {P : Int32 → wf_Mem → Prop} (mem : wf_Mem) (x1 : Int32) (x2 : Int32)
    (h : (Ci mX8_within d [.int x1, .int 0, .int 2] mem (fun r2 mem1 => ((r2 = 0 → P (-1000000001) mem1) ∧ (¬ r2 = 0 → ((¬ x1 = 0 → Vw (Ni (d + 1) P) mX8_plain 23 [(0, .ref 0), (1, .int x1), (2, .int x2)] [.int 99, .int 0, .int x2] mem1) ∧ (x1 = 0 → Vw (Ni (d + 1) P) mX8_plain 23 [(0, .ref 0), (1, .int x1), (2, .int x2)] [.int 9999, .int 0, .int x2] mem1))))))) :
    Vw (Ni (d + 1) P) mX8_plain 0 [(0, .ref 0), (1, .int x1), (2, .int x2)] [] mem := by
  refine V_iload_n 1 dX8_plain_0 rfl ?_
  refine V_iconst (v := 0) dX8_plain_1 rfl ?_
  refine V_iconst (v := 2) dX8_plain_2 rfl ?_
  refine V_cSi [.int x1, .int 0, .int 2] ms_X8_within w_268 dX8_plain_3 wf_rok_m rfl rfl (Nat.le_of_ble_eq_true rfl) h ?_
  intro r2 mem1 h
  refine V_if_eq (tgt := 29) dX8_plain_6 rfl ⟨fun c3 => ?_, fun c3 => ?_⟩
  · have h := h.1 c3
    refine V_ldc w_275 dX8_plain_29 ?_
    exact V_iret dX8_plain_31 rfl h
  · have h := h.2 c3
    refine V_iload_n 2 dX8_plain_9 rfl ?_
    refine V_iconst (v := 0) dX8_plain_10 rfl ?_
    refine V_iload_n 1 dX8_plain_11 rfl ?_
    refine V_if_ne (tgt := 21) dX8_plain_12 rfl ⟨fun c4 => ?_, fun c4 => ?_⟩
    · have h := h.1 c4
      refine V_bipush (v := 99) dX8_plain_21 rfl ?_
      exact h
    · have h := h.2 c4
      refine V_sipush (v := 9999) dX8_plain_15 rfl ?_
      refine V_goto (tgt := 23) dX8_plain_18 rfl ?_
      exact h
set_option maxRecDepth 20000 in
theorem b_X8_plain_23 {d : Nat} {P : Int32 → wf_Mem → Prop} (mem : wf_Mem) (x1 : Int32) (x2 : Int32) (y0 : Int32) (y1 : Int32) (y2 : Int32)
    (h : (Ci mX8_within d [.int y0, .int y1, .int y2] mem (fun r2 mem1 => ((¬ r2 = 0 → ((¬ x1 = 0 → ((¬ x1 = 1 → (∀ x3_6 : Int32, x3_6 = (mem1 41 5) → (∀ mem7 : wf_Mem, mem7 = wf_ms mem1 41 5 x2 → P x3_6 mem7))) ∧ (x1 = 1 → (∀ x3_8 : Int32, x3_8 = (mem1 41 4) → (∀ mem9 : wf_Mem, mem9 = wf_ms mem1 41 4 x2 → P x3_8 mem9))))) ∧ (x1 = 0 → (∀ x3_10 : Int32, x3_10 = (mem1 41 3) → (∀ mem11 : wf_Mem, mem11 = wf_ms mem1 41 3 x2 → P x3_10 mem11))))) ∧ (r2 = 0 → P (-1000000001) mem1))))) :
    Vw (Ni (d + 1) P) mX8_plain 23 [(0, .ref 0), (1, .int x1), (2, .int x2)] [.int y2, .int y1, .int y0] mem := by
  refine V_cSi [.int y0, .int y1, .int y2] ms_X8_within w_268 dX8_plain_23 wf_rok_m rfl rfl (Nat.le_of_ble_eq_true rfl) h ?_
  intro r2 mem1 h
  refine V_if_ne (tgt := 32) dX8_plain_26 rfl ⟨fun c3 => ?_, fun c3 => ?_⟩
  · have h := h.1 c3
    refine V_iload_n 1 dX8_plain_32 rfl ?_
    refine V_if_ne (tgt := 55) dX8_plain_33 rfl ⟨fun c4 => ?_, fun c4 => ?_⟩
    · have h := h.1 c4
      refine V_iload_n 1 dX8_plain_55 rfl ?_
      refine V_iconst (v := 1) dX8_plain_56 rfl ?_
      refine V_icmp_ne (tgt := 79) dX8_plain_57 rfl ⟨fun c5 => ?_, fun c5 => ?_⟩
      · have h := h.1 c5
        refine V_aload_n 0 dX8_plain_79 rfl ?_
        refine V_getf (v := .ref 41) gf_X8_60 dX8_plain_80 sh_a0 rfl ?_
        refine V_getf (v := .int (mem1 41 5)) gf_X8_130 dX8_plain_83 sh_a41 rfl ?_
        refine V_topi (fun x3_6 ex3_6 => ?_)
        have h := h x3_6 ex3_6
        refine V_istore_n (lv' := [(0, .ref 0), (1, .int x1), (2, .int x2), (3, .int x3_6)]) dX8_plain_86 (by decide) rfl rfl ?_
        refine V_aload_n 0 dX8_plain_87 rfl ?_
        refine V_getf (v := .ref 41) gf_X8_60 dX8_plain_88 sh_a0 rfl ?_
        refine V_iload_n 2 dX8_plain_91 rfl ?_
        refine V_putf pf_X8_130 dX8_plain_92 sh_a41 rfl rfl ?_
        refine V_topm (fun mem7 emem7 => ?_)
        have h := h mem7 emem7
        refine V_iload_n 3 dX8_plain_95 rfl ?_
        exact V_iret dX8_plain_96 rfl h
      · have h := h.2 c5
        refine V_aload_n 0 dX8_plain_60 rfl ?_
        refine V_getf (v := .ref 41) gf_X8_60 dX8_plain_61 sh_a0 rfl ?_
        refine V_getf (v := .int (mem1 41 4)) gf_X8_127 dX8_plain_64 sh_a41 rfl ?_
        refine V_topi (fun x3_8 ex3_8 => ?_)
        have h := h x3_8 ex3_8
        refine V_istore_n (lv' := [(0, .ref 0), (1, .int x1), (2, .int x2), (3, .int x3_8)]) dX8_plain_67 (by decide) rfl rfl ?_
        refine V_aload_n 0 dX8_plain_68 rfl ?_
        refine V_getf (v := .ref 41) gf_X8_60 dX8_plain_69 sh_a0 rfl ?_
        refine V_iload_n 2 dX8_plain_72 rfl ?_
        refine V_putf pf_X8_127 dX8_plain_73 sh_a41 rfl rfl ?_
        refine V_topm (fun mem9 emem9 => ?_)
        have h := h mem9 emem9
        refine V_goto (tgt := 95) dX8_plain_76 rfl ?_
        refine V_iload_n 3 dX8_plain_95 rfl ?_
        exact V_iret dX8_plain_96 rfl h
    · have h := h.2 c4
      refine V_aload_n 0 dX8_plain_36 rfl ?_
      refine V_getf (v := .ref 41) gf_X8_60 dX8_plain_37 sh_a0 rfl ?_
      refine V_getf (v := .int (mem1 41 3)) gf_X8_124 dX8_plain_40 sh_a41 rfl ?_
      refine V_topi (fun x3_10 ex3_10 => ?_)
      have h := h x3_10 ex3_10
      refine V_istore_n (lv' := [(0, .ref 0), (1, .int x1), (2, .int x2), (3, .int x3_10)]) dX8_plain_43 (by decide) rfl rfl ?_
      refine V_aload_n 0 dX8_plain_44 rfl ?_
      refine V_getf (v := .ref 41) gf_X8_60 dX8_plain_45 sh_a0 rfl ?_
      refine V_iload_n 2 dX8_plain_48 rfl ?_
      refine V_putf pf_X8_124 dX8_plain_49 sh_a41 rfl rfl ?_
      refine V_topm (fun mem11 emem11 => ?_)
      have h := h mem11 emem11
      refine V_goto (tgt := 95) dX8_plain_52 rfl ?_
      refine V_iload_n 3 dX8_plain_95 rfl ?_
      exact V_iret dX8_plain_96 rfl h
  · have h := h.2 c3
    refine V_ldc w_275 dX8_plain_29 ?_
    exact V_iret dX8_plain_31 rfl h
set_option maxRecDepth 20000 in
theorem b_X8_watcher_0 {d : Nat} {P : Int32 → wf_Mem → Prop} (mem : wf_Mem) (x1 : Int32) (x2 : Int32) (x3 : Int32)
    (h : (Ci mX8_isKind d [.int x1] mem (fun r2 mem1 => ((r2 = 0 → P (-1000000001) mem1) ∧ (¬ r2 = 0 → (Ci mX8_within d [.int x2, .int 0, .int 11] mem1 (fun r5 mem4 => ((r5 = 0 → P (-1000000001) mem4) ∧ (¬ r5 = 0 → (Ci mX8_within d [.int x3, .int 1, .int 9] mem4 (fun r8 mem7 => ((¬ r8 = 0 → (Ci mX0_hires d [.ref 41, .int x1, .int x2, .int x3] mem7 (fun r11 mem10 => P r11 mem10))) ∧ (r8 = 0 → P (-1000000001) mem7))))))))))))) :
    Vw (Ni (d + 1) P) mX8_watcher 0 [(0, .ref 0), (1, .int x1), (2, .int x2), (3, .int x3)] [] mem := by
  refine V_iload_n 1 dX8_watcher_0 rfl ?_
  refine V_cSi [.int x1] ms_X8_isKind w_291 dX8_watcher_1 wf_rok_m rfl rfl (Nat.le_of_ble_eq_true rfl) h ?_
  intro r2 mem1 h
  refine V_if_eq (tgt := 27) dX8_watcher_4 rfl ⟨fun c3 => ?_, fun c3 => ?_⟩
  · have h := h.1 c3
    refine V_ldc w_275 dX8_watcher_27 ?_
    exact V_iret dX8_watcher_29 rfl h
  · have h := h.2 c3
    refine V_iload_n 2 dX8_watcher_7 rfl ?_
    refine V_iconst (v := 0) dX8_watcher_8 rfl ?_
    refine V_bipush (v := 11) dX8_watcher_9 rfl ?_
    refine V_cSi [.int x2, .int 0, .int 11] ms_X8_within w_268 dX8_watcher_11 wf_rok_m rfl rfl (Nat.le_of_ble_eq_true rfl) h ?_
    intro r5 mem4 h
    refine V_if_eq (tgt := 27) dX8_watcher_14 rfl ⟨fun c6 => ?_, fun c6 => ?_⟩
    · have h := h.1 c6
      refine V_ldc w_275 dX8_watcher_27 ?_
      exact V_iret dX8_watcher_29 rfl h
    · have h := h.2 c6
      refine V_iload_n 3 dX8_watcher_17 rfl ?_
      refine V_iconst (v := 1) dX8_watcher_18 rfl ?_
      refine V_bipush (v := 9) dX8_watcher_19 rfl ?_
      refine V_cSi [.int x3, .int 1, .int 9] ms_X8_within w_268 dX8_watcher_21 wf_rok_m rfl rfl (Nat.le_of_ble_eq_true rfl) h ?_
      intro r8 mem7 h
      refine V_if_ne (tgt := 30) dX8_watcher_24 rfl ⟨fun c9 => ?_, fun c9 => ?_⟩
      · have h := h.1 c9
        refine V_aload_n 0 dX8_watcher_30 rfl ?_
        refine V_getf (v := .ref 41) gf_X8_60 dX8_watcher_31 sh_a0 rfl ?_
        refine V_iload_n 1 dX8_watcher_34 rfl ?_
        refine V_iload_n 2 dX8_watcher_35 rfl ?_
        refine V_iload_n 3 dX8_watcher_36 rfl ?_
        refine V_cVi [.int x1, .int x2, .int x3] mv_X0_hires w_295 dX8_watcher_37 wf_rok_m sh_a41 rfl (by decide) rfl rfl (Nat.le_of_ble_eq_true rfl) h ?_
        intro r11 mem10 h
        exact V_iret dX8_watcher_40 rfl h
      · have h := h.2 c9
        refine V_ldc w_275 dX8_watcher_27 ?_
        exact V_iret dX8_watcher_29 rfl h
set_option maxRecDepth 20000 in
theorem b_X8_told_0 {d : Nat} {P : Int32 → wf_Mem → Prop} (mem : wf_Mem) (x1 : Int32) (x2 : Int32)
    (h : (Ci mX0_hasWatcher d [.ref 41, .int x1] mem (fun r2 mem1 => ((r2 = 0 → P (-1000000001) mem1) ∧ (¬ r2 = 0 → (Ci mX8_within d [.int x2, .int 0, .int 6] mem1 (fun r5 mem4 => ((¬ r5 = 0 → (vp_in x1 8 ∧ ((x2 = 0 → P (mem4 (46 + 4 + x1.toNatClampNeg) 0) mem4) ∧ (¬ x2 = 0 → ((x2 = 1 → P (mem4 (46 + 4 + x1.toNatClampNeg) 1) mem4) ∧ (¬ x2 = 1 → ((x2 = 2 → P (mem4 (46 + 4 + x1.toNatClampNeg) 2) mem4) ∧ (¬ x2 = 2 → ((x2 = 3 → P (mem4 (46 + 4 + x1.toNatClampNeg) 3) mem4) ∧ (¬ x2 = 3 → ((x2 = 4 → P (mem4 (46 + 4 + x1.toNatClampNeg) 4) mem4) ∧ (¬ x2 = 4 → ((x2 = 5 → (Cv mX0_measure d [.ref 41] mem4 (fun mem14 => (Ci mX0_sightOf d [.ref 41, .ref (46 + 4 + x1.toNatClampNeg)] mem14 (fun r16 mem15 => P r16 mem15))))) ∧ (¬ x2 = 5 → (Ci mX7_worth d [.ref (46 + 4 + x1.toNatClampNeg)] mem4 (fun r18 mem17 => P r18 mem17)))))))))))))))) ∧ (r5 = 0 → P (-1000000001) mem4))))))))) :
    Vw (Ni (d + 1) P) mX8_told 0 [(0, .ref 0), (1, .int x1), (2, .int x2)] [] mem := by
  refine V_aload_n 0 dX8_told_0 rfl ?_
  refine V_getf (v := .ref 41) gf_X8_60 dX8_told_1 sh_a0 rfl ?_
  refine V_iload_n 1 dX8_told_4 rfl ?_
  refine V_cVi [.int x1] mv_X0_hasWatcher w_299 dX8_told_5 wf_rok_m sh_a41 rfl (by decide) rfl rfl (Nat.le_of_ble_eq_true rfl) h ?_
  intro r2 mem1 h
  refine V_if_eq (tgt := 21) dX8_told_8 rfl ⟨fun c3 => ?_, fun c3 => ?_⟩
  · have h := h.1 c3
    refine V_ldc w_275 dX8_told_21 ?_
    exact V_iret dX8_told_23 rfl h
  · have h := h.2 c3
    refine V_iload_n 2 dX8_told_11 rfl ?_
    refine V_iconst (v := 0) dX8_told_12 rfl ?_
    refine V_bipush (v := 6) dX8_told_13 rfl ?_
    refine V_cSi [.int x2, .int 0, .int 6] ms_X8_within w_268 dX8_told_15 wf_rok_m rfl rfl (Nat.le_of_ble_eq_true rfl) h ?_
    intro r5 mem4 h
    refine V_if_ne (tgt := 24) dX8_told_18 rfl ⟨fun c6 => ?_, fun c6 => ?_⟩
    · have h := h.1 c6
      refine V_aload_n 0 dX8_told_24 rfl ?_
      refine V_getf (v := .ref 41) gf_X8_60 dX8_told_25 sh_a0 rfl ?_
      refine V_getf (v := .ref 46) gf_X8_143 dX8_told_28 sh_a41 rfl ?_
      refine V_iload_n 1 dX8_told_31 rfl ?_
      have hi7 := h.1
      refine V_aald (b := (46 + 4 + x1.toNatClampNeg)) dX8_told_32 sh_a46 (by decide) (by decide) rfl ⟨hi7, ?_⟩
      have h := h.2
      refine V_astore_n (lv' := [(0, .ref 0), (1, .int x1), (2, .int x2), (3, .ref (46 + 4 + x1.toNatClampNeg))]) dX8_told_33 (by decide) rfl rfl ?_
      refine V_iload_n 2 dX8_told_34 rfl ?_
      refine V_tswc [(0, 72), (1, 77), (2, 82), (3, 87), (4, 92), (5, 97)] 113 dX8_told_35 (by decide +kernel) ?_
      refine And.intro (fun c8 => ?_) (fun c8 => ?_)
      · have h := h.1 c8
        show Vw _ _ 72 _ _ _
        refine V_aload_n 3 dX8_told_72 rfl ?_
        refine V_getf (v := .int (mem4 (46 + 4 + x1.toNatClampNeg) 0)) gf_X8_147 dX8_told_73 (sh_r22 sh_a46 (wf_in_lt hi7)) rfl ?_
        exact V_iret dX8_told_76 rfl h
      · have h := h.2 c8
        refine And.intro (fun c9 => ?_) (fun c9 => ?_)
        · have h := h.1 c9
          show Vw _ _ 77 _ _ _
          refine V_aload_n 3 dX8_told_77 rfl ?_
          refine V_getf (v := .int (mem4 (46 + 4 + x1.toNatClampNeg) 1)) gf_X8_152 dX8_told_78 (sh_r22 sh_a46 (wf_in_lt hi7)) rfl ?_
          exact V_iret dX8_told_81 rfl h
        · have h := h.2 c9
          refine And.intro (fun c10 => ?_) (fun c10 => ?_)
          · have h := h.1 c10
            show Vw _ _ 82 _ _ _
            refine V_aload_n 3 dX8_told_82 rfl ?_
            refine V_getf (v := .int (mem4 (46 + 4 + x1.toNatClampNeg) 2)) gf_X8_155 dX8_told_83 (sh_r22 sh_a46 (wf_in_lt hi7)) rfl ?_
            exact V_iret dX8_told_86 rfl h
          · have h := h.2 c10
            refine And.intro (fun c11 => ?_) (fun c11 => ?_)
            · have h := h.1 c11
              show Vw _ _ 87 _ _ _
              refine V_aload_n 3 dX8_told_87 rfl ?_
              refine V_getf (v := .int (mem4 (46 + 4 + x1.toNatClampNeg) 3)) gf_X8_158 dX8_told_88 (sh_r22 sh_a46 (wf_in_lt hi7)) rfl ?_
              exact V_iret dX8_told_91 rfl h
            · have h := h.2 c11
              refine And.intro (fun c12 => ?_) (fun c12 => ?_)
              · have h := h.1 c12
                show Vw _ _ 92 _ _ _
                refine V_aload_n 3 dX8_told_92 rfl ?_
                refine V_getf (v := .int (mem4 (46 + 4 + x1.toNatClampNeg) 4)) gf_X8_161 dX8_told_93 (sh_r22 sh_a46 (wf_in_lt hi7)) rfl ?_
                exact V_iret dX8_told_96 rfl h
              · have h := h.2 c12
                refine And.intro (fun c13 => ?_) (fun c13 => ?_)
                · have h := h.1 c13
                  show Vw _ _ 97 _ _ _
                  refine V_aload_n 0 dX8_told_97 rfl ?_
                  refine V_getf (v := .ref 41) gf_X8_60 dX8_told_98 sh_a0 rfl ?_
                  refine V_cVv [] mv_X0_measure w_277 dX8_told_101 wf_rok_m sh_a41 rfl (by decide) rfl rfl (Nat.le_of_ble_eq_true rfl) h ?_
                  intro mem14 h
                  refine V_aload_n 0 dX8_told_104 rfl ?_
                  refine V_getf (v := .ref 41) gf_X8_60 dX8_told_105 sh_a0 rfl ?_
                  refine V_aload_n 3 dX8_told_108 rfl ?_
                  refine V_cVi [.ref (46 + 4 + x1.toNatClampNeg)] mv_X0_sightOf w_306 dX8_told_109 wf_rok_m sh_a41 rfl (by decide) rfl rfl (Nat.le_of_ble_eq_true rfl) h ?_
                  intro r16 mem15 h
                  exact V_iret dX8_told_112 rfl h
                · have h := h.2 c13
                  show Vw _ _ 113 _ _ _
                  refine V_aload_n 3 dX8_told_113 rfl ?_
                  refine V_cVi [] mv_X7_worth w_310 dX8_told_114 wf_rok_m (sh_r22 sh_a46 (wf_in_lt hi7)) rfl (by decide) rfl rfl (Nat.le_of_ble_eq_true rfl) h ?_
                  intro r18 mem17 h
                  exact V_iret dX8_told_117 rfl h
    · have h := h.2 c6
      refine V_ldc w_275 dX8_told_21 ?_
      exact V_iret dX8_told_23 rfl h
set_option maxRecDepth 20000 in
theorem b_X8_as_0 {d : Nat} {P : Int32 → wf_Mem → Prop} (mem : wf_Mem) (x1 : Int32) (x2 : Int32)
    (h : (Ci mX0_hasWatcher d [.ref 41, .int x1] mem (fun r2 mem1 => ((r2 = 0 → P (-1000000001) mem1) ∧ (¬ r2 = 0 → (Ci mX8_isKind d [.int x2] mem1 (fun r5 mem4 => ((¬ r5 = 0 → (vp_in x1 8 ∧ (Ci mX7_isOf d [.ref (46 + 4 + x1.toNatClampNeg), .int x2] mem4 (fun r9 mem8 => ((r9 = 0 → P (-1000000012) mem8) ∧ (¬ r9 = 0 → P (mem8 (46 + 4 + x1.toNatClampNeg) 2) mem8)))))) ∧ (r5 = 0 → P (-1000000001) mem4))))))))) :
    Vw (Ni (d + 1) P) mX8_as 0 [(0, .ref 0), (1, .int x1), (2, .int x2)] [] mem := by
  refine V_aload_n 0 dX8_as_0 rfl ?_
  refine V_getf (v := .ref 41) gf_X8_60 dX8_as_1 sh_a0 rfl ?_
  refine V_iload_n 1 dX8_as_4 rfl ?_
  refine V_cVi [.int x1] mv_X0_hasWatcher w_299 dX8_as_5 wf_rok_m sh_a41 rfl (by decide) rfl rfl (Nat.le_of_ble_eq_true rfl) h ?_
  intro r2 mem1 h
  refine V_if_eq (tgt := 18) dX8_as_8 rfl ⟨fun c3 => ?_, fun c3 => ?_⟩
  · have h := h.1 c3
    refine V_ldc w_275 dX8_as_18 ?_
    exact V_iret dX8_as_20 rfl h
  · have h := h.2 c3
    refine V_iload_n 2 dX8_as_11 rfl ?_
    refine V_cSi [.int x2] ms_X8_isKind w_291 dX8_as_12 wf_rok_m rfl rfl (Nat.le_of_ble_eq_true rfl) h ?_
    intro r5 mem4 h
    refine V_if_ne (tgt := 21) dX8_as_15 rfl ⟨fun c6 => ?_, fun c6 => ?_⟩
    · have h := h.1 c6
      refine V_aload_n 0 dX8_as_21 rfl ?_
      refine V_getf (v := .ref 41) gf_X8_60 dX8_as_22 sh_a0 rfl ?_
      refine V_getf (v := .ref 46) gf_X8_143 dX8_as_25 sh_a41 rfl ?_
      refine V_iload_n 1 dX8_as_28 rfl ?_
      have hi7 := h.1
      refine V_aald (b := (46 + 4 + x1.toNatClampNeg)) dX8_as_29 sh_a46 (by decide) (by decide) rfl ⟨hi7, ?_⟩
      have h := h.2
      refine V_astore_n (lv' := [(0, .ref 0), (1, .int x1), (2, .int x2), (3, .ref (46 + 4 + x1.toNatClampNeg))]) dX8_as_30 (by decide) rfl rfl ?_
      refine V_aload_n 3 dX8_as_31 rfl ?_
      refine V_iload_n 2 dX8_as_32 rfl ?_
      refine V_cVi [.int x2] mv_X7_isOf w_314 dX8_as_33 wf_rok_m (sh_r22 sh_a46 (wf_in_lt hi7)) rfl (by decide) rfl rfl (Nat.le_of_ble_eq_true rfl) h ?_
      intro r9 mem8 h
      refine V_if_eq (tgt := 46) dX8_as_36 rfl ⟨fun c10 => ?_, fun c10 => ?_⟩
      · have h := h.1 c10
        refine V_ldc w_315 dX8_as_46 ?_
        exact V_iret dX8_as_48 rfl h
      · have h := h.2 c10
        refine V_aload_n 3 dX8_as_39 rfl ?_
        refine V_getf (v := .int (mem8 (46 + 4 + x1.toNatClampNeg) 2)) gf_X8_155 dX8_as_40 (sh_r22 sh_a46 (wf_in_lt hi7)) rfl ?_
        refine V_goto (tgt := 48) dX8_as_43 rfl ?_
        exact V_iret dX8_as_48 rfl h
    · have h := h.2 c6
      refine V_ldc w_275 dX8_as_18 ?_
      exact V_iret dX8_as_20 rfl h
set_option maxRecDepth 20000 in
theorem b_X8_turns_0 {d : Nat} {P : Int32 → wf_Mem → Prop} (mem : wf_Mem) (x1 : Int32) (x2 : Int32)
    (h : (Ci mX0_hasWatcher d [.ref 41, .int x1] mem (fun r2 mem1 => ((r2 = 0 → P (-1000000001) mem1) ∧ (¬ r2 = 0 → (Ci mX8_isKind d [.int x2] mem1 (fun r5 mem4 => ((¬ r5 = 0 → (vp_in x1 8 ∧ (∀ x4_8 : Int32, x4_8 = (mem4 (46 + 4 + x1.toNatClampNeg) 0) → (∀ mem9 : wf_Mem, mem9 = wf_ms mem4 (46 + 4 + x1.toNatClampNeg) 0 x2 → P x4_8 mem9)))) ∧ (r5 = 0 → P (-1000000001) mem4))))))))) :
    Vw (Ni (d + 1) P) mX8_turns 0 [(0, .ref 0), (1, .int x1), (2, .int x2)] [] mem := by
  refine V_aload_n 0 dX8_turns_0 rfl ?_
  refine V_getf (v := .ref 41) gf_X8_60 dX8_turns_1 sh_a0 rfl ?_
  refine V_iload_n 1 dX8_turns_4 rfl ?_
  refine V_cVi [.int x1] mv_X0_hasWatcher w_299 dX8_turns_5 wf_rok_m sh_a41 rfl (by decide) rfl rfl (Nat.le_of_ble_eq_true rfl) h ?_
  intro r2 mem1 h
  refine V_if_eq (tgt := 18) dX8_turns_8 rfl ⟨fun c3 => ?_, fun c3 => ?_⟩
  · have h := h.1 c3
    refine V_ldc w_275 dX8_turns_18 ?_
    exact V_iret dX8_turns_20 rfl h
  · have h := h.2 c3
    refine V_iload_n 2 dX8_turns_11 rfl ?_
    refine V_cSi [.int x2] ms_X8_isKind w_291 dX8_turns_12 wf_rok_m rfl rfl (Nat.le_of_ble_eq_true rfl) h ?_
    intro r5 mem4 h
    refine V_if_ne (tgt := 21) dX8_turns_15 rfl ⟨fun c6 => ?_, fun c6 => ?_⟩
    · have h := h.1 c6
      refine V_aload_n 0 dX8_turns_21 rfl ?_
      refine V_getf (v := .ref 41) gf_X8_60 dX8_turns_22 sh_a0 rfl ?_
      refine V_getf (v := .ref 46) gf_X8_143 dX8_turns_25 sh_a41 rfl ?_
      refine V_iload_n 1 dX8_turns_28 rfl ?_
      have hi7 := h.1
      refine V_aald (b := (46 + 4 + x1.toNatClampNeg)) dX8_turns_29 sh_a46 (by decide) (by decide) rfl ⟨hi7, ?_⟩
      have h := h.2
      refine V_astore_n (lv' := [(0, .ref 0), (1, .int x1), (2, .int x2), (3, .ref (46 + 4 + x1.toNatClampNeg))]) dX8_turns_30 (by decide) rfl rfl ?_
      refine V_aload_n 3 dX8_turns_31 rfl ?_
      refine V_getf (v := .int (mem4 (46 + 4 + x1.toNatClampNeg) 0)) gf_X8_147 dX8_turns_32 (sh_r22 sh_a46 (wf_in_lt hi7)) rfl ?_
      refine V_topi (fun x4_8 ex4_8 => ?_)
      have h := h x4_8 ex4_8
      refine V_istore (lv' := [(0, .ref 0), (1, .int x1), (2, .int x2), (3, .ref (46 + 4 + x1.toNatClampNeg)), (4, .int x4_8)]) dX8_turns_35 (by decide) rfl rfl ?_
      refine V_aload_n 3 dX8_turns_37 rfl ?_
      refine V_iload_n 2 dX8_turns_38 rfl ?_
      refine V_putf pf_X8_147 dX8_turns_39 (sh_r22 sh_a46 (wf_in_lt hi7)) rfl rfl ?_
      refine V_topm (fun mem9 emem9 => ?_)
      have h := h mem9 emem9
      refine V_iload 4 dX8_turns_42 rfl ?_
      exact V_iret dX8_turns_44 rfl h
    · have h := h.2 c6
      refine V_ldc w_275 dX8_turns_18 ?_
      exact V_iret dX8_turns_20 rfl h
set_option maxRecDepth 20000 in
theorem b_X8_set_0 {d : Nat} {P : Int32 → wf_Mem → Prop} (mem : wf_Mem) (x1 : Int32) (x2 : Int32) (x3 : Int32)
    (h : (Ci mX0_hasWatcher d [.ref 41, .int x1] mem (fun r2 mem1 => ((r2 = 0 → P (-1000000001) mem1) ∧ (¬ r2 = 0 → (Ci mX7_canBe d [.int x2, .int x3] mem1 (fun r5 mem4 => ((¬ r5 = 0 → (vp_in x1 8 ∧ ((x2 = 1 → (∀ x5_9 : Int32, x5_9 = (mem4 (46 + 4 + x1.toNatClampNeg) 1) → (∀ mem10 : wf_Mem, mem10 = wf_ms mem4 (46 + 4 + x1.toNatClampNeg) 1 x3 → P x5_9 mem10))) ∧ (¬ x2 = 1 → ((x2 = 2 → (∀ x5_12 : Int32, x5_12 = (mem4 (46 + 4 + x1.toNatClampNeg) 2) → (∀ mem13 : wf_Mem, mem13 = wf_ms mem4 (46 + 4 + x1.toNatClampNeg) 2 x3 → P x5_12 mem13))) ∧ (¬ x2 = 2 → ((x2 = 3 → (∀ x5_15 : Int32, x5_15 = (mem4 (46 + 4 + x1.toNatClampNeg) 3) → (∀ mem16 : wf_Mem, mem16 = wf_ms mem4 (46 + 4 + x1.toNatClampNeg) 3 x3 → P x5_15 mem16))) ∧ (¬ x2 = 3 → (∀ x5_17 : Int32, x5_17 = (mem4 (46 + 4 + x1.toNatClampNeg) 4) → (∀ mem18 : wf_Mem, mem18 = wf_ms mem4 (46 + 4 + x1.toNatClampNeg) 4 x3 → P x5_17 mem18)))))))))) ∧ (r5 = 0 → P (-1000000001) mem4))))))))) :
    Vw (Ni (d + 1) P) mX8_set 0 [(0, .ref 0), (1, .int x1), (2, .int x2), (3, .int x3)] [] mem := by
  refine V_aload_n 0 dX8_set_0 rfl ?_
  refine V_getf (v := .ref 41) gf_X8_60 dX8_set_1 sh_a0 rfl ?_
  refine V_iload_n 1 dX8_set_4 rfl ?_
  refine V_cVi [.int x1] mv_X0_hasWatcher w_299 dX8_set_5 wf_rok_m sh_a41 rfl (by decide) rfl rfl (Nat.le_of_ble_eq_true rfl) h ?_
  intro r2 mem1 h
  refine V_if_eq (tgt := 19) dX8_set_8 rfl ⟨fun c3 => ?_, fun c3 => ?_⟩
  · have h := h.1 c3
    refine V_ldc w_275 dX8_set_19 ?_
    exact V_iret dX8_set_21 rfl h
  · have h := h.2 c3
    refine V_iload_n 2 dX8_set_11 rfl ?_
    refine V_iload_n 3 dX8_set_12 rfl ?_
    refine V_cSi [.int x2, .int x3] ms_X7_canBe w_318 dX8_set_13 wf_rok_m rfl rfl (Nat.le_of_ble_eq_true rfl) h ?_
    intro r5 mem4 h
    refine V_if_ne (tgt := 22) dX8_set_16 rfl ⟨fun c6 => ?_, fun c6 => ?_⟩
    · have h := h.1 c6
      refine V_aload_n 0 dX8_set_22 rfl ?_
      refine V_getf (v := .ref 41) gf_X8_60 dX8_set_23 sh_a0 rfl ?_
      refine V_getf (v := .ref 46) gf_X8_143 dX8_set_26 sh_a41 rfl ?_
      refine V_iload_n 1 dX8_set_29 rfl ?_
      have hi7 := h.1
      refine V_aald (b := (46 + 4 + x1.toNatClampNeg)) dX8_set_30 sh_a46 (by decide) (by decide) rfl ⟨hi7, ?_⟩
      have h := h.2
      refine V_astore (lv' := [(0, .ref 0), (1, .int x1), (2, .int x2), (3, .int x3), (4, .ref (46 + 4 + x1.toNatClampNeg))]) dX8_set_31 (by decide) rfl rfl ?_
      refine V_iload_n 2 dX8_set_33 rfl ?_
      refine V_tswc [(1, 60), (2, 76), (3, 92)] 108 dX8_set_34 (by decide +kernel) ?_
      refine And.intro (fun c8 => ?_) (fun c8 => ?_)
      · have h := h.1 c8
        show Vw _ _ 60 _ _ _
        refine V_aload 4 dX8_set_60 rfl ?_
        refine V_getf (v := .int (mem4 (46 + 4 + x1.toNatClampNeg) 1)) gf_X8_152 dX8_set_62 (sh_r22 sh_a46 (wf_in_lt hi7)) rfl ?_
        refine V_topi (fun x5_9 ex5_9 => ?_)
        have h := h x5_9 ex5_9
        refine V_istore (lv' := [(0, .ref 0), (1, .int x1), (2, .int x2), (3, .int x3), (4, .ref (46 + 4 + x1.toNatClampNeg)), (5, .int x5_9)]) dX8_set_65 (by decide) rfl rfl ?_
        refine V_aload 4 dX8_set_67 rfl ?_
        refine V_iload_n 3 dX8_set_69 rfl ?_
        refine V_putf pf_X8_152 dX8_set_70 (sh_r22 sh_a46 (wf_in_lt hi7)) rfl rfl ?_
        refine V_topm (fun mem10 emem10 => ?_)
        have h := h mem10 emem10
        refine V_iload 5 dX8_set_73 rfl ?_
        exact V_iret dX8_set_75 rfl h
      · have h := h.2 c8
        refine And.intro (fun c11 => ?_) (fun c11 => ?_)
        · have h := h.1 c11
          show Vw _ _ 76 _ _ _
          refine V_aload 4 dX8_set_76 rfl ?_
          refine V_getf (v := .int (mem4 (46 + 4 + x1.toNatClampNeg) 2)) gf_X8_155 dX8_set_78 (sh_r22 sh_a46 (wf_in_lt hi7)) rfl ?_
          refine V_topi (fun x5_12 ex5_12 => ?_)
          have h := h x5_12 ex5_12
          refine V_istore (lv' := [(0, .ref 0), (1, .int x1), (2, .int x2), (3, .int x3), (4, .ref (46 + 4 + x1.toNatClampNeg)), (5, .int x5_12)]) dX8_set_81 (by decide) rfl rfl ?_
          refine V_aload 4 dX8_set_83 rfl ?_
          refine V_iload_n 3 dX8_set_85 rfl ?_
          refine V_putf pf_X8_155 dX8_set_86 (sh_r22 sh_a46 (wf_in_lt hi7)) rfl rfl ?_
          refine V_topm (fun mem13 emem13 => ?_)
          have h := h mem13 emem13
          refine V_iload 5 dX8_set_89 rfl ?_
          exact V_iret dX8_set_91 rfl h
        · have h := h.2 c11
          refine And.intro (fun c14 => ?_) (fun c14 => ?_)
          · have h := h.1 c14
            show Vw _ _ 92 _ _ _
            refine V_aload 4 dX8_set_92 rfl ?_
            refine V_getf (v := .int (mem4 (46 + 4 + x1.toNatClampNeg) 3)) gf_X8_158 dX8_set_94 (sh_r22 sh_a46 (wf_in_lt hi7)) rfl ?_
            refine V_topi (fun x5_15 ex5_15 => ?_)
            have h := h x5_15 ex5_15
            refine V_istore (lv' := [(0, .ref 0), (1, .int x1), (2, .int x2), (3, .int x3), (4, .ref (46 + 4 + x1.toNatClampNeg)), (5, .int x5_15)]) dX8_set_97 (by decide) rfl rfl ?_
            refine V_aload 4 dX8_set_99 rfl ?_
            refine V_iload_n 3 dX8_set_101 rfl ?_
            refine V_putf pf_X8_158 dX8_set_102 (sh_r22 sh_a46 (wf_in_lt hi7)) rfl rfl ?_
            refine V_topm (fun mem16 emem16 => ?_)
            have h := h mem16 emem16
            refine V_iload 5 dX8_set_105 rfl ?_
            exact V_iret dX8_set_107 rfl h
          · have h := h.2 c14
            show Vw _ _ 108 _ _ _
            refine V_aload 4 dX8_set_108 rfl ?_
            refine V_getf (v := .int (mem4 (46 + 4 + x1.toNatClampNeg) 4)) gf_X8_161 dX8_set_110 (sh_r22 sh_a46 (wf_in_lt hi7)) rfl ?_
            refine V_topi (fun x5_17 ex5_17 => ?_)
            have h := h x5_17 ex5_17
            refine V_istore (lv' := [(0, .ref 0), (1, .int x1), (2, .int x2), (3, .int x3), (4, .ref (46 + 4 + x1.toNatClampNeg)), (5, .int x5_17)]) dX8_set_113 (by decide) rfl rfl ?_
            refine V_aload 4 dX8_set_115 rfl ?_
            refine V_iload_n 3 dX8_set_117 rfl ?_
            refine V_putf pf_X8_161 dX8_set_118 (sh_r22 sh_a46 (wf_in_lt hi7)) rfl rfl ?_
            refine V_topm (fun mem18 emem18 => ?_)
            have h := h mem18 emem18
            refine V_iload 5 dX8_set_121 rfl ?_
            exact V_iret dX8_set_123 rfl h
    · have h := h.2 c6
      refine V_ldc w_275 dX8_set_19 ?_
      exact V_iret dX8_set_21 rfl h
set_option maxRecDepth 20000 in
theorem b_X8_deal_0 {d : Nat} {P : Int32 → wf_Mem → Prop} (mem : wf_Mem) (x1 : Int32)
    (h : (Ci mX8_within d [.int x1, .int 1, .int 8] mem (fun r2 mem1 => ((¬ r2 = 0 → (∀ x2_4 : Int32, x2_4 = (if (8 - (mem1 41 2)) < x1 then (8 - (mem1 41 2)) else x1) → Vw (Ni (d + 1) P) mX8_deal 30 [(0, .ref 0), (2, .int x2_4), (3, .int 0)] [] mem1)) ∧ (r2 = 0 → P (-1000000001) mem1))))) :
    Vw (Ni (d + 1) P) mX8_deal 0 [(0, .ref 0), (1, .int x1)] [] mem := by
  refine V_iload_n 1 dX8_deal_0 rfl ?_
  refine V_iconst (v := 1) dX8_deal_1 rfl ?_
  refine V_bipush (v := 8) dX8_deal_2 rfl ?_
  refine V_cSi [.int x1, .int 1, .int 8] ms_X8_within w_268 dX8_deal_4 wf_rok_m rfl rfl (Nat.le_of_ble_eq_true rfl) h ?_
  intro r2 mem1 h
  refine V_if_ne (tgt := 13) dX8_deal_7 rfl ⟨fun c3 => ?_, fun c3 => ?_⟩
  · have h := h.1 c3
    refine V_iload_n 1 dX8_deal_13 rfl ?_
    refine V_bipush (v := 8) dX8_deal_14 rfl ?_
    refine V_aload_n 0 dX8_deal_16 rfl ?_
    refine V_getf (v := .ref 41) gf_X8_60 dX8_deal_17 sh_a0 rfl ?_
    refine V_getf (v := .int (mem1 41 2)) gf_X8_180 dX8_deal_20 sh_a41 rfl ?_
    refine V_isub dX8_deal_23 ?_
    refine V_mmin w_287 wm_min dX8_deal_24 wf_rok_m (Nat.le_of_ble_eq_true rfl) ?_
    refine V_topi (fun x2_4 ex2_4 => ?_)
    have h := h x2_4 ex2_4
    refine V_istore_n (lv' := [(0, .ref 0), (1, .int x1), (2, .int x2_4)]) dX8_deal_27 (by decide) rfl rfl ?_
    refine V_iconst (v := 0) dX8_deal_28 rfl ?_
    refine V_istore_n (lv' := [(0, .ref 0), (1, .int x1), (2, .int x2_4), (3, .int 0)]) dX8_deal_29 (by decide) rfl rfl ?_
    exact V_sub [0, 2, 3] rfl h
  · have h := h.2 c3
    refine V_ldc w_275 dX8_deal_10 ?_
    exact V_iret dX8_deal_12 rfl h
set_option maxRecDepth 20000 in
theorem b_X8_deal_30 {d : Nat} {P : Int32 → wf_Mem → Prop} (mem : wf_Mem) (x2 : Int32) (x3 : Int32)
    (h : ((x2 ≤ x3 → P x2 mem) ∧ (¬ x2 ≤ x3 → (Ci mX0_draw d [.ref 41] mem (fun r3 mem2 => (∀ x4_4 : Int32, x4_4 = (r3 - r3 / 6 * 6) → (Ci mX0_draw d [.ref 41] mem2 (fun r6 mem5 => (∀ x5_7 : Int32, x5_7 = (r6 - r6 / 12 * 12) → (Ci mX0_draw d [.ref 41] mem5 (fun r9 mem8 => (∀ x6_10 : Int32, x6_10 = (1 + (r9 - r9 / 9 * 9)) → (Ci mX0_hires d [.ref 41, .int x4_4, .int x5_7, .int x6_10] mem8 (fun r12 mem11 => Vw (Ni (d + 1) P) mX8_deal 30 [(0, .ref 0), (2, .int x2), (3, .int (x3 + 1))] [] mem11)))))))))))))) :
    Vw (Ni (d + 1) P) mX8_deal 30 [(0, .ref 0), (2, .int x2), (3, .int x3)] [] mem := by
  refine V_iload_n 2 dX8_deal_30 rfl ?_
  refine V_iload_n 1 dX8_deal_31 rfl ?_
  refine V_icmp_ge (tgt := 95) dX8_deal_32 rfl ⟨fun c1 => ?_, fun c1 => ?_⟩
  · have h := h.1 c1
    refine V_iload_n 1 dX8_deal_95 rfl ?_
    exact V_iret dX8_deal_96 rfl h
  · have h := h.2 c1
    refine V_aload_n 0 dX8_deal_35 rfl ?_
    refine V_getf (v := .ref 41) gf_X8_60 dX8_deal_36 sh_a0 rfl ?_
    refine V_cVi [] mv_X0_draw w_323 dX8_deal_39 wf_rok_m sh_a41 rfl (by decide) rfl rfl (Nat.le_of_ble_eq_true rfl) h ?_
    intro r3 mem2 h
    refine V_getAbv w_324 dX8_deal_42 ?_
    refine V_abvLen dX8_deal_45 ?_
    refine V_irem dX8_deal_46 ⟨by decide, ?_⟩
    refine V_topi (fun x4_4 ex4_4 => ?_)
    have h := h x4_4 ex4_4
    refine V_istore (lv' := [(0, .ref 0), (2, .int x2), (3, .int x3), (4, .int x4_4)]) dX8_deal_47 (by decide) rfl rfl ?_
    refine V_aload_n 0 dX8_deal_49 rfl ?_
    refine V_getf (v := .ref 41) gf_X8_60 dX8_deal_50 sh_a0 rfl ?_
    refine V_cVi [] mv_X0_draw w_323 dX8_deal_53 wf_rok_m sh_a41 rfl (by decide) rfl rfl (Nat.le_of_ble_eq_true rfl) h ?_
    intro r6 mem5 h
    refine V_bipush (v := 12) dX8_deal_56 rfl ?_
    refine V_irem dX8_deal_58 ⟨by decide, ?_⟩
    refine V_topi (fun x5_7 ex5_7 => ?_)
    have h := h x5_7 ex5_7
    refine V_istore (lv' := [(0, .ref 0), (2, .int x2), (3, .int x3), (4, .int x4_4), (5, .int x5_7)]) dX8_deal_59 (by decide) rfl rfl ?_
    refine V_iconst (v := 1) dX8_deal_61 rfl ?_
    refine V_aload_n 0 dX8_deal_62 rfl ?_
    refine V_getf (v := .ref 41) gf_X8_60 dX8_deal_63 sh_a0 rfl ?_
    refine V_cVi [] mv_X0_draw w_323 dX8_deal_66 wf_rok_m sh_a41 rfl (by decide) rfl rfl (Nat.le_of_ble_eq_true rfl) h ?_
    intro r9 mem8 h
    refine V_bipush (v := 9) dX8_deal_69 rfl ?_
    refine V_irem dX8_deal_71 ⟨by decide, ?_⟩
    refine V_iadd dX8_deal_72 ?_
    refine V_topi (fun x6_10 ex6_10 => ?_)
    have h := h x6_10 ex6_10
    refine V_istore (lv' := [(0, .ref 0), (2, .int x2), (3, .int x3), (4, .int x4_4), (5, .int x5_7), (6, .int x6_10)]) dX8_deal_73 (by decide) rfl rfl ?_
    refine V_aload_n 0 dX8_deal_75 rfl ?_
    refine V_getf (v := .ref 41) gf_X8_60 dX8_deal_76 sh_a0 rfl ?_
    refine V_iload 3 dX8_deal_79 rfl ?_
    refine V_iload 4 dX8_deal_81 rfl ?_
    refine V_iload 5 dX8_deal_83 rfl ?_
    refine V_cVi [.int x4_4, .int x5_7, .int x6_10] mv_X0_hires w_295 dX8_deal_85 wf_rok_m sh_a41 rfl (by decide) rfl rfl (Nat.le_of_ble_eq_true rfl) h ?_
    intro r12 mem11 h
    refine V_pop dX8_deal_88 rfl ?_
    refine V_iinc (v := (x3 + 1)) (lv' := [(0, .ref 0), (2, .int x2), (3, .int (x3 + 1)), (4, .int x4_4), (5, .int x5_7), (6, .int x6_10)]) 2 dX8_deal_89 rfl rfl (by decide) rfl rfl ?_
    refine V_goto (tgt := 30) dX8_deal_92 rfl ?_
    exact V_sub [0, 1, 2] rfl h
set_option maxRecDepth 20000 in
theorem b_X8_seed_0 {d : Nat} {P : Int32 → wf_Mem → Prop} (mem : wf_Mem) (x1 : Int32)
    (h : (∀ x2_1 : Int32, x2_1 = (mem 41 10) → (∀ mem2 : wf_Mem, mem2 = wf_ms mem 41 10 x1 → P x2_1 mem2))) :
    Vw (Ni d P) mX8_seed 0 [(0, .ref 0), (1, .int x1)] [] mem := by
  refine V_aload_n 0 dX8_seed_0 rfl ?_
  refine V_getf (v := .ref 41) gf_X8_60 dX8_seed_1 sh_a0 rfl ?_
  refine V_getf (v := .int (mem 41 10)) gf_X8_189 dX8_seed_4 sh_a41 rfl ?_
  refine V_topi (fun x2_1 ex2_1 => ?_)
  have h := h x2_1 ex2_1
  refine V_istore_n (lv' := [(0, .ref 0), (1, .int x1), (2, .int x2_1)]) dX8_seed_7 (by decide) rfl rfl ?_
  refine V_aload_n 0 dX8_seed_8 rfl ?_
  refine V_getf (v := .ref 41) gf_X8_60 dX8_seed_9 sh_a0 rfl ?_
  refine V_iload_n 1 dX8_seed_12 rfl ?_
  refine V_putf pf_X8_189 dX8_seed_13 sh_a41 rfl rfl ?_
  refine V_topm (fun mem2 emem2 => ?_)
  have h := h mem2 emem2
  refine V_iload_n 2 dX8_seed_16 rfl ?_
  exact V_iret dX8_seed_17 rfl h
set_option maxRecDepth 20000 in
theorem b_X8_hours_0 {d : Nat} {P : Int32 → wf_Mem → Prop} (mem : wf_Mem) (x1 : Int32)
    (h : (Ci mX8_within d [.int x1, .int 1, .int 300] mem (fun r2 mem1 => ((¬ r2 = 0 → (∀ x2_4 : Int32, x2_4 = (mem1 41 8) → (Cv mX0_pass d [.ref 41, .int (if (9999 - (mem1 41 6)) < x1 then (9999 - (mem1 41 6)) else x1)] mem1 (fun mem5 => P ((mem5 41 8) - x2_4) mem5)))) ∧ (r2 = 0 → P (-1000000001) mem1))))) :
    Vw (Ni (d + 1) P) mX8_hours 0 [(0, .ref 0), (1, .int x1)] [] mem := by
  refine V_iload_n 1 dX8_hours_0 rfl ?_
  refine V_iconst (v := 1) dX8_hours_1 rfl ?_
  refine V_sipush (v := 300) dX8_hours_2 rfl ?_
  refine V_cSi [.int x1, .int 1, .int 300] ms_X8_within w_268 dX8_hours_5 wf_rok_m rfl rfl (Nat.le_of_ble_eq_true rfl) h ?_
  intro r2 mem1 h
  refine V_if_ne (tgt := 14) dX8_hours_8 rfl ⟨fun c3 => ?_, fun c3 => ?_⟩
  · have h := h.1 c3
    refine V_aload_n 0 dX8_hours_14 rfl ?_
    refine V_getf (v := .ref 41) gf_X8_60 dX8_hours_15 sh_a0 rfl ?_
    refine V_getf (v := .int (mem1 41 8)) gf_X8_192 dX8_hours_18 sh_a41 rfl ?_
    refine V_topi (fun x2_4 ex2_4 => ?_)
    have h := h x2_4 ex2_4
    refine V_istore_n (lv' := [(0, .ref 0), (1, .int x1), (2, .int x2_4)]) dX8_hours_21 (by decide) rfl rfl ?_
    refine V_aload_n 0 dX8_hours_22 rfl ?_
    refine V_getf (v := .ref 41) gf_X8_60 dX8_hours_23 sh_a0 rfl ?_
    refine V_iload_n 1 dX8_hours_26 rfl ?_
    refine V_sipush (v := 9999) dX8_hours_27 rfl ?_
    refine V_aload_n 0 dX8_hours_30 rfl ?_
    refine V_getf (v := .ref 41) gf_X8_60 dX8_hours_31 sh_a0 rfl ?_
    refine V_getf (v := .int (mem1 41 6)) gf_X8_195 dX8_hours_34 sh_a41 rfl ?_
    refine V_isub dX8_hours_37 ?_
    refine V_mmin w_287 wm_min dX8_hours_38 wf_rok_m (Nat.le_of_ble_eq_true rfl) ?_
    refine V_cVv [.int (if (9999 - (mem1 41 6)) < x1 then (9999 - (mem1 41 6)) else x1)] mv_X0_pass w_331 dX8_hours_41 wf_rok_m sh_a41 rfl (by decide) rfl rfl (Nat.le_of_ble_eq_true rfl) h ?_
    intro mem5 h
    refine V_aload_n 0 dX8_hours_44 rfl ?_
    refine V_getf (v := .ref 41) gf_X8_60 dX8_hours_45 sh_a0 rfl ?_
    refine V_getf (v := .int (mem5 41 8)) gf_X8_192 dX8_hours_48 sh_a41 rfl ?_
    refine V_iload_n 2 dX8_hours_51 rfl ?_
    refine V_isub dX8_hours_52 ?_
    exact V_iret dX8_hours_53 rfl h
  · have h := h.2 c3
    refine V_ldc w_275 dX8_hours_11 ?_
    exact V_iret dX8_hours_13 rfl h
set_option maxRecDepth 20000 in
theorem b_X8_night_0 {d : Nat} {P : Int32 → wf_Mem → Prop} (mem : wf_Mem) (x1 : Int32)
    (h : ((x1 = 0 → P (mem 41 8) mem) ∧ (¬ x1 = 0 → ((x1 = 1 → P (mem 41 7) mem) ∧ (¬ x1 = 1 → ((x1 = 2 → P (mem 41 9) mem) ∧ (¬ x1 = 2 → ((x1 = 3 → (Cv mX0_measure d [.ref 41] mem (fun mem5 => (Ci mX0_leastFeared d [.ref 41] mem5 (fun r7 mem6 => P r7 mem6))))) ∧ (¬ x1 = 3 → P (-1000000001) mem))))))))) :
    Vw (Ni (d + 1) P) mX8_night 0 [(0, .ref 0), (1, .int x1)] [] mem := by
  refine V_iload_n 1 dX8_night_0 rfl ?_
  refine V_tswc [(0, 32), (1, 40), (2, 48), (3, 56)] 71 dX8_night_1 (by decide +kernel) ?_
  refine And.intro (fun c1 => ?_) (fun c1 => ?_)
  · have h := h.1 c1
    show Vw _ _ 32 _ _ _
    refine V_aload_n 0 dX8_night_32 rfl ?_
    refine V_getf (v := .ref 41) gf_X8_60 dX8_night_33 sh_a0 rfl ?_
    refine V_getf (v := .int (mem 41 8)) gf_X8_192 dX8_night_36 sh_a41 rfl ?_
    exact V_iret dX8_night_39 rfl h
  · have h := h.2 c1
    refine And.intro (fun c2 => ?_) (fun c2 => ?_)
    · have h := h.1 c2
      show Vw _ _ 40 _ _ _
      refine V_aload_n 0 dX8_night_40 rfl ?_
      refine V_getf (v := .ref 41) gf_X8_60 dX8_night_41 sh_a0 rfl ?_
      refine V_getf (v := .int (mem 41 7)) gf_X8_202 dX8_night_44 sh_a41 rfl ?_
      exact V_iret dX8_night_47 rfl h
    · have h := h.2 c2
      refine And.intro (fun c3 => ?_) (fun c3 => ?_)
      · have h := h.1 c3
        show Vw _ _ 48 _ _ _
        refine V_aload_n 0 dX8_night_48 rfl ?_
        refine V_getf (v := .ref 41) gf_X8_60 dX8_night_49 sh_a0 rfl ?_
        refine V_getf (v := .int (mem 41 9)) gf_X8_205 dX8_night_52 sh_a41 rfl ?_
        exact V_iret dX8_night_55 rfl h
      · have h := h.2 c3
        refine And.intro (fun c4 => ?_) (fun c4 => ?_)
        · have h := h.1 c4
          show Vw _ _ 56 _ _ _
          refine V_aload_n 0 dX8_night_56 rfl ?_
          refine V_getf (v := .ref 41) gf_X8_60 dX8_night_57 sh_a0 rfl ?_
          refine V_cVv [] mv_X0_measure w_277 dX8_night_60 wf_rok_m sh_a41 rfl (by decide) rfl rfl (Nat.le_of_ble_eq_true rfl) h ?_
          intro mem5 h
          refine V_aload_n 0 dX8_night_63 rfl ?_
          refine V_getf (v := .ref 41) gf_X8_60 dX8_night_64 sh_a0 rfl ?_
          refine V_cVi [] mv_X0_leastFeared w_334 dX8_night_67 wf_rok_m sh_a41 rfl (by decide) rfl rfl (Nat.le_of_ble_eq_true rfl) h ?_
          intro r7 mem6 h
          exact V_iret dX8_night_70 rfl h
        · have h := h.2 c4
          show Vw _ _ 71 _ _ _
          refine V_ldc w_275 dX8_night_71 ?_
          exact V_iret dX8_night_73 rfl h
set_option maxRecDepth 20000 in
theorem b_X8_behind_0 {d : Nat} {P : Int32 → wf_Mem → Prop} (mem : wf_Mem) (x1 : Int32) (x2 : Int32)
    (h : (Ci mX8_within d [.int x1, .int 0, .int 300] mem (fun r2 mem1 => ((r2 = 0 → P (-1000000001) mem1) ∧ (¬ r2 = 0 → (Ci mX8_within d [.int x2, .int 0, .int 3] mem1 (fun r5 mem4 => ((¬ r5 = 0 → (Cv mX0_takeFrom d [.ref 75, .ref 41] mem4 (fun mem7 => (Cv mX0_pass d [.ref 75, .int x1] mem7 (fun mem8 => ((x2 = 0 → P (mem8 75 8) mem8) ∧ (¬ x2 = 0 → ((x2 = 1 → P (mem8 75 3) mem8) ∧ (¬ x2 = 1 → ((x2 = 2 → P (mem8 75 5) mem8) ∧ (¬ x2 = 2 → (Ci mX3_allFoals d [.ref 76] mem8 (fun r13 mem12 => P r13 mem12))))))))))))) ∧ (r5 = 0 → P (-1000000001) mem4))))))))) :
    Vw (Ni (d + 1) P) mX8_behind 0 [(0, .ref 0), (1, .int x1), (2, .int x2)] [] mem := by
  refine V_iload_n 1 dX8_behind_0 rfl ?_
  refine V_iconst (v := 0) dX8_behind_1 rfl ?_
  refine V_sipush (v := 300) dX8_behind_2 rfl ?_
  refine V_cSi [.int x1, .int 0, .int 300] ms_X8_within w_268 dX8_behind_5 wf_rok_m rfl rfl (Nat.le_of_ble_eq_true rfl) h ?_
  intro r2 mem1 h
  refine V_if_eq (tgt := 20) dX8_behind_8 rfl ⟨fun c3 => ?_, fun c3 => ?_⟩
  · have h := h.1 c3
    refine V_ldc w_275 dX8_behind_20 ?_
    exact V_iret dX8_behind_22 rfl h
  · have h := h.2 c3
    refine V_iload_n 2 dX8_behind_11 rfl ?_
    refine V_iconst (v := 0) dX8_behind_12 rfl ?_
    refine V_iconst (v := 3) dX8_behind_13 rfl ?_
    refine V_cSi [.int x2, .int 0, .int 3] ms_X8_within w_268 dX8_behind_14 wf_rok_m rfl rfl (Nat.le_of_ble_eq_true rfl) h ?_
    intro r5 mem4 h
    refine V_if_ne (tgt := 23) dX8_behind_17 rfl ⟨fun c6 => ?_, fun c6 => ?_⟩
    · have h := h.1 c6
      refine V_aload_n 0 dX8_behind_23 rfl ?_
      refine V_getf (v := .ref 75) gf_X8_67 dX8_behind_24 sh_a0 rfl ?_
      refine V_aload_n 0 dX8_behind_27 rfl ?_
      refine V_getf (v := .ref 41) gf_X8_60 dX8_behind_28 sh_a0 rfl ?_
      refine V_cVv [.ref 41] mv_X0_takeFrom w_339 dX8_behind_31 wf_rok_m sh_a75 rfl (by decide) rfl rfl (Nat.le_of_ble_eq_true rfl) h ?_
      intro mem7 h
      refine V_aload_n 0 dX8_behind_34 rfl ?_
      refine V_getf (v := .ref 75) gf_X8_67 dX8_behind_35 sh_a0 rfl ?_
      refine V_iload_n 1 dX8_behind_38 rfl ?_
      refine V_cVv [.int x1] mv_X0_pass w_331 dX8_behind_39 wf_rok_m sh_a75 rfl (by decide) rfl rfl (Nat.le_of_ble_eq_true rfl) h ?_
      intro mem8 h
      refine V_iload_n 2 dX8_behind_42 rfl ?_
      refine V_tswc [(0, 68), (1, 76), (2, 84)] 92 dX8_behind_43 (by decide +kernel) ?_
      refine And.intro (fun c9 => ?_) (fun c9 => ?_)
      · have h := h.1 c9
        show Vw _ _ 68 _ _ _
        refine V_aload_n 0 dX8_behind_68 rfl ?_
        refine V_getf (v := .ref 75) gf_X8_67 dX8_behind_69 sh_a0 rfl ?_
        refine V_getf (v := .int (mem8 75 8)) gf_X8_192 dX8_behind_72 sh_a75 rfl ?_
        exact V_iret dX8_behind_75 rfl h
      · have h := h.2 c9
        refine And.intro (fun c10 => ?_) (fun c10 => ?_)
        · have h := h.1 c10
          show Vw _ _ 76 _ _ _
          refine V_aload_n 0 dX8_behind_76 rfl ?_
          refine V_getf (v := .ref 75) gf_X8_67 dX8_behind_77 sh_a0 rfl ?_
          refine V_getf (v := .int (mem8 75 3)) gf_X8_124 dX8_behind_80 sh_a75 rfl ?_
          exact V_iret dX8_behind_83 rfl h
        · have h := h.2 c10
          refine And.intro (fun c11 => ?_) (fun c11 => ?_)
          · have h := h.1 c11
            show Vw _ _ 84 _ _ _
            refine V_aload_n 0 dX8_behind_84 rfl ?_
            refine V_getf (v := .ref 75) gf_X8_67 dX8_behind_85 sh_a0 rfl ?_
            refine V_getf (v := .int (mem8 75 5)) gf_X8_130 dX8_behind_88 sh_a75 rfl ?_
            exact V_iret dX8_behind_91 rfl h
          · have h := h.2 c11
            show Vw _ _ 92 _ _ _
            refine V_aload_n 0 dX8_behind_92 rfl ?_
            refine V_getf (v := .ref 75) gf_X8_67 dX8_behind_93 sh_a0 rfl ?_
            refine V_getf (v := .ref 76) gf_X8_82 dX8_behind_96 sh_a75 rfl ?_
            refine V_cVi [] mv_X3_allFoals w_343 dX8_behind_99 wf_rok_m sh_a76 rfl (by decide) rfl rfl (Nat.le_of_ble_eq_true rfl) h ?_
            intro r13 mem12 h
            exact V_iret dX8_behind_102 rfl h
    · have h := h.2 c6
      refine V_ldc w_275 dX8_behind_20 ?_
      exact V_iret dX8_behind_22 rfl h
set_option maxRecDepth 20000 in
theorem b_X8_lasts_0 {d : Nat} {P : Int32 → wf_Mem → Prop} (mem : wf_Mem) 
    (h : (Cv mX0_takeFrom d [.ref 75, .ref 41] mem (fun mem1 => Vw (Ni (d + 1) P) mX8_lasts 13 [(0, .ref 0), (1, .int 1)] [] mem1))) :
    Vw (Ni (d + 1) P) mX8_lasts 0 [(0, .ref 0)] [] mem := by
  refine V_aload_n 0 dX8_lasts_0 rfl ?_
  refine V_getf (v := .ref 75) gf_X8_67 dX8_lasts_1 sh_a0 rfl ?_
  refine V_aload_n 0 dX8_lasts_4 rfl ?_
  refine V_getf (v := .ref 41) gf_X8_60 dX8_lasts_5 sh_a0 rfl ?_
  refine V_cVv [.ref 41] mv_X0_takeFrom w_339 dX8_lasts_8 wf_rok_m sh_a75 rfl (by decide) rfl rfl (Nat.le_of_ble_eq_true rfl) h ?_
  intro mem1 h
  refine V_iconst (v := 1) dX8_lasts_11 rfl ?_
  refine V_istore_n (lv' := [(0, .ref 0), (1, .int 1)]) dX8_lasts_12 (by decide) rfl rfl ?_
  exact h
set_option maxRecDepth 20000 in
theorem b_X8_lasts_13 {d : Nat} {P : Int32 → wf_Mem → Prop} (mem : wf_Mem) (x1 : Int32)
    (h : ((300 < x1 → P (-1000000005) mem) ∧ (¬ 300 < x1 → (Ci mX0_burn d [.ref 75] mem (fun r3 mem2 => ((r3 = 0 → Vw (Ni (d + 1) P) mX8_lasts 13 [(0, .ref 0), (1, .int (x1 + 1))] [] mem2) ∧ (¬ r3 = 0 → P x1 mem2))))))) :
    Vw (Ni (d + 1) P) mX8_lasts 13 [(0, .ref 0), (1, .int x1)] [] mem := by
  refine V_iload_n 1 dX8_lasts_13 rfl ?_
  refine V_sipush (v := 300) dX8_lasts_14 rfl ?_
  refine V_icmp_gt (tgt := 38) dX8_lasts_17 rfl ⟨fun c1 => ?_, fun c1 => ?_⟩
  · have h := h.1 c1
    refine V_ldc w_344 dX8_lasts_38 ?_
    exact V_iret dX8_lasts_40 rfl h
  · have h := h.2 c1
    refine V_aload_n 0 dX8_lasts_20 rfl ?_
    refine V_getf (v := .ref 75) gf_X8_67 dX8_lasts_21 sh_a0 rfl ?_
    refine V_cVi [] mv_X0_burn w_345 dX8_lasts_24 wf_rok_m sh_a75 rfl (by decide) rfl rfl (Nat.le_of_ble_eq_true rfl) h ?_
    intro r3 mem2 h
    refine V_if_eq (tgt := 32) dX8_lasts_27 rfl ⟨fun c4 => ?_, fun c4 => ?_⟩
    · have h := h.1 c4
      refine V_iinc (v := (x1 + 1)) (lv' := [(0, .ref 0), (1, .int (x1 + 1))]) 1 dX8_lasts_32 rfl rfl (by decide) rfl rfl ?_
      refine V_goto (tgt := 13) dX8_lasts_35 rfl ?_
      exact h
    · have h := h.2 c4
      refine V_iload_n 1 dX8_lasts_30 rfl ?_
      exact V_iret dX8_lasts_31 rfl h
set_option maxRecDepth 20000 in
theorem b_X8_loss_0 {d : Nat} {P : Int32 → wf_Mem → Prop} (mem : wf_Mem) 
    (h : (Cv mX0_takeFrom d [.ref 75, .ref 41] mem (fun mem1 => Vw (Ni (d + 1) P) mX8_loss 13 [(0, .ref 0), (1, .int 1)] [] mem1))) :
    Vw (Ni (d + 1) P) mX8_loss 0 [(0, .ref 0)] [] mem := by
  refine V_aload_n 0 dX8_loss_0 rfl ?_
  refine V_getf (v := .ref 75) gf_X8_67 dX8_loss_1 sh_a0 rfl ?_
  refine V_aload_n 0 dX8_loss_4 rfl ?_
  refine V_getf (v := .ref 41) gf_X8_60 dX8_loss_5 sh_a0 rfl ?_
  refine V_cVv [.ref 41] mv_X0_takeFrom w_339 dX8_loss_8 wf_rok_m sh_a75 rfl (by decide) rfl rfl (Nat.le_of_ble_eq_true rfl) h ?_
  intro mem1 h
  refine V_iconst (v := 1) dX8_loss_11 rfl ?_
  refine V_istore_n (lv' := [(0, .ref 0), (1, .int 1)]) dX8_loss_12 (by decide) rfl rfl ?_
  exact h
set_option maxRecDepth 20000 in
theorem b_X8_loss_13 {d : Nat} {P : Int32 → wf_Mem → Prop} (mem : wf_Mem) (x1 : Int32)
    (h : ((300 < x1 → P (-1000000005) mem) ∧ (¬ 300 < x1 → (Cv mX0_pass d [.ref 75, .int 1] mem (fun mem2 => (((mem2 75 8) ≤ (mem2 41 8) → Vw (Ni (d + 1) P) mX8_loss 13 [(0, .ref 0), (1, .int (x1 + 1))] [] mem2) ∧ (¬ (mem2 75 8) ≤ (mem2 41 8) → P x1 mem2))))))) :
    Vw (Ni (d + 1) P) mX8_loss 13 [(0, .ref 0), (1, .int x1)] [] mem := by
  refine V_iload_n 1 dX8_loss_13 rfl ?_
  refine V_sipush (v := 300) dX8_loss_14 rfl ?_
  refine V_icmp_gt (tgt := 53) dX8_loss_17 rfl ⟨fun c1 => ?_, fun c1 => ?_⟩
  · have h := h.1 c1
    refine V_ldc w_344 dX8_loss_53 ?_
    exact V_iret dX8_loss_55 rfl h
  · have h := h.2 c1
    refine V_aload_n 0 dX8_loss_20 rfl ?_
    refine V_getf (v := .ref 75) gf_X8_67 dX8_loss_21 sh_a0 rfl ?_
    refine V_iconst (v := 1) dX8_loss_24 rfl ?_
    refine V_cVv [.int 1] mv_X0_pass w_331 dX8_loss_25 wf_rok_m sh_a75 rfl (by decide) rfl rfl (Nat.le_of_ble_eq_true rfl) h ?_
    intro mem2 h
    refine V_aload_n 0 dX8_loss_28 rfl ?_
    refine V_getf (v := .ref 75) gf_X8_67 dX8_loss_29 sh_a0 rfl ?_
    refine V_getf (v := .int (mem2 75 8)) gf_X8_192 dX8_loss_32 sh_a75 rfl ?_
    refine V_aload_n 0 dX8_loss_35 rfl ?_
    refine V_getf (v := .ref 41) gf_X8_60 dX8_loss_36 sh_a0 rfl ?_
    refine V_getf (v := .int (mem2 41 8)) gf_X8_192 dX8_loss_39 sh_a41 rfl ?_
    refine V_icmp_le (tgt := 47) dX8_loss_42 rfl ⟨fun c3 => ?_, fun c3 => ?_⟩
    · have h := h.1 c3
      refine V_iinc (v := (x1 + 1)) (lv' := [(0, .ref 0), (1, .int (x1 + 1))]) 1 dX8_loss_47 rfl rfl (by decide) rfl rfl ?_
      refine V_goto (tgt := 13) dX8_loss_50 rfl ?_
      exact h
    · have h := h.2 c3
      refine V_iload_n 1 dX8_loss_45 rfl ?_
      exact V_iret dX8_loss_46 rfl h
set_option maxRecDepth 20000 in
theorem b_X8_dark_0 {d : Nat} {P : Int32 → wf_Mem → Prop} (mem : wf_Mem) (x1 : Int32)
    (h : (Ci mX8_within d [.int x1, .int 0, .int 100] mem (fun r2 mem1 => ((¬ r2 = 0 → (Cv mX0_measure d [.ref 41] mem1 (fun mem4 => Vw (Ni (d + 1) P) mX8_dark 24 [(0, .ref 0), (1, .int x1), (2, .int 0), (3, .int 0)] [] mem4))) ∧ (r2 = 0 → P (-1000000001) mem1))))) :
    Vw (Ni (d + 1) P) mX8_dark 0 [(0, .ref 0), (1, .int x1)] [] mem := by
  refine V_iload_n 1 dX8_dark_0 rfl ?_
  refine V_iconst (v := 0) dX8_dark_1 rfl ?_
  refine V_bipush (v := 100) dX8_dark_2 rfl ?_
  refine V_cSi [.int x1, .int 0, .int 100] ms_X8_within w_268 dX8_dark_4 wf_rok_m rfl rfl (Nat.le_of_ble_eq_true rfl) h ?_
  intro r2 mem1 h
  refine V_if_ne (tgt := 13) dX8_dark_7 rfl ⟨fun c3 => ?_, fun c3 => ?_⟩
  · have h := h.1 c3
    refine V_aload_n 0 dX8_dark_13 rfl ?_
    refine V_getf (v := .ref 41) gf_X8_60 dX8_dark_14 sh_a0 rfl ?_
    refine V_cVv [] mv_X0_measure w_277 dX8_dark_17 wf_rok_m sh_a41 rfl (by decide) rfl rfl (Nat.le_of_ble_eq_true rfl) h ?_
    intro mem4 h
    refine V_iconst (v := 0) dX8_dark_20 rfl ?_
    refine V_istore_n (lv' := [(0, .ref 0), (1, .int x1), (2, .int 0)]) dX8_dark_21 (by decide) rfl rfl ?_
    refine V_iconst (v := 0) dX8_dark_22 rfl ?_
    refine V_istore_n (lv' := [(0, .ref 0), (1, .int x1), (2, .int 0), (3, .int 0)]) dX8_dark_23 (by decide) rfl rfl ?_
    exact h
  · have h := h.2 c3
    refine V_ldc w_275 dX8_dark_10 ?_
    exact V_iret dX8_dark_12 rfl h
set_option maxRecDepth 20000 in
theorem b_X8_dark_24 {d : Nat} {P : Int32 → wf_Mem → Prop} (mem : wf_Mem) (x1 : Int32) (x2 : Int32) (x3 : Int32)
    (h : (((mem 42 0) ≤ x3 → P x2 mem) ∧ (¬ (mem 42 0) ≤ x3 → (vp_in x3 12 ∧ ((x1 ≤ (mem 48 x3.toNatClampNeg) → Vw (Ni (d + 1) P) mX8_dark 24 [(0, .ref 0), (1, .int x1), (2, .int x2), (3, .int (x3 + 1))] [] mem) ∧ (¬ x1 ≤ (mem 48 x3.toNatClampNeg) → (∀ x2_3 : Int32, x2_3 = (x2 ||| ((1 : Int32) <<< (x3 &&& 31))) → Vw (Ni (d + 1) P) mX8_dark 24 [(0, .ref 0), (1, .int x1), (2, .int x2_3), (3, .int (x3 + 1))] [] mem))))))) :
    Vw (Ni (d + 1) P) mX8_dark 24 [(0, .ref 0), (1, .int x1), (2, .int x2), (3, .int x3)] [] mem := by
  refine V_iload_n 3 dX8_dark_24 rfl ?_
  refine V_aload_n 0 dX8_dark_25 rfl ?_
  refine V_getf (v := .ref 41) gf_X8_60 dX8_dark_26 sh_a0 rfl ?_
  refine V_getf (v := .ref 42) gf_X8_82 dX8_dark_29 sh_a41 rfl ?_
  refine V_getf (v := .int (mem 42 0)) gf_X8_117 dX8_dark_32 sh_a42 rfl ?_
  refine V_icmp_ge (tgt := 63) dX8_dark_35 rfl ⟨fun c1 => ?_, fun c1 => ?_⟩
  · have h := h.1 c1
    refine V_iload_n 2 dX8_dark_63 rfl ?_
    exact V_iret dX8_dark_64 rfl h
  · have h := h.2 c1
    refine V_aload_n 0 dX8_dark_38 rfl ?_
    refine V_getf (v := .ref 41) gf_X8_60 dX8_dark_39 sh_a0 rfl ?_
    refine V_getf (v := .ref 48) gf_X8_103 dX8_dark_42 sh_a41 rfl ?_
    refine V_iload_n 3 dX8_dark_45 rfl ?_
    refine V_iald dX8_dark_46 sh_a48 ⟨h.1, ?_⟩
    have h := h.2
    refine V_iload_n 1 dX8_dark_47 rfl ?_
    refine V_icmp_ge (tgt := 57) dX8_dark_48 rfl ⟨fun c2 => ?_, fun c2 => ?_⟩
    · have h := h.1 c2
      refine V_iinc (v := (x3 + 1)) (lv' := [(0, .ref 0), (1, .int x1), (2, .int x2), (3, .int (x3 + 1))]) 3 dX8_dark_57 rfl rfl (by decide) rfl rfl ?_
      refine V_goto (tgt := 24) dX8_dark_60 rfl ?_
      exact h
    · have h := h.2 c2
      refine V_iload_n 2 dX8_dark_51 rfl ?_
      refine V_iconst (v := 1) dX8_dark_52 rfl ?_
      refine V_iload_n 3 dX8_dark_53 rfl ?_
      refine V_ishl dX8_dark_54 ?_
      refine V_ior dX8_dark_55 ?_
      refine V_topi (fun x2_3 ex2_3 => ?_)
      have h := h x2_3 ex2_3
      refine V_istore_n (lv' := [(0, .ref 0), (1, .int x1), (2, .int x2_3), (3, .int x3)]) dX8_dark_56 (by decide) rfl rfl ?_
      refine V_iinc (v := (x3 + 1)) (lv' := [(0, .ref 0), (1, .int x1), (2, .int x2_3), (3, .int (x3 + 1))]) 3 dX8_dark_57 rfl rfl (by decide) rfl rfl ?_
      refine V_goto (tgt := 24) dX8_dark_60 rfl ?_
      exact h
set_option maxRecDepth 20000 in
theorem b_X8_fires_0 {d : Nat} {P : Int32 → wf_Mem → Prop} (mem : wf_Mem) (x1 : Int32) (x2 : Int32)
    (h : (Ci mX8_within d [.int x1, .int 0, .int 18] mem (fun r2 mem1 => ((r2 = 0 → P (-1000000001) mem1) ∧ (¬ r2 = 0 → (Ci mX8_within d [.int x2, .int 0, .int 2] mem1 (fun r5 mem4 => ((¬ r5 = 0 → (Ci mX8_within d [.int (mem4 42 0), .int 1, .int 6] mem4 (fun r8 mem7 => ((¬ r8 = 0 → (Cv mX0_takeFrom d [.ref 75, .ref 41] mem7 (fun mem10 => (Cv mX1_runOn d [.ref 1, .ref 75, .int x1] mem10 (fun mem11 => ((x2 = 0 → P (mem11 1 1) mem11) ∧ (¬ x2 = 0 → ((x2 = 1 → P (mem11 1 2) mem11) ∧ (¬ x2 = 1 → P (mem11 1 3) mem11))))))))) ∧ (r8 = 0 → P (-1000000005) mem7))))) ∧ (r5 = 0 → P (-1000000001) mem4))))))))) :
    Vw (Ni (d + 1) P) mX8_fires 0 [(0, .ref 0), (1, .int x1), (2, .int x2)] [] mem := by
  refine V_iload_n 1 dX8_fires_0 rfl ?_
  refine V_iconst (v := 0) dX8_fires_1 rfl ?_
  refine V_bipush (v := 18) dX8_fires_2 rfl ?_
  refine V_cSi [.int x1, .int 0, .int 18] ms_X8_within w_268 dX8_fires_4 wf_rok_m rfl rfl (Nat.le_of_ble_eq_true rfl) h ?_
  intro r2 mem1 h
  refine V_if_eq (tgt := 19) dX8_fires_7 rfl ⟨fun c3 => ?_, fun c3 => ?_⟩
  · have h := h.1 c3
    refine V_ldc w_275 dX8_fires_19 ?_
    exact V_iret dX8_fires_21 rfl h
  · have h := h.2 c3
    refine V_iload_n 2 dX8_fires_10 rfl ?_
    refine V_iconst (v := 0) dX8_fires_11 rfl ?_
    refine V_iconst (v := 2) dX8_fires_12 rfl ?_
    refine V_cSi [.int x2, .int 0, .int 2] ms_X8_within w_268 dX8_fires_13 wf_rok_m rfl rfl (Nat.le_of_ble_eq_true rfl) h ?_
    intro r5 mem4 h
    refine V_if_ne (tgt := 22) dX8_fires_16 rfl ⟨fun c6 => ?_, fun c6 => ?_⟩
    · have h := h.1 c6
      refine V_aload_n 0 dX8_fires_22 rfl ?_
      refine V_getf (v := .ref 41) gf_X8_60 dX8_fires_23 sh_a0 rfl ?_
      refine V_getf (v := .ref 42) gf_X8_82 dX8_fires_26 sh_a41 rfl ?_
      refine V_getf (v := .int (mem4 42 0)) gf_X8_117 dX8_fires_29 sh_a42 rfl ?_
      refine V_iconst (v := 1) dX8_fires_32 rfl ?_
      refine V_bipush (v := 6) dX8_fires_33 rfl ?_
      refine V_cSi [.int (mem4 42 0), .int 1, .int 6] ms_X8_within w_268 dX8_fires_35 wf_rok_m rfl rfl (Nat.le_of_ble_eq_true rfl) h ?_
      intro r8 mem7 h
      refine V_if_ne (tgt := 44) dX8_fires_38 rfl ⟨fun c9 => ?_, fun c9 => ?_⟩
      · have h := h.1 c9
        refine V_aload_n 0 dX8_fires_44 rfl ?_
        refine V_getf (v := .ref 75) gf_X8_67 dX8_fires_45 sh_a0 rfl ?_
        refine V_aload_n 0 dX8_fires_48 rfl ?_
        refine V_getf (v := .ref 41) gf_X8_60 dX8_fires_49 sh_a0 rfl ?_
        refine V_cVv [.ref 41] mv_X0_takeFrom w_339 dX8_fires_52 wf_rok_m sh_a75 rfl (by decide) rfl rfl (Nat.le_of_ble_eq_true rfl) h ?_
        intro mem10 h
        refine V_aload_n 0 dX8_fires_55 rfl ?_
        refine V_getf (v := .ref 1) gf_X8_10 dX8_fires_56 sh_a0 rfl ?_
        refine V_aload_n 0 dX8_fires_59 rfl ?_
        refine V_getf (v := .ref 75) gf_X8_67 dX8_fires_60 sh_a0 rfl ?_
        refine V_iload_n 1 dX8_fires_63 rfl ?_
        refine V_cVv [.ref 75, .int x1] mv_X1_runOn w_350 dX8_fires_64 wf_rok_m sh_a1 rfl (by decide) rfl rfl (Nat.le_of_ble_eq_true rfl) h ?_
        intro mem11 h
        refine V_iload_n 2 dX8_fires_67 rfl ?_
        refine V_lswc [(0, 96), (1, 104)] 112 dX8_fires_68 (by decide +kernel) (by decide +kernel) ?_
        refine And.intro (fun c12 => ?_) (fun c12 => ?_)
        · have h := h.1 c12
          show Vw _ _ 96 _ _ _
          refine V_aload_n 0 dX8_fires_96 rfl ?_
          refine V_getf (v := .ref 1) gf_X8_10 dX8_fires_97 sh_a0 rfl ?_
          refine V_getf (v := .int (mem11 1 1)) gf_X8_227 dX8_fires_100 sh_a1 rfl ?_
          exact V_iret dX8_fires_103 rfl h
        · have h := h.2 c12
          refine And.intro (fun c13 => ?_) (fun c13 => ?_)
          · have h := h.1 c13
            show Vw _ _ 104 _ _ _
            refine V_aload_n 0 dX8_fires_104 rfl ?_
            refine V_getf (v := .ref 1) gf_X8_10 dX8_fires_105 sh_a0 rfl ?_
            refine V_getf (v := .int (mem11 1 2)) gf_X8_229 dX8_fires_108 sh_a1 rfl ?_
            exact V_iret dX8_fires_111 rfl h
          · have h := h.2 c13
            show Vw _ _ 112 _ _ _
            refine V_aload_n 0 dX8_fires_112 rfl ?_
            refine V_getf (v := .ref 1) gf_X8_10 dX8_fires_113 sh_a0 rfl ?_
            refine V_getf (v := .int (mem11 1 3)) gf_X8_232 dX8_fires_116 sh_a1 rfl ?_
            exact V_iret dX8_fires_119 rfl h
      · have h := h.2 c9
        refine V_ldc w_344 dX8_fires_41 ?_
        exact V_iret dX8_fires_43 rfl h
    · have h := h.2 c6
      refine V_ldc w_275 dX8_fires_19 ?_
      exact V_iret dX8_fires_21 rfl h
set_option maxRecDepth 20000 in
theorem b_X8_watch_0 {d : Nat} {P : Int32 → wf_Mem → Prop} (mem : wf_Mem) (x1 : Int32) (x2 : Int32)
    (h : (Ci mX8_within d [.int x1, .int 1, .int 60] mem (fun r2 mem1 => ((r2 = 0 → P (-1000000001) mem1) ∧ (¬ r2 = 0 → (Ci mX8_within d [.int x2, .int 0, .int 1] mem1 (fun r5 mem4 => ((¬ r5 = 0 → Vw (Ni (d + 1) P) mX8_watch 32 [(0, .ref 0), (1, .int x1), (2, .int x2), (3, .int (-1000000005)), (4, .int (-1000000005)), (5, .int 0)] [] mem4) ∧ (r5 = 0 → P (-1000000001) mem4))))))))) :
    Vw (Ni (d + 1) P) mX8_watch 0 [(0, .ref 0), (1, .int x1), (2, .int x2)] [] mem := by
  refine V_iload_n 1 dX8_watch_0 rfl ?_
  refine V_iconst (v := 1) dX8_watch_1 rfl ?_
  refine V_bipush (v := 60) dX8_watch_2 rfl ?_
  refine V_cSi [.int x1, .int 1, .int 60] ms_X8_within w_268 dX8_watch_4 wf_rok_m rfl rfl (Nat.le_of_ble_eq_true rfl) h ?_
  intro r2 mem1 h
  refine V_if_eq (tgt := 19) dX8_watch_7 rfl ⟨fun c3 => ?_, fun c3 => ?_⟩
  · have h := h.1 c3
    refine V_ldc w_275 dX8_watch_19 ?_
    exact V_iret dX8_watch_21 rfl h
  · have h := h.2 c3
    refine V_iload_n 2 dX8_watch_10 rfl ?_
    refine V_iconst (v := 0) dX8_watch_11 rfl ?_
    refine V_iconst (v := 1) dX8_watch_12 rfl ?_
    refine V_cSi [.int x2, .int 0, .int 1] ms_X8_within w_268 dX8_watch_13 wf_rok_m rfl rfl (Nat.le_of_ble_eq_true rfl) h ?_
    intro r5 mem4 h
    refine V_if_ne (tgt := 22) dX8_watch_16 rfl ⟨fun c6 => ?_, fun c6 => ?_⟩
    · have h := h.1 c6
      refine V_ldc w_344 dX8_watch_22 ?_
      refine V_istore_n (lv' := [(0, .ref 0), (1, .int x1), (2, .int x2), (3, .int (-1000000005))]) dX8_watch_24 (by decide) rfl rfl ?_
      refine V_ldc w_344 dX8_watch_25 ?_
      refine V_istore (lv' := [(0, .ref 0), (1, .int x1), (2, .int x2), (3, .int (-1000000005)), (4, .int (-1000000005))]) dX8_watch_27 (by decide) rfl rfl ?_
      refine V_iconst (v := 0) dX8_watch_29 rfl ?_
      refine V_istore (lv' := [(0, .ref 0), (1, .int x1), (2, .int x2), (3, .int (-1000000005)), (4, .int (-1000000005)), (5, .int 0)]) dX8_watch_30 (by decide) rfl rfl ?_
      exact h
    · have h := h.2 c6
      refine V_ldc w_275 dX8_watch_19 ?_
      exact V_iret dX8_watch_21 rfl h
set_option maxRecDepth 20000 in
theorem b_X8_watch_32 {d : Nat} {P : Int32 → wf_Mem → Prop} (mem : wf_Mem) (x1 : Int32) (x2 : Int32) (x3 : Int32) (x4 : Int32) (x5 : Int32)
    (h : (((mem 41 2) ≤ x5 → ((¬ x2 = 0 → P x4 mem) ∧ (x2 = 0 → P x3 mem))) ∧ (¬ (mem 41 2) ≤ x5 → (Cv mX0_takeFrom d [.ref 75, .ref 41] mem (fun mem3 => (Cv mX0_wakesOnly d [.ref 75, .int x5] mem3 (fun mem4 => (Cv mX0_pass d [.ref 75, .int x1] mem4 (fun mem5 => ((x3 = (-1000000005) → (∀ x4_7 : Int32, x4_7 = (mem5 75 8) → Vw (Ni (d + 1) P) mX8_watch 32 [(0, .ref 0), (1, .int x1), (2, .int x2), (3, .int x5), (4, .int x4_7), (5, .int (x5 + 1))] [] mem5)) ∧ (¬ x3 = (-1000000005) → ((x4 ≤ (mem5 75 8) → Vw (Ni (d + 1) P) mX8_watch 32 [(0, .ref 0), (1, .int x1), (2, .int x2), (3, .int x3), (4, .int x4), (5, .int (x5 + 1))] [] mem5) ∧ (¬ x4 ≤ (mem5 75 8) → (∀ x4_9 : Int32, x4_9 = (mem5 75 8) → Vw (Ni (d + 1) P) mX8_watch 32 [(0, .ref 0), (1, .int x1), (2, .int x2), (3, .int x5), (4, .int x4_9), (5, .int (x5 + 1))] [] mem5)))))))))))))) :
    Vw (Ni (d + 1) P) mX8_watch 32 [(0, .ref 0), (1, .int x1), (2, .int x2), (3, .int x3), (4, .int x4), (5, .int x5)] [] mem := by
  refine V_iload 5 dX8_watch_32 rfl ?_
  refine V_aload_n 0 dX8_watch_34 rfl ?_
  refine V_getf (v := .ref 41) gf_X8_60 dX8_watch_35 sh_a0 rfl ?_
  refine V_getf (v := .int (mem 41 2)) gf_X8_180 dX8_watch_38 sh_a41 rfl ?_
  refine V_icmp_ge (tgt := 108) dX8_watch_41 rfl ⟨fun c1 => ?_, fun c1 => ?_⟩
  · have h := h.1 c1
    refine V_iload_n 2 dX8_watch_108 rfl ?_
    refine V_if_ne (tgt := 116) dX8_watch_109 rfl ⟨fun c2 => ?_, fun c2 => ?_⟩
    · have h := h.1 c2
      refine V_iload 4 dX8_watch_116 rfl ?_
      exact V_iret dX8_watch_118 rfl h
    · have h := h.2 c2
      refine V_iload_n 3 dX8_watch_112 rfl ?_
      refine V_goto (tgt := 118) dX8_watch_113 rfl ?_
      exact V_iret dX8_watch_118 rfl h
  · have h := h.2 c1
    refine V_aload_n 0 dX8_watch_44 rfl ?_
    refine V_getf (v := .ref 75) gf_X8_67 dX8_watch_45 sh_a0 rfl ?_
    refine V_aload_n 0 dX8_watch_48 rfl ?_
    refine V_getf (v := .ref 41) gf_X8_60 dX8_watch_49 sh_a0 rfl ?_
    refine V_cVv [.ref 41] mv_X0_takeFrom w_339 dX8_watch_52 wf_rok_m sh_a75 rfl (by decide) rfl rfl (Nat.le_of_ble_eq_true rfl) h ?_
    intro mem3 h
    refine V_aload_n 0 dX8_watch_55 rfl ?_
    refine V_getf (v := .ref 75) gf_X8_67 dX8_watch_56 sh_a0 rfl ?_
    refine V_iload 5 dX8_watch_59 rfl ?_
    refine V_cVv [.int x5] mv_X0_wakesOnly w_357 dX8_watch_61 wf_rok_m sh_a75 rfl (by decide) rfl rfl (Nat.le_of_ble_eq_true rfl) h ?_
    intro mem4 h
    refine V_aload_n 0 dX8_watch_64 rfl ?_
    refine V_getf (v := .ref 75) gf_X8_67 dX8_watch_65 sh_a0 rfl ?_
    refine V_iload_n 1 dX8_watch_68 rfl ?_
    refine V_cVv [.int x1] mv_X0_pass w_331 dX8_watch_69 wf_rok_m sh_a75 rfl (by decide) rfl rfl (Nat.le_of_ble_eq_true rfl) h ?_
    intro mem5 h
    refine V_iload_n 3 dX8_watch_72 rfl ?_
    refine V_ldc w_344 dX8_watch_73 ?_
    refine V_icmp_eq (tgt := 90) dX8_watch_75 rfl ⟨fun c6 => ?_, fun c6 => ?_⟩
    · have h := h.1 c6
      refine V_iload 5 dX8_watch_90 rfl ?_
      refine V_istore_n (lv' := [(0, .ref 0), (1, .int x1), (2, .int x2), (3, .int x5), (4, .int x4), (5, .int x5)]) dX8_watch_92 (by decide) rfl rfl ?_
      refine V_aload_n 0 dX8_watch_93 rfl ?_
      refine V_getf (v := .ref 75) gf_X8_67 dX8_watch_94 sh_a0 rfl ?_
      refine V_getf (v := .int (mem5 75 8)) gf_X8_192 dX8_watch_97 sh_a75 rfl ?_
      refine V_topi (fun x4_7 ex4_7 => ?_)
      have h := h x4_7 ex4_7
      refine V_istore (lv' := [(0, .ref 0), (1, .int x1), (2, .int x2), (3, .int x5), (4, .int x4_7), (5, .int x5)]) dX8_watch_100 (by decide) rfl rfl ?_
      refine V_iinc (v := (x5 + 1)) (lv' := [(0, .ref 0), (1, .int x1), (2, .int x2), (3, .int x5), (4, .int x4_7), (5, .int (x5 + 1))]) 5 dX8_watch_102 rfl rfl (by decide) rfl rfl ?_
      refine V_goto (tgt := 32) dX8_watch_105 rfl ?_
      exact h
    · have h := h.2 c6
      refine V_aload_n 0 dX8_watch_78 rfl ?_
      refine V_getf (v := .ref 75) gf_X8_67 dX8_watch_79 sh_a0 rfl ?_
      refine V_getf (v := .int (mem5 75 8)) gf_X8_192 dX8_watch_82 sh_a75 rfl ?_
      refine V_iload 4 dX8_watch_85 rfl ?_
      refine V_icmp_ge (tgt := 102) dX8_watch_87 rfl ⟨fun c8 => ?_, fun c8 => ?_⟩
      · have h := h.1 c8
        refine V_iinc (v := (x5 + 1)) (lv' := [(0, .ref 0), (1, .int x1), (2, .int x2), (3, .int x3), (4, .int x4), (5, .int (x5 + 1))]) 5 dX8_watch_102 rfl rfl (by decide) rfl rfl ?_
        refine V_goto (tgt := 32) dX8_watch_105 rfl ?_
        exact h
      · have h := h.2 c8
        refine V_iload 5 dX8_watch_90 rfl ?_
        refine V_istore_n (lv' := [(0, .ref 0), (1, .int x1), (2, .int x2), (3, .int x5), (4, .int x4), (5, .int x5)]) dX8_watch_92 (by decide) rfl rfl ?_
        refine V_aload_n 0 dX8_watch_93 rfl ?_
        refine V_getf (v := .ref 75) gf_X8_67 dX8_watch_94 sh_a0 rfl ?_
        refine V_getf (v := .int (mem5 75 8)) gf_X8_192 dX8_watch_97 sh_a75 rfl ?_
        refine V_topi (fun x4_9 ex4_9 => ?_)
        have h := h x4_9 ex4_9
        refine V_istore (lv' := [(0, .ref 0), (1, .int x1), (2, .int x2), (3, .int x5), (4, .int x4_9), (5, .int x5)]) dX8_watch_100 (by decide) rfl rfl ?_
        refine V_iinc (v := (x5 + 1)) (lv' := [(0, .ref 0), (1, .int x1), (2, .int x2), (3, .int x5), (4, .int x4_9), (5, .int (x5 + 1))]) 5 dX8_watch_102 rfl rfl (by decide) rfl rfl ?_
        refine V_goto (tgt := 32) dX8_watch_105 rfl ?_
        exact h
set_option maxRecDepth 20000 in
theorem b_X8_place_0 {d : Nat} {P : Int32 → wf_Mem → Prop} (mem : wf_Mem) (x1 : Int32) (x2 : Int32)
    (h : (Ci mX0_hasWatcher d [.ref 41, .int x1] mem (fun r2 mem1 => ((r2 = 0 → P (-1000000001) mem1) ∧ (¬ r2 = 0 → (Ci mX8_within d [.int x2, .int 1, .int 60] mem1 (fun r5 mem4 => ((¬ r5 = 0 → Vw (Ni (d + 1) P) mX8_place 33 [(0, .ref 0), (1, .int x1), (2, .int x2), (3, .int (-1000000005)), (4, .int 0), (5, .int 0)] [] mem4) ∧ (r5 = 0 → P (-1000000001) mem4))))))))) :
    Vw (Ni (d + 1) P) mX8_place 0 [(0, .ref 0), (1, .int x1), (2, .int x2)] [] mem := by
  refine V_aload_n 0 dX8_place_0 rfl ?_
  refine V_getf (v := .ref 41) gf_X8_60 dX8_place_1 sh_a0 rfl ?_
  refine V_iload_n 1 dX8_place_4 rfl ?_
  refine V_cVi [.int x1] mv_X0_hasWatcher w_299 dX8_place_5 wf_rok_m sh_a41 rfl (by decide) rfl rfl (Nat.le_of_ble_eq_true rfl) h ?_
  intro r2 mem1 h
  refine V_if_eq (tgt := 21) dX8_place_8 rfl ⟨fun c3 => ?_, fun c3 => ?_⟩
  · have h := h.1 c3
    refine V_ldc w_275 dX8_place_21 ?_
    exact V_iret dX8_place_23 rfl h
  · have h := h.2 c3
    refine V_iload_n 2 dX8_place_11 rfl ?_
    refine V_iconst (v := 1) dX8_place_12 rfl ?_
    refine V_bipush (v := 60) dX8_place_13 rfl ?_
    refine V_cSi [.int x2, .int 1, .int 60] ms_X8_within w_268 dX8_place_15 wf_rok_m rfl rfl (Nat.le_of_ble_eq_true rfl) h ?_
    intro r5 mem4 h
    refine V_if_ne (tgt := 24) dX8_place_18 rfl ⟨fun c6 => ?_, fun c6 => ?_⟩
    · have h := h.1 c6
      refine V_ldc w_344 dX8_place_24 ?_
      refine V_istore_n (lv' := [(0, .ref 0), (1, .int x1), (2, .int x2), (3, .int (-1000000005))]) dX8_place_26 (by decide) rfl rfl ?_
      refine V_iconst (v := 0) dX8_place_27 rfl ?_
      refine V_istore (lv' := [(0, .ref 0), (1, .int x1), (2, .int x2), (3, .int (-1000000005)), (4, .int 0)]) dX8_place_28 (by decide) rfl rfl ?_
      refine V_iconst (v := 0) dX8_place_30 rfl ?_
      refine V_istore (lv' := [(0, .ref 0), (1, .int x1), (2, .int x2), (3, .int (-1000000005)), (4, .int 0), (5, .int 0)]) dX8_place_31 (by decide) rfl rfl ?_
      exact h
    · have h := h.2 c6
      refine V_ldc w_275 dX8_place_21 ?_
      exact V_iret dX8_place_23 rfl h
set_option maxRecDepth 20000 in
theorem b_X8_place_33 {d : Nat} {P : Int32 → wf_Mem → Prop} (mem : wf_Mem) (x1 : Int32) (x2 : Int32) (x3 : Int32) (x4 : Int32) (x5 : Int32)
    (h : (((mem 42 0) ≤ x5 → P x3 mem) ∧ (¬ (mem 42 0) ≤ x5 → (Cv mX0_takeFrom d [.ref 75, .ref 41] mem (fun mem2 => (vp_in x1 8 ∧ (∀ mem4 : wf_Mem, mem4 = wf_ms mem2 (80 + 4 + x1.toNatClampNeg) 1 x5 → (vp_in x1 8 ∧ (∀ mem6 : wf_Mem, mem6 = wf_ms mem4 (80 + 4 + x1.toNatClampNeg) 4 1 → (Cv mX0_pass d [.ref 75, .int x2] mem6 (fun mem7 => ((x3 = (-1000000005) → (∀ x4_9 : Int32, x4_9 = (mem7 75 8) → Vw (Ni (d + 1) P) mX8_place 33 [(0, .ref 0), (1, .int x1), (2, .int x2), (3, .int x5), (4, .int x4_9), (5, .int (x5 + 1))] [] mem7)) ∧ (¬ x3 = (-1000000005) → ((x4 ≤ (mem7 75 8) → Vw (Ni (d + 1) P) mX8_place 33 [(0, .ref 0), (1, .int x1), (2, .int x2), (3, .int x3), (4, .int x4), (5, .int (x5 + 1))] [] mem7) ∧ (¬ x4 ≤ (mem7 75 8) → (∀ x4_11 : Int32, x4_11 = (mem7 75 8) → Vw (Ni (d + 1) P) mX8_place 33 [(0, .ref 0), (1, .int x1), (2, .int x2), (3, .int x5), (4, .int x4_11), (5, .int (x5 + 1))] [] mem7)))))))))))))))) :
    Vw (Ni (d + 1) P) mX8_place 33 [(0, .ref 0), (1, .int x1), (2, .int x2), (3, .int x3), (4, .int x4), (5, .int x5)] [] mem := by
  refine V_iload 5 dX8_place_33 rfl ?_
  refine V_aload_n 0 dX8_place_35 rfl ?_
  refine V_getf (v := .ref 41) gf_X8_60 dX8_place_36 sh_a0 rfl ?_
  refine V_getf (v := .ref 42) gf_X8_82 dX8_place_39 sh_a41 rfl ?_
  refine V_getf (v := .int (mem 42 0)) gf_X8_117 dX8_place_42 sh_a42 rfl ?_
  refine V_icmp_ge (tgt := 130) dX8_place_45 rfl ⟨fun c1 => ?_, fun c1 => ?_⟩
  · have h := h.1 c1
    refine V_iload_n 3 dX8_place_130 rfl ?_
    exact V_iret dX8_place_131 rfl h
  · have h := h.2 c1
    refine V_aload_n 0 dX8_place_48 rfl ?_
    refine V_getf (v := .ref 75) gf_X8_67 dX8_place_49 sh_a0 rfl ?_
    refine V_aload_n 0 dX8_place_52 rfl ?_
    refine V_getf (v := .ref 41) gf_X8_60 dX8_place_53 sh_a0 rfl ?_
    refine V_cVv [.ref 41] mv_X0_takeFrom w_339 dX8_place_56 wf_rok_m sh_a75 rfl (by decide) rfl rfl (Nat.le_of_ble_eq_true rfl) h ?_
    intro mem2 h
    refine V_aload_n 0 dX8_place_59 rfl ?_
    refine V_getf (v := .ref 75) gf_X8_67 dX8_place_60 sh_a0 rfl ?_
    refine V_getf (v := .ref 80) gf_X8_143 dX8_place_63 sh_a75 rfl ?_
    refine V_iload_n 1 dX8_place_66 rfl ?_
    have hi3 := h.1
    refine V_aald (b := (80 + 4 + x1.toNatClampNeg)) dX8_place_67 sh_a80 (by decide) (by decide) rfl ⟨hi3, ?_⟩
    have h := h.2
    refine V_iload 5 dX8_place_68 rfl ?_
    refine V_putf pf_X8_152 dX8_place_70 (sh_r22 sh_a80 (wf_in_lt hi3)) rfl rfl ?_
    refine V_topm (fun mem4 emem4 => ?_)
    have h := h mem4 emem4
    refine V_aload_n 0 dX8_place_73 rfl ?_
    refine V_getf (v := .ref 75) gf_X8_67 dX8_place_74 sh_a0 rfl ?_
    refine V_getf (v := .ref 80) gf_X8_143 dX8_place_77 sh_a75 rfl ?_
    refine V_iload_n 1 dX8_place_80 rfl ?_
    have hi5 := h.1
    refine V_aald (b := (80 + 4 + x1.toNatClampNeg)) dX8_place_81 sh_a80 (by decide) (by decide) rfl ⟨hi5, ?_⟩
    have h := h.2
    refine V_iconst (v := 1) dX8_place_82 rfl ?_
    refine V_putf pf_X8_161 dX8_place_83 (sh_r22 sh_a80 (wf_in_lt hi5)) rfl rfl ?_
    refine V_topm (fun mem6 emem6 => ?_)
    have h := h mem6 emem6
    refine V_aload_n 0 dX8_place_86 rfl ?_
    refine V_getf (v := .ref 75) gf_X8_67 dX8_place_87 sh_a0 rfl ?_
    refine V_iload_n 2 dX8_place_90 rfl ?_
    refine V_cVv [.int x2] mv_X0_pass w_331 dX8_place_91 wf_rok_m sh_a75 rfl (by decide) rfl rfl (Nat.le_of_ble_eq_true rfl) h ?_
    intro mem7 h
    refine V_iload_n 3 dX8_place_94 rfl ?_
    refine V_ldc w_344 dX8_place_95 ?_
    refine V_icmp_eq (tgt := 112) dX8_place_97 rfl ⟨fun c8 => ?_, fun c8 => ?_⟩
    · have h := h.1 c8
      refine V_iload 5 dX8_place_112 rfl ?_
      refine V_istore_n (lv' := [(0, .ref 0), (1, .int x1), (2, .int x2), (3, .int x5), (4, .int x4), (5, .int x5)]) dX8_place_114 (by decide) rfl rfl ?_
      refine V_aload_n 0 dX8_place_115 rfl ?_
      refine V_getf (v := .ref 75) gf_X8_67 dX8_place_116 sh_a0 rfl ?_
      refine V_getf (v := .int (mem7 75 8)) gf_X8_192 dX8_place_119 sh_a75 rfl ?_
      refine V_topi (fun x4_9 ex4_9 => ?_)
      have h := h x4_9 ex4_9
      refine V_istore (lv' := [(0, .ref 0), (1, .int x1), (2, .int x2), (3, .int x5), (4, .int x4_9), (5, .int x5)]) dX8_place_122 (by decide) rfl rfl ?_
      refine V_iinc (v := (x5 + 1)) (lv' := [(0, .ref 0), (1, .int x1), (2, .int x2), (3, .int x5), (4, .int x4_9), (5, .int (x5 + 1))]) 5 dX8_place_124 rfl rfl (by decide) rfl rfl ?_
      refine V_goto (tgt := 33) dX8_place_127 rfl ?_
      exact h
    · have h := h.2 c8
      refine V_aload_n 0 dX8_place_100 rfl ?_
      refine V_getf (v := .ref 75) gf_X8_67 dX8_place_101 sh_a0 rfl ?_
      refine V_getf (v := .int (mem7 75 8)) gf_X8_192 dX8_place_104 sh_a75 rfl ?_
      refine V_iload 4 dX8_place_107 rfl ?_
      refine V_icmp_ge (tgt := 124) dX8_place_109 rfl ⟨fun c10 => ?_, fun c10 => ?_⟩
      · have h := h.1 c10
        refine V_iinc (v := (x5 + 1)) (lv' := [(0, .ref 0), (1, .int x1), (2, .int x2), (3, .int x3), (4, .int x4), (5, .int (x5 + 1))]) 5 dX8_place_124 rfl rfl (by decide) rfl rfl ?_
        refine V_goto (tgt := 33) dX8_place_127 rfl ?_
        exact h
      · have h := h.2 c10
        refine V_iload 5 dX8_place_112 rfl ?_
        refine V_istore_n (lv' := [(0, .ref 0), (1, .int x1), (2, .int x2), (3, .int x5), (4, .int x4), (5, .int x5)]) dX8_place_114 (by decide) rfl rfl ?_
        refine V_aload_n 0 dX8_place_115 rfl ?_
        refine V_getf (v := .ref 75) gf_X8_67 dX8_place_116 sh_a0 rfl ?_
        refine V_getf (v := .int (mem7 75 8)) gf_X8_192 dX8_place_119 sh_a75 rfl ?_
        refine V_topi (fun x4_11 ex4_11 => ?_)
        have h := h x4_11 ex4_11
        refine V_istore (lv' := [(0, .ref 0), (1, .int x1), (2, .int x2), (3, .int x5), (4, .int x4_11), (5, .int x5)]) dX8_place_122 (by decide) rfl rfl ?_
        refine V_iinc (v := (x5 + 1)) (lv' := [(0, .ref 0), (1, .int x1), (2, .int x2), (3, .int x5), (4, .int x4_11), (5, .int (x5 + 1))]) 5 dX8_place_124 rfl rfl (by decide) rfl rfl ?_
        refine V_goto (tgt := 33) dX8_place_127 rfl ?_
        exact h
set_option maxRecDepth 20000 in
theorem b_X8_signs_0 {d : Nat} {P : Int32 → wf_Mem → Prop} (mem : wf_Mem) (x1 : Int32) (x2 : Int32) (x3 : Int32)
    (h : (Ci mX8_isSheet d [.int x1] mem (fun r2 mem1 => ((r2 = 0 → P (-1000000001) mem1) ∧ (¬ r2 = 0 → (Ci mX8_within d [.int x2, .int 0, .int 60] mem1 (fun r5 mem4 => ((r5 = 0 → P (-1000000001) mem4) ∧ (¬ r5 = 0 → (Ci mX8_within d [.int x3, .int 0, .int 1] mem4 (fun r8 mem7 => ((¬ r8 = 0 → (vp_in x1 4 ∧ ((¬ (mem7 (92 + 2 * x1.toNatClampNeg) 0) = (-1) → Vw (Ni (d + 1) P) mX8_signs 55 [(0, .ref 0), (1, .int x1), (2, .int x2), (3, .int x3), (4, .int (-1000000005)), (5, .int 0), (6, .int 0)] [] mem7) ∧ ((mem7 (92 + 2 * x1.toNatClampNeg) 0) = (-1) → P (-1000000011) mem7)))) ∧ (r8 = 0 → P (-1000000001) mem7))))))))))))) :
    Vw (Ni (d + 1) P) mX8_signs 0 [(0, .ref 0), (1, .int x1), (2, .int x2), (3, .int x3)] [] mem := by
  refine V_iload_n 1 dX8_signs_0 rfl ?_
  refine V_cSi [.int x1] ms_X8_isSheet w_360 dX8_signs_1 wf_rok_m rfl rfl (Nat.le_of_ble_eq_true rfl) h ?_
  intro r2 mem1 h
  refine V_if_eq (tgt := 26) dX8_signs_4 rfl ⟨fun c3 => ?_, fun c3 => ?_⟩
  · have h := h.1 c3
    refine V_ldc w_275 dX8_signs_26 ?_
    exact V_iret dX8_signs_28 rfl h
  · have h := h.2 c3
    refine V_iload_n 2 dX8_signs_7 rfl ?_
    refine V_iconst (v := 0) dX8_signs_8 rfl ?_
    refine V_bipush (v := 60) dX8_signs_9 rfl ?_
    refine V_cSi [.int x2, .int 0, .int 60] ms_X8_within w_268 dX8_signs_11 wf_rok_m rfl rfl (Nat.le_of_ble_eq_true rfl) h ?_
    intro r5 mem4 h
    refine V_if_eq (tgt := 26) dX8_signs_14 rfl ⟨fun c6 => ?_, fun c6 => ?_⟩
    · have h := h.1 c6
      refine V_ldc w_275 dX8_signs_26 ?_
      exact V_iret dX8_signs_28 rfl h
    · have h := h.2 c6
      refine V_iload_n 3 dX8_signs_17 rfl ?_
      refine V_iconst (v := 0) dX8_signs_18 rfl ?_
      refine V_iconst (v := 1) dX8_signs_19 rfl ?_
      refine V_cSi [.int x3, .int 0, .int 1] ms_X8_within w_268 dX8_signs_20 wf_rok_m rfl rfl (Nat.le_of_ble_eq_true rfl) h ?_
      intro r8 mem7 h
      refine V_if_ne (tgt := 29) dX8_signs_23 rfl ⟨fun c9 => ?_, fun c9 => ?_⟩
      · have h := h.1 c9
        refine V_aload_n 0 dX8_signs_29 rfl ?_
        refine V_getf (v := .ref 6) gf_X8_25 dX8_signs_30 sh_a0 rfl ?_
        refine V_iload_n 1 dX8_signs_33 rfl ?_
        have hi10 := h.1
        refine V_aald (b := (92 + 2 * x1.toNatClampNeg)) dX8_signs_34 sh_a6 (by decide) (by decide) rfl ⟨hi10, ?_⟩
        have h := h.2
        refine V_getf (v := .int (mem7 (92 + 2 * x1.toNatClampNeg) 0)) gf_X8_241 dX8_signs_35 (sh_r23 sh_a6 (wf_in_lt hi10)) rfl ?_
        refine V_iconst (v := (-1)) dX8_signs_38 rfl ?_
        refine V_icmp_ne (tgt := 45) dX8_signs_39 rfl ⟨fun c11 => ?_, fun c11 => ?_⟩
        · have h := h.1 c11
          refine V_ldc w_344 dX8_signs_45 ?_
          refine V_istore (lv' := [(0, .ref 0), (1, .int x1), (2, .int x2), (3, .int x3), (4, .int (-1000000005))]) dX8_signs_47 (by decide) rfl rfl ?_
          refine V_iconst (v := 0) dX8_signs_49 rfl ?_
          refine V_istore (lv' := [(0, .ref 0), (1, .int x1), (2, .int x2), (3, .int x3), (4, .int (-1000000005)), (5, .int 0)]) dX8_signs_50 (by decide) rfl rfl ?_
          refine V_iconst (v := 0) dX8_signs_52 rfl ?_
          refine V_istore (lv' := [(0, .ref 0), (1, .int x1), (2, .int x2), (3, .int x3), (4, .int (-1000000005)), (5, .int 0), (6, .int 0)]) dX8_signs_53 (by decide) rfl rfl ?_
          exact h
        · have h := h.2 c11
          refine V_ldc w_363 dX8_signs_42 ?_
          exact V_iret dX8_signs_44 rfl h
      · have h := h.2 c9
        refine V_ldc w_275 dX8_signs_26 ?_
        exact V_iret dX8_signs_28 rfl h
set_option maxRecDepth 20000 in
theorem b_X8_signs_55 {d : Nat} {P : Int32 → wf_Mem → Prop} (mem : wf_Mem) (x1 : Int32) (x2 : Int32) (x3 : Int32) (x4 : Int32) (x5 : Int32) (x6 : Int32)
    (h : ((40 < x6 → ((¬ x3 = 0 → P x5 mem) ∧ (x3 = 0 → P x4 mem))) ∧ (¬ 40 < x6 → (Cv mX0_takeFrom d [.ref 75, .ref 41] mem (fun mem3 => (∀ mem4 : wf_Mem, mem4 = wf_ms mem3 75 4 x6 → (Cv mX0_pass d [.ref 75, .int x2] mem4 (fun mem5 => (vp_in x1 4 ∧ (Ci mX4_differences d [.ref (92 + 2 * x1.toNatClampNeg), .ref 76] mem5 (fun r8 mem7 => ((x4 = (-1000000005) → Vw (Ni (d + 1) P) mX8_signs 55 [(0, .ref 0), (1, .int x1), (2, .int x2), (3, .int x3), (4, .int x6), (5, .int r8), (6, .int (x6 + 1))] [] mem7) ∧ (¬ x4 = (-1000000005) → ((x5 ≤ r8 → Vw (Ni (d + 1) P) mX8_signs 55 [(0, .ref 0), (1, .int x1), (2, .int x2), (3, .int x3), (4, .int x4), (5, .int x5), (6, .int (x6 + 1))] [] mem7) ∧ (¬ x5 ≤ r8 → Vw (Ni (d + 1) P) mX8_signs 55 [(0, .ref 0), (1, .int x1), (2, .int x2), (3, .int x3), (4, .int x6), (5, .int r8), (6, .int (x6 + 1))] [] mem7))))))))))))))) :
    Vw (Ni (d + 1) P) mX8_signs 55 [(0, .ref 0), (1, .int x1), (2, .int x2), (3, .int x3), (4, .int x4), (5, .int x5), (6, .int x6)] [] mem := by
  refine V_iload 6 dX8_signs_55 rfl ?_
  refine V_bipush (v := 40) dX8_signs_57 rfl ?_
  refine V_icmp_gt (tgt := 136) dX8_signs_59 rfl ⟨fun c1 => ?_, fun c1 => ?_⟩
  · have h := h.1 c1
    refine V_iload_n 3 dX8_signs_136 rfl ?_
    refine V_if_ne (tgt := 145) dX8_signs_137 rfl ⟨fun c2 => ?_, fun c2 => ?_⟩
    · have h := h.1 c2
      refine V_iload 5 dX8_signs_145 rfl ?_
      exact V_iret dX8_signs_147 rfl h
    · have h := h.2 c2
      refine V_iload 4 dX8_signs_140 rfl ?_
      refine V_goto (tgt := 147) dX8_signs_142 rfl ?_
      exact V_iret dX8_signs_147 rfl h
  · have h := h.2 c1
    refine V_aload_n 0 dX8_signs_62 rfl ?_
    refine V_getf (v := .ref 75) gf_X8_67 dX8_signs_63 sh_a0 rfl ?_
    refine V_aload_n 0 dX8_signs_66 rfl ?_
    refine V_getf (v := .ref 41) gf_X8_60 dX8_signs_67 sh_a0 rfl ?_
    refine V_cVv [.ref 41] mv_X0_takeFrom w_339 dX8_signs_70 wf_rok_m sh_a75 rfl (by decide) rfl rfl (Nat.le_of_ble_eq_true rfl) h ?_
    intro mem3 h
    refine V_aload_n 0 dX8_signs_73 rfl ?_
    refine V_getf (v := .ref 75) gf_X8_67 dX8_signs_74 sh_a0 rfl ?_
    refine V_iload 6 dX8_signs_77 rfl ?_
    refine V_putf pf_X8_127 dX8_signs_79 sh_a75 rfl rfl ?_
    refine V_topm (fun mem4 emem4 => ?_)
    have h := h mem4 emem4
    refine V_aload_n 0 dX8_signs_82 rfl ?_
    refine V_getf (v := .ref 75) gf_X8_67 dX8_signs_83 sh_a0 rfl ?_
    refine V_iload_n 2 dX8_signs_86 rfl ?_
    refine V_cVv [.int x2] mv_X0_pass w_331 dX8_signs_87 wf_rok_m sh_a75 rfl (by decide) rfl rfl (Nat.le_of_ble_eq_true rfl) h ?_
    intro mem5 h
    refine V_aload_n 0 dX8_signs_90 rfl ?_
    refine V_getf (v := .ref 6) gf_X8_25 dX8_signs_91 sh_a0 rfl ?_
    refine V_iload_n 1 dX8_signs_94 rfl ?_
    have hi6 := h.1
    refine V_aald (b := (92 + 2 * x1.toNatClampNeg)) dX8_signs_95 sh_a6 (by decide) (by decide) rfl ⟨hi6, ?_⟩
    have h := h.2
    refine V_aload_n 0 dX8_signs_96 rfl ?_
    refine V_getf (v := .ref 75) gf_X8_67 dX8_signs_97 sh_a0 rfl ?_
    refine V_getf (v := .ref 76) gf_X8_82 dX8_signs_100 sh_a75 rfl ?_
    refine V_cVi [.ref 76] mv_X4_differences w_368 dX8_signs_103 wf_rok_m (sh_r23 sh_a6 (wf_in_lt hi6)) rfl (by decide) rfl rfl (Nat.le_of_ble_eq_true rfl) h ?_
    intro r8 mem7 h
    refine V_istore (lv' := [(0, .ref 0), (1, .int x1), (2, .int x2), (3, .int x3), (4, .int x4), (5, .int x5), (6, .int x6), (7, .int r8)]) dX8_signs_106 (by decide) rfl rfl ?_
    refine V_iload 4 dX8_signs_108 rfl ?_
    refine V_ldc w_344 dX8_signs_110 ?_
    refine V_icmp_eq (tgt := 122) dX8_signs_112 rfl ⟨fun c9 => ?_, fun c9 => ?_⟩
    · have h := h.1 c9
      refine V_iload 6 dX8_signs_122 rfl ?_
      refine V_istore (lv' := [(0, .ref 0), (1, .int x1), (2, .int x2), (3, .int x3), (4, .int x6), (5, .int x5), (6, .int x6), (7, .int r8)]) dX8_signs_124 (by decide) rfl rfl ?_
      refine V_iload 7 dX8_signs_126 rfl ?_
      refine V_istore (lv' := [(0, .ref 0), (1, .int x1), (2, .int x2), (3, .int x3), (4, .int x6), (5, .int r8), (6, .int x6), (7, .int r8)]) dX8_signs_128 (by decide) rfl rfl ?_
      refine V_iinc (v := (x6 + 1)) (lv' := [(0, .ref 0), (1, .int x1), (2, .int x2), (3, .int x3), (4, .int x6), (5, .int r8), (6, .int (x6 + 1)), (7, .int r8)]) 6 dX8_signs_130 rfl rfl (by decide) rfl rfl ?_
      refine V_goto (tgt := 55) dX8_signs_133 rfl ?_
      exact V_sub [0, 1, 2, 3, 4, 5, 6] rfl h
    · have h := h.2 c9
      refine V_iload 7 dX8_signs_115 rfl ?_
      refine V_iload 5 dX8_signs_117 rfl ?_
      refine V_icmp_ge (tgt := 130) dX8_signs_119 rfl ⟨fun c10 => ?_, fun c10 => ?_⟩
      · have h := h.1 c10
        refine V_iinc (v := (x6 + 1)) (lv' := [(0, .ref 0), (1, .int x1), (2, .int x2), (3, .int x3), (4, .int x4), (5, .int x5), (6, .int (x6 + 1)), (7, .int r8)]) 6 dX8_signs_130 rfl rfl (by decide) rfl rfl ?_
        refine V_goto (tgt := 55) dX8_signs_133 rfl ?_
        exact V_sub [0, 1, 2, 3, 4, 5, 6] rfl h
      · have h := h.2 c10
        refine V_iload 6 dX8_signs_122 rfl ?_
        refine V_istore (lv' := [(0, .ref 0), (1, .int x1), (2, .int x2), (3, .int x3), (4, .int x6), (5, .int x5), (6, .int x6), (7, .int r8)]) dX8_signs_124 (by decide) rfl rfl ?_
        refine V_iload 7 dX8_signs_126 rfl ?_
        refine V_istore (lv' := [(0, .ref 0), (1, .int x1), (2, .int x2), (3, .int x3), (4, .int x6), (5, .int r8), (6, .int x6), (7, .int r8)]) dX8_signs_128 (by decide) rfl rfl ?_
        refine V_iinc (v := (x6 + 1)) (lv' := [(0, .ref 0), (1, .int x1), (2, .int x2), (3, .int x3), (4, .int x6), (5, .int r8), (6, .int (x6 + 1)), (7, .int r8)]) 6 dX8_signs_130 rfl rfl (by decide) rfl rfl ?_
        refine V_goto (tgt := 55) dX8_signs_133 rfl ?_
        exact V_sub [0, 1, 2, 3, 4, 5, 6] rfl h
set_option maxRecDepth 20000 in
theorem b_X8_feed_0 {d : Nat} {P : Int32 → wf_Mem → Prop} (mem : wf_Mem) (x1 : Int32) (x2 : Int32) (x3 : Int32)
    (h : ((((mem 3 1) + 12) ≤ 96 → (Cv mX6_takesNumber d [.ref 3, .int x1] mem (fun mem2 => (Cv mX6_takesNumber d [.ref 3, .int x2] mem2 (fun mem3 => (Cv mX6_takesNumber d [.ref 3, .int x3] mem3 (fun mem4 => P (mem4 3 1) mem4))))))) ∧ (¬ ((mem 3 1) + 12) ≤ 96 → P (-1000000003) mem))) :
    Vw (Ni (d + 1) P) mX8_feed 0 [(0, .ref 0), (1, .int x1), (2, .int x2), (3, .int x3)] [] mem := by
  refine V_aload_n 0 dX8_feed_0 rfl ?_
  refine V_getf (v := .ref 3) gf_X8_19 dX8_feed_1 sh_a0 rfl ?_
  refine V_getf (v := .int (mem 3 1)) gf_X8_249 dX8_feed_4 sh_a3 rfl ?_
  refine V_bipush (v := 12) dX8_feed_7 rfl ?_
  refine V_iadd dX8_feed_9 ?_
  refine V_bipush (v := 96) dX8_feed_10 rfl ?_
  refine V_icmp_le (tgt := 18) dX8_feed_12 rfl ⟨fun c1 => ?_, fun c1 => ?_⟩
  · have h := h.1 c1
    refine V_aload_n 0 dX8_feed_18 rfl ?_
    refine V_getf (v := .ref 3) gf_X8_19 dX8_feed_19 sh_a0 rfl ?_
    refine V_iload_n 1 dX8_feed_22 rfl ?_
    refine V_cVv [.int x1] mv_X6_takesNumber w_374 dX8_feed_23 wf_rok_m sh_a3 rfl (by decide) rfl rfl (Nat.le_of_ble_eq_true rfl) h ?_
    intro mem2 h
    refine V_aload_n 0 dX8_feed_26 rfl ?_
    refine V_getf (v := .ref 3) gf_X8_19 dX8_feed_27 sh_a0 rfl ?_
    refine V_iload_n 2 dX8_feed_30 rfl ?_
    refine V_cVv [.int x2] mv_X6_takesNumber w_374 dX8_feed_31 wf_rok_m sh_a3 rfl (by decide) rfl rfl (Nat.le_of_ble_eq_true rfl) h ?_
    intro mem3 h
    refine V_aload_n 0 dX8_feed_34 rfl ?_
    refine V_getf (v := .ref 3) gf_X8_19 dX8_feed_35 sh_a0 rfl ?_
    refine V_iload_n 3 dX8_feed_38 rfl ?_
    refine V_cVv [.int x3] mv_X6_takesNumber w_374 dX8_feed_39 wf_rok_m sh_a3 rfl (by decide) rfl rfl (Nat.le_of_ble_eq_true rfl) h ?_
    intro mem4 h
    refine V_aload_n 0 dX8_feed_42 rfl ?_
    refine V_getf (v := .ref 3) gf_X8_19 dX8_feed_43 sh_a0 rfl ?_
    refine V_getf (v := .int (mem4 3 1)) gf_X8_249 dX8_feed_46 sh_a3 rfl ?_
    exact V_iret dX8_feed_49 rfl h
  · have h := h.2 c1
    refine V_ldc w_375 dX8_feed_15 ?_
    exact V_iret dX8_feed_17 rfl h
set_option maxRecDepth 20000 in
theorem b_X8_trim_0 {d : Nat} {P : Int32 → wf_Mem → Prop} (mem : wf_Mem) (x1 : Int32)
    (h : (Ci mX8_within d [.int x1, .int 0, .int (mem 3 1)] mem (fun r2 mem1 => ((¬ r2 = 0 → (∀ mem4 : wf_Mem, mem4 = wf_ms mem1 3 1 x1 → P x1 mem4)) ∧ (r2 = 0 → P (-1000000001) mem1))))) :
    Vw (Ni (d + 1) P) mX8_trim 0 [(0, .ref 0), (1, .int x1)] [] mem := by
  refine V_iload_n 1 dX8_trim_0 rfl ?_
  refine V_iconst (v := 0) dX8_trim_1 rfl ?_
  refine V_aload_n 0 dX8_trim_2 rfl ?_
  refine V_getf (v := .ref 3) gf_X8_19 dX8_trim_3 sh_a0 rfl ?_
  refine V_getf (v := .int (mem 3 1)) gf_X8_249 dX8_trim_6 sh_a3 rfl ?_
  refine V_cSi [.int x1, .int 0, .int (mem 3 1)] ms_X8_within w_268 dX8_trim_9 wf_rok_m rfl rfl (Nat.le_of_ble_eq_true rfl) h ?_
  intro r2 mem1 h
  refine V_if_ne (tgt := 18) dX8_trim_12 rfl ⟨fun c3 => ?_, fun c3 => ?_⟩
  · have h := h.1 c3
    refine V_aload_n 0 dX8_trim_18 rfl ?_
    refine V_getf (v := .ref 3) gf_X8_19 dX8_trim_19 sh_a0 rfl ?_
    refine V_iload_n 1 dX8_trim_22 rfl ?_
    refine V_putf pf_X8_249 dX8_trim_23 sh_a3 rfl rfl ?_
    refine V_topm (fun mem4 emem4 => ?_)
    have h := h mem4 emem4
    refine V_iload_n 1 dX8_trim_26 rfl ?_
    exact V_iret dX8_trim_27 rfl h
  · have h := h.2 c3
    refine V_ldc w_275 dX8_trim_15 ?_
    exact V_iret dX8_trim_17 rfl h
set_option maxRecDepth 20000 in
theorem b_X8_text_0 {d : Nat} {P : Int32 → wf_Mem → Prop} (mem : wf_Mem) 
    (h : (vp_in (if 14 < (mem 41 12) then 14 else (mem 41 12)) 15 ∧ (Ci mX6_readInto d [.ref 3, .ref (10 + 1 + 2 * (if 14 < (mem 41 12) then 14 else (mem 41 12)).toNatClampNeg)] mem (fun r3 mem2 => (∀ mem4 : wf_Mem, mem4 = wf_ms mem2 3 1 0 → ((r3 < 0 → (((mem4 41 12) < 14 → (vp_in (mem4 (10 + 1 + 2 * (if 14 < (mem 41 12) then 14 else (mem 41 12)).toNatClampNeg) 0) 3 ∧ ∀ mem7 : wf_Mem, mem7 = wf_ms mem4 47 (mem4 (10 + 1 + 2 * (if 14 < (mem 41 12) then 14 else (mem 41 12)).toNatClampNeg) 0).toNatClampNeg (mem4 41 12) → (∀ mem8 : wf_Mem, mem8 = wf_ms mem7 41 12 ((mem7 41 12) + 1) → P (mem7 41 12) mem8))) ∧ (¬ (mem4 41 12) < 14 → P (-1000000003) mem4))) ∧ (¬ r3 < 0 → P ((-100) - r3) mem4))))))) :
    Vw (Ni (d + 1) P) mX8_text 0 [(0, .ref 0)] [] mem := by
  refine V_aload_n 0 dX8_text_0 rfl ?_
  refine V_getf (v := .ref 10) gf_X8_51 dX8_text_1 sh_a0 rfl ?_
  refine V_aload_n 0 dX8_text_4 rfl ?_
  refine V_getf (v := .ref 41) gf_X8_60 dX8_text_5 sh_a0 rfl ?_
  refine V_getf (v := .int (mem 41 12)) gf_X8_254 dX8_text_8 sh_a41 rfl ?_
  refine V_bipush (v := 14) dX8_text_11 rfl ?_
  refine V_mmin w_287 wm_min dX8_text_13 wf_rok_m (Nat.le_of_ble_eq_true rfl) ?_
  have hi1 := h.1
  refine V_aald (b := (10 + 1 + 2 * (if 14 < (mem 41 12) then 14 else (mem 41 12)).toNatClampNeg)) dX8_text_16 sh_a10 (by decide) (by decide) rfl ⟨hi1, ?_⟩
  have h := h.2
  refine V_astore_n (lv' := [(0, .ref 0), (1, .ref (10 + 1 + 2 * (if 14 < (mem 41 12) then 14 else (mem 41 12)).toNatClampNeg))]) dX8_text_17 (by decide) rfl rfl ?_
  refine V_aload_n 0 dX8_text_18 rfl ?_
  refine V_getf (v := .ref 3) gf_X8_19 dX8_text_19 sh_a0 rfl ?_
  refine V_aload_n 1 dX8_text_22 rfl ?_
  refine V_cVi [.ref (10 + 1 + 2 * (if 14 < (mem 41 12) then 14 else (mem 41 12)).toNatClampNeg)] mv_X6_readInto w_381 dX8_text_23 wf_rok_m sh_a3 rfl (by decide) rfl rfl (Nat.le_of_ble_eq_true rfl) h ?_
  intro r3 mem2 h
  refine V_istore_n (lv' := [(0, .ref 0), (1, .ref (10 + 1 + 2 * (if 14 < (mem 41 12) then 14 else (mem 41 12)).toNatClampNeg)), (2, .int r3)]) dX8_text_26 (by decide) rfl rfl ?_
  refine V_aload_n 0 dX8_text_27 rfl ?_
  refine V_getf (v := .ref 3) gf_X8_19 dX8_text_28 sh_a0 rfl ?_
  refine V_iconst (v := 0) dX8_text_31 rfl ?_
  refine V_putf pf_X8_249 dX8_text_32 sh_a3 rfl rfl ?_
  refine V_topm (fun mem4 emem4 => ?_)
  have h := h mem4 emem4
  refine V_iload_n 2 dX8_text_35 rfl ?_
  refine V_if_lt (tgt := 44) dX8_text_36 rfl ⟨fun c5 => ?_, fun c5 => ?_⟩
  · have h := h.1 c5
    refine V_aload_n 0 dX8_text_44 rfl ?_
    refine V_getf (v := .ref 41) gf_X8_60 dX8_text_45 sh_a0 rfl ?_
    refine V_getf (v := .int (mem4 41 12)) gf_X8_254 dX8_text_48 sh_a41 rfl ?_
    refine V_bipush (v := 14) dX8_text_51 rfl ?_
    refine V_icmp_lt (tgt := 59) dX8_text_53 rfl ⟨fun c6 => ?_, fun c6 => ?_⟩
    · have h := h.1 c6
      refine V_aload_n 0 dX8_text_59 rfl ?_
      refine V_getf (v := .ref 41) gf_X8_60 dX8_text_60 sh_a0 rfl ?_
      refine V_getf (v := .ref 47) gf_X8_261 dX8_text_63 sh_a41 rfl ?_
      refine V_aload_n 1 dX8_text_66 rfl ?_
      refine V_getf (v := .int (mem4 (10 + 1 + 2 * (if 14 < (mem 41 12) then 14 else (mem 41 12)).toNatClampNeg) 0)) gf_X8_264 dX8_text_67 (sh_r21 sh_a10 (wf_in_lt hi1)) rfl ?_
      refine V_aload_n 0 dX8_text_70 rfl ?_
      refine V_getf (v := .ref 41) gf_X8_60 dX8_text_71 sh_a0 rfl ?_
      refine V_getf (v := .int (mem4 41 12)) gf_X8_254 dX8_text_74 sh_a41 rfl ?_
      refine V_iast dX8_text_77 sh_a47 ⟨h.1, ?_⟩
      refine V_topm (fun mem7 emem7 => ?_)
      have h := h.2 mem7 emem7
      refine V_aload_n 0 dX8_text_78 rfl ?_
      refine V_getf (v := .ref 41) gf_X8_60 dX8_text_79 sh_a0 rfl ?_
      refine V_dup dX8_text_82 rfl ?_
      refine V_getf (v := .int (mem7 41 12)) gf_X8_254 dX8_text_83 sh_a41 rfl ?_
      refine V_dup_x1 dX8_text_86 rfl rfl ?_
      refine V_iconst (v := 1) dX8_text_87 rfl ?_
      refine V_iadd dX8_text_88 ?_
      refine V_putf pf_X8_254 dX8_text_89 sh_a41 rfl rfl ?_
      refine V_topm (fun mem8 emem8 => ?_)
      have h := h mem8 emem8
      exact V_iret dX8_text_92 rfl h
    · have h := h.2 c6
      refine V_ldc w_375 dX8_text_56 ?_
      exact V_iret dX8_text_58 rfl h
  · have h := h.2 c5
    refine V_bipush (v := (-100)) dX8_text_39 rfl ?_
    refine V_iload_n 2 dX8_text_41 rfl ?_
    refine V_isub dX8_text_42 ?_
    exact V_iret dX8_text_43 rfl h
set_option maxRecDepth 20000 in
theorem b_X8_textTold_0 {d : Nat} {P : Int32 → wf_Mem → Prop} (mem : wf_Mem) (x1 : Int32) (x2 : Int32)
    (h : (Ci mX8_within d [.int x1, .int 0, .int ((mem 41 12) - 1)] mem (fun r2 mem1 => ((r2 = 0 → P (-1000000001) mem1) ∧ (¬ r2 = 0 → (Ci mX8_within d [.int x2, .int 0, .int 1] mem1 (fun r5 mem4 => ((¬ r5 = 0 → ((¬ x2 = 0 → (vp_in x1 15 ∧ P (mem4 (10 + 1 + 2 * x1.toNatClampNeg) 1) mem4)) ∧ (x2 = 0 → (vp_in x1 15 ∧ P (mem4 (10 + 1 + 2 * x1.toNatClampNeg) 0) mem4)))) ∧ (r5 = 0 → P (-1000000001) mem4))))))))) :
    Vw (Ni (d + 1) P) mX8_textTold 0 [(0, .ref 0), (1, .int x1), (2, .int x2)] [] mem := by
  refine V_iload_n 1 dX8_textTold_0 rfl ?_
  refine V_iconst (v := 0) dX8_textTold_1 rfl ?_
  refine V_aload_n 0 dX8_textTold_2 rfl ?_
  refine V_getf (v := .ref 41) gf_X8_60 dX8_textTold_3 sh_a0 rfl ?_
  refine V_getf (v := .int (mem 41 12)) gf_X8_254 dX8_textTold_6 sh_a41 rfl ?_
  refine V_iconst (v := 1) dX8_textTold_9 rfl ?_
  refine V_isub dX8_textTold_10 ?_
  refine V_cSi [.int x1, .int 0, .int ((mem 41 12) - 1)] ms_X8_within w_268 dX8_textTold_11 wf_rok_m rfl rfl (Nat.le_of_ble_eq_true rfl) h ?_
  intro r2 mem1 h
  refine V_if_eq (tgt := 26) dX8_textTold_14 rfl ⟨fun c3 => ?_, fun c3 => ?_⟩
  · have h := h.1 c3
    refine V_ldc w_275 dX8_textTold_26 ?_
    exact V_iret dX8_textTold_28 rfl h
  · have h := h.2 c3
    refine V_iload_n 2 dX8_textTold_17 rfl ?_
    refine V_iconst (v := 0) dX8_textTold_18 rfl ?_
    refine V_iconst (v := 1) dX8_textTold_19 rfl ?_
    refine V_cSi [.int x2, .int 0, .int 1] ms_X8_within w_268 dX8_textTold_20 wf_rok_m rfl rfl (Nat.le_of_ble_eq_true rfl) h ?_
    intro r5 mem4 h
    refine V_if_ne (tgt := 29) dX8_textTold_23 rfl ⟨fun c6 => ?_, fun c6 => ?_⟩
    · have h := h.1 c6
      refine V_iload_n 2 dX8_textTold_29 rfl ?_
      refine V_if_ne (tgt := 45) dX8_textTold_30 rfl ⟨fun c7 => ?_, fun c7 => ?_⟩
      · have h := h.1 c7
        refine V_aload_n 0 dX8_textTold_45 rfl ?_
        refine V_getf (v := .ref 10) gf_X8_51 dX8_textTold_46 sh_a0 rfl ?_
        refine V_iload_n 1 dX8_textTold_49 rfl ?_
        have hi8 := h.1
        refine V_aald (b := (10 + 1 + 2 * x1.toNatClampNeg)) dX8_textTold_50 sh_a10 (by decide) (by decide) rfl ⟨hi8, ?_⟩
        have h := h.2
        refine V_getf (v := .int (mem4 (10 + 1 + 2 * x1.toNatClampNeg) 1)) gf_X8_267 dX8_textTold_51 (sh_r21 sh_a10 (wf_in_lt hi8)) rfl ?_
        exact V_iret dX8_textTold_54 rfl h
      · have h := h.2 c7
        refine V_aload_n 0 dX8_textTold_33 rfl ?_
        refine V_getf (v := .ref 10) gf_X8_51 dX8_textTold_34 sh_a0 rfl ?_
        refine V_iload_n 1 dX8_textTold_37 rfl ?_
        have hi9 := h.1
        refine V_aald (b := (10 + 1 + 2 * x1.toNatClampNeg)) dX8_textTold_38 sh_a10 (by decide) (by decide) rfl ⟨hi9, ?_⟩
        have h := h.2
        refine V_getf (v := .int (mem4 (10 + 1 + 2 * x1.toNatClampNeg) 0)) gf_X8_264 dX8_textTold_39 (sh_r21 sh_a10 (wf_in_lt hi9)) rfl ?_
        refine V_goto (tgt := 54) dX8_textTold_42 rfl ?_
        exact V_iret dX8_textTold_54 rfl h
    · have h := h.2 c6
      refine V_ldc w_275 dX8_textTold_26 ?_
      exact V_iret dX8_textTold_28 rfl h
set_option maxRecDepth 20000 in
theorem b_X8_why_0 {d : Nat} {P : Int32 → wf_Mem → Prop} (mem : wf_Mem) (x1 : Int32)
    (h : (Ci mX8_within d [.int x1, .int 0, .int 2] mem (fun r2 mem1 => ((r2 = 0 → P (-1000000001) mem1) ∧ (¬ r2 = 0 → (vp_in x1 3 ∧ P (mem1 47 x1.toNatClampNeg) mem1)))))) :
    Vw (Ni (d + 1) P) mX8_why 0 [(0, .ref 0), (1, .int x1)] [] mem := by
  refine V_iload_n 1 dX8_why_0 rfl ?_
  refine V_iconst (v := 0) dX8_why_1 rfl ?_
  refine V_iconst (v := 2) dX8_why_2 rfl ?_
  refine V_cSi [.int x1, .int 0, .int 2] ms_X8_within w_268 dX8_why_3 wf_rok_m rfl rfl (Nat.le_of_ble_eq_true rfl) h ?_
  intro r2 mem1 h
  refine V_if_eq (tgt := 21) dX8_why_6 rfl ⟨fun c3 => ?_, fun c3 => ?_⟩
  · have h := h.1 c3
    refine V_ldc w_275 dX8_why_21 ?_
    exact V_iret dX8_why_23 rfl h
  · have h := h.2 c3
    refine V_aload_n 0 dX8_why_9 rfl ?_
    refine V_getf (v := .ref 41) gf_X8_60 dX8_why_10 sh_a0 rfl ?_
    refine V_getf (v := .ref 47) gf_X8_261 dX8_why_13 sh_a41 rfl ?_
    refine V_iload_n 1 dX8_why_16 rfl ?_
    refine V_iald dX8_why_17 sh_a47 ⟨h.1, ?_⟩
    have h := h.2
    refine V_goto (tgt := 23) dX8_why_18 rfl ?_
    exact V_iret dX8_why_23 rfl h
set_option maxRecDepth 20000 in
theorem b_X8_sheet_0 {d : Nat} {P : Int32 → wf_Mem → Prop} (mem : wf_Mem) (x1 : Int32) (x2 : Int32) (x3 : Int32)
    (h : (Ci mX8_isSheet d [.int x1] mem (fun r2 mem1 => ((r2 = 0 → P (-1000000001) mem1) ∧ (¬ r2 = 0 → (Ci mX8_within d [.int x2, .int (-1), .int 1] mem1 (fun r5 mem4 => ((¬ r5 = 0 → ((¬ x2 = (-1) → ((x3 ≤ 24 → ((0 ≤ x3 → (vp_in x1 4 ∧ (Cv mX4_becomes d [.ref (92 + 2 * x1.toNatClampNeg), .int x2, .int x3] mem4 (fun mem11 => P x3 mem11)))) ∧ (¬ 0 ≤ x3 → P (-1000000014) mem4))) ∧ (¬ x3 ≤ 24 → P (-1000000001) mem4))) ∧ (x2 = (-1) → (vp_in x1 4 ∧ (Cv mX4_becomes d [.ref (92 + 2 * x1.toNatClampNeg), .int (-1), .int 0] mem4 (fun mem13 => P 0 mem13)))))) ∧ (r5 = 0 → P (-1000000001) mem4))))))))) :
    Vw (Ni (d + 1) P) mX8_sheet 0 [(0, .ref 0), (1, .int x1), (2, .int x2), (3, .int x3)] [] mem := by
  refine V_iload_n 1 dX8_sheet_0 rfl ?_
  refine V_cSi [.int x1] ms_X8_isSheet w_360 dX8_sheet_1 wf_rok_m rfl rfl (Nat.le_of_ble_eq_true rfl) h ?_
  intro r2 mem1 h
  refine V_if_eq (tgt := 16) dX8_sheet_4 rfl ⟨fun c3 => ?_, fun c3 => ?_⟩
  · have h := h.1 c3
    refine V_ldc w_275 dX8_sheet_16 ?_
    exact V_iret dX8_sheet_18 rfl h
  · have h := h.2 c3
    refine V_iload_n 2 dX8_sheet_7 rfl ?_
    refine V_iconst (v := (-1)) dX8_sheet_8 rfl ?_
    refine V_iconst (v := 1) dX8_sheet_9 rfl ?_
    refine V_cSi [.int x2, .int (-1), .int 1] ms_X8_within w_268 dX8_sheet_10 wf_rok_m rfl rfl (Nat.le_of_ble_eq_true rfl) h ?_
    intro r5 mem4 h
    refine V_if_ne (tgt := 19) dX8_sheet_13 rfl ⟨fun c6 => ?_, fun c6 => ?_⟩
    · have h := h.1 c6
      refine V_iload_n 2 dX8_sheet_19 rfl ?_
      refine V_iconst (v := (-1)) dX8_sheet_20 rfl ?_
      refine V_icmp_ne (tgt := 37) dX8_sheet_21 rfl ⟨fun c7 => ?_, fun c7 => ?_⟩
      · have h := h.1 c7
        refine V_iload_n 3 dX8_sheet_37 rfl ?_
        refine V_bipush (v := 24) dX8_sheet_38 rfl ?_
        refine V_icmp_le (tgt := 46) dX8_sheet_40 rfl ⟨fun c8 => ?_, fun c8 => ?_⟩
        · have h := h.1 c8
          refine V_iload_n 3 dX8_sheet_46 rfl ?_
          refine V_if_ge (tgt := 54) dX8_sheet_47 rfl ⟨fun c9 => ?_, fun c9 => ?_⟩
          · have h := h.1 c9
            refine V_aload_n 0 dX8_sheet_54 rfl ?_
            refine V_getf (v := .ref 6) gf_X8_25 dX8_sheet_55 sh_a0 rfl ?_
            refine V_iload_n 1 dX8_sheet_58 rfl ?_
            have hi10 := h.1
            refine V_aald (b := (92 + 2 * x1.toNatClampNeg)) dX8_sheet_59 sh_a6 (by decide) (by decide) rfl ⟨hi10, ?_⟩
            have h := h.2
            refine V_iload_n 2 dX8_sheet_60 rfl ?_
            refine V_iload_n 3 dX8_sheet_61 rfl ?_
            refine V_cVv [.int x2, .int x3] mv_X4_becomes w_388 dX8_sheet_62 wf_rok_m (sh_r23 sh_a6 (wf_in_lt hi10)) rfl (by decide) rfl rfl (Nat.le_of_ble_eq_true rfl) h ?_
            intro mem11 h
            refine V_iload_n 3 dX8_sheet_65 rfl ?_
            exact V_iret dX8_sheet_66 rfl h
          · have h := h.2 c9
            refine V_ldcw w_389 dX8_sheet_50 ?_
            exact V_iret dX8_sheet_53 rfl h
        · have h := h.2 c8
          refine V_ldc w_275 dX8_sheet_43 ?_
          exact V_iret dX8_sheet_45 rfl h
      · have h := h.2 c7
        refine V_aload_n 0 dX8_sheet_24 rfl ?_
        refine V_getf (v := .ref 6) gf_X8_25 dX8_sheet_25 sh_a0 rfl ?_
        refine V_iload_n 1 dX8_sheet_28 rfl ?_
        have hi12 := h.1
        refine V_aald (b := (92 + 2 * x1.toNatClampNeg)) dX8_sheet_29 sh_a6 (by decide) (by decide) rfl ⟨hi12, ?_⟩
        have h := h.2
        refine V_iconst (v := (-1)) dX8_sheet_30 rfl ?_
        refine V_iconst (v := 0) dX8_sheet_31 rfl ?_
        refine V_cVv [.int (-1), .int 0] mv_X4_becomes w_388 dX8_sheet_32 wf_rok_m (sh_r23 sh_a6 (wf_in_lt hi12)) rfl (by decide) rfl rfl (Nat.le_of_ble_eq_true rfl) h ?_
        intro mem13 h
        refine V_iconst (v := 0) dX8_sheet_35 rfl ?_
        exact V_iret dX8_sheet_36 rfl h
    · have h := h.2 c6
      refine V_ldc w_275 dX8_sheet_16 ?_
      exact V_iret dX8_sheet_18 rfl h
set_option maxRecDepth 20000 in
theorem b_X8_mark_0 {d : Nat} {P : Int32 → wf_Mem → Prop} (mem : wf_Mem) (x1 : Int32) (x2 : Int32) (x3 : Int32)
    (h : (Ci mX8_isSheet d [.int x1] mem (fun r2 mem1 => ((¬ r2 = 0 → (vp_in x1 4 ∧ ((¬ (mem1 (92 + 2 * x1.toNatClampNeg) 0) = (-1) → (Ci mX4_has d [.ref (92 + 2 * x1.toNatClampNeg), .int x2] mem1 (fun r7 mem6 => ((¬ r7 = 0 → ((¬ (mem6 (92 + 2 * x1.toNatClampNeg) 0) = 0 → ((x3 = (-1000000005) → (vp_in x2 24 ∧ ∀ mem11 : wf_Mem, mem11 = wf_ms mem6 ((92 + 2 * x1.toNatClampNeg) + 1) x2.toNatClampNeg x3 → P 1 mem11)) ∧ (¬ x3 = (-1000000005) → (Ci mX8_within d [.int x3, .int (-99999), .int 99999] mem6 (fun r13 mem12 => ((¬ r13 = 0 → (vp_in x2 24 ∧ ∀ mem15 : wf_Mem, mem15 = wf_ms mem12 ((92 + 2 * x1.toNatClampNeg) + 1) x2.toNatClampNeg x3 → P 1 mem15)) ∧ (r13 = 0 → P (-1000000001) mem12))))))) ∧ ((mem6 (92 + 2 * x1.toNatClampNeg) 0) = 0 → ((¬ x3 = (-1000000005) → (vp_in x2 24 ∧ ∀ mem17 : wf_Mem, mem17 = wf_ms mem6 ((92 + 2 * x1.toNatClampNeg) + 1) x2.toNatClampNeg (x3.toInt16.toInt32) → P 1 mem17)) ∧ (x3 = (-1000000005) → P (-1000000012) mem6))))) ∧ (r7 = 0 → P (-1000000013) mem6))))) ∧ ((mem1 (92 + 2 * x1.toNatClampNeg) 0) = (-1) → P (-1000000011) mem1)))) ∧ (r2 = 0 → P (-1000000001) mem1))))) :
    Vw (Ni (d + 1) P) mX8_mark 0 [(0, .ref 0), (1, .int x1), (2, .int x2), (3, .int x3)] [] mem := by
  refine V_iload_n 1 dX8_mark_0 rfl ?_
  refine V_cSi [.int x1] ms_X8_isSheet w_360 dX8_mark_1 wf_rok_m rfl rfl (Nat.le_of_ble_eq_true rfl) h ?_
  intro r2 mem1 h
  refine V_if_ne (tgt := 10) dX8_mark_4 rfl ⟨fun c3 => ?_, fun c3 => ?_⟩
  · have h := h.1 c3
    refine V_aload_n 0 dX8_mark_10 rfl ?_
    refine V_getf (v := .ref 6) gf_X8_25 dX8_mark_11 sh_a0 rfl ?_
    refine V_iload_n 1 dX8_mark_14 rfl ?_
    have hi4 := h.1
    refine V_aald (b := (92 + 2 * x1.toNatClampNeg)) dX8_mark_15 sh_a6 (by decide) (by decide) rfl ⟨hi4, ?_⟩
    have h := h.2
    refine V_astore (lv' := [(0, .ref 0), (1, .int x1), (2, .int x2), (3, .int x3), (4, .ref (92 + 2 * x1.toNatClampNeg))]) dX8_mark_16 (by decide) rfl rfl ?_
    refine V_aload 4 dX8_mark_18 rfl ?_
    refine V_getf (v := .int (mem1 (92 + 2 * x1.toNatClampNeg) 0)) gf_X8_241 dX8_mark_20 (sh_r23 sh_a6 (wf_in_lt hi4)) rfl ?_
    refine V_iconst (v := (-1)) dX8_mark_23 rfl ?_
    refine V_icmp_ne (tgt := 30) dX8_mark_24 rfl ⟨fun c5 => ?_, fun c5 => ?_⟩
    · have h := h.1 c5
      refine V_aload 4 dX8_mark_30 rfl ?_
      refine V_iload_n 2 dX8_mark_32 rfl ?_
      refine V_cVi [.int x2] mv_X4_has w_393 dX8_mark_33 wf_rok_m (sh_r23 sh_a6 (wf_in_lt hi4)) rfl (by decide) rfl rfl (Nat.le_of_ble_eq_true rfl) h ?_
      intro r7 mem6 h
      refine V_if_ne (tgt := 43) dX8_mark_36 rfl ⟨fun c8 => ?_, fun c8 => ?_⟩
      · have h := h.1 c8
        refine V_aload 4 dX8_mark_43 rfl ?_
        refine V_getf (v := .int (mem6 (92 + 2 * x1.toNatClampNeg) 0)) gf_X8_241 dX8_mark_45 (sh_r23 sh_a6 (wf_in_lt hi4)) rfl ?_
        refine V_if_ne (tgt := 71) dX8_mark_48 rfl ⟨fun c9 => ?_, fun c9 => ?_⟩
        · have h := h.1 c9
          refine V_iload_n 3 dX8_mark_71 rfl ?_
          refine V_ldc w_344 dX8_mark_72 ?_
          refine V_icmp_eq (tgt := 93) dX8_mark_74 rfl ⟨fun c10 => ?_, fun c10 => ?_⟩
          · have h := h.1 c10
            refine V_aload 4 dX8_mark_93 rfl ?_
            refine V_getf (v := .ref ((92 + 2 * x1.toNatClampNeg) + 1)) gf_X8_277 dX8_mark_95 (sh_r23 sh_a6 (wf_in_lt hi4)) rfl ?_
            refine V_iload_n 2 dX8_mark_98 rfl ?_
            refine V_iload_n 3 dX8_mark_99 rfl ?_
            refine V_iast dX8_mark_100 (sh_4_2 (sh_r23 sh_a6 (wf_in_lt hi4))) ⟨h.1, ?_⟩
            refine V_topm (fun mem11 emem11 => ?_)
            have h := h.2 mem11 emem11
            refine V_iconst (v := 1) dX8_mark_101 rfl ?_
            exact V_iret dX8_mark_102 rfl h
          · have h := h.2 c10
            refine V_iload_n 3 dX8_mark_77 rfl ?_
            refine V_ldcw w_395 dX8_mark_78 ?_
            refine V_ldcw w_396 dX8_mark_81 ?_
            refine V_cSi [.int x3, .int (-99999), .int 99999] ms_X8_within w_268 dX8_mark_84 wf_rok_m rfl rfl (Nat.le_of_ble_eq_true rfl) h ?_
            intro r13 mem12 h
            refine V_if_ne (tgt := 93) dX8_mark_87 rfl ⟨fun c14 => ?_, fun c14 => ?_⟩
            · have h := h.1 c14
              refine V_aload 4 dX8_mark_93 rfl ?_
              refine V_getf (v := .ref ((92 + 2 * x1.toNatClampNeg) + 1)) gf_X8_277 dX8_mark_95 (sh_r23 sh_a6 (wf_in_lt hi4)) rfl ?_
              refine V_iload_n 2 dX8_mark_98 rfl ?_
              refine V_iload_n 3 dX8_mark_99 rfl ?_
              refine V_iast dX8_mark_100 (sh_4_2 (sh_r23 sh_a6 (wf_in_lt hi4))) ⟨h.1, ?_⟩
              refine V_topm (fun mem15 emem15 => ?_)
              have h := h.2 mem15 emem15
              refine V_iconst (v := 1) dX8_mark_101 rfl ?_
              exact V_iret dX8_mark_102 rfl h
            · have h := h.2 c14
              refine V_ldc w_275 dX8_mark_90 ?_
              exact V_iret dX8_mark_92 rfl h
        · have h := h.2 c9
          refine V_iload_n 3 dX8_mark_51 rfl ?_
          refine V_ldc w_344 dX8_mark_52 ?_
          refine V_icmp_ne (tgt := 60) dX8_mark_54 rfl ⟨fun c16 => ?_, fun c16 => ?_⟩
          · have h := h.1 c16
            refine V_aload 4 dX8_mark_60 rfl ?_
            refine V_getf (v := .ref ((92 + 2 * x1.toNatClampNeg) + 1)) gf_X8_277 dX8_mark_62 (sh_r23 sh_a6 (wf_in_lt hi4)) rfl ?_
            refine V_iload_n 2 dX8_mark_65 rfl ?_
            refine V_iload_n 3 dX8_mark_66 rfl ?_
            refine V_i2s dX8_mark_67 ?_
            refine V_iast dX8_mark_68 (sh_4_2 (sh_r23 sh_a6 (wf_in_lt hi4))) ⟨h.1, ?_⟩
            refine V_topm (fun mem17 emem17 => ?_)
            have h := h.2 mem17 emem17
            refine V_iconst (v := 1) dX8_mark_69 rfl ?_
            exact V_iret dX8_mark_70 rfl h
          · have h := h.2 c16
            refine V_ldc w_315 dX8_mark_57 ?_
            exact V_iret dX8_mark_59 rfl h
      · have h := h.2 c8
        refine V_ldcw w_397 dX8_mark_39 ?_
        exact V_iret dX8_mark_42 rfl h
    · have h := h.2 c5
      refine V_ldc w_363 dX8_mark_27 ?_
      exact V_iret dX8_mark_29 rfl h
  · have h := h.2 c3
    refine V_ldc w_275 dX8_mark_7 ?_
    exact V_iret dX8_mark_9 rfl h
set_option maxRecDepth 20000 in
theorem b_X8_pour_0 {d : Nat} {P : Int32 → wf_Mem → Prop} (mem : wf_Mem) (x1 : Int32)
    (h : (Ci mX8_isSheet d [.int x1] mem (fun r2 mem1 => ((¬ r2 = 0 → (vp_in x1 4 ∧ ((¬ (mem1 (92 + 2 * x1.toNatClampNeg) 0) = (-1) → Vw (Ni (d + 1) P) mX8_pour 33 [(0, .ref 0), (2, .ref (92 + 2 * x1.toNatClampNeg)), (3, .int 0), (4, .int 0)] [] mem1) ∧ ((mem1 (92 + 2 * x1.toNatClampNeg) 0) = (-1) → P (-1000000011) mem1)))) ∧ (r2 = 0 → P (-1000000001) mem1))))) :
    Vw (Ni (d + 1) P) mX8_pour 0 [(0, .ref 0), (1, .int x1)] [] mem := by
  refine V_iload_n 1 dX8_pour_0 rfl ?_
  refine V_cSi [.int x1] ms_X8_isSheet w_360 dX8_pour_1 wf_rok_m rfl rfl (Nat.le_of_ble_eq_true rfl) h ?_
  intro r2 mem1 h
  refine V_if_ne (tgt := 10) dX8_pour_4 rfl ⟨fun c3 => ?_, fun c3 => ?_⟩
  · have h := h.1 c3
    refine V_aload_n 0 dX8_pour_10 rfl ?_
    refine V_getf (v := .ref 6) gf_X8_25 dX8_pour_11 sh_a0 rfl ?_
    refine V_iload_n 1 dX8_pour_14 rfl ?_
    have hi4 := h.1
    refine V_aald (b := (92 + 2 * x1.toNatClampNeg)) dX8_pour_15 sh_a6 (by decide) (by decide) rfl ⟨hi4, ?_⟩
    have h := h.2
    refine V_astore_n (lv' := [(0, .ref 0), (1, .int x1), (2, .ref (92 + 2 * x1.toNatClampNeg))]) dX8_pour_16 (by decide) rfl rfl ?_
    refine V_aload_n 2 dX8_pour_17 rfl ?_
    refine V_getf (v := .int (mem1 (92 + 2 * x1.toNatClampNeg) 0)) gf_X8_241 dX8_pour_18 (sh_r23 sh_a6 (wf_in_lt hi4)) rfl ?_
    refine V_iconst (v := (-1)) dX8_pour_21 rfl ?_
    refine V_icmp_ne (tgt := 28) dX8_pour_22 rfl ⟨fun c5 => ?_, fun c5 => ?_⟩
    · have h := h.1 c5
      refine V_iconst (v := 0) dX8_pour_28 rfl ?_
      refine V_istore_n (lv' := [(0, .ref 0), (1, .int x1), (2, .ref (92 + 2 * x1.toNatClampNeg)), (3, .int 0)]) dX8_pour_29 (by decide) rfl rfl ?_
      refine V_iconst (v := 0) dX8_pour_30 rfl ?_
      refine V_istore (lv' := [(0, .ref 0), (1, .int x1), (2, .ref (92 + 2 * x1.toNatClampNeg)), (3, .int 0), (4, .int 0)]) dX8_pour_31 (by decide) rfl rfl ?_
      exact V_sub [0, 2, 3, 4] rfl h
    · have h := h.2 c5
      refine V_ldc w_363 dX8_pour_25 ?_
      exact V_iret dX8_pour_27 rfl h
  · have h := h.2 c3
    refine V_ldc w_275 dX8_pour_7 ?_
    exact V_iret dX8_pour_9 rfl h
set_option maxRecDepth 20000 in
theorem b_X8_pour_33 {d : Nat} {P : Int32 → wf_Mem → Prop} (mem : wf_Mem) (x2 : Nat) (hx2 : wf_sh x2 = (4, 0)) (x3 : Int32) (x4 : Int32)
    (h : (((mem 42 0) ≤ x4 → P x3 mem) ∧ (¬ (mem 42 0) ≤ x4 → (((mem x2 1) ≤ x4 → P x3 mem) ∧ (¬ (mem x2 1) ≤ x4 → (vp_in x4 24 ∧ (Ci mX8_held d [.int (mem (x2 + 1) x4.toNatClampNeg), .int 0, .int 99] mem (fun r4 mem3 => (vp_in x4 24 ∧ (((mem3 (x2 + 1) x4.toNatClampNeg) = (-1000000005) → Vw (Ni (d + 1) P) mX8_pour 33 [(0, .ref 0), (2, .ref x2), (3, .int x3), (4, .int (x4 + 1))] [] mem3) ∧ (¬ (mem3 (x2 + 1) x4.toNatClampNeg) = (-1000000005) → (vp_in x4 12 ∧ ((r4 = (mem3 43 x4.toNatClampNeg) → Vw (Ni (d + 1) P) mX8_pour 33 [(0, .ref 0), (2, .ref x2), (3, .int x3), (4, .int (x4 + 1))] [] mem3) ∧ (¬ r4 = (mem3 43 x4.toNatClampNeg) → (vp_in x4 12 ∧ ∀ mem7 : wf_Mem, mem7 = wf_ms mem3 43 x4.toNatClampNeg r4 → Vw (Ni (d + 1) P) mX8_pour 33 [(0, .ref 0), (2, .ref x2), (3, .int (x3 + 1)), (4, .int (x4 + 1))] [] mem7))))))))))))))) :
    Vw (Ni (d + 1) P) mX8_pour 33 [(0, .ref 0), (2, .ref x2), (3, .int x3), (4, .int x4)] [] mem := by
  refine V_iload 3 dX8_pour_33 rfl ?_
  refine V_aload_n 0 dX8_pour_35 rfl ?_
  refine V_getf (v := .ref 41) gf_X8_60 dX8_pour_36 sh_a0 rfl ?_
  refine V_getf (v := .ref 42) gf_X8_82 dX8_pour_39 sh_a41 rfl ?_
  refine V_getf (v := .int (mem 42 0)) gf_X8_117 dX8_pour_42 sh_a42 rfl ?_
  refine V_icmp_ge (tgt := 126) dX8_pour_45 rfl ⟨fun c1 => ?_, fun c1 => ?_⟩
  · have h := h.1 c1
    refine V_iload_n 2 dX8_pour_126 rfl ?_
    exact V_iret dX8_pour_127 rfl h
  · have h := h.2 c1
    refine V_iload 3 dX8_pour_48 rfl ?_
    refine V_aload_n 1 dX8_pour_50 rfl ?_
    refine V_getf (v := .int (mem x2 1)) gf_X8_282 dX8_pour_51 hx2 rfl ?_
    refine V_icmp_ge (tgt := 126) dX8_pour_54 rfl ⟨fun c2 => ?_, fun c2 => ?_⟩
    · have h := h.1 c2
      refine V_iload_n 2 dX8_pour_126 rfl ?_
      exact V_iret dX8_pour_127 rfl h
    · have h := h.2 c2
      refine V_aload_n 1 dX8_pour_57 rfl ?_
      refine V_getf (v := .ref (x2 + 1)) gf_X8_277 dX8_pour_58 hx2 rfl ?_
      refine V_iload 3 dX8_pour_61 rfl ?_
      refine V_iald dX8_pour_63 (sh_4_2 hx2) ⟨h.1, ?_⟩
      have h := h.2
      refine V_iconst (v := 0) dX8_pour_64 rfl ?_
      refine V_bipush (v := 99) dX8_pour_65 rfl ?_
      refine V_cSi [.int (mem (x2 + 1) x4.toNatClampNeg), .int 0, .int 99] ms_X8_held w_399 dX8_pour_67 wf_rok_m rfl rfl (Nat.le_of_ble_eq_true rfl) h ?_
      intro r4 mem3 h
      refine V_istore (lv' := [(0, .ref 0), (2, .ref x2), (3, .int x3), (4, .int x4), (5, .int r4)]) dX8_pour_70 (by decide) rfl rfl ?_
      refine V_aload_n 1 dX8_pour_72 rfl ?_
      refine V_getf (v := .ref (x2 + 1)) gf_X8_277 dX8_pour_73 hx2 rfl ?_
      refine V_iload 3 dX8_pour_76 rfl ?_
      refine V_iald dX8_pour_78 (sh_4_2 hx2) ⟨h.1, ?_⟩
      have h := h.2
      refine V_ldc w_344 dX8_pour_79 ?_
      refine V_icmp_eq (tgt := 120) dX8_pour_81 rfl ⟨fun c5 => ?_, fun c5 => ?_⟩
      · have h := h.1 c5
        refine V_iinc (v := (x4 + 1)) (lv' := [(0, .ref 0), (2, .ref x2), (3, .int x3), (4, .int (x4 + 1)), (5, .int r4)]) 3 dX8_pour_120 rfl rfl (by decide) rfl rfl ?_
        refine V_goto (tgt := 33) dX8_pour_123 rfl ?_
        exact V_sub [0, 1, 2, 3] rfl h
      · have h := h.2 c5
        refine V_iload 4 dX8_pour_84 rfl ?_
        refine V_aload_n 0 dX8_pour_86 rfl ?_
        refine V_getf (v := .ref 41) gf_X8_60 dX8_pour_87 sh_a0 rfl ?_
        refine V_getf (v := .ref 42) gf_X8_82 dX8_pour_90 sh_a41 rfl ?_
        refine V_getf (v := .ref 43) gf_X8_286 dX8_pour_93 sh_a42 rfl ?_
        refine V_iload 3 dX8_pour_96 rfl ?_
        refine V_iald dX8_pour_98 sh_a43 ⟨h.1, ?_⟩
        have h := h.2
        refine V_icmp_eq (tgt := 120) dX8_pour_99 rfl ⟨fun c6 => ?_, fun c6 => ?_⟩
        · have h := h.1 c6
          refine V_iinc (v := (x4 + 1)) (lv' := [(0, .ref 0), (2, .ref x2), (3, .int x3), (4, .int (x4 + 1)), (5, .int r4)]) 3 dX8_pour_120 rfl rfl (by decide) rfl rfl ?_
          refine V_goto (tgt := 33) dX8_pour_123 rfl ?_
          exact V_sub [0, 1, 2, 3] rfl h
        · have h := h.2 c6
          refine V_aload_n 0 dX8_pour_102 rfl ?_
          refine V_getf (v := .ref 41) gf_X8_60 dX8_pour_103 sh_a0 rfl ?_
          refine V_getf (v := .ref 42) gf_X8_82 dX8_pour_106 sh_a41 rfl ?_
          refine V_getf (v := .ref 43) gf_X8_286 dX8_pour_109 sh_a42 rfl ?_
          refine V_iload 3 dX8_pour_112 rfl ?_
          refine V_iload 4 dX8_pour_114 rfl ?_
          refine V_iast dX8_pour_116 sh_a43 ⟨h.1, ?_⟩
          refine V_topm (fun mem7 emem7 => ?_)
          have h := h.2 mem7 emem7
          refine V_iinc (v := (x3 + 1)) (lv' := [(0, .ref 0), (2, .ref x2), (3, .int (x3 + 1)), (4, .int x4), (5, .int r4)]) 2 dX8_pour_117 rfl rfl (by decide) rfl rfl ?_
          refine V_iinc (v := (x4 + 1)) (lv' := [(0, .ref 0), (2, .ref x2), (3, .int (x3 + 1)), (4, .int (x4 + 1)), (5, .int r4)]) 3 dX8_pour_120 rfl rfl (by decide) rfl rfl ?_
          refine V_goto (tgt := 33) dX8_pour_123 rfl ?_
          exact V_sub [0, 1, 2, 3] rfl h
set_option maxRecDepth 20000 in
theorem b_X8_reads_0 {d : Nat} {P : Int32 → wf_Mem → Prop} (mem : wf_Mem) (x1 : Int32)
    (h : (Ci mX8_isSheet d [.int x1] mem (fun r2 mem1 => ((¬ r2 = 0 → (vp_in x1 4 ∧ ((¬ (mem1 (92 + 2 * x1.toNatClampNeg) 0) = (-1) → (Cv mX0_measure d [.ref 41] mem1 (fun mem6 => Vw (Ni (d + 1) P) mX8_reads 37 [(0, .ref 0), (2, .ref (92 + 2 * x1.toNatClampNeg)), (3, .int 0)] [] mem6))) ∧ ((mem1 (92 + 2 * x1.toNatClampNeg) 0) = (-1) → P (-1000000011) mem1)))) ∧ (r2 = 0 → P (-1000000001) mem1))))) :
    Vw (Ni (d + 1) P) mX8_reads 0 [(0, .ref 0), (1, .int x1)] [] mem := by
  refine V_iload_n 1 dX8_reads_0 rfl ?_
  refine V_cSi [.int x1] ms_X8_isSheet w_360 dX8_reads_1 wf_rok_m rfl rfl (Nat.le_of_ble_eq_true rfl) h ?_
  intro r2 mem1 h
  refine V_if_ne (tgt := 10) dX8_reads_4 rfl ⟨fun c3 => ?_, fun c3 => ?_⟩
  · have h := h.1 c3
    refine V_aload_n 0 dX8_reads_10 rfl ?_
    refine V_getf (v := .ref 6) gf_X8_25 dX8_reads_11 sh_a0 rfl ?_
    refine V_iload_n 1 dX8_reads_14 rfl ?_
    have hi4 := h.1
    refine V_aald (b := (92 + 2 * x1.toNatClampNeg)) dX8_reads_15 sh_a6 (by decide) (by decide) rfl ⟨hi4, ?_⟩
    have h := h.2
    refine V_astore_n (lv' := [(0, .ref 0), (1, .int x1), (2, .ref (92 + 2 * x1.toNatClampNeg))]) dX8_reads_16 (by decide) rfl rfl ?_
    refine V_aload_n 2 dX8_reads_17 rfl ?_
    refine V_getf (v := .int (mem1 (92 + 2 * x1.toNatClampNeg) 0)) gf_X8_241 dX8_reads_18 (sh_r23 sh_a6 (wf_in_lt hi4)) rfl ?_
    refine V_iconst (v := (-1)) dX8_reads_21 rfl ?_
    refine V_icmp_ne (tgt := 28) dX8_reads_22 rfl ⟨fun c5 => ?_, fun c5 => ?_⟩
    · have h := h.1 c5
      refine V_aload_n 0 dX8_reads_28 rfl ?_
      refine V_getf (v := .ref 41) gf_X8_60 dX8_reads_29 sh_a0 rfl ?_
      refine V_cVv [] mv_X0_measure w_277 dX8_reads_32 wf_rok_m sh_a41 rfl (by decide) rfl rfl (Nat.le_of_ble_eq_true rfl) h ?_
      intro mem6 h
      refine V_iconst (v := 0) dX8_reads_35 rfl ?_
      refine V_istore_n (lv' := [(0, .ref 0), (1, .int x1), (2, .ref (92 + 2 * x1.toNatClampNeg)), (3, .int 0)]) dX8_reads_36 (by decide) rfl rfl ?_
      exact V_sub [0, 2, 3] rfl h
    · have h := h.2 c5
      refine V_ldc w_363 dX8_reads_25 ?_
      exact V_iret dX8_reads_27 rfl h
  · have h := h.2 c3
    refine V_ldc w_275 dX8_reads_7 ?_
    exact V_iret dX8_reads_9 rfl h
set_option maxRecDepth 20000 in
theorem b_X8_reads_37 {d : Nat} {P : Int32 → wf_Mem → Prop} (mem : wf_Mem) (x2 : Nat) (hx2 : wf_sh x2 = (4, 0)) (x3 : Int32)
    (h : (((mem x2 1) ≤ x3 → P (-1000000005) mem) ∧ (¬ (mem x2 1) ≤ x3 → (Ci mX3_has d [.ref 42, .int x3] mem (fun r3 mem2 => ((r3 = 0 → Vw (Ni (d + 1) P) mX8_reads 82 [(0, .ref 0), (2, .ref x2), (3, .int x3)] [.int 0] mem2) ∧ (¬ r3 = 0 → (vp_in x3 24 ∧ (vp_in x3 12 ∧ ((¬ (mem2 (x2 + 1) x3.toNatClampNeg) = (mem2 48 x3.toNatClampNeg) → Vw (Ni (d + 1) P) mX8_reads 82 [(0, .ref 0), (2, .ref x2), (3, .int x3)] [.int 0] mem2) ∧ ((mem2 (x2 + 1) x3.toNatClampNeg) = (mem2 48 x3.toNatClampNeg) → Vw (Ni (d + 1) P) mX8_reads 82 [(0, .ref 0), (2, .ref x2), (3, .int x3)] [.int 1] mem2))))))))))) :
    Vw (Ni (d + 1) P) mX8_reads 37 [(0, .ref 0), (2, .ref x2), (3, .int x3)] [] mem := by
  refine V_iload_n 2 dX8_reads_37 rfl ?_
  refine V_aload_n 1 dX8_reads_38 rfl ?_
  refine V_getf (v := .int (mem x2 1)) gf_X8_282 dX8_reads_39 hx2 rfl ?_
  refine V_icmp_ge (tgt := 108) dX8_reads_42 rfl ⟨fun c1 => ?_, fun c1 => ?_⟩
  · have h := h.1 c1
    refine V_ldc w_344 dX8_reads_108 ?_
    exact V_iret dX8_reads_110 rfl h
  · have h := h.2 c1
    refine V_aload_n 0 dX8_reads_45 rfl ?_
    refine V_getf (v := .ref 41) gf_X8_60 dX8_reads_46 sh_a0 rfl ?_
    refine V_getf (v := .ref 42) gf_X8_82 dX8_reads_49 sh_a41 rfl ?_
    refine V_iload_n 2 dX8_reads_52 rfl ?_
    refine V_cVi [.int x3] mv_X3_has w_276 dX8_reads_53 wf_rok_m sh_a42 rfl (by decide) rfl rfl (Nat.le_of_ble_eq_true rfl) h ?_
    intro r3 mem2 h
    refine V_if_eq (tgt := 81) dX8_reads_56 rfl ⟨fun c4 => ?_, fun c4 => ?_⟩
    · have h := h.1 c4
      refine V_iconst (v := 0) dX8_reads_81 rfl ?_
      exact h
    · have h := h.2 c4
      refine V_aload_n 1 dX8_reads_59 rfl ?_
      refine V_getf (v := .ref (x2 + 1)) gf_X8_277 dX8_reads_60 hx2 rfl ?_
      refine V_iload_n 2 dX8_reads_63 rfl ?_
      refine V_iald dX8_reads_64 (sh_4_2 hx2) ⟨h.1, ?_⟩
      have h := h.2
      refine V_aload_n 0 dX8_reads_65 rfl ?_
      refine V_getf (v := .ref 41) gf_X8_60 dX8_reads_66 sh_a0 rfl ?_
      refine V_getf (v := .ref 48) gf_X8_103 dX8_reads_69 sh_a41 rfl ?_
      refine V_iload_n 2 dX8_reads_72 rfl ?_
      refine V_iald dX8_reads_73 sh_a48 ⟨h.1, ?_⟩
      have h := h.2
      refine V_icmp_ne (tgt := 81) dX8_reads_74 rfl ⟨fun c5 => ?_, fun c5 => ?_⟩
      · have h := h.1 c5
        refine V_iconst (v := 0) dX8_reads_81 rfl ?_
        exact h
      · have h := h.2 c5
        refine V_iconst (v := 1) dX8_reads_77 rfl ?_
        refine V_goto (tgt := 82) dX8_reads_78 rfl ?_
        exact h
set_option maxRecDepth 20000 in
theorem b_X8_reads_82 {d : Nat} {P : Int32 → wf_Mem → Prop} (mem : wf_Mem) (x2 : Nat) (hx2 : wf_sh x2 = (4, 0)) (x3 : Int32) (y0 : Int32)
    (h : (vp_in x3 24 ∧ (((mem (x2 + 1) x3.toNatClampNeg) = (-1000000005) → Vw (Ni (d + 1) P) mX8_reads 37 [(0, .ref 0), (2, .ref x2), (3, .int (x3 + 1))] [] mem) ∧ (¬ (mem (x2 + 1) x3.toNatClampNeg) = (-1000000005) → ((¬ y0 = 0 → Vw (Ni (d + 1) P) mX8_reads 37 [(0, .ref 0), (2, .ref x2), (3, .int (x3 + 1))] [] mem) ∧ (y0 = 0 → P x3 mem)))))) :
    Vw (Ni (d + 1) P) mX8_reads 82 [(0, .ref 0), (2, .ref x2), (3, .int x3)] [.int y0] mem := by
  refine V_istore (lv' := [(0, .ref 0), (2, .ref x2), (3, .int x3), (4, .int y0)]) dX8_reads_82 (by decide) rfl rfl ?_
  refine V_aload_n 1 dX8_reads_84 rfl ?_
  refine V_getf (v := .ref (x2 + 1)) gf_X8_277 dX8_reads_85 hx2 rfl ?_
  refine V_iload_n 2 dX8_reads_88 rfl ?_
  refine V_iald dX8_reads_89 (sh_4_2 hx2) ⟨h.1, ?_⟩
  have h := h.2
  refine V_ldc w_344 dX8_reads_90 ?_
  refine V_icmp_eq (tgt := 102) dX8_reads_92 rfl ⟨fun c1 => ?_, fun c1 => ?_⟩
  · have h := h.1 c1
    refine V_iinc (v := (x3 + 1)) (lv' := [(0, .ref 0), (2, .ref x2), (3, .int (x3 + 1)), (4, .int y0)]) 2 dX8_reads_102 rfl rfl (by decide) rfl rfl ?_
    refine V_goto (tgt := 37) dX8_reads_105 rfl ?_
    exact V_sub [0, 1, 2] rfl h
  · have h := h.2 c1
    refine V_iload 3 dX8_reads_95 rfl ?_
    refine V_if_ne (tgt := 102) dX8_reads_97 rfl ⟨fun c2 => ?_, fun c2 => ?_⟩
    · have h := h.1 c2
      refine V_iinc (v := (x3 + 1)) (lv' := [(0, .ref 0), (2, .ref x2), (3, .int (x3 + 1)), (4, .int y0)]) 2 dX8_reads_102 rfl rfl (by decide) rfl rfl ?_
      refine V_goto (tgt := 37) dX8_reads_105 rfl ?_
      exact V_sub [0, 1, 2] rfl h
    · have h := h.2 c2
      refine V_iload_n 2 dX8_reads_100 rfl ?_
      exact V_iret dX8_reads_101 rfl h
set_option maxRecDepth 20000 in
theorem b_X8_copy_0 {d : Nat} {P : Int32 → wf_Mem → Prop} (mem : wf_Mem) (x1 : Int32) (x2 : Int32) (x3 : Int32) (x4 : Int32) (x5 : Int32)
    (h : (Ci mX8_isSheet d [.int x1] mem (fun r2 mem1 => ((r2 = 0 → P (-1000000001) mem1) ∧ (¬ r2 = 0 → (Ci mX8_isSheet d [.int x3] mem1 (fun r5 mem4 => ((¬ r5 = 0 → (vp_in x1 4 ∧ (vp_in x3 4 ∧ (((mem4 (92 + 2 * x1.toNatClampNeg) 0) = (-1) → P (-1000000011) mem4) ∧ (¬ (mem4 (92 + 2 * x1.toNatClampNeg) 0) = (-1) → ((¬ (mem4 (92 + 2 * x3.toNatClampNeg) 0) = (-1) → (((mem4 (92 + 2 * x1.toNatClampNeg) 0) = (mem4 (92 + 2 * x3.toNatClampNeg) 0) → (Ci mX4_hasRun d [.ref (92 + 2 * x1.toNatClampNeg), .int x2, .int x5] mem4 (fun r13 mem12 => ((r13 = 0 → P (-1000000013) mem12) ∧ (¬ r13 = 0 → (Ci mX4_hasRun d [.ref (92 + 2 * x3.toNatClampNeg), .int x4, .int x5] mem12 (fun r16 mem15 => ((¬ r16 = 0 → ((¬ x2 < 0 ∧ ¬ x4 < 0 ∧ ¬ x5 < 0 ∧ x2.toNatClampNeg + x5.toNatClampNeg ≤ 24 ∧ x4.toNatClampNeg + x5.toNatClampNeg ≤ 24) ∧ ∀ mem18 : wf_Mem, mem18 = wf_mc mem15 ((92 + 2 * x1.toNatClampNeg) + 1) x2.toNatClampNeg ((92 + 2 * x3.toNatClampNeg) + 1) x4.toNatClampNeg x5.toNatClampNeg → P x5 mem18)) ∧ (r16 = 0 → P (-1000000013) mem15))))))))) ∧ (¬ (mem4 (92 + 2 * x1.toNatClampNeg) 0) = (mem4 (92 + 2 * x3.toNatClampNeg) 0) → P (-1000000012) mem4))) ∧ ((mem4 (92 + 2 * x3.toNatClampNeg) 0) = (-1) → P (-1000000011) mem4))))))) ∧ (r5 = 0 → P (-1000000001) mem4))))))))) :
    Vw (Ni (d + 1) P) mX8_copy 0 [(0, .ref 0), (1, .int x1), (2, .int x2), (3, .int x3), (4, .int x4), (5, .int x5)] [] mem := by
  refine V_iload_n 1 dX8_copy_0 rfl ?_
  refine V_cSi [.int x1] ms_X8_isSheet w_360 dX8_copy_1 wf_rok_m rfl rfl (Nat.le_of_ble_eq_true rfl) h ?_
  intro r2 mem1 h
  refine V_if_eq (tgt := 14) dX8_copy_4 rfl ⟨fun c3 => ?_, fun c3 => ?_⟩
  · have h := h.1 c3
    refine V_ldc w_275 dX8_copy_14 ?_
    exact V_iret dX8_copy_16 rfl h
  · have h := h.2 c3
    refine V_iload_n 3 dX8_copy_7 rfl ?_
    refine V_cSi [.int x3] ms_X8_isSheet w_360 dX8_copy_8 wf_rok_m rfl rfl (Nat.le_of_ble_eq_true rfl) h ?_
    intro r5 mem4 h
    refine V_if_ne (tgt := 17) dX8_copy_11 rfl ⟨fun c6 => ?_, fun c6 => ?_⟩
    · have h := h.1 c6
      refine V_aload_n 0 dX8_copy_17 rfl ?_
      refine V_getf (v := .ref 6) gf_X8_25 dX8_copy_18 sh_a0 rfl ?_
      refine V_iload_n 1 dX8_copy_21 rfl ?_
      have hi7 := h.1
      refine V_aald (b := (92 + 2 * x1.toNatClampNeg)) dX8_copy_22 sh_a6 (by decide) (by decide) rfl ⟨hi7, ?_⟩
      have h := h.2
      refine V_astore (lv' := [(0, .ref 0), (1, .int x1), (2, .int x2), (3, .int x3), (4, .int x4), (5, .int x5), (6, .ref (92 + 2 * x1.toNatClampNeg))]) dX8_copy_23 (by decide) rfl rfl ?_
      refine V_aload_n 0 dX8_copy_25 rfl ?_
      refine V_getf (v := .ref 6) gf_X8_25 dX8_copy_26 sh_a0 rfl ?_
      refine V_iload_n 3 dX8_copy_29 rfl ?_
      have hi8 := h.1
      refine V_aald (b := (92 + 2 * x3.toNatClampNeg)) dX8_copy_30 sh_a6 (by decide) (by decide) rfl ⟨hi8, ?_⟩
      have h := h.2
      refine V_astore (lv' := [(0, .ref 0), (1, .int x1), (2, .int x2), (3, .int x3), (4, .int x4), (5, .int x5), (6, .ref (92 + 2 * x1.toNatClampNeg)), (7, .ref (92 + 2 * x3.toNatClampNeg))]) dX8_copy_31 (by decide) rfl rfl ?_
      refine V_aload 6 dX8_copy_33 rfl ?_
      refine V_getf (v := .int (mem4 (92 + 2 * x1.toNatClampNeg) 0)) gf_X8_241 dX8_copy_35 (sh_r23 sh_a6 (wf_in_lt hi7)) rfl ?_
      refine V_iconst (v := (-1)) dX8_copy_38 rfl ?_
      refine V_icmp_eq (tgt := 51) dX8_copy_39 rfl ⟨fun c9 => ?_, fun c9 => ?_⟩
      · have h := h.1 c9
        refine V_ldc w_363 dX8_copy_51 ?_
        exact V_iret dX8_copy_53 rfl h
      · have h := h.2 c9
        refine V_aload 7 dX8_copy_42 rfl ?_
        refine V_getf (v := .int (mem4 (92 + 2 * x3.toNatClampNeg) 0)) gf_X8_241 dX8_copy_44 (sh_r23 sh_a6 (wf_in_lt hi8)) rfl ?_
        refine V_iconst (v := (-1)) dX8_copy_47 rfl ?_
        refine V_icmp_ne (tgt := 54) dX8_copy_48 rfl ⟨fun c10 => ?_, fun c10 => ?_⟩
        · have h := h.1 c10
          refine V_aload 6 dX8_copy_54 rfl ?_
          refine V_getf (v := .int (mem4 (92 + 2 * x1.toNatClampNeg) 0)) gf_X8_241 dX8_copy_56 (sh_r23 sh_a6 (wf_in_lt hi7)) rfl ?_
          refine V_aload 7 dX8_copy_59 rfl ?_
          refine V_getf (v := .int (mem4 (92 + 2 * x3.toNatClampNeg) 0)) gf_X8_241 dX8_copy_61 (sh_r23 sh_a6 (wf_in_lt hi8)) rfl ?_
          refine V_icmp_eq (tgt := 70) dX8_copy_64 rfl ⟨fun c11 => ?_, fun c11 => ?_⟩
          · have h := h.1 c11
            refine V_aload 6 dX8_copy_70 rfl ?_
            refine V_iload_n 2 dX8_copy_72 rfl ?_
            refine V_iload 5 dX8_copy_73 rfl ?_
            refine V_cVi [.int x2, .int x5] mv_X4_hasRun w_404 dX8_copy_75 wf_rok_m (sh_r23 sh_a6 (wf_in_lt hi7)) rfl (by decide) rfl rfl (Nat.le_of_ble_eq_true rfl) h ?_
            intro r13 mem12 h
            refine V_if_eq (tgt := 93) dX8_copy_78 rfl ⟨fun c14 => ?_, fun c14 => ?_⟩
            · have h := h.1 c14
              refine V_ldcw w_397 dX8_copy_93 ?_
              exact V_iret dX8_copy_96 rfl h
            · have h := h.2 c14
              refine V_aload 7 dX8_copy_81 rfl ?_
              refine V_iload 4 dX8_copy_83 rfl ?_
              refine V_iload 5 dX8_copy_85 rfl ?_
              refine V_cVi [.int x4, .int x5] mv_X4_hasRun w_404 dX8_copy_87 wf_rok_m (sh_r23 sh_a6 (wf_in_lt hi8)) rfl (by decide) rfl rfl (Nat.le_of_ble_eq_true rfl) h ?_
              intro r16 mem15 h
              refine V_if_ne (tgt := 97) dX8_copy_90 rfl ⟨fun c17 => ?_, fun c17 => ?_⟩
              · have h := h.1 c17
                refine V_aload 6 dX8_copy_97 rfl ?_
                refine V_getf (v := .ref ((92 + 2 * x1.toNatClampNeg) + 1)) gf_X8_277 dX8_copy_99 (sh_r23 sh_a6 (wf_in_lt hi7)) rfl ?_
                refine V_iload_n 2 dX8_copy_102 rfl ?_
                refine V_aload 7 dX8_copy_103 rfl ?_
                refine V_getf (v := .ref ((92 + 2 * x3.toNatClampNeg) + 1)) gf_X8_277 dX8_copy_105 (sh_r23 sh_a6 (wf_in_lt hi8)) rfl ?_
                refine V_iload 4 dX8_copy_108 rfl ?_
                refine V_iload 5 dX8_copy_110 rfl ?_
                refine V_copy w_405 wm_copy dX8_copy_112 wf_rok_m (Nat.le_of_ble_eq_true rfl) (sh_4_2 (sh_r23 sh_a6 (wf_in_lt hi7))) (sh_4_2 (sh_r23 sh_a6 (wf_in_lt hi8))) ⟨h.1, ?_⟩
                refine V_topm (fun mem18 emem18 => ?_)
                have h := h.2 mem18 emem18
                refine V_iload 5 dX8_copy_115 rfl ?_
                exact V_iret dX8_copy_117 rfl h
              · have h := h.2 c17
                refine V_ldcw w_397 dX8_copy_93 ?_
                exact V_iret dX8_copy_96 rfl h
          · have h := h.2 c11
            refine V_ldc w_315 dX8_copy_67 ?_
            exact V_iret dX8_copy_69 rfl h
        · have h := h.2 c10
          refine V_ldc w_363 dX8_copy_51 ?_
          exact V_iret dX8_copy_53 rfl h
    · have h := h.2 c6
      refine V_ldc w_275 dX8_copy_14 ?_
      exact V_iret dX8_copy_16 rfl h
set_option maxRecDepth 20000 in
theorem b_X8_lay_0 {d : Nat} {P : Int32 → wf_Mem → Prop} (mem : wf_Mem) (x1 : Int32) (x2 : Int32) (x3 : Int32)
    (h : (Ci mX8_isSlot d [.int x1] mem (fun r2 mem1 => ((r2 = 0 → P (-1000000001) mem1) ∧ (¬ r2 = 0 → (Ci mX8_within d [.int x2, .int 0, .int 3] mem1 (fun r5 mem4 => ((¬ r5 = 0 → ((¬ x2 = 1 → Vw (Ni (d + 1) P) mX8_lay 35 [(0, .ref 0), (1, .int x1), (2, .int x2), (3, .int x3)] [] mem4) ∧ (x2 = 1 → (Ci mX0_hasWatcher d [.ref 41, .int x3] mem4 (fun r9 mem8 => ((r9 = 0 → P (-1000000001) mem8) ∧ (¬ r9 = 0 → Vw (Ni (d + 1) P) mX8_lay 35 [(0, .ref 0), (1, .int x1), (2, .int x2), (3, .int x3)] [] mem8))))))) ∧ (r5 = 0 → P (-1000000001) mem4))))))))) :
    Vw (Ni (d + 1) P) mX8_lay 0 [(0, .ref 0), (1, .int x1), (2, .int x2), (3, .int x3)] [] mem := by
  refine V_iload_n 1 dX8_lay_0 rfl ?_
  refine V_cSi [.int x1] ms_X8_isSlot w_408 dX8_lay_1 wf_rok_m rfl rfl (Nat.le_of_ble_eq_true rfl) h ?_
  intro r2 mem1 h
  refine V_if_eq (tgt := 16) dX8_lay_4 rfl ⟨fun c3 => ?_, fun c3 => ?_⟩
  · have h := h.1 c3
    refine V_ldc w_275 dX8_lay_16 ?_
    exact V_iret dX8_lay_18 rfl h
  · have h := h.2 c3
    refine V_iload_n 2 dX8_lay_7 rfl ?_
    refine V_iconst (v := 0) dX8_lay_8 rfl ?_
    refine V_iconst (v := 3) dX8_lay_9 rfl ?_
    refine V_cSi [.int x2, .int 0, .int 3] ms_X8_within w_268 dX8_lay_10 wf_rok_m rfl rfl (Nat.le_of_ble_eq_true rfl) h ?_
    intro r5 mem4 h
    refine V_if_ne (tgt := 19) dX8_lay_13 rfl ⟨fun c6 => ?_, fun c6 => ?_⟩
    · have h := h.1 c6
      refine V_iload_n 2 dX8_lay_19 rfl ?_
      refine V_iconst (v := 1) dX8_lay_20 rfl ?_
      refine V_icmp_ne (tgt := 35) dX8_lay_21 rfl ⟨fun c7 => ?_, fun c7 => ?_⟩
      · have h := h.1 c7
        exact h
      · have h := h.2 c7
        refine V_aload_n 0 dX8_lay_24 rfl ?_
        refine V_getf (v := .ref 41) gf_X8_60 dX8_lay_25 sh_a0 rfl ?_
        refine V_iload_n 3 dX8_lay_28 rfl ?_
        refine V_cVi [.int x3] mv_X0_hasWatcher w_299 dX8_lay_29 wf_rok_m sh_a41 rfl (by decide) rfl rfl (Nat.le_of_ble_eq_true rfl) h ?_
        intro r9 mem8 h
        refine V_if_eq (tgt := 47) dX8_lay_32 rfl ⟨fun c10 => ?_, fun c10 => ?_⟩
        · have h := h.1 c10
          refine V_ldc w_275 dX8_lay_47 ?_
          exact V_iret dX8_lay_49 rfl h
        · have h := h.2 c10
          exact h
    · have h := h.2 c6
      refine V_ldc w_275 dX8_lay_16 ?_
      exact V_iret dX8_lay_18 rfl h
set_option maxRecDepth 20000 in
theorem b_X8_lay_35 {d : Nat} {P : Int32 → wf_Mem → Prop} (mem : wf_Mem) (x1 : Int32) (x2 : Int32) (x3 : Int32)
    (h : ((¬ x2 = 2 → ((¬ x2 = 2 → Vw (Ni (d + 1) P) mX8_lay 71 [(0, .ref 0), (1, .int x1), (2, .int x2), (3, .int x3)] [] mem) ∧ (x2 = 2 → (vp_in x3 4 ∧ ((¬ (mem (92 + 2 * x3.toNatClampNeg) 0) = (-1) → Vw (Ni (d + 1) P) mX8_lay 71 [(0, .ref 0), (1, .int x1), (2, .int x2), (3, .int x3)] [] mem) ∧ ((mem (92 + 2 * x3.toNatClampNeg) 0) = (-1) → P (-1000000011) mem)))))) ∧ (x2 = 2 → (Ci mX8_isSheet d [.int x3] mem (fun r6 mem5 => ((¬ r6 = 0 → ((¬ x2 = 2 → Vw (Ni (d + 1) P) mX8_lay 71 [(0, .ref 0), (1, .int x1), (2, .int x2), (3, .int x3)] [] mem5) ∧ (x2 = 2 → (vp_in x3 4 ∧ ((¬ (mem5 (92 + 2 * x3.toNatClampNeg) 0) = (-1) → Vw (Ni (d + 1) P) mX8_lay 71 [(0, .ref 0), (1, .int x1), (2, .int x2), (3, .int x3)] [] mem5) ∧ ((mem5 (92 + 2 * x3.toNatClampNeg) 0) = (-1) → P (-1000000011) mem5)))))) ∧ (r6 = 0 → P (-1000000001) mem5))))))) :
    Vw (Ni (d + 1) P) mX8_lay 35 [(0, .ref 0), (1, .int x1), (2, .int x2), (3, .int x3)] [] mem := by
  refine V_iload_n 2 dX8_lay_35 rfl ?_
  refine V_iconst (v := 2) dX8_lay_36 rfl ?_
  refine V_icmp_ne (tgt := 50) dX8_lay_37 rfl ⟨fun c1 => ?_, fun c1 => ?_⟩
  · have h := h.1 c1
    refine V_iload_n 2 dX8_lay_50 rfl ?_
    refine V_iconst (v := 2) dX8_lay_51 rfl ?_
    refine V_icmp_ne (tgt := 71) dX8_lay_52 rfl ⟨fun c2 => ?_, fun c2 => ?_⟩
    · have h := h.1 c2
      exact h
    · have h := h.2 c2
      refine V_aload_n 0 dX8_lay_55 rfl ?_
      refine V_getf (v := .ref 6) gf_X8_25 dX8_lay_56 sh_a0 rfl ?_
      refine V_iload_n 3 dX8_lay_59 rfl ?_
      have hi3 := h.1
      refine V_aald (b := (92 + 2 * x3.toNatClampNeg)) dX8_lay_60 sh_a6 (by decide) (by decide) rfl ⟨hi3, ?_⟩
      have h := h.2
      refine V_getf (v := .int (mem (92 + 2 * x3.toNatClampNeg) 0)) gf_X8_241 dX8_lay_61 (sh_r23 sh_a6 (wf_in_lt hi3)) rfl ?_
      refine V_iconst (v := (-1)) dX8_lay_64 rfl ?_
      refine V_icmp_ne (tgt := 71) dX8_lay_65 rfl ⟨fun c4 => ?_, fun c4 => ?_⟩
      · have h := h.1 c4
        exact h
      · have h := h.2 c4
        refine V_ldc w_363 dX8_lay_68 ?_
        exact V_iret dX8_lay_70 rfl h
  · have h := h.2 c1
    refine V_iload_n 3 dX8_lay_40 rfl ?_
    refine V_cSi [.int x3] ms_X8_isSheet w_360 dX8_lay_41 wf_rok_m rfl rfl (Nat.le_of_ble_eq_true rfl) h ?_
    intro r6 mem5 h
    refine V_if_ne (tgt := 50) dX8_lay_44 rfl ⟨fun c7 => ?_, fun c7 => ?_⟩
    · have h := h.1 c7
      refine V_iload_n 2 dX8_lay_50 rfl ?_
      refine V_iconst (v := 2) dX8_lay_51 rfl ?_
      refine V_icmp_ne (tgt := 71) dX8_lay_52 rfl ⟨fun c8 => ?_, fun c8 => ?_⟩
      · have h := h.1 c8
        exact h
      · have h := h.2 c8
        refine V_aload_n 0 dX8_lay_55 rfl ?_
        refine V_getf (v := .ref 6) gf_X8_25 dX8_lay_56 sh_a0 rfl ?_
        refine V_iload_n 3 dX8_lay_59 rfl ?_
        have hi9 := h.1
        refine V_aald (b := (92 + 2 * x3.toNatClampNeg)) dX8_lay_60 sh_a6 (by decide) (by decide) rfl ⟨hi9, ?_⟩
        have h := h.2
        refine V_getf (v := .int (mem5 (92 + 2 * x3.toNatClampNeg) 0)) gf_X8_241 dX8_lay_61 (sh_r23 sh_a6 (wf_in_lt hi9)) rfl ?_
        refine V_iconst (v := (-1)) dX8_lay_64 rfl ?_
        refine V_icmp_ne (tgt := 71) dX8_lay_65 rfl ⟨fun c10 => ?_, fun c10 => ?_⟩
        · have h := h.1 c10
          exact h
        · have h := h.2 c10
          refine V_ldc w_363 dX8_lay_68 ?_
          exact V_iret dX8_lay_70 rfl h
    · have h := h.2 c7
      refine V_ldc w_275 dX8_lay_47 ?_
      exact V_iret dX8_lay_49 rfl h
set_option maxRecDepth 20000 in
theorem b_X8_lay_71 {d : Nat} {P : Int32 → wf_Mem → Prop} (mem : wf_Mem) (x1 : Int32) (x2 : Int32) (x3 : Int32)
    (h : (vp_in x1 5 ∧ (∀ x5_2 : Int32, x5_2 = (mem (100 + 4 * x1.toNatClampNeg) 0) → (∀ mem3 : wf_Mem, mem3 = wf_ms mem (100 + 4 * x1.toNatClampNeg) 0 x2 → ((¬ x2 = 1 → ((¬ x2 = 2 → (∀ mem6 : wf_Mem, mem6 = wf_ms mem3 (100 + 4 * x1.toNatClampNeg) 1 x3 → P x5_2 mem6)) ∧ (x2 = 2 → (vp_in x3 4 ∧ (Cv mX4_takeFrom d [.ref ((100 + 4 * x1.toNatClampNeg) + 2), .ref (92 + 2 * x3.toNatClampNeg)] mem3 (fun mem8 => P x5_2 mem8)))))) ∧ (x2 = 1 → (vp_in x3 8 ∧ (Cv mX7_takeFrom d [.ref ((100 + 4 * x1.toNatClampNeg) + 1), .ref (46 + 4 + x3.toNatClampNeg)] mem3 (fun mem10 => P x5_2 mem10))))))))) :
    Vw (Ni (d + 1) P) mX8_lay 71 [(0, .ref 0), (1, .int x1), (2, .int x2), (3, .int x3)] [] mem := by
  refine V_aload_n 0 dX8_lay_71 rfl ?_
  refine V_getf (v := .ref 7) gf_X8_31 dX8_lay_72 sh_a0 rfl ?_
  refine V_iload_n 1 dX8_lay_75 rfl ?_
  have hi1 := h.1
  refine V_aald (b := (100 + 4 * x1.toNatClampNeg)) dX8_lay_76 sh_a7 (by decide) (by decide) rfl ⟨hi1, ?_⟩
  have h := h.2
  refine V_astore (lv' := [(0, .ref 0), (1, .int x1), (2, .int x2), (3, .int x3), (4, .ref (100 + 4 * x1.toNatClampNeg))]) dX8_lay_77 (by decide) rfl rfl ?_
  refine V_aload 4 dX8_lay_79 rfl ?_
  refine V_getf (v := .int (mem (100 + 4 * x1.toNatClampNeg) 0)) gf_X8_301 dX8_lay_81 (sh_r24 sh_a7 (wf_in_lt hi1)) rfl ?_
  refine V_topi (fun x5_2 ex5_2 => ?_)
  have h := h x5_2 ex5_2
  refine V_istore (lv' := [(0, .ref 0), (1, .int x1), (2, .int x2), (3, .int x3), (4, .ref (100 + 4 * x1.toNatClampNeg)), (5, .int x5_2)]) dX8_lay_84 (by decide) rfl rfl ?_
  refine V_aload 4 dX8_lay_86 rfl ?_
  refine V_iload_n 2 dX8_lay_88 rfl ?_
  refine V_putf pf_X8_301 dX8_lay_89 (sh_r24 sh_a7 (wf_in_lt hi1)) rfl rfl ?_
  refine V_topm (fun mem3 emem3 => ?_)
  have h := h mem3 emem3
  refine V_iload_n 2 dX8_lay_92 rfl ?_
  refine V_iconst (v := 1) dX8_lay_93 rfl ?_
  refine V_icmp_ne (tgt := 117) dX8_lay_94 rfl ⟨fun c4 => ?_, fun c4 => ?_⟩
  · have h := h.1 c4
    refine V_iload_n 2 dX8_lay_117 rfl ?_
    refine V_iconst (v := 2) dX8_lay_118 rfl ?_
    refine V_icmp_ne (tgt := 139) dX8_lay_119 rfl ⟨fun c5 => ?_, fun c5 => ?_⟩
    · have h := h.1 c5
      refine V_aload 4 dX8_lay_139 rfl ?_
      refine V_iload_n 3 dX8_lay_141 rfl ?_
      refine V_putf pf_X8_318 dX8_lay_142 (sh_r24 sh_a7 (wf_in_lt hi1)) rfl rfl ?_
      refine V_topm (fun mem6 emem6 => ?_)
      have h := h mem6 emem6
      refine V_iload 5 dX8_lay_145 rfl ?_
      exact V_iret dX8_lay_147 rfl h
    · have h := h.2 c5
      refine V_aload 4 dX8_lay_122 rfl ?_
      refine V_getf (v := .ref ((100 + 4 * x1.toNatClampNeg) + 2)) gf_X8_311 dX8_lay_124 (sh_r24 sh_a7 (wf_in_lt hi1)) rfl ?_
      refine V_aload_n 0 dX8_lay_127 rfl ?_
      refine V_getf (v := .ref 6) gf_X8_25 dX8_lay_128 sh_a0 rfl ?_
      refine V_iload_n 3 dX8_lay_131 rfl ?_
      have hi7 := h.1
      refine V_aald (b := (92 + 2 * x3.toNatClampNeg)) dX8_lay_132 sh_a6 (by decide) (by decide) rfl ⟨hi7, ?_⟩
      have h := h.2
      refine V_cVv [.ref (92 + 2 * x3.toNatClampNeg)] mv_X4_takeFrom w_416 dX8_lay_133 wf_rok_m (sh_5_3 (sh_r24 sh_a7 (wf_in_lt hi1))) rfl (by decide) rfl rfl (Nat.le_of_ble_eq_true rfl) h ?_
      intro mem8 h
      refine V_goto (tgt := 145) dX8_lay_136 rfl ?_
      refine V_iload 5 dX8_lay_145 rfl ?_
      exact V_iret dX8_lay_147 rfl h
  · have h := h.2 c4
    refine V_aload 4 dX8_lay_97 rfl ?_
    refine V_getf (v := .ref ((100 + 4 * x1.toNatClampNeg) + 1)) gf_X8_304 dX8_lay_99 (sh_r24 sh_a7 (wf_in_lt hi1)) rfl ?_
    refine V_aload_n 0 dX8_lay_102 rfl ?_
    refine V_getf (v := .ref 41) gf_X8_60 dX8_lay_103 sh_a0 rfl ?_
    refine V_getf (v := .ref 46) gf_X8_143 dX8_lay_106 sh_a41 rfl ?_
    refine V_iload_n 3 dX8_lay_109 rfl ?_
    have hi9 := h.1
    refine V_aald (b := (46 + 4 + x3.toNatClampNeg)) dX8_lay_110 sh_a46 (by decide) (by decide) rfl ⟨hi9, ?_⟩
    have h := h.2
    refine V_cVv [.ref (46 + 4 + x3.toNatClampNeg)] mv_X7_takeFrom w_418 dX8_lay_111 wf_rok_m (sh_5_2 (sh_r24 sh_a7 (wf_in_lt hi1))) rfl (by decide) rfl rfl (Nat.le_of_ble_eq_true rfl) h ?_
    intro mem10 h
    refine V_goto (tgt := 145) dX8_lay_114 rfl ?_
    refine V_iload 5 dX8_lay_145 rfl ?_
    exact V_iret dX8_lay_147 rfl h
set_option maxRecDepth 20000 in
theorem b_X8_ask_0 {d : Nat} {P : Int32 → wf_Mem → Prop} (mem : wf_Mem) (x1 : Int32) (x2 : Int32)
    (h : (Ci mX8_isSlot d [.int x1] mem (fun r2 mem1 => ((r2 = 0 → P (-1000000001) mem1) ∧ (¬ r2 = 0 → (Ci mX8_isKind d [.int x2] mem1 (fun r5 mem4 => ((¬ r5 = 0 → (vp_in x1 5 ∧ ((¬ (mem4 (100 + 4 * x1.toNatClampNeg) 0) = 0 → ((¬ (mem4 (100 + 4 * x1.toNatClampNeg) 0) = 1 → P (-1000000012) mem4) ∧ ((mem4 (100 + 4 * x1.toNatClampNeg) 0) = 1 → (Ci mX7_isOf d [.ref ((100 + 4 * x1.toNatClampNeg) + 1), .int x2] mem4 (fun r11 mem10 => ((¬ r11 = 0 → (Ci mX7_worth d [.ref ((100 + 4 * x1.toNatClampNeg) + 1)] mem10 (fun r14 mem13 => P r14 mem13))) ∧ (r11 = 0 → P (-1000000012) mem10))))))) ∧ ((mem4 (100 + 4 * x1.toNatClampNeg) 0) = 0 → P (-1000000011) mem4)))) ∧ (r5 = 0 → P (-1000000001) mem4))))))))) :
    Vw (Ni (d + 1) P) mX8_ask 0 [(0, .ref 0), (1, .int x1), (2, .int x2)] [] mem := by
  refine V_iload_n 1 dX8_ask_0 rfl ?_
  refine V_cSi [.int x1] ms_X8_isSlot w_408 dX8_ask_1 wf_rok_m rfl rfl (Nat.le_of_ble_eq_true rfl) h ?_
  intro r2 mem1 h
  refine V_if_eq (tgt := 14) dX8_ask_4 rfl ⟨fun c3 => ?_, fun c3 => ?_⟩
  · have h := h.1 c3
    refine V_ldc w_275 dX8_ask_14 ?_
    exact V_iret dX8_ask_16 rfl h
  · have h := h.2 c3
    refine V_iload_n 2 dX8_ask_7 rfl ?_
    refine V_cSi [.int x2] ms_X8_isKind w_291 dX8_ask_8 wf_rok_m rfl rfl (Nat.le_of_ble_eq_true rfl) h ?_
    intro r5 mem4 h
    refine V_if_ne (tgt := 17) dX8_ask_11 rfl ⟨fun c6 => ?_, fun c6 => ?_⟩
    · have h := h.1 c6
      refine V_aload_n 0 dX8_ask_17 rfl ?_
      refine V_getf (v := .ref 7) gf_X8_31 dX8_ask_18 sh_a0 rfl ?_
      refine V_iload_n 1 dX8_ask_21 rfl ?_
      have hi7 := h.1
      refine V_aald (b := (100 + 4 * x1.toNatClampNeg)) dX8_ask_22 sh_a7 (by decide) (by decide) rfl ⟨hi7, ?_⟩
      have h := h.2
      refine V_astore_n (lv' := [(0, .ref 0), (1, .int x1), (2, .int x2), (3, .ref (100 + 4 * x1.toNatClampNeg))]) dX8_ask_23 (by decide) rfl rfl ?_
      refine V_aload_n 3 dX8_ask_24 rfl ?_
      refine V_getf (v := .int (mem4 (100 + 4 * x1.toNatClampNeg) 0)) gf_X8_301 dX8_ask_25 (sh_r24 sh_a7 (wf_in_lt hi7)) rfl ?_
      refine V_if_ne (tgt := 34) dX8_ask_28 rfl ⟨fun c8 => ?_, fun c8 => ?_⟩
      · have h := h.1 c8
        refine V_aload_n 3 dX8_ask_34 rfl ?_
        refine V_getf (v := .int (mem4 (100 + 4 * x1.toNatClampNeg) 0)) gf_X8_301 dX8_ask_35 (sh_r24 sh_a7 (wf_in_lt hi7)) rfl ?_
        refine V_iconst (v := 1) dX8_ask_38 rfl ?_
        refine V_icmp_ne (tgt := 53) dX8_ask_39 rfl ⟨fun c9 => ?_, fun c9 => ?_⟩
        · have h := h.1 c9
          refine V_ldc w_315 dX8_ask_53 ?_
          exact V_iret dX8_ask_55 rfl h
        · have h := h.2 c9
          refine V_aload_n 3 dX8_ask_42 rfl ?_
          refine V_getf (v := .ref ((100 + 4 * x1.toNatClampNeg) + 1)) gf_X8_304 dX8_ask_43 (sh_r24 sh_a7 (wf_in_lt hi7)) rfl ?_
          refine V_iload_n 2 dX8_ask_46 rfl ?_
          refine V_cVi [.int x2] mv_X7_isOf w_314 dX8_ask_47 wf_rok_m (sh_5_2 (sh_r24 sh_a7 (wf_in_lt hi7))) rfl (by decide) rfl rfl (Nat.le_of_ble_eq_true rfl) h ?_
          intro r11 mem10 h
          refine V_if_ne (tgt := 56) dX8_ask_50 rfl ⟨fun c12 => ?_, fun c12 => ?_⟩
          · have h := h.1 c12
            refine V_aload_n 3 dX8_ask_56 rfl ?_
            refine V_getf (v := .ref ((100 + 4 * x1.toNatClampNeg) + 1)) gf_X8_304 dX8_ask_57 (sh_r24 sh_a7 (wf_in_lt hi7)) rfl ?_
            refine V_cVi [] mv_X7_worth w_310 dX8_ask_60 wf_rok_m (sh_5_2 (sh_r24 sh_a7 (wf_in_lt hi7))) rfl (by decide) rfl rfl (Nat.le_of_ble_eq_true rfl) h ?_
            intro r14 mem13 h
            exact V_iret dX8_ask_63 rfl h
          · have h := h.2 c12
            refine V_ldc w_315 dX8_ask_53 ?_
            exact V_iret dX8_ask_55 rfl h
      · have h := h.2 c8
        refine V_ldc w_363 dX8_ask_31 ?_
        exact V_iret dX8_ask_33 rfl h
    · have h := h.2 c6
      refine V_ldc w_275 dX8_ask_14 ?_
      exact V_iret dX8_ask_16 rfl h
set_option maxRecDepth 20000 in
theorem b_X8_item_0 {d : Nat} {P : Int32 → wf_Mem → Prop} (mem : wf_Mem) (x1 : Int32) (x2 : Int32)
    (h : (Ci mX8_isSlot d [.int x1] mem (fun r2 mem1 => ((¬ r2 = 0 → (vp_in x1 5 ∧ ((¬ (mem1 (100 + 4 * x1.toNatClampNeg) 0) = 0 → (((mem1 (100 + 4 * x1.toNatClampNeg) 0) = 2 → (Ci mX4_has d [.ref ((100 + 4 * x1.toNatClampNeg) + 2), .int x2] mem1 (fun r8 mem7 => ((¬ r8 = 0 → (vp_in x2 24 ∧ (∀ x4_10 : Int32, x4_10 = (mem7 (((100 + 4 * x1.toNatClampNeg) + 2) + 1) x2.toNatClampNeg) → ((¬ x4_10 = (-1000000005) → P x4_10 mem7) ∧ (x4_10 = (-1000000005) → P (-1000000012) mem7))))) ∧ (r8 = 0 → P (-1000000013) mem7))))) ∧ (¬ (mem1 (100 + 4 * x1.toNatClampNeg) 0) = 2 → P (-1000000012) mem1))) ∧ ((mem1 (100 + 4 * x1.toNatClampNeg) 0) = 0 → P (-1000000011) mem1)))) ∧ (r2 = 0 → P (-1000000001) mem1))))) :
    Vw (Ni (d + 1) P) mX8_item 0 [(0, .ref 0), (1, .int x1), (2, .int x2)] [] mem := by
  refine V_iload_n 1 dX8_item_0 rfl ?_
  refine V_cSi [.int x1] ms_X8_isSlot w_408 dX8_item_1 wf_rok_m rfl rfl (Nat.le_of_ble_eq_true rfl) h ?_
  intro r2 mem1 h
  refine V_if_ne (tgt := 10) dX8_item_4 rfl ⟨fun c3 => ?_, fun c3 => ?_⟩
  · have h := h.1 c3
    refine V_aload_n 0 dX8_item_10 rfl ?_
    refine V_getf (v := .ref 7) gf_X8_31 dX8_item_11 sh_a0 rfl ?_
    refine V_iload_n 1 dX8_item_14 rfl ?_
    have hi4 := h.1
    refine V_aald (b := (100 + 4 * x1.toNatClampNeg)) dX8_item_15 sh_a7 (by decide) (by decide) rfl ⟨hi4, ?_⟩
    have h := h.2
    refine V_astore_n (lv' := [(0, .ref 0), (1, .int x1), (2, .int x2), (3, .ref (100 + 4 * x1.toNatClampNeg))]) dX8_item_16 (by decide) rfl rfl ?_
    refine V_aload_n 3 dX8_item_17 rfl ?_
    refine V_getf (v := .int (mem1 (100 + 4 * x1.toNatClampNeg) 0)) gf_X8_301 dX8_item_18 (sh_r24 sh_a7 (wf_in_lt hi4)) rfl ?_
    refine V_if_ne (tgt := 27) dX8_item_21 rfl ⟨fun c5 => ?_, fun c5 => ?_⟩
    · have h := h.1 c5
      refine V_aload_n 3 dX8_item_27 rfl ?_
      refine V_getf (v := .int (mem1 (100 + 4 * x1.toNatClampNeg) 0)) gf_X8_301 dX8_item_28 (sh_r24 sh_a7 (wf_in_lt hi4)) rfl ?_
      refine V_iconst (v := 2) dX8_item_31 rfl ?_
      refine V_icmp_eq (tgt := 38) dX8_item_32 rfl ⟨fun c6 => ?_, fun c6 => ?_⟩
      · have h := h.1 c6
        refine V_aload_n 3 dX8_item_38 rfl ?_
        refine V_getf (v := .ref ((100 + 4 * x1.toNatClampNeg) + 2)) gf_X8_311 dX8_item_39 (sh_r24 sh_a7 (wf_in_lt hi4)) rfl ?_
        refine V_iload_n 2 dX8_item_42 rfl ?_
        refine V_cVi [.int x2] mv_X4_has w_393 dX8_item_43 wf_rok_m (sh_5_3 (sh_r24 sh_a7 (wf_in_lt hi4))) rfl (by decide) rfl rfl (Nat.le_of_ble_eq_true rfl) h ?_
        intro r8 mem7 h
        refine V_if_ne (tgt := 53) dX8_item_46 rfl ⟨fun c9 => ?_, fun c9 => ?_⟩
        · have h := h.1 c9
          refine V_aload_n 3 dX8_item_53 rfl ?_
          refine V_getf (v := .ref ((100 + 4 * x1.toNatClampNeg) + 2)) gf_X8_311 dX8_item_54 (sh_r24 sh_a7 (wf_in_lt hi4)) rfl ?_
          refine V_getf (v := .ref (((100 + 4 * x1.toNatClampNeg) + 2) + 1)) gf_X8_277 dX8_item_57 (sh_5_3 (sh_r24 sh_a7 (wf_in_lt hi4))) rfl ?_
          refine V_iload_n 2 dX8_item_60 rfl ?_
          refine V_iald dX8_item_61 (sh_4_2 (sh_5_3 (sh_r24 sh_a7 (wf_in_lt hi4)))) ⟨h.1, ?_⟩
          have h := h.2
          refine V_topi (fun x4_10 ex4_10 => ?_)
          have h := h x4_10 ex4_10
          refine V_istore (lv' := [(0, .ref 0), (1, .int x1), (2, .int x2), (3, .ref (100 + 4 * x1.toNatClampNeg)), (4, .int x4_10)]) dX8_item_62 (by decide) rfl rfl ?_
          refine V_iload 4 dX8_item_64 rfl ?_
          refine V_ldc w_344 dX8_item_66 ?_
          refine V_icmp_ne (tgt := 76) dX8_item_68 rfl ⟨fun c11 => ?_, fun c11 => ?_⟩
          · have h := h.1 c11
            refine V_iload 4 dX8_item_76 rfl ?_
            exact V_iret dX8_item_78 rfl h
          · have h := h.2 c11
            refine V_ldc w_315 dX8_item_71 ?_
            refine V_goto (tgt := 78) dX8_item_73 rfl ?_
            exact V_iret dX8_item_78 rfl h
        · have h := h.2 c9
          refine V_ldcw w_397 dX8_item_49 ?_
          exact V_iret dX8_item_52 rfl h
      · have h := h.2 c6
        refine V_ldc w_315 dX8_item_35 ?_
        exact V_iret dX8_item_37 rfl h
    · have h := h.2 c5
      refine V_ldc w_363 dX8_item_24 ?_
      exact V_iret dX8_item_26 rfl h
  · have h := h.2 c3
    refine V_ldc w_275 dX8_item_7 ?_
    exact V_iret dX8_item_9 rfl h
set_option maxRecDepth 20000 in
theorem b_X8_rest_0 {d : Nat} {P : Int32 → wf_Mem → Prop} (mem : wf_Mem) (x1 : Int32) (x2 : Int32)
    (h : (Ci mX8_isSlot d [.int x1] mem (fun r2 mem1 => ((¬ r2 = 0 → (vp_in x1 5 ∧ ((¬ (mem1 (100 + 4 * x1.toNatClampNeg) 0) = 0 → (((mem1 (100 + 4 * x1.toNatClampNeg) 0) = 3 → ((¬ x2 = 0 → ((¬ x2 = 0) ∧ P ((mem1 (100 + 4 * x1.toNatClampNeg) 1) - (mem1 (100 + 4 * x1.toNatClampNeg) 1) / x2 * x2) mem1)) ∧ (x2 = 0 → P (-1000000002) mem1))) ∧ (¬ (mem1 (100 + 4 * x1.toNatClampNeg) 0) = 3 → P (-1000000012) mem1))) ∧ ((mem1 (100 + 4 * x1.toNatClampNeg) 0) = 0 → P (-1000000011) mem1)))) ∧ (r2 = 0 → P (-1000000001) mem1))))) :
    Vw (Ni (d + 1) P) mX8_rest 0 [(0, .ref 0), (1, .int x1), (2, .int x2)] [] mem := by
  refine V_iload_n 1 dX8_rest_0 rfl ?_
  refine V_cSi [.int x1] ms_X8_isSlot w_408 dX8_rest_1 wf_rok_m rfl rfl (Nat.le_of_ble_eq_true rfl) h ?_
  intro r2 mem1 h
  refine V_if_ne (tgt := 10) dX8_rest_4 rfl ⟨fun c3 => ?_, fun c3 => ?_⟩
  · have h := h.1 c3
    refine V_aload_n 0 dX8_rest_10 rfl ?_
    refine V_getf (v := .ref 7) gf_X8_31 dX8_rest_11 sh_a0 rfl ?_
    refine V_iload_n 1 dX8_rest_14 rfl ?_
    have hi4 := h.1
    refine V_aald (b := (100 + 4 * x1.toNatClampNeg)) dX8_rest_15 sh_a7 (by decide) (by decide) rfl ⟨hi4, ?_⟩
    have h := h.2
    refine V_astore_n (lv' := [(0, .ref 0), (1, .int x1), (2, .int x2), (3, .ref (100 + 4 * x1.toNatClampNeg))]) dX8_rest_16 (by decide) rfl rfl ?_
    refine V_aload_n 3 dX8_rest_17 rfl ?_
    refine V_getf (v := .int (mem1 (100 + 4 * x1.toNatClampNeg) 0)) gf_X8_301 dX8_rest_18 (sh_r24 sh_a7 (wf_in_lt hi4)) rfl ?_
    refine V_if_ne (tgt := 27) dX8_rest_21 rfl ⟨fun c5 => ?_, fun c5 => ?_⟩
    · have h := h.1 c5
      refine V_aload_n 3 dX8_rest_27 rfl ?_
      refine V_getf (v := .int (mem1 (100 + 4 * x1.toNatClampNeg) 0)) gf_X8_301 dX8_rest_28 (sh_r24 sh_a7 (wf_in_lt hi4)) rfl ?_
      refine V_iconst (v := 3) dX8_rest_31 rfl ?_
      refine V_icmp_eq (tgt := 38) dX8_rest_32 rfl ⟨fun c6 => ?_, fun c6 => ?_⟩
      · have h := h.1 c6
        refine V_iload_n 2 dX8_rest_38 rfl ?_
        refine V_if_ne (tgt := 46) dX8_rest_39 rfl ⟨fun c7 => ?_, fun c7 => ?_⟩
        · have h := h.1 c7
          refine V_aload_n 3 dX8_rest_46 rfl ?_
          refine V_getf (v := .int (mem1 (100 + 4 * x1.toNatClampNeg) 1)) gf_X8_318 dX8_rest_47 (sh_r24 sh_a7 (wf_in_lt hi4)) rfl ?_
          refine V_iload_n 2 dX8_rest_50 rfl ?_
          refine V_irem dX8_rest_51 ⟨h.1, ?_⟩
          have h := h.2
          exact V_iret dX8_rest_52 rfl h
        · have h := h.2 c7
          refine V_ldcw w_419 dX8_rest_42 ?_
          exact V_iret dX8_rest_45 rfl h
      · have h := h.2 c6
        refine V_ldc w_315 dX8_rest_35 ?_
        exact V_iret dX8_rest_37 rfl h
    · have h := h.2 c5
      refine V_ldc w_363 dX8_rest_24 ?_
      exact V_iret dX8_rest_26 rfl h
  · have h := h.2 c3
    refine V_ldc w_275 dX8_rest_7 ?_
    exact V_iret dX8_rest_9 rfl h
set_option maxRecDepth 20000 in
theorem b_X8_tell_0 {d : Nat} {P : Int32 → wf_Mem → Prop} (mem : wf_Mem) (x1 : Int32)
    (h : (((mem 0 9) < 60 → (vp_in (mem 0 9) 60 ∧ ∀ mem2 : wf_Mem, mem2 = wf_ms mem 8 (mem 0 9).toNatClampNeg x1 → (∀ mem3 : wf_Mem, mem3 = wf_ms mem2 0 9 ((mem2 0 9) + 1) → P (mem3 0 9) mem3))) ∧ (¬ (mem 0 9) < 60 → P (-1000000003) mem))) :
    Vw (Ni d P) mX8_tell 0 [(0, .ref 0), (1, .int x1)] [] mem := by
  refine V_aload_n 0 dX8_tell_0 rfl ?_
  refine V_getf (v := .int (mem 0 9)) gf_X8_39 dX8_tell_1 sh_a0 rfl ?_
  refine V_aload_n 0 dX8_tell_4 rfl ?_
  refine V_getf (v := .ref 8) gf_X8_35 dX8_tell_5 sh_a0 rfl ?_
  refine V_alen (v := 60) dX8_tell_8 sh_a8 rfl ?_
  refine V_icmp_lt (tgt := 15) dX8_tell_9 rfl ⟨fun c1 => ?_, fun c1 => ?_⟩
  · have h := h.1 c1
    refine V_aload_n 0 dX8_tell_15 rfl ?_
    refine V_getf (v := .ref 8) gf_X8_35 dX8_tell_16 sh_a0 rfl ?_
    refine V_aload_n 0 dX8_tell_19 rfl ?_
    refine V_getf (v := .int (mem 0 9)) gf_X8_39 dX8_tell_20 sh_a0 rfl ?_
    refine V_iload_n 1 dX8_tell_23 rfl ?_
    refine V_iast dX8_tell_24 sh_a8 ⟨h.1, ?_⟩
    refine V_topm (fun mem2 emem2 => ?_)
    have h := h.2 mem2 emem2
    refine V_aload_n 0 dX8_tell_25 rfl ?_
    refine V_dup dX8_tell_26 rfl ?_
    refine V_getf (v := .int (mem2 0 9)) gf_X8_39 dX8_tell_27 sh_a0 rfl ?_
    refine V_iconst (v := 1) dX8_tell_30 rfl ?_
    refine V_iadd dX8_tell_31 ?_
    refine V_putf pf_X8_39 dX8_tell_32 sh_a0 rfl rfl ?_
    refine V_topm (fun mem3 emem3 => ?_)
    have h := h mem3 emem3
    refine V_aload_n 0 dX8_tell_35 rfl ?_
    refine V_getf (v := .int (mem3 0 9)) gf_X8_39 dX8_tell_36 sh_a0 rfl ?_
    exact V_iret dX8_tell_39 rfl h
  · have h := h.2 c1
    refine V_ldc w_375 dX8_tell_12 ?_
    exact V_iret dX8_tell_14 rfl h
set_option maxRecDepth 20000 in
theorem b_X8_check_0 {d : Nat} {P : Int32 → wf_Mem → Prop} (mem : wf_Mem) (x1 : Int32)
    (h : (∀ x2_1 : Int32, x2_1 = (mem 0 9) → (∀ mem2 : wf_Mem, mem2 = wf_ms mem 0 9 0 → (Ci mX8_within d [.int x1, .int 1, .int 30] mem2 (fun r4 mem3 => ((¬ r4 = 0 → ((¬ (mem3 0 10) = 0 → (Cv mX0_takeFrom d [.ref 75, .ref 58] mem3 (fun mem7 => (∀ x3_8 : Int32, x3_8 = (if (9999 - (mem7 58 6)) < x1 then (9999 - (mem7 58 6)) else x1) → Vw (Ni (d + 1) P) mX8_check 64 [(0, .ref 0), (2, .int x2_1), (3, .int x3_8), (4, .int 0)] [] mem7)))) ∧ ((mem3 0 10) = 0 → P (-1000000002) mem3))) ∧ (r4 = 0 → P (-1000000001) mem3))))))) :
    Vw (Ni (d + 1) P) mX8_check 0 [(0, .ref 0), (1, .int x1)] [] mem := by
  refine V_aload_n 0 dX8_check_0 rfl ?_
  refine V_getf (v := .int (mem 0 9)) gf_X8_39 dX8_check_1 sh_a0 rfl ?_
  refine V_topi (fun x2_1 ex2_1 => ?_)
  have h := h x2_1 ex2_1
  refine V_istore_n (lv' := [(0, .ref 0), (1, .int x1), (2, .int x2_1)]) dX8_check_4 (by decide) rfl rfl ?_
  refine V_aload_n 0 dX8_check_5 rfl ?_
  refine V_iconst (v := 0) dX8_check_6 rfl ?_
  refine V_putf pf_X8_39 dX8_check_7 sh_a0 rfl rfl ?_
  refine V_topm (fun mem2 emem2 => ?_)
  have h := h mem2 emem2
  refine V_iload_n 1 dX8_check_10 rfl ?_
  refine V_iconst (v := 1) dX8_check_11 rfl ?_
  refine V_bipush (v := 30) dX8_check_12 rfl ?_
  refine V_cSi [.int x1, .int 1, .int 30] ms_X8_within w_268 dX8_check_14 wf_rok_m rfl rfl (Nat.le_of_ble_eq_true rfl) h ?_
  intro r4 mem3 h
  refine V_if_ne (tgt := 23) dX8_check_17 rfl ⟨fun c5 => ?_, fun c5 => ?_⟩
  · have h := h.1 c5
    refine V_aload_n 0 dX8_check_23 rfl ?_
    refine V_getf (v := .int (mem3 0 10)) gf_X8_43 dX8_check_24 sh_a0 rfl ?_
    refine V_if_ne (tgt := 34) dX8_check_27 rfl ⟨fun c6 => ?_, fun c6 => ?_⟩
    · have h := h.1 c6
      refine V_aload_n 0 dX8_check_34 rfl ?_
      refine V_getf (v := .ref 75) gf_X8_67 dX8_check_35 sh_a0 rfl ?_
      refine V_aload_n 0 dX8_check_38 rfl ?_
      refine V_getf (v := .ref 58) gf_X8_64 dX8_check_39 sh_a0 rfl ?_
      refine V_cVv [.ref 58] mv_X0_takeFrom w_339 dX8_check_42 wf_rok_m sh_a75 rfl (by decide) rfl rfl (Nat.le_of_ble_eq_true rfl) h ?_
      intro mem7 h
      refine V_iload_n 1 dX8_check_45 rfl ?_
      refine V_sipush (v := 9999) dX8_check_46 rfl ?_
      refine V_aload_n 0 dX8_check_49 rfl ?_
      refine V_getf (v := .ref 58) gf_X8_64 dX8_check_50 sh_a0 rfl ?_
      refine V_getf (v := .int (mem7 58 6)) gf_X8_195 dX8_check_53 sh_a58 rfl ?_
      refine V_isub dX8_check_56 ?_
      refine V_mmin w_287 wm_min dX8_check_57 wf_rok_m (Nat.le_of_ble_eq_true rfl) ?_
      refine V_topi (fun x3_8 ex3_8 => ?_)
      have h := h x3_8 ex3_8
      refine V_istore_n (lv' := [(0, .ref 0), (1, .int x1), (2, .int x2_1), (3, .int x3_8)]) dX8_check_60 (by decide) rfl rfl ?_
      refine V_iconst (v := 0) dX8_check_61 rfl ?_
      refine V_istore (lv' := [(0, .ref 0), (1, .int x1), (2, .int x2_1), (3, .int x3_8), (4, .int 0)]) dX8_check_62 (by decide) rfl rfl ?_
      exact V_sub [0, 2, 3, 4] rfl h
    · have h := h.2 c6
      refine V_ldcw w_419 dX8_check_30 ?_
      exact V_iret dX8_check_33 rfl h
  · have h := h.2 c5
    refine V_ldc w_275 dX8_check_20 ?_
    exact V_iret dX8_check_22 rfl h
set_option maxRecDepth 20000 in
theorem b_X8_check_64 {d : Nat} {P : Int32 → wf_Mem → Prop} (mem : wf_Mem) (x2 : Int32) (x3 : Int32) (x4 : Int32)
    (h : (((2 * x3) ≤ x4 → ((x2 ≤ (2 * x3) → P 0 mem) ∧ (¬ x2 ≤ (2 * x3) → P (1 + (2 * x3)) mem))) ∧ (¬ (2 * x3) ≤ x4 → ((¬ (x4 - x4 / 2 * 2) = 0 → Vw (Ni (d + 1) P) mX8_check 87 [(0, .ref 0), (2, .int x2), (3, .int x3), (4, .int x4)] [] mem) ∧ ((x4 - x4 / 2 * 2) = 0 → (Cv mX0_pass d [.ref 75, .int 1] mem (fun mem4 => Vw (Ni (d + 1) P) mX8_check 87 [(0, .ref 0), (2, .int x2), (3, .int x3), (4, .int x4)] [] mem4))))))) :
    Vw (Ni (d + 1) P) mX8_check 64 [(0, .ref 0), (2, .int x2), (3, .int x3), (4, .int x4)] [] mem := by
  refine V_iload 3 dX8_check_64 rfl ?_
  refine V_iconst (v := 2) dX8_check_66 rfl ?_
  refine V_iload_n 2 dX8_check_67 rfl ?_
  refine V_imul dX8_check_68 ?_
  refine V_icmp_ge (tgt := 153) dX8_check_69 rfl ⟨fun c1 => ?_, fun c1 => ?_⟩
  · have h := h.1 c1
    refine V_iload_n 1 dX8_check_153 rfl ?_
    refine V_iconst (v := 2) dX8_check_154 rfl ?_
    refine V_iload_n 2 dX8_check_155 rfl ?_
    refine V_imul dX8_check_156 ?_
    refine V_icmp_le (tgt := 168) dX8_check_157 rfl ⟨fun c2 => ?_, fun c2 => ?_⟩
    · have h := h.1 c2
      refine V_iconst (v := 0) dX8_check_168 rfl ?_
      exact V_iret dX8_check_169 rfl h
    · have h := h.2 c2
      refine V_iconst (v := 1) dX8_check_160 rfl ?_
      refine V_iconst (v := 2) dX8_check_161 rfl ?_
      refine V_iload_n 2 dX8_check_162 rfl ?_
      refine V_imul dX8_check_163 ?_
      refine V_iadd dX8_check_164 ?_
      refine V_goto (tgt := 169) dX8_check_165 rfl ?_
      exact V_iret dX8_check_169 rfl h
  · have h := h.2 c1
    refine V_iload 3 dX8_check_72 rfl ?_
    refine V_iconst (v := 2) dX8_check_74 rfl ?_
    refine V_irem dX8_check_75 ⟨by decide, ?_⟩
    refine V_if_ne (tgt := 87) dX8_check_76 rfl ⟨fun c3 => ?_, fun c3 => ?_⟩
    · have h := h.1 c3
      exact h
    · have h := h.2 c3
      refine V_aload_n 0 dX8_check_79 rfl ?_
      refine V_getf (v := .ref 75) gf_X8_67 dX8_check_80 sh_a0 rfl ?_
      refine V_iconst (v := 1) dX8_check_83 rfl ?_
      refine V_cVv [.int 1] mv_X0_pass w_331 dX8_check_84 wf_rok_m sh_a75 rfl (by decide) rfl rfl (Nat.le_of_ble_eq_true rfl) h ?_
      intro mem4 h
      exact h
set_option maxRecDepth 20000 in
theorem b_X8_check_87 {d : Nat} {P : Int32 → wf_Mem → Prop} (mem : wf_Mem) (x2 : Int32) (x3 : Int32) (x4 : Int32)
    (h : ((¬ (x4 - x4 / 2 * 2) = 0 → Vw (Ni (d + 1) P) mX8_check 122 [(0, .ref 0), (2, .int x2), (3, .int x3), (4, .int x4)] [.int ((mem 75 8) + (100 * (mem 75 3)))] mem) ∧ ((x4 - x4 / 2 * 2) = 0 → (Ci mX0_cameTold d [.ref 75] mem (fun r3 mem2 => Vw (Ni (d + 1) P) mX8_check 122 [(0, .ref 0), (2, .int x2), (3, .int x3), (4, .int x4)] [.int r3] mem2))))) :
    Vw (Ni (d + 1) P) mX8_check 87 [(0, .ref 0), (2, .int x2), (3, .int x3), (4, .int x4)] [] mem := by
  refine V_iload 3 dX8_check_87 rfl ?_
  refine V_iconst (v := 2) dX8_check_89 rfl ?_
  refine V_irem dX8_check_90 ⟨by decide, ?_⟩
  refine V_if_ne (tgt := 104) dX8_check_91 rfl ⟨fun c1 => ?_, fun c1 => ?_⟩
  · have h := h.1 c1
    refine V_aload_n 0 dX8_check_104 rfl ?_
    refine V_getf (v := .ref 75) gf_X8_67 dX8_check_105 sh_a0 rfl ?_
    refine V_getf (v := .int (mem 75 8)) gf_X8_192 dX8_check_108 sh_a75 rfl ?_
    refine V_bipush (v := 100) dX8_check_111 rfl ?_
    refine V_aload_n 0 dX8_check_113 rfl ?_
    refine V_getf (v := .ref 75) gf_X8_67 dX8_check_114 sh_a0 rfl ?_
    refine V_getf (v := .int (mem 75 3)) gf_X8_124 dX8_check_117 sh_a75 rfl ?_
    refine V_imul dX8_check_120 ?_
    refine V_iadd dX8_check_121 ?_
    exact h
  · have h := h.2 c1
    refine V_aload_n 0 dX8_check_94 rfl ?_
    refine V_getf (v := .ref 75) gf_X8_67 dX8_check_95 sh_a0 rfl ?_
    refine V_cVi [] mv_X0_cameTold w_427 dX8_check_98 wf_rok_m sh_a75 rfl (by decide) rfl rfl (Nat.le_of_ble_eq_true rfl) h ?_
    intro r3 mem2 h
    refine V_goto (tgt := 122) dX8_check_101 rfl ?_
    exact h
set_option maxRecDepth 20000 in
theorem b_X8_check_122 {d : Nat} {P : Int32 → wf_Mem → Prop} (mem : wf_Mem) (x2 : Int32) (x3 : Int32) (x4 : Int32) (y0 : Int32)
    (h : ((x2 ≤ x4 → P (1 + x4) mem) ∧ (¬ x2 ≤ x4 → (vp_in x4 60 ∧ (((mem 8 x4.toNatClampNeg) = y0 → Vw (Ni (d + 1) P) mX8_check 64 [(0, .ref 0), (2, .int x2), (3, .int x3), (4, .int (x4 + 1))] [] mem) ∧ (¬ (mem 8 x4.toNatClampNeg) = y0 → P (1 + x4) mem)))))) :
    Vw (Ni (d + 1) P) mX8_check 122 [(0, .ref 0), (2, .int x2), (3, .int x3), (4, .int x4)] [.int y0] mem := by
  refine V_istore (lv' := [(0, .ref 0), (2, .int x2), (3, .int x3), (4, .int x4), (5, .int y0)]) dX8_check_122 (by decide) rfl rfl ?_
  refine V_iload 3 dX8_check_124 rfl ?_
  refine V_iload_n 1 dX8_check_126 rfl ?_
  refine V_icmp_ge (tgt := 142) dX8_check_127 rfl ⟨fun c1 => ?_, fun c1 => ?_⟩
  · have h := h.1 c1
    refine V_iconst (v := 1) dX8_check_142 rfl ?_
    refine V_iload 3 dX8_check_143 rfl ?_
    refine V_iadd dX8_check_145 ?_
    exact V_iret dX8_check_146 rfl h
  · have h := h.2 c1
    refine V_aload_n 0 dX8_check_130 rfl ?_
    refine V_getf (v := .ref 8) gf_X8_35 dX8_check_131 sh_a0 rfl ?_
    refine V_iload 3 dX8_check_134 rfl ?_
    refine V_iald dX8_check_136 sh_a8 ⟨h.1, ?_⟩
    have h := h.2
    refine V_iload 4 dX8_check_137 rfl ?_
    refine V_icmp_eq (tgt := 147) dX8_check_139 rfl ⟨fun c2 => ?_, fun c2 => ?_⟩
    · have h := h.1 c2
      refine V_iinc (v := (x4 + 1)) (lv' := [(0, .ref 0), (2, .int x2), (3, .int x3), (4, .int (x4 + 1)), (5, .int y0)]) 3 dX8_check_147 rfl rfl (by decide) rfl rfl ?_
      refine V_goto (tgt := 64) dX8_check_150 rfl ?_
      exact V_sub [0, 1, 2, 3] rfl h
    · have h := h.2 c2
      refine V_iconst (v := 1) dX8_check_142 rfl ?_
      refine V_iload 3 dX8_check_143 rfl ?_
      refine V_iadd dX8_check_145 ?_
      exact V_iret dX8_check_146 rfl h
set_option maxRecDepth 20000 in
theorem b_X8_keep_0 {d : Nat} {P : Int32 → wf_Mem → Prop} (mem : wf_Mem) 
    (h : (Cv mX0_takeFrom d [.ref 58, .ref 41] mem (fun mem1 => (∀ mem2 : wf_Mem, mem2 = wf_ms mem1 0 10 1 → P (mem2 42 0) mem2)))) :
    Vw (Ni (d + 1) P) mX8_keep 0 [(0, .ref 0)] [] mem := by
  refine V_aload_n 0 dX8_keep_0 rfl ?_
  refine V_getf (v := .ref 58) gf_X8_64 dX8_keep_1 sh_a0 rfl ?_
  refine V_aload_n 0 dX8_keep_4 rfl ?_
  refine V_getf (v := .ref 41) gf_X8_60 dX8_keep_5 sh_a0 rfl ?_
  refine V_cVv [.ref 41] mv_X0_takeFrom w_339 dX8_keep_8 wf_rok_m sh_a58 rfl (by decide) rfl rfl (Nat.le_of_ble_eq_true rfl) h ?_
  intro mem1 h
  refine V_aload_n 0 dX8_keep_11 rfl ?_
  refine V_iconst (v := 1) dX8_keep_12 rfl ?_
  refine V_putf pf_X8_43 dX8_keep_13 sh_a0 rfl rfl ?_
  refine V_topm (fun mem2 emem2 => ?_)
  have h := h mem2 emem2
  refine V_aload_n 0 dX8_keep_16 rfl ?_
  refine V_getf (v := .ref 41) gf_X8_60 dX8_keep_17 sh_a0 rfl ?_
  refine V_getf (v := .ref 42) gf_X8_82 dX8_keep_20 sh_a41 rfl ?_
  refine V_getf (v := .int (mem2 42 0)) gf_X8_117 dX8_keep_23 sh_a42 rfl ?_
  exact V_iret dX8_keep_26 rfl h
set_option maxRecDepth 20000 in
theorem b_X8_back_0 {d : Nat} {P : Int32 → wf_Mem → Prop} (mem : wf_Mem) 
    (h : ((¬ (mem 0 10) = 0 → (Cv mX0_takeFrom d [.ref 41, .ref 58] mem (fun mem2 => P (mem2 42 0) mem2))) ∧ ((mem 0 10) = 0 → P (-1000000002) mem))) :
    Vw (Ni (d + 1) P) mX8_back 0 [(0, .ref 0)] [] mem := by
  refine V_aload_n 0 dX8_back_0 rfl ?_
  refine V_getf (v := .int (mem 0 10)) gf_X8_43 dX8_back_1 sh_a0 rfl ?_
  refine V_if_ne (tgt := 11) dX8_back_4 rfl ⟨fun c1 => ?_, fun c1 => ?_⟩
  · have h := h.1 c1
    refine V_aload_n 0 dX8_back_11 rfl ?_
    refine V_getf (v := .ref 41) gf_X8_60 dX8_back_12 sh_a0 rfl ?_
    refine V_aload_n 0 dX8_back_15 rfl ?_
    refine V_getf (v := .ref 58) gf_X8_64 dX8_back_16 sh_a0 rfl ?_
    refine V_cVv [.ref 58] mv_X0_takeFrom w_339 dX8_back_19 wf_rok_m sh_a41 rfl (by decide) rfl rfl (Nat.le_of_ble_eq_true rfl) h ?_
    intro mem2 h
    refine V_aload_n 0 dX8_back_22 rfl ?_
    refine V_getf (v := .ref 41) gf_X8_60 dX8_back_23 sh_a0 rfl ?_
    refine V_getf (v := .ref 42) gf_X8_82 dX8_back_26 sh_a41 rfl ?_
    refine V_getf (v := .int (mem2 42 0)) gf_X8_117 dX8_back_29 sh_a42 rfl ?_
    exact V_iret dX8_back_32 rfl h
  · have h := h.2 c1
    refine V_ldcw w_419 dX8_back_7 ?_
    exact V_iret dX8_back_10 rfl h
set_option maxRecDepth 20000 in
theorem b_X8_count_0 {d : Nat} {P : Int32 → wf_Mem → Prop} (mem : wf_Mem) (x1 : Int32)
    (h : ((x1 = 0 → P (mem 42 0) mem) ∧ (¬ x1 = 0 → ((x1 = 1 → P (mem 41 2) mem) ∧ (¬ x1 = 1 → ((x1 = 2 → (Ci mX0_onMany d [.ref 41] mem (fun r5 mem4 => P r5 mem4))) ∧ (¬ x1 = 2 → ((x1 = 3 → P (mem 41 3) mem) ∧ (¬ x1 = 3 → ((x1 = 4 → P (mem 41 4) mem) ∧ (¬ x1 = 4 → ((x1 = 5 → P (mem 41 5) mem) ∧ (¬ x1 = 5 → ((x1 = 6 → P (mem 41 6) mem) ∧ (¬ x1 = 6 → ((x1 = 7 → (Ci mX3_allFoals d [.ref 42] mem (fun r12 mem11 => P r12 mem11))) ∧ (¬ x1 = 7 → ((x1 = 8 → P (mem 41 12) mem) ∧ (¬ x1 = 8 → ((x1 = 9 → P (mem 0 9) mem) ∧ (¬ x1 = 9 → ((x1 = 10 → P (mem 3 1) mem) ∧ (¬ x1 = 10 → ((x1 = 11 → P (mem 41 10) mem) ∧ (¬ x1 = 11 → P (-1000000001) mem))))))))))))))))))))))))) :
    Vw (Ni (d + 1) P) mX8_count 0 [(0, .ref 0), (1, .int x1)] [] mem := by
  refine V_iload_n 1 dX8_count_0 rfl ?_
  refine V_tswc [(0, 64), (1, 75), (2, 83), (3, 91), (4, 99), (5, 107), (6, 115), (7, 123), (8, 134), (9, 142), (10, 147), (11, 155)] 163 dX8_count_1 (by decide +kernel) ?_
  refine And.intro (fun c1 => ?_) (fun c1 => ?_)
  · have h := h.1 c1
    show Vw _ _ 64 _ _ _
    refine V_aload_n 0 dX8_count_64 rfl ?_
    refine V_getf (v := .ref 41) gf_X8_60 dX8_count_65 sh_a0 rfl ?_
    refine V_getf (v := .ref 42) gf_X8_82 dX8_count_68 sh_a41 rfl ?_
    refine V_getf (v := .int (mem 42 0)) gf_X8_117 dX8_count_71 sh_a42 rfl ?_
    exact V_iret dX8_count_74 rfl h
  · have h := h.2 c1
    refine And.intro (fun c2 => ?_) (fun c2 => ?_)
    · have h := h.1 c2
      show Vw _ _ 75 _ _ _
      refine V_aload_n 0 dX8_count_75 rfl ?_
      refine V_getf (v := .ref 41) gf_X8_60 dX8_count_76 sh_a0 rfl ?_
      refine V_getf (v := .int (mem 41 2)) gf_X8_180 dX8_count_79 sh_a41 rfl ?_
      exact V_iret dX8_count_82 rfl h
    · have h := h.2 c2
      refine And.intro (fun c3 => ?_) (fun c3 => ?_)
      · have h := h.1 c3
        show Vw _ _ 83 _ _ _
        refine V_aload_n 0 dX8_count_83 rfl ?_
        refine V_getf (v := .ref 41) gf_X8_60 dX8_count_84 sh_a0 rfl ?_
        refine V_cVi [] mv_X0_onMany w_431 dX8_count_87 wf_rok_m sh_a41 rfl (by decide) rfl rfl (Nat.le_of_ble_eq_true rfl) h ?_
        intro r5 mem4 h
        exact V_iret dX8_count_90 rfl h
      · have h := h.2 c3
        refine And.intro (fun c6 => ?_) (fun c6 => ?_)
        · have h := h.1 c6
          show Vw _ _ 91 _ _ _
          refine V_aload_n 0 dX8_count_91 rfl ?_
          refine V_getf (v := .ref 41) gf_X8_60 dX8_count_92 sh_a0 rfl ?_
          refine V_getf (v := .int (mem 41 3)) gf_X8_124 dX8_count_95 sh_a41 rfl ?_
          exact V_iret dX8_count_98 rfl h
        · have h := h.2 c6
          refine And.intro (fun c7 => ?_) (fun c7 => ?_)
          · have h := h.1 c7
            show Vw _ _ 99 _ _ _
            refine V_aload_n 0 dX8_count_99 rfl ?_
            refine V_getf (v := .ref 41) gf_X8_60 dX8_count_100 sh_a0 rfl ?_
            refine V_getf (v := .int (mem 41 4)) gf_X8_127 dX8_count_103 sh_a41 rfl ?_
            exact V_iret dX8_count_106 rfl h
          · have h := h.2 c7
            refine And.intro (fun c8 => ?_) (fun c8 => ?_)
            · have h := h.1 c8
              show Vw _ _ 107 _ _ _
              refine V_aload_n 0 dX8_count_107 rfl ?_
              refine V_getf (v := .ref 41) gf_X8_60 dX8_count_108 sh_a0 rfl ?_
              refine V_getf (v := .int (mem 41 5)) gf_X8_130 dX8_count_111 sh_a41 rfl ?_
              exact V_iret dX8_count_114 rfl h
            · have h := h.2 c8
              refine And.intro (fun c9 => ?_) (fun c9 => ?_)
              · have h := h.1 c9
                show Vw _ _ 115 _ _ _
                refine V_aload_n 0 dX8_count_115 rfl ?_
                refine V_getf (v := .ref 41) gf_X8_60 dX8_count_116 sh_a0 rfl ?_
                refine V_getf (v := .int (mem 41 6)) gf_X8_195 dX8_count_119 sh_a41 rfl ?_
                exact V_iret dX8_count_122 rfl h
              · have h := h.2 c9
                refine And.intro (fun c10 => ?_) (fun c10 => ?_)
                · have h := h.1 c10
                  show Vw _ _ 123 _ _ _
                  refine V_aload_n 0 dX8_count_123 rfl ?_
                  refine V_getf (v := .ref 41) gf_X8_60 dX8_count_124 sh_a0 rfl ?_
                  refine V_getf (v := .ref 42) gf_X8_82 dX8_count_127 sh_a41 rfl ?_
                  refine V_cVi [] mv_X3_allFoals w_343 dX8_count_130 wf_rok_m sh_a42 rfl (by decide) rfl rfl (Nat.le_of_ble_eq_true rfl) h ?_
                  intro r12 mem11 h
                  exact V_iret dX8_count_133 rfl h
                · have h := h.2 c10
                  refine And.intro (fun c13 => ?_) (fun c13 => ?_)
                  · have h := h.1 c13
                    show Vw _ _ 134 _ _ _
                    refine V_aload_n 0 dX8_count_134 rfl ?_
                    refine V_getf (v := .ref 41) gf_X8_60 dX8_count_135 sh_a0 rfl ?_
                    refine V_getf (v := .int (mem 41 12)) gf_X8_254 dX8_count_138 sh_a41 rfl ?_
                    exact V_iret dX8_count_141 rfl h
                  · have h := h.2 c13
                    refine And.intro (fun c14 => ?_) (fun c14 => ?_)
                    · have h := h.1 c14
                      show Vw _ _ 142 _ _ _
                      refine V_aload_n 0 dX8_count_142 rfl ?_
                      refine V_getf (v := .int (mem 0 9)) gf_X8_39 dX8_count_143 sh_a0 rfl ?_
                      exact V_iret dX8_count_146 rfl h
                    · have h := h.2 c14
                      refine And.intro (fun c15 => ?_) (fun c15 => ?_)
                      · have h := h.1 c15
                        show Vw _ _ 147 _ _ _
                        refine V_aload_n 0 dX8_count_147 rfl ?_
                        refine V_getf (v := .ref 3) gf_X8_19 dX8_count_148 sh_a0 rfl ?_
                        refine V_getf (v := .int (mem 3 1)) gf_X8_249 dX8_count_151 sh_a3 rfl ?_
                        exact V_iret dX8_count_154 rfl h
                      · have h := h.2 c15
                        refine And.intro (fun c16 => ?_) (fun c16 => ?_)
                        · have h := h.1 c16
                          show Vw _ _ 155 _ _ _
                          refine V_aload_n 0 dX8_count_155 rfl ?_
                          refine V_getf (v := .ref 41) gf_X8_60 dX8_count_156 sh_a0 rfl ?_
                          refine V_getf (v := .int (mem 41 10)) gf_X8_189 dX8_count_159 sh_a41 rfl ?_
                          exact V_iret dX8_count_162 rfl h
                        · have h := h.2 c16
                          show Vw _ _ 163 _ _ _
                          refine V_ldc w_275 dX8_count_163 ?_
                          exact V_iret dX8_count_165 rfl h
set_option maxRecDepth 20000 in
theorem b_X8_within_0 {d : Nat} {P : Int32 → wf_Mem → Prop} (mem : wf_Mem) (x0 : Int32) (x1 : Int32) (x2 : Int32)
    (h : ((x0 < x1 → P 0 mem) ∧ (¬ x0 < x1 → ((x2 < x0 → P 0 mem) ∧ (¬ x2 < x0 → P 1 mem))))) :
    Vw (Ni d P) mX8_within 0 [(0, .int x0), (1, .int x1), (2, .int x2)] [] mem := by
  refine V_iload_n 0 dX8_within_0 rfl ?_
  refine V_iload_n 1 dX8_within_1 rfl ?_
  refine V_icmp_lt (tgt := 14) dX8_within_2 rfl ⟨fun c1 => ?_, fun c1 => ?_⟩
  · have h := h.1 c1
    refine V_iconst (v := 0) dX8_within_14 rfl ?_
    exact V_zret dX8_within_15 rfl rfl h
  · have h := h.2 c1
    refine V_iload_n 0 dX8_within_5 rfl ?_
    refine V_iload_n 2 dX8_within_6 rfl ?_
    refine V_icmp_gt (tgt := 14) dX8_within_7 rfl ⟨fun c2 => ?_, fun c2 => ?_⟩
    · have h := h.1 c2
      refine V_iconst (v := 0) dX8_within_14 rfl ?_
      exact V_zret dX8_within_15 rfl rfl h
    · have h := h.2 c2
      refine V_iconst (v := 1) dX8_within_10 rfl ?_
      refine V_goto (tgt := 15) dX8_within_11 rfl ?_
      exact V_zret dX8_within_15 rfl rfl h
set_option maxRecDepth 20000 in
theorem b_X8_held_0 {d : Nat} {P : Int32 → wf_Mem → Prop} (mem : wf_Mem) (x0 : Int32) (x1 : Int32) (x2 : Int32)
    (h : P (if x1 < (if x0 < x2 then x0 else x2) then (if x0 < x2 then x0 else x2) else x1) mem) :
    Vw (Ni (d + 1) P) mX8_held 0 [(0, .int x0), (1, .int x1), (2, .int x2)] [] mem := by
  refine V_iload_n 1 dX8_held_0 rfl ?_
  refine V_iload_n 2 dX8_held_1 rfl ?_
  refine V_iload_n 0 dX8_held_2 rfl ?_
  refine V_mmin w_287 wm_min dX8_held_3 wf_rok_m (Nat.le_of_ble_eq_true rfl) ?_
  refine V_mmax w_432 wm_max dX8_held_6 wf_rok_m (Nat.le_of_ble_eq_true rfl) ?_
  exact V_iret dX8_held_9 rfl h
set_option maxRecDepth 20000 in
theorem b_X8_isKind_0 {d : Nat} {P : Int32 → wf_Mem → Prop} (mem : wf_Mem) (x0 : Int32)
    (h : (Ci mX8_within d [.int x0, .int 0, .int ((6 : Int32) - 1)] mem (fun r2 mem1 => ((r2 = 0 ∨ r2 = 1) ∧ P r2 mem1)))) :
    Vw (Ni (d + 1) P) mX8_isKind 0 [(0, .int x0)] [] mem := by
  refine V_iload_n 0 dX8_isKind_0 rfl ?_
  refine V_iconst (v := 0) dX8_isKind_1 rfl ?_
  refine V_getAbv w_324 dX8_isKind_2 ?_
  refine V_abvLen dX8_isKind_5 ?_
  refine V_iconst (v := 1) dX8_isKind_6 rfl ?_
  refine V_isub dX8_isKind_7 ?_
  refine V_cSi [.int x0, .int 0, .int ((6 : Int32) - 1)] ms_X8_within w_268 dX8_isKind_8 wf_rok_m rfl rfl (Nat.le_of_ble_eq_true rfl) h ?_
  intro r2 mem1 h
  exact V_zret dX8_isKind_11 rfl (wf_nb h.1) h.2
set_option maxRecDepth 20000 in
theorem b_X8_isSheet_0 {d : Nat} {P : Int32 → wf_Mem → Prop} (mem : wf_Mem) (x0 : Int32)
    (h : (Ci mX8_within d [.int x0, .int 0, .int 3] mem (fun r2 mem1 => ((r2 = 0 ∨ r2 = 1) ∧ P r2 mem1)))) :
    Vw (Ni (d + 1) P) mX8_isSheet 0 [(0, .int x0)] [] mem := by
  refine V_iload_n 0 dX8_isSheet_0 rfl ?_
  refine V_iconst (v := 0) dX8_isSheet_1 rfl ?_
  refine V_iconst (v := 3) dX8_isSheet_2 rfl ?_
  refine V_cSi [.int x0, .int 0, .int 3] ms_X8_within w_268 dX8_isSheet_3 wf_rok_m rfl rfl (Nat.le_of_ble_eq_true rfl) h ?_
  intro r2 mem1 h
  exact V_zret dX8_isSheet_6 rfl (wf_nb h.1) h.2
set_option maxRecDepth 20000 in
theorem b_X8_isSlot_0 {d : Nat} {P : Int32 → wf_Mem → Prop} (mem : wf_Mem) (x0 : Int32)
    (h : (Ci mX8_within d [.int x0, .int 0, .int 4] mem (fun r2 mem1 => ((r2 = 0 ∨ r2 = 1) ∧ P r2 mem1)))) :
    Vw (Ni (d + 1) P) mX8_isSlot 0 [(0, .int x0)] [] mem := by
  refine V_iload_n 0 dX8_isSlot_0 rfl ?_
  refine V_iconst (v := 0) dX8_isSlot_1 rfl ?_
  refine V_iconst (v := 4) dX8_isSlot_2 rfl ?_
  refine V_cSi [.int x0, .int 0, .int 4] ms_X8_within w_268 dX8_isSlot_3 wf_rok_m rfl rfl (Nat.le_of_ble_eq_true rfl) h ?_
  intro r2 mem1 h
  exact V_zret dX8_isSlot_6 rfl (wf_nb h.1) h.2
