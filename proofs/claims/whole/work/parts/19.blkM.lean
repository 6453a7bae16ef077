set_option maxRecDepth 20000 in
theorem b_X9_isIn_0 {d : Nat} {P : Int32 → wf_Mem → Prop} (mem : wf_Mem) (x0 : Int64) (x2 : Int64) (x4 : Int64)
    (h : (((lg_cmp x0 x2) < 0 → P 0 mem) ∧ (¬ (lg_cmp x0 x2) < 0 → ((0 < (lg_cmp x0 x4) → P 0 mem) ∧ (¬ 0 < (lg_cmp x0 x4) → P 1 mem))))) :
    Vw (Ni d P) mX9_isIn 0 [(0, .long x0), (2, .long x2), (4, .long x4)] [] mem := by
  refine V_lload_n 0 dX9_isIn_0 rfl ?_
  refine V_lload_n 1 dX9_isIn_1 rfl ?_
  refine V_lcmp dX9_isIn_2 ?_
  refine V_if_lt (tgt := 17) dX9_isIn_3 rfl ⟨fun c1 => ?_, fun c1 => ?_⟩
  · have h := h.1 c1
    refine V_iconst (v := 0) dX9_isIn_17 rfl ?_
    exact V_zret dX9_isIn_18 rfl rfl h
  · have h := h.2 c1
    refine V_lload_n 0 dX9_isIn_6 rfl ?_
    refine V_lload 2 dX9_isIn_7 rfl ?_
    refine V_lcmp dX9_isIn_9 ?_
    refine V_if_gt (tgt := 17) dX9_isIn_10 rfl ⟨fun c2 => ?_, fun c2 => ?_⟩
    · have h := h.1 c2
      refine V_iconst (v := 0) dX9_isIn_17 rfl ?_
      exact V_zret dX9_isIn_18 rfl rfl h
    · have h := h.2 c2
      refine V_iconst (v := 1) dX9_isIn_13 rfl ?_
      refine V_goto (tgt := 18) dX9_isIn_14 rfl ?_
      exact V_zret dX9_isIn_18 rfl rfl h
set_option maxRecDepth 20000 in
theorem b_X9_orNone_0 {d : Nat} {P : Int32 → wf_Mem → Prop} (mem : wf_Mem) (x0 : Int32)
    (h : ((0 ≤ x0 → P x0 mem) ∧ (¬ 0 ≤ x0 → P (-1000000005) mem))) :
    Vw (Ni d P) mX9_orNone 0 [(0, .int x0)] [] mem := by
  refine V_iload_n 0 dX9_orNone_0 rfl ?_
  refine V_if_ge (tgt := 9) dX9_orNone_1 rfl ⟨fun c1 => ?_, fun c1 => ?_⟩
  · have h := h.1 c1
    refine V_iload_n 0 dX9_orNone_9 rfl ?_
    exact V_iret dX9_orNone_10 rfl h
  · have h := h.2 c1
    refine V_ldc w_433 dX9_orNone_4 ?_
    refine V_goto (tgt := 10) dX9_orNone_6 rfl ?_
    exact V_iret dX9_orNone_10 rfl h
set_option maxRecDepth 20000 in
theorem b_X9_within_0 {d : Nat} {P : Int32 → wf_Mem → Prop} (mem : wf_Mem) (x0 : Int32) (x1 : Int32)
    (h : ((0 ≤ x0 → ((x0 ≤ x1 → P x0 mem) ∧ (¬ x0 ≤ x1 → P x1 mem))) ∧ (¬ 0 ≤ x0 → P 0 mem))) :
    Vw (Ni d P) mX9_within 0 [(0, .int x0), (1, .int x1)] [] mem := by
  refine V_iload_n 0 dX9_within_0 rfl ?_
  refine V_if_ge (tgt := 8) dX9_within_1 rfl ⟨fun c1 => ?_, fun c1 => ?_⟩
  · have h := h.1 c1
    refine V_iload_n 0 dX9_within_8 rfl ?_
    refine V_iload_n 1 dX9_within_9 rfl ?_
    refine V_icmp_le (tgt := 17) dX9_within_10 rfl ⟨fun c2 => ?_, fun c2 => ?_⟩
    · have h := h.1 c2
      refine V_iload_n 0 dX9_within_17 rfl ?_
      exact V_iret dX9_within_18 rfl h
    · have h := h.2 c2
      refine V_iload_n 1 dX9_within_13 rfl ?_
      refine V_goto (tgt := 18) dX9_within_14 rfl ?_
      exact V_iret dX9_within_18 rfl h
  · have h := h.2 c1
    refine V_iconst (v := 0) dX9_within_4 rfl ?_
    refine V_goto (tgt := 18) dX9_within_5 rfl ?_
    exact V_iret dX9_within_18 rfl h
set_option maxRecDepth 20000 in
theorem b_X9_off_0 {d : Nat} {P : Int32 → wf_Mem → Prop} (mem : wf_Mem) (x0 : Int32) (x1 : Int32)
    (h : ((x1 ≤ x0 → P (x0 - x1) mem) ∧ (¬ x1 ≤ x0 → P (x1 - x0) mem))) :
    Vw (Ni d P) mX9_off 0 [(0, .int x0), (1, .int x1)] [] mem := by
  refine V_iload_n 0 dX9_off_0 rfl ?_
  refine V_iload_n 1 dX9_off_1 rfl ?_
  refine V_icmp_ge (tgt := 11) dX9_off_2 rfl ⟨fun c1 => ?_, fun c1 => ?_⟩
  · have h := h.1 c1
    refine V_iload_n 0 dX9_off_11 rfl ?_
    refine V_iload_n 1 dX9_off_12 rfl ?_
    refine V_isub dX9_off_13 ?_
    exact V_iret dX9_off_14 rfl h
  · have h := h.2 c1
    refine V_iload_n 1 dX9_off_5 rfl ?_
    refine V_iload_n 0 dX9_off_6 rfl ?_
    refine V_isub dX9_off_7 ?_
    refine V_goto (tgt := 14) dX9_off_8 rfl ?_
    exact V_iret dX9_off_14 rfl h
set_option maxRecDepth 20000 in
theorem b_X9_becomes_0 {d : Nat} {P : Int32 → wf_Mem → Prop} (mem : wf_Mem) (x1 : Int32) (x2 : Int32)
    (h : (vp_in x1 3088 ∧ (∀ x3_1 : Int32, x3_1 = (mem 121 x1.toNatClampNeg) → (vp_in x1 3088 ∧ ∀ mem2 : wf_Mem, mem2 = wf_ms mem 121 x1.toNatClampNeg x2 → P x3_1 mem2)))) :
    Vw (Ni d P) mX9_becomes 0 [(0, .ref 120), (1, .int x1), (2, .int x2)] [] mem := by
  refine V_aload_n 0 dX9_becomes_0 rfl ?_
  refine V_getf (v := .ref 121) gf_X9_7 dX9_becomes_1 sh_a120 rfl ?_
  refine V_iload_n 1 dX9_becomes_4 rfl ?_
  refine V_iald dX9_becomes_5 sh_a121 ⟨h.1, ?_⟩
  have h := h.2
  refine V_topi (fun x3_1 ex3_1 => ?_)
  have h := h x3_1 ex3_1
  refine V_istore_n (lv' := [(0, .ref 120), (1, .int x1), (2, .int x2), (3, .int x3_1)]) dX9_becomes_6 (by decide) rfl rfl ?_
  refine V_aload_n 0 dX9_becomes_7 rfl ?_
  refine V_getf (v := .ref 121) gf_X9_7 dX9_becomes_8 sh_a120 rfl ?_
  refine V_iload_n 1 dX9_becomes_11 rfl ?_
  refine V_iload_n 2 dX9_becomes_12 rfl ?_
  refine V_iast dX9_becomes_13 sh_a121 ⟨h.1, ?_⟩
  refine V_topm (fun mem2 emem2 => ?_)
  have h := h.2 mem2 emem2
  refine V_iload_n 3 dX9_becomes_14 rfl ?_
  exact V_iret dX9_becomes_15 rfl h
set_option maxRecDepth 20000 in
theorem b_X9_textAt_0 {d : Nat} {P : Int32 → wf_Mem → Prop} (mem : wf_Mem) (x1 : Int32)
    (h : P (88 + (200 * x1)) mem) :
    Vw (Ni d P) mX9_textAt 0 [(0, .ref 120), (1, .int x1)] [] mem := by
  refine V_bipush (v := 88) dX9_textAt_0 rfl ?_
  refine V_sipush (v := 200) dX9_textAt_2 rfl ?_
  refine V_iload_n 1 dX9_textAt_5 rfl ?_
  refine V_imul dX9_textAt_6 ?_
  refine V_iadd dX9_textAt_7 ?_
  exact V_iret dX9_textAt_8 rfl h
set_option maxRecDepth 20000 in
theorem b_X9_wagonsOwn_0 {d : Nat} {P : Int32 → wf_Mem → Prop} (mem : wf_Mem) (x1 : Int32) (x2 : Int32)
    (h : (vp_in ((12 + (3 * x1)) + x2) 3088 ∧ P (mem 121 ((12 + (3 * x1)) + x2).toNatClampNeg) mem)) :
    Vw (Ni d P) mX9_wagonsOwn 0 [(0, .ref 120), (1, .int x1), (2, .int x2)] [] mem := by
  refine V_aload_n 0 dX9_wagonsOwn_0 rfl ?_
  refine V_getf (v := .ref 121) gf_X9_7 dX9_wagonsOwn_1 sh_a120 rfl ?_
  refine V_bipush (v := 12) dX9_wagonsOwn_4 rfl ?_
  refine V_iconst (v := 3) dX9_wagonsOwn_6 rfl ?_
  refine V_iload_n 1 dX9_wagonsOwn_7 rfl ?_
  refine V_imul dX9_wagonsOwn_8 ?_
  refine V_iadd dX9_wagonsOwn_9 ?_
  refine V_iload_n 2 dX9_wagonsOwn_10 rfl ?_
  refine V_iadd dX9_wagonsOwn_11 ?_
  refine V_iald dX9_wagonsOwn_12 sh_a121 ⟨h.1, ?_⟩
  have h := h.2
  exact V_iret dX9_wagonsOwn_13 rfl h
set_option maxRecDepth 20000 in
theorem b_X9_of_0 {d : Nat} {P : Int32 → wf_Mem → Prop} (mem : wf_Mem) (x1 : Int32) (x2 : Int32)
    (h : (vp_in ((48 + (5 * x1)) + x2) 3088 ∧ P (mem 121 ((48 + (5 * x1)) + x2).toNatClampNeg) mem)) :
    Vw (Ni d P) mX9_of 0 [(0, .ref 120), (1, .int x1), (2, .int x2)] [] mem := by
  refine V_aload_n 0 dX9_of_0 rfl ?_
  refine V_getf (v := .ref 121) gf_X9_7 dX9_of_1 sh_a120 rfl ?_
  refine V_bipush (v := 48) dX9_of_4 rfl ?_
  refine V_iconst (v := 5) dX9_of_6 rfl ?_
  refine V_iload_n 1 dX9_of_7 rfl ?_
  refine V_imul dX9_of_8 ?_
  refine V_iadd dX9_of_9 ?_
  refine V_iload_n 2 dX9_of_10 rfl ?_
  refine V_iadd dX9_of_11 ?_
  refine V_iald dX9_of_12 sh_a121 ⟨h.1, ?_⟩
  have h := h.2
  exact V_iret dX9_of_13 rfl h
set_option maxRecDepth 20000 in
theorem b_X9_isWagon_0 {d : Nat} {P : Int32 → wf_Mem → Prop} (mem : wf_Mem) (x1 : Int32)
    (h : (Ci mX9_isIn d [.long (x1 : Int32).toInt64, .long 0, .long (((mem 121 0) - 1) : Int32).toInt64] mem (fun r2 mem1 => ((r2 = 0 ∨ r2 = 1) ∧ P r2 mem1)))) :
    Vw (Ni (d + 1) P) mX9_isWagon 0 [(0, .ref 120), (1, .int x1)] [] mem := by
  refine V_iload_n 1 dX9_isWagon_0 rfl ?_
  refine V_i2l dX9_isWagon_1 ?_
  refine V_lconst (v := 0) dX9_isWagon_2 rfl ?_
  refine V_aload_n 0 dX9_isWagon_3 rfl ?_
  refine V_getf (v := .ref 121) gf_X9_7 dX9_isWagon_4 sh_a120 rfl ?_
  refine V_iconst (v := 0) dX9_isWagon_7 rfl ?_
  refine V_ildL (j := 0) dX9_isWagon_8 sh_a121 (by decide) (by decide) ?_
  refine V_iconst (v := 1) dX9_isWagon_9 rfl ?_
  refine V_isub dX9_isWagon_10 ?_
  refine V_i2l dX9_isWagon_11 ?_
  refine V_cSi [.long (x1 : Int32).toInt64, .long 0, .long (((mem 121 0) - 1) : Int32).toInt64] ms_X9_isIn w_438 dX9_isWagon_12 wf_rok_m rfl rfl (Nat.le_of_ble_eq_true rfl) h ?_
  intro r2 mem1 h
  exact V_zret dX9_isWagon_15 rfl (wf_nb h.1) h.2
set_option maxRecDepth 20000 in
theorem b_X9_isWatcher_0 {d : Nat} {P : Int32 → wf_Mem → Prop} (mem : wf_Mem) (x1 : Int32)
    (h : (Ci mX9_isIn d [.long (x1 : Int32).toInt64, .long 0, .long (((mem 121 1) - 1) : Int32).toInt64] mem (fun r2 mem1 => ((r2 = 0 ∨ r2 = 1) ∧ P r2 mem1)))) :
    Vw (Ni (d + 1) P) mX9_isWatcher 0 [(0, .ref 120), (1, .int x1)] [] mem := by
  refine V_iload_n 1 dX9_isWatcher_0 rfl ?_
  refine V_i2l dX9_isWatcher_1 ?_
  refine V_lconst (v := 0) dX9_isWatcher_2 rfl ?_
  refine V_aload_n 0 dX9_isWatcher_3 rfl ?_
  refine V_getf (v := .ref 121) gf_X9_7 dX9_isWatcher_4 sh_a120 rfl ?_
  refine V_iconst (v := 1) dX9_isWatcher_7 rfl ?_
  refine V_ildL (j := 1) dX9_isWatcher_8 sh_a121 (by decide) (by decide) ?_
  refine V_iconst (v := 1) dX9_isWatcher_9 rfl ?_
  refine V_isub dX9_isWatcher_10 ?_
  refine V_i2l dX9_isWatcher_11 ?_
  refine V_cSi [.long (x1 : Int32).toInt64, .long 0, .long (((mem 121 1) - 1) : Int32).toInt64] ms_X9_isIn w_438 dX9_isWatcher_12 wf_rok_m rfl rfl (Nat.le_of_ble_eq_true rfl) h ?_
  intro r2 mem1 h
  exact V_zret dX9_isWatcher_15 rfl (wf_nb h.1) h.2
set_option maxRecDepth 20000 in
theorem b_X9_isText_0 {d : Nat} {P : Int32 → wf_Mem → Prop} (mem : wf_Mem) (x1 : Int32)
    (h : (Ci mX9_isIn d [.long (x1 : Int32).toInt64, .long 0, .long (((mem 121 2) - 1) : Int32).toInt64] mem (fun r2 mem1 => ((r2 = 0 ∨ r2 = 1) ∧ P r2 mem1)))) :
    Vw (Ni (d + 1) P) mX9_isText 0 [(0, .ref 120), (1, .int x1)] [] mem := by
  refine V_iload_n 1 dX9_isText_0 rfl ?_
  refine V_i2l dX9_isText_1 ?_
  refine V_lconst (v := 0) dX9_isText_2 rfl ?_
  refine V_aload_n 0 dX9_isText_3 rfl ?_
  refine V_getf (v := .ref 121) gf_X9_7 dX9_isText_4 sh_a120 rfl ?_
  refine V_iconst (v := 2) dX9_isText_7 rfl ?_
  refine V_ildL (j := 2) dX9_isText_8 sh_a121 (by decide) (by decide) ?_
  refine V_iconst (v := 1) dX9_isText_9 rfl ?_
  refine V_isub dX9_isText_10 ?_
  refine V_i2l dX9_isText_11 ?_
  refine V_cSi [.long (x1 : Int32).toInt64, .long 0, .long (((mem 121 2) - 1) : Int32).toInt64] ms_X9_isIn w_438 dX9_isText_12 wf_rok_m rfl rfl (Nat.le_of_ble_eq_true rfl) h ?_
  intro r2 mem1 h
  exact V_zret dX9_isText_15 rfl (wf_nb h.1) h.2
set_option maxRecDepth 20000 in
theorem b_X9_drawn_0 {d : Nat} {P : Int32 → wf_Mem → Prop} (mem : wf_Mem) 
    (h : (∀ mem1 : wf_Mem, mem1 = wf_ms mem 121 10 (((mem 121 10) * 1103515245) + 12345) → P (((mem1 121 10).toUInt32 >>> ((8 : Int32).toUInt32 &&& Int32.toUInt32 31)).toInt32) mem1)) :
    Vw (Ni d P) mX9_drawn 0 [(0, .ref 120)] [] mem := by
  refine V_aload_n 0 dX9_drawn_0 rfl ?_
  refine V_getf (v := .ref 121) gf_X9_7 dX9_drawn_1 sh_a120 rfl ?_
  refine V_bipush (v := 10) dX9_drawn_4 rfl ?_
  refine V_aload_n 0 dX9_drawn_6 rfl ?_
  refine V_getf (v := .ref 121) gf_X9_7 dX9_drawn_7 sh_a120 rfl ?_
  refine V_bipush (v := 10) dX9_drawn_10 rfl ?_
  refine V_ildL (j := 10) dX9_drawn_12 sh_a121 (by decide) (by decide) ?_
  refine V_ldc w_439 dX9_drawn_13 ?_
  refine V_imul dX9_drawn_15 ?_
  refine V_sipush (v := 12345) dX9_drawn_16 rfl ?_
  refine V_iadd dX9_drawn_19 ?_
  refine V_istL (j := 10) dX9_drawn_20 sh_a121 (by decide) (by decide) ?_
  refine V_topm (fun mem1 emem1 => ?_)
  have h := h mem1 emem1
  refine V_aload_n 0 dX9_drawn_21 rfl ?_
  refine V_getf (v := .ref 121) gf_X9_7 dX9_drawn_22 sh_a120 rfl ?_
  refine V_bipush (v := 10) dX9_drawn_25 rfl ?_
  refine V_ildL (j := 10) dX9_drawn_27 sh_a121 (by decide) (by decide) ?_
  refine V_bipush (v := 8) dX9_drawn_28 rfl ?_
  refine V_iushr dX9_drawn_30 ?_
  exact V_iret dX9_drawn_31 rfl h
set_option maxRecDepth 20000 in
theorem b_X9_wagon_0 {d : Nat} {P : Int32 → wf_Mem → Prop} (mem : wf_Mem) (x1 : Int32)
    (h : (Ci mX9_isIn d [.long (x1 : Int32).toInt64, .long 0, .long 99] mem (fun r2 mem1 => ((¬ r2 = 0 → ((¬ (mem1 121 0) = 12 → (∀ x2_5 : Int32, x2_5 = (12 + (3 * (mem1 121 0))) → (vp_in x2_5 3088 ∧ ∀ mem6 : wf_Mem, mem6 = wf_ms mem1 121 x2_5.toNatClampNeg x1 → (vp_in (x2_5 + 1) 3088 ∧ ∀ mem7 : wf_Mem, mem7 = wf_ms mem6 121 (x2_5 + 1).toNatClampNeg 0 → (vp_in (x2_5 + 2) 3088 ∧ ∀ mem8 : wf_Mem, mem8 = wf_ms mem7 121 (x2_5 + 2).toNatClampNeg 0 → (∀ mem9 : wf_Mem, mem9 = wf_ms mem8 121 0 ((mem8 121 0) + 1) → P ((mem9 121 0) - 1) mem9)))))) ∧ ((mem1 121 0) = 12 → P (-1000000003) mem1))) ∧ (r2 = 0 → P (-1000000001) mem1))))) :
    Vw (Ni (d + 1) P) mX9_wagon 0 [(0, .ref 120), (1, .int x1)] [] mem := by
  refine V_iload_n 1 dX9_wagon_0 rfl ?_
  refine V_i2l dX9_wagon_1 ?_
  refine V_lconst (v := 0) dX9_wagon_2 rfl ?_
  refine V_ldc2 w_440 dX9_wagon_3 ?_
  refine V_cSi [.long (x1 : Int32).toInt64, .long 0, .long 99] ms_X9_isIn w_438 dX9_wagon_6 wf_rok_m rfl rfl (Nat.le_of_ble_eq_true rfl) h ?_
  intro r2 mem1 h
  refine V_if_ne (tgt := 15) dX9_wagon_9 rfl ⟨fun c3 => ?_, fun c3 => ?_⟩
  · have h := h.1 c3
    refine V_aload_n 0 dX9_wagon_15 rfl ?_
    refine V_getf (v := .ref 121) gf_X9_7 dX9_wagon_16 sh_a120 rfl ?_
    refine V_iconst (v := 0) dX9_wagon_19 rfl ?_
    refine V_ildL (j := 0) dX9_wagon_20 sh_a121 (by decide) (by decide) ?_
    refine V_bipush (v := 12) dX9_wagon_21 rfl ?_
    refine V_icmp_ne (tgt := 29) dX9_wagon_23 rfl ⟨fun c4 => ?_, fun c4 => ?_⟩
    · have h := h.1 c4
      refine V_bipush (v := 12) dX9_wagon_29 rfl ?_
      refine V_iconst (v := 3) dX9_wagon_31 rfl ?_
      refine V_aload_n 0 dX9_wagon_32 rfl ?_
      refine V_getf (v := .ref 121) gf_X9_7 dX9_wagon_33 sh_a120 rfl ?_
      refine V_iconst (v := 0) dX9_wagon_36 rfl ?_
      refine V_ildL (j := 0) dX9_wagon_37 sh_a121 (by decide) (by decide) ?_
      refine V_imul dX9_wagon_38 ?_
      refine V_iadd dX9_wagon_39 ?_
      refine V_topi (fun x2_5 ex2_5 => ?_)
      have h := h x2_5 ex2_5
      refine V_istore_n (lv' := [(0, .ref 120), (1, .int x1), (2, .int x2_5)]) dX9_wagon_40 (by decide) rfl rfl ?_
      refine V_aload_n 0 dX9_wagon_41 rfl ?_
      refine V_getf (v := .ref 121) gf_X9_7 dX9_wagon_42 sh_a120 rfl ?_
      refine V_iload_n 2 dX9_wagon_45 rfl ?_
      refine V_iload_n 1 dX9_wagon_46 rfl ?_
      refine V_iast dX9_wagon_47 sh_a121 ⟨h.1, ?_⟩
      refine V_topm (fun mem6 emem6 => ?_)
      have h := h.2 mem6 emem6
      refine V_aload_n 0 dX9_wagon_48 rfl ?_
      refine V_getf (v := .ref 121) gf_X9_7 dX9_wagon_49 sh_a120 rfl ?_
      refine V_iload_n 2 dX9_wagon_52 rfl ?_
      refine V_iconst (v := 1) dX9_wagon_53 rfl ?_
      refine V_iadd dX9_wagon_54 ?_
      refine V_iconst (v := 0) dX9_wagon_55 rfl ?_
      refine V_iast dX9_wagon_56 sh_a121 ⟨h.1, ?_⟩
      refine V_topm (fun mem7 emem7 => ?_)
      have h := h.2 mem7 emem7
      refine V_aload_n 0 dX9_wagon_57 rfl ?_
      refine V_getf (v := .ref 121) gf_X9_7 dX9_wagon_58 sh_a120 rfl ?_
      refine V_iload_n 2 dX9_wagon_61 rfl ?_
      refine V_iconst (v := 2) dX9_wagon_62 rfl ?_
      refine V_iadd dX9_wagon_63 ?_
      refine V_iconst (v := 0) dX9_wagon_64 rfl ?_
      refine V_iast dX9_wagon_65 sh_a121 ⟨h.1, ?_⟩
      refine V_topm (fun mem8 emem8 => ?_)
      have h := h.2 mem8 emem8
      refine V_aload_n 0 dX9_wagon_66 rfl ?_
      refine V_getf (v := .ref 121) gf_X9_7 dX9_wagon_67 sh_a120 rfl ?_
      refine V_iconst (v := 0) dX9_wagon_70 rfl ?_
      refine V_dup2 dX9_wagon_71 rfl rfl ?_
      refine V_ildL (j := 0) dX9_wagon_72 sh_a121 (by decide) (by decide) ?_
      refine V_iconst (v := 1) dX9_wagon_73 rfl ?_
      refine V_iadd dX9_wagon_74 ?_
      refine V_istL (j := 0) dX9_wagon_75 sh_a121 (by decide) (by decide) ?_
      refine V_topm (fun mem9 emem9 => ?_)
      have h := h mem9 emem9
      refine V_aload_n 0 dX9_wagon_76 rfl ?_
      refine V_getf (v := .ref 121) gf_X9_7 dX9_wagon_77 sh_a120 rfl ?_
      refine V_iconst (v := 0) dX9_wagon_80 rfl ?_
      refine V_ildL (j := 0) dX9_wagon_81 sh_a121 (by decide) (by decide) ?_
      refine V_iconst (v := 1) dX9_wagon_82 rfl ?_
      refine V_isub dX9_wagon_83 ?_
      exact V_iret dX9_wagon_84 rfl h
    · have h := h.2 c4
      refine V_ldc w_441 dX9_wagon_26 ?_
      exact V_iret dX9_wagon_28 rfl h
  · have h := h.2 c3
    refine V_ldc w_442 dX9_wagon_12 ?_
    exact V_iret dX9_wagon_14 rfl h
set_option maxRecDepth 20000 in
theorem b_X9_nextFires_0 {d : Nat} {P : Int32 → wf_Mem → Prop} (mem : wf_Mem) (x1 : Int32)
    (h : (∀ x2_1 : Int32, x2_1 = (mem 121 0) → ((3 ≤ x2_1 → ((¬ x2_1 = 0) ∧ (Ci mX9_wagonsOwn d [.ref 120, .int ((x1 + 1) - (x1 + 1) / x2_1 * x2_1), .int 1] mem (fun r4 mem3 => ((¬ x2_1 = 0) ∧ (Ci mX9_wagonsOwn d [.ref 120, .int (((x1 + x2_1) - 1) - ((x1 + x2_1) - 1) / x2_1 * x2_1), .int 1] mem3 (fun r6 mem5 => P (r4 + r6) mem5))))))) ∧ (¬ 3 ≤ x2_1 → ((2 ≤ x2_1 → (Ci mX9_wagonsOwn d [.ref 120, .int (1 - x1), .int 1] mem (fun r9 mem8 => P r9 mem8))) ∧ (¬ 2 ≤ x2_1 → P 0 mem)))))) :
    Vw (Ni (d + 1) P) mX9_nextFires 0 [(0, .ref 120), (1, .int x1)] [] mem := by
  refine V_aload_n 0 dX9_nextFires_0 rfl ?_
  refine V_getf (v := .ref 121) gf_X9_7 dX9_nextFires_1 sh_a120 rfl ?_
  refine V_iconst (v := 0) dX9_nextFires_4 rfl ?_
  refine V_ildL (j := 0) dX9_nextFires_5 sh_a121 (by decide) (by decide) ?_
  refine V_topi (fun x2_1 ex2_1 => ?_)
  have h := h x2_1 ex2_1
  refine V_istore_n (lv' := [(0, .ref 120), (1, .int x1), (2, .int x2_1)]) dX9_nextFires_6 (by decide) rfl rfl ?_
  refine V_iload_n 2 dX9_nextFires_7 rfl ?_
  refine V_iconst (v := 3) dX9_nextFires_8 rfl ?_
  refine V_icmp_ge (tgt := 30) dX9_nextFires_9 rfl ⟨fun c2 => ?_, fun c2 => ?_⟩
  · have h := h.1 c2
    refine V_aload_n 0 dX9_nextFires_30 rfl ?_
    refine V_iload_n 1 dX9_nextFires_31 rfl ?_
    refine V_iconst (v := 1) dX9_nextFires_32 rfl ?_
    refine V_iadd dX9_nextFires_33 ?_
    refine V_iload_n 2 dX9_nextFires_34 rfl ?_
    refine V_irem dX9_nextFires_35 ⟨h.1, ?_⟩
    have h := h.2
    refine V_iconst (v := 1) dX9_nextFires_36 rfl ?_
    refine V_cVi [.int ((x1 + 1) - (x1 + 1) / x2_1 * x2_1), .int 1] mv_X9_wagonsOwn w_446 dX9_nextFires_37 wf_rok_m sh_a120 rfl (by decide) rfl rfl (Nat.le_of_ble_eq_true rfl) h ?_
    intro r4 mem3 h
    refine V_aload_n 0 dX9_nextFires_40 rfl ?_
    refine V_iload_n 1 dX9_nextFires_41 rfl ?_
    refine V_iload_n 2 dX9_nextFires_42 rfl ?_
    refine V_iadd dX9_nextFires_43 ?_
    refine V_iconst (v := 1) dX9_nextFires_44 rfl ?_
    refine V_isub dX9_nextFires_45 ?_
    refine V_iload_n 2 dX9_nextFires_46 rfl ?_
    refine V_irem dX9_nextFires_47 ⟨h.1, ?_⟩
    have h := h.2
    refine V_iconst (v := 1) dX9_nextFires_48 rfl ?_
    refine V_cVi [.int (((x1 + x2_1) - 1) - ((x1 + x2_1) - 1) / x2_1 * x2_1), .int 1] mv_X9_wagonsOwn w_446 dX9_nextFires_49 wf_rok_m sh_a120 rfl (by decide) rfl rfl (Nat.le_of_ble_eq_true rfl) h ?_
    intro r6 mem5 h
    refine V_iadd dX9_nextFires_52 ?_
    exact V_iret dX9_nextFires_53 rfl h
  · have h := h.2 c2
    refine V_iload_n 2 dX9_nextFires_12 rfl ?_
    refine V_iconst (v := 2) dX9_nextFires_13 rfl ?_
    refine V_icmp_ge (tgt := 21) dX9_nextFires_14 rfl ⟨fun c7 => ?_, fun c7 => ?_⟩
    · have h := h.1 c7
      refine V_aload_n 0 dX9_nextFires_21 rfl ?_
      refine V_iconst (v := 1) dX9_nextFires_22 rfl ?_
      refine V_iload_n 1 dX9_nextFires_23 rfl ?_
      refine V_isub dX9_nextFires_24 ?_
      refine V_iconst (v := 1) dX9_nextFires_25 rfl ?_
      refine V_cVi [.int (1 - x1), .int 1] mv_X9_wagonsOwn w_446 dX9_nextFires_26 wf_rok_m sh_a120 rfl (by decide) rfl rfl (Nat.le_of_ble_eq_true rfl) h ?_
      intro r9 mem8 h
      exact V_iret dX9_nextFires_29 rfl h
    · have h := h.2 c7
      refine V_iconst (v := 0) dX9_nextFires_17 rfl ?_
      refine V_goto (tgt := 29) dX9_nextFires_18 rfl ?_
      exact V_iret dX9_nextFires_29 rfl h
set_option maxRecDepth 20000 in
theorem b_X9_light_0 {d : Nat} {P : Int32 → wf_Mem → Prop} (mem : wf_Mem) (x1 : Int32)
    (h : (Ci mX9_wagonsOwn d [.ref 120, .int x1, .int 1] mem (fun r2 mem1 => (Ci mX9_nextFires d [.ref 120, .int x1] mem1 (fun r4 mem3 => (Ci mX9_counts d [.ref 120, .int 0] mem3 (fun r6 mem5 => ((0 ≤ r6 → (∀ mem8 : wf_Mem, mem8 = wf_ms mem5 134 102 r2 → (∀ mem9 : wf_Mem, mem9 = wf_ms mem8 134 110 r4 → (∀ mem10 : wf_Mem, mem10 = wf_ms mem9 134 119 (mem9 121 3) → (Ci mX9_worked d [.ref 120, .int r6] mem10 (fun r12 mem11 => (Ci mX9_within d [.int r12, .int 99] mem11 (fun r14 mem13 => P r14 mem13)))))))) ∧ (¬ 0 ≤ r6 → P ((2 * r2) + r4) mem5))))))))) :
    Vw (Ni (d + 1) P) mX9_light 0 [(0, .ref 120), (1, .int x1)] [] mem := by
  refine V_aload_n 0 dX9_light_0 rfl ?_
  refine V_iload_n 1 dX9_light_1 rfl ?_
  refine V_iconst (v := 1) dX9_light_2 rfl ?_
  refine V_cVi [.int x1, .int 1] mv_X9_wagonsOwn w_446 dX9_light_3 wf_rok_m sh_a120 rfl (by decide) rfl rfl (Nat.le_of_ble_eq_true rfl) h ?_
  intro r2 mem1 h
  refine V_istore_n (lv' := [(0, .ref 120), (1, .int x1), (2, .int r2)]) dX9_light_6 (by decide) rfl rfl ?_
  refine V_aload_n 0 dX9_light_7 rfl ?_
  refine V_iload_n 1 dX9_light_8 rfl ?_
  refine V_cVi [.int x1] mv_X9_nextFires w_450 dX9_light_9 wf_rok_m sh_a120 rfl (by decide) rfl rfl (Nat.le_of_ble_eq_true rfl) h ?_
  intro r4 mem3 h
  refine V_istore_n (lv' := [(0, .ref 120), (1, .int x1), (2, .int r2), (3, .int r4)]) dX9_light_12 (by decide) rfl rfl ?_
  refine V_aload_n 0 dX9_light_13 rfl ?_
  refine V_iconst (v := 0) dX9_light_14 rfl ?_
  refine V_cVi [.int 0] mv_X9_counts w_454 dX9_light_15 wf_rok_m sh_a120 rfl (by decide) rfl rfl (Nat.le_of_ble_eq_true rfl) h ?_
  intro r6 mem5 h
  refine V_istore (lv' := [(0, .ref 120), (1, .int x1), (2, .int r2), (3, .int r4), (4, .int r6)]) dX9_light_18 (by decide) rfl rfl ?_
  refine V_iload 4 dX9_light_20 rfl ?_
  refine V_if_ge (tgt := 31) dX9_light_22 rfl ⟨fun c7 => ?_, fun c7 => ?_⟩
  · have h := h.1 c7
    refine V_aload_n 0 dX9_light_31 rfl ?_
    refine V_getf (v := .ref 134) gf_X9_49 dX9_light_32 sh_a120 rfl ?_
    refine V_bipush (v := 102) dX9_light_35 rfl ?_
    refine V_iload_n 2 dX9_light_37 rfl ?_
    refine V_istL (j := 102) dX9_light_38 sh_a134 (by decide) (by decide) ?_
    refine V_topm (fun mem8 emem8 => ?_)
    have h := h mem8 emem8
    refine V_aload_n 0 dX9_light_39 rfl ?_
    refine V_getf (v := .ref 134) gf_X9_49 dX9_light_40 sh_a120 rfl ?_
    refine V_bipush (v := 110) dX9_light_43 rfl ?_
    refine V_iload_n 3 dX9_light_45 rfl ?_
    refine V_istL (j := 110) dX9_light_46 sh_a134 (by decide) (by decide) ?_
    refine V_topm (fun mem9 emem9 => ?_)
    have h := h mem9 emem9
    refine V_aload_n 0 dX9_light_47 rfl ?_
    refine V_getf (v := .ref 134) gf_X9_49 dX9_light_48 sh_a120 rfl ?_
    refine V_bipush (v := 119) dX9_light_51 rfl ?_
    refine V_aload_n 0 dX9_light_53 rfl ?_
    refine V_getf (v := .ref 121) gf_X9_7 dX9_light_54 sh_a120 rfl ?_
    refine V_iconst (v := 3) dX9_light_57 rfl ?_
    refine V_ildL (j := 3) dX9_light_58 sh_a121 (by decide) (by decide) ?_
    refine V_istL (j := 119) dX9_light_59 sh_a134 (by decide) (by decide) ?_
    refine V_topm (fun mem10 emem10 => ?_)
    have h := h mem10 emem10
    refine V_aload_n 0 dX9_light_60 rfl ?_
    refine V_iload 4 dX9_light_61 rfl ?_
    refine V_cVi [.int r6] mv_X9_worked w_459 dX9_light_63 wf_rok_m sh_a120 rfl (by decide) rfl rfl (Nat.le_of_ble_eq_true rfl) h ?_
    intro r12 mem11 h
    refine V_bipush (v := 99) dX9_light_66 rfl ?_
    refine V_cSi [.int r12, .int 99] ms_X9_within w_462 dX9_light_68 wf_rok_m rfl rfl (Nat.le_of_ble_eq_true rfl) h ?_
    intro r14 mem13 h
    exact V_iret dX9_light_71 rfl h
  · have h := h.2 c7
    refine V_iconst (v := 2) dX9_light_25 rfl ?_
    refine V_iload_n 2 dX9_light_26 rfl ?_
    refine V_imul dX9_light_27 ?_
    refine V_iload_n 3 dX9_light_28 rfl ?_
    refine V_iadd dX9_light_29 ?_
    exact V_iret dX9_light_30 rfl h
set_option maxRecDepth 20000 in
theorem b_X9_sees_0 {d : Nat} {P : Int32 → wf_Mem → Prop} (mem : wf_Mem) (x1 : Int32)
    (h : (Ci mX9_of d [.ref 120, .int x1, .int 1] mem (fun r2 mem1 => (Ci mX9_of d [.ref 120, .int x1, .int 4] mem1 (fun r4 mem3 => ((r4 = 0 → P 0 mem3) ∧ (¬ r4 = 0 → (Ci mX9_isWagon d [.ref 120, .int r2] mem3 (fun r7 mem6 => ((¬ r7 = 0 → (Ci mX9_of d [.ref 120, .int x1, .int 2] mem6 (fun r10 mem9 => (Ci mX9_of d [.ref 120, .int x1, .int 3] mem9 (fun r12 mem11 => (∀ x3_13 : Int32, x3_13 = (r10 - (r12 / 10)) → ((0 ≤ x3_13 → Vw (Ni (d + 1) P) mX9_sees 52 [(0, .ref 120), (1, .int x1), (2, .int r2)] [.int x3_13] mem11) ∧ (¬ 0 ≤ x3_13 → Vw (Ni (d + 1) P) mX9_sees 52 [(0, .ref 120), (1, .int x1), (2, .int r2)] [.int 0] mem11)))))))) ∧ (r7 = 0 → P 0 mem6))))))))))) :
    Vw (Ni (d + 1) P) mX9_sees 0 [(0, .ref 120), (1, .int x1)] [] mem := by
  refine V_aload_n 0 dX9_sees_0 rfl ?_
  refine V_iload_n 1 dX9_sees_1 rfl ?_
  refine V_iconst (v := 1) dX9_sees_2 rfl ?_
  refine V_cVi [.int x1, .int 1] mv_X9_of w_466 dX9_sees_3 wf_rok_m sh_a120 rfl (by decide) rfl rfl (Nat.le_of_ble_eq_true rfl) h ?_
  intro r2 mem1 h
  refine V_istore_n (lv' := [(0, .ref 120), (1, .int x1), (2, .int r2)]) dX9_sees_6 (by decide) rfl rfl ?_
  refine V_aload_n 0 dX9_sees_7 rfl ?_
  refine V_iload_n 1 dX9_sees_8 rfl ?_
  refine V_iconst (v := 4) dX9_sees_9 rfl ?_
  refine V_cVi [.int x1, .int 4] mv_X9_of w_466 dX9_sees_10 wf_rok_m sh_a120 rfl (by decide) rfl rfl (Nat.le_of_ble_eq_true rfl) h ?_
  intro r4 mem3 h
  refine V_if_eq (tgt := 24) dX9_sees_13 rfl ⟨fun c5 => ?_, fun c5 => ?_⟩
  · have h := h.1 c5
    refine V_iconst (v := 0) dX9_sees_24 rfl ?_
    exact V_iret dX9_sees_25 rfl h
  · have h := h.2 c5
    refine V_aload_n 0 dX9_sees_16 rfl ?_
    refine V_iload_n 2 dX9_sees_17 rfl ?_
    refine V_cVi [.int r2] mv_X9_isWagon w_470 dX9_sees_18 wf_rok_m sh_a120 rfl (by decide) rfl rfl (Nat.le_of_ble_eq_true rfl) h ?_
    intro r7 mem6 h
    refine V_if_ne (tgt := 26) dX9_sees_21 rfl ⟨fun c8 => ?_, fun c8 => ?_⟩
    · have h := h.1 c8
      refine V_aload_n 0 dX9_sees_26 rfl ?_
      refine V_iload_n 1 dX9_sees_27 rfl ?_
      refine V_iconst (v := 2) dX9_sees_28 rfl ?_
      refine V_cVi [.int x1, .int 2] mv_X9_of w_466 dX9_sees_29 wf_rok_m sh_a120 rfl (by decide) rfl rfl (Nat.le_of_ble_eq_true rfl) h ?_
      intro r10 mem9 h
      refine V_aload_n 0 dX9_sees_32 rfl ?_
      refine V_iload_n 1 dX9_sees_33 rfl ?_
      refine V_iconst (v := 3) dX9_sees_34 rfl ?_
      refine V_cVi [.int x1, .int 3] mv_X9_of w_466 dX9_sees_35 wf_rok_m sh_a120 rfl (by decide) rfl rfl (Nat.le_of_ble_eq_true rfl) h ?_
      intro r12 mem11 h
      refine V_bipush (v := 10) dX9_sees_38 rfl ?_
      refine V_idiv dX9_sees_40 ⟨by decide, ?_⟩
      refine V_isub dX9_sees_41 ?_
      refine V_topi (fun x3_13 ex3_13 => ?_)
      have h := h x3_13 ex3_13
      refine V_istore_n (lv' := [(0, .ref 120), (1, .int x1), (2, .int r2), (3, .int x3_13)]) dX9_sees_42 (by decide) rfl rfl ?_
      refine V_iload_n 3 dX9_sees_43 rfl ?_
      refine V_if_ge (tgt := 51) dX9_sees_44 rfl ⟨fun c14 => ?_, fun c14 => ?_⟩
      · have h := h.1 c14
        refine V_iload_n 3 dX9_sees_51 rfl ?_
        exact V_sub [0, 1, 2] rfl h
      · have h := h.2 c14
        refine V_iconst (v := 0) dX9_sees_47 rfl ?_
        refine V_goto (tgt := 52) dX9_sees_48 rfl ?_
        exact V_sub [0, 1, 2] rfl h
    · have h := h.2 c8
      refine V_iconst (v := 0) dX9_sees_24 rfl ?_
      exact V_iret dX9_sees_25 rfl h
set_option maxRecDepth 20000 in
theorem b_X9_sees_52 {d : Nat} {P : Int32 → wf_Mem → Prop} (mem : wf_Mem) (x1 : Int32) (x2 : Int32) (y0 : Int32)
    (h : (Ci mX9_light d [.ref 120, .int x2] mem (fun r2 mem1 => (∀ x4_3 : Int32, x4_3 = (y0 + (r2 / 4)) → (Ci mX9_of d [.ref 120, .int x1, .int 0] mem1 (fun r5 mem4 => ((r5 = 1 → P (x4_3 / 2) mem4) ∧ (¬ r5 = 1 → ((r5 = 2 → (Ci mX9_of d [.ref 120, .int x1, .int 2] mem4 (fun r9 mem8 => P r9 mem8))) ∧ (¬ r5 = 2 → ((r5 = 3 → P ((x4_3 / 2) + 1) mem4) ∧ (¬ r5 = 3 → ((r5 = 4 → (Ci mX9_of d [.ref 120, .int x1, .int 2] mem4 (fun r13 mem12 => (Ci mX9_wagonsOwn d [.ref 120, .int x2, .int 0] mem12 (fun r15 mem14 => ((r15 ≤ 0 → P (r13 + 0) mem14) ∧ (¬ r15 ≤ 0 → P (r13 + 3) mem14))))))) ∧ (¬ r5 = 4 → ((r5 = 5 → (Ci mX9_of d [.ref 120, .int x1, .int 3] mem4 (fun r19 mem18 => ((r19 ≤ 5 → P x4_3 mem18) ∧ (¬ r19 ≤ 5 → P 0 mem18))))) ∧ (¬ r5 = 5 → P x4_3 mem4)))))))))))))))) :
    Vw (Ni (d + 1) P) mX9_sees 52 [(0, .ref 120), (1, .int x1), (2, .int x2)] [.int y0] mem := by
  refine V_aload_n 0 dX9_sees_52 rfl ?_
  refine V_iload_n 2 dX9_sees_53 rfl ?_
  refine V_cVi [.int x2] mv_X9_light w_474 dX9_sees_54 wf_rok_m sh_a120 rfl (by decide) rfl rfl (Nat.le_of_ble_eq_true rfl) h ?_
  intro r2 mem1 h
  refine V_iconst (v := 4) dX9_sees_57 rfl ?_
  refine V_idiv dX9_sees_58 ⟨by decide, ?_⟩
  refine V_iadd dX9_sees_59 ?_
  refine V_topi (fun x4_3 ex4_3 => ?_)
  have h := h x4_3 ex4_3
  refine V_istore (lv' := [(0, .ref 120), (1, .int x1), (2, .int x2), (4, .int x4_3)]) dX9_sees_60 (by decide) rfl rfl ?_
  refine V_aload_n 0 dX9_sees_62 rfl ?_
  refine V_iload_n 1 dX9_sees_63 rfl ?_
  refine V_iconst (v := 0) dX9_sees_64 rfl ?_
  refine V_cVi [.int x1, .int 0] mv_X9_of w_466 dX9_sees_65 wf_rok_m sh_a120 rfl (by decide) rfl rfl (Nat.le_of_ble_eq_true rfl) h ?_
  intro r5 mem4 h
  refine V_tswc [(1, 104), (2, 109), (3, 116), (4, 123), (5, 145)] 162 dX9_sees_68 (by decide +kernel) ?_
  refine And.intro (fun c6 => ?_) (fun c6 => ?_)
  · have h := h.1 c6
    show Vw _ _ 104 _ _ _
    refine V_iload 3 dX9_sees_104 rfl ?_
    refine V_iconst (v := 2) dX9_sees_106 rfl ?_
    refine V_idiv dX9_sees_107 ⟨by decide, ?_⟩
    exact V_iret dX9_sees_108 rfl h
  · have h := h.2 c6
    refine And.intro (fun c7 => ?_) (fun c7 => ?_)
    · have h := h.1 c7
      show Vw _ _ 109 _ _ _
      refine V_aload_n 0 dX9_sees_109 rfl ?_
      refine V_iload_n 1 dX9_sees_110 rfl ?_
      refine V_iconst (v := 2) dX9_sees_111 rfl ?_
      refine V_cVi [.int x1, .int 2] mv_X9_of w_466 dX9_sees_112 wf_rok_m sh_a120 rfl (by decide) rfl rfl (Nat.le_of_ble_eq_true rfl) h ?_
      intro r9 mem8 h
      exact V_iret dX9_sees_115 rfl h
    · have h := h.2 c7
      refine And.intro (fun c10 => ?_) (fun c10 => ?_)
      · have h := h.1 c10
        show Vw _ _ 116 _ _ _
        refine V_iload 3 dX9_sees_116 rfl ?_
        refine V_iconst (v := 2) dX9_sees_118 rfl ?_
        refine V_idiv dX9_sees_119 ⟨by decide, ?_⟩
        refine V_iconst (v := 1) dX9_sees_120 rfl ?_
        refine V_iadd dX9_sees_121 ?_
        exact V_iret dX9_sees_122 rfl h
      · have h := h.2 c10
        refine And.intro (fun c11 => ?_) (fun c11 => ?_)
        · have h := h.1 c11
          show Vw _ _ 123 _ _ _
          refine V_aload_n 0 dX9_sees_123 rfl ?_
          refine V_iload_n 1 dX9_sees_124 rfl ?_
          refine V_iconst (v := 2) dX9_sees_125 rfl ?_
          refine V_cVi [.int x1, .int 2] mv_X9_of w_466 dX9_sees_126 wf_rok_m sh_a120 rfl (by decide) rfl rfl (Nat.le_of_ble_eq_true rfl) h ?_
          intro r13 mem12 h
          refine V_aload_n 0 dX9_sees_129 rfl ?_
          refine V_iload_n 2 dX9_sees_130 rfl ?_
          refine V_iconst (v := 0) dX9_sees_131 rfl ?_
          refine V_cVi [.int x2, .int 0] mv_X9_wagonsOwn w_446 dX9_sees_132 wf_rok_m sh_a120 rfl (by decide) rfl rfl (Nat.le_of_ble_eq_true rfl) h ?_
          intro r15 mem14 h
          refine V_if_le (tgt := 142) dX9_sees_135 rfl ⟨fun c16 => ?_, fun c16 => ?_⟩
          · have h := h.1 c16
            refine V_iconst (v := 0) dX9_sees_142 rfl ?_
            refine V_iadd dX9_sees_143 ?_
            exact V_iret dX9_sees_144 rfl h
          · have h := h.2 c16
            refine V_iconst (v := 3) dX9_sees_138 rfl ?_
            refine V_goto (tgt := 143) dX9_sees_139 rfl ?_
            refine V_iadd dX9_sees_143 ?_
            exact V_iret dX9_sees_144 rfl h
        · have h := h.2 c11
          refine And.intro (fun c17 => ?_) (fun c17 => ?_)
          · have h := h.1 c17
            show Vw _ _ 145 _ _ _
            refine V_aload_n 0 dX9_sees_145 rfl ?_
            refine V_iload_n 1 dX9_sees_146 rfl ?_
            refine V_iconst (v := 3) dX9_sees_147 rfl ?_
            refine V_cVi [.int x1, .int 3] mv_X9_of w_466 dX9_sees_148 wf_rok_m sh_a120 rfl (by decide) rfl rfl (Nat.le_of_ble_eq_true rfl) h ?_
            intro r19 mem18 h
            refine V_iconst (v := 5) dX9_sees_151 rfl ?_
            refine V_icmp_le (tgt := 159) dX9_sees_152 rfl ⟨fun c20 => ?_, fun c20 => ?_⟩
            · have h := h.1 c20
              refine V_iload 3 dX9_sees_159 rfl ?_
              exact V_iret dX9_sees_161 rfl h
            · have h := h.2 c20
              refine V_iconst (v := 0) dX9_sees_155 rfl ?_
              refine V_goto (tgt := 161) dX9_sees_156 rfl ?_
              exact V_iret dX9_sees_161 rfl h
          · have h := h.2 c17
            show Vw _ _ 162 _ _ _
            refine V_iload 3 dX9_sees_162 rfl ?_
            exact V_iret dX9_sees_164 rfl h
set_option maxRecDepth 20000 in
theorem b_X9_worth_0 {d : Nat} {P : Int32 → wf_Mem → Prop} (mem : wf_Mem) (x1 : Int32)
    (h : (Ci mX9_of d [.ref 120, .int x1, .int 2] mem (fun r2 mem1 => (Ci mX9_of d [.ref 120, .int x1, .int 0] mem1 (fun r4 mem3 => ((r4 = 1 → P (r2 + 4) mem3) ∧ (¬ r4 = 1 → ((r4 = 2 → P (20 - r2) mem3) ∧ (¬ r4 = 2 → ((r4 = 3 → P (2 * (r2 + 4)) mem3) ∧ (¬ r4 = 3 → ((r4 = 4 → P (29 - r2) mem3) ∧ (¬ r4 = 4 → ((r4 = 5 → P 2 mem3) ∧ (¬ r4 = 5 → P r2 mem3))))))))))))))) :
    Vw (Ni (d + 1) P) mX9_worth 0 [(0, .ref 120), (1, .int x1)] [] mem := by
  refine V_aload_n 0 dX9_worth_0 rfl ?_
  refine V_iload_n 1 dX9_worth_1 rfl ?_
  refine V_iconst (v := 2) dX9_worth_2 rfl ?_
  refine V_cVi [.int x1, .int 2] mv_X9_of w_466 dX9_worth_3 wf_rok_m sh_a120 rfl (by decide) rfl rfl (Nat.le_of_ble_eq_true rfl) h ?_
  intro r2 mem1 h
  refine V_istore_n (lv' := [(0, .ref 120), (1, .int x1), (2, .int r2)]) dX9_worth_6 (by decide) rfl rfl ?_
  refine V_aload_n 0 dX9_worth_7 rfl ?_
  refine V_iload_n 1 dX9_worth_8 rfl ?_
  refine V_iconst (v := 0) dX9_worth_9 rfl ?_
  refine V_cVi [.int x1, .int 0] mv_X9_of w_466 dX9_worth_10 wf_rok_m sh_a120 rfl (by decide) rfl rfl (Nat.le_of_ble_eq_true rfl) h ?_
  intro r4 mem3 h
  refine V_tswc [(1, 48), (2, 52), (3, 57), (4, 63), (5, 68)] 70 dX9_worth_13 (by decide +kernel) ?_
  refine And.intro (fun c5 => ?_) (fun c5 => ?_)
  · have h := h.1 c5
    show Vw _ _ 48 _ _ _
    refine V_iload_n 2 dX9_worth_48 rfl ?_
    refine V_iconst (v := 4) dX9_worth_49 rfl ?_
    refine V_iadd dX9_worth_50 ?_
    exact V_iret dX9_worth_51 rfl h
  · have h := h.2 c5
    refine And.intro (fun c6 => ?_) (fun c6 => ?_)
    · have h := h.1 c6
      show Vw _ _ 52 _ _ _
      refine V_bipush (v := 20) dX9_worth_52 rfl ?_
      refine V_iload_n 2 dX9_worth_54 rfl ?_
      refine V_isub dX9_worth_55 ?_
      exact V_iret dX9_worth_56 rfl h
    · have h := h.2 c6
      refine And.intro (fun c7 => ?_) (fun c7 => ?_)
      · have h := h.1 c7
        show Vw _ _ 57 _ _ _
        refine V_iconst (v := 2) dX9_worth_57 rfl ?_
        refine V_iload_n 2 dX9_worth_58 rfl ?_
        refine V_iconst (v := 4) dX9_worth_59 rfl ?_
        refine V_iadd dX9_worth_60 ?_
        refine V_imul dX9_worth_61 ?_
        exact V_iret dX9_worth_62 rfl h
      · have h := h.2 c7
        refine And.intro (fun c8 => ?_) (fun c8 => ?_)
        · have h := h.1 c8
          show Vw _ _ 63 _ _ _
          refine V_bipush (v := 29) dX9_worth_63 rfl ?_
          refine V_iload_n 2 dX9_worth_65 rfl ?_
          refine V_isub dX9_worth_66 ?_
          exact V_iret dX9_worth_67 rfl h
        · have h := h.2 c8
          refine And.intro (fun c9 => ?_) (fun c9 => ?_)
          · have h := h.1 c9
            show Vw _ _ 68 _ _ _
            refine V_iconst (v := 2) dX9_worth_68 rfl ?_
            exact V_iret dX9_worth_69 rfl h
          · have h := h.2 c9
            show Vw _ _ 70 _ _ _
            refine V_iload_n 2 dX9_worth_70 rfl ?_
            exact V_iret dX9_worth_71 rfl h
set_option maxRecDepth 20000 in
theorem b_X9_guard_0 {d : Nat} {P : Int32 → wf_Mem → Prop} (mem : wf_Mem) (x1 : Int32)
    (h : (Ci mX9_light d [.ref 120, .int x1] mem (fun r2 mem1 => Vw (Ni (d + 1) P) mX9_guard 8 [(0, .ref 120), (1, .int x1), (2, .int r2), (3, .int 0)] [] mem1))) :
    Vw (Ni (d + 1) P) mX9_guard 0 [(0, .ref 120), (1, .int x1)] [] mem := by
  refine V_aload_n 0 dX9_guard_0 rfl ?_
  refine V_iload_n 1 dX9_guard_1 rfl ?_
  refine V_cVi [.int x1] mv_X9_light w_474 dX9_guard_2 wf_rok_m sh_a120 rfl (by decide) rfl rfl (Nat.le_of_ble_eq_true rfl) h ?_
  intro r2 mem1 h
  refine V_istore_n (lv' := [(0, .ref 120), (1, .int x1), (2, .int r2)]) dX9_guard_5 (by decide) rfl rfl ?_
  refine V_iconst (v := 0) dX9_guard_6 rfl ?_
  refine V_istore_n (lv' := [(0, .ref 120), (1, .int x1), (2, .int r2), (3, .int 0)]) dX9_guard_7 (by decide) rfl rfl ?_
  exact h
set_option maxRecDepth 20000 in
theorem b_X9_guard_8 {d : Nat} {P : Int32 → wf_Mem → Prop} (mem : wf_Mem) (x1 : Int32) (x2 : Int32) (x3 : Int32)
    (h : (((mem 121 1) ≤ x3 → P x2 mem) ∧ (¬ (mem 121 1) ≤ x3 → (Ci mX9_of d [.ref 120, .int x3, .int 1] mem (fun r3 mem2 => ((¬ r3 = x1 → (∀ x2_5 : Int32, x2_5 = (x2 + 0) → Vw (Ni (d + 1) P) mX9_guard 8 [(0, .ref 120), (1, .int x1), (2, .int x2_5), (3, .int (x3 + 1))] [] mem2)) ∧ (r3 = x1 → (Ci mX9_sees d [.ref 120, .int x3] mem2 (fun r7 mem6 => (∀ x2_8 : Int32, x2_8 = (x2 + r7) → Vw (Ni (d + 1) P) mX9_guard 8 [(0, .ref 120), (1, .int x1), (2, .int x2_8), (3, .int (x3 + 1))] [] mem6)))))))))) :
    Vw (Ni (d + 1) P) mX9_guard 8 [(0, .ref 120), (1, .int x1), (2, .int x2), (3, .int x3)] [] mem := by
  refine V_iload_n 3 dX9_guard_8 rfl ?_
  refine V_aload_n 0 dX9_guard_9 rfl ?_
  refine V_getf (v := .ref 121) gf_X9_7 dX9_guard_10 sh_a120 rfl ?_
  refine V_iconst (v := 1) dX9_guard_13 rfl ?_
  refine V_ildL (j := 1) dX9_guard_14 sh_a121 (by decide) (by decide) ?_
  refine V_icmp_ge (tgt := 46) dX9_guard_15 rfl ⟨fun c1 => ?_, fun c1 => ?_⟩
  · have h := h.1 c1
    refine V_iload_n 2 dX9_guard_46 rfl ?_
    exact V_iret dX9_guard_47 rfl h
  · have h := h.2 c1
    refine V_iload_n 2 dX9_guard_18 rfl ?_
    refine V_aload_n 0 dX9_guard_19 rfl ?_
    refine V_iload_n 3 dX9_guard_20 rfl ?_
    refine V_iconst (v := 1) dX9_guard_21 rfl ?_
    refine V_cVi [.int x3, .int 1] mv_X9_of w_466 dX9_guard_22 wf_rok_m sh_a120 rfl (by decide) rfl rfl (Nat.le_of_ble_eq_true rfl) h ?_
    intro r3 mem2 h
    refine V_iload_n 1 dX9_guard_25 rfl ?_
    refine V_icmp_ne (tgt := 37) dX9_guard_26 rfl ⟨fun c4 => ?_, fun c4 => ?_⟩
    · have h := h.1 c4
      refine V_iconst (v := 0) dX9_guard_37 rfl ?_
      refine V_iadd dX9_guard_38 ?_
      refine V_topi (fun x2_5 ex2_5 => ?_)
      have h := h x2_5 ex2_5
      refine V_istore_n (lv' := [(0, .ref 120), (1, .int x1), (2, .int x2_5), (3, .int x3)]) dX9_guard_39 (by decide) rfl rfl ?_
      refine V_iinc (v := (x3 + 1)) (lv' := [(0, .ref 120), (1, .int x1), (2, .int x2_5), (3, .int (x3 + 1))]) 3 dX9_guard_40 rfl rfl (by decide) rfl rfl ?_
      refine V_goto (tgt := 8) dX9_guard_43 rfl ?_
      exact h
    · have h := h.2 c4
      refine V_aload_n 0 dX9_guard_29 rfl ?_
      refine V_iload_n 3 dX9_guard_30 rfl ?_
      refine V_cVi [.int x3] mv_X9_sees w_478 dX9_guard_31 wf_rok_m sh_a120 rfl (by decide) rfl rfl (Nat.le_of_ble_eq_true rfl) h ?_
      intro r7 mem6 h
      refine V_goto (tgt := 38) dX9_guard_34 rfl ?_
      refine V_iadd dX9_guard_38 ?_
      refine V_topi (fun x2_8 ex2_8 => ?_)
      have h := h x2_8 ex2_8
      refine V_istore_n (lv' := [(0, .ref 120), (1, .int x1), (2, .int x2_8), (3, .int x3)]) dX9_guard_39 (by decide) rfl rfl ?_
      refine V_iinc (v := (x3 + 1)) (lv' := [(0, .ref 120), (1, .int x1), (2, .int x2_8), (3, .int (x3 + 1))]) 3 dX9_guard_40 rfl rfl (by decide) rfl rfl ?_
      refine V_goto (tgt := 8) dX9_guard_43 rfl ?_
      exact h
set_option maxRecDepth 20000 in
theorem b_X9_fears_0 {d : Nat} {P : Int32 → wf_Mem → Prop} (mem : wf_Mem) (x1 : Int32)
    (h : (Ci mX9_guard d [.ref 120, .int x1] mem (fun r2 mem1 => (Ci mX9_counts d [.ref 120, .int 1] mem1 (fun r4 mem3 => ((0 ≤ r4 → (∀ mem6 : wf_Mem, mem6 = wf_ms mem3 134 103 r2 → (Ci mX9_wagonsOwn d [.ref 120, .int x1, .int 2] mem6 (fun r8 mem7 => (∀ mem9 : wf_Mem, mem9 = wf_ms mem7 134 116 r8 → (∀ mem10 : wf_Mem, mem10 = wf_ms mem9 134 104 (mem9 121 5) → (Ci mX9_worked d [.ref 120, .int r4] mem10 (fun r12 mem11 => (Ci mX9_within d [.int r12, .int 999] mem11 (fun r14 mem13 => P r14 mem13)))))))))) ∧ (¬ 0 ≤ r4 → (Ci mX9_wagonsOwn d [.ref 120, .int x1, .int 2] mem3 (fun r16 mem15 => P (r2 + r16) mem15))))))))) :
    Vw (Ni (d + 1) P) mX9_fears 0 [(0, .ref 120), (1, .int x1)] [] mem := by
  refine V_aload_n 0 dX9_fears_0 rfl ?_
  refine V_iload_n 1 dX9_fears_1 rfl ?_
  refine V_cVi [.int x1] mv_X9_guard w_482 dX9_fears_2 wf_rok_m sh_a120 rfl (by decide) rfl rfl (Nat.le_of_ble_eq_true rfl) h ?_
  intro r2 mem1 h
  refine V_istore_n (lv' := [(0, .ref 120), (1, .int x1), (2, .int r2)]) dX9_fears_5 (by decide) rfl rfl ?_
  refine V_aload_n 0 dX9_fears_6 rfl ?_
  refine V_iconst (v := 1) dX9_fears_7 rfl ?_
  refine V_cVi [.int 1] mv_X9_counts w_454 dX9_fears_8 wf_rok_m sh_a120 rfl (by decide) rfl rfl (Nat.le_of_ble_eq_true rfl) h ?_
  intro r4 mem3 h
  refine V_istore_n (lv' := [(0, .ref 120), (1, .int x1), (2, .int r2), (3, .int r4)]) dX9_fears_11 (by decide) rfl rfl ?_
  refine V_iload_n 3 dX9_fears_12 rfl ?_
  refine V_if_ge (tgt := 25) dX9_fears_13 rfl ⟨fun c5 => ?_, fun c5 => ?_⟩
  · have h := h.1 c5
    refine V_aload_n 0 dX9_fears_25 rfl ?_
    refine V_getf (v := .ref 134) gf_X9_49 dX9_fears_26 sh_a120 rfl ?_
    refine V_bipush (v := 103) dX9_fears_29 rfl ?_
    refine V_iload_n 2 dX9_fears_31 rfl ?_
    refine V_istL (j := 103) dX9_fears_32 sh_a134 (by decide) (by decide) ?_
    refine V_topm (fun mem6 emem6 => ?_)
    have h := h mem6 emem6
    refine V_aload_n 0 dX9_fears_33 rfl ?_
    refine V_getf (v := .ref 134) gf_X9_49 dX9_fears_34 sh_a120 rfl ?_
    refine V_bipush (v := 116) dX9_fears_37 rfl ?_
    refine V_aload_n 0 dX9_fears_39 rfl ?_
    refine V_iload_n 1 dX9_fears_40 rfl ?_
    refine V_iconst (v := 2) dX9_fears_41 rfl ?_
    refine V_cVi [.int x1, .int 2] mv_X9_wagonsOwn w_446 dX9_fears_42 wf_rok_m sh_a120 rfl (by decide) rfl rfl (Nat.le_of_ble_eq_true rfl) h ?_
    intro r8 mem7 h
    refine V_istL (j := 116) dX9_fears_45 sh_a134 (by decide) (by decide) ?_
    refine V_topm (fun mem9 emem9 => ?_)
    have h := h mem9 emem9
    refine V_aload_n 0 dX9_fears_46 rfl ?_
    refine V_getf (v := .ref 134) gf_X9_49 dX9_fears_47 sh_a120 rfl ?_
    refine V_bipush (v := 104) dX9_fears_50 rfl ?_
    refine V_aload_n 0 dX9_fears_52 rfl ?_
    refine V_getf (v := .ref 121) gf_X9_7 dX9_fears_53 sh_a120 rfl ?_
    refine V_iconst (v := 5) dX9_fears_56 rfl ?_
    refine V_ildL (j := 5) dX9_fears_57 sh_a121 (by decide) (by decide) ?_
    refine V_istL (j := 104) dX9_fears_58 sh_a134 (by decide) (by decide) ?_
    refine V_topm (fun mem10 emem10 => ?_)
    have h := h mem10 emem10
    refine V_aload_n 0 dX9_fears_59 rfl ?_
    refine V_iload_n 3 dX9_fears_60 rfl ?_
    refine V_cVi [.int r4] mv_X9_worked w_459 dX9_fears_61 wf_rok_m sh_a120 rfl (by decide) rfl rfl (Nat.le_of_ble_eq_true rfl) h ?_
    intro r12 mem11 h
    refine V_sipush (v := 999) dX9_fears_64 rfl ?_
    refine V_cSi [.int r12, .int 999] ms_X9_within w_462 dX9_fears_67 wf_rok_m rfl rfl (Nat.le_of_ble_eq_true rfl) h ?_
    intro r14 mem13 h
    exact V_iret dX9_fears_70 rfl h
  · have h := h.2 c5
    refine V_iload_n 2 dX9_fears_16 rfl ?_
    refine V_aload_n 0 dX9_fears_17 rfl ?_
    refine V_iload_n 1 dX9_fears_18 rfl ?_
    refine V_iconst (v := 2) dX9_fears_19 rfl ?_
    refine V_cVi [.int x1, .int 2] mv_X9_wagonsOwn w_446 dX9_fears_20 wf_rok_m sh_a120 rfl (by decide) rfl rfl (Nat.le_of_ble_eq_true rfl) h ?_
    intro r16 mem15 h
    refine V_iadd dX9_fears_23 ?_
    exact V_iret dX9_fears_24 rfl h
set_option maxRecDepth 20000 in
theorem b_X9_at_0 {d : Nat} {P : Int32 → wf_Mem → Prop} (mem : wf_Mem) (x1 : Int32) (x2 : Int32)
    (h : (Ci mX9_isWagon d [.ref 120, .int x1] mem (fun r2 mem1 => ((¬ r2 = 0 → ((x2 = 0 → (Ci mX9_wagonsOwn d [.ref 120, .int x1, .int x2] mem1 (fun r6 mem5 => P r6 mem5))) ∧ (¬ x2 = 0 → ((x2 = 1 → (Ci mX9_wagonsOwn d [.ref 120, .int x1, .int x2] mem1 (fun r9 mem8 => P r9 mem8))) ∧ (¬ x2 = 1 → ((x2 = 2 → (Ci mX9_wagonsOwn d [.ref 120, .int x1, .int x2] mem1 (fun r12 mem11 => P r12 mem11))) ∧ (¬ x2 = 2 → ((x2 = 3 → (Ci mX9_light d [.ref 120, .int x1] mem1 (fun r15 mem14 => P r15 mem14))) ∧ (¬ x2 = 3 → ((x2 = 4 → (Ci mX9_guard d [.ref 120, .int x1] mem1 (fun r18 mem17 => P r18 mem17))) ∧ (¬ x2 = 4 → ((x2 = 5 → (Ci mX9_fears d [.ref 120, .int x1] mem1 (fun r21 mem20 => P r21 mem20))) ∧ (¬ x2 = 5 → P (-1000000001) mem1))))))))))))) ∧ (r2 = 0 → P (-1000000001) mem1))))) :
    Vw (Ni (d + 1) P) mX9_at 0 [(0, .ref 120), (1, .int x1), (2, .int x2)] [] mem := by
  refine V_aload_n 0 dX9_at_0 rfl ?_
  refine V_iload_n 1 dX9_at_1 rfl ?_
  refine V_cVi [.int x1] mv_X9_isWagon w_470 dX9_at_2 wf_rok_m sh_a120 rfl (by decide) rfl rfl (Nat.le_of_ble_eq_true rfl) h ?_
  intro r2 mem1 h
  refine V_if_ne (tgt := 11) dX9_at_5 rfl ⟨fun c3 => ?_, fun c3 => ?_⟩
  · have h := h.1 c3
    refine V_iload_n 2 dX9_at_11 rfl ?_
    refine V_tswc [(0, 52), (1, 52), (2, 52), (3, 59), (4, 65), (5, 71)] 77 dX9_at_12 (by decide +kernel) ?_
    refine And.intro (fun c4 => ?_) (fun c4 => ?_)
    · have h := h.1 c4
      show Vw _ _ 52 _ _ _
      refine V_aload_n 0 dX9_at_52 rfl ?_
      refine V_iload_n 1 dX9_at_53 rfl ?_
      refine V_iload_n 2 dX9_at_54 rfl ?_
      refine V_cVi [.int x1, .int x2] mv_X9_wagonsOwn w_446 dX9_at_55 wf_rok_m sh_a120 rfl (by decide) rfl rfl (Nat.le_of_ble_eq_true rfl) h ?_
      intro r6 mem5 h
      exact V_iret dX9_at_58 rfl h
    · have h := h.2 c4
      refine And.intro (fun c7 => ?_) (fun c7 => ?_)
      · have h := h.1 c7
        show Vw _ _ 52 _ _ _
        refine V_aload_n 0 dX9_at_52 rfl ?_
        refine V_iload_n 1 dX9_at_53 rfl ?_
        refine V_iload_n 2 dX9_at_54 rfl ?_
        refine V_cVi [.int x1, .int x2] mv_X9_wagonsOwn w_446 dX9_at_55 wf_rok_m sh_a120 rfl (by decide) rfl rfl (Nat.le_of_ble_eq_true rfl) h ?_
        intro r9 mem8 h
        exact V_iret dX9_at_58 rfl h
      · have h := h.2 c7
        refine And.intro (fun c10 => ?_) (fun c10 => ?_)
        · have h := h.1 c10
          show Vw _ _ 52 _ _ _
          refine V_aload_n 0 dX9_at_52 rfl ?_
          refine V_iload_n 1 dX9_at_53 rfl ?_
          refine V_iload_n 2 dX9_at_54 rfl ?_
          refine V_cVi [.int x1, .int x2] mv_X9_wagonsOwn w_446 dX9_at_55 wf_rok_m sh_a120 rfl (by decide) rfl rfl (Nat.le_of_ble_eq_true rfl) h ?_
          intro r12 mem11 h
          exact V_iret dX9_at_58 rfl h
        · have h := h.2 c10
          refine And.intro (fun c13 => ?_) (fun c13 => ?_)
          · have h := h.1 c13
            show Vw _ _ 59 _ _ _
            refine V_aload_n 0 dX9_at_59 rfl ?_
            refine V_iload_n 1 dX9_at_60 rfl ?_
            refine V_cVi [.int x1] mv_X9_light w_474 dX9_at_61 wf_rok_m sh_a120 rfl (by decide) rfl rfl (Nat.le_of_ble_eq_true rfl) h ?_
            intro r15 mem14 h
            exact V_iret dX9_at_64 rfl h
          · have h := h.2 c13
            refine And.intro (fun c16 => ?_) (fun c16 => ?_)
            · have h := h.1 c16
              show Vw _ _ 65 _ _ _
              refine V_aload_n 0 dX9_at_65 rfl ?_
              refine V_iload_n 1 dX9_at_66 rfl ?_
              refine V_cVi [.int x1] mv_X9_guard w_482 dX9_at_67 wf_rok_m sh_a120 rfl (by decide) rfl rfl (Nat.le_of_ble_eq_true rfl) h ?_
              intro r18 mem17 h
              exact V_iret dX9_at_70 rfl h
            · have h := h.2 c16
              refine And.intro (fun c19 => ?_) (fun c19 => ?_)
              · have h := h.1 c19
                show Vw _ _ 71 _ _ _
                refine V_aload_n 0 dX9_at_71 rfl ?_
                refine V_iload_n 1 dX9_at_72 rfl ?_
                refine V_cVi [.int x1] mv_X9_fears w_486 dX9_at_73 wf_rok_m sh_a120 rfl (by decide) rfl rfl (Nat.le_of_ble_eq_true rfl) h ?_
                intro r21 mem20 h
                exact V_iret dX9_at_76 rfl h
              · have h := h.2 c19
                show Vw _ _ 77 _ _ _
                refine V_ldc w_442 dX9_at_77 ?_
                exact V_iret dX9_at_79 rfl h
  · have h := h.2 c3
    refine V_ldc w_442 dX9_at_8 ?_
    exact V_iret dX9_at_10 rfl h
set_option maxRecDepth 20000 in
theorem b_X9_lays_0 {d : Nat} {P : Int32 → wf_Mem → Prop} (mem : wf_Mem) (x1 : Int32) (x2 : Int32) (x3 : Int32)
    (h : (Ci mX9_isWagon d [.ref 120, .int x1] mem (fun r2 mem1 => ((r2 = 0 → P (-1000000001) mem1) ∧ (¬ r2 = 0 → (Ci mX9_isIn d [.long (x2 : Int32).toInt64, .long 0, .long 2] mem1 (fun r5 mem4 => ((r5 = 0 → P (-1000000001) mem4) ∧ (¬ r5 = 0 → ((¬ x2 = 1 → Vw (Ni (d + 1) P) mX9_lays 37 [(0, .ref 120), (1, .int x1), (2, .int x2), (3, .int x3)] [.long 99, .long 0, .long (x3 : Int32).toInt64] mem4) ∧ (x2 = 1 → Vw (Ni (d + 1) P) mX9_lays 37 [(0, .ref 120), (1, .int x1), (2, .int x2), (3, .int x3)] [.long 9, .long 0, .long (x3 : Int32).toInt64] mem4))))))))))) :
    Vw (Ni (d + 1) P) mX9_lays 0 [(0, .ref 120), (1, .int x1), (2, .int x2), (3, .int x3)] [] mem := by
  refine V_aload_n 0 dX9_lays_0 rfl ?_
  refine V_iload_n 1 dX9_lays_1 rfl ?_
  refine V_cVi [.int x1] mv_X9_isWagon w_470 dX9_lays_2 wf_rok_m sh_a120 rfl (by decide) rfl rfl (Nat.le_of_ble_eq_true rfl) h ?_
  intro r2 mem1 h
  refine V_if_eq (tgt := 43) dX9_lays_5 rfl ⟨fun c3 => ?_, fun c3 => ?_⟩
  · have h := h.1 c3
    refine V_ldc w_442 dX9_lays_43 ?_
    exact V_iret dX9_lays_45 rfl h
  · have h := h.2 c3
    refine V_iload_n 2 dX9_lays_8 rfl ?_
    refine V_i2l dX9_lays_9 ?_
    refine V_lconst (v := 0) dX9_lays_10 rfl ?_
    refine V_ldc2 w_487 dX9_lays_11 ?_
    refine V_cSi [.long (x2 : Int32).toInt64, .long 0, .long 2] ms_X9_isIn w_438 dX9_lays_14 wf_rok_m rfl rfl (Nat.le_of_ble_eq_true rfl) h ?_
    intro r5 mem4 h
    refine V_if_eq (tgt := 43) dX9_lays_17 rfl ⟨fun c6 => ?_, fun c6 => ?_⟩
    · have h := h.1 c6
      refine V_ldc w_442 dX9_lays_43 ?_
      exact V_iret dX9_lays_45 rfl h
    · have h := h.2 c6
      refine V_iload_n 3 dX9_lays_20 rfl ?_
      refine V_i2l dX9_lays_21 ?_
      refine V_lconst (v := 0) dX9_lays_22 rfl ?_
      refine V_iload_n 2 dX9_lays_23 rfl ?_
      refine V_iconst (v := 1) dX9_lays_24 rfl ?_
      refine V_icmp_ne (tgt := 34) dX9_lays_25 rfl ⟨fun c7 => ?_, fun c7 => ?_⟩
      · have h := h.1 c7
        refine V_ldc2 w_440 dX9_lays_34 ?_
        exact h
      · have h := h.2 c7
        refine V_ldc2 w_488 dX9_lays_28 ?_
        refine V_goto (tgt := 37) dX9_lays_31 rfl ?_
        exact h
set_option maxRecDepth 20000 in
theorem b_X9_lays_37 {d : Nat} {P : Int32 → wf_Mem → Prop} (mem : wf_Mem) (x1 : Int32) (x2 : Int32) (x3 : Int32) (y0 : Int64) (y1 : Int64) (y2 : Int64)
    (h : (Ci mX9_isIn d [.long y0, .long y1, .long y2] mem (fun r2 mem1 => ((¬ r2 = 0 → (Ci mX9_becomes d [.ref 120, .int ((12 + (3 * x1)) + x2), .int x3] mem1 (fun r5 mem4 => P r5 mem4))) ∧ (r2 = 0 → P (-1000000001) mem1))))) :
    Vw (Ni (d + 1) P) mX9_lays 37 [(0, .ref 120), (1, .int x1), (2, .int x2), (3, .int x3)] [.long y2, .long y1, .long y0] mem := by
  refine V_cSi [.long y0, .long y1, .long y2] ms_X9_isIn w_438 dX9_lays_37 wf_rok_m rfl rfl (Nat.le_of_ble_eq_true rfl) h ?_
  intro r2 mem1 h
  refine V_if_ne (tgt := 46) dX9_lays_40 rfl ⟨fun c3 => ?_, fun c3 => ?_⟩
  · have h := h.1 c3
    refine V_aload_n 0 dX9_lays_46 rfl ?_
    refine V_bipush (v := 12) dX9_lays_47 rfl ?_
    refine V_iconst (v := 3) dX9_lays_49 rfl ?_
    refine V_iload_n 1 dX9_lays_50 rfl ?_
    refine V_imul dX9_lays_51 ?_
    refine V_iadd dX9_lays_52 ?_
    refine V_iload_n 2 dX9_lays_53 rfl ?_
    refine V_iadd dX9_lays_54 ?_
    refine V_iload_n 3 dX9_lays_55 rfl ?_
    refine V_cVi [.int ((12 + (3 * x1)) + x2), .int x3] mv_X9_becomes w_492 dX9_lays_56 wf_rok_m sh_a120 rfl (by decide) rfl rfl (Nat.le_of_ble_eq_true rfl) h ?_
    intro r5 mem4 h
    exact V_iret dX9_lays_59 rfl h
  · have h := h.2 c3
    refine V_ldc w_442 dX9_lays_43 ?_
    exact V_iret dX9_lays_45 rfl h
set_option maxRecDepth 20000 in
theorem b_X9_far_0 {d : Nat} {P : Int32 → wf_Mem → Prop} (mem : wf_Mem) (x1 : Int32) (x2 : Int32)
    (h : (Ci mX9_isWagon d [.ref 120, .int x1] mem (fun r2 mem1 => ((r2 = 0 → P (-1000000001) mem1) ∧ (¬ r2 = 0 → (Ci mX9_isWagon d [.ref 120, .int x2] mem1 (fun r5 mem4 => ((¬ r5 = 0 → (Ci mX9_off d [.int x1, .int x2] mem4 (fun r8 mem7 => ((((mem7 121 0) - r8) ≤ r8 → P ((mem7 121 0) - r8) mem7) ∧ (¬ ((mem7 121 0) - r8) ≤ r8 → P r8 mem7))))) ∧ (r5 = 0 → P (-1000000001) mem4))))))))) :
    Vw (Ni (d + 1) P) mX9_far 0 [(0, .ref 120), (1, .int x1), (2, .int x2)] [] mem := by
  refine V_aload_n 0 dX9_far_0 rfl ?_
  refine V_iload_n 1 dX9_far_1 rfl ?_
  refine V_cVi [.int x1] mv_X9_isWagon w_470 dX9_far_2 wf_rok_m sh_a120 rfl (by decide) rfl rfl (Nat.le_of_ble_eq_true rfl) h ?_
  intro r2 mem1 h
  refine V_if_eq (tgt := 16) dX9_far_5 rfl ⟨fun c3 => ?_, fun c3 => ?_⟩
  · have h := h.1 c3
    refine V_ldc w_442 dX9_far_16 ?_
    exact V_iret dX9_far_18 rfl h
  · have h := h.2 c3
    refine V_aload_n 0 dX9_far_8 rfl ?_
    refine V_iload_n 2 dX9_far_9 rfl ?_
    refine V_cVi [.int x2] mv_X9_isWagon w_470 dX9_far_10 wf_rok_m sh_a120 rfl (by decide) rfl rfl (Nat.le_of_ble_eq_true rfl) h ?_
    intro r5 mem4 h
    refine V_if_ne (tgt := 19) dX9_far_13 rfl ⟨fun c6 => ?_, fun c6 => ?_⟩
    · have h := h.1 c6
      refine V_iload_n 1 dX9_far_19 rfl ?_
      refine V_iload_n 2 dX9_far_20 rfl ?_
      refine V_cSi [.int x1, .int x2] ms_X9_off w_495 dX9_far_21 wf_rok_m rfl rfl (Nat.le_of_ble_eq_true rfl) h ?_
      intro r8 mem7 h
      refine V_istore_n (lv' := [(0, .ref 120), (1, .int x1), (2, .int x2), (3, .int r8)]) dX9_far_24 (by decide) rfl rfl ?_
      refine V_iload_n 3 dX9_far_25 rfl ?_
      refine V_aload_n 0 dX9_far_26 rfl ?_
      refine V_getf (v := .ref 121) gf_X9_7 dX9_far_27 sh_a120 rfl ?_
      refine V_iconst (v := 0) dX9_far_30 rfl ?_
      refine V_ildL (j := 0) dX9_far_31 sh_a121 (by decide) (by decide) ?_
      refine V_iload_n 3 dX9_far_32 rfl ?_
      refine V_isub dX9_far_33 ?_
      refine V_icmp_ge (tgt := 41) dX9_far_34 rfl ⟨fun c9 => ?_, fun c9 => ?_⟩
      · have h := h.1 c9
        refine V_aload_n 0 dX9_far_41 rfl ?_
        refine V_getf (v := .ref 121) gf_X9_7 dX9_far_42 sh_a120 rfl ?_
        refine V_iconst (v := 0) dX9_far_45 rfl ?_
        refine V_ildL (j := 0) dX9_far_46 sh_a121 (by decide) (by decide) ?_
        refine V_iload_n 3 dX9_far_47 rfl ?_
        refine V_isub dX9_far_48 ?_
        exact V_iret dX9_far_49 rfl h
      · have h := h.2 c9
        refine V_iload_n 3 dX9_far_37 rfl ?_
        refine V_goto (tgt := 49) dX9_far_38 rfl ?_
        exact V_iret dX9_far_49 rfl h
    · have h := h.2 c6
      refine V_ldc w_442 dX9_far_16 ?_
      exact V_iret dX9_far_18 rfl h
set_option maxRecDepth 20000 in
theorem b_X9_plain_0 {d : Nat} {P : Int32 → wf_Mem → Prop} (mem : wf_Mem) (x1 : Int32) (x2 : Int32)
    (h : (Ci mX9_isIn d [.long (x1 : Int32).toInt64, .long 0, .long 2] mem (fun r2 mem1 => ((r2 = 0 → P (-1000000001) mem1) ∧ (¬ r2 = 0 → ((¬ x1 = 0 → Vw (Ni (d + 1) P) mX9_plain 28 [(0, .ref 120), (1, .int x1), (2, .int x2)] [.long 99, .long 0, .long (x2 : Int32).toInt64] mem1) ∧ (x1 = 0 → Vw (Ni (d + 1) P) mX9_plain 28 [(0, .ref 120), (1, .int x1), (2, .int x2)] [.long 9999, .long 0, .long (x2 : Int32).toInt64] mem1))))))) :
    Vw (Ni (d + 1) P) mX9_plain 0 [(0, .ref 120), (1, .int x1), (2, .int x2)] [] mem := by
  refine V_iload_n 1 dX9_plain_0 rfl ?_
  refine V_i2l dX9_plain_1 ?_
  refine V_lconst (v := 0) dX9_plain_2 rfl ?_
  refine V_ldc2 w_487 dX9_plain_3 ?_
  refine V_cSi [.long (x1 : Int32).toInt64, .long 0, .long 2] ms_X9_isIn w_438 dX9_plain_6 wf_rok_m rfl rfl (Nat.le_of_ble_eq_true rfl) h ?_
  intro r2 mem1 h
  refine V_if_eq (tgt := 45) dX9_plain_9 rfl ⟨fun c3 => ?_, fun c3 => ?_⟩
  · have h := h.1 c3
    refine V_ldc w_442 dX9_plain_45 ?_
    exact V_iret dX9_plain_47 rfl h
  · have h := h.2 c3
    refine V_iload_n 2 dX9_plain_12 rfl ?_
    refine V_i2l dX9_plain_13 ?_
    refine V_lconst (v := 0) dX9_plain_14 rfl ?_
    refine V_iload_n 1 dX9_plain_15 rfl ?_
    refine V_if_ne (tgt := 25) dX9_plain_16 rfl ⟨fun c4 => ?_, fun c4 => ?_⟩
    · have h := h.1 c4
      refine V_ldc2 w_440 dX9_plain_25 ?_
      exact h
    · have h := h.2 c4
      refine V_ldc2 w_496 dX9_plain_19 ?_
      refine V_goto (tgt := 28) dX9_plain_22 rfl ?_
      exact h
set_option maxRecDepth 20000 in
theorem b_X9_plain_28 {d : Nat} {P : Int32 → wf_Mem → Prop} (mem : wf_Mem) (x1 : Int32) (x2 : Int32) (y0 : Int64) (y1 : Int64) (y2 : Int64)
    (h : (Ci mX9_isIn d [.long y0, .long y1, .long y2] mem (fun r2 mem1 => ((r2 = 0 → P (-1000000001) mem1) ∧ (¬ r2 = 0 → (Ci mX9_becomes d [.ref 120, .int (3 + x1), .int x2] mem1 (fun r5 mem4 => P r5 mem4))))))) :
    Vw (Ni (d + 1) P) mX9_plain 28 [(0, .ref 120), (1, .int x1), (2, .int x2)] [.long y2, .long y1, .long y0] mem := by
  refine V_cSi [.long y0, .long y1, .long y2] ms_X9_isIn w_438 dX9_plain_28 wf_rok_m rfl rfl (Nat.le_of_ble_eq_true rfl) h ?_
  intro r2 mem1 h
  refine V_if_eq (tgt := 45) dX9_plain_31 rfl ⟨fun c3 => ?_, fun c3 => ?_⟩
  · have h := h.1 c3
    refine V_ldc w_442 dX9_plain_45 ?_
    exact V_iret dX9_plain_47 rfl h
  · have h := h.2 c3
    refine V_aload_n 0 dX9_plain_34 rfl ?_
    refine V_iconst (v := 3) dX9_plain_35 rfl ?_
    refine V_iload_n 1 dX9_plain_36 rfl ?_
    refine V_iadd dX9_plain_37 ?_
    refine V_iload_n 2 dX9_plain_38 rfl ?_
    refine V_cVi [.int (3 + x1), .int x2] mv_X9_becomes w_492 dX9_plain_39 wf_rok_m sh_a120 rfl (by decide) rfl rfl (Nat.le_of_ble_eq_true rfl) h ?_
    intro r5 mem4 h
    refine V_goto (tgt := 47) dX9_plain_42 rfl ?_
    exact V_iret dX9_plain_47 rfl h
set_option maxRecDepth 20000 in
theorem b_X9_comes_0 {d : Nat} {P : wf_Mem → Prop} (mem : wf_Mem) (x1 : Int32) (x2 : Int32) (x3 : Int32)
    (h : (∀ x4_1 : Int32, x4_1 = (48 + (5 * (mem 121 1))) → (vp_in x4_1 3088 ∧ ∀ mem2 : wf_Mem, mem2 = wf_ms mem 121 x4_1.toNatClampNeg x1 → (vp_in (x4_1 + 1) 3088 ∧ ∀ mem3 : wf_Mem, mem3 = wf_ms mem2 121 (x4_1 + 1).toNatClampNeg x2 → (vp_in (x4_1 + 2) 3088 ∧ ∀ mem4 : wf_Mem, mem4 = wf_ms mem3 121 (x4_1 + 2).toNatClampNeg x3 → (vp_in (x4_1 + 3) 3088 ∧ ∀ mem5 : wf_Mem, mem5 = wf_ms mem4 121 (x4_1 + 3).toNatClampNeg 0 → (vp_in (x4_1 + 4) 3088 ∧ ∀ mem6 : wf_Mem, mem6 = wf_ms mem5 121 (x4_1 + 4).toNatClampNeg 0 → (∀ mem7 : wf_Mem, mem7 = wf_ms mem6 121 1 ((mem6 121 1) + 1) → P mem7)))))))) :
    Vw (Nv d P) mX9_comes 0 [(0, .ref 120), (1, .int x1), (2, .int x2), (3, .int x3)] [] mem := by
  refine V_bipush (v := 48) dX9_comes_0 rfl ?_
  refine V_iconst (v := 5) dX9_comes_2 rfl ?_
  refine V_aload_n 0 dX9_comes_3 rfl ?_
  refine V_getf (v := .ref 121) gf_X9_7 dX9_comes_4 sh_a120 rfl ?_
  refine V_iconst (v := 1) dX9_comes_7 rfl ?_
  refine V_ildL (j := 1) dX9_comes_8 sh_a121 (by decide) (by decide) ?_
  refine V_imul dX9_comes_9 ?_
  refine V_iadd dX9_comes_10 ?_
  refine V_topi (fun x4_1 ex4_1 => ?_)
  have h := h x4_1 ex4_1
  refine V_istore (lv' := [(0, .ref 120), (1, .int x1), (2, .int x2), (3, .int x3), (4, .int x4_1)]) dX9_comes_11 (by decide) rfl rfl ?_
  refine V_aload_n 0 dX9_comes_13 rfl ?_
  refine V_getf (v := .ref 121) gf_X9_7 dX9_comes_14 sh_a120 rfl ?_
  refine V_iload 4 dX9_comes_17 rfl ?_
  refine V_iload_n 1 dX9_comes_19 rfl ?_
  refine V_iast dX9_comes_20 sh_a121 ⟨h.1, ?_⟩
  refine V_topm (fun mem2 emem2 => ?_)
  have h := h.2 mem2 emem2
  refine V_aload_n 0 dX9_comes_21 rfl ?_
  refine V_getf (v := .ref 121) gf_X9_7 dX9_comes_22 sh_a120 rfl ?_
  refine V_iload 4 dX9_comes_25 rfl ?_
  refine V_iconst (v := 1) dX9_comes_27 rfl ?_
  refine V_iadd dX9_comes_28 ?_
  refine V_iload_n 2 dX9_comes_29 rfl ?_
  refine V_iast dX9_comes_30 sh_a121 ⟨h.1, ?_⟩
  refine V_topm (fun mem3 emem3 => ?_)
  have h := h.2 mem3 emem3
  refine V_aload_n 0 dX9_comes_31 rfl ?_
  refine V_getf (v := .ref 121) gf_X9_7 dX9_comes_32 sh_a120 rfl ?_
  refine V_iload 4 dX9_comes_35 rfl ?_
  refine V_iconst (v := 2) dX9_comes_37 rfl ?_
  refine V_iadd dX9_comes_38 ?_
  refine V_iload_n 3 dX9_comes_39 rfl ?_
  refine V_iast dX9_comes_40 sh_a121 ⟨h.1, ?_⟩
  refine V_topm (fun mem4 emem4 => ?_)
  have h := h.2 mem4 emem4
  refine V_aload_n 0 dX9_comes_41 rfl ?_
  refine V_getf (v := .ref 121) gf_X9_7 dX9_comes_42 sh_a120 rfl ?_
  refine V_iload 4 dX9_comes_45 rfl ?_
  refine V_iconst (v := 3) dX9_comes_47 rfl ?_
  refine V_iadd dX9_comes_48 ?_
  refine V_iconst (v := 0) dX9_comes_49 rfl ?_
  refine V_iast dX9_comes_50 sh_a121 ⟨h.1, ?_⟩
  refine V_topm (fun mem5 emem5 => ?_)
  have h := h.2 mem5 emem5
  refine V_aload_n 0 dX9_comes_51 rfl ?_
  refine V_getf (v := .ref 121) gf_X9_7 dX9_comes_52 sh_a120 rfl ?_
  refine V_iload 4 dX9_comes_55 rfl ?_
  refine V_iconst (v := 4) dX9_comes_57 rfl ?_
  refine V_iadd dX9_comes_58 ?_
  refine V_iconst (v := 0) dX9_comes_59 rfl ?_
  refine V_iast dX9_comes_60 sh_a121 ⟨h.1, ?_⟩
  refine V_topm (fun mem6 emem6 => ?_)
  have h := h.2 mem6 emem6
  refine V_aload_n 0 dX9_comes_61 rfl ?_
  refine V_getf (v := .ref 121) gf_X9_7 dX9_comes_62 sh_a120 rfl ?_
  refine V_iconst (v := 1) dX9_comes_65 rfl ?_
  refine V_dup2 dX9_comes_66 rfl rfl ?_
  refine V_ildL (j := 1) dX9_comes_67 sh_a121 (by decide) (by decide) ?_
  refine V_iconst (v := 1) dX9_comes_68 rfl ?_
  refine V_iadd dX9_comes_69 ?_
  refine V_istL (j := 1) dX9_comes_70 sh_a121 (by decide) (by decide) ?_
  refine V_topm (fun mem7 emem7 => ?_)
  have h := h mem7 emem7
  exact V_vret dX9_comes_71 rfl h
set_option maxRecDepth 20000 in
theorem b_X9_watcher_0 {d : Nat} {P : Int32 → wf_Mem → Prop} (mem : wf_Mem) (x1 : Int32) (x2 : Int32) (x3 : Int32)
    (h : (Ci mX9_isIn d [.long (x1 : Int32).toInt64, .long 0, .long 5] mem (fun r2 mem1 => ((r2 = 0 → P (-1000000001) mem1) ∧ (¬ r2 = 0 → (Ci mX9_isIn d [.long (x2 : Int32).toInt64, .long 0, .long 11] mem1 (fun r5 mem4 => ((r5 = 0 → P (-1000000001) mem4) ∧ (¬ r5 = 0 → (Ci mX9_isIn d [.long (x3 : Int32).toInt64, .long 1, .long 9] mem4 (fun r8 mem7 => ((¬ r8 = 0 → ((¬ (mem7 121 1) = 8 → (Cv mX9_comes d [.ref 120, .int x1, .int x2, .int x3] mem7 (fun mem11 => P ((mem11 121 1) - 1) mem11))) ∧ ((mem7 121 1) = 8 → P (-1000000003) mem7))) ∧ (r8 = 0 → P (-1000000001) mem7))))))))))))) :
    Vw (Ni (d + 1) P) mX9_watcher 0 [(0, .ref 120), (1, .int x1), (2, .int x2), (3, .int x3)] [] mem := by
  refine V_iload_n 1 dX9_watcher_0 rfl ?_
  refine V_i2l dX9_watcher_1 ?_
  refine V_lconst (v := 0) dX9_watcher_2 rfl ?_
  refine V_ldc2 w_497 dX9_watcher_3 ?_
  refine V_cSi [.long (x1 : Int32).toInt64, .long 0, .long 5] ms_X9_isIn w_438 dX9_watcher_6 wf_rok_m rfl rfl (Nat.le_of_ble_eq_true rfl) h ?_
  intro r2 mem1 h
  refine V_if_eq (tgt := 36) dX9_watcher_9 rfl ⟨fun c3 => ?_, fun c3 => ?_⟩
  · have h := h.1 c3
    refine V_ldc w_442 dX9_watcher_36 ?_
    exact V_iret dX9_watcher_38 rfl h
  · have h := h.2 c3
    refine V_iload_n 2 dX9_watcher_12 rfl ?_
    refine V_i2l dX9_watcher_13 ?_
    refine V_lconst (v := 0) dX9_watcher_14 rfl ?_
    refine V_ldc2 w_498 dX9_watcher_15 ?_
    refine V_cSi [.long (x2 : Int32).toInt64, .long 0, .long 11] ms_X9_isIn w_438 dX9_watcher_18 wf_rok_m rfl rfl (Nat.le_of_ble_eq_true rfl) h ?_
    intro r5 mem4 h
    refine V_if_eq (tgt := 36) dX9_watcher_21 rfl ⟨fun c6 => ?_, fun c6 => ?_⟩
    · have h := h.1 c6
      refine V_ldc w_442 dX9_watcher_36 ?_
      exact V_iret dX9_watcher_38 rfl h
    · have h := h.2 c6
      refine V_iload_n 3 dX9_watcher_24 rfl ?_
      refine V_i2l dX9_watcher_25 ?_
      refine V_lconst (v := 1) dX9_watcher_26 rfl ?_
      refine V_ldc2 w_488 dX9_watcher_27 ?_
      refine V_cSi [.long (x3 : Int32).toInt64, .long 1, .long 9] ms_X9_isIn w_438 dX9_watcher_30 wf_rok_m rfl rfl (Nat.le_of_ble_eq_true rfl) h ?_
      intro r8 mem7 h
      refine V_if_ne (tgt := 39) dX9_watcher_33 rfl ⟨fun c9 => ?_, fun c9 => ?_⟩
      · have h := h.1 c9
        refine V_aload_n 0 dX9_watcher_39 rfl ?_
        refine V_getf (v := .ref 121) gf_X9_7 dX9_watcher_40 sh_a120 rfl ?_
        refine V_iconst (v := 1) dX9_watcher_43 rfl ?_
        refine V_ildL (j := 1) dX9_watcher_44 sh_a121 (by decide) (by decide) ?_
        refine V_bipush (v := 8) dX9_watcher_45 rfl ?_
        refine V_icmp_ne (tgt := 53) dX9_watcher_47 rfl ⟨fun c10 => ?_, fun c10 => ?_⟩
        · have h := h.1 c10
          refine V_aload_n 0 dX9_watcher_53 rfl ?_
          refine V_iload_n 1 dX9_watcher_54 rfl ?_
          refine V_iload_n 2 dX9_watcher_55 rfl ?_
          refine V_iload_n 3 dX9_watcher_56 rfl ?_
          refine V_cVv [.int x1, .int x2, .int x3] mv_X9_comes w_502 dX9_watcher_57 wf_rok_m sh_a120 rfl (by decide) rfl rfl (Nat.le_of_ble_eq_true rfl) h ?_
          intro mem11 h
          refine V_aload_n 0 dX9_watcher_60 rfl ?_
          refine V_getf (v := .ref 121) gf_X9_7 dX9_watcher_61 sh_a120 rfl ?_
          refine V_iconst (v := 1) dX9_watcher_64 rfl ?_
          refine V_ildL (j := 1) dX9_watcher_65 sh_a121 (by decide) (by decide) ?_
          refine V_iconst (v := 1) dX9_watcher_66 rfl ?_
          refine V_isub dX9_watcher_67 ?_
          exact V_iret dX9_watcher_68 rfl h
        · have h := h.2 c10
          refine V_ldc w_441 dX9_watcher_50 ?_
          exact V_iret dX9_watcher_52 rfl h
      · have h := h.2 c9
        refine V_ldc w_442 dX9_watcher_36 ?_
        exact V_iret dX9_watcher_38 rfl h
set_option maxRecDepth 20000 in
theorem b_X9_told_0 {d : Nat} {P : Int32 → wf_Mem → Prop} (mem : wf_Mem) (x1 : Int32) (x2 : Int32)
    (h : (Ci mX9_isWatcher d [.ref 120, .int x1] mem (fun r2 mem1 => ((r2 = 0 → P (-1000000001) mem1) ∧ (¬ r2 = 0 → (Ci mX9_isIn d [.long (x2 : Int32).toInt64, .long 0, .long 6] mem1 (fun r5 mem4 => ((¬ r5 = 0 → ((5 ≤ x2 → ((¬ x2 = 5 → (Ci mX9_worth d [.ref 120, .int x1] mem4 (fun r10 mem9 => P r10 mem9))) ∧ (x2 = 5 → (Ci mX9_sees d [.ref 120, .int x1] mem4 (fun r12 mem11 => P r12 mem11))))) ∧ (¬ 5 ≤ x2 → (Ci mX9_of d [.ref 120, .int x1, .int x2] mem4 (fun r14 mem13 => P r14 mem13))))) ∧ (r5 = 0 → P (-1000000001) mem4))))))))) :
    Vw (Ni (d + 1) P) mX9_told 0 [(0, .ref 120), (1, .int x1), (2, .int x2)] [] mem := by
  refine V_aload_n 0 dX9_told_0 rfl ?_
  refine V_iload_n 1 dX9_told_1 rfl ?_
  refine V_cVi [.int x1] mv_X9_isWatcher w_506 dX9_told_2 wf_rok_m sh_a120 rfl (by decide) rfl rfl (Nat.le_of_ble_eq_true rfl) h ?_
  intro r2 mem1 h
  refine V_if_eq (tgt := 20) dX9_told_5 rfl ⟨fun c3 => ?_, fun c3 => ?_⟩
  · have h := h.1 c3
    refine V_ldc w_442 dX9_told_20 ?_
    exact V_iret dX9_told_22 rfl h
  · have h := h.2 c3
    refine V_iload_n 2 dX9_told_8 rfl ?_
    refine V_i2l dX9_told_9 ?_
    refine V_lconst (v := 0) dX9_told_10 rfl ?_
    refine V_ldc2 w_507 dX9_told_11 ?_
    refine V_cSi [.long (x2 : Int32).toInt64, .long 0, .long 6] ms_X9_isIn w_438 dX9_told_14 wf_rok_m rfl rfl (Nat.le_of_ble_eq_true rfl) h ?_
    intro r5 mem4 h
    refine V_if_ne (tgt := 23) dX9_told_17 rfl ⟨fun c6 => ?_, fun c6 => ?_⟩
    · have h := h.1 c6
      refine V_iload_n 2 dX9_told_23 rfl ?_
      refine V_iconst (v := 5) dX9_told_24 rfl ?_
      refine V_icmp_ge (tgt := 37) dX9_told_25 rfl ⟨fun c7 => ?_, fun c7 => ?_⟩
      · have h := h.1 c7
        refine V_iload_n 2 dX9_told_37 rfl ?_
        refine V_iconst (v := 5) dX9_told_38 rfl ?_
        refine V_icmp_ne (tgt := 50) dX9_told_39 rfl ⟨fun c8 => ?_, fun c8 => ?_⟩
        · have h := h.1 c8
          refine V_aload_n 0 dX9_told_50 rfl ?_
          refine V_iload_n 1 dX9_told_51 rfl ?_
          refine V_cVi [.int x1] mv_X9_worth w_511 dX9_told_52 wf_rok_m sh_a120 rfl (by decide) rfl rfl (Nat.le_of_ble_eq_true rfl) h ?_
          intro r10 mem9 h
          exact V_iret dX9_told_55 rfl h
        · have h := h.2 c8
          refine V_aload_n 0 dX9_told_42 rfl ?_
          refine V_iload_n 1 dX9_told_43 rfl ?_
          refine V_cVi [.int x1] mv_X9_sees w_478 dX9_told_44 wf_rok_m sh_a120 rfl (by decide) rfl rfl (Nat.le_of_ble_eq_true rfl) h ?_
          intro r12 mem11 h
          refine V_goto (tgt := 55) dX9_told_47 rfl ?_
          exact V_iret dX9_told_55 rfl h
      · have h := h.2 c7
        refine V_aload_n 0 dX9_told_28 rfl ?_
        refine V_iload_n 1 dX9_told_29 rfl ?_
        refine V_iload_n 2 dX9_told_30 rfl ?_
        refine V_cVi [.int x1, .int x2] mv_X9_of w_466 dX9_told_31 wf_rok_m sh_a120 rfl (by decide) rfl rfl (Nat.le_of_ble_eq_true rfl) h ?_
        intro r14 mem13 h
        refine V_goto (tgt := 55) dX9_told_34 rfl ?_
        exact V_iret dX9_told_55 rfl h
    · have h := h.2 c6
      refine V_ldc w_442 dX9_told_20 ?_
      exact V_iret dX9_told_22 rfl h
set_option maxRecDepth 20000 in
theorem b_X9_isOf_0 {d : Nat} {P : Int32 → wf_Mem → Prop} (mem : wf_Mem) (x0 : Int32) (x1 : Int32)
    (h : ((x0 = x1 → P 1 mem) ∧ (¬ x0 = x1 → ((x1 = 0 → P 1 mem) ∧ (¬ x1 = 0 → ((¬ x1 = 1 → ((¬ x1 = 2 → P 0 mem) ∧ (x1 = 2 → ((¬ x0 = 4 → P 0 mem) ∧ (x0 = 4 → P 1 mem))))) ∧ (x1 = 1 → ((x0 = 3 → P 1 mem) ∧ (¬ x0 = 3 → ((¬ x1 = 2 → P 0 mem) ∧ (x1 = 2 → ((¬ x0 = 4 → P 0 mem) ∧ (x0 = 4 → P 1 mem))))))))))))) :
    Vw (Ni d P) mX9_isOf 0 [(0, .int x0), (1, .int x1)] [] mem := by
  refine V_iload_n 0 dX9_isOf_0 rfl ?_
  refine V_iload_n 1 dX9_isOf_1 rfl ?_
  refine V_icmp_eq (tgt := 29) dX9_isOf_2 rfl ⟨fun c1 => ?_, fun c1 => ?_⟩
  · have h := h.1 c1
    refine V_iconst (v := 1) dX9_isOf_29 rfl ?_
    refine V_goto (tgt := 34) dX9_isOf_30 rfl ?_
    exact V_zret dX9_isOf_34 rfl rfl h
  · have h := h.2 c1
    refine V_iload_n 1 dX9_isOf_5 rfl ?_
    refine V_if_eq (tgt := 29) dX9_isOf_6 rfl ⟨fun c2 => ?_, fun c2 => ?_⟩
    · have h := h.1 c2
      refine V_iconst (v := 1) dX9_isOf_29 rfl ?_
      refine V_goto (tgt := 34) dX9_isOf_30 rfl ?_
      exact V_zret dX9_isOf_34 rfl rfl h
    · have h := h.2 c2
      refine V_iload_n 1 dX9_isOf_9 rfl ?_
      refine V_iconst (v := 1) dX9_isOf_10 rfl ?_
      refine V_icmp_ne (tgt := 19) dX9_isOf_11 rfl ⟨fun c3 => ?_, fun c3 => ?_⟩
      · have h := h.1 c3
        refine V_iload_n 1 dX9_isOf_19 rfl ?_
        refine V_iconst (v := 2) dX9_isOf_20 rfl ?_
        refine V_icmp_ne (tgt := 33) dX9_isOf_21 rfl ⟨fun c4 => ?_, fun c4 => ?_⟩
        · have h := h.1 c4
          refine V_iconst (v := 0) dX9_isOf_33 rfl ?_
          exact V_zret dX9_isOf_34 rfl rfl h
        · have h := h.2 c4
          refine V_iload_n 0 dX9_isOf_24 rfl ?_
          refine V_iconst (v := 4) dX9_isOf_25 rfl ?_
          refine V_icmp_ne (tgt := 33) dX9_isOf_26 rfl ⟨fun c5 => ?_, fun c5 => ?_⟩
          · have h := h.1 c5
            refine V_iconst (v := 0) dX9_isOf_33 rfl ?_
            exact V_zret dX9_isOf_34 rfl rfl h
          · have h := h.2 c5
            refine V_iconst (v := 1) dX9_isOf_29 rfl ?_
            refine V_goto (tgt := 34) dX9_isOf_30 rfl ?_
            exact V_zret dX9_isOf_34 rfl rfl h
      · have h := h.2 c3
        refine V_iload_n 0 dX9_isOf_14 rfl ?_
        refine V_iconst (v := 3) dX9_isOf_15 rfl ?_
        refine V_icmp_eq (tgt := 29) dX9_isOf_16 rfl ⟨fun c6 => ?_, fun c6 => ?_⟩
        · have h := h.1 c6
          refine V_iconst (v := 1) dX9_isOf_29 rfl ?_
          refine V_goto (tgt := 34) dX9_isOf_30 rfl ?_
          exact V_zret dX9_isOf_34 rfl rfl h
        · have h := h.2 c6
          refine V_iload_n 1 dX9_isOf_19 rfl ?_
          refine V_iconst (v := 2) dX9_isOf_20 rfl ?_
          refine V_icmp_ne (tgt := 33) dX9_isOf_21 rfl ⟨fun c7 => ?_, fun c7 => ?_⟩
          · have h := h.1 c7
            refine V_iconst (v := 0) dX9_isOf_33 rfl ?_
            exact V_zret dX9_isOf_34 rfl rfl h
          · have h := h.2 c7
            refine V_iload_n 0 dX9_isOf_24 rfl ?_
            refine V_iconst (v := 4) dX9_isOf_25 rfl ?_
            refine V_icmp_ne (tgt := 33) dX9_isOf_26 rfl ⟨fun c8 => ?_, fun c8 => ?_⟩
            · have h := h.1 c8
              refine V_iconst (v := 0) dX9_isOf_33 rfl ?_
              exact V_zret dX9_isOf_34 rfl rfl h
            · have h := h.2 c8
              refine V_iconst (v := 1) dX9_isOf_29 rfl ?_
              refine V_goto (tgt := 34) dX9_isOf_30 rfl ?_
              exact V_zret dX9_isOf_34 rfl rfl h
set_option maxRecDepth 20000 in
theorem b_X9_as_0 {d : Nat} {P : Int32 → wf_Mem → Prop} (mem : wf_Mem) (x1 : Int32) (x2 : Int32)
    (h : (Ci mX9_isWatcher d [.ref 120, .int x1] mem (fun r2 mem1 => ((r2 = 0 → P (-1000000001) mem1) ∧ (¬ r2 = 0 → (Ci mX9_isIn d [.long (x2 : Int32).toInt64, .long 0, .long 5] mem1 (fun r5 mem4 => ((¬ r5 = 0 → (Ci mX9_of d [.ref 120, .int x1, .int 0] mem4 (fun r8 mem7 => (Ci mX9_isOf d [.int r8, .int x2] mem7 (fun r10 mem9 => ((r10 = 0 → P (-1000000012) mem9) ∧ (¬ r10 = 0 → (Ci mX9_of d [.ref 120, .int x1, .int 2] mem9 (fun r13 mem12 => P r13 mem12))))))))) ∧ (r5 = 0 → P (-1000000001) mem4))))))))) :
    Vw (Ni (d + 1) P) mX9_as 0 [(0, .ref 120), (1, .int x1), (2, .int x2)] [] mem := by
  refine V_aload_n 0 dX9_as_0 rfl ?_
  refine V_iload_n 1 dX9_as_1 rfl ?_
  refine V_cVi [.int x1] mv_X9_isWatcher w_506 dX9_as_2 wf_rok_m sh_a120 rfl (by decide) rfl rfl (Nat.le_of_ble_eq_true rfl) h ?_
  intro r2 mem1 h
  refine V_if_eq (tgt := 20) dX9_as_5 rfl ⟨fun c3 => ?_, fun c3 => ?_⟩
  · have h := h.1 c3
    refine V_ldc w_442 dX9_as_20 ?_
    exact V_iret dX9_as_22 rfl h
  · have h := h.2 c3
    refine V_iload_n 2 dX9_as_8 rfl ?_
    refine V_i2l dX9_as_9 ?_
    refine V_lconst (v := 0) dX9_as_10 rfl ?_
    refine V_ldc2 w_497 dX9_as_11 ?_
    refine V_cSi [.long (x2 : Int32).toInt64, .long 0, .long 5] ms_X9_isIn w_438 dX9_as_14 wf_rok_m rfl rfl (Nat.le_of_ble_eq_true rfl) h ?_
    intro r5 mem4 h
    refine V_if_ne (tgt := 23) dX9_as_17 rfl ⟨fun c6 => ?_, fun c6 => ?_⟩
    · have h := h.1 c6
      refine V_aload_n 0 dX9_as_23 rfl ?_
      refine V_iload_n 1 dX9_as_24 rfl ?_
      refine V_iconst (v := 0) dX9_as_25 rfl ?_
      refine V_cVi [.int x1, .int 0] mv_X9_of w_466 dX9_as_26 wf_rok_m sh_a120 rfl (by decide) rfl rfl (Nat.le_of_ble_eq_true rfl) h ?_
      intro r8 mem7 h
      refine V_iload_n 2 dX9_as_29 rfl ?_
      refine V_cSi [.int r8, .int x2] ms_X9_isOf w_514 dX9_as_30 wf_rok_m rfl rfl (Nat.le_of_ble_eq_true rfl) h ?_
      intro r10 mem9 h
      refine V_if_eq (tgt := 45) dX9_as_33 rfl ⟨fun c11 => ?_, fun c11 => ?_⟩
      · have h := h.1 c11
        refine V_ldc w_515 dX9_as_45 ?_
        exact V_iret dX9_as_47 rfl h
      · have h := h.2 c11
        refine V_aload_n 0 dX9_as_36 rfl ?_
        refine V_iload_n 1 dX9_as_37 rfl ?_
        refine V_iconst (v := 2) dX9_as_38 rfl ?_
        refine V_cVi [.int x1, .int 2] mv_X9_of w_466 dX9_as_39 wf_rok_m sh_a120 rfl (by decide) rfl rfl (Nat.le_of_ble_eq_true rfl) h ?_
        intro r13 mem12 h
        refine V_goto (tgt := 47) dX9_as_42 rfl ?_
        exact V_iret dX9_as_47 rfl h
    · have h := h.2 c6
      refine V_ldc w_442 dX9_as_20 ?_
      exact V_iret dX9_as_22 rfl h
set_option maxRecDepth 20000 in
theorem b_X9_turns_0 {d : Nat} {P : Int32 → wf_Mem → Prop} (mem : wf_Mem) (x1 : Int32) (x2 : Int32)
    (h : (Ci mX9_isWatcher d [.ref 120, .int x1] mem (fun r2 mem1 => ((r2 = 0 → P (-1000000001) mem1) ∧ (¬ r2 = 0 → (Ci mX9_isIn d [.long (x2 : Int32).toInt64, .long 0, .long 5] mem1 (fun r5 mem4 => ((r5 = 0 → P (-1000000001) mem4) ∧ (¬ r5 = 0 → (Ci mX9_becomes d [.ref 120, .int (48 + (5 * x1)), .int x2] mem4 (fun r8 mem7 => P r8 mem7))))))))))) :
    Vw (Ni (d + 1) P) mX9_turns 0 [(0, .ref 120), (1, .int x1), (2, .int x2)] [] mem := by
  refine V_aload_n 0 dX9_turns_0 rfl ?_
  refine V_iload_n 1 dX9_turns_1 rfl ?_
  refine V_cVi [.int x1] mv_X9_isWatcher w_506 dX9_turns_2 wf_rok_m sh_a120 rfl (by decide) rfl rfl (Nat.le_of_ble_eq_true rfl) h ?_
  intro r2 mem1 h
  refine V_if_eq (tgt := 34) dX9_turns_5 rfl ⟨fun c3 => ?_, fun c3 => ?_⟩
  · have h := h.1 c3
    refine V_ldc w_442 dX9_turns_34 ?_
    exact V_iret dX9_turns_36 rfl h
  · have h := h.2 c3
    refine V_iload_n 2 dX9_turns_8 rfl ?_
    refine V_i2l dX9_turns_9 ?_
    refine V_lconst (v := 0) dX9_turns_10 rfl ?_
    refine V_ldc2 w_497 dX9_turns_11 ?_
    refine V_cSi [.long (x2 : Int32).toInt64, .long 0, .long 5] ms_X9_isIn w_438 dX9_turns_14 wf_rok_m rfl rfl (Nat.le_of_ble_eq_true rfl) h ?_
    intro r5 mem4 h
    refine V_if_eq (tgt := 34) dX9_turns_17 rfl ⟨fun c6 => ?_, fun c6 => ?_⟩
    · have h := h.1 c6
      refine V_ldc w_442 dX9_turns_34 ?_
      exact V_iret dX9_turns_36 rfl h
    · have h := h.2 c6
      refine V_aload_n 0 dX9_turns_20 rfl ?_
      refine V_bipush (v := 48) dX9_turns_21 rfl ?_
      refine V_iconst (v := 5) dX9_turns_23 rfl ?_
      refine V_iload_n 1 dX9_turns_24 rfl ?_
      refine V_imul dX9_turns_25 ?_
      refine V_iadd dX9_turns_26 ?_
      refine V_iload_n 2 dX9_turns_27 rfl ?_
      refine V_cVi [.int (48 + (5 * x1)), .int x2] mv_X9_becomes w_492 dX9_turns_28 wf_rok_m sh_a120 rfl (by decide) rfl rfl (Nat.le_of_ble_eq_true rfl) h ?_
      intro r8 mem7 h
      refine V_goto (tgt := 36) dX9_turns_31 rfl ?_
      exact V_iret dX9_turns_36 rfl h
set_option maxRecDepth 20000 in
theorem b_X9_mayBe_0 {d : Nat} {P : Int32 → wf_Mem → Prop} (mem : wf_Mem) (x0 : Int32) (x1 : Int32)
    (h : ((x0 = 1 → (Ci mX9_isIn d [.long (x1 : Int32).toInt64, .long 0, .long 11] mem (fun r3 mem2 => ((r3 = 0 ∨ r3 = 1) ∧ P r3 mem2)))) ∧ (¬ x0 = 1 → ((x0 = 2 → (Ci mX9_isIn d [.long (x1 : Int32).toInt64, .long 1, .long 9] mem (fun r6 mem5 => ((r6 = 0 ∨ r6 = 1) ∧ P r6 mem5)))) ∧ (¬ x0 = 2 → ((x0 = 3 → (Ci mX9_isIn d [.long (x1 : Int32).toInt64, .long 0, .long 999] mem (fun r9 mem8 => ((r9 = 0 ∨ r9 = 1) ∧ P r9 mem8)))) ∧ (¬ x0 = 3 → ((x0 = 4 → (Ci mX9_isIn d [.long (x1 : Int32).toInt64, .long 0, .long 1] mem (fun r12 mem11 => ((r12 = 0 ∨ r12 = 1) ∧ P r12 mem11)))) ∧ (¬ x0 = 4 → P 0 mem))))))))) :
    Vw (Ni (d + 1) P) mX9_mayBe 0 [(0, .int x0), (1, .int x1)] [] mem := by
  refine V_iload_n 0 dX9_mayBe_0 rfl ?_
  refine V_tswc [(1, 32), (2, 42), (3, 52), (4, 62)] 70 dX9_mayBe_1 (by decide +kernel) ?_
  refine And.intro (fun c1 => ?_) (fun c1 => ?_)
  · have h := h.1 c1
    show Vw _ _ 32 _ _ _
    refine V_iload_n 1 dX9_mayBe_32 rfl ?_
    refine V_i2l dX9_mayBe_33 ?_
    refine V_lconst (v := 0) dX9_mayBe_34 rfl ?_
    refine V_ldc2 w_498 dX9_mayBe_35 ?_
    refine V_cSi [.long (x1 : Int32).toInt64, .long 0, .long 11] ms_X9_isIn w_438 dX9_mayBe_38 wf_rok_m rfl rfl (Nat.le_of_ble_eq_true rfl) h ?_
    intro r3 mem2 h
    exact V_zret dX9_mayBe_41 rfl (wf_nb h.1) h.2
  · have h := h.2 c1
    refine And.intro (fun c4 => ?_) (fun c4 => ?_)
    · have h := h.1 c4
      show Vw _ _ 42 _ _ _
      refine V_iload_n 1 dX9_mayBe_42 rfl ?_
      refine V_i2l dX9_mayBe_43 ?_
      refine V_lconst (v := 1) dX9_mayBe_44 rfl ?_
      refine V_ldc2 w_488 dX9_mayBe_45 ?_
      refine V_cSi [.long (x1 : Int32).toInt64, .long 1, .long 9] ms_X9_isIn w_438 dX9_mayBe_48 wf_rok_m rfl rfl (Nat.le_of_ble_eq_true rfl) h ?_
      intro r6 mem5 h
      exact V_zret dX9_mayBe_51 rfl (wf_nb h.1) h.2
    · have h := h.2 c4
      refine And.intro (fun c7 => ?_) (fun c7 => ?_)
      · have h := h.1 c7
        show Vw _ _ 52 _ _ _
        refine V_iload_n 1 dX9_mayBe_52 rfl ?_
        refine V_i2l dX9_mayBe_53 ?_
        refine V_lconst (v := 0) dX9_mayBe_54 rfl ?_
        refine V_ldc2 w_516 dX9_mayBe_55 ?_
        refine V_cSi [.long (x1 : Int32).toInt64, .long 0, .long 999] ms_X9_isIn w_438 dX9_mayBe_58 wf_rok_m rfl rfl (Nat.le_of_ble_eq_true rfl) h ?_
        intro r9 mem8 h
        exact V_zret dX9_mayBe_61 rfl (wf_nb h.1) h.2
      · have h := h.2 c7
        refine And.intro (fun c10 => ?_) (fun c10 => ?_)
        · have h := h.1 c10
          show Vw _ _ 62 _ _ _
          refine V_iload_n 1 dX9_mayBe_62 rfl ?_
          refine V_i2l dX9_mayBe_63 ?_
          refine V_lconst (v := 0) dX9_mayBe_64 rfl ?_
          refine V_lconst (v := 1) dX9_mayBe_65 rfl ?_
          refine V_cSi [.long (x1 : Int32).toInt64, .long 0, .long 1] ms_X9_isIn w_438 dX9_mayBe_66 wf_rok_m rfl rfl (Nat.le_of_ble_eq_true rfl) h ?_
          intro r12 mem11 h
          exact V_zret dX9_mayBe_69 rfl (wf_nb h.1) h.2
        · have h := h.2 c10
          show Vw _ _ 70 _ _ _
          refine V_iconst (v := 0) dX9_mayBe_70 rfl ?_
          exact V_zret dX9_mayBe_71 rfl rfl h
set_option maxRecDepth 20000 in
theorem b_X9_set_0 {d : Nat} {P : Int32 → wf_Mem → Prop} (mem : wf_Mem) (x1 : Int32) (x2 : Int32) (x3 : Int32)
    (h : (Ci mX9_isWatcher d [.ref 120, .int x1] mem (fun r2 mem1 => ((r2 = 0 → P (-1000000001) mem1) ∧ (¬ r2 = 0 → (Ci mX9_mayBe d [.int x2, .int x3] mem1 (fun r5 mem4 => ((r5 = 0 → P (-1000000001) mem4) ∧ (¬ r5 = 0 → (Ci mX9_becomes d [.ref 120, .int ((48 + (5 * x1)) + x2), .int x3] mem4 (fun r8 mem7 => P r8 mem7))))))))))) :
    Vw (Ni (d + 1) P) mX9_set 0 [(0, .ref 120), (1, .int x1), (2, .int x2), (3, .int x3)] [] mem := by
  refine V_aload_n 0 dX9_set_0 rfl ?_
  refine V_iload_n 1 dX9_set_1 rfl ?_
  refine V_cVi [.int x1] mv_X9_isWatcher w_506 dX9_set_2 wf_rok_m sh_a120 rfl (by decide) rfl rfl (Nat.le_of_ble_eq_true rfl) h ?_
  intro r2 mem1 h
  refine V_if_eq (tgt := 32) dX9_set_5 rfl ⟨fun c3 => ?_, fun c3 => ?_⟩
  · have h := h.1 c3
    refine V_ldc w_442 dX9_set_32 ?_
    exact V_iret dX9_set_34 rfl h
  · have h := h.2 c3
    refine V_iload_n 2 dX9_set_8 rfl ?_
    refine V_iload_n 3 dX9_set_9 rfl ?_
    refine V_cSi [.int x2, .int x3] ms_X9_mayBe w_519 dX9_set_10 wf_rok_m rfl rfl (Nat.le_of_ble_eq_true rfl) h ?_
    intro r5 mem4 h
    refine V_if_eq (tgt := 32) dX9_set_13 rfl ⟨fun c6 => ?_, fun c6 => ?_⟩
    · have h := h.1 c6
      refine V_ldc w_442 dX9_set_32 ?_
      exact V_iret dX9_set_34 rfl h
    · have h := h.2 c6
      refine V_aload_n 0 dX9_set_16 rfl ?_
      refine V_bipush (v := 48) dX9_set_17 rfl ?_
      refine V_iconst (v := 5) dX9_set_19 rfl ?_
      refine V_iload_n 1 dX9_set_20 rfl ?_
      refine V_imul dX9_set_21 ?_
      refine V_iadd dX9_set_22 ?_
      refine V_iload_n 2 dX9_set_23 rfl ?_
      refine V_iadd dX9_set_24 ?_
      refine V_iload_n 3 dX9_set_25 rfl ?_
      refine V_cVi [.int ((48 + (5 * x1)) + x2), .int x3] mv_X9_becomes w_492 dX9_set_26 wf_rok_m sh_a120 rfl (by decide) rfl rfl (Nat.le_of_ble_eq_true rfl) h ?_
      intro r8 mem7 h
      refine V_goto (tgt := 34) dX9_set_29 rfl ?_
      exact V_iret dX9_set_34 rfl h
set_option maxRecDepth 20000 in
theorem b_X9_deal_0 {d : Nat} {P : Int32 → wf_Mem → Prop} (mem : wf_Mem) (x1 : Int32)
    (h : (Ci mX9_isIn d [.long (x1 : Int32).toInt64, .long 1, .long 8] mem (fun r2 mem1 => ((¬ r2 = 0 → Vw (Ni (d + 1) P) mX9_deal 17 [(0, .ref 120), (1, .int x1), (2, .int 0)] [] mem1) ∧ (r2 = 0 → P (-1000000001) mem1))))) :
    Vw (Ni (d + 1) P) mX9_deal 0 [(0, .ref 120), (1, .int x1)] [] mem := by
  refine V_iload_n 1 dX9_deal_0 rfl ?_
  refine V_i2l dX9_deal_1 ?_
  refine V_lconst (v := 1) dX9_deal_2 rfl ?_
  refine V_ldc2 w_520 dX9_deal_3 ?_
  refine V_cSi [.long (x1 : Int32).toInt64, .long 1, .long 8] ms_X9_isIn w_438 dX9_deal_6 wf_rok_m rfl rfl (Nat.le_of_ble_eq_true rfl) h ?_
  intro r2 mem1 h
  refine V_if_ne (tgt := 15) dX9_deal_9 rfl ⟨fun c3 => ?_, fun c3 => ?_⟩
  · have h := h.1 c3
    refine V_iconst (v := 0) dX9_deal_15 rfl ?_
    refine V_istore_n (lv' := [(0, .ref 120), (1, .int x1), (2, .int 0)]) dX9_deal_16 (by decide) rfl rfl ?_
    exact h
  · have h := h.2 c3
    refine V_ldc w_442 dX9_deal_12 ?_
    exact V_iret dX9_deal_14 rfl h
set_option maxRecDepth 20000 in
theorem b_X9_deal_17 {d : Nat} {P : Int32 → wf_Mem → Prop} (mem : wf_Mem) (x1 : Int32) (x2 : Int32)
    (h : ((x1 ≤ x2 → P x2 mem) ∧ (¬ x1 ≤ x2 → ((8 ≤ (mem 121 1) → P x2 mem) ∧ (¬ 8 ≤ (mem 121 1) → (Ci mX9_drawn d [.ref 120] mem (fun r4 mem3 => (∀ x3_5 : Int32, x3_5 = (r4 - r4 / 6 * 6) → (Ci mX9_drawn d [.ref 120] mem3 (fun r7 mem6 => (∀ x4_8 : Int32, x4_8 = (r7 - r7 / 12 * 12) → (Ci mX9_drawn d [.ref 120] mem6 (fun r10 mem9 => (Cv mX9_comes d [.ref 120, .int x3_5, .int x4_8, .int (1 + (r10 - r10 / 9 * 9))] mem9 (fun mem11 => Vw (Ni (d + 1) P) mX9_deal 17 [(0, .ref 120), (1, .int x1), (2, .int (x2 + 1))] [] mem11))))))))))))))) :
    Vw (Ni (d + 1) P) mX9_deal 17 [(0, .ref 120), (1, .int x1), (2, .int x2)] [] mem := by
  refine V_iload_n 2 dX9_deal_17 rfl ?_
  refine V_iload_n 1 dX9_deal_18 rfl ?_
  refine V_icmp_ge (tgt := 72) dX9_deal_19 rfl ⟨fun c1 => ?_, fun c1 => ?_⟩
  · have h := h.1 c1
    refine V_iload_n 2 dX9_deal_72 rfl ?_
    exact V_iret dX9_deal_73 rfl h
  · have h := h.2 c1
    refine V_aload_n 0 dX9_deal_22 rfl ?_
    refine V_getf (v := .ref 121) gf_X9_7 dX9_deal_23 sh_a120 rfl ?_
    refine V_iconst (v := 1) dX9_deal_26 rfl ?_
    refine V_ildL (j := 1) dX9_deal_27 sh_a121 (by decide) (by decide) ?_
    refine V_bipush (v := 8) dX9_deal_28 rfl ?_
    refine V_icmp_ge (tgt := 72) dX9_deal_30 rfl ⟨fun c2 => ?_, fun c2 => ?_⟩
    · have h := h.1 c2
      refine V_iload_n 2 dX9_deal_72 rfl ?_
      exact V_iret dX9_deal_73 rfl h
    · have h := h.2 c2
      refine V_aload_n 0 dX9_deal_33 rfl ?_
      refine V_cVi [] mv_X9_drawn w_524 dX9_deal_34 wf_rok_m sh_a120 rfl (by decide) rfl rfl (Nat.le_of_ble_eq_true rfl) h ?_
      intro r4 mem3 h
      refine V_bipush (v := 6) dX9_deal_37 rfl ?_
      refine V_irem dX9_deal_39 ⟨by decide, ?_⟩
      refine V_topi (fun x3_5 ex3_5 => ?_)
      have h := h x3_5 ex3_5
      refine V_istore_n (lv' := [(0, .ref 120), (1, .int x1), (2, .int x2), (3, .int x3_5)]) dX9_deal_40 (by decide) rfl rfl ?_
      refine V_aload_n 0 dX9_deal_41 rfl ?_
      refine V_cVi [] mv_X9_drawn w_524 dX9_deal_42 wf_rok_m sh_a120 rfl (by decide) rfl rfl (Nat.le_of_ble_eq_true rfl) h ?_
      intro r7 mem6 h
      refine V_bipush (v := 12) dX9_deal_45 rfl ?_
      refine V_irem dX9_deal_47 ⟨by decide, ?_⟩
      refine V_topi (fun x4_8 ex4_8 => ?_)
      have h := h x4_8 ex4_8
      refine V_istore (lv' := [(0, .ref 120), (1, .int x1), (2, .int x2), (3, .int x3_5), (4, .int x4_8)]) dX9_deal_48 (by decide) rfl rfl ?_
      refine V_aload_n 0 dX9_deal_50 rfl ?_
      refine V_iload_n 3 dX9_deal_51 rfl ?_
      refine V_iload 4 dX9_deal_52 rfl ?_
      refine V_iconst (v := 1) dX9_deal_54 rfl ?_
      refine V_aload_n 0 dX9_deal_55 rfl ?_
      refine V_cVi [] mv_X9_drawn w_524 dX9_deal_56 wf_rok_m sh_a120 rfl (by decide) rfl rfl (Nat.le_of_ble_eq_true rfl) h ?_
      intro r10 mem9 h
      refine V_bipush (v := 9) dX9_deal_59 rfl ?_
      refine V_irem dX9_deal_61 ⟨by decide, ?_⟩
      refine V_iadd dX9_deal_62 ?_
      refine V_cVv [.int x3_5, .int x4_8, .int (1 + (r10 - r10 / 9 * 9))] mv_X9_comes w_502 dX9_deal_63 wf_rok_m sh_a120 rfl (by decide) rfl rfl (Nat.le_of_ble_eq_true rfl) h ?_
      intro mem11 h
      refine V_iinc (v := (x2 + 1)) (lv' := [(0, .ref 120), (1, .int x1), (2, .int (x2 + 1)), (3, .int x3_5), (4, .int x4_8)]) 2 dX9_deal_66 rfl rfl (by decide) rfl rfl ?_
      refine V_goto (tgt := 17) dX9_deal_69 rfl ?_
      exact V_sub [0, 1, 2] rfl h
set_option maxRecDepth 20000 in
theorem b_X9_seed_0 {d : Nat} {P : Int32 → wf_Mem → Prop} (mem : wf_Mem) (x1 : Int32)
    (h : (Ci mX9_becomes d [.ref 120, .int 10, .int x1] mem (fun r2 mem1 => P r2 mem1))) :
    Vw (Ni (d + 1) P) mX9_seed 0 [(0, .ref 120), (1, .int x1)] [] mem := by
  refine V_aload_n 0 dX9_seed_0 rfl ?_
  refine V_bipush (v := 10) dX9_seed_1 rfl ?_
  refine V_iload_n 1 dX9_seed_3 rfl ?_
  refine V_cVi [.int 10, .int x1] mv_X9_becomes w_492 dX9_seed_4 wf_rok_m sh_a120 rfl (by decide) rfl rfl (Nat.le_of_ble_eq_true rfl) h ?_
  intro r2 mem1 h
  exact V_iret dX9_seed_7 rfl h
set_option maxRecDepth 20000 in
theorem b_X9_comeTo_0 {d : Nat} {P : Int32 → wf_Mem → Prop} (mem : wf_Mem) 
    (h : Vw (Ni (d + 1) P) mX9_comeTo 6 [(0, .ref 120), (1, .int (-1)), (2, .int 0), (3, .int 0)] [] mem) :
    Vw (Ni (d + 1) P) mX9_comeTo 0 [(0, .ref 120)] [] mem := by
  refine V_iconst (v := (-1)) dX9_comeTo_0 rfl ?_
  refine V_istore_n (lv' := [(0, .ref 120), (1, .int (-1))]) dX9_comeTo_1 (by decide) rfl rfl ?_
  refine V_iconst (v := 0) dX9_comeTo_2 rfl ?_
  refine V_istore_n (lv' := [(0, .ref 120), (1, .int (-1)), (2, .int 0)]) dX9_comeTo_3 (by decide) rfl rfl ?_
  refine V_iconst (v := 0) dX9_comeTo_4 rfl ?_
  refine V_istore_n (lv' := [(0, .ref 120), (1, .int (-1)), (2, .int 0), (3, .int 0)]) dX9_comeTo_5 (by decide) rfl rfl ?_
  exact h
set_option maxRecDepth 20000 in
theorem b_X9_comeTo_6 {d : Nat} {P : Int32 → wf_Mem → Prop} (mem : wf_Mem) (x1 : Int32) (x2 : Int32) (x3 : Int32)
    (h : (((mem 121 0) ≤ x3 → P x1 mem) ∧ (¬ (mem 121 0) ≤ x3 → (((mem 121 4) ≤ 0 → P x1 mem) ∧ (¬ (mem 121 4) ≤ 0 → (Ci mX9_fears d [.ref 120, .int x3] mem (fun r4 mem3 => ((x1 < 0 → Vw (Ni (d + 1) P) mX9_comeTo 6 [(0, .ref 120), (1, .int x3), (2, .int r4), (3, .int (x3 + 1))] [] mem3) ∧ (¬ x1 < 0 → ((x2 ≤ r4 → Vw (Ni (d + 1) P) mX9_comeTo 6 [(0, .ref 120), (1, .int x1), (2, .int x2), (3, .int (x3 + 1))] [] mem3) ∧ (¬ x2 ≤ r4 → Vw (Ni (d + 1) P) mX9_comeTo 6 [(0, .ref 120), (1, .int x3), (2, .int r4), (3, .int (x3 + 1))] [] mem3))))))))))) :
    Vw (Ni (d + 1) P) mX9_comeTo 6 [(0, .ref 120), (1, .int x1), (2, .int x2), (3, .int x3)] [] mem := by
  refine V_iload_n 3 dX9_comeTo_6 rfl ?_
  refine V_aload_n 0 dX9_comeTo_7 rfl ?_
  refine V_getf (v := .ref 121) gf_X9_7 dX9_comeTo_8 sh_a120 rfl ?_
  refine V_iconst (v := 0) dX9_comeTo_11 rfl ?_
  refine V_ildL (j := 0) dX9_comeTo_12 sh_a121 (by decide) (by decide) ?_
  refine V_icmp_ge (tgt := 53) dX9_comeTo_13 rfl ⟨fun c1 => ?_, fun c1 => ?_⟩
  · have h := h.1 c1
    refine V_iload_n 1 dX9_comeTo_53 rfl ?_
    exact V_iret dX9_comeTo_54 rfl h
  · have h := h.2 c1
    refine V_aload_n 0 dX9_comeTo_16 rfl ?_
    refine V_getf (v := .ref 121) gf_X9_7 dX9_comeTo_17 sh_a120 rfl ?_
    refine V_iconst (v := 4) dX9_comeTo_20 rfl ?_
    refine V_ildL (j := 4) dX9_comeTo_21 sh_a121 (by decide) (by decide) ?_
    refine V_if_le (tgt := 53) dX9_comeTo_22 rfl ⟨fun c2 => ?_, fun c2 => ?_⟩
    · have h := h.1 c2
      refine V_iload_n 1 dX9_comeTo_53 rfl ?_
      exact V_iret dX9_comeTo_54 rfl h
    · have h := h.2 c2
      refine V_aload_n 0 dX9_comeTo_25 rfl ?_
      refine V_iload_n 3 dX9_comeTo_26 rfl ?_
      refine V_cVi [.int x3] mv_X9_fears w_486 dX9_comeTo_27 wf_rok_m sh_a120 rfl (by decide) rfl rfl (Nat.le_of_ble_eq_true rfl) h ?_
      intro r4 mem3 h
      refine V_istore (lv' := [(0, .ref 120), (1, .int x1), (2, .int x2), (3, .int x3), (4, .int r4)]) dX9_comeTo_30 (by decide) rfl rfl ?_
      refine V_iload_n 1 dX9_comeTo_32 rfl ?_
      refine V_if_lt (tgt := 42) dX9_comeTo_33 rfl ⟨fun c5 => ?_, fun c5 => ?_⟩
      · have h := h.1 c5
        refine V_iload_n 3 dX9_comeTo_42 rfl ?_
        refine V_istore_n (lv' := [(0, .ref 120), (1, .int x3), (2, .int x2), (3, .int x3), (4, .int r4)]) dX9_comeTo_43 (by decide) rfl rfl ?_
        refine V_iload 4 dX9_comeTo_44 rfl ?_
        refine V_istore_n (lv' := [(0, .ref 120), (1, .int x3), (2, .int r4), (3, .int x3), (4, .int r4)]) dX9_comeTo_46 (by decide) rfl rfl ?_
        refine V_iinc (v := (x3 + 1)) (lv' := [(0, .ref 120), (1, .int x3), (2, .int r4), (3, .int (x3 + 1)), (4, .int r4)]) 3 dX9_comeTo_47 rfl rfl (by decide) rfl rfl ?_
        refine V_goto (tgt := 6) dX9_comeTo_50 rfl ?_
        exact V_sub [0, 1, 2, 3] rfl h
      · have h := h.2 c5
        refine V_iload 4 dX9_comeTo_36 rfl ?_
        refine V_iload_n 2 dX9_comeTo_38 rfl ?_
        refine V_icmp_ge (tgt := 47) dX9_comeTo_39 rfl ⟨fun c6 => ?_, fun c6 => ?_⟩
        · have h := h.1 c6
          refine V_iinc (v := (x3 + 1)) (lv' := [(0, .ref 120), (1, .int x1), (2, .int x2), (3, .int (x3 + 1)), (4, .int r4)]) 3 dX9_comeTo_47 rfl rfl (by decide) rfl rfl ?_
          refine V_goto (tgt := 6) dX9_comeTo_50 rfl ?_
          exact V_sub [0, 1, 2, 3] rfl h
        · have h := h.2 c6
          refine V_iload_n 3 dX9_comeTo_42 rfl ?_
          refine V_istore_n (lv' := [(0, .ref 120), (1, .int x3), (2, .int x2), (3, .int x3), (4, .int r4)]) dX9_comeTo_43 (by decide) rfl rfl ?_
          refine V_iload 4 dX9_comeTo_44 rfl ?_
          refine V_istore_n (lv' := [(0, .ref 120), (1, .int x3), (2, .int r4), (3, .int x3), (4, .int r4)]) dX9_comeTo_46 (by decide) rfl rfl ?_
          refine V_iinc (v := (x3 + 1)) (lv' := [(0, .ref 120), (1, .int x3), (2, .int r4), (3, .int (x3 + 1)), (4, .int r4)]) 3 dX9_comeTo_47 rfl rfl (by decide) rfl rfl ?_
          refine V_goto (tgt := 6) dX9_comeTo_50 rfl ?_
          exact V_sub [0, 1, 2, 3] rfl h
set_option maxRecDepth 20000 in
theorem b_X9_burns_0 {d : Nat} {P : wf_Mem → Prop} (mem : wf_Mem) 
    (h : (∀ mem1 : wf_Mem, mem1 = wf_ms mem 120 12 0 → Vw (Nv (d + 1) P) mX9_burns 7 [(0, .ref 120), (1, .int 0)] [] mem1)) :
    Vw (Nv (d + 1) P) mX9_burns 0 [(0, .ref 120)] [] mem := by
  refine V_aload_n 0 dX9_burns_0 rfl ?_
  refine V_iconst (v := 0) dX9_burns_1 rfl ?_
  refine V_putf pf_X9_154 dX9_burns_2 sh_a120 rfl rfl ?_
  refine V_topm (fun mem1 emem1 => ?_)
  have h := h mem1 emem1
  refine V_iconst (v := 0) dX9_burns_5 rfl ?_
  refine V_istore_n (lv' := [(0, .ref 120), (1, .int 0)]) dX9_burns_6 (by decide) rfl rfl ?_
  exact h
set_option maxRecDepth 20000 in
theorem b_X9_burns_7 {d : Nat} {P : wf_Mem → Prop} (mem : wf_Mem) (x1 : Int32)
    (h : (((mem 121 0) ≤ x1 → P mem) ∧ (¬ (mem 121 0) ≤ x1 → (Ci mX9_wagonsOwn d [.ref 120, .int x1, .int 1] mem (fun r3 mem2 => ((r3 ≤ (mem2 121 3) → (∀ mem5 : wf_Mem, mem5 = wf_ms mem2 121 3 ((mem2 121 3) - r3) → (∀ mem6 : wf_Mem, mem6 = wf_ms mem5 121 9 ((mem5 121 9) + r3) → Vw (Nv (d + 1) P) mX9_burns 7 [(0, .ref 120), (1, .int (x1 + 1))] [] mem6))) ∧ (¬ r3 ≤ (mem2 121 3) → (vp_in ((12 + (3 * x1)) + 1) 3088 ∧ ∀ mem7 : wf_Mem, mem7 = wf_ms mem2 121 ((12 + (3 * x1)) + 1).toNatClampNeg 0 → (∀ mem8 : wf_Mem, mem8 = wf_ms mem7 120 12 1 → Vw (Nv (d + 1) P) mX9_burns 7 [(0, .ref 120), (1, .int (x1 + 1))] [] mem8))))))))) :
    Vw (Nv (d + 1) P) mX9_burns 7 [(0, .ref 120), (1, .int x1)] [] mem := by
  refine V_iload_n 1 dX9_burns_7 rfl ?_
  refine V_aload_n 0 dX9_burns_8 rfl ?_
  refine V_getf (v := .ref 121) gf_X9_7 dX9_burns_9 sh_a120 rfl ?_
  refine V_iconst (v := 0) dX9_burns_12 rfl ?_
  refine V_ildL (j := 0) dX9_burns_13 sh_a121 (by decide) (by decide) ?_
  refine V_icmp_ge (tgt := 83) dX9_burns_14 rfl ⟨fun c1 => ?_, fun c1 => ?_⟩
  · have h := h.1 c1
    exact V_vret dX9_burns_83 rfl h
  · have h := h.2 c1
    refine V_aload_n 0 dX9_burns_17 rfl ?_
    refine V_iload_n 1 dX9_burns_18 rfl ?_
    refine V_iconst (v := 1) dX9_burns_19 rfl ?_
    refine V_cVi [.int x1, .int 1] mv_X9_wagonsOwn w_446 dX9_burns_20 wf_rok_m sh_a120 rfl (by decide) rfl rfl (Nat.le_of_ble_eq_true rfl) h ?_
    intro r3 mem2 h
    refine V_istore_n (lv' := [(0, .ref 120), (1, .int x1), (2, .int r3)]) dX9_burns_23 (by decide) rfl rfl ?_
    refine V_iload_n 2 dX9_burns_24 rfl ?_
    refine V_aload_n 0 dX9_burns_25 rfl ?_
    refine V_getf (v := .ref 121) gf_X9_7 dX9_burns_26 sh_a120 rfl ?_
    refine V_iconst (v := 3) dX9_burns_29 rfl ?_
    refine V_ildL (j := 3) dX9_burns_30 sh_a121 (by decide) (by decide) ?_
    refine V_icmp_le (tgt := 56) dX9_burns_31 rfl ⟨fun c4 => ?_, fun c4 => ?_⟩
    · have h := h.1 c4
      refine V_aload_n 0 dX9_burns_56 rfl ?_
      refine V_getf (v := .ref 121) gf_X9_7 dX9_burns_57 sh_a120 rfl ?_
      refine V_iconst (v := 3) dX9_burns_60 rfl ?_
      refine V_dup2 dX9_burns_61 rfl rfl ?_
      refine V_ildL (j := 3) dX9_burns_62 sh_a121 (by decide) (by decide) ?_
      refine V_iload_n 2 dX9_burns_63 rfl ?_
      refine V_isub dX9_burns_64 ?_
      refine V_istL (j := 3) dX9_burns_65 sh_a121 (by decide) (by decide) ?_
      refine V_topm (fun mem5 emem5 => ?_)
      have h := h mem5 emem5
      refine V_aload_n 0 dX9_burns_66 rfl ?_
      refine V_getf (v := .ref 121) gf_X9_7 dX9_burns_67 sh_a120 rfl ?_
      refine V_bipush (v := 9) dX9_burns_70 rfl ?_
      refine V_dup2 dX9_burns_72 rfl rfl ?_
      refine V_ildL (j := 9) dX9_burns_73 sh_a121 (by decide) (by decide) ?_
      refine V_iload_n 2 dX9_burns_74 rfl ?_
      refine V_iadd dX9_burns_75 ?_
      refine V_istL (j := 9) dX9_burns_76 sh_a121 (by decide) (by decide) ?_
      refine V_topm (fun mem6 emem6 => ?_)
      have h := h mem6 emem6
      refine V_iinc (v := (x1 + 1)) (lv' := [(0, .ref 120), (1, .int (x1 + 1)), (2, .int r3)]) 1 dX9_burns_77 rfl rfl (by decide) rfl rfl ?_
      refine V_goto (tgt := 7) dX9_burns_80 rfl ?_
      exact V_sub [0, 1] rfl h
    · have h := h.2 c4
      refine V_aload_n 0 dX9_burns_34 rfl ?_
      refine V_getf (v := .ref 121) gf_X9_7 dX9_burns_35 sh_a120 rfl ?_
      refine V_bipush (v := 12) dX9_burns_38 rfl ?_
      refine V_iconst (v := 3) dX9_burns_40 rfl ?_
      refine V_iload_n 1 dX9_burns_41 rfl ?_
      refine V_imul dX9_burns_42 ?_
      refine V_iadd dX9_burns_43 ?_
      refine V_iconst (v := 1) dX9_burns_44 rfl ?_
      refine V_iadd dX9_burns_45 ?_
      refine V_iconst (v := 0) dX9_burns_46 rfl ?_
      refine V_iast dX9_burns_47 sh_a121 ⟨h.1, ?_⟩
      refine V_topm (fun mem7 emem7 => ?_)
      have h := h.2 mem7 emem7
      refine V_aload_n 0 dX9_burns_48 rfl ?_
      refine V_iconst (v := 1) dX9_burns_49 rfl ?_
      refine V_putf pf_X9_154 dX9_burns_50 sh_a120 rfl rfl ?_
      refine V_topm (fun mem8 emem8 => ?_)
      have h := h mem8 emem8
      refine V_goto (tgt := 77) dX9_burns_53 rfl ?_
      refine V_iinc (v := (x1 + 1)) (lv' := [(0, .ref 120), (1, .int (x1 + 1)), (2, .int r3)]) 1 dX9_burns_77 rfl rfl (by decide) rfl rfl ?_
      refine V_goto (tgt := 7) dX9_burns_80 rfl ?_
      exact V_sub [0, 1] rfl h
set_option maxRecDepth 20000 in
theorem b_X9_comeAndTake_0 {d : Nat} {P : wf_Mem → Prop} (mem : wf_Mem) 
    (h : (Ci mX9_comeTo d [.ref 120] mem (fun r2 mem1 => (∀ mem3 : wf_Mem, mem3 = wf_ms mem1 120 13 r2 → ((0 ≤ (mem3 120 13) → (∀ x1_5 : Int32, x1_5 = (12 + (3 * (mem3 120 13))) → (Ci mX9_guard d [.ref 120, .int (mem3 120 13)] mem3 (fun r7 mem6 => ((((mem6 121 4) + (mem6 121 5)) ≤ r7 → Vw (Nv (d + 1) P) mX9_comeAndTake 99 [(0, .ref 120), (1, .int x1_5)] [] mem6) ∧ (¬ ((mem6 121 4) + (mem6 121 5)) ≤ r7 → (vp_in x1_5 3088 ∧ (((mem6 121 x1_5.toNatClampNeg) ≤ 0 → Vw (Nv (d + 1) P) mX9_comeAndTake 99 [(0, .ref 120), (1, .int x1_5)] [] mem6) ∧ (¬ (mem6 121 x1_5.toNatClampNeg) ≤ 0 → (vp_in x1_5 3088 ∧ (vp_in x1_5 3088 ∧ ∀ mem10 : wf_Mem, mem10 = wf_ms mem6 121 x1_5.toNatClampNeg ((mem6 121 x1_5.toNatClampNeg) - 1) → (∀ mem11 : wf_Mem, mem11 = wf_ms mem10 121 8 ((mem10 121 8) + 1) → (∀ mem12 : wf_Mem, mem12 = wf_ms mem11 121 5 0 → (vp_in (x1_5 + 2) 3088 ∧ ∀ mem13 : wf_Mem, mem13 = wf_ms mem12 121 (x1_5 + 2).toNatClampNeg 0 → P mem13)))))))))))))) ∧ (¬ 0 ≤ (mem3 120 13) → P mem3)))))) :
    Vw (Nv (d + 1) P) mX9_comeAndTake 0 [(0, .ref 120)] [] mem := by
  refine V_aload_n 0 dX9_comeAndTake_0 rfl ?_
  refine V_aload_n 0 dX9_comeAndTake_1 rfl ?_
  refine V_cVi [] mv_X9_comeTo w_529 dX9_comeAndTake_2 wf_rok_m sh_a120 rfl (by decide) rfl rfl (Nat.le_of_ble_eq_true rfl) h ?_
  intro r2 mem1 h
  refine V_putf pf_X9_161 dX9_comeAndTake_5 sh_a120 rfl rfl ?_
  refine V_topm (fun mem3 emem3 => ?_)
  have h := h mem3 emem3
  refine V_aload_n 0 dX9_comeAndTake_8 rfl ?_
  refine V_getf (v := .int (mem3 120 13)) gf_X9_161 dX9_comeAndTake_9 sh_a120 rfl ?_
  refine V_if_ge (tgt := 16) dX9_comeAndTake_12 rfl ⟨fun c4 => ?_, fun c4 => ?_⟩
  · have h := h.1 c4
    refine V_bipush (v := 12) dX9_comeAndTake_16 rfl ?_
    refine V_iconst (v := 3) dX9_comeAndTake_18 rfl ?_
    refine V_aload_n 0 dX9_comeAndTake_19 rfl ?_
    refine V_getf (v := .int (mem3 120 13)) gf_X9_161 dX9_comeAndTake_20 sh_a120 rfl ?_
    refine V_imul dX9_comeAndTake_23 ?_
    refine V_iadd dX9_comeAndTake_24 ?_
    refine V_topi (fun x1_5 ex1_5 => ?_)
    have h := h x1_5 ex1_5
    refine V_istore_n (lv' := [(0, .ref 120), (1, .int x1_5)]) dX9_comeAndTake_25 (by decide) rfl rfl ?_
    refine V_aload_n 0 dX9_comeAndTake_26 rfl ?_
    refine V_aload_n 0 dX9_comeAndTake_27 rfl ?_
    refine V_getf (v := .int (mem3 120 13)) gf_X9_161 dX9_comeAndTake_28 sh_a120 rfl ?_
    refine V_cVi [.int (mem3 120 13)] mv_X9_guard w_482 dX9_comeAndTake_31 wf_rok_m sh_a120 rfl (by decide) rfl rfl (Nat.le_of_ble_eq_true rfl) h ?_
    intro r7 mem6 h
    refine V_aload_n 0 dX9_comeAndTake_34 rfl ?_
    refine V_getf (v := .ref 121) gf_X9_7 dX9_comeAndTake_35 sh_a120 rfl ?_
    refine V_iconst (v := 4) dX9_comeAndTake_38 rfl ?_
    refine V_ildL (j := 4) dX9_comeAndTake_39 sh_a121 (by decide) (by decide) ?_
    refine V_aload_n 0 dX9_comeAndTake_40 rfl ?_
    refine V_getf (v := .ref 121) gf_X9_7 dX9_comeAndTake_41 sh_a120 rfl ?_
    refine V_iconst (v := 5) dX9_comeAndTake_44 rfl ?_
    refine V_ildL (j := 5) dX9_comeAndTake_45 sh_a121 (by decide) (by decide) ?_
    refine V_iadd dX9_comeAndTake_46 ?_
    refine V_icmp_ge (tgt := 99) dX9_comeAndTake_47 rfl ⟨fun c8 => ?_, fun c8 => ?_⟩
    · have h := h.1 c8
      exact h
    · have h := h.2 c8
      refine V_aload_n 0 dX9_comeAndTake_50 rfl ?_
      refine V_getf (v := .ref 121) gf_X9_7 dX9_comeAndTake_51 sh_a120 rfl ?_
      refine V_iload_n 1 dX9_comeAndTake_54 rfl ?_
      refine V_iald dX9_comeAndTake_55 sh_a121 ⟨h.1, ?_⟩
      have h := h.2
      refine V_if_le (tgt := 99) dX9_comeAndTake_56 rfl ⟨fun c9 => ?_, fun c9 => ?_⟩
      · have h := h.1 c9
        exact h
      · have h := h.2 c9
        refine V_aload_n 0 dX9_comeAndTake_59 rfl ?_
        refine V_getf (v := .ref 121) gf_X9_7 dX9_comeAndTake_60 sh_a120 rfl ?_
        refine V_iload_n 1 dX9_comeAndTake_63 rfl ?_
        refine V_dup2 dX9_comeAndTake_64 rfl rfl ?_
        refine V_iald dX9_comeAndTake_65 sh_a121 ⟨h.1, ?_⟩
        have h := h.2
        refine V_iconst (v := 1) dX9_comeAndTake_66 rfl ?_
        refine V_isub dX9_comeAndTake_67 ?_
        refine V_iast dX9_comeAndTake_68 sh_a121 ⟨h.1, ?_⟩
        refine V_topm (fun mem10 emem10 => ?_)
        have h := h.2 mem10 emem10
        refine V_aload_n 0 dX9_comeAndTake_69 rfl ?_
        refine V_getf (v := .ref 121) gf_X9_7 dX9_comeAndTake_70 sh_a120 rfl ?_
        refine V_bipush (v := 8) dX9_comeAndTake_73 rfl ?_
        refine V_dup2 dX9_comeAndTake_75 rfl rfl ?_
        refine V_ildL (j := 8) dX9_comeAndTake_76 sh_a121 (by decide) (by decide) ?_
        refine V_iconst (v := 1) dX9_comeAndTake_77 rfl ?_
        refine V_iadd dX9_comeAndTake_78 ?_
        refine V_istL (j := 8) dX9_comeAndTake_79 sh_a121 (by decide) (by decide) ?_
        refine V_topm (fun mem11 emem11 => ?_)
        have h := h mem11 emem11
        refine V_aload_n 0 dX9_comeAndTake_80 rfl ?_
        refine V_getf (v := .ref 121) gf_X9_7 dX9_comeAndTake_81 sh_a120 rfl ?_
        refine V_iconst (v := 5) dX9_comeAndTake_84 rfl ?_
        refine V_iconst (v := 0) dX9_comeAndTake_85 rfl ?_
        refine V_istL (j := 5) dX9_comeAndTake_86 sh_a121 (by decide) (by decide) ?_
        refine V_topm (fun mem12 emem12 => ?_)
        have h := h mem12 emem12
        refine V_aload_n 0 dX9_comeAndTake_87 rfl ?_
        refine V_getf (v := .ref 121) gf_X9_7 dX9_comeAndTake_88 sh_a120 rfl ?_
        refine V_iload_n 1 dX9_comeAndTake_91 rfl ?_
        refine V_iconst (v := 2) dX9_comeAndTake_92 rfl ?_
        refine V_iadd dX9_comeAndTake_93 ?_
        refine V_iconst (v := 0) dX9_comeAndTake_94 rfl ?_
        refine V_iast dX9_comeAndTake_95 sh_a121 ⟨h.1, ?_⟩
        refine V_topm (fun mem13 emem13 => ?_)
        have h := h.2 mem13 emem13
        refine V_goto (tgt := 141) dX9_comeAndTake_96 rfl ?_
        exact V_vret dX9_comeAndTake_141 rfl h
  · have h := h.2 c4
    exact V_vret dX9_comeAndTake_15 rfl h
set_option maxRecDepth 20000 in
theorem b_X9_comeAndTake_99 {d : Nat} {P : wf_Mem → Prop} (mem : wf_Mem) (x1 : Int32)
    (h : (vp_in (x1 + 2) 3088 ∧ (Ci mX9_within d [.int ((mem 121 (x1 + 2).toNatClampNeg) + 1), .int 99] mem (fun r2 mem1 => (vp_in (x1 + 2) 3088 ∧ ∀ mem3 : wf_Mem, mem3 = wf_ms mem1 121 (x1 + 2).toNatClampNeg r2 → (Ci mX9_within d [.int ((mem3 121 5) + 1), .int 99] mem3 (fun r5 mem4 => (∀ mem6 : wf_Mem, mem6 = wf_ms mem4 121 5 r5 → P mem6)))))))) :
    Vw (Nv (d + 1) P) mX9_comeAndTake 99 [(0, .ref 120), (1, .int x1)] [] mem := by
  refine V_aload_n 0 dX9_comeAndTake_99 rfl ?_
  refine V_getf (v := .ref 121) gf_X9_7 dX9_comeAndTake_100 sh_a120 rfl ?_
  refine V_iload_n 1 dX9_comeAndTake_103 rfl ?_
  refine V_iconst (v := 2) dX9_comeAndTake_104 rfl ?_
  refine V_iadd dX9_comeAndTake_105 ?_
  refine V_aload_n 0 dX9_comeAndTake_106 rfl ?_
  refine V_getf (v := .ref 121) gf_X9_7 dX9_comeAndTake_107 sh_a120 rfl ?_
  refine V_iload_n 1 dX9_comeAndTake_110 rfl ?_
  refine V_iconst (v := 2) dX9_comeAndTake_111 rfl ?_
  refine V_iadd dX9_comeAndTake_112 ?_
  refine V_iald dX9_comeAndTake_113 sh_a121 ⟨h.1, ?_⟩
  have h := h.2
  refine V_iconst (v := 1) dX9_comeAndTake_114 rfl ?_
  refine V_iadd dX9_comeAndTake_115 ?_
  refine V_bipush (v := 99) dX9_comeAndTake_116 rfl ?_
  refine V_cSi [.int ((mem 121 (x1 + 2).toNatClampNeg) + 1), .int 99] ms_X9_within w_462 dX9_comeAndTake_118 wf_rok_m rfl rfl (Nat.le_of_ble_eq_true rfl) h ?_
  intro r2 mem1 h
  refine V_iast dX9_comeAndTake_121 sh_a121 ⟨h.1, ?_⟩
  refine V_topm (fun mem3 emem3 => ?_)
  have h := h.2 mem3 emem3
  refine V_aload_n 0 dX9_comeAndTake_122 rfl ?_
  refine V_getf (v := .ref 121) gf_X9_7 dX9_comeAndTake_123 sh_a120 rfl ?_
  refine V_iconst (v := 5) dX9_comeAndTake_126 rfl ?_
  refine V_aload_n 0 dX9_comeAndTake_127 rfl ?_
  refine V_getf (v := .ref 121) gf_X9_7 dX9_comeAndTake_128 sh_a120 rfl ?_
  refine V_iconst (v := 5) dX9_comeAndTake_131 rfl ?_
  refine V_ildL (j := 5) dX9_comeAndTake_132 sh_a121 (by decide) (by decide) ?_
  refine V_iconst (v := 1) dX9_comeAndTake_133 rfl ?_
  refine V_iadd dX9_comeAndTake_134 ?_
  refine V_bipush (v := 99) dX9_comeAndTake_135 rfl ?_
  refine V_cSi [.int ((mem3 121 5) + 1), .int 99] ms_X9_within w_462 dX9_comeAndTake_137 wf_rok_m rfl rfl (Nat.le_of_ble_eq_true rfl) h ?_
  intro r5 mem4 h
  refine V_istL (j := 5) dX9_comeAndTake_140 sh_a121 (by decide) (by decide) ?_
  refine V_topm (fun mem6 emem6 => ?_)
  have h := h mem6 emem6
  exact V_vret dX9_comeAndTake_141 rfl h
set_option maxRecDepth 20000 in
theorem b_X9_tires_0 {d : Nat} {P : Int32 → wf_Mem → Prop} (mem : wf_Mem) (x1 : Int32)
    (h : (Ci mX9_counts d [.ref 120, .int 2] mem (fun r2 mem1 => ((0 ≤ r2 → (Ci mX9_of d [.ref 120, .int x1, .int 3] mem1 (fun r5 mem4 => (∀ mem6 : wf_Mem, mem6 = wf_ms mem4 134 116 r5 → (Ci mX9_of d [.ref 120, .int x1, .int 2] mem6 (fun r8 mem7 => (∀ mem9 : wf_Mem, mem9 = wf_ms mem7 134 101 r8 → (Ci mX9_worked d [.ref 120, .int r2] mem9 (fun r11 mem10 => (Ci mX9_within d [.int r11, .int 99] mem10 (fun r13 mem12 => P r13 mem12))))))))))) ∧ (¬ 0 ≤ r2 → P 1 mem1))))) :
    Vw (Ni (d + 1) P) mX9_tires 0 [(0, .ref 120), (1, .int x1)] [] mem := by
  refine V_aload_n 0 dX9_tires_0 rfl ?_
  refine V_iconst (v := 2) dX9_tires_1 rfl ?_
  refine V_cVi [.int 2] mv_X9_counts w_454 dX9_tires_2 wf_rok_m sh_a120 rfl (by decide) rfl rfl (Nat.le_of_ble_eq_true rfl) h ?_
  intro r2 mem1 h
  refine V_istore_n (lv' := [(0, .ref 120), (1, .int x1), (2, .int r2)]) dX9_tires_5 (by decide) rfl rfl ?_
  refine V_iload_n 2 dX9_tires_6 rfl ?_
  refine V_if_ge (tgt := 12) dX9_tires_7 rfl ⟨fun c3 => ?_, fun c3 => ?_⟩
  · have h := h.1 c3
    refine V_aload_n 0 dX9_tires_12 rfl ?_
    refine V_getf (v := .ref 134) gf_X9_49 dX9_tires_13 sh_a120 rfl ?_
    refine V_bipush (v := 116) dX9_tires_16 rfl ?_
    refine V_aload_n 0 dX9_tires_18 rfl ?_
    refine V_iload_n 1 dX9_tires_19 rfl ?_
    refine V_iconst (v := 3) dX9_tires_20 rfl ?_
    refine V_cVi [.int x1, .int 3] mv_X9_of w_466 dX9_tires_21 wf_rok_m sh_a120 rfl (by decide) rfl rfl (Nat.le_of_ble_eq_true rfl) h ?_
    intro r5 mem4 h
    refine V_istL (j := 116) dX9_tires_24 sh_a134 (by decide) (by decide) ?_
    refine V_topm (fun mem6 emem6 => ?_)
    have h := h mem6 emem6
    refine V_aload_n 0 dX9_tires_25 rfl ?_
    refine V_getf (v := .ref 134) gf_X9_49 dX9_tires_26 sh_a120 rfl ?_
    refine V_bipush (v := 101) dX9_tires_29 rfl ?_
    refine V_aload_n 0 dX9_tires_31 rfl ?_
    refine V_iload_n 1 dX9_tires_32 rfl ?_
    refine V_iconst (v := 2) dX9_tires_33 rfl ?_
    refine V_cVi [.int x1, .int 2] mv_X9_of w_466 dX9_tires_34 wf_rok_m sh_a120 rfl (by decide) rfl rfl (Nat.le_of_ble_eq_true rfl) h ?_
    intro r8 mem7 h
    refine V_istL (j := 101) dX9_tires_37 sh_a134 (by decide) (by decide) ?_
    refine V_topm (fun mem9 emem9 => ?_)
    have h := h mem9 emem9
    refine V_aload_n 0 dX9_tires_38 rfl ?_
    refine V_iload_n 2 dX9_tires_39 rfl ?_
    refine V_cVi [.int r2] mv_X9_worked w_459 dX9_tires_40 wf_rok_m sh_a120 rfl (by decide) rfl rfl (Nat.le_of_ble_eq_true rfl) h ?_
    intro r11 mem10 h
    refine V_bipush (v := 99) dX9_tires_43 rfl ?_
    refine V_cSi [.int r11, .int 99] ms_X9_within w_462 dX9_tires_45 wf_rok_m rfl rfl (Nat.le_of_ble_eq_true rfl) h ?_
    intro r13 mem12 h
    exact V_iret dX9_tires_48 rfl h
  · have h := h.2 c3
    refine V_iconst (v := 1) dX9_tires_10 rfl ?_
    exact V_iret dX9_tires_11 rfl h
set_option maxRecDepth 20000 in
theorem b_X9_goesOn_0 {d : Nat} {P : wf_Mem → Prop} (mem : wf_Mem) 
    (h : (Cv mX9_burns d [.ref 120] mem (fun mem1 => (Cv mX9_comeAndTake d [.ref 120] mem1 (fun mem2 => Vw (Nv (d + 1) P) mX9_goesOn 10 [(0, .ref 120), (1, .int 0)] [] mem2))))) :
    Vw (Nv (d + 1) P) mX9_goesOn 0 [(0, .ref 120)] [] mem := by
  refine V_aload_n 0 dX9_goesOn_0 rfl ?_
  refine V_cVv [] mv_X9_burns w_534 dX9_goesOn_1 wf_rok_m sh_a120 rfl (by decide) rfl rfl (Nat.le_of_ble_eq_true rfl) h ?_
  intro mem1 h
  refine V_aload_n 0 dX9_goesOn_4 rfl ?_
  refine V_cVv [] mv_X9_comeAndTake w_538 dX9_goesOn_5 wf_rok_m sh_a120 rfl (by decide) rfl rfl (Nat.le_of_ble_eq_true rfl) h ?_
  intro mem2 h
  refine V_iconst (v := 0) dX9_goesOn_8 rfl ?_
  refine V_istore_n (lv' := [(0, .ref 120), (1, .int 0)]) dX9_goesOn_9 (by decide) rfl rfl ?_
  exact h
set_option maxRecDepth 20000 in
theorem b_X9_goesOn_10 {d : Nat} {P : wf_Mem → Prop} (mem : wf_Mem) (x1 : Int32)
    (h : (((mem 121 1) ≤ x1 → (∀ mem2 : wf_Mem, mem2 = wf_ms mem 121 6 ((mem 121 6) + 1) → P mem2)) ∧ (¬ (mem 121 1) ≤ x1 → (∀ x2_3 : Int32, x2_3 = ((48 + (5 * x1)) + 3) → (Ci mX9_of d [.ref 120, .int x1, .int 4] mem (fun r5 mem4 => ((¬ r5 = 1 → (vp_in x2_3 3088 ∧ (Ci mX9_within d [.int ((mem4 121 x2_3.toNatClampNeg) - 2), .int 999] mem4 (fun r8 mem7 => (vp_in x2_3 3088 ∧ ∀ mem9 : wf_Mem, mem9 = wf_ms mem7 121 x2_3.toNatClampNeg r8 → (∀ mem10 : wf_Mem, mem10 = wf_ms mem9 121 7 ((mem9 121 7) + 1) → Vw (Nv (d + 1) P) mX9_goesOn 10 [(0, .ref 120), (1, .int (x1 + 1))] [] mem10)))))) ∧ (r5 = 1 → (vp_in x2_3 3088 ∧ (Ci mX9_tires d [.ref 120, .int x1] mem4 (fun r12 mem11 => (Ci mX9_within d [.int ((mem4 121 x2_3.toNatClampNeg) + r12), .int 999] mem11 (fun r14 mem13 => (vp_in x2_3 3088 ∧ ∀ mem15 : wf_Mem, mem15 = wf_ms mem13 121 x2_3.toNatClampNeg r14 → Vw (Nv (d + 1) P) mX9_goesOn 10 [(0, .ref 120), (1, .int (x1 + 1))] [] mem15)))))))))))))) :
    Vw (Nv (d + 1) P) mX9_goesOn 10 [(0, .ref 120), (1, .int x1)] [] mem := by
  refine V_iload_n 1 dX9_goesOn_10 rfl ?_
  refine V_aload_n 0 dX9_goesOn_11 rfl ?_
  refine V_getf (v := .ref 121) gf_X9_7 dX9_goesOn_12 sh_a120 rfl ?_
  refine V_iconst (v := 1) dX9_goesOn_15 rfl ?_
  refine V_ildL (j := 1) dX9_goesOn_16 sh_a121 (by decide) (by decide) ?_
  refine V_icmp_ge (tgt := 103) dX9_goesOn_17 rfl ⟨fun c1 => ?_, fun c1 => ?_⟩
  · have h := h.1 c1
    refine V_aload_n 0 dX9_goesOn_103 rfl ?_
    refine V_getf (v := .ref 121) gf_X9_7 dX9_goesOn_104 sh_a120 rfl ?_
    refine V_bipush (v := 6) dX9_goesOn_107 rfl ?_
    refine V_dup2 dX9_goesOn_109 rfl rfl ?_
    refine V_ildL (j := 6) dX9_goesOn_110 sh_a121 (by decide) (by decide) ?_
    refine V_iconst (v := 1) dX9_goesOn_111 rfl ?_
    refine V_iadd dX9_goesOn_112 ?_
    refine V_istL (j := 6) dX9_goesOn_113 sh_a121 (by decide) (by decide) ?_
    refine V_topm (fun mem2 emem2 => ?_)
    have h := h mem2 emem2
    exact V_vret dX9_goesOn_114 rfl h
  · have h := h.2 c1
    refine V_bipush (v := 48) dX9_goesOn_20 rfl ?_
    refine V_iconst (v := 5) dX9_goesOn_22 rfl ?_
    refine V_iload_n 1 dX9_goesOn_23 rfl ?_
    refine V_imul dX9_goesOn_24 ?_
    refine V_iadd dX9_goesOn_25 ?_
    refine V_iconst (v := 3) dX9_goesOn_26 rfl ?_
    refine V_iadd dX9_goesOn_27 ?_
    refine V_topi (fun x2_3 ex2_3 => ?_)
    have h := h x2_3 ex2_3
    refine V_istore_n (lv' := [(0, .ref 120), (1, .int x1), (2, .int x2_3)]) dX9_goesOn_28 (by decide) rfl rfl ?_
    refine V_aload_n 0 dX9_goesOn_29 rfl ?_
    refine V_iload_n 1 dX9_goesOn_30 rfl ?_
    refine V_iconst (v := 4) dX9_goesOn_31 rfl ?_
    refine V_cVi [.int x1, .int 4] mv_X9_of w_466 dX9_goesOn_32 wf_rok_m sh_a120 rfl (by decide) rfl rfl (Nat.le_of_ble_eq_true rfl) h ?_
    intro r5 mem4 h
    refine V_iconst (v := 1) dX9_goesOn_35 rfl ?_
    refine V_icmp_ne (tgt := 66) dX9_goesOn_36 rfl ⟨fun c6 => ?_, fun c6 => ?_⟩
    · have h := h.1 c6
      refine V_aload_n 0 dX9_goesOn_66 rfl ?_
      refine V_getf (v := .ref 121) gf_X9_7 dX9_goesOn_67 sh_a120 rfl ?_
      refine V_iload_n 2 dX9_goesOn_70 rfl ?_
      refine V_aload_n 0 dX9_goesOn_71 rfl ?_
      refine V_getf (v := .ref 121) gf_X9_7 dX9_goesOn_72 sh_a120 rfl ?_
      refine V_iload_n 2 dX9_goesOn_75 rfl ?_
      refine V_iald dX9_goesOn_76 sh_a121 ⟨h.1, ?_⟩
      have h := h.2
      refine V_iconst (v := 2) dX9_goesOn_77 rfl ?_
      refine V_isub dX9_goesOn_78 ?_
      refine V_sipush (v := 999) dX9_goesOn_79 rfl ?_
      refine V_cSi [.int ((mem4 121 x2_3.toNatClampNeg) - 2), .int 999] ms_X9_within w_462 dX9_goesOn_82 wf_rok_m rfl rfl (Nat.le_of_ble_eq_true rfl) h ?_
      intro r8 mem7 h
      refine V_iast dX9_goesOn_85 sh_a121 ⟨h.1, ?_⟩
      refine V_topm (fun mem9 emem9 => ?_)
      have h := h.2 mem9 emem9
      refine V_aload_n 0 dX9_goesOn_86 rfl ?_
      refine V_getf (v := .ref 121) gf_X9_7 dX9_goesOn_87 sh_a120 rfl ?_
      refine V_bipush (v := 7) dX9_goesOn_90 rfl ?_
      refine V_dup2 dX9_goesOn_92 rfl rfl ?_
      refine V_ildL (j := 7) dX9_goesOn_93 sh_a121 (by decide) (by decide) ?_
      refine V_iconst (v := 1) dX9_goesOn_94 rfl ?_
      refine V_iadd dX9_goesOn_95 ?_
      refine V_istL (j := 7) dX9_goesOn_96 sh_a121 (by decide) (by decide) ?_
      refine V_topm (fun mem10 emem10 => ?_)
      have h := h mem10 emem10
      refine V_iinc (v := (x1 + 1)) (lv' := [(0, .ref 120), (1, .int (x1 + 1)), (2, .int x2_3)]) 1 dX9_goesOn_97 rfl rfl (by decide) rfl rfl ?_
      refine V_goto (tgt := 10) dX9_goesOn_100 rfl ?_
      exact V_sub [0, 1] rfl h
    · have h := h.2 c6
      refine V_aload_n 0 dX9_goesOn_39 rfl ?_
      refine V_getf (v := .ref 121) gf_X9_7 dX9_goesOn_40 sh_a120 rfl ?_
      refine V_iload_n 2 dX9_goesOn_43 rfl ?_
      refine V_aload_n 0 dX9_goesOn_44 rfl ?_
      refine V_getf (v := .ref 121) gf_X9_7 dX9_goesOn_45 sh_a120 rfl ?_
      refine V_iload_n 2 dX9_goesOn_48 rfl ?_
      refine V_iald dX9_goesOn_49 sh_a121 ⟨h.1, ?_⟩
      have h := h.2
      refine V_aload_n 0 dX9_goesOn_50 rfl ?_
      refine V_iload_n 1 dX9_goesOn_51 rfl ?_
      refine V_cVi [.int x1] mv_X9_tires w_542 dX9_goesOn_52 wf_rok_m sh_a120 rfl (by decide) rfl rfl (Nat.le_of_ble_eq_true rfl) h ?_
      intro r12 mem11 h
      refine V_iadd dX9_goesOn_55 ?_
      refine V_sipush (v := 999) dX9_goesOn_56 rfl ?_
      refine V_cSi [.int ((mem4 121 x2_3.toNatClampNeg) + r12), .int 999] ms_X9_within w_462 dX9_goesOn_59 wf_rok_m rfl rfl (Nat.le_of_ble_eq_true rfl) h ?_
      intro r14 mem13 h
      refine V_iast dX9_goesOn_62 sh_a121 ⟨h.1, ?_⟩
      refine V_topm (fun mem15 emem15 => ?_)
      have h := h.2 mem15 emem15
      refine V_goto (tgt := 97) dX9_goesOn_63 rfl ?_
      refine V_iinc (v := (x1 + 1)) (lv' := [(0, .ref 120), (1, .int (x1 + 1)), (2, .int x2_3)]) 1 dX9_goesOn_97 rfl rfl (by decide) rfl rfl ?_
      refine V_goto (tgt := 10) dX9_goesOn_100 rfl ?_
      exact V_sub [0, 1] rfl h
set_option maxRecDepth 20000 in
theorem b_X9_hours_0 {d : Nat} {P : Int32 → wf_Mem → Prop} (mem : wf_Mem) (x1 : Int32)
    (h : (Ci mX9_isIn d [.long (x1 : Int32).toInt64, .long 1, .long 300] mem (fun r2 mem1 => ((¬ r2 = 0 → (∀ x2_4 : Int32, x2_4 = (mem1 121 8) → Vw (Ni (d + 1) P) mX9_hours 25 [(0, .ref 120), (1, .int x1), (2, .int x2_4), (3, .int 0)] [] mem1)) ∧ (r2 = 0 → P (-1000000001) mem1))))) :
    Vw (Ni (d + 1) P) mX9_hours 0 [(0, .ref 120), (1, .int x1)] [] mem := by
  refine V_iload_n 1 dX9_hours_0 rfl ?_
  refine V_i2l dX9_hours_1 ?_
  refine V_lconst (v := 1) dX9_hours_2 rfl ?_
  refine V_ldc2 w_543 dX9_hours_3 ?_
  refine V_cSi [.long (x1 : Int32).toInt64, .long 1, .long 300] ms_X9_isIn w_438 dX9_hours_6 wf_rok_m rfl rfl (Nat.le_of_ble_eq_true rfl) h ?_
  intro r2 mem1 h
  refine V_if_ne (tgt := 15) dX9_hours_9 rfl ⟨fun c3 => ?_, fun c3 => ?_⟩
  · have h := h.1 c3
    refine V_aload_n 0 dX9_hours_15 rfl ?_
    refine V_getf (v := .ref 121) gf_X9_7 dX9_hours_16 sh_a120 rfl ?_
    refine V_bipush (v := 8) dX9_hours_19 rfl ?_
    refine V_ildL (j := 8) dX9_hours_21 sh_a121 (by decide) (by decide) ?_
    refine V_topi (fun x2_4 ex2_4 => ?_)
    have h := h x2_4 ex2_4
    refine V_istore_n (lv' := [(0, .ref 120), (1, .int x1), (2, .int x2_4)]) dX9_hours_22 (by decide) rfl rfl ?_
    refine V_iconst (v := 0) dX9_hours_23 rfl ?_
    refine V_istore_n (lv' := [(0, .ref 120), (1, .int x1), (2, .int x2_4), (3, .int 0)]) dX9_hours_24 (by decide) rfl rfl ?_
    exact h
  · have h := h.2 c3
    refine V_ldc w_442 dX9_hours_12 ?_
    exact V_iret dX9_hours_14 rfl h
set_option maxRecDepth 20000 in
theorem b_X9_hours_25 {d : Nat} {P : Int32 → wf_Mem → Prop} (mem : wf_Mem) (x1 : Int32) (x2 : Int32) (x3 : Int32)
    (h : ((x1 ≤ x3 → P ((mem 121 8) - x2) mem) ∧ (¬ x1 ≤ x3 → ((9999 ≤ (mem 121 6) → P ((mem 121 8) - x2) mem) ∧ (¬ 9999 ≤ (mem 121 6) → (Cv mX9_goesOn d [.ref 120] mem (fun mem3 => Vw (Ni (d + 1) P) mX9_hours 25 [(0, .ref 120), (1, .int x1), (2, .int x2), (3, .int (x3 + 1))] [] mem3))))))) :
    Vw (Ni (d + 1) P) mX9_hours 25 [(0, .ref 120), (1, .int x1), (2, .int x2), (3, .int x3)] [] mem := by
  refine V_iload_n 3 dX9_hours_25 rfl ?_
  refine V_iload_n 1 dX9_hours_26 rfl ?_
  refine V_icmp_ge (tgt := 53) dX9_hours_27 rfl ⟨fun c1 => ?_, fun c1 => ?_⟩
  · have h := h.1 c1
    refine V_aload_n 0 dX9_hours_53 rfl ?_
    refine V_getf (v := .ref 121) gf_X9_7 dX9_hours_54 sh_a120 rfl ?_
    refine V_bipush (v := 8) dX9_hours_57 rfl ?_
    refine V_ildL (j := 8) dX9_hours_59 sh_a121 (by decide) (by decide) ?_
    refine V_iload_n 2 dX9_hours_60 rfl ?_
    refine V_isub dX9_hours_61 ?_
    exact V_iret dX9_hours_62 rfl h
  · have h := h.2 c1
    refine V_aload_n 0 dX9_hours_30 rfl ?_
    refine V_getf (v := .ref 121) gf_X9_7 dX9_hours_31 sh_a120 rfl ?_
    refine V_bipush (v := 6) dX9_hours_34 rfl ?_
    refine V_ildL (j := 6) dX9_hours_36 sh_a121 (by decide) (by decide) ?_
    refine V_sipush (v := 9999) dX9_hours_37 rfl ?_
    refine V_icmp_ge (tgt := 53) dX9_hours_40 rfl ⟨fun c2 => ?_, fun c2 => ?_⟩
    · have h := h.1 c2
      refine V_aload_n 0 dX9_hours_53 rfl ?_
      refine V_getf (v := .ref 121) gf_X9_7 dX9_hours_54 sh_a120 rfl ?_
      refine V_bipush (v := 8) dX9_hours_57 rfl ?_
      refine V_ildL (j := 8) dX9_hours_59 sh_a121 (by decide) (by decide) ?_
      refine V_iload_n 2 dX9_hours_60 rfl ?_
      refine V_isub dX9_hours_61 ?_
      exact V_iret dX9_hours_62 rfl h
    · have h := h.2 c2
      refine V_aload_n 0 dX9_hours_43 rfl ?_
      refine V_cVv [] mv_X9_goesOn w_547 dX9_hours_44 wf_rok_m sh_a120 rfl (by decide) rfl rfl (Nat.le_of_ble_eq_true rfl) h ?_
      intro mem3 h
      refine V_iinc (v := (x3 + 1)) (lv' := [(0, .ref 120), (1, .int x1), (2, .int x2), (3, .int (x3 + 1))]) 3 dX9_hours_47 rfl rfl (by decide) rfl rfl ?_
      refine V_goto (tgt := 25) dX9_hours_50 rfl ?_
      exact h
set_option maxRecDepth 20000 in
theorem b_X9_night_0 {d : Nat} {P : Int32 → wf_Mem → Prop} (mem : wf_Mem) (x1 : Int32)
    (h : ((x1 = 0 → P (mem 121 8) mem) ∧ (¬ x1 = 0 → ((x1 = 1 → P (mem 121 7) mem) ∧ (¬ x1 = 1 → ((x1 = 2 → P (mem 121 9) mem) ∧ (¬ x1 = 2 → ((x1 = 3 → (Ci mX9_comeTo d [.ref 120] mem (fun r6 mem5 => (Ci mX9_orNone d [.int r6] mem5 (fun r8 mem7 => P r8 mem7))))) ∧ (¬ x1 = 3 → P (-1000000001) mem))))))))) :
    Vw (Ni (d + 1) P) mX9_night 0 [(0, .ref 120), (1, .int x1)] [] mem := by
  refine V_iload_n 1 dX9_night_0 rfl ?_
  refine V_tswc [(0, 32), (1, 40), (2, 48), (3, 56)] 64 dX9_night_1 (by decide +kernel) ?_
  refine And.intro (fun c1 => ?_) (fun c1 => ?_)
  · have h := h.1 c1
    show Vw _ _ 32 _ _ _
    refine V_aload_n 0 dX9_night_32 rfl ?_
    refine V_getf (v := .ref 121) gf_X9_7 dX9_night_33 sh_a120 rfl ?_
    refine V_bipush (v := 8) dX9_night_36 rfl ?_
    refine V_ildL (j := 8) dX9_night_38 sh_a121 (by decide) (by decide) ?_
    exact V_iret dX9_night_39 rfl h
  · have h := h.2 c1
    refine And.intro (fun c2 => ?_) (fun c2 => ?_)
    · have h := h.1 c2
      show Vw _ _ 40 _ _ _
      refine V_aload_n 0 dX9_night_40 rfl ?_
      refine V_getf (v := .ref 121) gf_X9_7 dX9_night_41 sh_a120 rfl ?_
      refine V_bipush (v := 7) dX9_night_44 rfl ?_
      refine V_ildL (j := 7) dX9_night_46 sh_a121 (by decide) (by decide) ?_
      exact V_iret dX9_night_47 rfl h
    · have h := h.2 c2
      refine And.intro (fun c3 => ?_) (fun c3 => ?_)
      · have h := h.1 c3
        show Vw _ _ 48 _ _ _
        refine V_aload_n 0 dX9_night_48 rfl ?_
        refine V_getf (v := .ref 121) gf_X9_7 dX9_night_49 sh_a120 rfl ?_
        refine V_bipush (v := 9) dX9_night_52 rfl ?_
        refine V_ildL (j := 9) dX9_night_54 sh_a121 (by decide) (by decide) ?_
        exact V_iret dX9_night_55 rfl h
      · have h := h.2 c3
        refine And.intro (fun c4 => ?_) (fun c4 => ?_)
        · have h := h.1 c4
          show Vw _ _ 56 _ _ _
          refine V_aload_n 0 dX9_night_56 rfl ?_
          refine V_cVi [] mv_X9_comeTo w_529 dX9_night_57 wf_rok_m sh_a120 rfl (by decide) rfl rfl (Nat.le_of_ble_eq_true rfl) h ?_
          intro r6 mem5 h
          refine V_cSi [.int r6] ms_X9_orNone w_550 dX9_night_60 wf_rok_m rfl rfl (Nat.le_of_ble_eq_true rfl) h ?_
          intro r8 mem7 h
          exact V_iret dX9_night_63 rfl h
        · have h := h.2 c4
          show Vw _ _ 64 _ _ _
          refine V_ldc w_442 dX9_night_64 ?_
          exact V_iret dX9_night_66 rfl h
set_option maxRecDepth 20000 in
theorem b_X9_allFoals_0 {d : Nat} {P : Int32 → wf_Mem → Prop} (mem : wf_Mem) 
    (h : Vw (Ni (d + 1) P) mX9_allFoals 4 [(0, .ref 120), (1, .int 0), (2, .int 0)] [] mem) :
    Vw (Ni (d + 1) P) mX9_allFoals 0 [(0, .ref 120)] [] mem := by
  refine V_iconst (v := 0) dX9_allFoals_0 rfl ?_
  refine V_istore_n (lv' := [(0, .ref 120), (1, .int 0)]) dX9_allFoals_1 (by decide) rfl rfl ?_
  refine V_iconst (v := 0) dX9_allFoals_2 rfl ?_
  refine V_istore_n (lv' := [(0, .ref 120), (1, .int 0), (2, .int 0)]) dX9_allFoals_3 (by decide) rfl rfl ?_
  exact h
set_option maxRecDepth 20000 in
theorem b_X9_allFoals_4 {d : Nat} {P : Int32 → wf_Mem → Prop} (mem : wf_Mem) (x1 : Int32) (x2 : Int32)
    (h : (((mem 121 0) ≤ x2 → P x1 mem) ∧ (¬ (mem 121 0) ≤ x2 → (Ci mX9_wagonsOwn d [.ref 120, .int x2, .int 0] mem (fun r3 mem2 => (∀ x1_4 : Int32, x1_4 = (x1 + r3) → Vw (Ni (d + 1) P) mX9_allFoals 4 [(0, .ref 120), (1, .int x1_4), (2, .int (x2 + 1))] [] mem2)))))) :
    Vw (Ni (d + 1) P) mX9_allFoals 4 [(0, .ref 120), (1, .int x1), (2, .int x2)] [] mem := by
  refine V_iload_n 2 dX9_allFoals_4 rfl ?_
  refine V_aload_n 0 dX9_allFoals_5 rfl ?_
  refine V_getf (v := .ref 121) gf_X9_7 dX9_allFoals_6 sh_a120 rfl ?_
  refine V_iconst (v := 0) dX9_allFoals_9 rfl ?_
  refine V_ildL (j := 0) dX9_allFoals_10 sh_a121 (by decide) (by decide) ?_
  refine V_icmp_ge (tgt := 29) dX9_allFoals_11 rfl ⟨fun c1 => ?_, fun c1 => ?_⟩
  · have h := h.1 c1
    refine V_iload_n 1 dX9_allFoals_29 rfl ?_
    exact V_iret dX9_allFoals_30 rfl h
  · have h := h.2 c1
    refine V_iload_n 1 dX9_allFoals_14 rfl ?_
    refine V_aload_n 0 dX9_allFoals_15 rfl ?_
    refine V_iload_n 2 dX9_allFoals_16 rfl ?_
    refine V_iconst (v := 0) dX9_allFoals_17 rfl ?_
    refine V_cVi [.int x2, .int 0] mv_X9_wagonsOwn w_446 dX9_allFoals_18 wf_rok_m sh_a120 rfl (by decide) rfl rfl (Nat.le_of_ble_eq_true rfl) h ?_
    intro r3 mem2 h
    refine V_iadd dX9_allFoals_21 ?_
    refine V_topi (fun x1_4 ex1_4 => ?_)
    have h := h x1_4 ex1_4
    refine V_istore_n (lv' := [(0, .ref 120), (1, .int x1_4), (2, .int x2)]) dX9_allFoals_22 (by decide) rfl rfl ?_
    refine V_iinc (v := (x2 + 1)) (lv' := [(0, .ref 120), (1, .int x1_4), (2, .int (x2 + 1))]) 2 dX9_allFoals_23 rfl rfl (by decide) rfl rfl ?_
    refine V_goto (tgt := 4) dX9_allFoals_26 rfl ?_
    exact h
set_option maxRecDepth 20000 in
theorem b_X9_laysBy_0 {d : Nat} {P : wf_Mem → Prop} (mem : wf_Mem) 
    (h : Vw (Nv d P) mX9_laysBy 2 [(0, .ref 120), (1, .int 0)] [] mem) :
    Vw (Nv d P) mX9_laysBy 0 [(0, .ref 120)] [] mem := by
  refine V_iconst (v := 0) dX9_laysBy_0 rfl ?_
  refine V_istore_n (lv' := [(0, .ref 120), (1, .int 0)]) dX9_laysBy_1 (by decide) rfl rfl ?_
  exact h
set_option maxRecDepth 20000 in
theorem b_X9_laysBy_2 {d : Nat} {P : wf_Mem → Prop} (mem : wf_Mem) (x1 : Int32)
    (h : ((88 ≤ x1 → P mem) ∧ (¬ 88 ≤ x1 → (vp_in x1 3088 ∧ (vp_in x1 88 ∧ ∀ mem2 : wf_Mem, mem2 = wf_ms mem 132 x1.toNatClampNeg (mem 121 x1.toNatClampNeg) → Vw (Nv d P) mX9_laysBy 2 [(0, .ref 120), (1, .int (x1 + 1))] [] mem2))))) :
    Vw (Nv d P) mX9_laysBy 2 [(0, .ref 120), (1, .int x1)] [] mem := by
  refine V_iload_n 1 dX9_laysBy_2 rfl ?_
  refine V_bipush (v := 88) dX9_laysBy_3 rfl ?_
  refine V_icmp_ge (tgt := 26) dX9_laysBy_5 rfl ⟨fun c1 => ?_, fun c1 => ?_⟩
  · have h := h.1 c1
    exact V_vret dX9_laysBy_26 rfl h
  · have h := h.2 c1
    refine V_aload_n 0 dX9_laysBy_8 rfl ?_
    refine V_getf (v := .ref 132) gf_X9_43 dX9_laysBy_9 sh_a120 rfl ?_
    refine V_iload_n 1 dX9_laysBy_12 rfl ?_
    refine V_aload_n 0 dX9_laysBy_13 rfl ?_
    refine V_getf (v := .ref 121) gf_X9_7 dX9_laysBy_14 sh_a120 rfl ?_
    refine V_iload_n 1 dX9_laysBy_17 rfl ?_
    refine V_iald dX9_laysBy_18 sh_a121 ⟨h.1, ?_⟩
    have h := h.2
    refine V_iast dX9_laysBy_19 sh_a132 ⟨h.1, ?_⟩
    refine V_topm (fun mem2 emem2 => ?_)
    have h := h.2 mem2 emem2
    refine V_iinc (v := (x1 + 1)) (lv' := [(0, .ref 120), (1, .int (x1 + 1))]) 1 dX9_laysBy_20 rfl rfl (by decide) rfl rfl ?_
    refine V_goto (tgt := 2) dX9_laysBy_23 rfl ?_
    exact h
set_option maxRecDepth 20000 in
theorem b_X9_laysBack_0 {d : Nat} {P : wf_Mem → Prop} (mem : wf_Mem) 
    (h : Vw (Nv d P) mX9_laysBack 2 [(0, .ref 120), (1, .int 0)] [] mem) :
    Vw (Nv d P) mX9_laysBack 0 [(0, .ref 120)] [] mem := by
  refine V_iconst (v := 0) dX9_laysBack_0 rfl ?_
  refine V_istore_n (lv' := [(0, .ref 120), (1, .int 0)]) dX9_laysBack_1 (by decide) rfl rfl ?_
  exact h
set_option maxRecDepth 20000 in
theorem b_X9_laysBack_2 {d : Nat} {P : wf_Mem → Prop} (mem : wf_Mem) (x1 : Int32)
    (h : ((88 ≤ x1 → P mem) ∧ (¬ 88 ≤ x1 → (vp_in x1 88 ∧ (vp_in x1 3088 ∧ ∀ mem2 : wf_Mem, mem2 = wf_ms mem 121 x1.toNatClampNeg (mem 132 x1.toNatClampNeg) → Vw (Nv d P) mX9_laysBack 2 [(0, .ref 120), (1, .int (x1 + 1))] [] mem2))))) :
    Vw (Nv d P) mX9_laysBack 2 [(0, .ref 120), (1, .int x1)] [] mem := by
  refine V_iload_n 1 dX9_laysBack_2 rfl ?_
  refine V_bipush (v := 88) dX9_laysBack_3 rfl ?_
  refine V_icmp_ge (tgt := 26) dX9_laysBack_5 rfl ⟨fun c1 => ?_, fun c1 => ?_⟩
  · have h := h.1 c1
    exact V_vret dX9_laysBack_26 rfl h
  · have h := h.2 c1
    refine V_aload_n 0 dX9_laysBack_8 rfl ?_
    refine V_getf (v := .ref 121) gf_X9_7 dX9_laysBack_9 sh_a120 rfl ?_
    refine V_iload_n 1 dX9_laysBack_12 rfl ?_
    refine V_aload_n 0 dX9_laysBack_13 rfl ?_
    refine V_getf (v := .ref 132) gf_X9_43 dX9_laysBack_14 sh_a120 rfl ?_
    refine V_iload_n 1 dX9_laysBack_17 rfl ?_
    refine V_iald dX9_laysBack_18 sh_a132 ⟨h.1, ?_⟩
    have h := h.2
    refine V_iast dX9_laysBack_19 sh_a121 ⟨h.1, ?_⟩
    refine V_topm (fun mem2 emem2 => ?_)
    have h := h.2 mem2 emem2
    refine V_iinc (v := (x1 + 1)) (lv' := [(0, .ref 120), (1, .int (x1 + 1))]) 1 dX9_laysBack_20 rfl rfl (by decide) rfl rfl ?_
    refine V_goto (tgt := 2) dX9_laysBack_23 rfl ?_
    exact h
set_option maxRecDepth 20000 in
theorem b_X9_goesOnMany_0 {d : Nat} {P : wf_Mem → Prop} (mem : wf_Mem) (x1 : Int32)
    (h : Vw (Nv (d + 1) P) mX9_goesOnMany 2 [(0, .ref 120), (1, .int x1), (2, .int 0)] [] mem) :
    Vw (Nv (d + 1) P) mX9_goesOnMany 0 [(0, .ref 120), (1, .int x1)] [] mem := by
  refine V_iconst (v := 0) dX9_goesOnMany_0 rfl ?_
  refine V_istore_n (lv' := [(0, .ref 120), (1, .int x1), (2, .int 0)]) dX9_goesOnMany_1 (by decide) rfl rfl ?_
  exact h
set_option maxRecDepth 20000 in
theorem b_X9_goesOnMany_2 {d : Nat} {P : wf_Mem → Prop} (mem : wf_Mem) (x1 : Int32) (x2 : Int32)
    (h : ((x1 ≤ x2 → P mem) ∧ (¬ x1 ≤ x2 → (Cv mX9_goesOn d [.ref 120] mem (fun mem2 => Vw (Nv (d + 1) P) mX9_goesOnMany 2 [(0, .ref 120), (1, .int x1), (2, .int (x2 + 1))] [] mem2))))) :
    Vw (Nv (d + 1) P) mX9_goesOnMany 2 [(0, .ref 120), (1, .int x1), (2, .int x2)] [] mem := by
  refine V_iload_n 2 dX9_goesOnMany_2 rfl ?_
  refine V_iload_n 1 dX9_goesOnMany_3 rfl ?_
  refine V_icmp_ge (tgt := 17) dX9_goesOnMany_4 rfl ⟨fun c1 => ?_, fun c1 => ?_⟩
  · have h := h.1 c1
    exact V_vret dX9_goesOnMany_17 rfl h
  · have h := h.2 c1
    refine V_aload_n 0 dX9_goesOnMany_7 rfl ?_
    refine V_cVv [] mv_X9_goesOn w_547 dX9_goesOnMany_8 wf_rok_m sh_a120 rfl (by decide) rfl rfl (Nat.le_of_ble_eq_true rfl) h ?_
    intro mem2 h
    refine V_iinc (v := (x2 + 1)) (lv' := [(0, .ref 120), (1, .int x1), (2, .int (x2 + 1))]) 2 dX9_goesOnMany_11 rfl rfl (by decide) rfl rfl ?_
    refine V_goto (tgt := 2) dX9_goesOnMany_14 rfl ?_
    exact h
set_option maxRecDepth 20000 in
theorem b_X9_behind_0 {d : Nat} {P : Int32 → wf_Mem → Prop} (mem : wf_Mem) (x1 : Int32) (x2 : Int32)
    (h : (Ci mX9_isIn d [.long (x1 : Int32).toInt64, .long 0, .long 300] mem (fun r2 mem1 => ((r2 = 0 → P (-1000000001) mem1) ∧ (¬ r2 = 0 → (Ci mX9_isIn d [.long (x2 : Int32).toInt64, .long 0, .long 3] mem1 (fun r5 mem4 => ((¬ r5 = 0 → (Cv mX9_laysBy d [.ref 120] mem4 (fun mem7 => (Cv mX9_goesOnMany d [.ref 120, .int x1] mem7 (fun mem8 => ((¬ x2 = 0 → ((¬ x2 = 1 → ((¬ x2 = 2 → (Ci mX9_allFoals d [.ref 120] mem8 (fun r13 mem12 => (Cv mX9_laysBack d [.ref 120] mem12 (fun mem14 => P r13 mem14))))) ∧ (x2 = 2 → (∀ x3_15 : Int32, x3_15 = (mem8 121 5) → (Cv mX9_laysBack d [.ref 120] mem8 (fun mem16 => P x3_15 mem16)))))) ∧ (x2 = 1 → (∀ x3_17 : Int32, x3_17 = (mem8 121 3) → (Cv mX9_laysBack d [.ref 120] mem8 (fun mem18 => P x3_17 mem18)))))) ∧ (x2 = 0 → (∀ x3_19 : Int32, x3_19 = (mem8 121 8) → (Cv mX9_laysBack d [.ref 120] mem8 (fun mem20 => P x3_19 mem20)))))))))) ∧ (r5 = 0 → P (-1000000001) mem4))))))))) :
    Vw (Ni (d + 1) P) mX9_behind 0 [(0, .ref 120), (1, .int x1), (2, .int x2)] [] mem := by
  refine V_iload_n 1 dX9_behind_0 rfl ?_
  refine V_i2l dX9_behind_1 ?_
  refine V_lconst (v := 0) dX9_behind_2 rfl ?_
  refine V_ldc2 w_543 dX9_behind_3 ?_
  refine V_cSi [.long (x1 : Int32).toInt64, .long 0, .long 300] ms_X9_isIn w_438 dX9_behind_6 wf_rok_m rfl rfl (Nat.le_of_ble_eq_true rfl) h ?_
  intro r2 mem1 h
  refine V_if_eq (tgt := 24) dX9_behind_9 rfl ⟨fun c3 => ?_, fun c3 => ?_⟩
  · have h := h.1 c3
    refine V_ldc w_442 dX9_behind_24 ?_
    exact V_iret dX9_behind_26 rfl h
  · have h := h.2 c3
    refine V_iload_n 2 dX9_behind_12 rfl ?_
    refine V_i2l dX9_behind_13 ?_
    refine V_lconst (v := 0) dX9_behind_14 rfl ?_
    refine V_ldc2 w_552 dX9_behind_15 ?_
    refine V_cSi [.long (x2 : Int32).toInt64, .long 0, .long 3] ms_X9_isIn w_438 dX9_behind_18 wf_rok_m rfl rfl (Nat.le_of_ble_eq_true rfl) h ?_
    intro r5 mem4 h
    refine V_if_ne (tgt := 27) dX9_behind_21 rfl ⟨fun c6 => ?_, fun c6 => ?_⟩
    · have h := h.1 c6
      refine V_aload_n 0 dX9_behind_27 rfl ?_
      refine V_cVv [] mv_X9_laysBy w_556 dX9_behind_28 wf_rok_m sh_a120 rfl (by decide) rfl rfl (Nat.le_of_ble_eq_true rfl) h ?_
      intro mem7 h
      refine V_aload_n 0 dX9_behind_31 rfl ?_
      refine V_iload_n 1 dX9_behind_32 rfl ?_
      refine V_cVv [.int x1] mv_X9_goesOnMany w_560 dX9_behind_33 wf_rok_m sh_a120 rfl (by decide) rfl rfl (Nat.le_of_ble_eq_true rfl) h ?_
      intro mem8 h
      refine V_iload_n 2 dX9_behind_36 rfl ?_
      refine V_if_ne (tgt := 50) dX9_behind_37 rfl ⟨fun c9 => ?_, fun c9 => ?_⟩
      · have h := h.1 c9
        refine V_iload_n 2 dX9_behind_50 rfl ?_
        refine V_iconst (v := 1) dX9_behind_51 rfl ?_
        refine V_icmp_ne (tgt := 64) dX9_behind_52 rfl ⟨fun c10 => ?_, fun c10 => ?_⟩
        · have h := h.1 c10
          refine V_iload_n 2 dX9_behind_64 rfl ?_
          refine V_iconst (v := 2) dX9_behind_65 rfl ?_
          refine V_icmp_ne (tgt := 78) dX9_behind_66 rfl ⟨fun c11 => ?_, fun c11 => ?_⟩
          · have h := h.1 c11
            refine V_aload_n 0 dX9_behind_78 rfl ?_
            refine V_cVi [] mv_X9_allFoals w_564 dX9_behind_79 wf_rok_m sh_a120 rfl (by decide) rfl rfl (Nat.le_of_ble_eq_true rfl) h ?_
            intro r13 mem12 h
            refine V_istore_n (lv' := [(0, .ref 120), (1, .int x1), (2, .int x2), (3, .int r13)]) dX9_behind_82 (by decide) rfl rfl ?_
            refine V_aload_n 0 dX9_behind_83 rfl ?_
            refine V_cVv [] mv_X9_laysBack w_568 dX9_behind_84 wf_rok_m sh_a120 rfl (by decide) rfl rfl (Nat.le_of_ble_eq_true rfl) h ?_
            intro mem14 h
            refine V_iload_n 3 dX9_behind_87 rfl ?_
            exact V_iret dX9_behind_88 rfl h
          · have h := h.2 c11
            refine V_aload_n 0 dX9_behind_69 rfl ?_
            refine V_getf (v := .ref 121) gf_X9_7 dX9_behind_70 sh_a120 rfl ?_
            refine V_iconst (v := 5) dX9_behind_73 rfl ?_
            refine V_ildL (j := 5) dX9_behind_74 sh_a121 (by decide) (by decide) ?_
            refine V_goto (tgt := 82) dX9_behind_75 rfl ?_
            refine V_topi (fun x3_15 ex3_15 => ?_)
            have h := h x3_15 ex3_15
            refine V_istore_n (lv' := [(0, .ref 120), (1, .int x1), (2, .int x2), (3, .int x3_15)]) dX9_behind_82 (by decide) rfl rfl ?_
            refine V_aload_n 0 dX9_behind_83 rfl ?_
            refine V_cVv [] mv_X9_laysBack w_568 dX9_behind_84 wf_rok_m sh_a120 rfl (by decide) rfl rfl (Nat.le_of_ble_eq_true rfl) h ?_
            intro mem16 h
            refine V_iload_n 3 dX9_behind_87 rfl ?_
            exact V_iret dX9_behind_88 rfl h
        · have h := h.2 c10
          refine V_aload_n 0 dX9_behind_55 rfl ?_
          refine V_getf (v := .ref 121) gf_X9_7 dX9_behind_56 sh_a120 rfl ?_
          refine V_iconst (v := 3) dX9_behind_59 rfl ?_
          refine V_ildL (j := 3) dX9_behind_60 sh_a121 (by decide) (by decide) ?_
          refine V_goto (tgt := 82) dX9_behind_61 rfl ?_
          refine V_topi (fun x3_17 ex3_17 => ?_)
          have h := h x3_17 ex3_17
          refine V_istore_n (lv' := [(0, .ref 120), (1, .int x1), (2, .int x2), (3, .int x3_17)]) dX9_behind_82 (by decide) rfl rfl ?_
          refine V_aload_n 0 dX9_behind_83 rfl ?_
          refine V_cVv [] mv_X9_laysBack w_568 dX9_behind_84 wf_rok_m sh_a120 rfl (by decide) rfl rfl (Nat.le_of_ble_eq_true rfl) h ?_
          intro mem18 h
          refine V_iload_n 3 dX9_behind_87 rfl ?_
          exact V_iret dX9_behind_88 rfl h
      · have h := h.2 c9
        refine V_aload_n 0 dX9_behind_40 rfl ?_
        refine V_getf (v := .ref 121) gf_X9_7 dX9_behind_41 sh_a120 rfl ?_
        refine V_bipush (v := 8) dX9_behind_44 rfl ?_
        refine V_ildL (j := 8) dX9_behind_46 sh_a121 (by decide) (by decide) ?_
        refine V_goto (tgt := 82) dX9_behind_47 rfl ?_
        refine V_topi (fun x3_19 ex3_19 => ?_)
        have h := h x3_19 ex3_19
        refine V_istore_n (lv' := [(0, .ref 120), (1, .int x1), (2, .int x2), (3, .int x3_19)]) dX9_behind_82 (by decide) rfl rfl ?_
        refine V_aload_n 0 dX9_behind_83 rfl ?_
        refine V_cVv [] mv_X9_laysBack w_568 dX9_behind_84 wf_rok_m sh_a120 rfl (by decide) rfl rfl (Nat.le_of_ble_eq_true rfl) h ?_
        intro mem20 h
        refine V_iload_n 3 dX9_behind_87 rfl ?_
        exact V_iret dX9_behind_88 rfl h
    · have h := h.2 c6
      refine V_ldc w_442 dX9_behind_24 ?_
      exact V_iret dX9_behind_26 rfl h
set_option maxRecDepth 20000 in
theorem b_X9_lasts_0 {d : Nat} {P : Int32 → wf_Mem → Prop} (mem : wf_Mem) 
    (h : (Cv mX9_laysBy d [.ref 120] mem (fun mem1 => Vw (Ni (d + 1) P) mX9_lasts 8 [(0, .ref 120), (1, .int (-1)), (2, .int 1)] [] mem1))) :
    Vw (Ni (d + 1) P) mX9_lasts 0 [(0, .ref 120)] [] mem := by
  refine V_aload_n 0 dX9_lasts_0 rfl ?_
  refine V_cVv [] mv_X9_laysBy w_556 dX9_lasts_1 wf_rok_m sh_a120 rfl (by decide) rfl rfl (Nat.le_of_ble_eq_true rfl) h ?_
  intro mem1 h
  refine V_iconst (v := (-1)) dX9_lasts_4 rfl ?_
  refine V_istore_n (lv' := [(0, .ref 120), (1, .int (-1))]) dX9_lasts_5 (by decide) rfl rfl ?_
  refine V_iconst (v := 1) dX9_lasts_6 rfl ?_
  refine V_istore_n (lv' := [(0, .ref 120), (1, .int (-1)), (2, .int 1)]) dX9_lasts_7 (by decide) rfl rfl ?_
  exact h
set_option maxRecDepth 20000 in
theorem b_X9_lasts_8 {d : Nat} {P : Int32 → wf_Mem → Prop} (mem : wf_Mem) (x1 : Int32) (x2 : Int32)
    (h : ((300 < x2 → (Cv mX9_laysBack d [.ref 120] mem (fun mem2 => (Ci mX9_orNone d [.int x1] mem2 (fun r4 mem3 => P r4 mem3))))) ∧ (¬ 300 < x2 → ((0 ≤ x1 → (Cv mX9_laysBack d [.ref 120] mem (fun mem6 => (Ci mX9_orNone d [.int x1] mem6 (fun r8 mem7 => P r8 mem7))))) ∧ (¬ 0 ≤ x1 → (Cv mX9_goesOn d [.ref 120] mem (fun mem9 => (((mem9 120 12) = 0 → Vw (Ni (d + 1) P) mX9_lasts 8 [(0, .ref 120), (1, .int (-1)), (2, .int (x2 + 1))] [] mem9) ∧ (¬ (mem9 120 12) = 0 → Vw (Ni (d + 1) P) mX9_lasts 8 [(0, .ref 120), (1, .int x2), (2, .int (x2 + 1))] [] mem9))))))))) :
    Vw (Ni (d + 1) P) mX9_lasts 8 [(0, .ref 120), (1, .int x1), (2, .int x2)] [] mem := by
  refine V_iload_n 2 dX9_lasts_8 rfl ?_
  refine V_sipush (v := 300) dX9_lasts_9 rfl ?_
  refine V_icmp_gt (tgt := 42) dX9_lasts_12 rfl ⟨fun c1 => ?_, fun c1 => ?_⟩
  · have h := h.1 c1
    refine V_aload_n 0 dX9_lasts_42 rfl ?_
    refine V_cVv [] mv_X9_laysBack w_568 dX9_lasts_43 wf_rok_m sh_a120 rfl (by decide) rfl rfl (Nat.le_of_ble_eq_true rfl) h ?_
    intro mem2 h
    refine V_iload_n 1 dX9_lasts_46 rfl ?_
    refine V_cSi [.int x1] ms_X9_orNone w_550 dX9_lasts_47 wf_rok_m rfl rfl (Nat.le_of_ble_eq_true rfl) h ?_
    intro r4 mem3 h
    exact V_iret dX9_lasts_50 rfl h
  · have h := h.2 c1
    refine V_iload_n 1 dX9_lasts_15 rfl ?_
    refine V_if_ge (tgt := 42) dX9_lasts_16 rfl ⟨fun c5 => ?_, fun c5 => ?_⟩
    · have h := h.1 c5
      refine V_aload_n 0 dX9_lasts_42 rfl ?_
      refine V_cVv [] mv_X9_laysBack w_568 dX9_lasts_43 wf_rok_m sh_a120 rfl (by decide) rfl rfl (Nat.le_of_ble_eq_true rfl) h ?_
      intro mem6 h
      refine V_iload_n 1 dX9_lasts_46 rfl ?_
      refine V_cSi [.int x1] ms_X9_orNone w_550 dX9_lasts_47 wf_rok_m rfl rfl (Nat.le_of_ble_eq_true rfl) h ?_
      intro r8 mem7 h
      exact V_iret dX9_lasts_50 rfl h
    · have h := h.2 c5
      refine V_aload_n 0 dX9_lasts_19 rfl ?_
      refine V_cVv [] mv_X9_goesOn w_547 dX9_lasts_20 wf_rok_m sh_a120 rfl (by decide) rfl rfl (Nat.le_of_ble_eq_true rfl) h ?_
      intro mem9 h
      refine V_aload_n 0 dX9_lasts_23 rfl ?_
      refine V_getf (v := .int (mem9 120 12)) gf_X9_154 dX9_lasts_24 sh_a120 rfl ?_
      refine V_if_eq (tgt := 34) dX9_lasts_27 rfl ⟨fun c10 => ?_, fun c10 => ?_⟩
      · have h := h.1 c10
        refine V_iconst (v := (-1)) dX9_lasts_34 rfl ?_
        refine V_istore_n (lv' := [(0, .ref 120), (1, .int (-1)), (2, .int x2)]) dX9_lasts_35 (by decide) rfl rfl ?_
        refine V_iinc (v := (x2 + 1)) (lv' := [(0, .ref 120), (1, .int (-1)), (2, .int (x2 + 1))]) 2 dX9_lasts_36 rfl rfl (by decide) rfl rfl ?_
        refine V_goto (tgt := 8) dX9_lasts_39 rfl ?_
        exact h
      · have h := h.2 c10
        refine V_iload_n 2 dX9_lasts_30 rfl ?_
        refine V_goto (tgt := 35) dX9_lasts_31 rfl ?_
        refine V_istore_n (lv' := [(0, .ref 120), (1, .int x2), (2, .int x2)]) dX9_lasts_35 (by decide) rfl rfl ?_
        refine V_iinc (v := (x2 + 1)) (lv' := [(0, .ref 120), (1, .int x2), (2, .int (x2 + 1))]) 2 dX9_lasts_36 rfl rfl (by decide) rfl rfl ?_
        refine V_goto (tgt := 8) dX9_lasts_39 rfl ?_
        exact h
set_option maxRecDepth 20000 in
theorem b_X9_loss_0 {d : Nat} {P : Int32 → wf_Mem → Prop} (mem : wf_Mem) 
    (h : (Cv mX9_laysBy d [.ref 120] mem (fun mem1 => Vw (Ni (d + 1) P) mX9_loss 8 [(0, .ref 120), (1, .int (-1)), (2, .int 1)] [] mem1))) :
    Vw (Ni (d + 1) P) mX9_loss 0 [(0, .ref 120)] [] mem := by
  refine V_aload_n 0 dX9_loss_0 rfl ?_
  refine V_cVv [] mv_X9_laysBy w_556 dX9_loss_1 wf_rok_m sh_a120 rfl (by decide) rfl rfl (Nat.le_of_ble_eq_true rfl) h ?_
  intro mem1 h
  refine V_iconst (v := (-1)) dX9_loss_4 rfl ?_
  refine V_istore_n (lv' := [(0, .ref 120), (1, .int (-1))]) dX9_loss_5 (by decide) rfl rfl ?_
  refine V_iconst (v := 1) dX9_loss_6 rfl ?_
  refine V_istore_n (lv' := [(0, .ref 120), (1, .int (-1)), (2, .int 1)]) dX9_loss_7 (by decide) rfl rfl ?_
  exact h
set_option maxRecDepth 20000 in
theorem b_X9_loss_8 {d : Nat} {P : Int32 → wf_Mem → Prop} (mem : wf_Mem) (x1 : Int32) (x2 : Int32)
    (h : ((300 < x2 → (Cv mX9_laysBack d [.ref 120] mem (fun mem2 => (Ci mX9_orNone d [.int x1] mem2 (fun r4 mem3 => P r4 mem3))))) ∧ (¬ 300 < x2 → ((0 ≤ x1 → (Cv mX9_laysBack d [.ref 120] mem (fun mem6 => (Ci mX9_orNone d [.int x1] mem6 (fun r8 mem7 => P r8 mem7))))) ∧ (¬ 0 ≤ x1 → (Cv mX9_goesOn d [.ref 120] mem (fun mem9 => (((mem9 121 8) ≤ (mem9 132 8) → Vw (Ni (d + 1) P) mX9_loss 8 [(0, .ref 120), (1, .int (-1)), (2, .int (x2 + 1))] [] mem9) ∧ (¬ (mem9 121 8) ≤ (mem9 132 8) → Vw (Ni (d + 1) P) mX9_loss 8 [(0, .ref 120), (1, .int x2), (2, .int (x2 + 1))] [] mem9))))))))) :
    Vw (Ni (d + 1) P) mX9_loss 8 [(0, .ref 120), (1, .int x1), (2, .int x2)] [] mem := by
  refine V_iload_n 2 dX9_loss_8 rfl ?_
  refine V_sipush (v := 300) dX9_loss_9 rfl ?_
  refine V_icmp_gt (tgt := 52) dX9_loss_12 rfl ⟨fun c1 => ?_, fun c1 => ?_⟩
  · have h := h.1 c1
    refine V_aload_n 0 dX9_loss_52 rfl ?_
    refine V_cVv [] mv_X9_laysBack w_568 dX9_loss_53 wf_rok_m sh_a120 rfl (by decide) rfl rfl (Nat.le_of_ble_eq_true rfl) h ?_
    intro mem2 h
    refine V_iload_n 1 dX9_loss_56 rfl ?_
    refine V_cSi [.int x1] ms_X9_orNone w_550 dX9_loss_57 wf_rok_m rfl rfl (Nat.le_of_ble_eq_true rfl) h ?_
    intro r4 mem3 h
    exact V_iret dX9_loss_60 rfl h
  · have h := h.2 c1
    refine V_iload_n 1 dX9_loss_15 rfl ?_
    refine V_if_ge (tgt := 52) dX9_loss_16 rfl ⟨fun c5 => ?_, fun c5 => ?_⟩
    · have h := h.1 c5
      refine V_aload_n 0 dX9_loss_52 rfl ?_
      refine V_cVv [] mv_X9_laysBack w_568 dX9_loss_53 wf_rok_m sh_a120 rfl (by decide) rfl rfl (Nat.le_of_ble_eq_true rfl) h ?_
      intro mem6 h
      refine V_iload_n 1 dX9_loss_56 rfl ?_
      refine V_cSi [.int x1] ms_X9_orNone w_550 dX9_loss_57 wf_rok_m rfl rfl (Nat.le_of_ble_eq_true rfl) h ?_
      intro r8 mem7 h
      exact V_iret dX9_loss_60 rfl h
    · have h := h.2 c5
      refine V_aload_n 0 dX9_loss_19 rfl ?_
      refine V_cVv [] mv_X9_goesOn w_547 dX9_loss_20 wf_rok_m sh_a120 rfl (by decide) rfl rfl (Nat.le_of_ble_eq_true rfl) h ?_
      intro mem9 h
      refine V_aload_n 0 dX9_loss_23 rfl ?_
      refine V_getf (v := .ref 121) gf_X9_7 dX9_loss_24 sh_a120 rfl ?_
      refine V_bipush (v := 8) dX9_loss_27 rfl ?_
      refine V_ildL (j := 8) dX9_loss_29 sh_a121 (by decide) (by decide) ?_
      refine V_aload_n 0 dX9_loss_30 rfl ?_
      refine V_getf (v := .ref 132) gf_X9_43 dX9_loss_31 sh_a120 rfl ?_
      refine V_bipush (v := 8) dX9_loss_34 rfl ?_
      refine V_ildL (j := 8) dX9_loss_36 sh_a132 (by decide) (by decide) ?_
      refine V_icmp_le (tgt := 44) dX9_loss_37 rfl ⟨fun c10 => ?_, fun c10 => ?_⟩
      · have h := h.1 c10
        refine V_iconst (v := (-1)) dX9_loss_44 rfl ?_
        refine V_istore_n (lv' := [(0, .ref 120), (1, .int (-1)), (2, .int x2)]) dX9_loss_45 (by decide) rfl rfl ?_
        refine V_iinc (v := (x2 + 1)) (lv' := [(0, .ref 120), (1, .int (-1)), (2, .int (x2 + 1))]) 2 dX9_loss_46 rfl rfl (by decide) rfl rfl ?_
        refine V_goto (tgt := 8) dX9_loss_49 rfl ?_
        exact h
      · have h := h.2 c10
        refine V_iload_n 2 dX9_loss_40 rfl ?_
        refine V_goto (tgt := 45) dX9_loss_41 rfl ?_
        refine V_istore_n (lv' := [(0, .ref 120), (1, .int x2), (2, .int x2)]) dX9_loss_45 (by decide) rfl rfl ?_
        refine V_iinc (v := (x2 + 1)) (lv' := [(0, .ref 120), (1, .int x2), (2, .int (x2 + 1))]) 2 dX9_loss_46 rfl rfl (by decide) rfl rfl ?_
        refine V_goto (tgt := 8) dX9_loss_49 rfl ?_
        exact h
set_option maxRecDepth 20000 in
theorem b_X9_dark_0 {d : Nat} {P : Int32 → wf_Mem → Prop} (mem : wf_Mem) (x1 : Int32)
    (h : (Ci mX9_isIn d [.long (x1 : Int32).toInt64, .long 0, .long 100] mem (fun r2 mem1 => ((¬ r2 = 0 → Vw (Ni (d + 1) P) mX9_dark 19 [(0, .ref 120), (1, .int x1), (2, .int 0), (3, .int 0)] [] mem1) ∧ (r2 = 0 → P (-1000000001) mem1))))) :
    Vw (Ni (d + 1) P) mX9_dark 0 [(0, .ref 120), (1, .int x1)] [] mem := by
  refine V_iload_n 1 dX9_dark_0 rfl ?_
  refine V_i2l dX9_dark_1 ?_
  refine V_lconst (v := 0) dX9_dark_2 rfl ?_
  refine V_ldc2 w_569 dX9_dark_3 ?_
  refine V_cSi [.long (x1 : Int32).toInt64, .long 0, .long 100] ms_X9_isIn w_438 dX9_dark_6 wf_rok_m rfl rfl (Nat.le_of_ble_eq_true rfl) h ?_
  intro r2 mem1 h
  refine V_if_ne (tgt := 15) dX9_dark_9 rfl ⟨fun c3 => ?_, fun c3 => ?_⟩
  · have h := h.1 c3
    refine V_iconst (v := 0) dX9_dark_15 rfl ?_
    refine V_istore_n (lv' := [(0, .ref 120), (1, .int x1), (2, .int 0)]) dX9_dark_16 (by decide) rfl rfl ?_
    refine V_iconst (v := 0) dX9_dark_17 rfl ?_
    refine V_istore_n (lv' := [(0, .ref 120), (1, .int x1), (2, .int 0), (3, .int 0)]) dX9_dark_18 (by decide) rfl rfl ?_
    exact h
  · have h := h.2 c3
    refine V_ldc w_442 dX9_dark_12 ?_
    exact V_iret dX9_dark_14 rfl h
set_option maxRecDepth 20000 in
theorem b_X9_dark_19 {d : Nat} {P : Int32 → wf_Mem → Prop} (mem : wf_Mem) (x1 : Int32) (x2 : Int32) (x3 : Int32)
    (h : (((mem 121 0) ≤ x3 → P x2 mem) ∧ (¬ (mem 121 0) ≤ x3 → (Ci mX9_light d [.ref 120, .int x3] mem (fun r3 mem2 => ((x1 ≤ r3 → (∀ x2_5 : Int32, x2_5 = (x2 ||| 0) → Vw (Ni (d + 1) P) mX9_dark 19 [(0, .ref 120), (1, .int x1), (2, .int x2_5), (3, .int (x3 + 1))] [] mem2)) ∧ (¬ x1 ≤ r3 → (∀ x2_6 : Int32, x2_6 = (x2 ||| ((1 : Int32) <<< (x3 &&& 31))) → Vw (Ni (d + 1) P) mX9_dark 19 [(0, .ref 120), (1, .int x1), (2, .int x2_6), (3, .int (x3 + 1))] [] mem2)))))))) :
    Vw (Ni (d + 1) P) mX9_dark 19 [(0, .ref 120), (1, .int x1), (2, .int x2), (3, .int x3)] [] mem := by
  refine V_iload_n 3 dX9_dark_19 rfl ?_
  refine V_aload_n 0 dX9_dark_20 rfl ?_
  refine V_getf (v := .ref 121) gf_X9_7 dX9_dark_21 sh_a120 rfl ?_
  refine V_iconst (v := 0) dX9_dark_24 rfl ?_
  refine V_ildL (j := 0) dX9_dark_25 sh_a121 (by decide) (by decide) ?_
  refine V_icmp_ge (tgt := 54) dX9_dark_26 rfl ⟨fun c1 => ?_, fun c1 => ?_⟩
  · have h := h.1 c1
    refine V_iload_n 2 dX9_dark_54 rfl ?_
    exact V_iret dX9_dark_55 rfl h
  · have h := h.2 c1
    refine V_iload_n 2 dX9_dark_29 rfl ?_
    refine V_aload_n 0 dX9_dark_30 rfl ?_
    refine V_iload_n 3 dX9_dark_31 rfl ?_
    refine V_cVi [.int x3] mv_X9_light w_474 dX9_dark_32 wf_rok_m sh_a120 rfl (by decide) rfl rfl (Nat.le_of_ble_eq_true rfl) h ?_
    intro r3 mem2 h
    refine V_iload_n 1 dX9_dark_35 rfl ?_
    refine V_icmp_ge (tgt := 45) dX9_dark_36 rfl ⟨fun c4 => ?_, fun c4 => ?_⟩
    · have h := h.1 c4
      refine V_iconst (v := 0) dX9_dark_45 rfl ?_
      refine V_ior dX9_dark_46 ?_
      refine V_topi (fun x2_5 ex2_5 => ?_)
      have h := h x2_5 ex2_5
      refine V_istore_n (lv' := [(0, .ref 120), (1, .int x1), (2, .int x2_5), (3, .int x3)]) dX9_dark_47 (by decide) rfl rfl ?_
      refine V_iinc (v := (x3 + 1)) (lv' := [(0, .ref 120), (1, .int x1), (2, .int x2_5), (3, .int (x3 + 1))]) 3 dX9_dark_48 rfl rfl (by decide) rfl rfl ?_
      refine V_goto (tgt := 19) dX9_dark_51 rfl ?_
      exact h
    · have h := h.2 c4
      refine V_iconst (v := 1) dX9_dark_39 rfl ?_
      refine V_iload_n 3 dX9_dark_40 rfl ?_
      refine V_ishl dX9_dark_41 ?_
      refine V_goto (tgt := 46) dX9_dark_42 rfl ?_
      refine V_ior dX9_dark_46 ?_
      refine V_topi (fun x2_6 ex2_6 => ?_)
      have h := h x2_6 ex2_6
      refine V_istore_n (lv' := [(0, .ref 120), (1, .int x1), (2, .int x2_6), (3, .int x3)]) dX9_dark_47 (by decide) rfl rfl ?_
      refine V_iinc (v := (x3 + 1)) (lv' := [(0, .ref 120), (1, .int x1), (2, .int x2_6), (3, .int (x3 + 1))]) 3 dX9_dark_48 rfl rfl (by decide) rfl rfl ?_
      refine V_goto (tgt := 19) dX9_dark_51 rfl ?_
      exact h
