set_option maxRecDepth 20000 in
theorem b_J0_length_8abf5_0 {d : Nat} {P : Int32 → wf_Mem → Prop} (mem : wf_Mem) (x0 : Nat) (hx0 : x0 < 6)
    (h : (Ci mJ0_coder_7d493 d [.ref (100000 + 2 * x0)] mem (fun r2 mem1 => P ((Int32.ofNat (wf_sLen.getD x0 0)) >>> (r2 &&& 31)) mem1))) :
    Vw (Ni (d + 1) P) mJ0_length_8abf5 0 [(0, .ref (100000 + 2 * x0))] [] mem := by
  refine V_aload_n 0 dJ0_length_8abf5_0 rfl ?_
  refine V_sval hx0 w_709 dJ0_length_8abf5_1 ?_
  refine V_slen hx0 dJ0_length_8abf5_4 rfl ?_
  refine V_aload_n 0 dJ0_length_8abf5_5 rfl ?_
  refine V_cXi [] hx0 rfl mv_J0_coder_7d493 w_713 dJ0_length_8abf5_6 wf_rok_m rfl rfl (Nat.le_of_ble_eq_true rfl) h ?_
  intro r2 mem1 h
  refine V_ishr dJ0_length_8abf5_9 ?_
  exact V_iret dJ0_length_8abf5_10 rfl h
set_option maxRecDepth 20000 in
theorem b_J0_charAt_5068e_0 {d : Nat} {P : Int32 → wf_Mem → Prop} (mem : wf_Mem) (x0 : Nat) (hx0 : x0 < 6) (x1 : Int32)
    (h : (Ci mJ0_isLatin1_aae02 d [.ref (100000 + 2 * x0)] mem (fun r2 mem1 => ((r2 = 0 → False) ∧ (¬ r2 = 0 → (Ci mJ1_charAt_3b067 d [.ref (100001 + 2 * x0), .int x1] mem1 (fun r5 mem4 => (narrow .char (.int r5) = .int r5 ∧ P r5 mem4)))))))) :
    Vw (Ni (d + 1) P) mJ0_charAt_5068e 0 [(0, .ref (100000 + 2 * x0)), (1, .int x1)] [] mem := by
  refine V_aload_n 0 dJ0_charAt_5068e_0 rfl ?_
  refine V_cXi [] hx0 rfl mv_J0_isLatin1_aae02 w_717 dJ0_charAt_5068e_1 wf_rok_m rfl rfl (Nat.le_of_ble_eq_true rfl) h ?_
  intro r2 mem1 h
  refine V_if_eq (tgt := 16) dJ0_charAt_5068e_4 rfl ⟨fun c3 => ?_, fun c3 => ?_⟩
  · have h := h.1 c3
    exact h.elim
  · have h := h.2 c3
    refine V_aload_n 0 dJ0_charAt_5068e_7 rfl ?_
    refine V_sval hx0 w_709 dJ0_charAt_5068e_8 ?_
    refine V_iload_n 1 dJ0_charAt_5068e_11 rfl ?_
    refine V_cSi [.ref (100001 + 2 * x0), .int x1] ms_J1_charAt_3b067 w_721 dJ0_charAt_5068e_12 wf_rok_m rfl rfl (Nat.le_of_ble_eq_true rfl) h ?_
    intro r5 mem4 h
    exact V_zret dJ0_charAt_5068e_15 rfl h.1 h.2
set_option maxRecDepth 20000 in
theorem b_J0_indexOf_0f7a4_0 {d : Nat} {P : Int32 → wf_Mem → Prop} (mem : wf_Mem) (x0 : Nat) (hx0 : x0 < 6) (x1 : Int32)
    (h : (Ci mJ0_indexOf_7cf53 d [.ref (100000 + 2 * x0), .int x1, .int 0] mem (fun r2 mem1 => P r2 mem1))) :
    Vw (Ni (d + 1) P) mJ0_indexOf_0f7a4 0 [(0, .ref (100000 + 2 * x0)), (1, .int x1)] [] mem := by
  refine V_aload_n 0 dJ0_indexOf_0f7a4_0 rfl ?_
  refine V_iload_n 1 dJ0_indexOf_0f7a4_1 rfl ?_
  refine V_iconst (v := 0) dJ0_indexOf_0f7a4_2 rfl ?_
  refine V_cXi [.int x1, .int 0] hx0 rfl mv_J0_indexOf_7cf53 w_725 dJ0_indexOf_0f7a4_3 wf_rok_m rfl rfl (Nat.le_of_ble_eq_true rfl) h ?_
  intro r2 mem1 h
  exact V_iret dJ0_indexOf_0f7a4_6 rfl h
set_option maxRecDepth 20000 in
theorem b_J0_indexOf_7cf53_0 {d : Nat} {P : Int32 → wf_Mem → Prop} (mem : wf_Mem) (x0 : Nat) (hx0 : x0 < 6) (x1 : Int32) (x2 : Int32)
    (h : (Ci mJ0_isLatin1_aae02 d [.ref (100000 + 2 * x0)] mem (fun r2 mem1 => ((r2 = 0 → False) ∧ (¬ r2 = 0 → (Ci mJ0_length_8abf5 d [.ref (100000 + 2 * x0)] mem1 (fun r5 mem4 => (Ci mJ1_indexOf_4cfef d [.ref (100001 + 2 * x0), .int x1, .int x2, .int r5] mem4 (fun r7 mem6 => P r7 mem6))))))))) :
    Vw (Ni (d + 1) P) mJ0_indexOf_7cf53 0 [(0, .ref (100000 + 2 * x0)), (1, .int x1), (2, .int x2)] [] mem := by
  refine V_aload_n 0 dJ0_indexOf_7cf53_0 rfl ?_
  refine V_cXi [] hx0 rfl mv_J0_isLatin1_aae02 w_717 dJ0_indexOf_7cf53_1 wf_rok_m rfl rfl (Nat.le_of_ble_eq_true rfl) h ?_
  intro r2 mem1 h
  refine V_if_eq (tgt := 23) dJ0_indexOf_7cf53_4 rfl ⟨fun c3 => ?_, fun c3 => ?_⟩
  · have h := h.1 c3
    exact h.elim
  · have h := h.2 c3
    refine V_aload_n 0 dJ0_indexOf_7cf53_7 rfl ?_
    refine V_sval hx0 w_709 dJ0_indexOf_7cf53_8 ?_
    refine V_iload_n 1 dJ0_indexOf_7cf53_11 rfl ?_
    refine V_iload_n 2 dJ0_indexOf_7cf53_12 rfl ?_
    refine V_aload_n 0 dJ0_indexOf_7cf53_13 rfl ?_
    refine V_cXi [] hx0 rfl mv_J0_length_8abf5 w_726 dJ0_indexOf_7cf53_14 wf_rok_m rfl rfl (Nat.le_of_ble_eq_true rfl) h ?_
    intro r5 mem4 h
    refine V_cSi [.ref (100001 + 2 * x0), .int x1, .int x2, .int r5] ms_J1_indexOf_4cfef w_729 dJ0_indexOf_7cf53_17 wf_rok_m rfl rfl (Nat.le_of_ble_eq_true rfl) h ?_
    intro r7 mem6 h
    refine V_goto (tgt := 36) dJ0_indexOf_7cf53_20 rfl ?_
    exact V_iret dJ0_indexOf_7cf53_36 rfl h
set_option maxRecDepth 20000 in
theorem b_J0_coder_7d493_0 {d : Nat} {P : Int32 → wf_Mem → Prop} (mem : wf_Mem) (x0 : Nat) (hx0 : x0 < 6)
    (h : P 0 mem) :
    Vw (Ni d P) mJ0_coder_7d493 0 [(0, .ref (100000 + 2 * x0))] [] mem := by
  refine V_cmps w_730 dJ0_coder_7d493_0 ?_
  refine V_if_eq (tgt := 13) dJ0_coder_7d493_3 rfl ⟨fun c1 => ?_, fun c1 => ?_⟩
  · exact absurd c1 (by decide)
  · refine V_aload_n 0 dJ0_coder_7d493_6 rfl ?_
    refine V_scod hx0 w_731 dJ0_coder_7d493_7 ?_
    refine V_goto (tgt := 14) dJ0_coder_7d493_10 rfl ?_
    exact V_zret dJ0_coder_7d493_14 rfl rfl h
set_option maxRecDepth 20000 in
theorem b_J0_isLatin1_aae02_0 {d : Nat} {P : Int32 → wf_Mem → Prop} (mem : wf_Mem) (x0 : Nat) (hx0 : x0 < 6)
    (h : P 1 mem) :
    Vw (Ni d P) mJ0_isLatin1_aae02 0 [(0, .ref (100000 + 2 * x0))] [] mem := by
  refine V_cmps w_730 dJ0_isLatin1_aae02_0 ?_
  refine V_if_eq (tgt := 17) dJ0_isLatin1_aae02_3 rfl ⟨fun c1 => ?_, fun c1 => ?_⟩
  · exact absurd c1 (by decide)
  · refine V_aload_n 0 dJ0_isLatin1_aae02_6 rfl ?_
    refine V_scod hx0 w_731 dJ0_isLatin1_aae02_7 ?_
    refine V_if_ne (tgt := 17) dJ0_isLatin1_aae02_10 rfl ⟨fun c2 => ?_, fun c2 => ?_⟩
    · exact absurd c2 (by decide)
    · refine V_iconst (v := 1) dJ0_isLatin1_aae02_13 rfl ?_
      refine V_goto (tgt := 18) dJ0_isLatin1_aae02_14 rfl ?_
      exact V_zret dJ0_isLatin1_aae02_18 rfl rfl h
set_option maxRecDepth 20000 in
theorem b_J0_checkIndex_df160_0 {d : Nat} {P : wf_Mem → Prop} (mem : wf_Mem) (x0 : Int32) (x1 : Int32)
    (h : (∀ v1 : Value, v1 = .null ∨ v1 = .ref 90001 → (Ci mJ3_checkIndex_8e157 d [.int x0, .int x1, v1] mem (fun r3 mem2 => P mem2)))) :
    Vw (Nv (d + 1) P) mJ0_checkIndex_df160 0 [(0, .int x0), (1, .int x1)] [] mem := by
  refine V_iload_n 0 dJ0_checkIndex_df160_0 rfl ?_
  refine V_iload_n 1 dJ0_checkIndex_df160_1 rfl ?_
  refine V_sio w_732 dJ0_checkIndex_df160_2 (fun v1 ev1 => ?_)
  have h := h v1 ev1
  refine V_cSi [.int x0, .int x1, v1] ms_J3_checkIndex_8e157 w_736 dJ0_checkIndex_df160_5 wf_rok_m rfl rfl (Nat.le_of_ble_eq_true rfl) h ?_
  intro r3 mem2 h
  refine V_pop dJ0_checkIndex_df160_8 rfl ?_
  exact V_vret dJ0_checkIndex_df160_9 rfl h
set_option maxRecDepth 20000 in
theorem b_J3_checkIndex_8e157_0 {d : Nat} {P : Int32 → wf_Mem → Prop} (mem : wf_Mem) (x0 : Int32) (x1 : Int32) (x2 : Value)
    (h : ((x0 < 0 → False) ∧ (¬ x0 < 0 → ((x0 < x1 → P x0 mem) ∧ (¬ x0 < x1 → False))))) :
    Vw (Ni (d + 1) P) mJ3_checkIndex_8e157 0 [(0, .int x0), (1, .int x1), (2, x2)] [] mem := by
  refine V_iload_n 0 dJ3_checkIndex_8e157_0 rfl ?_
  refine V_if_lt (tgt := 9) dJ3_checkIndex_8e157_1 rfl ⟨fun c1 => ?_, fun c1 => ?_⟩
  · have h := h.1 c1
    exact h.elim
  · have h := h.2 c1
    refine V_iload_n 0 dJ3_checkIndex_8e157_4 rfl ?_
    refine V_iload_n 1 dJ3_checkIndex_8e157_5 rfl ?_
    refine V_icmp_lt (tgt := 16) dJ3_checkIndex_8e157_6 rfl ⟨fun c2 => ?_, fun c2 => ?_⟩
    · have h := h.1 c2
      refine V_iload_n 0 dJ3_checkIndex_8e157_16 rfl ?_
      exact V_iret dJ3_checkIndex_8e157_17 rfl h
    · have h := h.2 c2
      exact h.elim
set_option maxRecDepth 20000 in
theorem b_J1_charAt_3b067_0 {d : Nat} {P : Int32 → wf_Mem → Prop} (mem : wf_Mem) (x0 : Nat) (hx0 : x0 < 6) (x1 : Int32)
    (h : (Cv mJ0_checkIndex_df160 d [.int x1, .int (Int32.ofNat (wf_sLen.getD x0 0))] mem (fun mem1 => (vp_in x1 (wf_sLen.getD x0 0) ∧ (narrow .char (.int (((((wf_sByt.getD x0 []).getD x1.toNatClampNeg 0) &&& 255).toUInt32 % 65536).toInt32)) = .int (((((wf_sByt.getD x0 []).getD x1.toNatClampNeg 0) &&& 255).toUInt32 % 65536).toInt32) ∧ P (((((wf_sByt.getD x0 []).getD x1.toNatClampNeg 0) &&& 255).toUInt32 % 65536).toInt32) mem1))))) :
    Vw (Ni (d + 1) P) mJ1_charAt_3b067 0 [(0, .ref (100001 + 2 * x0)), (1, .int x1)] [] mem := by
  refine V_iload_n 1 dJ1_charAt_3b067_0 rfl ?_
  refine V_aload_n 0 dJ1_charAt_3b067_1 rfl ?_
  refine V_slen hx0 dJ1_charAt_3b067_2 rfl ?_
  refine V_cSv [.int x1, .int (Int32.ofNat (wf_sLen.getD x0 0))] ms_J0_checkIndex_df160 w_739 dJ1_charAt_3b067_3 wf_rok_m rfl rfl (Nat.le_of_ble_eq_true rfl) h ?_
  intro mem1 h
  refine V_aload_n 0 dJ1_charAt_3b067_6 rfl ?_
  refine V_iload_n 1 dJ1_charAt_3b067_7 rfl ?_
  refine V_sbyt hx0 dJ1_charAt_3b067_8 ⟨h.1, ?_⟩
  have h := h.2
  refine V_sipush (v := 255) dJ1_charAt_3b067_9 rfl ?_
  refine V_iand dJ1_charAt_3b067_12 ?_
  refine V_i2c dJ1_charAt_3b067_13 ?_
  exact V_zret dJ1_charAt_3b067_14 rfl h.1 h.2
set_option maxRecDepth 20000 in
theorem b_J1_canEncode_9a6ad_0 {d : Nat} {P : Int32 → wf_Mem → Prop} (mem : wf_Mem) (x0 : Int32)
    (h : ((x0 < 0 → P 0 mem) ∧ (¬ x0 < 0 → ((255 < x0 → P 0 mem) ∧ (¬ 255 < x0 → P 1 mem))))) :
    Vw (Ni d P) mJ1_canEncode_9a6ad 0 [(0, .int x0)] [] mem := by
  refine V_iload_n 0 dJ1_canEncode_9a6ad_0 rfl ?_
  refine V_if_lt (tgt := 15) dJ1_canEncode_9a6ad_1 rfl ⟨fun c1 => ?_, fun c1 => ?_⟩
  · have h := h.1 c1
    refine V_iconst (v := 0) dJ1_canEncode_9a6ad_15 rfl ?_
    exact V_zret dJ1_canEncode_9a6ad_16 rfl rfl h
  · have h := h.2 c1
    refine V_iload_n 0 dJ1_canEncode_9a6ad_4 rfl ?_
    refine V_sipush (v := 255) dJ1_canEncode_9a6ad_5 rfl ?_
    refine V_icmp_gt (tgt := 15) dJ1_canEncode_9a6ad_8 rfl ⟨fun c2 => ?_, fun c2 => ?_⟩
    · have h := h.1 c2
      refine V_iconst (v := 0) dJ1_canEncode_9a6ad_15 rfl ?_
      exact V_zret dJ1_canEncode_9a6ad_16 rfl rfl h
    · have h := h.2 c2
      refine V_iconst (v := 1) dJ1_canEncode_9a6ad_11 rfl ?_
      refine V_goto (tgt := 16) dJ1_canEncode_9a6ad_12 rfl ?_
      exact V_zret dJ1_canEncode_9a6ad_16 rfl rfl h
set_option maxRecDepth 20000 in
theorem b_J1_indexOf_4cfef_0 {d : Nat} {P : Int32 → wf_Mem → Prop} (mem : wf_Mem) (x0 : Nat) (hx0 : x0 < 6) (x1 : Int32) (x2 : Int32) (x3 : Int32)
    (h : (Ci mJ1_canEncode_9a6ad d [.int x1] mem (fun r2 mem1 => ((¬ r2 = 0 → (∀ x2_4 : Int32, x2_4 = (if x2 < 0 then 0 else x2) → (∀ x3_5 : Int32, x3_5 = (if (Int32.ofNat (wf_sLen.getD x0 0)) < x3 then (Int32.ofNat (wf_sLen.getD x0 0)) else x3) → ((x2_4 < x3_5 → (Ci mJ1_indexOfChar_4cfef d [.ref (100001 + 2 * x0), .int x1, .int x2_4, .int x3_5] mem1 (fun r8 mem7 => P r8 mem7))) ∧ (¬ x2_4 < x3_5 → P (-1) mem1))))) ∧ (r2 = 0 → P (-1) mem1))))) :
    Vw (Ni (d + 1) P) mJ1_indexOf_4cfef 0 [(0, .ref (100001 + 2 * x0)), (1, .int x1), (2, .int x2), (3, .int x3)] [] mem := by
  refine V_iload_n 1 dJ1_indexOf_4cfef_0 rfl ?_
  refine V_cSi [.int x1] ms_J1_canEncode_9a6ad w_742 dJ1_indexOf_4cfef_1 wf_rok_m rfl rfl (Nat.le_of_ble_eq_true rfl) h ?_
  intro r2 mem1 h
  refine V_if_ne (tgt := 9) dJ1_indexOf_4cfef_4 rfl ⟨fun c3 => ?_, fun c3 => ?_⟩
  · have h := h.1 c3
    refine V_iload_n 2 dJ1_indexOf_4cfef_9 rfl ?_
    refine V_iconst (v := 0) dJ1_indexOf_4cfef_10 rfl ?_
    refine V_mmax w_743 wm_max dJ1_indexOf_4cfef_11 wf_rok_m (Nat.le_of_ble_eq_true rfl) ?_
    refine V_topi (fun x2_4 ex2_4 => ?_)
    have h := h x2_4 ex2_4
    refine V_istore_n (lv' := [(0, .ref (100001 + 2 * x0)), (1, .int x1), (2, .int x2_4), (3, .int x3)]) dJ1_indexOf_4cfef_14 (by decide) rfl rfl ?_
    refine V_iload_n 3 dJ1_indexOf_4cfef_15 rfl ?_
    refine V_aload_n 0 dJ1_indexOf_4cfef_16 rfl ?_
    refine V_slen hx0 dJ1_indexOf_4cfef_17 rfl ?_
    refine V_mmin w_744 wm_min dJ1_indexOf_4cfef_18 wf_rok_m (Nat.le_of_ble_eq_true rfl) ?_
    refine V_topi (fun x3_5 ex3_5 => ?_)
    have h := h x3_5 ex3_5
    refine V_istore_n (lv' := [(0, .ref (100001 + 2 * x0)), (1, .int x1), (2, .int x2_4), (3, .int x3_5)]) dJ1_indexOf_4cfef_21 (by decide) rfl rfl ?_
    refine V_iload_n 2 dJ1_indexOf_4cfef_22 rfl ?_
    refine V_iload_n 3 dJ1_indexOf_4cfef_23 rfl ?_
    refine V_icmp_lt (tgt := 29) dJ1_indexOf_4cfef_24 rfl ⟨fun c6 => ?_, fun c6 => ?_⟩
    · have h := h.1 c6
      refine V_aload_n 0 dJ1_indexOf_4cfef_29 rfl ?_
      refine V_iload_n 1 dJ1_indexOf_4cfef_30 rfl ?_
      refine V_iload_n 2 dJ1_indexOf_4cfef_31 rfl ?_
      refine V_iload_n 3 dJ1_indexOf_4cfef_32 rfl ?_
      refine V_cSi [.ref (100001 + 2 * x0), .int x1, .int x2_4, .int x3_5] ms_J1_indexOfChar_4cfef w_747 dJ1_indexOf_4cfef_33 wf_rok_m rfl rfl (Nat.le_of_ble_eq_true rfl) h ?_
      intro r8 mem7 h
      exact V_iret dJ1_indexOf_4cfef_36 rfl h
    · have h := h.2 c6
      refine V_iconst (v := (-1)) dJ1_indexOf_4cfef_27 rfl ?_
      exact V_iret dJ1_indexOf_4cfef_28 rfl h
  · have h := h.2 c3
    refine V_iconst (v := (-1)) dJ1_indexOf_4cfef_7 rfl ?_
    exact V_iret dJ1_indexOf_4cfef_8 rfl h
set_option maxRecDepth 20000 in
theorem b_J1_indexOfChar_4cfef_0 {d : Nat} {P : Int32 → wf_Mem → Prop} (mem : wf_Mem) (x0 : Nat) (hx0 : x0 < 6) (x1 : Int32) (x2 : Int32) (x3 : Int32)
    (h : (∀ x4_1 : Int32, x4_1 = (x1.toInt8.toInt32) → Vw (Ni d P) mJ1_indexOfChar_4cfef 7 [(0, .ref (100001 + 2 * x0)), (3, .int x3), (4, .int x4_1), (5, .int x2)] [] mem)) :
    Vw (Ni d P) mJ1_indexOfChar_4cfef 0 [(0, .ref (100001 + 2 * x0)), (1, .int x1), (2, .int x2), (3, .int x3)] [] mem := by
  refine V_iload_n 1 dJ1_indexOfChar_4cfef_0 rfl ?_
  refine V_i2b dJ1_indexOfChar_4cfef_1 ?_
  refine V_topi (fun x4_1 ex4_1 => ?_)
  have h := h x4_1 ex4_1
  refine V_istore (lv' := [(0, .ref (100001 + 2 * x0)), (1, .int x1), (2, .int x2), (3, .int x3), (4, .int x4_1)]) dJ1_indexOfChar_4cfef_2 (by decide) rfl rfl ?_
  refine V_iload_n 2 dJ1_indexOfChar_4cfef_4 rfl ?_
  refine V_istore (lv' := [(0, .ref (100001 + 2 * x0)), (1, .int x1), (2, .int x2), (3, .int x3), (4, .int x4_1), (5, .int x2)]) dJ1_indexOfChar_4cfef_5 (by decide) rfl rfl ?_
  exact V_sub [0, 3, 4, 5] rfl h
set_option maxRecDepth 20000 in
theorem b_J1_indexOfChar_4cfef_7 {d : Nat} {P : Int32 → wf_Mem → Prop} (mem : wf_Mem) (x0 : Nat) (hx0 : x0 < 6) (x3 : Int32) (x4 : Int32) (x5 : Int32)
    (h : ((x3 ≤ x5 → P (-1) mem) ∧ (¬ x3 ≤ x5 → (vp_in x5 (wf_sLen.getD x0 0) ∧ ((¬ ((wf_sByt.getD x0 []).getD x5.toNatClampNeg 0) = x4 → Vw (Ni d P) mJ1_indexOfChar_4cfef 7 [(0, .ref (100001 + 2 * x0)), (3, .int x3), (4, .int x4), (5, .int (x5 + 1))] [] mem) ∧ (((wf_sByt.getD x0 []).getD x5.toNatClampNeg 0) = x4 → P x5 mem)))))) :
    Vw (Ni d P) mJ1_indexOfChar_4cfef 7 [(0, .ref (100001 + 2 * x0)), (3, .int x3), (4, .int x4), (5, .int x5)] [] mem := by
  refine V_iload 3 dJ1_indexOfChar_4cfef_7 rfl ?_
  refine V_iload_n 1 dJ1_indexOfChar_4cfef_9 rfl ?_
  refine V_icmp_ge (tgt := 31) dJ1_indexOfChar_4cfef_10 rfl ⟨fun c1 => ?_, fun c1 => ?_⟩
  · have h := h.1 c1
    refine V_iconst (v := (-1)) dJ1_indexOfChar_4cfef_31 rfl ?_
    exact V_iret dJ1_indexOfChar_4cfef_32 rfl h
  · have h := h.2 c1
    refine V_aload_n 0 dJ1_indexOfChar_4cfef_13 rfl ?_
    refine V_iload 3 dJ1_indexOfChar_4cfef_14 rfl ?_
    refine V_sbyt hx0 dJ1_indexOfChar_4cfef_16 ⟨h.1, ?_⟩
    have h := h.2
    refine V_iload 2 dJ1_indexOfChar_4cfef_17 rfl ?_
    refine V_icmp_ne (tgt := 25) dJ1_indexOfChar_4cfef_19 rfl ⟨fun c2 => ?_, fun c2 => ?_⟩
    · have h := h.1 c2
      refine V_iinc (v := (x5 + 1)) (lv' := [(0, .ref (100001 + 2 * x0)), (3, .int x3), (4, .int x4), (5, .int (x5 + 1))]) 3 dJ1_indexOfChar_4cfef_25 rfl rfl (by decide) rfl rfl ?_
      refine V_goto (tgt := 7) dJ1_indexOfChar_4cfef_28 rfl ?_
      exact h
    · have h := h.2 c2
      refine V_iload 3 dJ1_indexOfChar_4cfef_22 rfl ?_
      exact V_iret dJ1_indexOfChar_4cfef_24 rfl h
set_option maxRecDepth 20000 in
theorem b_J7_fill_53178_0 {d : Nat} {P : wf_Mem → Prop} (mem : wf_Mem) (x0 nx0 : Nat) (hx0 : wf_sh x0 = (20, nx0)) (x1 : Int32)
    (h : (∀ x3_1 : Int32, x3_1 = (Int32.ofNat nx0) → Vw (Nv d P) mJ7_fill_53178 5 [(0, .ref x0), (1, .int x1), (2, .int 0), (3, .int x3_1)] [] mem)) :
    Vw (Nv d P) mJ7_fill_53178 0 [(0, .ref x0), (1, .int x1)] [] mem := by
  refine V_iconst (v := 0) dJ7_fill_53178_0 rfl ?_
  refine V_istore_n (lv' := [(0, .ref x0), (1, .int x1), (2, .int 0)]) dJ7_fill_53178_1 (by decide) rfl rfl ?_
  refine V_aload_n 0 dJ7_fill_53178_2 rfl ?_
  refine V_alen (v := (Int32.ofNat nx0)) dJ7_fill_53178_3 hx0 rfl ?_
  refine V_topi (fun x3_1 ex3_1 => ?_)
  have h := h x3_1 ex3_1
  refine V_istore_n (lv' := [(0, .ref x0), (1, .int x1), (2, .int 0), (3, .int x3_1)]) dJ7_fill_53178_4 (by decide) rfl rfl ?_
  exact h
set_option maxRecDepth 20000 in
theorem b_J7_fill_53178_5 {d : Nat} {P : wf_Mem → Prop} (mem : wf_Mem) (x0 nx0 : Nat) (hx0 : wf_sh x0 = (20, nx0)) (x1 : Int32) (x2 : Int32) (x3 : Int32)
    (h : ((x3 ≤ x2 → P mem) ∧ (¬ x3 ≤ x2 → (vp_in x2 nx0 ∧ ∀ mem2 : wf_Mem, mem2 = wf_ms mem x0 x2.toNatClampNeg x1 → Vw (Nv d P) mJ7_fill_53178 5 [(0, .ref x0), (1, .int x1), (2, .int (x2 + 1)), (3, .int x3)] [] mem2)))) :
    Vw (Nv d P) mJ7_fill_53178 5 [(0, .ref x0), (1, .int x1), (2, .int x2), (3, .int x3)] [] mem := by
  refine V_iload_n 2 dJ7_fill_53178_5 rfl ?_
  refine V_iload_n 3 dJ7_fill_53178_6 rfl ?_
  refine V_icmp_ge (tgt := 20) dJ7_fill_53178_7 rfl ⟨fun c1 => ?_, fun c1 => ?_⟩
  · have h := h.1 c1
    exact V_vret dJ7_fill_53178_20 rfl h
  · have h := h.2 c1
    refine V_aload_n 0 dJ7_fill_53178_10 rfl ?_
    refine V_iload_n 2 dJ7_fill_53178_11 rfl ?_
    refine V_iload_n 1 dJ7_fill_53178_12 rfl ?_
    refine V_iast dJ7_fill_53178_13 hx0 ⟨h.1, ?_⟩
    refine V_topm (fun mem2 emem2 => ?_)
    have h := h.2 mem2 emem2
    refine V_iinc (v := (x2 + 1)) (lv' := [(0, .ref x0), (1, .int x1), (2, .int (x2 + 1)), (3, .int x3)]) 2 dJ7_fill_53178_14 rfl rfl (by decide) rfl rfl ?_
    refine V_goto (tgt := 5) dJ7_fill_53178_17 rfl ?_
    exact h
