set_option maxRecDepth 20000 in
theorem b_X6_takesNumber_0 {d : Nat} {P : wf_Mem → Prop} (mem : wf_Mem) (x1 : Int32)
    (h : Vw (Nv d P) mX6_takesNumber 3 [(0, .ref 3), (1, .int x1), (2, .int 24)] [] mem) :
    Vw (Nv d P) mX6_takesNumber 0 [(0, .ref 3), (1, .int x1)] [] mem := by
  refine V_bipush (v := 24) dX6_takesNumber_0 rfl ?_
  refine V_istore_n (lv' := [(0, .ref 3), (1, .int x1), (2, .int 24)]) dX6_takesNumber_2 (by decide) rfl rfl ?_
  exact h
set_option maxRecDepth 20000 in
theorem b_X6_takesNumber_3 {d : Nat} {P : wf_Mem → Prop} (mem : wf_Mem) (x1 : Int32) (x2 : Int32)
    (h : ((x2 < 0 → P mem) ∧ (¬ x2 < 0 → ((96 ≤ (mem 3 1) → P mem) ∧ (¬ 96 ≤ (mem 3 1) → (vp_in (mem 3 1) 96 ∧ ∀ mem3 : wf_Mem, mem3 = wf_ms mem 4 (mem 3 1).toNatClampNeg (((x1.toUInt32 >>> ((x2 : Int32).toUInt32 &&& Int32.toUInt32 31)).toInt32) &&& 255) → (∀ mem4 : wf_Mem, mem4 = wf_ms mem3 3 1 ((mem3 3 1) + 1) → Vw (Nv d P) mX6_takesNumber 3 [(0, .ref 3), (1, .int x1), (2, .int (x2 + (-8)))] [] mem4))))))) :
    Vw (Nv d P) mX6_takesNumber 3 [(0, .ref 3), (1, .int x1), (2, .int x2)] [] mem := by
  refine V_iload_n 2 dX6_takesNumber_3 rfl ?_
  refine V_if_lt (tgt := 51) dX6_takesNumber_4 rfl ⟨fun c1 => ?_, fun c1 => ?_⟩
  · have h := h.1 c1
    exact V_vret dX6_takesNumber_51 rfl h
  · have h := h.2 c1
    refine V_aload_n 0 dX6_takesNumber_7 rfl ?_
    refine V_getf (v := .int (mem 3 1)) gf_X6_15 dX6_takesNumber_8 sh_a3 rfl ?_
    refine V_aload_n 0 dX6_takesNumber_11 rfl ?_
    refine V_getf (v := .ref 4) gf_X6_9 dX6_takesNumber_12 sh_a3 rfl ?_
    refine V_alen (v := 96) dX6_takesNumber_15 sh_a4 rfl ?_
    refine V_icmp_ge (tgt := 51) dX6_takesNumber_16 rfl ⟨fun c2 => ?_, fun c2 => ?_⟩
    · have h := h.1 c2
      exact V_vret dX6_takesNumber_51 rfl h
    · have h := h.2 c2
      refine V_aload_n 0 dX6_takesNumber_19 rfl ?_
      refine V_getf (v := .ref 4) gf_X6_9 dX6_takesNumber_20 sh_a3 rfl ?_
      refine V_aload_n 0 dX6_takesNumber_23 rfl ?_
      refine V_getf (v := .int (mem 3 1)) gf_X6_15 dX6_takesNumber_24 sh_a3 rfl ?_
      refine V_iload_n 1 dX6_takesNumber_27 rfl ?_
      refine V_iload_n 2 dX6_takesNumber_28 rfl ?_
      refine V_iushr dX6_takesNumber_29 ?_
      refine V_sipush (v := 255) dX6_takesNumber_30 rfl ?_
      refine V_iand dX6_takesNumber_33 ?_
      refine V_iast dX6_takesNumber_34 sh_a4 ⟨h.1, ?_⟩
      refine V_topm (fun mem3 emem3 => ?_)
      have h := h.2 mem3 emem3
      refine V_aload_n 0 dX6_takesNumber_35 rfl ?_
      refine V_dup dX6_takesNumber_36 rfl ?_
      refine V_getf (v := .int (mem3 3 1)) gf_X6_15 dX6_takesNumber_37 sh_a3 rfl ?_
      refine V_iconst (v := 1) dX6_takesNumber_40 rfl ?_
      refine V_iadd dX6_takesNumber_41 ?_
      refine V_putf pf_X6_15 dX6_takesNumber_42 sh_a3 rfl rfl ?_
      refine V_topm (fun mem4 emem4 => ?_)
      have h := h mem4 emem4
      refine V_iinc (v := (x2 + (-8))) (lv' := [(0, .ref 3), (1, .int x1), (2, .int (x2 + (-8)))]) 2 dX6_takesNumber_45 rfl rfl (by decide) rfl rfl ?_
      refine V_goto (tgt := 3) dX6_takesNumber_48 rfl ?_
      exact h
set_option maxRecDepth 20000 in
theorem b_X6_readInto_0 {d : Nat} {P : Int32 → wf_Mem → Prop} (mem : wf_Mem) (x1 : Nat) (hx1 : wf_sh x1 = (2, 0))
    (h : (∀ mem1 : wf_Mem, mem1 = wf_ms mem 3 3 0 → (∀ mem2 : wf_Mem, mem2 = wf_ms mem1 3 5 0 → (∀ mem3 : wf_Mem, mem3 = wf_ms mem2 3 6 0 → (∀ mem4 : wf_Mem, mem4 = wf_ms mem3 3 7 0 → (∀ mem5 : wf_Mem, mem5 = wf_ms mem4 3 8 1 → (Cv mX6_steps d [.ref 3] mem5 (fun mem6 => (Ci mX6_keyHere d [.ref 3] mem6 (fun r8 mem7 => ((0 ≤ r8 → (Cv mX2_begins d [.ref x1, .int r8] mem7 (fun mem10 => (∀ x3_11 : Int32, x3_11 = (mem10 3 3) → (Cv mX6_steps d [.ref 3] mem10 (fun mem12 => ((¬ (mem12 3 2) = x3_11 → Vw (Ni (d + 1) P) mX6_readInto 80 [(0, .ref 3), (1, .ref x1), (4, .int 0)] [] mem12) ∧ ((mem12 3 2) = x3_11 → (Ci mX6_sortHere d [.ref 3] mem12 (fun r15 mem14 => ((r15 = 0 → Vw (Ni (d + 1) P) mX6_readInto 80 [(0, .ref 3), (1, .ref x1), (4, .int 0)] [] mem14) ∧ (¬ r15 = 0 → P (mem14 3 2) mem14)))))))))))) ∧ (¬ 0 ≤ r8 → P (mem7 3 2) mem7)))))))))))) :
    Vw (Ni (d + 1) P) mX6_readInto 0 [(0, .ref 3), (1, .ref x1)] [] mem := by
  refine V_aload_n 0 dX6_readInto_0 rfl ?_
  refine V_iconst (v := 0) dX6_readInto_1 rfl ?_
  refine V_putf pf_X6_22 dX6_readInto_2 sh_a3 rfl rfl ?_
  refine V_topm (fun mem1 emem1 => ?_)
  have h := h mem1 emem1
  refine V_aload_n 0 dX6_readInto_5 rfl ?_
  refine V_iconst (v := 0) dX6_readInto_6 rfl ?_
  refine V_putf pf_X6_28 dX6_readInto_7 sh_a3 rfl rfl ?_
  refine V_topm (fun mem2 emem2 => ?_)
  have h := h mem2 emem2
  refine V_aload_n 0 dX6_readInto_10 rfl ?_
  refine V_iconst (v := 0) dX6_readInto_11 rfl ?_
  refine V_putf pf_X6_31 dX6_readInto_12 sh_a3 rfl rfl ?_
  refine V_topm (fun mem3 emem3 => ?_)
  have h := h mem3 emem3
  refine V_aload_n 0 dX6_readInto_15 rfl ?_
  refine V_iconst (v := 0) dX6_readInto_16 rfl ?_
  refine V_putf pf_X6_34 dX6_readInto_17 sh_a3 rfl rfl ?_
  refine V_topm (fun mem4 emem4 => ?_)
  have h := h mem4 emem4
  refine V_aload_n 0 dX6_readInto_20 rfl ?_
  refine V_iconst (v := 1) dX6_readInto_21 rfl ?_
  refine V_putf pf_X6_37 dX6_readInto_22 sh_a3 rfl rfl ?_
  refine V_topm (fun mem5 emem5 => ?_)
  have h := h mem5 emem5
  refine V_aload_n 0 dX6_readInto_25 rfl ?_
  refine V_cVv [] mv_X6_steps w_165 dX6_readInto_26 wf_rok_m sh_a3 rfl (by decide) rfl rfl (Nat.le_of_ble_eq_true rfl) h ?_
  intro mem6 h
  refine V_aload_n 0 dX6_readInto_29 rfl ?_
  refine V_cVi [] mv_X6_keyHere w_169 dX6_readInto_30 wf_rok_m sh_a3 rfl (by decide) rfl rfl (Nat.le_of_ble_eq_true rfl) h ?_
  intro r8 mem7 h
  refine V_istore_n (lv' := [(0, .ref 3), (1, .ref x1), (2, .int r8)]) dX6_readInto_33 (by decide) rfl rfl ?_
  refine V_iload_n 2 dX6_readInto_34 rfl ?_
  refine V_if_ge (tgt := 43) dX6_readInto_35 rfl ⟨fun c9 => ?_, fun c9 => ?_⟩
  · have h := h.1 c9
    refine V_aload_n 1 dX6_readInto_43 rfl ?_
    refine V_iload_n 2 dX6_readInto_44 rfl ?_
    refine V_cVv [.int r8] mv_X2_begins w_173 dX6_readInto_45 wf_rok_m hx1 rfl (by decide) rfl rfl (Nat.le_of_ble_eq_true rfl) h ?_
    intro mem10 h
    refine V_aload_n 0 dX6_readInto_48 rfl ?_
    refine V_getf (v := .int (mem10 3 3)) gf_X6_22 dX6_readInto_49 sh_a3 rfl ?_
    refine V_topi (fun x3_11 ex3_11 => ?_)
    have h := h x3_11 ex3_11
    refine V_istore_n (lv' := [(0, .ref 3), (1, .ref x1), (2, .int r8), (3, .int x3_11)]) dX6_readInto_52 (by decide) rfl rfl ?_
    refine V_aload_n 0 dX6_readInto_53 rfl ?_
    refine V_cVv [] mv_X6_steps w_165 dX6_readInto_54 wf_rok_m sh_a3 rfl (by decide) rfl rfl (Nat.le_of_ble_eq_true rfl) h ?_
    intro mem12 h
    refine V_aload_n 0 dX6_readInto_57 rfl ?_
    refine V_getf (v := .int (mem12 3 2)) gf_X6_19 dX6_readInto_58 sh_a3 rfl ?_
    refine V_iload_n 3 dX6_readInto_61 rfl ?_
    refine V_icmp_ne (tgt := 77) dX6_readInto_62 rfl ⟨fun c13 => ?_, fun c13 => ?_⟩
    · have h := h.1 c13
      refine V_iconst (v := 0) dX6_readInto_77 rfl ?_
      refine V_istore (lv' := [(0, .ref 3), (1, .ref x1), (2, .int r8), (3, .int x3_11), (4, .int 0)]) dX6_readInto_78 (by decide) rfl rfl ?_
      exact V_sub [0, 1, 4] rfl h
    · have h := h.2 c13
      refine V_aload_n 0 dX6_readInto_65 rfl ?_
      refine V_cVi [] mv_X6_sortHere w_178 dX6_readInto_66 wf_rok_m sh_a3 rfl (by decide) rfl rfl (Nat.le_of_ble_eq_true rfl) h ?_
      intro r15 mem14 h
      refine V_if_eq (tgt := 77) dX6_readInto_69 rfl ⟨fun c16 => ?_, fun c16 => ?_⟩
      · have h := h.1 c16
        refine V_iconst (v := 0) dX6_readInto_77 rfl ?_
        refine V_istore (lv' := [(0, .ref 3), (1, .ref x1), (2, .int r8), (3, .int x3_11), (4, .int 0)]) dX6_readInto_78 (by decide) rfl rfl ?_
        exact V_sub [0, 1, 4] rfl h
      · have h := h.2 c16
        refine V_aload_n 0 dX6_readInto_72 rfl ?_
        refine V_getf (v := .int (mem14 3 2)) gf_X6_19 dX6_readInto_73 sh_a3 rfl ?_
        exact V_iret dX6_readInto_76 rfl h
  · have h := h.2 c9
    refine V_aload_n 0 dX6_readInto_38 rfl ?_
    refine V_getf (v := .int (mem7 3 2)) gf_X6_19 dX6_readInto_39 sh_a3 rfl ?_
    exact V_iret dX6_readInto_42 rfl h
set_option maxRecDepth 20000 in
theorem b_X6_readInto_80 {d : Nat} {P : Int32 → wf_Mem → Prop} (mem : wf_Mem) (x1 : Nat) (hx1 : wf_sh x1 = (2, 0)) (x4 : Int32)
    (h : ((96 ≤ x4 → Vw (Ni (d + 1) P) mX6_readInto 140 [(0, .ref 3), (1, .ref x1)] [] mem) ∧ (¬ 96 ≤ x4 → (((mem 3 1) ≤ (mem 3 2) → Vw (Ni (d + 1) P) mX6_readInto 140 [(0, .ref 3), (1, .ref x1)] [] mem) ∧ (¬ (mem 3 1) ≤ (mem 3 2) → (((mem 3 8) = 0 → (Ci mX6_takesSign d [.ref 3, .ref x1] mem (fun r5 mem4 => ((¬ r5 = 0 → (Cv mX6_steps d [.ref 3] mem4 (fun mem7 => Vw (Ni (d + 1) P) mX6_readInto 80 [(0, .ref 3), (1, .ref x1), (4, .int (x4 + 1))] [] mem7))) ∧ (r5 = 0 → P (mem4 3 2) mem4))))) ∧ (¬ (mem 3 8) = 0 → (Ci mX6_takesPiece d [.ref 3, .ref x1] mem (fun r9 mem8 => ((¬ r9 = 0 → (Cv mX6_steps d [.ref 3] mem8 (fun mem11 => Vw (Ni (d + 1) P) mX6_readInto 80 [(0, .ref 3), (1, .ref x1), (4, .int (x4 + 1))] [] mem11))) ∧ (r9 = 0 → P (mem8 3 2) mem8))))))))))) :
    Vw (Ni (d + 1) P) mX6_readInto 80 [(0, .ref 3), (1, .ref x1), (4, .int x4)] [] mem := by
  refine V_iload 2 dX6_readInto_80 rfl ?_
  refine V_bipush (v := 96) dX6_readInto_82 rfl ?_
  refine V_icmp_ge (tgt := 140) dX6_readInto_84 rfl ⟨fun c1 => ?_, fun c1 => ?_⟩
  · have h := h.1 c1
    exact V_sub [0, 1] rfl h
  · have h := h.2 c1
    refine V_aload_n 0 dX6_readInto_87 rfl ?_
    refine V_getf (v := .int (mem 3 2)) gf_X6_19 dX6_readInto_88 sh_a3 rfl ?_
    refine V_aload_n 0 dX6_readInto_91 rfl ?_
    refine V_getf (v := .int (mem 3 1)) gf_X6_15 dX6_readInto_92 sh_a3 rfl ?_
    refine V_icmp_ge (tgt := 140) dX6_readInto_95 rfl ⟨fun c2 => ?_, fun c2 => ?_⟩
    · have h := h.1 c2
      exact V_sub [0, 1] rfl h
    · have h := h.2 c2
      refine V_aload_n 0 dX6_readInto_98 rfl ?_
      refine V_getf (v := .int (mem 3 8)) gf_X6_37 dX6_readInto_99 sh_a3 rfl ?_
      refine V_if_eq (tgt := 113) dX6_readInto_102 rfl ⟨fun c3 => ?_, fun c3 => ?_⟩
      · have h := h.1 c3
        refine V_aload_n 0 dX6_readInto_113 rfl ?_
        refine V_aload_n 1 dX6_readInto_114 rfl ?_
        refine V_cVi [.ref x1] mv_X6_takesSign w_182 dX6_readInto_115 wf_rok_m sh_a3 rfl (by decide) rfl rfl (Nat.le_of_ble_eq_true rfl) h ?_
        intro r5 mem4 h
        refine V_istore (lv' := [(0, .ref 3), (1, .ref x1), (4, .int x4), (5, .int r5)]) dX6_readInto_118 (by decide) rfl rfl ?_
        refine V_iload 3 dX6_readInto_120 rfl ?_
        refine V_if_ne (tgt := 130) dX6_readInto_122 rfl ⟨fun c6 => ?_, fun c6 => ?_⟩
        · have h := h.1 c6
          refine V_aload_n 0 dX6_readInto_130 rfl ?_
          refine V_cVv [] mv_X6_steps w_165 dX6_readInto_131 wf_rok_m sh_a3 rfl (by decide) rfl rfl (Nat.le_of_ble_eq_true rfl) h ?_
          intro mem7 h
          refine V_iinc (v := (x4 + 1)) (lv' := [(0, .ref 3), (1, .ref x1), (4, .int (x4 + 1)), (5, .int r5)]) 2 dX6_readInto_134 rfl rfl (by decide) rfl rfl ?_
          refine V_goto (tgt := 80) dX6_readInto_137 rfl ?_
          exact V_sub [0, 1, 2] rfl h
        · have h := h.2 c6
          refine V_aload_n 0 dX6_readInto_125 rfl ?_
          refine V_getf (v := .int (mem4 3 2)) gf_X6_19 dX6_readInto_126 sh_a3 rfl ?_
          exact V_iret dX6_readInto_129 rfl h
      · have h := h.2 c3
        refine V_aload_n 0 dX6_readInto_105 rfl ?_
        refine V_aload_n 1 dX6_readInto_106 rfl ?_
        refine V_cVi [.ref x1] mv_X6_takesPiece w_186 dX6_readInto_107 wf_rok_m sh_a3 rfl (by decide) rfl rfl (Nat.le_of_ble_eq_true rfl) h ?_
        intro r9 mem8 h
        refine V_goto (tgt := 118) dX6_readInto_110 rfl ?_
        refine V_istore (lv' := [(0, .ref 3), (1, .ref x1), (4, .int x4), (5, .int r9)]) dX6_readInto_118 (by decide) rfl rfl ?_
        refine V_iload 3 dX6_readInto_120 rfl ?_
        refine V_if_ne (tgt := 130) dX6_readInto_122 rfl ⟨fun c10 => ?_, fun c10 => ?_⟩
        · have h := h.1 c10
          refine V_aload_n 0 dX6_readInto_130 rfl ?_
          refine V_cVv [] mv_X6_steps w_165 dX6_readInto_131 wf_rok_m sh_a3 rfl (by decide) rfl rfl (Nat.le_of_ble_eq_true rfl) h ?_
          intro mem11 h
          refine V_iinc (v := (x4 + 1)) (lv' := [(0, .ref 3), (1, .ref x1), (4, .int (x4 + 1)), (5, .int r9)]) 2 dX6_readInto_134 rfl rfl (by decide) rfl rfl ?_
          refine V_goto (tgt := 80) dX6_readInto_137 rfl ?_
          exact V_sub [0, 1, 2] rfl h
        · have h := h.2 c10
          refine V_aload_n 0 dX6_readInto_125 rfl ?_
          refine V_getf (v := .int (mem8 3 2)) gf_X6_19 dX6_readInto_126 sh_a3 rfl ?_
          exact V_iret dX6_readInto_129 rfl h
set_option maxRecDepth 20000 in
theorem b_X6_readInto_140 {d : Nat} {P : Int32 → wf_Mem → Prop} (mem : wf_Mem) (x1 : Nat) (hx1 : wf_sh x1 = (2, 0))
    (h : ((¬ (mem 3 8) = 0 → P (mem 3 1) mem) ∧ ((mem 3 8) = 0 → (((mem 3 6) ≤ 0 → (Cv mX6_closesDownTo d [.ref 3, .int 1, .ref x1] mem (fun mem3 => P (-1) mem3))) ∧ (¬ (mem 3 6) ≤ 0 → P (mem 3 1) mem))))) :
    Vw (Ni (d + 1) P) mX6_readInto 140 [(0, .ref 3), (1, .ref x1)] [] mem := by
  refine V_aload_n 0 dX6_readInto_140 rfl ?_
  refine V_getf (v := .int (mem 3 8)) gf_X6_37 dX6_readInto_141 sh_a3 rfl ?_
  refine V_if_ne (tgt := 154) dX6_readInto_144 rfl ⟨fun c1 => ?_, fun c1 => ?_⟩
  · have h := h.1 c1
    refine V_aload_n 0 dX6_readInto_154 rfl ?_
    refine V_getf (v := .int (mem 3 1)) gf_X6_15 dX6_readInto_155 sh_a3 rfl ?_
    exact V_iret dX6_readInto_158 rfl h
  · have h := h.2 c1
    refine V_aload_n 0 dX6_readInto_147 rfl ?_
    refine V_getf (v := .int (mem 3 6)) gf_X6_31 dX6_readInto_148 sh_a3 rfl ?_
    refine V_if_le (tgt := 159) dX6_readInto_151 rfl ⟨fun c2 => ?_, fun c2 => ?_⟩
    · have h := h.1 c2
      refine V_aload_n 0 dX6_readInto_159 rfl ?_
      refine V_iconst (v := 1) dX6_readInto_160 rfl ?_
      refine V_aload_n 1 dX6_readInto_161 rfl ?_
      refine V_cVv [.int 1, .ref x1] mv_X6_closesDownTo w_190 dX6_readInto_162 wf_rok_m sh_a3 rfl (by decide) rfl rfl (Nat.le_of_ble_eq_true rfl) h ?_
      intro mem3 h
      refine V_iconst (v := (-1)) dX6_readInto_165 rfl ?_
      exact V_iret dX6_readInto_166 rfl h
    · have h := h.2 c2
      refine V_aload_n 0 dX6_readInto_154 rfl ?_
      refine V_getf (v := .int (mem 3 1)) gf_X6_15 dX6_readInto_155 sh_a3 rfl ?_
      exact V_iret dX6_readInto_158 rfl h
set_option maxRecDepth 20000 in
theorem b_X6_steps_0 {d : Nat} {P : wf_Mem → Prop} (mem : wf_Mem) 
    (h : (∀ mem1 : wf_Mem, mem1 = wf_ms mem 3 2 (mem 3 3) → Vw (Nv (d + 1) P) mX6_steps 8 [(0, .ref 3)] [] mem1)) :
    Vw (Nv (d + 1) P) mX6_steps 0 [(0, .ref 3)] [] mem := by
  refine V_aload_n 0 dX6_steps_0 rfl ?_
  refine V_aload_n 0 dX6_steps_1 rfl ?_
  refine V_getf (v := .int (mem 3 3)) gf_X6_22 dX6_steps_2 sh_a3 rfl ?_
  refine V_putf pf_X6_19 dX6_steps_5 sh_a3 rfl rfl ?_
  refine V_topm (fun mem1 emem1 => ?_)
  have h := h mem1 emem1
  exact h
set_option maxRecDepth 20000 in
theorem b_X6_steps_8 {d : Nat} {P : wf_Mem → Prop} (mem : wf_Mem) 
    (h : (((mem 3 1) ≤ (mem 3 2) → Vw (Nv (d + 1) P) mX6_steps 46 [(0, .ref 3)] [] mem) ∧ (¬ (mem 3 1) ≤ (mem 3 2) → (vp_in (mem 3 2) 96 ∧ ((¬ (mem 4 (mem 3 2).toNatClampNeg) = 32 → Vw (Nv (d + 1) P) mX6_steps 46 [(0, .ref 3)] [] mem) ∧ ((mem 4 (mem 3 2).toNatClampNeg) = 32 → (∀ mem3 : wf_Mem, mem3 = wf_ms mem 3 2 ((mem 3 2) + 1) → Vw (Nv (d + 1) P) mX6_steps 8 [(0, .ref 3)] [] mem3))))))) :
    Vw (Nv (d + 1) P) mX6_steps 8 [(0, .ref 3)] [] mem := by
  refine V_aload_n 0 dX6_steps_8 rfl ?_
  refine V_getf (v := .int (mem 3 2)) gf_X6_19 dX6_steps_9 sh_a3 rfl ?_
  refine V_aload_n 0 dX6_steps_12 rfl ?_
  refine V_getf (v := .int (mem 3 1)) gf_X6_15 dX6_steps_13 sh_a3 rfl ?_
  refine V_icmp_ge (tgt := 46) dX6_steps_16 rfl ⟨fun c1 => ?_, fun c1 => ?_⟩
  · have h := h.1 c1
    exact h
  · have h := h.2 c1
    refine V_aload_n 0 dX6_steps_19 rfl ?_
    refine V_getf (v := .ref 4) gf_X6_9 dX6_steps_20 sh_a3 rfl ?_
    refine V_aload_n 0 dX6_steps_23 rfl ?_
    refine V_getf (v := .int (mem 3 2)) gf_X6_19 dX6_steps_24 sh_a3 rfl ?_
    refine V_iald dX6_steps_27 sh_a4 ⟨h.1, ?_⟩
    have h := h.2
    refine V_bipush (v := 32) dX6_steps_28 rfl ?_
    refine V_icmp_ne (tgt := 46) dX6_steps_30 rfl ⟨fun c2 => ?_, fun c2 => ?_⟩
    · have h := h.1 c2
      exact h
    · have h := h.2 c2
      refine V_aload_n 0 dX6_steps_33 rfl ?_
      refine V_dup dX6_steps_34 rfl ?_
      refine V_getf (v := .int (mem 3 2)) gf_X6_19 dX6_steps_35 sh_a3 rfl ?_
      refine V_iconst (v := 1) dX6_steps_38 rfl ?_
      refine V_iadd dX6_steps_39 ?_
      refine V_putf pf_X6_19 dX6_steps_40 sh_a3 rfl rfl ?_
      refine V_topm (fun mem3 emem3 => ?_)
      have h := h mem3 emem3
      refine V_goto (tgt := 8) dX6_steps_43 rfl ?_
      exact h
set_option maxRecDepth 20000 in
theorem b_X6_steps_46 {d : Nat} {P : wf_Mem → Prop} (mem : wf_Mem) 
    (h : (∀ mem1 : wf_Mem, mem1 = wf_ms mem 3 3 (if ((mem 3 2) + 1) < (mem 3 1) then ((mem 3 2) + 1) else (mem 3 1)) → (Ci mX6_sortHere d [.ref 3] mem1 (fun r3 mem2 => Vw (Nv (d + 1) P) mX6_steps 68 [(0, .ref 3), (1, .int r3)] [] mem2)))) :
    Vw (Nv (d + 1) P) mX6_steps 46 [(0, .ref 3)] [] mem := by
  refine V_aload_n 0 dX6_steps_46 rfl ?_
  refine V_aload_n 0 dX6_steps_47 rfl ?_
  refine V_getf (v := .int (mem 3 1)) gf_X6_15 dX6_steps_48 sh_a3 rfl ?_
  refine V_aload_n 0 dX6_steps_51 rfl ?_
  refine V_getf (v := .int (mem 3 2)) gf_X6_19 dX6_steps_52 sh_a3 rfl ?_
  refine V_iconst (v := 1) dX6_steps_55 rfl ?_
  refine V_iadd dX6_steps_56 ?_
  refine V_mmin w_191 wm_min dX6_steps_57 wf_rok_m (Nat.le_of_ble_eq_true rfl) ?_
  refine V_putf pf_X6_22 dX6_steps_60 sh_a3 rfl rfl ?_
  refine V_topm (fun mem1 emem1 => ?_)
  have h := h mem1 emem1
  refine V_aload_n 0 dX6_steps_63 rfl ?_
  refine V_cVi [] mv_X6_sortHere w_178 dX6_steps_64 wf_rok_m sh_a3 rfl (by decide) rfl rfl (Nat.le_of_ble_eq_true rfl) h ?_
  intro r3 mem2 h
  refine V_istore_n (lv' := [(0, .ref 3), (1, .int r3)]) dX6_steps_67 (by decide) rfl rfl ?_
  exact h
set_option maxRecDepth 20000 in
theorem b_X6_steps_68 {d : Nat} {P : wf_Mem → Prop} (mem : wf_Mem) (x1 : Int32)
    (h : ((x1 = 0 → P mem) ∧ (¬ x1 = 0 → (((mem 3 1) ≤ (mem 3 3) → P mem) ∧ (¬ (mem 3 1) ≤ (mem 3 3) → (vp_in (mem 3 3) 96 ∧ (Ci mX6_sortOf d [.int (mem 4 (mem 3 3).toNatClampNeg)] mem (fun r4 mem3 => ((¬ r4 = x1 → P mem3) ∧ (r4 = x1 → (∀ mem6 : wf_Mem, mem6 = wf_ms mem3 3 3 ((mem3 3 3) + 1) → Vw (Nv (d + 1) P) mX6_steps 68 [(0, .ref 3), (1, .int x1)] [] mem6))))))))))) :
    Vw (Nv (d + 1) P) mX6_steps 68 [(0, .ref 3), (1, .int x1)] [] mem := by
  refine V_iload_n 1 dX6_steps_68 rfl ?_
  refine V_if_eq (tgt := 112) dX6_steps_69 rfl ⟨fun c1 => ?_, fun c1 => ?_⟩
  · have h := h.1 c1
    exact V_vret dX6_steps_112 rfl h
  · have h := h.2 c1
    refine V_aload_n 0 dX6_steps_72 rfl ?_
    refine V_getf (v := .int (mem 3 3)) gf_X6_22 dX6_steps_73 sh_a3 rfl ?_
    refine V_aload_n 0 dX6_steps_76 rfl ?_
    refine V_getf (v := .int (mem 3 1)) gf_X6_15 dX6_steps_77 sh_a3 rfl ?_
    refine V_icmp_ge (tgt := 112) dX6_steps_80 rfl ⟨fun c2 => ?_, fun c2 => ?_⟩
    · have h := h.1 c2
      exact V_vret dX6_steps_112 rfl h
    · have h := h.2 c2
      refine V_aload_n 0 dX6_steps_83 rfl ?_
      refine V_getf (v := .ref 4) gf_X6_9 dX6_steps_84 sh_a3 rfl ?_
      refine V_aload_n 0 dX6_steps_87 rfl ?_
      refine V_getf (v := .int (mem 3 3)) gf_X6_22 dX6_steps_88 sh_a3 rfl ?_
      refine V_iald dX6_steps_91 sh_a4 ⟨h.1, ?_⟩
      have h := h.2
      refine V_cSi [.int (mem 4 (mem 3 3).toNatClampNeg)] ms_X6_sortOf w_194 dX6_steps_92 wf_rok_m rfl rfl (Nat.le_of_ble_eq_true rfl) h ?_
      intro r4 mem3 h
      refine V_iload_n 1 dX6_steps_95 rfl ?_
      refine V_icmp_ne (tgt := 112) dX6_steps_96 rfl ⟨fun c5 => ?_, fun c5 => ?_⟩
      · have h := h.1 c5
        exact V_vret dX6_steps_112 rfl h
      · have h := h.2 c5
        refine V_aload_n 0 dX6_steps_99 rfl ?_
        refine V_dup dX6_steps_100 rfl ?_
        refine V_getf (v := .int (mem3 3 3)) gf_X6_22 dX6_steps_101 sh_a3 rfl ?_
        refine V_iconst (v := 1) dX6_steps_104 rfl ?_
        refine V_iadd dX6_steps_105 ?_
        refine V_putf pf_X6_22 dX6_steps_106 sh_a3 rfl rfl ?_
        refine V_topm (fun mem6 emem6 => ?_)
        have h := h mem6 emem6
        refine V_goto (tgt := 68) dX6_steps_109 rfl ?_
        exact h
set_option maxRecDepth 20000 in
theorem b_X6_sortHere_0 {d : Nat} {P : Int32 → wf_Mem → Prop} (mem : wf_Mem) 
    (h : (((mem 3 1) ≤ (mem 3 2) → P 0 mem) ∧ (¬ (mem 3 1) ≤ (mem 3 2) → (vp_in (mem 3 2) 96 ∧ (Ci mX6_sortOf d [.int (mem 4 (mem 3 2).toNatClampNeg)] mem (fun r3 mem2 => P r3 mem2)))))) :
    Vw (Ni (d + 1) P) mX6_sortHere 0 [(0, .ref 3)] [] mem := by
  refine V_aload_n 0 dX6_sortHere_0 rfl ?_
  refine V_getf (v := .int (mem 3 2)) gf_X6_19 dX6_sortHere_1 sh_a3 rfl ?_
  refine V_aload_n 0 dX6_sortHere_4 rfl ?_
  refine V_getf (v := .int (mem 3 1)) gf_X6_15 dX6_sortHere_5 sh_a3 rfl ?_
  refine V_icmp_ge (tgt := 26) dX6_sortHere_8 rfl ⟨fun c1 => ?_, fun c1 => ?_⟩
  · have h := h.1 c1
    refine V_iconst (v := 0) dX6_sortHere_26 rfl ?_
    exact V_iret dX6_sortHere_27 rfl h
  · have h := h.2 c1
    refine V_aload_n 0 dX6_sortHere_11 rfl ?_
    refine V_getf (v := .ref 4) gf_X6_9 dX6_sortHere_12 sh_a3 rfl ?_
    refine V_aload_n 0 dX6_sortHere_15 rfl ?_
    refine V_getf (v := .int (mem 3 2)) gf_X6_19 dX6_sortHere_16 sh_a3 rfl ?_
    refine V_iald dX6_sortHere_19 sh_a4 ⟨h.1, ?_⟩
    have h := h.2
    refine V_cSi [.int (mem 4 (mem 3 2).toNatClampNeg)] ms_X6_sortOf w_194 dX6_sortHere_20 wf_rok_m rfl rfl (Nat.le_of_ble_eq_true rfl) h ?_
    intro r3 mem2 h
    refine V_goto (tgt := 27) dX6_sortHere_23 rfl ?_
    exact V_iret dX6_sortHere_27 rfl h
set_option maxRecDepth 20000 in
theorem b_X6_sortOf_0 {d : Nat} {P : Int32 → wf_Mem → Prop} (mem : wf_Mem) (x0 : Int32)
    (h : ((x0 < 97 → ((x0 < 48 → P 0 mem) ∧ (¬ x0 < 48 → ((57 < x0 → P 0 mem) ∧ (¬ 57 < x0 → P 2 mem))))) ∧ (¬ x0 < 97 → ((122 < x0 → ((x0 < 48 → P 0 mem) ∧ (¬ x0 < 48 → ((57 < x0 → P 0 mem) ∧ (¬ 57 < x0 → P 2 mem))))) ∧ (¬ 122 < x0 → P 1 mem))))) :
    Vw (Ni d P) mX6_sortOf 0 [(0, .int x0)] [] mem := by
  refine V_iload_n 0 dX6_sortOf_0 rfl ?_
  refine V_bipush (v := 97) dX6_sortOf_1 rfl ?_
  refine V_icmp_lt (tgt := 14) dX6_sortOf_3 rfl ⟨fun c1 => ?_, fun c1 => ?_⟩
  · have h := h.1 c1
    refine V_iload_n 0 dX6_sortOf_14 rfl ?_
    refine V_bipush (v := 48) dX6_sortOf_15 rfl ?_
    refine V_icmp_lt (tgt := 30) dX6_sortOf_17 rfl ⟨fun c2 => ?_, fun c2 => ?_⟩
    · have h := h.1 c2
      refine V_iconst (v := 0) dX6_sortOf_30 rfl ?_
      exact V_iret dX6_sortOf_31 rfl h
    · have h := h.2 c2
      refine V_iload_n 0 dX6_sortOf_20 rfl ?_
      refine V_bipush (v := 57) dX6_sortOf_21 rfl ?_
      refine V_icmp_gt (tgt := 30) dX6_sortOf_23 rfl ⟨fun c3 => ?_, fun c3 => ?_⟩
      · have h := h.1 c3
        refine V_iconst (v := 0) dX6_sortOf_30 rfl ?_
        exact V_iret dX6_sortOf_31 rfl h
      · have h := h.2 c3
        refine V_iconst (v := 2) dX6_sortOf_26 rfl ?_
        refine V_goto (tgt := 31) dX6_sortOf_27 rfl ?_
        exact V_iret dX6_sortOf_31 rfl h
  · have h := h.2 c1
    refine V_iload_n 0 dX6_sortOf_6 rfl ?_
    refine V_bipush (v := 122) dX6_sortOf_7 rfl ?_
    refine V_icmp_gt (tgt := 14) dX6_sortOf_9 rfl ⟨fun c4 => ?_, fun c4 => ?_⟩
    · have h := h.1 c4
      refine V_iload_n 0 dX6_sortOf_14 rfl ?_
      refine V_bipush (v := 48) dX6_sortOf_15 rfl ?_
      refine V_icmp_lt (tgt := 30) dX6_sortOf_17 rfl ⟨fun c5 => ?_, fun c5 => ?_⟩
      · have h := h.1 c5
        refine V_iconst (v := 0) dX6_sortOf_30 rfl ?_
        exact V_iret dX6_sortOf_31 rfl h
      · have h := h.2 c5
        refine V_iload_n 0 dX6_sortOf_20 rfl ?_
        refine V_bipush (v := 57) dX6_sortOf_21 rfl ?_
        refine V_icmp_gt (tgt := 30) dX6_sortOf_23 rfl ⟨fun c6 => ?_, fun c6 => ?_⟩
        · have h := h.1 c6
          refine V_iconst (v := 0) dX6_sortOf_30 rfl ?_
          exact V_iret dX6_sortOf_31 rfl h
        · have h := h.2 c6
          refine V_iconst (v := 2) dX6_sortOf_26 rfl ?_
          refine V_goto (tgt := 31) dX6_sortOf_27 rfl ?_
          exact V_iret dX6_sortOf_31 rfl h
    · have h := h.2 c4
      refine V_iconst (v := 1) dX6_sortOf_12 rfl ?_
      exact V_iret dX6_sortOf_13 rfl h
set_option maxRecDepth 20000 in
theorem b_X6_keyHere_0 {d : Nat} {P : Int32 → wf_Mem → Prop} (mem : wf_Mem) 
    (h : (Ci mX6_isHere d [.ref 3, .ref (100000 + 2 * 0)] mem (fun r2 mem1 => ((r2 = 0 → (Ci mX6_isHere d [.ref 3, .ref (100000 + 2 * 1)] mem1 (fun r5 mem4 => ((r5 = 0 → (Ci mX6_isHere d [.ref 3, .ref (100000 + 2 * 2)] mem4 (fun r8 mem7 => ((r8 = 0 → P (-1) mem7) ∧ (¬ r8 = 0 → P 2 mem7))))) ∧ (¬ r5 = 0 → P 1 mem4))))) ∧ (¬ r2 = 0 → P 0 mem1))))) :
    Vw (Ni (d + 1) P) mX6_keyHere 0 [(0, .ref 3)] [] mem := by
  refine V_aload_n 0 dX6_keyHere_0 rfl ?_
  refine V_sref (a := 100000 + 2 * 0) (fun G U h => h.2.2.2.2.1.1) dX6_keyHere_1 ?_
  refine V_cVi [.ref (100000 + 2 * 0)] mv_X6_isHere w_198 dX6_keyHere_3 wf_rok_m sh_a3 rfl (by decide) rfl rfl (Nat.le_of_ble_eq_true rfl) h ?_
  intro r2 mem1 h
  refine V_if_eq (tgt := 11) dX6_keyHere_6 rfl ⟨fun c3 => ?_, fun c3 => ?_⟩
  · have h := h.1 c3
    refine V_aload_n 0 dX6_keyHere_11 rfl ?_
    refine V_sref (a := 100000 + 2 * 1) (fun G U h => h.2.2.2.2.1.2.1) dX6_keyHere_12 ?_
    refine V_cVi [.ref (100000 + 2 * 1)] mv_X6_isHere w_198 dX6_keyHere_14 wf_rok_m sh_a3 rfl (by decide) rfl rfl (Nat.le_of_ble_eq_true rfl) h ?_
    intro r5 mem4 h
    refine V_if_eq (tgt := 22) dX6_keyHere_17 rfl ⟨fun c6 => ?_, fun c6 => ?_⟩
    · have h := h.1 c6
      refine V_aload_n 0 dX6_keyHere_22 rfl ?_
      refine V_sref (a := 100000 + 2 * 2) (fun G U h => h.2.2.2.2.1.2.2.1) dX6_keyHere_23 ?_
      refine V_cVi [.ref (100000 + 2 * 2)] mv_X6_isHere w_198 dX6_keyHere_25 wf_rok_m sh_a3 rfl (by decide) rfl rfl (Nat.le_of_ble_eq_true rfl) h ?_
      intro r8 mem7 h
      refine V_if_eq (tgt := 35) dX6_keyHere_28 rfl ⟨fun c9 => ?_, fun c9 => ?_⟩
      · have h := h.1 c9
        refine V_iconst (v := (-1)) dX6_keyHere_35 rfl ?_
        exact V_iret dX6_keyHere_36 rfl h
      · have h := h.2 c9
        refine V_iconst (v := 2) dX6_keyHere_31 rfl ?_
        refine V_goto (tgt := 36) dX6_keyHere_32 rfl ?_
        exact V_iret dX6_keyHere_36 rfl h
    · have h := h.2 c6
      refine V_iconst (v := 1) dX6_keyHere_20 rfl ?_
      exact V_iret dX6_keyHere_21 rfl h
  · have h := h.2 c3
    refine V_iconst (v := 0) dX6_keyHere_9 rfl ?_
    exact V_iret dX6_keyHere_10 rfl h
set_option maxRecDepth 20000 in
theorem b_X6_isHere_0 {d : Nat} {P : Int32 → wf_Mem → Prop} (mem : wf_Mem) (x1 : Nat) (hx1 : x1 < 6)
    (h : (Ci mJ0_length_8abf5 d [.ref (100000 + 2 * x1)] mem (fun r2 mem1 => ((((mem 3 3) - (mem 3 2)) = r2 → Vw (Ni (d + 1) P) mX6_isHere 20 [(0, .ref 3), (1, .ref (100000 + 2 * x1)), (2, .int 0)] [] mem1) ∧ (¬ ((mem 3 3) - (mem 3 2)) = r2 → P 0 mem1))))) :
    Vw (Ni (d + 1) P) mX6_isHere 0 [(0, .ref 3), (1, .ref (100000 + 2 * x1))] [] mem := by
  refine V_aload_n 0 dX6_isHere_0 rfl ?_
  refine V_getf (v := .int (mem 3 3)) gf_X6_22 dX6_isHere_1 sh_a3 rfl ?_
  refine V_aload_n 0 dX6_isHere_4 rfl ?_
  refine V_getf (v := .int (mem 3 2)) gf_X6_19 dX6_isHere_5 sh_a3 rfl ?_
  refine V_isub dX6_isHere_8 ?_
  refine V_aload_n 1 dX6_isHere_9 rfl ?_
  refine V_cXi [] hx1 rfl mv_J0_length_8abf5 w_203 dX6_isHere_10 wf_rok_m rfl rfl (Nat.le_of_ble_eq_true rfl) h ?_
  intro r2 mem1 h
  refine V_icmp_eq (tgt := 18) dX6_isHere_13 rfl ⟨fun c3 => ?_, fun c3 => ?_⟩
  · have h := h.1 c3
    refine V_iconst (v := 0) dX6_isHere_18 rfl ?_
    refine V_istore_n (lv' := [(0, .ref 3), (1, .ref (100000 + 2 * x1)), (2, .int 0)]) dX6_isHere_19 (by decide) rfl rfl ?_
    exact h
  · have h := h.2 c3
    refine V_iconst (v := 0) dX6_isHere_16 rfl ?_
    exact V_zret dX6_isHere_17 rfl rfl h
set_option maxRecDepth 20000 in
theorem b_X6_isHere_20 {d : Nat} {P : Int32 → wf_Mem → Prop} (mem : wf_Mem) (x1 : Nat) (hx1 : x1 < 6) (x2 : Int32)
    (h : (Ci mJ0_length_8abf5 d [.ref (100000 + 2 * x1)] mem (fun r2 mem1 => ((r2 ≤ x2 → P 1 mem1) ∧ (¬ r2 ≤ x2 → (vp_in ((mem1 3 2) + x2) 96 ∧ (Ci mJ0_charAt_5068e d [.ref (100000 + 2 * x1), .int x2] mem1 (fun r5 mem4 => (((mem1 4 ((mem1 3 2) + x2).toNatClampNeg) = r5 → Vw (Ni (d + 1) P) mX6_isHere 20 [(0, .ref 3), (1, .ref (100000 + 2 * x1)), (2, .int (x2 + 1))] [] mem4) ∧ (¬ (mem1 4 ((mem1 3 2) + x2).toNatClampNeg) = r5 → P 0 mem4)))))))))) :
    Vw (Ni (d + 1) P) mX6_isHere 20 [(0, .ref 3), (1, .ref (100000 + 2 * x1)), (2, .int x2)] [] mem := by
  refine V_iload_n 2 dX6_isHere_20 rfl ?_
  refine V_aload_n 1 dX6_isHere_21 rfl ?_
  refine V_cXi [] hx1 rfl mv_J0_length_8abf5 w_203 dX6_isHere_22 wf_rok_m rfl rfl (Nat.le_of_ble_eq_true rfl) h ?_
  intro r2 mem1 h
  refine V_icmp_ge (tgt := 55) dX6_isHere_25 rfl ⟨fun c3 => ?_, fun c3 => ?_⟩
  · have h := h.1 c3
    refine V_iconst (v := 1) dX6_isHere_55 rfl ?_
    exact V_zret dX6_isHere_56 rfl rfl h
  · have h := h.2 c3
    refine V_aload_n 0 dX6_isHere_28 rfl ?_
    refine V_getf (v := .ref 4) gf_X6_9 dX6_isHere_29 sh_a3 rfl ?_
    refine V_aload_n 0 dX6_isHere_32 rfl ?_
    refine V_getf (v := .int (mem1 3 2)) gf_X6_19 dX6_isHere_33 sh_a3 rfl ?_
    refine V_iload_n 2 dX6_isHere_36 rfl ?_
    refine V_iadd dX6_isHere_37 ?_
    refine V_iald dX6_isHere_38 sh_a4 ⟨h.1, ?_⟩
    have h := h.2
    refine V_aload_n 1 dX6_isHere_39 rfl ?_
    refine V_iload_n 2 dX6_isHere_40 rfl ?_
    refine V_cXi [.int x2] hx1 rfl mv_J0_charAt_5068e w_207 dX6_isHere_41 wf_rok_m rfl rfl (Nat.le_of_ble_eq_true rfl) h ?_
    intro r5 mem4 h
    refine V_icmp_eq (tgt := 49) dX6_isHere_44 rfl ⟨fun c6 => ?_, fun c6 => ?_⟩
    · have h := h.1 c6
      refine V_iinc (v := (x2 + 1)) (lv' := [(0, .ref 3), (1, .ref (100000 + 2 * x1)), (2, .int (x2 + 1))]) 2 dX6_isHere_49 rfl rfl (by decide) rfl rfl ?_
      refine V_goto (tgt := 20) dX6_isHere_52 rfl ?_
      exact h
    · have h := h.2 c6
      refine V_iconst (v := 0) dX6_isHere_47 rfl ?_
      exact V_zret dX6_isHere_48 rfl rfl h
set_option maxRecDepth 20000 in
theorem b_X6_takesPiece_0 {d : Nat} {P : Int32 → wf_Mem → Prop} (mem : wf_Mem) (x1 : Nat) (hx1 : wf_sh x1 = (2, 0))
    (h : (Ci mX6_sortHere d [.ref 3] mem (fun r2 mem1 => ((r2 = 1 → (Ci mX6_takesName d [.ref 3, .ref x1] mem1 (fun r5 mem4 => ((r5 = 0 ∨ r5 = 1) ∧ P r5 mem4)))) ∧ (¬ r2 = 1 → ((r2 = 2 → (Ci mX6_takesDigits d [.ref 3, .ref x1] mem1 (fun r8 mem7 => ((r8 = 0 ∨ r8 = 1) ∧ P r8 mem7)))) ∧ (¬ r2 = 2 → (vp_in (mem1 3 2) 96 ∧ (Ci mX6_opens d [.ref 3, .int (mem1 4 (mem1 3 2).toNatClampNeg)] mem1 (fun r10 mem9 => ((r10 = 0 ∨ r10 = 1) ∧ P r10 mem9))))))))))) :
    Vw (Ni (d + 1) P) mX6_takesPiece 0 [(0, .ref 3), (1, .ref x1)] [] mem := by
  refine V_aload_n 0 dX6_takesPiece_0 rfl ?_
  refine V_cVi [] mv_X6_sortHere w_178 dX6_takesPiece_1 wf_rok_m sh_a3 rfl (by decide) rfl rfl (Nat.le_of_ble_eq_true rfl) h ?_
  intro r2 mem1 h
  refine V_lswc [(1, 32), (2, 38)] 44 dX6_takesPiece_4 (by decide +kernel) (by decide +kernel) ?_
  refine And.intro (fun c3 => ?_) (fun c3 => ?_)
  · have h := h.1 c3
    show Vw _ _ 32 _ _ _
    refine V_aload_n 0 dX6_takesPiece_32 rfl ?_
    refine V_aload_n 1 dX6_takesPiece_33 rfl ?_
    refine V_cVi [.ref x1] mv_X6_takesName w_211 dX6_takesPiece_34 wf_rok_m sh_a3 rfl (by decide) rfl rfl (Nat.le_of_ble_eq_true rfl) h ?_
    intro r5 mem4 h
    exact V_zret dX6_takesPiece_37 rfl (wf_nb h.1) h.2
  · have h := h.2 c3
    refine And.intro (fun c6 => ?_) (fun c6 => ?_)
    · have h := h.1 c6
      show Vw _ _ 38 _ _ _
      refine V_aload_n 0 dX6_takesPiece_38 rfl ?_
      refine V_aload_n 1 dX6_takesPiece_39 rfl ?_
      refine V_cVi [.ref x1] mv_X6_takesDigits w_215 dX6_takesPiece_40 wf_rok_m sh_a3 rfl (by decide) rfl rfl (Nat.le_of_ble_eq_true rfl) h ?_
      intro r8 mem7 h
      exact V_zret dX6_takesPiece_43 rfl (wf_nb h.1) h.2
    · have h := h.2 c6
      show Vw _ _ 44 _ _ _
      refine V_aload_n 0 dX6_takesPiece_44 rfl ?_
      refine V_aload_n 0 dX6_takesPiece_45 rfl ?_
      refine V_getf (v := .ref 4) gf_X6_9 dX6_takesPiece_46 sh_a3 rfl ?_
      refine V_aload_n 0 dX6_takesPiece_49 rfl ?_
      refine V_getf (v := .int (mem1 3 2)) gf_X6_19 dX6_takesPiece_50 sh_a3 rfl ?_
      refine V_iald dX6_takesPiece_53 sh_a4 ⟨h.1, ?_⟩
      have h := h.2
      refine V_cVi [.int (mem1 4 (mem1 3 2).toNatClampNeg)] mv_X6_opens w_219 dX6_takesPiece_54 wf_rok_m sh_a3 rfl (by decide) rfl rfl (Nat.le_of_ble_eq_true rfl) h ?_
      intro r10 mem9 h
      exact V_zret dX6_takesPiece_57 rfl (wf_nb h.1) h.2
set_option maxRecDepth 20000 in
theorem b_X6_takesName_0 {d : Nat} {P : Int32 → wf_Mem → Prop} (mem : wf_Mem) (x1 : Nat) (hx1 : wf_sh x1 = (2, 0))
    (h : (Ca mX6_namesOf d [.int (mem x1 0)] mem (fun q3 mem1 => ∃ a2 : Nat, a2 < 6 ∧ q3 = 100000 + 2 * a2 ∧ (vp_in (mem1 3 2) 96 ∧ (Ci mJ0_indexOf_0f7a4 d [.ref (100000 + 2 * a2), .int (((mem1 4 (mem1 3 2).toNatClampNeg).toUInt32 % 65536).toInt32)] mem1 (fun r5 mem4 => ((¬ ((mem4 3 3) - (mem4 3 2)) = 1 → P 0 mem4) ∧ (((mem4 3 3) - (mem4 3 2)) = 1 → ((0 ≤ r5 → (Cv mX2_addName d [.ref x1, .int r5] mem4 (fun mem8 => (Cv mX6_endsPiece d [.ref 3, .ref x1] mem8 (fun mem9 => P 1 mem9))))) ∧ (¬ 0 ≤ r5 → P 0 mem4)))))))))) :
    Vw (Ni (d + 1) P) mX6_takesName 0 [(0, .ref 3), (1, .ref x1)] [] mem := by
  refine V_aload_n 1 dX6_takesName_0 rfl ?_
  refine V_getf (v := .int (mem x1 0)) gf_X6_107 dX6_takesName_1 hx1 rfl ?_
  refine V_cSa [.int (mem x1 0)] ms_X6_namesOf w_223 dX6_takesName_4 wf_rok_m rfl rfl (Nat.le_of_ble_eq_true rfl) h ?_
  rintro q3 mem1 ⟨a2, ha2, rfl, h⟩
  refine V_aload_n 0 dX6_takesName_7 rfl ?_
  refine V_getf (v := .ref 4) gf_X6_9 dX6_takesName_8 sh_a3 rfl ?_
  refine V_aload_n 0 dX6_takesName_11 rfl ?_
  refine V_getf (v := .int (mem1 3 2)) gf_X6_19 dX6_takesName_12 sh_a3 rfl ?_
  refine V_iald dX6_takesName_15 sh_a4 ⟨h.1, ?_⟩
  have h := h.2
  refine V_i2c dX6_takesName_16 ?_
  refine V_cXi [.int (((mem1 4 (mem1 3 2).toNatClampNeg).toUInt32 % 65536).toInt32)] ha2 rfl mv_J0_indexOf_0f7a4 w_227 dX6_takesName_17 wf_rok_m rfl rfl (Nat.le_of_ble_eq_true rfl) h ?_
  intro r5 mem4 h
  refine V_istore_n (lv' := [(0, .ref 3), (1, .ref x1), (2, .int r5)]) dX6_takesName_20 (by decide) rfl rfl ?_
  refine V_aload_n 0 dX6_takesName_21 rfl ?_
  refine V_getf (v := .int (mem4 3 3)) gf_X6_22 dX6_takesName_22 sh_a3 rfl ?_
  refine V_aload_n 0 dX6_takesName_25 rfl ?_
  refine V_getf (v := .int (mem4 3 2)) gf_X6_19 dX6_takesName_26 sh_a3 rfl ?_
  refine V_isub dX6_takesName_29 ?_
  refine V_iconst (v := 1) dX6_takesName_30 rfl ?_
  refine V_icmp_ne (tgt := 38) dX6_takesName_31 rfl ⟨fun c6 => ?_, fun c6 => ?_⟩
  · have h := h.1 c6
    refine V_iconst (v := 0) dX6_takesName_38 rfl ?_
    exact V_zret dX6_takesName_39 rfl rfl h
  · have h := h.2 c6
    refine V_iload_n 2 dX6_takesName_34 rfl ?_
    refine V_if_ge (tgt := 40) dX6_takesName_35 rfl ⟨fun c7 => ?_, fun c7 => ?_⟩
    · have h := h.1 c7
      refine V_aload_n 1 dX6_takesName_40 rfl ?_
      refine V_iload_n 2 dX6_takesName_41 rfl ?_
      refine V_cVv [.int r5] mv_X2_addName w_231 dX6_takesName_42 wf_rok_m hx1 rfl (by decide) rfl rfl (Nat.le_of_ble_eq_true rfl) h ?_
      intro mem8 h
      refine V_aload_n 0 dX6_takesName_45 rfl ?_
      refine V_aload_n 1 dX6_takesName_46 rfl ?_
      refine V_cVv [.ref x1] mv_X6_endsPiece w_235 dX6_takesName_47 wf_rok_m sh_a3 rfl (by decide) rfl rfl (Nat.le_of_ble_eq_true rfl) h ?_
      intro mem9 h
      refine V_iconst (v := 1) dX6_takesName_50 rfl ?_
      exact V_zret dX6_takesName_51 rfl rfl h
    · have h := h.2 c7
      refine V_iconst (v := 0) dX6_takesName_38 rfl ?_
      exact V_zret dX6_takesName_39 rfl rfl h
set_option maxRecDepth 20000 in
theorem b_X6_namesOf_0 {d : Nat} {P : Nat → wf_Mem → Prop} (mem : wf_Mem) (x0 : Int32)
    (h : ((¬ x0 = 0 → ((¬ x0 = 1 → P (100000 + 2 * 5) mem) ∧ (x0 = 1 → P (100000 + 2 * 4) mem))) ∧ (x0 = 0 → P (100000 + 2 * 3) mem))) :
    Vw (Na d P) mX6_namesOf 0 [(0, .int x0)] [] mem := by
  refine V_iload_n 0 dX6_namesOf_0 rfl ?_
  refine V_if_ne (tgt := 7) dX6_namesOf_1 rfl ⟨fun c1 => ?_, fun c1 => ?_⟩
  · have h := h.1 c1
    refine V_iload_n 0 dX6_namesOf_7 rfl ?_
    refine V_iconst (v := 1) dX6_namesOf_8 rfl ?_
    refine V_icmp_ne (tgt := 17) dX6_namesOf_9 rfl ⟨fun c2 => ?_, fun c2 => ?_⟩
    · have h := h.1 c2
      refine V_sref (a := 100000 + 2 * 5) (fun G U h => h.2.2.2.2.1.2.2.2.2.2) dX6_namesOf_17 ?_
      exact V_aret dX6_namesOf_19 rfl (Or.inl ⟨_, rfl⟩) h
    · have h := h.2 c2
      refine V_sref (a := 100000 + 2 * 4) (fun G U h => h.2.2.2.2.1.2.2.2.2.1) dX6_namesOf_12 ?_
      refine V_goto (tgt := 19) dX6_namesOf_14 rfl ?_
      exact V_aret dX6_namesOf_19 rfl (Or.inl ⟨_, rfl⟩) h
  · have h := h.2 c1
    refine V_sref (a := 100000 + 2 * 3) (fun G U h => h.2.2.2.2.1.2.2.2.1) dX6_namesOf_4 ?_
    exact V_aret dX6_namesOf_6 rfl (Or.inl ⟨_, rfl⟩) h
set_option maxRecDepth 20000 in
theorem b_X6_takesDigits_0 {d : Nat} {P : Int32 → wf_Mem → Prop} (mem : wf_Mem) (x1 : Nat) (hx1 : wf_sh x1 = (2, 0))
    (h : ((((mem 3 3) - (mem 3 2)) ≤ 4 → (∀ x3_2 : Int32, x3_2 = (mem 3 2) → Vw (Ni (d + 1) P) mX6_takesDigits 22 [(0, .ref 3), (1, .ref x1), (2, .int 0), (3, .int x3_2)] [] mem)) ∧ (¬ ((mem 3 3) - (mem 3 2)) ≤ 4 → P 0 mem))) :
    Vw (Ni (d + 1) P) mX6_takesDigits 0 [(0, .ref 3), (1, .ref x1)] [] mem := by
  refine V_aload_n 0 dX6_takesDigits_0 rfl ?_
  refine V_getf (v := .int (mem 3 3)) gf_X6_22 dX6_takesDigits_1 sh_a3 rfl ?_
  refine V_aload_n 0 dX6_takesDigits_4 rfl ?_
  refine V_getf (v := .int (mem 3 2)) gf_X6_19 dX6_takesDigits_5 sh_a3 rfl ?_
  refine V_isub dX6_takesDigits_8 ?_
  refine V_iconst (v := 4) dX6_takesDigits_9 rfl ?_
  refine V_icmp_le (tgt := 15) dX6_takesDigits_10 rfl ⟨fun c1 => ?_, fun c1 => ?_⟩
  · have h := h.1 c1
    refine V_iconst (v := 0) dX6_takesDigits_15 rfl ?_
    refine V_istore_n (lv' := [(0, .ref 3), (1, .ref x1), (2, .int 0)]) dX6_takesDigits_16 (by decide) rfl rfl ?_
    refine V_aload_n 0 dX6_takesDigits_17 rfl ?_
    refine V_getf (v := .int (mem 3 2)) gf_X6_19 dX6_takesDigits_18 sh_a3 rfl ?_
    refine V_topi (fun x3_2 ex3_2 => ?_)
    have h := h x3_2 ex3_2
    refine V_istore_n (lv' := [(0, .ref 3), (1, .ref x1), (2, .int 0), (3, .int x3_2)]) dX6_takesDigits_21 (by decide) rfl rfl ?_
    exact h
  · have h := h.2 c1
    refine V_iconst (v := 0) dX6_takesDigits_13 rfl ?_
    exact V_zret dX6_takesDigits_14 rfl rfl h
set_option maxRecDepth 20000 in
theorem b_X6_takesDigits_22 {d : Nat} {P : Int32 → wf_Mem → Prop} (mem : wf_Mem) (x1 : Nat) (hx1 : wf_sh x1 = (2, 0)) (x2 : Int32) (x3 : Int32)
    (h : (((mem 3 3) ≤ x3 → (Cv mX2_addNumber d [.ref x1, .int x2] mem (fun mem2 => (Cv mX6_endsPiece d [.ref 3, .ref x1] mem2 (fun mem3 => P 1 mem3))))) ∧ (¬ (mem 3 3) ≤ x3 → (vp_in x3 96 ∧ (∀ x2_4 : Int32, x2_4 = (((10 * x2) + (mem 4 x3.toNatClampNeg)) - 48) → Vw (Ni (d + 1) P) mX6_takesDigits 22 [(0, .ref 3), (1, .ref x1), (2, .int x2_4), (3, .int (x3 + 1))] [] mem))))) :
    Vw (Ni (d + 1) P) mX6_takesDigits 22 [(0, .ref 3), (1, .ref x1), (2, .int x2), (3, .int x3)] [] mem := by
  refine V_iload_n 3 dX6_takesDigits_22 rfl ?_
  refine V_aload_n 0 dX6_takesDigits_23 rfl ?_
  refine V_getf (v := .int (mem 3 3)) gf_X6_22 dX6_takesDigits_24 sh_a3 rfl ?_
  refine V_icmp_ge (tgt := 51) dX6_takesDigits_27 rfl ⟨fun c1 => ?_, fun c1 => ?_⟩
  · have h := h.1 c1
    refine V_aload_n 1 dX6_takesDigits_51 rfl ?_
    refine V_iload_n 2 dX6_takesDigits_52 rfl ?_
    refine V_cVv [.int x2] mv_X2_addNumber w_239 dX6_takesDigits_53 wf_rok_m hx1 rfl (by decide) rfl rfl (Nat.le_of_ble_eq_true rfl) h ?_
    intro mem2 h
    refine V_aload_n 0 dX6_takesDigits_56 rfl ?_
    refine V_aload_n 1 dX6_takesDigits_57 rfl ?_
    refine V_cVv [.ref x1] mv_X6_endsPiece w_235 dX6_takesDigits_58 wf_rok_m sh_a3 rfl (by decide) rfl rfl (Nat.le_of_ble_eq_true rfl) h ?_
    intro mem3 h
    refine V_iconst (v := 1) dX6_takesDigits_61 rfl ?_
    exact V_zret dX6_takesDigits_62 rfl rfl h
  · have h := h.2 c1
    refine V_bipush (v := 10) dX6_takesDigits_30 rfl ?_
    refine V_iload_n 2 dX6_takesDigits_32 rfl ?_
    refine V_imul dX6_takesDigits_33 ?_
    refine V_aload_n 0 dX6_takesDigits_34 rfl ?_
    refine V_getf (v := .ref 4) gf_X6_9 dX6_takesDigits_35 sh_a3 rfl ?_
    refine V_iload_n 3 dX6_takesDigits_38 rfl ?_
    refine V_iald dX6_takesDigits_39 sh_a4 ⟨h.1, ?_⟩
    have h := h.2
    refine V_iadd dX6_takesDigits_40 ?_
    refine V_bipush (v := 48) dX6_takesDigits_41 rfl ?_
    refine V_isub dX6_takesDigits_43 ?_
    refine V_topi (fun x2_4 ex2_4 => ?_)
    have h := h x2_4 ex2_4
    refine V_istore_n (lv' := [(0, .ref 3), (1, .ref x1), (2, .int x2_4), (3, .int x3)]) dX6_takesDigits_44 (by decide) rfl rfl ?_
    refine V_iinc (v := (x3 + 1)) (lv' := [(0, .ref 3), (1, .ref x1), (2, .int x2_4), (3, .int (x3 + 1))]) 3 dX6_takesDigits_45 rfl rfl (by decide) rfl rfl ?_
    refine V_goto (tgt := 22) dX6_takesDigits_48 rfl ?_
    exact h
set_option maxRecDepth 20000 in
theorem b_X6_opens_0 {d : Nat} {P : Int32 → wf_Mem → Prop} (mem : wf_Mem) (x1 : Int32)
    (h : ((¬ x1 = 40 → Vw (Ni (d + 1) P) mX6_opens 28 [(0, .ref 3), (1, .int x1)] [] mem) ∧ (x1 = 40 → ((8 ≤ (mem 3 6) → Vw (Ni (d + 1) P) mX6_opens 28 [(0, .ref 3), (1, .int x1)] [] mem) ∧ (¬ 8 ≤ (mem 3 6) → (∀ mem3 : wf_Mem, mem3 = wf_ms mem 3 6 ((mem 3 6) + 1) → (Cv mX6_pushes d [.ref 3, .int x1] mem3 (fun mem4 => P 1 mem4)))))))) :
    Vw (Ni (d + 1) P) mX6_opens 0 [(0, .ref 3), (1, .int x1)] [] mem := by
  refine V_iload_n 1 dX6_opens_0 rfl ?_
  refine V_bipush (v := 40) dX6_opens_1 rfl ?_
  refine V_icmp_ne (tgt := 28) dX6_opens_3 rfl ⟨fun c1 => ?_, fun c1 => ?_⟩
  · have h := h.1 c1
    exact h
  · have h := h.2 c1
    refine V_aload_n 0 dX6_opens_6 rfl ?_
    refine V_getf (v := .int (mem 3 6)) gf_X6_31 dX6_opens_7 sh_a3 rfl ?_
    refine V_bipush (v := 8) dX6_opens_10 rfl ?_
    refine V_icmp_ge (tgt := 28) dX6_opens_12 rfl ⟨fun c2 => ?_, fun c2 => ?_⟩
    · have h := h.1 c2
      exact h
    · have h := h.2 c2
      refine V_aload_n 0 dX6_opens_15 rfl ?_
      refine V_dup dX6_opens_16 rfl ?_
      refine V_getf (v := .int (mem 3 6)) gf_X6_31 dX6_opens_17 sh_a3 rfl ?_
      refine V_iconst (v := 1) dX6_opens_20 rfl ?_
      refine V_iadd dX6_opens_21 ?_
      refine V_putf pf_X6_31 dX6_opens_22 sh_a3 rfl rfl ?_
      refine V_topm (fun mem3 emem3 => ?_)
      have h := h mem3 emem3
      refine V_goto (tgt := 58) dX6_opens_25 rfl ?_
      refine V_aload_n 0 dX6_opens_58 rfl ?_
      refine V_iload_n 1 dX6_opens_59 rfl ?_
      refine V_cVv [.int x1] mv_X6_pushes w_243 dX6_opens_60 wf_rok_m sh_a3 rfl (by decide) rfl rfl (Nat.le_of_ble_eq_true rfl) h ?_
      intro mem4 h
      refine V_iconst (v := 1) dX6_opens_63 rfl ?_
      exact V_zret dX6_opens_64 rfl rfl h
set_option maxRecDepth 20000 in
theorem b_X6_opens_28 {d : Nat} {P : Int32 → wf_Mem → Prop} (mem : wf_Mem) (x1 : Int32)
    (h : ((¬ x1 = 33 → P 0 mem) ∧ (x1 = 33 → ((8 ≤ (mem 3 7) → P 0 mem) ∧ (¬ 8 ≤ (mem 3 7) → (∀ mem3 : wf_Mem, mem3 = wf_ms mem 3 7 ((mem 3 7) + 1) → (Cv mX6_pushes d [.ref 3, .int x1] mem3 (fun mem4 => P 1 mem4)))))))) :
    Vw (Ni (d + 1) P) mX6_opens 28 [(0, .ref 3), (1, .int x1)] [] mem := by
  refine V_iload_n 1 dX6_opens_28 rfl ?_
  refine V_bipush (v := 33) dX6_opens_29 rfl ?_
  refine V_icmp_ne (tgt := 56) dX6_opens_31 rfl ⟨fun c1 => ?_, fun c1 => ?_⟩
  · have h := h.1 c1
    refine V_iconst (v := 0) dX6_opens_56 rfl ?_
    exact V_zret dX6_opens_57 rfl rfl h
  · have h := h.2 c1
    refine V_aload_n 0 dX6_opens_34 rfl ?_
    refine V_getf (v := .int (mem 3 7)) gf_X6_34 dX6_opens_35 sh_a3 rfl ?_
    refine V_bipush (v := 8) dX6_opens_38 rfl ?_
    refine V_icmp_ge (tgt := 56) dX6_opens_40 rfl ⟨fun c2 => ?_, fun c2 => ?_⟩
    · have h := h.1 c2
      refine V_iconst (v := 0) dX6_opens_56 rfl ?_
      exact V_zret dX6_opens_57 rfl rfl h
    · have h := h.2 c2
      refine V_aload_n 0 dX6_opens_43 rfl ?_
      refine V_dup dX6_opens_44 rfl ?_
      refine V_getf (v := .int (mem 3 7)) gf_X6_34 dX6_opens_45 sh_a3 rfl ?_
      refine V_iconst (v := 1) dX6_opens_48 rfl ?_
      refine V_iadd dX6_opens_49 ?_
      refine V_putf pf_X6_34 dX6_opens_50 sh_a3 rfl rfl ?_
      refine V_topm (fun mem3 emem3 => ?_)
      have h := h mem3 emem3
      refine V_goto (tgt := 58) dX6_opens_53 rfl ?_
      refine V_aload_n 0 dX6_opens_58 rfl ?_
      refine V_iload_n 1 dX6_opens_59 rfl ?_
      refine V_cVv [.int x1] mv_X6_pushes w_243 dX6_opens_60 wf_rok_m sh_a3 rfl (by decide) rfl rfl (Nat.le_of_ble_eq_true rfl) h ?_
      intro mem4 h
      refine V_iconst (v := 1) dX6_opens_63 rfl ?_
      exact V_zret dX6_opens_64 rfl rfl h
set_option maxRecDepth 20000 in
theorem b_X6_pushes_0 {d : Nat} {P : wf_Mem → Prop} (mem : wf_Mem) (x1 : Int32)
    (h : ((96 ≤ (mem 3 5) → P mem) ∧ (¬ 96 ≤ (mem 3 5) → (vp_in (mem 3 5) 96 ∧ ∀ mem2 : wf_Mem, mem2 = wf_ms mem 5 (mem 3 5).toNatClampNeg x1 → (∀ mem3 : wf_Mem, mem3 = wf_ms mem2 3 5 ((mem2 3 5) + 1) → P mem3))))) :
    Vw (Nv d P) mX6_pushes 0 [(0, .ref 3), (1, .int x1)] [] mem := by
  refine V_aload_n 0 dX6_pushes_0 rfl ?_
  refine V_getf (v := .int (mem 3 5)) gf_X6_28 dX6_pushes_1 sh_a3 rfl ?_
  refine V_aload_n 0 dX6_pushes_4 rfl ?_
  refine V_getf (v := .ref 5) gf_X6_25 dX6_pushes_5 sh_a3 rfl ?_
  refine V_alen (v := 96) dX6_pushes_8 sh_a5 rfl ?_
  refine V_icmp_ge (tgt := 32) dX6_pushes_9 rfl ⟨fun c1 => ?_, fun c1 => ?_⟩
  · have h := h.1 c1
    exact V_vret dX6_pushes_32 rfl h
  · have h := h.2 c1
    refine V_aload_n 0 dX6_pushes_12 rfl ?_
    refine V_getf (v := .ref 5) gf_X6_25 dX6_pushes_13 sh_a3 rfl ?_
    refine V_aload_n 0 dX6_pushes_16 rfl ?_
    refine V_getf (v := .int (mem 3 5)) gf_X6_28 dX6_pushes_17 sh_a3 rfl ?_
    refine V_iload_n 1 dX6_pushes_20 rfl ?_
    refine V_iast dX6_pushes_21 sh_a5 ⟨h.1, ?_⟩
    refine V_topm (fun mem2 emem2 => ?_)
    have h := h.2 mem2 emem2
    refine V_aload_n 0 dX6_pushes_22 rfl ?_
    refine V_dup dX6_pushes_23 rfl ?_
    refine V_getf (v := .int (mem2 3 5)) gf_X6_28 dX6_pushes_24 sh_a3 rfl ?_
    refine V_iconst (v := 1) dX6_pushes_27 rfl ?_
    refine V_iadd dX6_pushes_28 ?_
    refine V_putf pf_X6_28 dX6_pushes_29 sh_a3 rfl rfl ?_
    refine V_topm (fun mem3 emem3 => ?_)
    have h := h mem3 emem3
    exact V_vret dX6_pushes_32 rfl h
set_option maxRecDepth 20000 in
theorem b_X6_endsPiece_0 {d : Nat} {P : wf_Mem → Prop} (mem : wf_Mem) (x1 : Nat) (hx1 : wf_sh x1 = (2, 0))
    (h : (∀ mem1 : wf_Mem, mem1 = wf_ms mem 3 8 0 → Vw (Nv (d + 1) P) mX6_endsPiece 5 [(0, .ref 3), (1, .ref x1)] [] mem1)) :
    Vw (Nv (d + 1) P) mX6_endsPiece 0 [(0, .ref 3), (1, .ref x1)] [] mem := by
  refine V_aload_n 0 dX6_endsPiece_0 rfl ?_
  refine V_iconst (v := 0) dX6_endsPiece_1 rfl ?_
  refine V_putf pf_X6_37 dX6_endsPiece_2 sh_a3 rfl rfl ?_
  refine V_topm (fun mem1 emem1 => ?_)
  have h := h mem1 emem1
  exact h
set_option maxRecDepth 20000 in
theorem b_X6_endsPiece_5 {d : Nat} {P : wf_Mem → Prop} (mem : wf_Mem) (x1 : Nat) (hx1 : wf_sh x1 = (2, 0))
    (h : (((mem 3 5) ≤ 0 → P mem) ∧ (¬ (mem 3 5) ≤ 0 → (vp_in ((mem 3 5) - 1) 96 ∧ ((¬ (mem 5 ((mem 3 5) - 1).toNatClampNeg) = 33 → P mem) ∧ ((mem 5 ((mem 3 5) - 1).toNatClampNeg) = 33 → (∀ mem3 : wf_Mem, mem3 = wf_ms mem 3 5 ((mem 3 5) - 1) → (∀ mem4 : wf_Mem, mem4 = wf_ms mem3 3 7 ((mem3 3 7) - 1) → (Cv mX2_addSign d [.ref x1, .int 33] mem4 (fun mem5 => Vw (Nv (d + 1) P) mX6_endsPiece 5 [(0, .ref 3), (1, .ref x1)] [] mem5)))))))))) :
    Vw (Nv (d + 1) P) mX6_endsPiece 5 [(0, .ref 3), (1, .ref x1)] [] mem := by
  refine V_aload_n 0 dX6_endsPiece_5 rfl ?_
  refine V_getf (v := .int (mem 3 5)) gf_X6_28 dX6_endsPiece_6 sh_a3 rfl ?_
  refine V_if_le (tgt := 57) dX6_endsPiece_9 rfl ⟨fun c1 => ?_, fun c1 => ?_⟩
  · have h := h.1 c1
    exact V_vret dX6_endsPiece_57 rfl h
  · have h := h.2 c1
    refine V_aload_n 0 dX6_endsPiece_12 rfl ?_
    refine V_getf (v := .ref 5) gf_X6_25 dX6_endsPiece_13 sh_a3 rfl ?_
    refine V_aload_n 0 dX6_endsPiece_16 rfl ?_
    refine V_getf (v := .int (mem 3 5)) gf_X6_28 dX6_endsPiece_17 sh_a3 rfl ?_
    refine V_iconst (v := 1) dX6_endsPiece_20 rfl ?_
    refine V_isub dX6_endsPiece_21 ?_
    refine V_iald dX6_endsPiece_22 sh_a5 ⟨h.1, ?_⟩
    have h := h.2
    refine V_bipush (v := 33) dX6_endsPiece_23 rfl ?_
    refine V_icmp_ne (tgt := 57) dX6_endsPiece_25 rfl ⟨fun c2 => ?_, fun c2 => ?_⟩
    · have h := h.1 c2
      exact V_vret dX6_endsPiece_57 rfl h
    · have h := h.2 c2
      refine V_aload_n 0 dX6_endsPiece_28 rfl ?_
      refine V_dup dX6_endsPiece_29 rfl ?_
      refine V_getf (v := .int (mem 3 5)) gf_X6_28 dX6_endsPiece_30 sh_a3 rfl ?_
      refine V_iconst (v := 1) dX6_endsPiece_33 rfl ?_
      refine V_isub dX6_endsPiece_34 ?_
      refine V_putf pf_X6_28 dX6_endsPiece_35 sh_a3 rfl rfl ?_
      refine V_topm (fun mem3 emem3 => ?_)
      have h := h mem3 emem3
      refine V_aload_n 0 dX6_endsPiece_38 rfl ?_
      refine V_dup dX6_endsPiece_39 rfl ?_
      refine V_getf (v := .int (mem3 3 7)) gf_X6_34 dX6_endsPiece_40 sh_a3 rfl ?_
      refine V_iconst (v := 1) dX6_endsPiece_43 rfl ?_
      refine V_isub dX6_endsPiece_44 ?_
      refine V_putf pf_X6_34 dX6_endsPiece_45 sh_a3 rfl rfl ?_
      refine V_topm (fun mem4 emem4 => ?_)
      have h := h mem4 emem4
      refine V_aload_n 1 dX6_endsPiece_48 rfl ?_
      refine V_bipush (v := 33) dX6_endsPiece_49 rfl ?_
      refine V_cVv [.int 33] mv_X2_addSign w_248 dX6_endsPiece_51 wf_rok_m hx1 rfl (by decide) rfl rfl (Nat.le_of_ble_eq_true rfl) h ?_
      intro mem5 h
      refine V_goto (tgt := 5) dX6_endsPiece_54 rfl ?_
      exact h
set_option maxRecDepth 20000 in
theorem b_X6_takesSign_0 {d : Nat} {P : Int32 → wf_Mem → Prop} (mem : wf_Mem) (x1 : Nat) (hx1 : wf_sh x1 = (2, 0))
    (h : (vp_in (mem 3 2) 96 ∧ (∀ x2_1 : Int32, x2_1 = (mem 4 (mem 3 2).toNatClampNeg) → ((¬ x2_1 = 41 → (Ci mX6_levelOf d [.int x2_1] mem (fun r4 mem3 => ((¬ r4 = 0 → ((¬ r4 = 3 → Vw (Ni (d + 1) P) mX6_takesSign 44 [(0, .ref 3), (1, .ref x1), (2, .int x2_1), (3, .int r4)] [.int r4, .ref 3] mem3) ∧ (r4 = 3 → Vw (Ni (d + 1) P) mX6_takesSign 44 [(0, .ref 3), (1, .ref x1), (2, .int x2_1), (3, .int r4)] [.int 4, .ref 3] mem3))) ∧ (r4 = 0 → P 0 mem3))))) ∧ (x2_1 = 41 → (Ci mX6_takesClose d [.ref 3, .ref x1] mem (fun r8 mem7 => ((r8 = 0 ∨ r8 = 1) ∧ P r8 mem7)))))))) :
    Vw (Ni (d + 1) P) mX6_takesSign 0 [(0, .ref 3), (1, .ref x1)] [] mem := by
  refine V_aload_n 0 dX6_takesSign_0 rfl ?_
  refine V_getf (v := .ref 4) gf_X6_9 dX6_takesSign_1 sh_a3 rfl ?_
  refine V_aload_n 0 dX6_takesSign_4 rfl ?_
  refine V_getf (v := .int (mem 3 2)) gf_X6_19 dX6_takesSign_5 sh_a3 rfl ?_
  refine V_iald dX6_takesSign_8 sh_a4 ⟨h.1, ?_⟩
  have h := h.2
  refine V_topi (fun x2_1 ex2_1 => ?_)
  have h := h x2_1 ex2_1
  refine V_istore_n (lv' := [(0, .ref 3), (1, .ref x1), (2, .int x2_1)]) dX6_takesSign_9 (by decide) rfl rfl ?_
  refine V_iload_n 2 dX6_takesSign_10 rfl ?_
  refine V_bipush (v := 41) dX6_takesSign_11 rfl ?_
  refine V_icmp_ne (tgt := 22) dX6_takesSign_13 rfl ⟨fun c2 => ?_, fun c2 => ?_⟩
  · have h := h.1 c2
    refine V_iload_n 2 dX6_takesSign_22 rfl ?_
    refine V_cSi [.int x2_1] ms_X6_levelOf w_251 dX6_takesSign_23 wf_rok_m rfl rfl (Nat.le_of_ble_eq_true rfl) h ?_
    intro r4 mem3 h
    refine V_istore_n (lv' := [(0, .ref 3), (1, .ref x1), (2, .int x2_1), (3, .int r4)]) dX6_takesSign_26 (by decide) rfl rfl ?_
    refine V_iload_n 3 dX6_takesSign_27 rfl ?_
    refine V_if_ne (tgt := 33) dX6_takesSign_28 rfl ⟨fun c5 => ?_, fun c5 => ?_⟩
    · have h := h.1 c5
      refine V_aload_n 0 dX6_takesSign_33 rfl ?_
      refine V_iload_n 3 dX6_takesSign_34 rfl ?_
      refine V_iconst (v := 3) dX6_takesSign_35 rfl ?_
      refine V_icmp_ne (tgt := 43) dX6_takesSign_36 rfl ⟨fun c6 => ?_, fun c6 => ?_⟩
      · have h := h.1 c6
        refine V_iload_n 3 dX6_takesSign_43 rfl ?_
        exact h
      · have h := h.2 c6
        refine V_iconst (v := 4) dX6_takesSign_39 rfl ?_
        refine V_goto (tgt := 44) dX6_takesSign_40 rfl ?_
        exact h
    · have h := h.2 c5
      refine V_iconst (v := 0) dX6_takesSign_31 rfl ?_
      exact V_zret dX6_takesSign_32 rfl rfl h
  · have h := h.2 c2
    refine V_aload_n 0 dX6_takesSign_16 rfl ?_
    refine V_aload_n 1 dX6_takesSign_17 rfl ?_
    refine V_cVi [.ref x1] mv_X6_takesClose w_255 dX6_takesSign_18 wf_rok_m sh_a3 rfl (by decide) rfl rfl (Nat.le_of_ble_eq_true rfl) h ?_
    intro r8 mem7 h
    exact V_zret dX6_takesSign_21 rfl (wf_nb h.1) h.2
set_option maxRecDepth 20000 in
theorem b_X6_takesSign_44 {d : Nat} {P : Int32 → wf_Mem → Prop} (mem : wf_Mem) (x1 : Nat) (hx1 : wf_sh x1 = (2, 0)) (x2 : Int32) (x3 : Int32) (y1 : Int32)
    (h : (Cv mX6_closesDownTo d [.ref 3, .int y1, .ref x1] mem (fun mem1 => ((¬ x3 = 3 → (Cv mX6_pushes d [.ref 3, .int x2] mem1 (fun mem3 => (∀ mem4 : wf_Mem, mem4 = wf_ms mem3 3 8 1 → P 1 mem4)))) ∧ (x3 = 3 → (((mem1 3 5) ≤ 0 → (Cv mX6_pushes d [.ref 3, .int x2] mem1 (fun mem6 => (∀ mem7 : wf_Mem, mem7 = wf_ms mem6 3 8 1 → P 1 mem7)))) ∧ (¬ (mem1 3 5) ≤ 0 → (vp_in ((mem1 3 5) - 1) 96 ∧ (Ci mX6_levelOf d [.int (mem1 5 ((mem1 3 5) - 1).toNatClampNeg)] mem1 (fun r9 mem8 => ((¬ r9 = 3 → (Cv mX6_pushes d [.ref 3, .int x2] mem8 (fun mem11 => (∀ mem12 : wf_Mem, mem12 = wf_ms mem11 3 8 1 → P 1 mem12)))) ∧ (r9 = 3 → P 0 mem8)))))))))))) :
    Vw (Ni (d + 1) P) mX6_takesSign 44 [(0, .ref 3), (1, .ref x1), (2, .int x2), (3, .int x3)] [.int y1, .ref 3] mem := by
  refine V_aload_n 1 dX6_takesSign_44 rfl ?_
  refine V_cVv [.int y1, .ref x1] mv_X6_closesDownTo w_190 dX6_takesSign_45 wf_rok_m sh_a3 rfl (by decide) rfl rfl (Nat.le_of_ble_eq_true rfl) h ?_
  intro mem1 h
  refine V_iload_n 3 dX6_takesSign_48 rfl ?_
  refine V_iconst (v := 3) dX6_takesSign_49 rfl ?_
  refine V_icmp_ne (tgt := 80) dX6_takesSign_50 rfl ⟨fun c2 => ?_, fun c2 => ?_⟩
  · have h := h.1 c2
    refine V_aload_n 0 dX6_takesSign_80 rfl ?_
    refine V_iload_n 2 dX6_takesSign_81 rfl ?_
    refine V_cVv [.int x2] mv_X6_pushes w_243 dX6_takesSign_82 wf_rok_m sh_a3 rfl (by decide) rfl rfl (Nat.le_of_ble_eq_true rfl) h ?_
    intro mem3 h
    refine V_aload_n 0 dX6_takesSign_85 rfl ?_
    refine V_iconst (v := 1) dX6_takesSign_86 rfl ?_
    refine V_putf pf_X6_37 dX6_takesSign_87 sh_a3 rfl rfl ?_
    refine V_topm (fun mem4 emem4 => ?_)
    have h := h mem4 emem4
    refine V_iconst (v := 1) dX6_takesSign_90 rfl ?_
    exact V_zret dX6_takesSign_91 rfl rfl h
  · have h := h.2 c2
    refine V_aload_n 0 dX6_takesSign_53 rfl ?_
    refine V_getf (v := .int (mem1 3 5)) gf_X6_28 dX6_takesSign_54 sh_a3 rfl ?_
    refine V_if_le (tgt := 80) dX6_takesSign_57 rfl ⟨fun c5 => ?_, fun c5 => ?_⟩
    · have h := h.1 c5
      refine V_aload_n 0 dX6_takesSign_80 rfl ?_
      refine V_iload_n 2 dX6_takesSign_81 rfl ?_
      refine V_cVv [.int x2] mv_X6_pushes w_243 dX6_takesSign_82 wf_rok_m sh_a3 rfl (by decide) rfl rfl (Nat.le_of_ble_eq_true rfl) h ?_
      intro mem6 h
      refine V_aload_n 0 dX6_takesSign_85 rfl ?_
      refine V_iconst (v := 1) dX6_takesSign_86 rfl ?_
      refine V_putf pf_X6_37 dX6_takesSign_87 sh_a3 rfl rfl ?_
      refine V_topm (fun mem7 emem7 => ?_)
      have h := h mem7 emem7
      refine V_iconst (v := 1) dX6_takesSign_90 rfl ?_
      exact V_zret dX6_takesSign_91 rfl rfl h
    · have h := h.2 c5
      refine V_aload_n 0 dX6_takesSign_60 rfl ?_
      refine V_getf (v := .ref 5) gf_X6_25 dX6_takesSign_61 sh_a3 rfl ?_
      refine V_aload_n 0 dX6_takesSign_64 rfl ?_
      refine V_getf (v := .int (mem1 3 5)) gf_X6_28 dX6_takesSign_65 sh_a3 rfl ?_
      refine V_iconst (v := 1) dX6_takesSign_68 rfl ?_
      refine V_isub dX6_takesSign_69 ?_
      refine V_iald dX6_takesSign_70 sh_a5 ⟨h.1, ?_⟩
      have h := h.2
      refine V_cSi [.int (mem1 5 ((mem1 3 5) - 1).toNatClampNeg)] ms_X6_levelOf w_251 dX6_takesSign_71 wf_rok_m rfl rfl (Nat.le_of_ble_eq_true rfl) h ?_
      intro r9 mem8 h
      refine V_iconst (v := 3) dX6_takesSign_74 rfl ?_
      refine V_icmp_ne (tgt := 80) dX6_takesSign_75 rfl ⟨fun c10 => ?_, fun c10 => ?_⟩
      · have h := h.1 c10
        refine V_aload_n 0 dX6_takesSign_80 rfl ?_
        refine V_iload_n 2 dX6_takesSign_81 rfl ?_
        refine V_cVv [.int x2] mv_X6_pushes w_243 dX6_takesSign_82 wf_rok_m sh_a3 rfl (by decide) rfl rfl (Nat.le_of_ble_eq_true rfl) h ?_
        intro mem11 h
        refine V_aload_n 0 dX6_takesSign_85 rfl ?_
        refine V_iconst (v := 1) dX6_takesSign_86 rfl ?_
        refine V_putf pf_X6_37 dX6_takesSign_87 sh_a3 rfl rfl ?_
        refine V_topm (fun mem12 emem12 => ?_)
        have h := h mem12 emem12
        refine V_iconst (v := 1) dX6_takesSign_90 rfl ?_
        exact V_zret dX6_takesSign_91 rfl rfl h
      · have h := h.2 c10
        refine V_iconst (v := 0) dX6_takesSign_78 rfl ?_
        exact V_zret dX6_takesSign_79 rfl rfl h
set_option maxRecDepth 20000 in
theorem b_X6_takesClose_0 {d : Nat} {P : Int32 → wf_Mem → Prop} (mem : wf_Mem) (x1 : Nat) (hx1 : wf_sh x1 = (2, 0))
    (h : ((¬ (mem 3 6) = 0 → (Cv mX6_closesDownTo d [.ref 3, .int 1, .ref x1] mem (fun mem2 => (((mem2 3 5) ≤ 0 → (∀ mem4 : wf_Mem, mem4 = wf_ms mem2 3 6 ((mem2 3 6) - 1) → (Cv mX6_endsPiece d [.ref 3, .ref x1] mem4 (fun mem5 => P 1 mem5)))) ∧ (¬ (mem2 3 5) ≤ 0 → (∀ mem6 : wf_Mem, mem6 = wf_ms mem2 3 5 ((mem2 3 5) - 1) → (∀ mem7 : wf_Mem, mem7 = wf_ms mem6 3 6 ((mem6 3 6) - 1) → (Cv mX6_endsPiece d [.ref 3, .ref x1] mem7 (fun mem8 => P 1 mem8))))))))) ∧ ((mem 3 6) = 0 → P 0 mem))) :
    Vw (Ni (d + 1) P) mX6_takesClose 0 [(0, .ref 3), (1, .ref x1)] [] mem := by
  refine V_aload_n 0 dX6_takesClose_0 rfl ?_
  refine V_getf (v := .int (mem 3 6)) gf_X6_31 dX6_takesClose_1 sh_a3 rfl ?_
  refine V_if_ne (tgt := 9) dX6_takesClose_4 rfl ⟨fun c1 => ?_, fun c1 => ?_⟩
  · have h := h.1 c1
    refine V_aload_n 0 dX6_takesClose_9 rfl ?_
    refine V_iconst (v := 1) dX6_takesClose_10 rfl ?_
    refine V_aload_n 1 dX6_takesClose_11 rfl ?_
    refine V_cVv [.int 1, .ref x1] mv_X6_closesDownTo w_190 dX6_takesClose_12 wf_rok_m sh_a3 rfl (by decide) rfl rfl (Nat.le_of_ble_eq_true rfl) h ?_
    intro mem2 h
    refine V_aload_n 0 dX6_takesClose_15 rfl ?_
    refine V_getf (v := .int (mem2 3 5)) gf_X6_28 dX6_takesClose_16 sh_a3 rfl ?_
    refine V_if_le (tgt := 32) dX6_takesClose_19 rfl ⟨fun c3 => ?_, fun c3 => ?_⟩
    · have h := h.1 c3
      refine V_aload_n 0 dX6_takesClose_32 rfl ?_
      refine V_dup dX6_takesClose_33 rfl ?_
      refine V_getf (v := .int (mem2 3 6)) gf_X6_31 dX6_takesClose_34 sh_a3 rfl ?_
      refine V_iconst (v := 1) dX6_takesClose_37 rfl ?_
      refine V_isub dX6_takesClose_38 ?_
      refine V_putf pf_X6_31 dX6_takesClose_39 sh_a3 rfl rfl ?_
      refine V_topm (fun mem4 emem4 => ?_)
      have h := h mem4 emem4
      refine V_aload_n 0 dX6_takesClose_42 rfl ?_
      refine V_aload_n 1 dX6_takesClose_43 rfl ?_
      refine V_cVv [.ref x1] mv_X6_endsPiece w_235 dX6_takesClose_44 wf_rok_m sh_a3 rfl (by decide) rfl rfl (Nat.le_of_ble_eq_true rfl) h ?_
      intro mem5 h
      refine V_iconst (v := 1) dX6_takesClose_47 rfl ?_
      exact V_zret dX6_takesClose_48 rfl rfl h
    · have h := h.2 c3
      refine V_aload_n 0 dX6_takesClose_22 rfl ?_
      refine V_dup dX6_takesClose_23 rfl ?_
      refine V_getf (v := .int (mem2 3 5)) gf_X6_28 dX6_takesClose_24 sh_a3 rfl ?_
      refine V_iconst (v := 1) dX6_takesClose_27 rfl ?_
      refine V_isub dX6_takesClose_28 ?_
      refine V_putf pf_X6_28 dX6_takesClose_29 sh_a3 rfl rfl ?_
      refine V_topm (fun mem6 emem6 => ?_)
      have h := h mem6 emem6
      refine V_aload_n 0 dX6_takesClose_32 rfl ?_
      refine V_dup dX6_takesClose_33 rfl ?_
      refine V_getf (v := .int (mem6 3 6)) gf_X6_31 dX6_takesClose_34 sh_a3 rfl ?_
      refine V_iconst (v := 1) dX6_takesClose_37 rfl ?_
      refine V_isub dX6_takesClose_38 ?_
      refine V_putf pf_X6_31 dX6_takesClose_39 sh_a3 rfl rfl ?_
      refine V_topm (fun mem7 emem7 => ?_)
      have h := h mem7 emem7
      refine V_aload_n 0 dX6_takesClose_42 rfl ?_
      refine V_aload_n 1 dX6_takesClose_43 rfl ?_
      refine V_cVv [.ref x1] mv_X6_endsPiece w_235 dX6_takesClose_44 wf_rok_m sh_a3 rfl (by decide) rfl rfl (Nat.le_of_ble_eq_true rfl) h ?_
      intro mem8 h
      refine V_iconst (v := 1) dX6_takesClose_47 rfl ?_
      exact V_zret dX6_takesClose_48 rfl rfl h
  · have h := h.2 c1
    refine V_iconst (v := 0) dX6_takesClose_7 rfl ?_
    exact V_zret dX6_takesClose_8 rfl rfl h
set_option maxRecDepth 20000 in
theorem b_X6_closesDownTo_0 {d : Nat} {P : wf_Mem → Prop} (mem : wf_Mem) (x1 : Int32) (x2 : Nat) (hx2 : wf_sh x2 = (2, 0))
    (h : (((mem 3 5) ≤ 0 → P mem) ∧ (¬ (mem 3 5) ≤ 0 → (vp_in ((mem 3 5) - 1) 96 ∧ (Ci mX6_levelOf d [.int (mem 5 ((mem 3 5) - 1).toNatClampNeg)] mem (fun r3 mem2 => ((r3 < x1 → P mem2) ∧ (¬ r3 < x1 → (∀ mem5 : wf_Mem, mem5 = wf_ms mem2 3 5 ((mem2 3 5) - 1) → (vp_in (mem5 3 5) 96 ∧ (Cv mX2_addSign d [.ref x2, .int (mem5 5 (mem5 3 5).toNatClampNeg)] mem5 (fun mem6 => Vw (Nv (d + 1) P) mX6_closesDownTo 0 [(0, .ref 3), (1, .int x1), (2, .ref x2)] [] mem6)))))))))))) :
    Vw (Nv (d + 1) P) mX6_closesDownTo 0 [(0, .ref 3), (1, .int x1), (2, .ref x2)] [] mem := by
  refine V_aload_n 0 dX6_closesDownTo_0 rfl ?_
  refine V_getf (v := .int (mem 3 5)) gf_X6_28 dX6_closesDownTo_1 sh_a3 rfl ?_
  refine V_if_le (tgt := 51) dX6_closesDownTo_4 rfl ⟨fun c1 => ?_, fun c1 => ?_⟩
  · have h := h.1 c1
    exact V_vret dX6_closesDownTo_51 rfl h
  · have h := h.2 c1
    refine V_aload_n 0 dX6_closesDownTo_7 rfl ?_
    refine V_getf (v := .ref 5) gf_X6_25 dX6_closesDownTo_8 sh_a3 rfl ?_
    refine V_aload_n 0 dX6_closesDownTo_11 rfl ?_
    refine V_getf (v := .int (mem 3 5)) gf_X6_28 dX6_closesDownTo_12 sh_a3 rfl ?_
    refine V_iconst (v := 1) dX6_closesDownTo_15 rfl ?_
    refine V_isub dX6_closesDownTo_16 ?_
    refine V_iald dX6_closesDownTo_17 sh_a5 ⟨h.1, ?_⟩
    have h := h.2
    refine V_cSi [.int (mem 5 ((mem 3 5) - 1).toNatClampNeg)] ms_X6_levelOf w_251 dX6_closesDownTo_18 wf_rok_m rfl rfl (Nat.le_of_ble_eq_true rfl) h ?_
    intro r3 mem2 h
    refine V_iload_n 1 dX6_closesDownTo_21 rfl ?_
    refine V_icmp_lt (tgt := 51) dX6_closesDownTo_22 rfl ⟨fun c4 => ?_, fun c4 => ?_⟩
    · have h := h.1 c4
      exact V_vret dX6_closesDownTo_51 rfl h
    · have h := h.2 c4
      refine V_aload_n 0 dX6_closesDownTo_25 rfl ?_
      refine V_dup dX6_closesDownTo_26 rfl ?_
      refine V_getf (v := .int (mem2 3 5)) gf_X6_28 dX6_closesDownTo_27 sh_a3 rfl ?_
      refine V_iconst (v := 1) dX6_closesDownTo_30 rfl ?_
      refine V_isub dX6_closesDownTo_31 ?_
      refine V_putf pf_X6_28 dX6_closesDownTo_32 sh_a3 rfl rfl ?_
      refine V_topm (fun mem5 emem5 => ?_)
      have h := h mem5 emem5
      refine V_aload_n 2 dX6_closesDownTo_35 rfl ?_
      refine V_aload_n 0 dX6_closesDownTo_36 rfl ?_
      refine V_getf (v := .ref 5) gf_X6_25 dX6_closesDownTo_37 sh_a3 rfl ?_
      refine V_aload_n 0 dX6_closesDownTo_40 rfl ?_
      refine V_getf (v := .int (mem5 3 5)) gf_X6_28 dX6_closesDownTo_41 sh_a3 rfl ?_
      refine V_iald dX6_closesDownTo_44 sh_a5 ⟨h.1, ?_⟩
      have h := h.2
      refine V_cVv [.int (mem5 5 (mem5 3 5).toNatClampNeg)] mv_X2_addSign w_248 dX6_closesDownTo_45 wf_rok_m hx2 rfl (by decide) rfl rfl (Nat.le_of_ble_eq_true rfl) h ?_
      intro mem6 h
      refine V_goto (tgt := 0) dX6_closesDownTo_48 rfl ?_
      exact h
set_option maxRecDepth 20000 in
theorem b_X6_levelOf_0 {d : Nat} {P : Int32 → wf_Mem → Prop} (mem : wf_Mem) (x0 : Int32)
    (h : ((x0 = 38 → P 2 mem) ∧ (¬ x0 = 38 → ((x0 = 42 → P 5 mem) ∧ (¬ x0 = 42 → ((x0 = 43 → P 4 mem) ∧ (¬ x0 = 43 → ((x0 = 45 → P 4 mem) ∧ (¬ x0 = 45 → ((x0 = 47 → P 5 mem) ∧ (¬ x0 = 47 → ((x0 = 60 → P 3 mem) ∧ (¬ x0 = 60 → ((x0 = 61 → P 3 mem) ∧ (¬ x0 = 61 → ((x0 = 62 → P 3 mem) ∧ (¬ x0 = 62 → ((x0 = 124 → P 1 mem) ∧ (¬ x0 = 124 → P 0 mem))))))))))))))))))) :
    Vw (Ni d P) mX6_levelOf 0 [(0, .int x0)] [] mem := by
  refine V_iload_n 0 dX6_levelOf_0 rfl ?_
  refine V_lswc [(38, 86), (42, 92), (43, 90), (45, 90), (47, 92), (60, 88), (61, 88), (62, 88), (124, 84)] 94 dX6_levelOf_1 (by decide +kernel) (by decide +kernel) ?_
  refine And.intro (fun c1 => ?_) (fun c1 => ?_)
  · have h := h.1 c1
    show Vw _ _ 86 _ _ _
    refine V_iconst (v := 2) dX6_levelOf_86 rfl ?_
    exact V_iret dX6_levelOf_87 rfl h
  · have h := h.2 c1
    refine And.intro (fun c2 => ?_) (fun c2 => ?_)
    · have h := h.1 c2
      show Vw _ _ 92 _ _ _
      refine V_iconst (v := 5) dX6_levelOf_92 rfl ?_
      exact V_iret dX6_levelOf_93 rfl h
    · have h := h.2 c2
      refine And.intro (fun c3 => ?_) (fun c3 => ?_)
      · have h := h.1 c3
        show Vw _ _ 90 _ _ _
        refine V_iconst (v := 4) dX6_levelOf_90 rfl ?_
        exact V_iret dX6_levelOf_91 rfl h
      · have h := h.2 c3
        refine And.intro (fun c4 => ?_) (fun c4 => ?_)
        · have h := h.1 c4
          show Vw _ _ 90 _ _ _
          refine V_iconst (v := 4) dX6_levelOf_90 rfl ?_
          exact V_iret dX6_levelOf_91 rfl h
        · have h := h.2 c4
          refine And.intro (fun c5 => ?_) (fun c5 => ?_)
          · have h := h.1 c5
            show Vw _ _ 92 _ _ _
            refine V_iconst (v := 5) dX6_levelOf_92 rfl ?_
            exact V_iret dX6_levelOf_93 rfl h
          · have h := h.2 c5
            refine And.intro (fun c6 => ?_) (fun c6 => ?_)
            · have h := h.1 c6
              show Vw _ _ 88 _ _ _
              refine V_iconst (v := 3) dX6_levelOf_88 rfl ?_
              exact V_iret dX6_levelOf_89 rfl h
            · have h := h.2 c6
              refine And.intro (fun c7 => ?_) (fun c7 => ?_)
              · have h := h.1 c7
                show Vw _ _ 88 _ _ _
                refine V_iconst (v := 3) dX6_levelOf_88 rfl ?_
                exact V_iret dX6_levelOf_89 rfl h
              · have h := h.2 c7
                refine And.intro (fun c8 => ?_) (fun c8 => ?_)
                · have h := h.1 c8
                  show Vw _ _ 88 _ _ _
                  refine V_iconst (v := 3) dX6_levelOf_88 rfl ?_
                  exact V_iret dX6_levelOf_89 rfl h
                · have h := h.2 c8
                  refine And.intro (fun c9 => ?_) (fun c9 => ?_)
                  · have h := h.1 c9
                    show Vw _ _ 84 _ _ _
                    refine V_iconst (v := 1) dX6_levelOf_84 rfl ?_
                    exact V_iret dX6_levelOf_85 rfl h
                  · have h := h.2 c9
                    show Vw _ _ 94 _ _ _
                    refine V_iconst (v := 0) dX6_levelOf_94 rfl ?_
                    exact V_iret dX6_levelOf_95 rfl h
