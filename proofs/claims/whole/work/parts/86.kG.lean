/-! WolfFires -/
def m0K : wf_Mem := fun _ _ => 0
def g0K : kSet := fun _ _ => false
def wM (i : Nat) : wf_Mem := match i with
  | 0 => wf_ms m0K 3 8 1
  | 1 => cpM (wf_ms m0K 3 8 1) 41 8
  | 2 => cpM (cpM (wf_ms m0K 3 8 1) 41 8) 58 8
  | _ => cpM (cpM (cpM (wf_ms m0K 3 8 1) 41 8) 58 8) 75 8
def wS0 : kSet := k_on (lwS (k_on (k_on (k_on (k_on (k_on (k_on (k_on (k_on g0K 1 0) 0 4) 3 0) 3 4) 0 5) 0 6) 0 7) 0 8) 15) 0 0
def wS1 : kSet := k_on (cpS wS0 41 8) 0 1
def wS2 : kSet := k_on (cpS wS1 58 8) 0 2
def wS3 : kSet := k_on (cpS wS2 75 8) 0 3
def shM : Nat → wf_Mem
  | 0 => wM 3
  | i + 1 => wf_ms (shM i) (92 + 2 * i) 0 (-1)
def shS : Nat → kSet
  | 0 => wS3
  | i + 1 => k_on (k_on (shS i) (92 + 2 * i) 2) 6 i
def slM : Nat → wf_Mem
  | 0 => shM 4
  | i + 1 => wf_ms (wf_ms (slM i) (100 + 4 * i + 1) 2 1) (100 + 4 * i + 2) 0 (-1)
def slS : Nat → kSet
  | 0 => shS 4
  | i + 1 => k_on (k_on (k_on (k_on (slS i) (100 + 4 * i) 2) (100 + 4 * i + 2) 2) (100 + 4 * i) 3) 7 i
theorem wM0_z (b : Nat) (h : 9 ≤ b) : wM 0 b = fun _ => 0 := by
  show wf_ms m0K 3 8 1 b = _
  rw [wf_ms_other _ _ _ _ (by omega)]; rfl
theorem wM1_z (b : Nat) (h : 58 ≤ b) : wM 1 b = fun _ => 0 := by
  show cpM (wM 0) 41 8 b = _
  rw [cpM_o 8 b (by omega)]; exact wM0_z b (by omega)
theorem wM2_z (b : Nat) (h : 75 ≤ b) : wM 2 b = fun _ => 0 := by
  show cpM (wM 1) 58 8 b = _
  rw [cpM_o 8 b (by omega)]; exact wM1_z b (by omega)
theorem wM3_z (b : Nat) (h : 92 ≤ b) : wM 3 b = fun _ => 0 := by
  show cpM (wM 2) 75 8 b = _
  rw [cpM_o 8 b (by omega)]; exact wM2_z b (by omega)
theorem shM_z : ∀ (i b : Nat), 92 + 2 * i ≤ b → shM i b = fun _ => 0
  | 0, b, h => wM3_z b (by omega)
  | i + 1, b, h => by
    show wf_ms (shM i) (92 + 2 * i) 0 (-1) b = _
    rw [wf_ms_other _ _ _ _ (by omega)]; exact shM_z i b (by omega)
theorem slM_z : ∀ (i b : Nat), 100 + 4 * i ≤ b → slM i b = fun _ => 0
  | 0, b, h => shM_z 4 b (by omega)
  | i + 1, b, h => by
    show wf_ms (wf_ms (slM i) (100 + 4 * i + 1) 2 1) (100 + 4 * i + 2) 0 (-1) b = _
    rw [wf_ms_other _ _ _ _ (by omega), wf_ms_other _ _ _ _ (by omega)]; exact slM_z i b (by omega)
theorem wS3_6 : wS3 0 6 = true := by decide +kernel
theorem wS3_7 : wS3 0 7 = true := by decide +kernel
theorem shS_6 : ∀ i, shS i 0 6 = true
  | 0 => wS3_6
  | i + 1 => k_on_t (k_on_t (shS_6 i))
theorem shS_7 : ∀ i, shS i 0 7 = true
  | 0 => wS3_7
  | i + 1 => k_on_t (k_on_t (shS_7 i))
theorem slS_7 : ∀ i, slS i 0 7 = true
  | 0 => shS_7 4
  | i + 1 => k_on_t (k_on_t (k_on_t (k_on_t (slS_7 i))))
abbrev kQ8 : Option Value → wf_Mem → kSet → Prop := fun v m g => v = none ∧ m = slM 5 ∧ g = slS 5
theorem k_s0 : wf_sh 0 = (8, 0) := rfl
theorem k_s6 : wf_sh 6 = (23, 4) := rfl
theorem k_s7 : wf_sh 7 = (24, 5) := rfl
theorem sl_loop : ∀ (f i : Nat), 5 - i ≤ f → i ≤ 5 → Vk (kNm 3 (1 + 119) 119 2612 kQ8) mX8_init 137 [(0, .ref 0), (1, .ref 10), (2, .int (nI i))] [] (99 + 4 * i) (2432 + 36 * i) (100 + 4 * i) (slM i) (slS i)
  | f, i, hf, hi => by
    have ec : (5 ≤ nI i) ↔ 5 ≤ i := nI_leI (a := 5) (by decide) (by omega)
    refine K_iload_n 2 dX8_init_137 rfl ?_
    refine K_aload_n 0 dX8_init_138 rfl ?_
    refine K_getr (b := 7) gr_X8_31 dX8_init_139 k_s0 (by omega) rfl (slS_7 i) ?_
    refine K_alenr (v := 5) dX8_init_142 k_s7 (by decide) (by decide) (by omega) rfl ?_
    refine K_icmp_ge (tgt := 165) dX8_init_143 rfl ⟨fun q => ?_, fun q => ?_⟩
    · have e : i = 5 := by have := ec.mp q; omega
      subst e
      exact K_vret dX8_init_165 rfl rfl rfl rfl ⟨rfl, rfl, rfl⟩
    · have hi5 : i < 5 := by have := mt ec.mpr q; omega
      have s0 : wf_sh (100 + 4 * i) = (5, 0) := sh_r24 k_s7 hi5
      have s2 : wf_sh (100 + 4 * i + 2) = (4, 0) := sh_5_3 s0
      refine K_aload_n 0 dX8_init_146 rfl ?_
      refine K_getr (b := 7) gr_X8_31 dX8_init_147 k_s0 (by omega) rfl (slS_7 i) ?_
      refine K_iload_n 2 dX8_init_150 rfl ?_
      refine K_new nw_X8_29 dX8_init_151 (by omega) s0 (by show 99 + 4 * i + 1 ≤ 119; omega) (by show 2432 + 36 * i + 4 ≤ 2612; omega) ?_
      refine K_dup dX8_init_154 rfl ?_
      refine K_callN [] mdk_X5_init mik_X5_init rfl rfl (List.mem_of_getElem? (i := 5) rfl) dX8_init_155 ⟨Nat.le_of_ble_eq_true rfl, Nat.le_of_ble_eq_true rfl, by show 99 + 4 * i + 1 + 3 ≤ 119; omega, by show 2432 + 36 * i + 4 + 32 ≤ 2612; omega⟩ rfl rfl (Nat.le_of_ble_eq_true rfl) (by omega) (K_X5_init (a := 100 + 4 * i) (by omega) s0 (sh_5_2 s0) s2 (sh_4_2 s2) (slM_z i _ (by omega)) (slM_z i _ (by omega)) (slM_z i _ (by omega))) (fun v m g h => ?_)
      obtain ⟨rfl, rfl, rfl⟩ := h
      refine K_astq (ci := 5) (nb := 0) dX8_init_158 k_s7 (by decide) (by decide) (by omega) (by omega) (show 100 + 4 * (nI i).toNatClampNeg = 100 + 4 * i by rw [nI_clamp (by omega)]) s0 (by decide) rfl rfl (vin hi5) ?_
      rw [nI_clamp (by omega)]
      refine K_iinc 2 dX8_init_159 rfl (show nI i + Int32.ofInt 1 = nI (i + 1) from nI_1 i) (by decide) rfl rfl ?_
      refine K_goto (tgt := 137) dX8_init_162 rfl ?_
      cases f with
      | zero => omega
      | succ f => exact Vk_eq (by omega) (by show 2432 + 36 * i + 4 + 32 = 2432 + 36 * (i + 1); omega) (by omega) (sl_loop f (i + 1) (by omega) (by omega))
theorem sh_loop : ∀ (f i : Nat), 4 - i ≤ f → i ≤ 4 → Vk (kNm 3 (1 + 119) 119 2612 kQ8) mX8_init 107 [(0, .ref 0), (1, .ref 10), (2, .int (nI i))] [] (91 + 2 * i) (2324 + 27 * i) (92 + 2 * i) (shM i) (shS i)
  | f, i, hf, hi => by
    have ec : (4 ≤ nI i) ↔ 4 ≤ i := nI_leI (a := 4) (by decide) (by omega)
    refine K_iload_n 2 dX8_init_107 rfl ?_
    refine K_aload_n 0 dX8_init_108 rfl ?_
    refine K_getr (b := 6) gr_X8_25 dX8_init_109 k_s0 (by omega) rfl (shS_6 i) ?_
    refine K_alenr (v := 4) dX8_init_112 k_s6 (by decide) (by decide) (by omega) rfl ?_
    refine K_icmp_ge (tgt := 135) dX8_init_113 rfl ⟨fun q => ?_, fun q => ?_⟩
    · have e : i = 4 := by have := ec.mp q; omega
      subst e
      refine K_iconst dX8_init_135 rfl ?_
      refine K_istore_n (lv' := [(0, .ref 0), (1, .ref 10), (2, .int 0)]) dX8_init_136 (by decide) rfl rfl ?_
      exact sl_loop 5 0 (by omega) (by omega)
    · have hi4 : i < 4 := by have := mt ec.mpr q; omega
      have s0 : wf_sh (92 + 2 * i) = (4, 0) := sh_r23 k_s6 hi4
      refine K_aload_n 0 dX8_init_116 rfl ?_
      refine K_getr (b := 6) gr_X8_25 dX8_init_117 k_s0 (by omega) rfl (shS_6 i) ?_
      refine K_iload_n 2 dX8_init_120 rfl ?_
      refine K_new nw_X8_23 dX8_init_121 (by omega) s0 (by show 91 + 2 * i + 1 ≤ 119; omega) (by show 2324 + 27 * i + 3 ≤ 2612; omega) ?_
      refine K_dup dX8_init_124 rfl ?_
      refine K_callN [] mdk_X4_init mik_X4_init rfl rfl (List.mem_of_getElem? (i := 4) rfl) dX8_init_125 ⟨Nat.le_of_ble_eq_true rfl, Nat.le_of_ble_eq_true rfl, by show 91 + 2 * i + 1 + 1 ≤ 119; omega, by show 2324 + 27 * i + 3 + 24 ≤ 2612; omega⟩ rfl rfl (Nat.le_of_ble_eq_true rfl) (by omega) (K_X4_init (a := 92 + 2 * i) (by omega) s0 (sh_4_2 s0) (shM_z i _ (by omega))) (fun v m g h => ?_)
      obtain ⟨rfl, rfl, rfl⟩ := h
      refine K_astq (ci := 4) (nb := 0) dX8_init_128 k_s6 (by decide) (by decide) (by omega) (by omega) (show 92 + 2 * (nI i).toNatClampNeg = 92 + 2 * i by rw [nI_clamp (by omega)]) s0 (by decide) rfl rfl (vin hi4) ?_
      rw [nI_clamp (by omega)]
      refine K_iinc 2 dX8_init_129 rfl (show nI i + Int32.ofInt 1 = nI (i + 1) from nI_1 i) (by decide) rfl rfl ?_
      refine K_goto (tgt := 107) dX8_init_132 rfl ?_
      cases f with
      | zero => omega
      | succ f => exact Vk_eq (by omega) (by show 2324 + 27 * i + 3 + 24 = 2324 + 27 * (i + 1); omega) (by omega) (sh_loop f (i + 1) (by omega) (by omega))
theorem K_X8_init : Kw mX8_init 3 [.ref 0] 1 m0K g0K 119 2612 kQ8 := by
  refine Kw_of rfl (Nat.le_of_ble_eq_true rfl) rfl ?_
  refine K_aload_n 0 dX8_init_0 rfl ?_
  refine K_obj wk_112 wk_0 wk_1 dX8_init_1 ⟨Nat.le_of_ble_eq_true rfl, Nat.le_of_ble_eq_true rfl⟩ (Nat.le_of_ble_eq_true rfl) ?_
  refine K_aload_n 0 dX8_init_4 rfl ?_
  refine K_new nw_X8_7 dX8_init_5 (by decide) rfl (Nat.le_of_ble_eq_true rfl) (Nat.le_of_ble_eq_true rfl) ?_
  refine K_dup dX8_init_8 rfl ?_
  refine K_callN [] mdk_X1_init mik_X1_init rfl rfl (List.mem_of_getElem? (i := 0) rfl) dX8_init_9 ⟨Nat.le_of_ble_eq_true rfl, Nat.le_of_ble_eq_true rfl, Nat.le_of_ble_eq_true rfl, Nat.le_of_ble_eq_true rfl⟩ rfl rfl (Nat.le_of_ble_eq_true rfl) (by omega) (K_X1_init (a := 1) (by decide) rfl rfl rfl) (fun v m g h => ?_)
  obtain ⟨rfl, rfl, rfl⟩ := h
  refine K_putr pr_X8_10 rfl dX8_init_12 rfl (by decide) rfl ?_
  refine K_aload_n 0 dX8_init_15 rfl ?_
  refine K_new nw_X8_16 dX8_init_16 (by decide) rfl (Nat.le_of_ble_eq_true rfl) (Nat.le_of_ble_eq_true rfl) ?_
  refine K_dup dX8_init_19 rfl ?_
  refine K_callN [] mdk_X6_init mik_X6_init rfl rfl (List.mem_of_getElem? (i := 1) rfl) dX8_init_20 ⟨Nat.le_of_ble_eq_true rfl, Nat.le_of_ble_eq_true rfl, Nat.le_of_ble_eq_true rfl, Nat.le_of_ble_eq_true rfl⟩ rfl rfl (Nat.le_of_ble_eq_true rfl) (by omega) (K_X6_init (a := 3) (by decide) rfl rfl rfl rfl) (fun v m g h => ?_)
  obtain ⟨rfl, rfl, rfl⟩ := h
  refine K_putr pr_X8_19 rfl dX8_init_23 rfl (by decide) rfl ?_
  refine K_aload_n 0 dX8_init_26 rfl ?_
  refine K_iconst dX8_init_27 rfl ?_
  refine K_newq dX8_init_28 (by decide) rfl (by decide) (by decide) wk_111 (by decide) rfl (by decide) (Nat.le_of_ble_eq_true rfl) (Nat.le_of_ble_eq_true rfl) ?_
  refine K_putr pr_X8_25 rfl dX8_init_31 rfl (by decide) rfl ?_
  refine K_aload_n 0 dX8_init_34 rfl ?_
  refine K_iconst dX8_init_35 rfl ?_
  refine K_newq dX8_init_36 (by decide) rfl (by decide) (by decide) wk_109 (by decide) rfl (by decide) (Nat.le_of_ble_eq_true rfl) (Nat.le_of_ble_eq_true rfl) ?_
  refine K_putr pr_X8_31 rfl dX8_init_39 rfl (by decide) rfl ?_
  refine K_aload_n 0 dX8_init_42 rfl ?_
  refine K_bipush dX8_init_43 rfl ?_
  refine K_newa wk_2 dX8_init_45 (by decide) rfl (by decide) rfl (by decide) (Nat.le_of_ble_eq_true rfl) (Nat.le_of_ble_eq_true rfl) ?_
  refine K_putr pr_X8_35 rfl dX8_init_47 rfl (by decide) rfl ?_
  refine K_aload_n 0 dX8_init_50 rfl ?_
  refine K_iconst dX8_init_51 rfl ?_
  refine K_put0 pi_X8_39 dX8_init_52 rfl (by decide) rfl rfl rfl ?_
  refine K_aload_n 0 dX8_init_55 rfl ?_
  refine K_iconst dX8_init_56 rfl ?_
  refine K_put0 pi_X8_43 dX8_init_57 rfl (by decide) rfl rfl rfl ?_
  refine K_callS [] mdk_X8_emptyLaws wk_105 dX8_init_60 ⟨Nat.le_of_ble_eq_true rfl, Nat.le_of_ble_eq_true rfl, Nat.le_of_ble_eq_true rfl, Nat.le_of_ble_eq_true rfl⟩ rfl rfl (Nat.le_of_ble_eq_true rfl) (by omega) (K_emptyLaws (mem := wM 0) wM0_z) (fun v m g h => ?_)
  obtain ⟨rfl, rfl, rfl⟩ := h
  refine K_astore_n (lv' := [(0, .ref 0), (1, .ref 10)]) dX8_init_63 (by decide) rfl rfl ?_
  refine K_aload_n 0 dX8_init_64 rfl ?_
  refine K_aload_n 1 dX8_init_65 rfl ?_
  refine K_putr pr_X8_51 rfl dX8_init_66 rfl (by decide) rfl ?_
  refine K_aload_n 0 dX8_init_69 rfl ?_
  refine K_new nw_X8_55 dX8_init_70 (by decide) rfl (Nat.le_of_ble_eq_true rfl) (Nat.le_of_ble_eq_true rfl) ?_
  refine K_dup dX8_init_73 rfl ?_
  refine K_aload_n 1 dX8_init_74 rfl ?_
  refine K_callI [.ref 10] mdk_X0_init mik_X0_init rfl rfl wk_106 dX8_init_75 ⟨Nat.le_of_ble_eq_true rfl, Nat.le_of_ble_eq_true rfl, Nat.le_of_ble_eq_true rfl, Nat.le_of_ble_eq_true rfl⟩ rfl rfl (Nat.le_of_ble_eq_true rfl) (by omega) (K_X0_init (c := 41) (Or.inl rfl) (fun b hb => wM0_z b (by omega))) (fun v m g h => ?_)
  obtain ⟨rfl, rfl, rfl⟩ := h
  refine K_putr pr_X8_60 rfl dX8_init_78 rfl (by decide) rfl ?_
  refine K_aload_n 0 dX8_init_81 rfl ?_
  refine K_new nw_X8_55 dX8_init_82 (by decide) rfl (Nat.le_of_ble_eq_true rfl) (Nat.le_of_ble_eq_true rfl) ?_
  refine K_dup dX8_init_85 rfl ?_
  refine K_aload_n 1 dX8_init_86 rfl ?_
  refine K_callI [.ref 10] mdk_X0_init mik_X0_init rfl rfl wk_106 dX8_init_87 ⟨Nat.le_of_ble_eq_true rfl, Nat.le_of_ble_eq_true rfl, Nat.le_of_ble_eq_true rfl, Nat.le_of_ble_eq_true rfl⟩ rfl rfl (Nat.le_of_ble_eq_true rfl) (by omega) (K_X0_init (c := 58) (Or.inr (Or.inl rfl)) (fun b hb => wM1_z b (by omega))) (fun v m g h => ?_)
  obtain ⟨rfl, rfl, rfl⟩ := h
  refine K_putr pr_X8_64 rfl dX8_init_90 rfl (by decide) rfl ?_
  refine K_aload_n 0 dX8_init_93 rfl ?_
  refine K_new nw_X8_55 dX8_init_94 (by decide) rfl (Nat.le_of_ble_eq_true rfl) (Nat.le_of_ble_eq_true rfl) ?_
  refine K_dup dX8_init_97 rfl ?_
  refine K_aload_n 1 dX8_init_98 rfl ?_
  refine K_callI [.ref 10] mdk_X0_init mik_X0_init rfl rfl wk_106 dX8_init_99 ⟨Nat.le_of_ble_eq_true rfl, Nat.le_of_ble_eq_true rfl, Nat.le_of_ble_eq_true rfl, Nat.le_of_ble_eq_true rfl⟩ rfl rfl (Nat.le_of_ble_eq_true rfl) (by omega) (K_X0_init (c := 75) (Or.inr (Or.inr rfl)) (fun b hb => wM2_z b (by omega))) (fun v m g h => ?_)
  obtain ⟨rfl, rfl, rfl⟩ := h
  refine K_putr pr_X8_67 rfl dX8_init_102 rfl (by decide) rfl ?_
  refine K_iconst dX8_init_105 rfl ?_
  refine K_istore_n (lv' := [(0, .ref 0), (1, .ref 10), (2, .int 0)]) dX8_init_106 (by decide) rfl rfl ?_
  exact sh_loop 4 0 (by omega) (by omega)
