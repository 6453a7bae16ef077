/-! WolfFiresModel -/
def mdS : kSet := k_on (k_on (k_on (k_on (k_on (k_on (k_on (k_on (k_on (k_on (k_on (k_on (k_on (k_on (k_on (k_on (k_on (k_on (slS 5) 120 0) 120 1) 120 2) 120 4) 120 5) 120 6) 120 7) 120 8) 120 9) 120 10) 120 11) 120 14) 120 15) 120 27) 120 28) 120 29) 120 30) 120 32
def mdM : Nat → wf_Mem
  | 0 => wf_ms (wf_ms (wf_ms (wf_ms (slM 5) 121 10 1) 121 3 100) 121 4 3) 121 5 5
  | i + 1 => wf_ms (mdM i) 124 i (-1)
abbrev kQ9 : Option Value → wf_Mem → kSet → Prop := fun v m g => v = none ∧ m = mdM 4 ∧ g = mdS
theorem mdS_4 : mdS 120 4 = true := by decide +kernel
theorem k_s120 : wf_sh 120 = (9, 0) := rfl
theorem k_s124 : wf_sh 124 = (20, 4) := rfl
theorem md_loop : ∀ (f i : Nat), 4 - i ≤ f → i ≤ 4 → Vk (kNm 1 (121 + 18) 18 10064 kQ9) mX9_init 178 [(0, .ref 120), (1, .int (nI i))] [] 18 10064 139 (mdM i) mdS
  | f, i, hf, hi => by
    have ec : (4 ≤ nI i) ↔ 4 ≤ i := nI_leI (a := 4) (by decide) (by omega)
    refine K_iload_n 1 dX9_init_178 rfl ?_
    refine K_iconst dX9_init_179 rfl ?_
    refine K_icmp_ge (tgt := 196) dX9_init_180 rfl ⟨fun q => ?_, fun q => ?_⟩
    · have e : i = 4 := by have := ec.mp q; omega
      subst e
      exact K_vret dX9_init_196 rfl rfl rfl rfl ⟨rfl, rfl, rfl⟩
    · have hi4 : i < 4 := by have := mt ec.mpr q; omega
      refine K_aload_n 0 dX9_init_183 rfl ?_
      refine K_getr (b := 124) gr_X9_19 dX9_init_184 k_s120 (by decide) rfl mdS_4 ?_
      refine K_iload_n 1 dX9_init_187 rfl ?_
      refine K_iconst dX9_init_188 rfl ?_
      refine K_iast dX9_init_189 k_s124 (by decide) (vin hi4) ?_
      rw [nI_clamp (by omega)]
      refine K_iinc 1 dX9_init_190 rfl (show nI i + Int32.ofInt 1 = nI (i + 1) from nI_1 i) (by decide) rfl rfl ?_
      refine K_goto (tgt := 178) dX9_init_193 rfl ?_
      cases f with
      | zero => omega
      | succ f => exact md_loop f (i + 1) (by omega) (by omega)
theorem K_X9_init : Kw mX9_init 1 [.ref 120] 121 (slM 5) (slS 5) 18 10064 kQ9 := by
  refine Kw_of rfl (Nat.le_of_ble_eq_true rfl) rfl ?_
  refine K_aload_n 0 dX9_init_0 rfl ?_
  refine K_obj wk_128 wk_0 wk_1 dX9_init_1 ⟨Nat.le_of_ble_eq_true rfl, Nat.le_of_ble_eq_true rfl⟩ (Nat.le_of_ble_eq_true rfl) ?_
  refine K_aload_n 0 dX9_init_4 rfl ?_
  refine K_sipush dX9_init_5 rfl ?_
  refine K_newa wk_2 dX9_init_8 (by decide) rfl (by decide) rfl (by decide) (Nat.le_of_ble_eq_true rfl) (Nat.le_of_ble_eq_true rfl) ?_
  refine K_putr pr_X9_7 rfl dX9_init_10 rfl (by decide) rfl ?_
  refine K_aload_n 0 dX9_init_13 rfl ?_
  refine K_sipush dX9_init_14 rfl ?_
  refine K_newa wk_2 dX9_init_17 (by decide) rfl (by decide) rfl (by decide) (Nat.le_of_ble_eq_true rfl) (Nat.le_of_ble_eq_true rfl) ?_
  refine K_putr pr_X9_13 rfl dX9_init_19 rfl (by decide) rfl ?_
  refine K_aload_n 0 dX9_init_22 rfl ?_
  refine K_sipush dX9_init_23 rfl ?_
  refine K_newa wk_2 dX9_init_26 (by decide) rfl (by decide) rfl (by decide) (Nat.le_of_ble_eq_true rfl) (Nat.le_of_ble_eq_true rfl) ?_
  refine K_putr pr_X9_16 rfl dX9_init_28 rfl (by decide) rfl ?_
  refine K_aload_n 0 dX9_init_31 rfl ?_
  refine K_iconst dX9_init_32 rfl ?_
  refine K_newa wk_2 dX9_init_33 (by decide) rfl (by decide) rfl (by decide) (Nat.le_of_ble_eq_true rfl) (Nat.le_of_ble_eq_true rfl) ?_
  refine K_putr pr_X9_19 rfl dX9_init_35 rfl (by decide) rfl ?_
  refine K_aload_n 0 dX9_init_38 rfl ?_
  refine K_iconst dX9_init_39 rfl ?_
  refine K_newa wk_2 dX9_init_40 (by decide) rfl (by decide) rfl (by decide) (Nat.le_of_ble_eq_true rfl) (Nat.le_of_ble_eq_true rfl) ?_
  refine K_putr pr_X9_22 rfl dX9_init_42 rfl (by decide) rfl ?_
  refine K_aload_n 0 dX9_init_45 rfl ?_
  refine K_bipush dX9_init_46 rfl ?_
  refine K_newa wk_2 dX9_init_48 (by decide) rfl (by decide) rfl (by decide) (Nat.le_of_ble_eq_true rfl) (Nat.le_of_ble_eq_true rfl) ?_
  refine K_putr pr_X9_25 rfl dX9_init_50 rfl (by decide) rfl ?_
  refine K_aload_n 0 dX9_init_53 rfl ?_
  refine K_iconst dX9_init_54 rfl ?_
  refine K_newa wk_2 dX9_init_55 (by decide) rfl (by decide) rfl (by decide) (Nat.le_of_ble_eq_true rfl) (Nat.le_of_ble_eq_true rfl) ?_
  refine K_putr pr_X9_28 rfl dX9_init_57 rfl (by decide) rfl ?_
  refine K_aload_n 0 dX9_init_60 rfl ?_
  refine K_iconst dX9_init_61 rfl ?_
  refine K_newa wk_2 dX9_init_62 (by decide) rfl (by decide) rfl (by decide) (Nat.le_of_ble_eq_true rfl) (Nat.le_of_ble_eq_true rfl) ?_
  refine K_putr pr_X9_31 rfl dX9_init_64 rfl (by decide) rfl ?_
  refine K_aload_n 0 dX9_init_67 rfl ?_
  refine K_iconst dX9_init_68 rfl ?_
  refine K_newa wk_2 dX9_init_69 (by decide) rfl (by decide) rfl (by decide) (Nat.le_of_ble_eq_true rfl) (Nat.le_of_ble_eq_true rfl) ?_
  refine K_putr pr_X9_34 rfl dX9_init_71 rfl (by decide) rfl ?_
  refine K_aload_n 0 dX9_init_74 rfl ?_
  refine K_iconst dX9_init_75 rfl ?_
  refine K_newa wk_2 dX9_init_76 (by decide) rfl (by decide) rfl (by decide) (Nat.le_of_ble_eq_true rfl) (Nat.le_of_ble_eq_true rfl) ?_
  refine K_putr pr_X9_37 rfl dX9_init_78 rfl (by decide) rfl ?_
  refine K_aload_n 0 dX9_init_81 rfl ?_
  refine K_bipush dX9_init_82 rfl ?_
  refine K_newa wk_2 dX9_init_84 (by decide) rfl (by decide) rfl (by decide) (Nat.le_of_ble_eq_true rfl) (Nat.le_of_ble_eq_true rfl) ?_
  refine K_putr pr_X9_40 rfl dX9_init_86 rfl (by decide) rfl ?_
  refine K_aload_n 0 dX9_init_89 rfl ?_
  refine K_bipush dX9_init_90 rfl ?_
  refine K_newa wk_2 dX9_init_92 (by decide) rfl (by decide) rfl (by decide) (Nat.le_of_ble_eq_true rfl) (Nat.le_of_ble_eq_true rfl) ?_
  refine K_putr pr_X9_43 rfl dX9_init_94 rfl (by decide) rfl ?_
  refine K_aload_n 0 dX9_init_97 rfl ?_
  refine K_bipush dX9_init_98 rfl ?_
  refine K_newa wk_2 dX9_init_100 (by decide) rfl (by decide) rfl (by decide) (Nat.le_of_ble_eq_true rfl) (Nat.le_of_ble_eq_true rfl) ?_
  refine K_putr pr_X9_46 rfl dX9_init_102 rfl (by decide) rfl ?_
  refine K_aload_n 0 dX9_init_105 rfl ?_
  refine K_sipush dX9_init_106 rfl ?_
  refine K_newa wk_2 dX9_init_109 (by decide) rfl (by decide) rfl (by decide) (Nat.le_of_ble_eq_true rfl) (Nat.le_of_ble_eq_true rfl) ?_
  refine K_putr pr_X9_49 rfl dX9_init_111 rfl (by decide) rfl ?_
  refine K_aload_n 0 dX9_init_114 rfl ?_
  refine K_bipush dX9_init_115 rfl ?_
  refine K_newa wk_2 dX9_init_117 (by decide) rfl (by decide) rfl (by decide) (Nat.le_of_ble_eq_true rfl) (Nat.le_of_ble_eq_true rfl) ?_
  refine K_putr pr_X9_52 rfl dX9_init_119 rfl (by decide) rfl ?_
  refine K_aload_n 0 dX9_init_122 rfl ?_
  refine K_bipush dX9_init_123 rfl ?_
  refine K_newa wk_2 dX9_init_125 (by decide) rfl (by decide) rfl (by decide) (Nat.le_of_ble_eq_true rfl) (Nat.le_of_ble_eq_true rfl) ?_
  refine K_putr pr_X9_55 rfl dX9_init_127 rfl (by decide) rfl ?_
  refine K_aload_n 0 dX9_init_130 rfl ?_
  refine K_bipush dX9_init_131 rfl ?_
  refine K_newa wk_2 dX9_init_133 (by decide) rfl (by decide) rfl (by decide) (Nat.le_of_ble_eq_true rfl) (Nat.le_of_ble_eq_true rfl) ?_
  refine K_putr pr_X9_58 rfl dX9_init_135 rfl (by decide) rfl ?_
  refine K_aload_n 0 dX9_init_138 rfl ?_
  refine K_bipush dX9_init_139 rfl ?_
  refine K_newa wk_2 dX9_init_141 (by decide) rfl (by decide) rfl (by decide) (Nat.le_of_ble_eq_true rfl) (Nat.le_of_ble_eq_true rfl) ?_
  refine K_putr pr_X9_61 rfl dX9_init_143 rfl (by decide) rfl ?_
  refine K_aload_n 0 dX9_init_146 rfl ?_
  refine K_getr (b := 121) gr_X9_7 dX9_init_147 rfl (by decide) rfl (by decide +kernel) ?_
  refine K_bipush dX9_init_150 rfl ?_
  refine K_iconst dX9_init_152 rfl ?_
  refine K_iast dX9_init_153 rfl (by decide) (wf_in_lit rfl) ?_
  refine K_aload_n 0 dX9_init_154 rfl ?_
  refine K_getr (b := 121) gr_X9_7 dX9_init_155 rfl (by decide) rfl (by decide +kernel) ?_
  refine K_iconst dX9_init_158 rfl ?_
  refine K_bipush dX9_init_159 rfl ?_
  refine K_iast dX9_init_161 rfl (by decide) (wf_in_lit rfl) ?_
  refine K_aload_n 0 dX9_init_162 rfl ?_
  refine K_getr (b := 121) gr_X9_7 dX9_init_163 rfl (by decide) rfl (by decide +kernel) ?_
  refine K_iconst dX9_init_166 rfl ?_
  refine K_iconst dX9_init_167 rfl ?_
  refine K_iast dX9_init_168 rfl (by decide) (wf_in_lit rfl) ?_
  refine K_aload_n 0 dX9_init_169 rfl ?_
  refine K_getr (b := 121) gr_X9_7 dX9_init_170 rfl (by decide) rfl (by decide +kernel) ?_
  refine K_iconst dX9_init_173 rfl ?_
  refine K_iconst dX9_init_174 rfl ?_
  refine K_iast dX9_init_175 rfl (by decide) (wf_in_lit rfl) ?_
  refine K_iconst dX9_init_176 rfl ?_
  refine K_istore_n (lv' := [(0, .ref 120), (1, .int 0)]) dX9_init_177 (by decide) rfl rfl ?_
  exact md_loop 4 0 (by omega) (by omega)
