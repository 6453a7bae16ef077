/-! emptyLaws -/
theorem Vk_eq {N : kNd} {M : wf_M} {pc k j n k' j' n' : Nat} {lv : List (Nat × Value)} {st : List Value} {mem : wf_Mem} {set : kSet} (hk : k = k') (hj : j = j') (hn : n = n') (h : Vk N M pc lv st k' j' n' mem set) : Vk N M pc lv st k j n mem set := by
  subst hk; subst hj; subst hn; exact h
theorem k_on_t {g : kSet} {a k b j : Nat} (h : g b j = true) : k_on g a k b j = true := by
  unfold k_on
  split
  · rfl
  · exact h
theorem k_on_s (g : kSet) (a k : Nat) : k_on g a k a k = true := by simp [k_on]
def lwS (g : kSet) : Nat → kSet
  | 0 => g
  | i + 1 => k_on (k_on (k_on (lwS g i) (11 + 2 * i) 2) (11 + 2 * i) 4) 10 i
theorem el_loop {mem : wf_Mem} {set : kSet} (hz : ∀ b, 9 ≤ b → mem b = fun _ => 0) : ∀ (f i : Nat), 15 - i ≤ f → i ≤ 15 → Vk (kNm 2 (9 + 32) 32 1626 (fun v m g => v = some (.ref 10) ∧ m = mem ∧ g = lwS set 15)) mX8_emptyLaws 13 [(0, .ref 9), (1, .ref 10), (2, .int (nI i))] [] (2 + 2 * i) (111 + 101 * i) (11 + 2 * i) mem (lwS set i)
  | f, i, hf, hi => by
    have ec : (15 ≤ nI i) ↔ 15 ≤ i := nI_leI (a := 15) (by decide) (by omega)
    refine K_iload_n 2 dX8_emptyLaws_13 rfl ?_
    refine K_aload_n 1 dX8_emptyLaws_14 rfl ?_
    refine K_alenr (v := 15) dX8_emptyLaws_15 sh_a10 (by decide) (by decide) (by omega) rfl ?_
    refine K_icmp_ge (tgt := 36) dX8_emptyLaws_16 rfl ⟨fun c => ?_, fun c => ?_⟩
    · have e : i = 15 := by have := ec.mp c; omega
      subst e
      refine K_aload_n 1 dX8_emptyLaws_36 rfl ?_
      exact K_aret dX8_emptyLaws_37 rfl (Or.inr ⟨_, rfl⟩) rfl rfl rfl ⟨rfl, rfl, rfl⟩
    · have hi15 : i < 15 := by have := mt ec.mpr c; omega
      have s0 : wf_sh (11 + 2 * i) = (2, 0) := sh_r21 sh_a10 hi15
      refine K_aload_n 1 dX8_emptyLaws_19 rfl ?_
      refine K_iload_n 2 dX8_emptyLaws_20 rfl ?_
      refine K_new nw_X8_72 dX8_emptyLaws_21 (by omega) s0 (by show 2 + 2 * i + 1 ≤ 32; omega) (by show 111 + 101 * i + 5 ≤ 1626; omega) ?_
      refine K_dup dX8_emptyLaws_24 rfl ?_
      refine K_aload_n 0 dX8_emptyLaws_25 rfl ?_
      refine K_callI [.ref 9] mdk_X2_init mik_X2_init rfl rfl wk_80 dX8_emptyLaws_26 ⟨Nat.le_of_ble_eq_true rfl, Nat.le_of_ble_eq_true rfl, by show 2 + 2 * i + 1 + 1 ≤ 32; omega, by show 111 + 101 * i + 5 + 96 ≤ 1626; omega⟩ rfl rfl (Nat.le_of_ble_eq_true rfl) (by omega) (K_X2_init (a := 11 + 2 * i) (by omega) s0 (sh_2_2 s0) (hz _ (by omega))) (fun v m g h => ?_)
      obtain ⟨rfl, rfl, rfl⟩ := h
      refine K_astq (ci := 2) (nb := 0) dX8_emptyLaws_29 sh_a10 (by decide) (by decide) (by omega) (by omega) (show 10 + 1 + 2 * (nI i).toNatClampNeg = 11 + 2 * i by rw [nI_clamp (by omega)]) s0 (by decide) rfl rfl (vin hi15) ?_
      rw [nI_clamp (by omega)]
      refine K_iinc 2 dX8_emptyLaws_30 rfl (show nI i + Int32.ofInt 1 = nI (i + 1) from nI_1 i) (by decide) rfl rfl ?_
      refine K_goto (tgt := 13) dX8_emptyLaws_33 rfl ?_
      cases f with
      | zero => omega
      | succ f => exact Vk_eq (by omega) (by show 111 + 101 * i + 5 + 96 = 111 + 101 * (i + 1); omega) (by omega) (el_loop hz f (i + 1) (by omega) (by omega))
theorem K_emptyLaws {mem : wf_Mem} {set : kSet} (hz : ∀ b, 9 ≤ b → mem b = fun _ => 0) : Kw mX8_emptyLaws 2 [] 9 mem set 32 1626 (fun v m g => v = some (.ref 10) ∧ m = mem ∧ g = lwS set 15) := by
  refine Kw_of rfl (Nat.le_of_ble_eq_true rfl) rfl ?_
  refine K_bipush dX8_emptyLaws_0 rfl ?_
  refine K_newa wk_2 dX8_emptyLaws_2 (by decide) rfl (by decide) rfl (by decide) (Nat.le_of_ble_eq_true rfl) (Nat.le_of_ble_eq_true rfl) ?_
  refine K_astore_n (lv' := [(0, .ref 9)]) dX8_emptyLaws_4 (by decide) rfl rfl ?_
  refine K_bipush dX8_emptyLaws_5 rfl ?_
  refine K_newq (kd := 21) dX8_emptyLaws_7 (by decide) rfl (by decide) (by decide) wk_82 (by decide) rfl (by decide) (Nat.le_of_ble_eq_true rfl) (Nat.le_of_ble_eq_true rfl) ?_
  refine K_astore_n (lv' := [(0, .ref 9), (1, .ref 10)]) dX8_emptyLaws_10 (by decide) rfl rfl ?_
  refine K_iconst dX8_emptyLaws_11 rfl ?_
  refine K_istore_n (lv' := [(0, .ref 9), (1, .ref 10), (2, .int 0)]) dX8_emptyLaws_12 (by decide) rfl rfl ?_
  exact el_loop hz 15 0 (by omega) (by omega)
/-! Camp -/
def cpM (mem : wf_Mem) (c : Nat) : Nat → wf_Mem
  | 0 => wf_ms (wf_ms (wf_ms (wf_ms (wf_ms (wf_ms (wf_ms (wf_ms mem c 3 100) c 4 3) c 5 5) c 10 1) (c + 6) 0 (-1000000005)) (c + 6) 1 (-1000000005)) (c + 6) 2 (-1000000005)) c 16 (-1000000005)
  | i + 1 => wf_ms (cpM mem c i) (c + 9 + i) 2 1
def cpS (g : kSet) (c : Nat) : Nat → kSet
  | 0 => k_on (k_on (k_on (k_on (k_on (k_on (k_on (k_on (k_on g (c + 1) 1) (c + 1) 2) (c + 1) 3) c 0) c 1) c 13) c 14) c 15) c 11
  | i + 1 => k_on (cpS g c i) (c + 5) i
theorem cpM_o {mem : wf_Mem} {c : Nat} : ∀ (i b : Nat), (b < c ∨ c + 9 + i ≤ b) → cpM mem c i b = mem b
  | 0, b, h => by
    unfold cpM
    rw [wf_ms_other _ _ _ _ (by omega), wf_ms_other _ _ _ _ (by omega), wf_ms_other _ _ _ _ (by omega), wf_ms_other _ _ _ _ (by omega), wf_ms_other _ _ _ _ (by omega), wf_ms_other _ _ _ _ (by omega), wf_ms_other _ _ _ _ (by omega), wf_ms_other _ _ _ _ (by omega)]
  | i + 1, b, h => by
    show wf_ms (cpM mem c i) (c + 9 + i) 2 1 b = _
    rw [wf_ms_other _ _ _ _ (by omega), cpM_o i b (by omega)]
theorem cpS_1 {g : kSet} {c : Nat} : ∀ i, cpS g c i c 1 = true
  | 0 => by simp [cpS, k_on]
  | i + 1 => k_on_t (cpS_1 i)
theorem cp_loop {mem : wf_Mem} {set : kSet} {c : Nat} (hc : c = 41 ∨ c = 58 ∨ c = 75) (hz : ∀ b, c ≤ b → mem b = fun _ => 0) : ∀ (f i : Nat), 8 - i ≤ f → i ≤ 8 → Vk (kNm 2 (c + 1 + 16) 16 115 (fun v m g => v = none ∧ m = cpM mem c 8 ∧ g = cpS set c 8)) mX0_init 126 [(0, .ref c), (1, .ref 10), (2, .int (nI i))] [] (8 + i) (75 + 5 * i) (c + 9 + i) (cpM mem c i) (cpS set c i)
  | f, i, hf, hi => by
    have ec : (8 ≤ nI i) ↔ 8 ≤ i := nI_leI (a := 8) (by decide) (by omega)
    have s0 : wf_sh c = (0, 0) := by rcases hc with rfl | rfl | rfl <;> rfl
    have s5 : wf_sh (c + 5) = (22, 8) := sh_0_1 s0
    have hc2 : c ≤ 75 := by omega
    refine K_iload_n 2 dX0_init_126 rfl ?_
    refine K_aload_n 0 dX0_init_127 rfl ?_
    refine K_getr (b := c + 5) gr_X0_20 dX0_init_128 s0 (by omega) rfl (cpS_1 i) ?_
    refine K_alenr (v := 8) dX0_init_131 s5 (by decide) (by decide) (by omega) rfl ?_
    refine K_icmp_ge (tgt := 154) dX0_init_132 rfl ⟨fun q => ?_, fun q => ?_⟩
    · have e : i = 8 := by have := ec.mp q; omega
      subst e
      exact K_vret dX0_init_154 rfl rfl rfl rfl ⟨rfl, rfl, rfl⟩
    · have hi8 : i < 8 := by have := mt ec.mpr q; omega
      have s9 : wf_sh (c + 9 + i) = (7, 0) := by
        have := sh_r22 s5 hi8
        rw [show c + 5 + 4 + i = c + 9 + i by omega] at this
        exact this
      refine K_aload_n 0 dX0_init_135 rfl ?_
      refine K_getr (b := c + 5) gr_X0_20 dX0_init_136 s0 (by omega) rfl (cpS_1 i) ?_
      refine K_iload_n 2 dX0_init_139 rfl ?_
      refine K_new nw_X0_18 dX0_init_140 (by omega) s9 (by show 8 + i + 1 ≤ 16; omega) (by show 75 + 5 * i + 5 ≤ 115; omega) ?_
      refine K_dup dX0_init_143 rfl ?_
      refine K_callN [] mdk_X7_init mik_X7_init rfl rfl (List.mem_of_getElem? (i := 3) rfl) dX0_init_144 ⟨Nat.le_of_ble_eq_true rfl, Nat.le_of_ble_eq_true rfl, by show 8 + i + 1 + 0 ≤ 16; omega, by show 75 + 5 * i + 5 + 0 ≤ 115; omega⟩ rfl rfl (Nat.le_of_ble_eq_true rfl) (by omega) (K_X7_init (a := c + 9 + i) (by omega) s9 (by rw [cpM_o i _ (by omega)]; exact hz _ (by omega))) (fun v m g h => ?_)
      obtain ⟨rfl, rfl, rfl⟩ := h
      refine K_astq (ci := 7) (nb := 0) dX0_init_147 s5 (by decide) (by decide) (by omega) (by omega) (show c + 5 + 4 + (nI i).toNatClampNeg = c + 9 + i by rw [nI_clamp (by omega)]) s9 (by decide) rfl rfl (vin hi8) ?_
      rw [nI_clamp (by omega)]
      refine K_iinc 2 dX0_init_148 rfl (show nI i + Int32.ofInt 1 = nI (i + 1) from nI_1 i) (by decide) rfl rfl ?_
      refine K_goto (tgt := 126) dX0_init_151 rfl ?_
      cases f with
      | zero => omega
      | succ f => exact Vk_eq (by omega) (by show 75 + 5 * i + 5 + 0 = 75 + 5 * (i + 1); omega) (by omega) (cp_loop hc hz f (i + 1) (by omega) (by omega))
theorem K_X0_init {mem : wf_Mem} {set : kSet} {c : Nat} (hc : c = 41 ∨ c = 58 ∨ c = 75) (hz : ∀ b, c ≤ b → mem b = fun _ => 0) : Kw mX0_init 2 [.ref c, .ref 10] (c + 1) mem set 16 115 (fun v m g => v = none ∧ m = cpM mem c 8 ∧ g = cpS set c 8) := by
  have s0 : wf_sh c = (0, 0) := by rcases hc with rfl | rfl | rfl <;> rfl
  have s1 : wf_sh (c + 1) = (3, 0) := by rcases hc with rfl | rfl | rfl <;> rfl
  have s2 : wf_sh (c + 2) = (20, 12) := by rcases hc with rfl | rfl | rfl <;> rfl
  have s3 : wf_sh (c + 3) = (20, 12) := by rcases hc with rfl | rfl | rfl <;> rfl
  have s4 : wf_sh (c + 4) = (20, 12) := by rcases hc with rfl | rfl | rfl <;> rfl
  have s5 : wf_sh (c + 5) = (22, 8) := by rcases hc with rfl | rfl | rfl <;> rfl
  have s6 : wf_sh (c + 6) = (20, 3) := by rcases hc with rfl | rfl | rfl <;> rfl
  have s7 : wf_sh (c + 7) = (20, 12) := by rcases hc with rfl | rfl | rfl <;> rfl
  have s8 : wf_sh (c + 8) = (20, 12) := by rcases hc with rfl | rfl | rfl <;> rfl
  have hz0 := hz c (Nat.le_refl c)
  have hc2 : c ≤ 75 := by omega
  refine Kw_of rfl (Nat.le_of_ble_eq_true rfl) rfl ?_
  refine K_aload_n 0 dX0_init_0 rfl ?_
  refine K_obj wk_85 wk_0 wk_1 dX0_init_1 ⟨Nat.le_of_ble_eq_true rfl, Nat.le_of_ble_eq_true rfl⟩ (Nat.le_of_ble_eq_true rfl) ?_
  refine K_aload_n 0 dX0_init_4 rfl ?_
  refine K_new nw_X0_9 dX0_init_5 (by omega) s1 (Nat.le_of_ble_eq_true rfl) (Nat.le_of_ble_eq_true rfl) ?_
  refine K_dup dX0_init_8 rfl ?_
  refine K_callN [] mdk_X3_init mik_X3_init rfl rfl (List.mem_of_getElem? (i := 2) rfl) dX0_init_9 ⟨Nat.le_of_ble_eq_true rfl, Nat.le_of_ble_eq_true rfl, Nat.le_of_ble_eq_true rfl, Nat.le_of_ble_eq_true rfl⟩ rfl rfl (Nat.le_of_ble_eq_true rfl) (by omega) (K_X3_init (a := c + 1) (by omega) s1 s2 s3 s4 (hz _ (by omega))) (fun v m g h => ?_)
  obtain ⟨rfl, rfl, rfl⟩ := h
  refine K_putr pr_X0_12 rfl dX0_init_12 s0 (by omega) rfl ?_
  refine K_aload_n 0 dX0_init_15 rfl ?_
  refine K_bipush dX0_init_16 rfl ?_
  refine K_newq dX0_init_18 (by omega) s5 (by decide) (by decide) wk_84 (by decide) rfl (by decide) (Nat.le_of_ble_eq_true rfl) (Nat.le_of_ble_eq_true rfl) ?_
  refine K_putr pr_X0_20 rfl dX0_init_21 s0 (by omega) rfl ?_
  refine K_aload_n 0 dX0_init_24 rfl ?_
  refine K_iconst dX0_init_25 rfl ?_
  refine K_put0 pi_X0_24 dX0_init_26 s0 (by omega) rfl rfl (by simp [wf_ms, hz0]) ?_
  refine K_aload_n 0 dX0_init_29 rfl ?_
  refine K_bipush dX0_init_30 rfl ?_
  refine K_puti pi_X0_28 dX0_init_32 s0 (by omega) rfl rfl ?_
  refine K_aload_n 0 dX0_init_35 rfl ?_
  refine K_iconst dX0_init_36 rfl ?_
  refine K_puti pi_X0_31 dX0_init_37 s0 (by omega) rfl rfl ?_
  refine K_aload_n 0 dX0_init_40 rfl ?_
  refine K_iconst dX0_init_41 rfl ?_
  refine K_puti pi_X0_34 dX0_init_42 s0 (by omega) rfl rfl ?_
  refine K_aload_n 0 dX0_init_45 rfl ?_
  refine K_iconst dX0_init_46 rfl ?_
  refine K_put0 pi_X0_37 dX0_init_47 s0 (by omega) rfl rfl (by simp [wf_ms, hz0]) ?_
  refine K_aload_n 0 dX0_init_50 rfl ?_
  refine K_iconst dX0_init_51 rfl ?_
  refine K_put0 pi_X0_40 dX0_init_52 s0 (by omega) rfl rfl (by simp [wf_ms, hz0]) ?_
  refine K_aload_n 0 dX0_init_55 rfl ?_
  refine K_iconst dX0_init_56 rfl ?_
  refine K_put0 pi_X0_43 dX0_init_57 s0 (by omega) rfl rfl (by simp [wf_ms, hz0]) ?_
  refine K_aload_n 0 dX0_init_60 rfl ?_
  refine K_iconst dX0_init_61 rfl ?_
  refine K_put0 pi_X0_46 dX0_init_62 s0 (by omega) rfl rfl (by simp [wf_ms, hz0]) ?_
  refine K_aload_n 0 dX0_init_65 rfl ?_
  refine K_iconst dX0_init_66 rfl ?_
  refine K_puti pi_X0_49 dX0_init_67 s0 (by omega) rfl rfl ?_
  refine K_aload_n 0 dX0_init_70 rfl ?_
  refine K_iconst dX0_init_71 rfl ?_
  refine K_put0 pi_X0_52 dX0_init_72 s0 (by omega) rfl rfl (by simp [wf_ms, hz0]) ?_
  refine K_aload_n 0 dX0_init_75 rfl ?_
  refine K_iconst dX0_init_76 rfl ?_
  refine K_newa wk_2 dX0_init_77 (by omega) s6 (by decide) rfl (by decide) (Nat.le_of_ble_eq_true rfl) (Nat.le_of_ble_eq_true rfl) ?_
  refine K_dup dX0_init_79 rfl ?_
  refine K_iconst dX0_init_80 rfl ?_
  refine K_ldc wk_99 dX0_init_81 ?_
  refine K_iast dX0_init_83 s6 (by omega) (wf_in_lit rfl) ?_
  refine K_dup dX0_init_84 rfl ?_
  refine K_iconst dX0_init_85 rfl ?_
  refine K_ldc wk_99 dX0_init_86 ?_
  refine K_iast dX0_init_88 s6 (by omega) (wf_in_lit rfl) ?_
  refine K_dup dX0_init_89 rfl ?_
  refine K_iconst dX0_init_90 rfl ?_
  refine K_ldc wk_99 dX0_init_91 ?_
  refine K_iast dX0_init_93 s6 (by omega) (wf_in_lit rfl) ?_
  refine K_putr pr_X0_56 rfl dX0_init_94 s0 (by omega) rfl ?_
  refine K_aload_n 0 dX0_init_97 rfl ?_
  refine K_bipush dX0_init_98 rfl ?_
  refine K_newa wk_2 dX0_init_100 (by omega) s7 (by decide) rfl (by decide) (Nat.le_of_ble_eq_true rfl) (Nat.le_of_ble_eq_true rfl) ?_
  refine K_putr pr_X0_60 rfl dX0_init_102 s0 (by omega) rfl ?_
  refine K_aload_n 0 dX0_init_105 rfl ?_
  refine K_bipush dX0_init_106 rfl ?_
  refine K_newa wk_2 dX0_init_108 (by omega) s8 (by decide) rfl (by decide) (Nat.le_of_ble_eq_true rfl) (Nat.le_of_ble_eq_true rfl) ?_
  refine K_putr pr_X0_63 rfl dX0_init_110 s0 (by omega) rfl ?_
  refine K_aload_n 0 dX0_init_113 rfl ?_
  refine K_ldc wk_99 dX0_init_114 ?_
  refine K_puti pi_X0_66 dX0_init_116 s0 (by omega) rfl rfl ?_
  refine K_aload_n 0 dX0_init_119 rfl ?_
  refine K_aload_n 1 dX0_init_120 rfl ?_
  refine K_putr pr_X0_69 rfl dX0_init_121 s0 (by omega) rfl ?_
  refine K_iconst dX0_init_124 rfl ?_
  refine K_istore_n (lv' := [(0, .ref c), (1, .ref 10), (2, .int 0)]) dX0_init_125 (by decide) rfl rfl ?_
  exact cp_loop hc hz 8 0 (by omega) (by omega)
