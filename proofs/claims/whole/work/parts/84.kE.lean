/-! the small constructors -/
section KD
theorem K_X7_init {a : Nat} {mem : wf_Mem} {set : kSet} (ha : a < 134) (s0 : wf_sh a = (7, 0)) (hz : mem a = fun _ => 0) : Kw mX7_init 1 [.ref a] (a + 1) mem set 0 0 (fun v m g => v = none ∧ m = wf_ms mem a 2 1 ∧ g = set) := by
  refine Kw_of rfl (Nat.le_of_ble_eq_true rfl) rfl ?_
  refine K_aload_n 0 dX7_init_0 rfl ?_
  refine K_obj wk_35 wk_0 wk_1 dX7_init_1 ⟨Nat.le_of_ble_eq_true rfl, Nat.le_of_ble_eq_true rfl⟩ (Nat.le_of_ble_eq_true rfl) ?_
  refine K_aload_n 0 dX7_init_4 rfl ?_
  refine K_iconst dX7_init_5 rfl ?_
  refine K_put0 pi_X7_9 dX7_init_6 s0 (by omega) rfl rfl (by simp [wf_ms, hz]) ?_
  refine K_aload_n 0 dX7_init_9 rfl ?_
  refine K_iconst dX7_init_10 rfl ?_
  refine K_put0 pi_X7_15 dX7_init_11 s0 (by omega) rfl rfl (by simp [wf_ms, hz]) ?_
  refine K_aload_n 0 dX7_init_14 rfl ?_
  refine K_iconst dX7_init_15 rfl ?_
  refine K_puti pi_X7_18 dX7_init_16 s0 (by omega) rfl rfl ?_
  refine K_aload_n 0 dX7_init_19 rfl ?_
  refine K_iconst dX7_init_20 rfl ?_
  refine K_put0 pi_X7_21 dX7_init_21 s0 (by omega) rfl rfl (by simp [wf_ms, hz]) ?_
  refine K_aload_n 0 dX7_init_24 rfl ?_
  refine K_iconst dX7_init_25 rfl ?_
  refine K_put0 pi_X7_24 dX7_init_26 s0 (by omega) rfl rfl (by simp [wf_ms, hz]) ?_
  exact K_vret dX7_init_29 rfl rfl rfl rfl ⟨rfl, rfl, rfl⟩
theorem K_X4_init {a : Nat} {mem : wf_Mem} {set : kSet} (ha : a < 134) (s0 : wf_sh a = (4, 0)) (s1 : wf_sh (a + 1) = (20, 24)) (hz : mem a = fun _ => 0) : Kw mX4_init 1 [.ref a] (a + 1) mem set 1 24 (fun v m g => v = none ∧ m = wf_ms mem a 0 (-1) ∧ g = k_on set a 2) := by
  refine Kw_of rfl (Nat.le_of_ble_eq_true rfl) rfl ?_
  refine K_aload_n 0 dX4_init_0 rfl ?_
  refine K_obj wk_41 wk_0 wk_1 dX4_init_1 ⟨Nat.le_of_ble_eq_true rfl, Nat.le_of_ble_eq_true rfl⟩ (Nat.le_of_ble_eq_true rfl) ?_
  refine K_aload_n 0 dX4_init_4 rfl ?_
  refine K_iconst dX4_init_5 rfl ?_
  refine K_puti pi_X4_9 dX4_init_6 s0 (by omega) rfl rfl ?_
  refine K_aload_n 0 dX4_init_9 rfl ?_
  refine K_iconst dX4_init_10 rfl ?_
  refine K_put0 pi_X4_15 dX4_init_11 s0 (by omega) rfl rfl (by simp [wf_ms, hz]) ?_
  refine K_aload_n 0 dX4_init_14 rfl ?_
  refine K_bipush dX4_init_15 rfl ?_
  refine K_newa wk_2 dX4_init_17 (by omega) s1 (by decide) rfl (by decide) (Nat.le_of_ble_eq_true rfl) (Nat.le_of_ble_eq_true rfl) ?_
  refine K_putr pr_X4_18 rfl dX4_init_19 s0 (by omega) rfl ?_
  exact K_vret dX4_init_22 rfl rfl rfl rfl ⟨rfl, rfl, rfl⟩
theorem K_X3_init {a : Nat} {mem : wf_Mem} {set : kSet} (ha : a < 134) (s0 : wf_sh a = (3, 0)) (s1 : wf_sh (a + 1) = (20, 12)) (s2 : wf_sh (a + 2) = (20, 12)) (s3 : wf_sh (a + 3) = (20, 12)) (hz : mem a = fun _ => 0) : Kw mX3_init 1 [.ref a] (a + 1) mem set 3 36 (fun v m g => v = none ∧ m = mem ∧ g = k_on (k_on (k_on set a 1) a 2) a 3) := by
  refine Kw_of rfl (Nat.le_of_ble_eq_true rfl) rfl ?_
  refine K_aload_n 0 dX3_init_0 rfl ?_
  refine K_obj wk_45 wk_0 wk_1 dX3_init_1 ⟨Nat.le_of_ble_eq_true rfl, Nat.le_of_ble_eq_true rfl⟩ (Nat.le_of_ble_eq_true rfl) ?_
  refine K_aload_n 0 dX3_init_4 rfl ?_
  refine K_iconst dX3_init_5 rfl ?_
  refine K_put0 pi_X3_9 dX3_init_6 s0 (by omega) rfl rfl (by simp [wf_ms, hz]) ?_
  refine K_aload_n 0 dX3_init_9 rfl ?_
  refine K_bipush dX3_init_10 rfl ?_
  refine K_newa wk_2 dX3_init_12 (by omega) s1 (by decide) rfl (by decide) (Nat.le_of_ble_eq_true rfl) (Nat.le_of_ble_eq_true rfl) ?_
  refine K_putr pr_X3_15 rfl dX3_init_14 s0 (by omega) rfl ?_
  refine K_aload_n 0 dX3_init_17 rfl ?_
  refine K_bipush dX3_init_18 rfl ?_
  refine K_newa wk_2 dX3_init_20 (by omega) s2 (by decide) rfl (by decide) (Nat.le_of_ble_eq_true rfl) (Nat.le_of_ble_eq_true rfl) ?_
  refine K_putr pr_X3_19 rfl dX3_init_22 s0 (by omega) rfl ?_
  refine K_aload_n 0 dX3_init_25 rfl ?_
  refine K_bipush dX3_init_26 rfl ?_
  refine K_newa wk_2 dX3_init_28 (by omega) s3 (by decide) rfl (by decide) (Nat.le_of_ble_eq_true rfl) (Nat.le_of_ble_eq_true rfl) ?_
  refine K_putr pr_X3_22 rfl dX3_init_30 s0 (by omega) rfl ?_
  exact K_vret dX3_init_33 rfl rfl rfl rfl ⟨rfl, rfl, rfl⟩
theorem K_X2_init {a : Nat} {mem : wf_Mem} {set : kSet} (ha : a < 134) (s0 : wf_sh a = (2, 0)) (s1 : wf_sh (a + 1) = (20, 96)) (hz : mem a = fun _ => 0) : Kw mX2_init 1 [.ref a, .ref 9] (a + 1) mem set 1 96 (fun v m g => v = none ∧ m = mem ∧ g = k_on (k_on set a 2) a 4) := by
  refine Kw_of rfl (Nat.le_of_ble_eq_true rfl) rfl ?_
  refine K_aload_n 0 dX2_init_0 rfl ?_
  refine K_obj wk_50 wk_0 wk_1 dX2_init_1 ⟨Nat.le_of_ble_eq_true rfl, Nat.le_of_ble_eq_true rfl⟩ (Nat.le_of_ble_eq_true rfl) ?_
  refine K_aload_n 0 dX2_init_4 rfl ?_
  refine K_iconst dX2_init_5 rfl ?_
  refine K_put0 pi_X2_9 dX2_init_6 s0 (by omega) rfl rfl (by simp [wf_ms, hz]) ?_
  refine K_aload_n 0 dX2_init_9 rfl ?_
  refine K_iconst dX2_init_10 rfl ?_
  refine K_put0 pi_X2_15 dX2_init_11 s0 (by omega) rfl rfl (by simp [wf_ms, hz]) ?_
  refine K_aload_n 0 dX2_init_14 rfl ?_
  refine K_bipush dX2_init_15 rfl ?_
  refine K_newa wk_2 dX2_init_17 (by omega) s1 (by decide) rfl (by decide) (Nat.le_of_ble_eq_true rfl) (Nat.le_of_ble_eq_true rfl) ?_
  refine K_putr pr_X2_18 rfl dX2_init_19 s0 (by omega) rfl ?_
  refine K_aload_n 0 dX2_init_22 rfl ?_
  refine K_iconst dX2_init_23 rfl ?_
  refine K_put0 pi_X2_22 dX2_init_24 s0 (by omega) rfl rfl (by simp [wf_ms, hz]) ?_
  refine K_aload_n 0 dX2_init_27 rfl ?_
  refine K_aload_n 1 dX2_init_28 rfl ?_
  refine K_putr pr_X2_25 rfl dX2_init_29 s0 (by omega) rfl ?_
  exact K_vret dX2_init_32 rfl rfl rfl rfl ⟨rfl, rfl, rfl⟩
theorem K_X1_init {a : Nat} {mem : wf_Mem} {set : kSet} (ha : a < 134) (s0 : wf_sh a = (1, 0)) (s1 : wf_sh (a + 1) = (20, 28)) (hz : mem a = fun _ => 0) : Kw mX1_init 1 [.ref a] (a + 1) mem set 1 28 (fun v m g => v = none ∧ m = mem ∧ g = k_on set a 0) := by
  refine Kw_of rfl (Nat.le_of_ble_eq_true rfl) rfl ?_
  refine K_aload_n 0 dX1_init_0 rfl ?_
  refine K_obj wk_56 wk_0 wk_1 dX1_init_1 ⟨Nat.le_of_ble_eq_true rfl, Nat.le_of_ble_eq_true rfl⟩ (Nat.le_of_ble_eq_true rfl) ?_
  refine K_aload_n 0 dX1_init_4 rfl ?_
  refine K_bipush dX1_init_5 rfl ?_
  refine K_newa wk_2 dX1_init_7 (by omega) s1 (by decide) rfl (by decide) (Nat.le_of_ble_eq_true rfl) (Nat.le_of_ble_eq_true rfl) ?_
  refine K_putr pr_X1_11 rfl dX1_init_9 s0 (by omega) rfl ?_
  refine K_aload_n 0 dX1_init_12 rfl ?_
  refine K_iconst dX1_init_13 rfl ?_
  refine K_put0 pi_X1_15 dX1_init_14 s0 (by omega) rfl rfl (by simp [wf_ms, hz]) ?_
  refine K_aload_n 0 dX1_init_17 rfl ?_
  refine K_iconst dX1_init_18 rfl ?_
  refine K_put0 pi_X1_19 dX1_init_19 s0 (by omega) rfl rfl (by simp [wf_ms, hz]) ?_
  refine K_aload_n 0 dX1_init_22 rfl ?_
  refine K_iconst dX1_init_23 rfl ?_
  refine K_put0 pi_X1_22 dX1_init_24 s0 (by omega) rfl rfl (by simp [wf_ms, hz]) ?_
  exact K_vret dX1_init_27 rfl rfl rfl rfl ⟨rfl, rfl, rfl⟩
theorem K_X6_init {a : Nat} {mem : wf_Mem} {set : kSet} (ha : a < 134) (s0 : wf_sh a = (6, 0)) (s1 : wf_sh (a + 1) = (20, 96)) (s2 : wf_sh (a + 2) = (20, 96)) (hz : mem a = fun _ => 0) : Kw mX6_init 1 [.ref a] (a + 1) mem set 2 192 (fun v m g => v = none ∧ m = wf_ms mem a 8 1 ∧ g = k_on (k_on set a 0) a 4) := by
  refine Kw_of rfl (Nat.le_of_ble_eq_true rfl) rfl ?_
  refine K_aload_n 0 dX6_init_0 rfl ?_
  refine K_obj wk_61 wk_0 wk_1 dX6_init_1 ⟨Nat.le_of_ble_eq_true rfl, Nat.le_of_ble_eq_true rfl⟩ (Nat.le_of_ble_eq_true rfl) ?_
  refine K_aload_n 0 dX6_init_4 rfl ?_
  refine K_bipush dX6_init_5 rfl ?_
  refine K_newa wk_2 dX6_init_7 (by omega) s1 (by decide) rfl (by decide) (Nat.le_of_ble_eq_true rfl) (Nat.le_of_ble_eq_true rfl) ?_
  refine K_putr pr_X6_9 rfl dX6_init_9 s0 (by omega) rfl ?_
  refine K_aload_n 0 dX6_init_12 rfl ?_
  refine K_iconst dX6_init_13 rfl ?_
  refine K_put0 pi_X6_15 dX6_init_14 s0 (by omega) rfl rfl (by simp [wf_ms, hz]) ?_
  refine K_aload_n 0 dX6_init_17 rfl ?_
  refine K_iconst dX6_init_18 rfl ?_
  refine K_put0 pi_X6_19 dX6_init_19 s0 (by omega) rfl rfl (by simp [wf_ms, hz]) ?_
  refine K_aload_n 0 dX6_init_22 rfl ?_
  refine K_iconst dX6_init_23 rfl ?_
  refine K_put0 pi_X6_22 dX6_init_24 s0 (by omega) rfl rfl (by simp [wf_ms, hz]) ?_
  refine K_aload_n 0 dX6_init_27 rfl ?_
  refine K_bipush dX6_init_28 rfl ?_
  refine K_newa wk_2 dX6_init_30 (by omega) s2 (by decide) rfl (by decide) (Nat.le_of_ble_eq_true rfl) (Nat.le_of_ble_eq_true rfl) ?_
  refine K_putr pr_X6_25 rfl dX6_init_32 s0 (by omega) rfl ?_
  refine K_aload_n 0 dX6_init_35 rfl ?_
  refine K_iconst dX6_init_36 rfl ?_
  refine K_put0 pi_X6_28 dX6_init_37 s0 (by omega) rfl rfl (by simp [wf_ms, hz]) ?_
  refine K_aload_n 0 dX6_init_40 rfl ?_
  refine K_iconst dX6_init_41 rfl ?_
  refine K_put0 pi_X6_31 dX6_init_42 s0 (by omega) rfl rfl (by simp [wf_ms, hz]) ?_
  refine K_aload_n 0 dX6_init_45 rfl ?_
  refine K_iconst dX6_init_46 rfl ?_
  refine K_put0 pi_X6_34 dX6_init_47 s0 (by omega) rfl rfl (by simp [wf_ms, hz]) ?_
  refine K_aload_n 0 dX6_init_50 rfl ?_
  refine K_iconst dX6_init_51 rfl ?_
  refine K_puti pi_X6_37 dX6_init_52 s0 (by omega) rfl rfl ?_
  exact K_vret dX6_init_55 rfl rfl rfl rfl ⟨rfl, rfl, rfl⟩
theorem K_X5_init {a : Nat} {mem : wf_Mem} {set : kSet} (ha : a < 130) (s0 : wf_sh a = (5, 0)) (s1 : wf_sh (a + 1) = (7, 0)) (s2 : wf_sh (a + 2) = (4, 0)) (s3 : wf_sh (a + 3) = (20, 24)) (hz : mem a = fun _ => 0) (hz1 : mem (a + 1) = fun _ => 0) (hz2 : mem (a + 2) = fun _ => 0) : Kw mX5_init 2 [.ref a] (a + 1) mem set 3 32 (fun v m g => v = none ∧ m = wf_ms (wf_ms mem (a + 1) 2 1) (a + 2) 0 (-1) ∧ g = k_on (k_on (k_on set a 2) (a + 2) 2) a 3) := by
  refine Kw_of rfl (Nat.le_of_ble_eq_true rfl) rfl ?_
  refine K_aload_n 0 dX5_init_0 rfl ?_
  refine K_obj wk_71 wk_0 wk_1 dX5_init_1 ⟨Nat.le_of_ble_eq_true rfl, Nat.le_of_ble_eq_true rfl⟩ (Nat.le_of_ble_eq_true rfl) ?_
  refine K_aload_n 0 dX5_init_4 rfl ?_
  refine K_iconst dX5_init_5 rfl ?_
  refine K_put0 pi_X5_9 dX5_init_6 s0 (by omega) rfl rfl (by simp [wf_ms, hz]) ?_
  refine K_aload_n 0 dX5_init_9 rfl ?_
  refine K_iconst dX5_init_10 rfl ?_
  refine K_put0 pi_X5_15 dX5_init_11 s0 (by omega) rfl rfl (by simp [wf_ms, hz]) ?_
  refine K_aload_n 0 dX5_init_14 rfl ?_
  refine K_new nw_X5_18 dX5_init_15 (by omega) s1 (Nat.le_of_ble_eq_true rfl) (Nat.le_of_ble_eq_true rfl) ?_
  refine K_dup dX5_init_18 rfl ?_
  refine K_callN [] mdk_X7_init mik_X7_init rfl rfl (List.mem_of_getElem? (i := 6) rfl) dX5_init_19 ⟨Nat.le_of_ble_eq_true rfl, Nat.le_of_ble_eq_true rfl, Nat.le_of_ble_eq_true rfl, Nat.le_of_ble_eq_true rfl⟩ rfl rfl (Nat.le_of_ble_eq_true rfl) (by omega) (K_X7_init (a := a + 1) (by omega) s1 hz1) (fun v m g h => ?_)
  obtain ⟨rfl, rfl, rfl⟩ := h
  refine K_putr pr_X5_21 rfl dX5_init_22 s0 (by omega) rfl ?_
  refine K_aload_n 0 dX5_init_25 rfl ?_
  refine K_new nw_X5_25 dX5_init_26 (by omega) s2 (Nat.le_of_ble_eq_true rfl) (Nat.le_of_ble_eq_true rfl) ?_
  refine K_dup dX5_init_29 rfl ?_
  refine K_callN [] mdk_X4_init mik_X4_init rfl rfl (List.mem_of_getElem? (i := 7) rfl) dX5_init_30 ⟨Nat.le_of_ble_eq_true rfl, Nat.le_of_ble_eq_true rfl, Nat.le_of_ble_eq_true rfl, Nat.le_of_ble_eq_true rfl⟩ rfl rfl (Nat.le_of_ble_eq_true rfl) (by omega) (K_X4_init (a := a + 2) (by omega) s2 s3 (by rw [wf_ms_other _ _ _ _ (by omega)]; exact hz2)) (fun v m g h => ?_)
  obtain ⟨rfl, rfl, rfl⟩ := h
  refine K_putr pr_X5_28 rfl dX5_init_33 s0 (by omega) rfl ?_
  exact K_vret dX5_init_36 rfl rfl rfl rfl ⟨rfl, rfl, rfl⟩
end KD
