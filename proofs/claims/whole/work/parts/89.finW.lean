/-! the law begins: both objects are made -/
theorem wz_0 : Cond.instantiable RX8 11 ∈ gw_tbl := gw_in (List.mem_of_getElem? (i := 85) (by decide +kernel)) (by decide +kernel)
theorem wz_1 : Cond.initialized RX8 ∈ gw_tbl := gw_in (List.mem_of_getElem? (i := 66) (by decide +kernel)) (by decide +kernel)
theorem wz_2 : Cond.classLink RL 7 RX8 ∈ gw_tbl := gw_in (List.mem_of_getElem? (i := 84) (by decide +kernel)) (by decide +kernel)
theorem wz_3 : Cond.instantiable RX9 33 ∈ gw_tbl := gw_in (List.mem_of_getElem? (i := 991) (by decide +kernel)) (by decide +kernel)
theorem wz_4 : Cond.initialized RX9 ∈ gw_tbl := gw_in (List.mem_of_getElem? (i := 75) (by decide +kernel)) (by decide +kernel)
theorem wz_5 : Cond.classLink RL 10 RX9 ∈ gw_tbl := gw_in (List.mem_of_getElem? (i := 990) (by decide +kernel)) (by decide +kernel)
theorem wz_6 : Cond.methodLink RL 9 yX8_init ∈ gw_tbl := gw_in (List.mem_of_getElem? (i := 86) (by decide +kernel)) (by decide +kernel)
theorem wz_7 : Cond.methodLink RL 12 yX9_init ∈ gw_tbl := gw_in (List.mem_of_getElem? (i := 992) (by decide +kernel)) (by decide +kernel)
theorem nw_L_7 : wf_NW RL 7 8 := ⟨RX8, TX8, 11, tyX8, rfl, gi_X8, rfl, by decide, tyX8_ok, wz_2, wz_0, wz_1, fun a j hj => by rcases (show j = 0 ∨ j = 1 ∨ j = 2 ∨ j = 3 ∨ j = 4 ∨ j = 5 ∨ j = 6 ∨ j = 7 ∨ j = 8 ∨ j = 9 ∨ j = 10 by omega) with rfl | rfl | rfl | rfl | rfl | rfl | rfl | rfl | rfl | rfl | rfl <;> rfl⟩
theorem nw_L_10 : wf_NW RL 10 9 := ⟨RX9, TX9, 33, tyX9, rfl, gi_X9, rfl, by decide, tyX9_ok, wz_5, wz_3, wz_4, fun a j hj => by rcases (show j = 0 ∨ j = 1 ∨ j = 2 ∨ j = 3 ∨ j = 4 ∨ j = 5 ∨ j = 6 ∨ j = 7 ∨ j = 8 ∨ j = 9 ∨ j = 10 ∨ j = 11 ∨ j = 12 ∨ j = 13 ∨ j = 14 ∨ j = 15 ∨ j = 16 ∨ j = 17 ∨ j = 18 ∨ j = 19 ∨ j = 20 ∨ j = 21 ∨ j = 22 ∨ j = 23 ∨ j = 24 ∨ j = 25 ∨ j = 26 ∨ j = 27 ∨ j = 28 ∨ j = 29 ∨ j = 30 ∨ j = 31 ∨ j = 32 by omega) with rfl | rfl | rfl | rfl | rfl | rfl | rfl | rfl | rfl | rfl | rfl | rfl | rfl | rfl | rfl | rfl | rfl | rfl | rfl | rfl | rfl | rfl | rfl | rfl | rfl | rfl | rfl | rfl | rfl | rfl | rfl | rfl | rfl <;> rfl⟩
def kNL (b L : Nat) (xs : Nat → Int32) : kNd := (room_1, fun G s args => args = #[Value.ref b] ∧ G.2.2 90002 = b ∧ va_X b L xs s s.heap ∧ b < s.heap.size ∧ G.2.2 0 = s.heap.size ∧ wf_St G s, fun _ below args s => lw_Z below args s)
section FIN
variable {b L : Nat} {xs : Nat → Int32}
theorem k_law18 {k j : Nat} {lv : List (Nat × Value)} {st : List Value} (hk : k ≤ 600000) (hj : j ≤ 7302250) (h : Vw (NLaw b L xs) mL_law 18 lv st (mdM 4)) : Vk (kNL b L xs) mL_law 18 lv st k j 139 (mdM 4) mdS := by
  intro G p l e s m args below meth c H locs ls C D Z hz hb S Lh X
  obtain ⟨x1, x2, x3, x4, x5, x6⟩ := X
  obtain ⟨d1, d2, d3, d4, d5, d6⟩ := D
  have hA : ∀ q, wf_A G q → s.heap.size ≤ q := fun q ⟨a, ha, hq⟩ => by rw [hq, d3 a ha]; omega
  refine W.widen (k := 600000) (n := 7302250) hk hj ?_
  refine va_forget (fun q hq => by have h1 : G.2.2 0 ≤ q.base := S.2.2 q hq; omega) ?_
  refine h G p l e s m args below meth c H [] ls C.1 ⟨d1, k_full kall_ok d2, fun a b ha hb2 e => ?_⟩ x6 ⟨S.1, fun q h1 h2 => S.2.1 q h1 (fun h3 => by have h4 : G.2.2 0 ≤ q := h3; omega), fun q hq => absurd hq List.not_mem_nil⟩ Lh ⟨x1, x2, x3, x4, hA⟩
  rw [d3 a ha, d3 b hb2] at e
  omega
theorem k_law0 (hL : L ≤ 3072) : Vk (kNL b L xs) mL_law 0 [(0, .ref 90002)] [] 0 0 0 m0K g0K := by
  refine K_new nw_L_7 dL_law_0 (by decide) rfl (Nat.le_of_ble_eq_true rfl) (Nat.le_of_ble_eq_true rfl) ?_
  refine K_dup dL_law_3 rfl ?_
  refine K_callI [] mdk_X8_init mik_X8_init rfl rfl wz_6 dL_law_4 ⟨Nat.le_of_ble_eq_true rfl, Nat.le_of_ble_eq_true rfl, Nat.le_of_ble_eq_true rfl, Nat.le_of_ble_eq_true rfl⟩ rfl rfl (Nat.le_of_ble_eq_true rfl) (by decide) K_X8_init (fun v m g h => ?_)
  obtain ⟨rfl, rfl, rfl⟩ := h
  refine K_astore_n (lv' := [(0, .ref 90002), (1, .ref 0)]) dL_law_7 (by decide) rfl rfl ?_
  refine K_new nw_L_10 dL_law_8 (by decide) rfl (Nat.le_of_ble_eq_true rfl) (Nat.le_of_ble_eq_true rfl) ?_
  refine K_dup dL_law_11 rfl ?_
  refine K_callI [] mdk_X9_init mik_X9_init rfl rfl wz_7 dL_law_12 ⟨Nat.le_of_ble_eq_true rfl, Nat.le_of_ble_eq_true rfl, Nat.le_of_ble_eq_true rfl, Nat.le_of_ble_eq_true rfl⟩ rfl rfl (Nat.le_of_ble_eq_true rfl) (by decide) K_X9_init (fun v m g h => ?_)
  obtain ⟨rfl, rfl, rfl⟩ := h
  refine K_astore_n (lv' := [(0, .ref 90002), (1, .ref 0), (2, .ref 120)]) dL_law_15 (by decide) rfl rfl ?_
  refine K_iconst dL_law_16 rfl ?_
  refine K_istore_n (lv' := [(0, .ref 90002), (1, .ref 0), (2, .ref 120), (3, .int 0)]) dL_law_17 (by decide) rfl rfl ?_
  exact k_law18 (Nat.le_of_ble_eq_true rfl) (Nat.le_of_ble_eq_true rfl) (law_loop hL (L + 6) 0 (mdM 4) (by omega) (by omega) inv0)
end FIN
theorem st_nest {s : State} {args : Array Value} (hts : ∀ w ∈ lw_tbl, w.before args s = true) : ∀ w ∈ wf_nest, va_Nw w s := by
  intro w hw
  simp only [wf_nest, List.mem_cons, List.not_mem_nil, or_false] at hw
  rcases hw with rfl | rfl | rfl | rfl | rfl | rfl | rfl
  · exact va_tabs rfl rfl (hts _ (List.mem_of_getElem? (i := 418) (by decide +kernel)))
  · exact va_tabs rfl rfl (hts _ (List.mem_of_getElem? (i := 440) (by decide +kernel)))
  · exact va_tabs rfl rfl (hts _ (List.mem_of_getElem? (i := 451) (by decide +kernel)))
  · exact va_tabs rfl rfl (hts _ (List.mem_of_getElem? (i := 528) (by decide +kernel)))
  · exact va_tabs rfl rfl (hts _ (List.mem_of_getElem? (i := 529) (by decide +kernel)))
  · exact va_tabs rfl rfl (hts _ (List.mem_of_getElem? (i := 542) (by decide +kernel)))
  · exact va_tabs rfl rfl (hts _ (List.mem_of_getElem? (i := 914) (by decide +kernel)))
theorem st_knest {s : State} {args : Array Value} (hts : ∀ w ∈ lw_tbl, w.before args s = true) : ∀ w ∈ k_nest, va_Nw w s := by
  intro w hw
  simp only [k_nest, List.mem_cons, List.not_mem_nil, or_false] at hw
  rcases hw with rfl | rfl | rfl | rfl | rfl | rfl | rfl | rfl
  · exact va_tabs rfl rfl (hts _ (List.mem_of_getElem? (i := 94) (by decide +kernel)))
  · exact va_tabs rfl rfl (hts _ (List.mem_of_getElem? (i := 117) (by decide +kernel)))
  · exact va_tabs rfl rfl (hts _ (List.mem_of_getElem? (i := 191) (by decide +kernel)))
  · exact va_tabs rfl rfl (hts _ (List.mem_of_getElem? (i := 221) (by decide +kernel)))
  · exact va_tabs rfl rfl (hts _ (List.mem_of_getElem? (i := 320) (by decide +kernel)))
  · exact va_tabs rfl rfl (hts _ (List.mem_of_getElem? (i := 338) (by decide +kernel)))
  · exact va_tabs rfl rfl (hts _ (List.mem_of_getElem? (i := 343) (by decide +kernel)))
  · exact va_tabs rfl rfl (hts _ (List.mem_of_getElem? (i := 345) (by decide +kernel)))
theorem st_kSt {s : State} {args : Array Value} (hts : ∀ w ∈ lw_tbl, w.before args s = true) : kSt s :=
  ⟨st_knest hts, va_AO.of (hts _ (List.mem_of_getElem? (i := 158) (by decide +kernel))), va_AO.of (hts _ (List.mem_of_getElem? (i := 218) (by decide +kernel))), va_AO.of (hts _ (List.mem_of_getElem? (i := 151) (by decide +kernel))), va_AO.of (hts _ (List.mem_of_getElem? (i := 153) (by decide +kernel)))⟩
theorem st_K {s : State} {args : Array Value} (hts : ∀ w ∈ lw_tbl, w.before args s = true) : ∃ D : va_G, ∀ (c : Nat) (q : vw_C), vwCl[c]? = some q → u_Kn s q.1 q.2.1 q.2.2 (D.1 c) (D.2 c) := by
  have hg : ∀ w ∈ gw_tbl, w.before args s = true := fun w hw => hts w (gw_lw hw)
  obtain ⟨c0, i0, k0⟩ := u_known hg gi_X0 (hts (.instantiable RX0 17) (List.mem_of_getElem? (i := 184) (by decide +kernel)))
  obtain ⟨c1, i1, k1⟩ := u_known hg gi_X1 (hts (.instantiable RX1 4) (List.mem_of_getElem? (i := 93) (by decide +kernel)))
  obtain ⟨c2, i2, k2⟩ := u_known hg gi_X2 (hts (.instantiable RX2 5) (List.mem_of_getElem? (i := 159) (by decide +kernel)))
  obtain ⟨c3, i3, k3⟩ := u_known hg gi_X3 (hts (.instantiable RX3 4) (List.mem_of_getElem? (i := 190) (by decide +kernel)))
  obtain ⟨c4, i4, k4⟩ := u_known hg gi_X4 (hts (.instantiable RX4 3) (List.mem_of_getElem? (i := 319) (by decide +kernel)))
  obtain ⟨c5, i5, k5⟩ := u_known hg gi_X5 (hts (.instantiable RX5 4) (List.mem_of_getElem? (i := 337) (by decide +kernel)))
  obtain ⟨c6, i6, k6⟩ := u_known hg gi_X6 (hts (.instantiable RX6 9) (List.mem_of_getElem? (i := 116) (by decide +kernel)))
  obtain ⟨c7, i7, k7⟩ := u_known hg gi_X7 (hts (.instantiable RX7 5) (List.mem_of_getElem? (i := 220) (by decide +kernel)))
  obtain ⟨c8, i8, k8⟩ := u_known hg gi_X8 (hts (.instantiable RX8 11) (List.mem_of_getElem? (i := 85) (by decide +kernel)))
  obtain ⟨c9, i9, k9⟩ := u_known hg gi_X9 (hts (.instantiable RX9 33) (List.mem_of_getElem? (i := 991) (by decide +kernel)))
  refine ⟨(fun c => [c0, c1, c2, c3, c4, c5, c6, c7, c8, c9].getD c 0, fun c => [i0, i1, i2, i3, i4, i5, i6, i7, i8, i9].getD c (fun _ => 0)), fun c q hq => ?_⟩
  have hc : c < 10 := (List.getElem?_eq_some_iff.mp hq).1
  rcases (show c = 0 ∨ c = 1 ∨ c = 2 ∨ c = 3 ∨ c = 4 ∨ c = 5 ∨ c = 6 ∨ c = 7 ∨ c = 8 ∨ c = 9 by omega) with rfl | rfl | rfl | rfl | rfl | rfl | rfl | rfl | rfl | rfl
  · cases hq; exact k0
  · cases hq; exact k1
  · cases hq; exact k2
  · cases hq; exact k3
  · cases hq; exact k4
  · cases hq; exact k5
  · cases hq; exact k6
  · cases hq; exact k7
  · cases hq; exact k8
  · cases hq; exact k9
theorem st_arr {s : State} {args : Array Value} (hts : ∀ w ∈ lw_tbl, w.before args s = true) : ∃ ac : Nat → ClassId, ∀ (k : Nat) (q : ClassId × FieldType), ([(ac 20, .int), (ac 21, .object RX2), (ac 22, .object RX7), (ac 23, .object RX4), (ac 24, .object RX5)] : List (ClassId × FieldType))[k]? = some q → ArrOfT s q.1 q.2 ∧ va_RA s q.1 q.2 := by
  have ob : ∀ C : String, va_AO C s → ∃ cA : ClassId, ArrOfT s cA (.object C) ∧ va_RA s cA (.object C) := fun C h => by
    obtain ⟨comp, c, k, h1, h2, h3, h4, h5⟩ := Cond.arrayOver_spec h
    exact ⟨c, fun n z => ⟨fun k h => (by cases h), k, h3, comp, h4⟩, k, comp, h3, h4, h1, h5⟩
  have hk := st_kSt hts
  obtain ⟨a0, k0, m0, e1, e2, e3⟩ := Cond.arrayClass_spec (hts (.arrayClass .int) (List.mem_of_getElem? (i := 114) (by decide +kernel)))
  obtain ⟨a1, b1⟩ := ob _ hk.2.1
  obtain ⟨a2, b2⟩ := ob _ hk.2.2.1
  obtain ⟨a3, b3⟩ := ob _ hk.2.2.2.1
  obtain ⟨a4, b4⟩ := ob _ hk.2.2.2.2
  refine ⟨fun kd => [a0, a1, a2, a3, a4].getD (kd - 20) 0, fun k q hq => ?_⟩
  have hc : k < 5 := (List.getElem?_eq_some_iff.mp hq).1
  rcases (show k = 0 ∨ k = 1 ∨ k = 2 ∨ k = 3 ∨ k = 4 by omega) with rfl | rfl | rfl | rfl | rfl
  · cases hq; exact ⟨fun n z => ⟨fun k h => (by cases h), k0, e2, m0, e3⟩, e1⟩
  · cases hq; exact b1
  · cases hq; exact b2
  · cases hq; exact b3
  · cases hq; exact b4
