/-! tell, trim, textTold, why, count -/
def onA (r : Rw) : Nat → Int32
  | 0 => 0
  | w + 1 => onA r w + r (48 + 5 * w + 4)
def WTc : Nat → Prop := fun a => a = 8 ∨ a = 137
section OPL
variable {d : Nat} {mem : wf_Mem} {P : Int32 → wf_Mem → Prop} {Q : wf_Mem → Prop} {r : Rw}
/-- a change of what waits and of the tape only -/
theorem INV.wt {m m' : wf_Mem} (h : INV m) (hf : ∀ a, a ≠ 0 → a ≠ 3 → a ≠ 4 → a ≠ 8 → a ≠ 120 → a ≠ 133 → a ≠ 137 → m' a = m a) (e0 : m' 0 10 = m 0 10) (e1 : m' 120 3 = m 120 3) (hw : waI m') (ht : taI m') : INV m' := by
  obtain ⟨h1, h2, h3, h4, h5, h6⟩ := h
  have u : ∀ a, ((9 ≤ a ∧ a < 120) ∨ (121 ≤ a ∧ a < 133)) → m' a = m a := fun a ha => hf a (by omega) (by omega) (by omega) (by omega) (by omega) (by omega) (by omega)
  exact ⟨h1.fr (u 121 (by omega)) (fun a ha => u a (by unfold RdC at ha; omega)), h2.fr e0 e1 (u 122 (by omega)) (by rw [u 121 (by omega)]; exact Nat.le_refl _) (fun a ha => u a (by unfold RdC at ha; omega)), fun k hk => (h3 k hk).fr (by rw [u 124 (by omega)]) (by rw [u 125 (by omega)]) (fun j hj => by rw [u 126 (by omega)]) (u _ (by omega)) (u _ (by omega)), fun k hk => (h4 k hk).fr (by rw [u 127 (by omega)]) (by rw [u 128 (by omega)]) (by rw [u 129 (by omega)]) (by rw [u 130 (by omega)]) (fun j hj => by rw [u 131 (by omega)]) (fun i hi => u _ (by omega)), hw, ht⟩
theorem L_tell (hI : INV mem) (x : Int32) : Agr (d + 20) mX8_tell mX9_tell [.int x] mem := by
  obtain ⟨n, hn, w1, w2, w3⟩ := hI.2.2.2.2.1
  have e6 : (nI n < 60) ↔ n < 60 := nI_ltI (b := 60) (by omega) (by decide)
  refine E_X8_tell _ ?_
  rw [w1, e6]
  refine ⟨fun lt => ⟨vin lt, fun m1 f1 m2 f2 => ?_⟩, fun ge => E_X9_tell _ ⟨fun c => absurd ?_ c, fun _ => ⟨rfl, hI⟩⟩⟩
  · rw [nI_clamp (by omega)] at f1
    have g1 : m1 0 9 = nI n := by rw [f1, msA _ _ _ _ (by decide)]; exact w1
    rw [g1, nI_1] at f2
    have g2 : m2 0 9 = nI (n + 1) := by rw [f2, msS]
    have g3 : m2 120 31 = nI n := by rw [f2, msA _ _ _ _ (by decide), f1, msA _ _ _ _ (by decide)]; exact w2
    rw [g2]
    refine E_X9_tell _ ?_
    rw [g3]
    have e60 : (nI n = 60) ↔ n = 60 := nI_eq (b := 60) (by omega) (by decide)
    rw [e60]
    refine ⟨fun _ => ⟨vin lt, fun m3 f3 m4 f4 => ?_⟩, fun c => absurd c (by omega)⟩
    rw [nI_clamp (by omega)] at f3
    have g4 : m3 120 31 = nI n := by rw [f3, msA _ _ _ _ (by decide)]; exact g3
    rw [g4, nI_1] at f4
    have g5 : m4 120 31 = nI (n + 1) := by rw [f4, msS]
    refine ⟨g5.symm, ?_⟩
    have k : ∀ a, a ≠ 0 → a ≠ 8 → a ≠ 120 → a ≠ 137 → m4 a = mem a := fun a h1 h2 h3 h4 => by rw [f4, wf_ms_other _ _ _ _ h3, f3, wf_ms_other _ _ _ _ h4, f2, wf_ms_other _ _ _ _ h1, f1, wf_ms_other _ _ _ _ h2]
    have k0 : ∀ j, j ≠ 9 → m4 0 j = mem 0 j := fun j hj => by rw [f4, msA _ _ _ _ (by decide), f3, msA _ _ _ _ (by decide), f2, msK _ _ _ _ hj, f1, msA _ _ _ _ (by decide)]
    have k120 : ∀ j, j ≠ 31 → m4 120 j = mem 120 j := fun j hj => by rw [f4, msK _ _ _ _ hj, f3, msA _ _ _ _ (by decide), f2, msA _ _ _ _ (by decide), f1, msA _ _ _ _ (by decide)]
    refine hI.wt (fun a h1 _ _ h2 h3 _ h4 => k a h1 h2 h3 h4) (k0 10 (by decide)) (k120 3 (by decide)) ⟨n + 1, by omega, ?_, g5, fun j hj => ?_⟩ (hI.2.2.2.2.2.fr (by rw [k 3 (by decide) (by decide) (by decide) (by decide)]) (k120 16 (by decide)) (k 4 (by decide) (by decide) (by decide) (by decide)) (k 133 (by decide) (by decide) (by decide) (by decide)))
    · rw [f4, msA _ _ _ _ (by decide), f3, msA _ _ _ _ (by decide)]; exact g2
    · have a8 : m4 8 j = wf_ms mem 8 n x 8 j := by rw [f4, msA _ _ _ _ (by decide), f3, msA _ _ _ _ (by decide), f2, msA _ _ _ _ (by decide), f1]
      have a137 : m4 137 j = wf_ms mem 137 n x 137 j := by
        rw [f4, msA _ _ _ _ (by decide), f3]
        by_cases e : j = n
        · rw [e, msS, msS]
        · rw [msK _ _ _ _ e, msK _ _ _ _ e, f2, msA _ _ _ _ (by decide), f1, msA _ _ _ _ (by decide)]
      rw [a8, a137]
      by_cases e : j = n
      · rw [e, msS, msS]
      · rw [msK _ _ _ _ e, msK _ _ _ _ e]; exact w3 j (by omega)
  · rw [w2]; exact (nI_eq (b := 60) (by omega) (by decide)).mpr (by omega)
theorem L_trim (hI : INV mem) (x : Int32) : Agr (d + 20) mX8_trim mX9_trim [.int x] mem := by
  obtain ⟨n, hn, w1, w2, w3⟩ := hI.2.2.2.2.2
  refine E_X8_trim _ (k_within x 0 (mem 3 1) (fun a b => n1 (fun m1 f1 => ?_)) (fun bad => n0 ?_))
  · rw [w1] at b
    obtain ⟨k, hk, ek⟩ := nI_bd (m := n) a b (by omega)
    have g2 : m1 120 16 = nI n := by rw [f1, msA _ _ _ _ (by decide)]; exact w2
    refine E_X9_trim _ (c_isIn x 0 (m1 120 16) rfl rfl (fun _ _ => n1 (fun m2 f2 => ⟨rfl, ?_⟩)) (fun bad => absurd ⟨a, by rw [g2]; exact b⟩ bad))
    have q : ∀ a, a ≠ 3 → a ≠ 120 → m2 a = mem a := fun a h1 h2 => by rw [f2, wf_ms_other _ _ _ _ h2, f1, wf_ms_other _ _ _ _ h1]
    have k120 : ∀ j, j ≠ 16 → m2 120 j = mem 120 j := fun j hj => by rw [f2, msK _ _ _ _ hj, f1, msA _ _ _ _ (by decide)]
    refine hI.wt (fun a _ h1 _ _ h2 _ _ => q a h1 h2) (by rw [q 0 (by decide) (by decide)]) (k120 3 (by decide)) (hI.2.2.2.2.1.fr (by rw [q 0 (by decide) (by decide)]) (k120 31 (by decide)) (q 8 (by decide) (by decide)) (q 137 (by decide) (by decide))) ⟨k, by omega, ?_, ?_, fun j hj => ?_⟩
    · rw [f2, msA _ _ _ _ (by decide), f1, msS]; exact ek
    · rw [f2, msS]; exact ek
    · rw [q 4 (by decide) (by decide), q 133 (by decide) (by decide)]; exact w3 j (by omega)
  · refine E_X9_trim _ (c_isIn x 0 (mem 120 16) rfl rfl (fun a b => absurd ⟨a, ?_⟩ bad) (fun _ => n0 ⟨rfl, hI⟩))
    rw [w1, ← w2]; exact b
theorem L_why (hI : INV mem) (x : Int32) : Agr (d + 20) mX8_why mX9_why [.int x] mem := by
  obtain ⟨hO, hB, hR⟩ := hI.1
  refine E_X8_why _ (k_within x 0 2 (fun a b => z1 ?_) (fun bad => z0 (E_X9_why _ (c_isIn x 0 2 rfl rfl (fun a b => absurd ⟨a, b⟩ bad) (fun _ => z0 ⟨rfl, hI⟩)))))
  obtain ⟨k, hk, ek⟩ := nI_bd (m := 2) a b (by decide)
  rw [ek, nI_clamp (by omega)]
  refine ⟨vin (by omega), E_X9_why _ (c_isIn (nI k) 0 2 rfl rfl (fun _ _ => z1 (c_counts rfl hO _ (c_orNone _ ⟨?_, hI⟩))) (fun bad => absurd (by rw [← ek]; exact ⟨a, b⟩) bad))⟩
  exact hR.2.2.2.2.1 k (by omega)
theorem L_textTold (hI : INV mem) (x y : Int32) : Agr (d + 20) mX8_textTold mX9_textTold [.int x, .int y] mem := by
  obtain ⟨hO, hB, hR⟩ := hI.1
  obtain ⟨ht, ht2⟩ := hO.t
  have hm : mem 41 12 = nI (rT (mem 121)) := hR.2.2.2.1.trans ht
  have bad : ¬ ((∃ t, t < rT (mem 121) ∧ x = nI t) ∧ 0 ≤ y ∧ y ≤ 1) → Ci mX9_textTold (d + 20) [.ref 120, .int x, .int y] mem (fun r2 m2 => -1000000001 = r2 ∧ INV m2) := fun hb =>
    E_X9_textTold _ _ (c_isText (rT (mem 121)) x ht (by omega) (fun t h1 h2 => z1 (c_isIn y 0 1 rfl rfl (fun a b => absurd ⟨⟨t, h1, h2⟩, a, b⟩ hb) (fun _ => n0 ⟨rfl, hI⟩))) (fun _ => z0 ⟨rfl, hI⟩))
  refine E_X8_textTold _ _ (k_rng x (rT (mem 121)) hm (by omega) (fun t h1 h2 => z1 (k_within y 0 1 (fun a b => n1 ?_) (fun b => n0 (bad (fun g => b g.2))))) (fun b => z0 (bad (fun g => b g.1))))
  obtain ⟨j, hj, ej⟩ := nI_bd (m := 1) a b (by decide)
  have lw := hR.2.2.2.2.2 t h1
  have ref : ∀ v : Int32, v = mem 121 (88 + 200 * t + j) → Ci mX9_textTold (d + 20) [.ref 120, .int x, .int y] mem (fun r2 m2 => v = r2 ∧ INV m2) := fun v ev => by
    refine E_X9_textTold _ _ (c_isText (rT (mem 121)) x ht (by omega) (fun t' _ _ => z1 (c_isIn y 0 1 rfl rfl (fun _ _ => n1 ?_) (fun b' => absurd ⟨a, b⟩ b'))) (fun b' => absurd ⟨t, h1, h2⟩ b'))
    rw [h2]
    refine c_textAt t ?_
    rw [ej, nI_add, nI_clamp (by omega)]
    exact ⟨vin (by omega), ev, hI⟩
  have q1 : (y = 0) ↔ j = 0 := by rw [ej]; exact nI_eq (b := 0) (by omega) (by decide)
  have et : x.toNatClampNeg = t := by rw [h2, nI_clamp (by omega)]
  rw [et, q1]
  refine ⟨fun c => ⟨by rw [h2]; exact vin (by omega), ref _ ?_⟩, fun c => ⟨by rw [h2]; exact vin (by omega), ref _ ?_⟩⟩
  · have : j = 1 := by omega
    rw [this]; exact lw.2.1
  · rw [c]; exact lw.1
theorem on_loop (hI : okR r) (hr : mem 121 = r) (h : P (onA r (rW r)) mem) : ∀ (f k : Nat), rW r - k ≤ f → k ≤ rW r → Vw (Ni (d + 1) P) mX9_awake 4 [(0, .ref 120), (1, .int (onA r k)), (2, .int (nI k))] [] mem
  | f, k, hf, hk => by
    obtain ⟨hn, hn2⟩ := hI.w
    have ec : (nI (rW r) ≤ nI k) ↔ rW r ≤ k := nI_leI (by omega) (by omega)
    refine b_X9_awake_4 _ _ _ ?_
    rw [hr, hn, ec]
    refine ⟨fun g => ?_, fun g => c_of k 4 (by omega) (fun y ey => ?_)⟩
    · have : k = rW r := by omega
      rw [this]; exact h
    · rw [hr] at ey
      have e : y = onA r (k + 1) := ey
      rw [e, nI_1]
      cases f with
      | zero => omega
      | succ f => exact on_loop hI hr h f (k + 1) (by omega) (by omega)
theorem kon_loop (hI : okR r) (hR : Rel 41 mem r) (h : P (onA r (rW r)) mem) : ∀ (f k : Nat), rW r - k ≤ f → k ≤ rW r → Vw (Ni d P) mX0_onMany 4 [(0, .ref 41), (1, .int (onA r k)), (2, .int (nI k))] [] mem
  | f, k, hf, hk => by
    obtain ⟨hn, hn2⟩ := hI.w
    have ec : (nI (rW r) ≤ nI k) ↔ rW r ≤ k := nI_leI (by omega) (by omega)
    refine b_X0_onMany_4 _ _ sh41 _ _ ?_
    rw [hR.1.2.1, hn, ec]
    refine ⟨fun g => ?_, fun g => ⟨vin (by omega), fun y ey => ?_⟩⟩
    · have : k = rW r := by omega
      rw [this]; exact h
    · rw [nI_clamp (by omega)] at ey
      have e2 : mem (41 + 5 + 4 + k) 4 = r (48 + 5 * k + 4) := hR.2.2.1 k (by omega) 4 (by decide)
      rw [e2] at ey
      have e : y = onA r (k + 1) := ey
      rw [e, nI_1]
      cases f with
      | zero => omega
      | succ f => exact kon_loop hI hR h f (k + 1) (by omega) (by omega)
/-- count, of the reference -/
theorem R_count (x : Int32) (hI : okR (mem 121)) {v : Int32} (hN : INV mem) (hv : v = (if x = 0 then mem 121 0 else if x = 1 then mem 121 1 else if x = 2 then onA (mem 121) (rW (mem 121)) else if x = 3 then mem 121 3 else if x = 4 then mem 121 4 else if x = 5 then mem 121 5 else if x = 6 then mem 121 6 else if x = 7 then alF (mem 121) (rN (mem 121)) else if x = 8 then mem 121 2 else if x = 9 then mem 120 31 else if x = 10 then mem 120 16 else if x = 11 then mem 121 10 else -1000000001)) : Ci mX9_count (d + 20) [.ref 120, .int x] mem (fun r2 m2 => v = r2 ∧ INV m2) := by
  refine E_X9_count _ ⟨fun c0 => ?_, fun c0 => ⟨fun c1 => ?_, fun c1 => ⟨fun c2 => ?_, fun c2 => ⟨fun c3 => ?_, fun c3 => ⟨fun c4 => ?_, fun c4 => ⟨fun c5 => ?_, fun c5 => ⟨fun c6 => ?_, fun c6 => ⟨fun c7 => ?_, fun c7 => ⟨fun c8 => ?_, fun c8 => ⟨fun c9 => ?_, fun c9 => ⟨fun c10 => ?_, fun c10 => ⟨fun c11 => ?_, fun c11 => ?_⟩⟩⟩⟩⟩⟩⟩⟩⟩⟩⟩⟩
  · rw [if_pos c0] at hv; exact ⟨hv, hN⟩
  · rw [if_neg c0, if_pos c1] at hv; exact ⟨hv, hN⟩
  · rw [if_neg c0, if_neg c1, if_pos c2] at hv
    exact E_X9_awake (on_loop hI rfl ⟨hv, hN⟩ 8 0 (by have := hI.w.2; omega) (by omega))
  · rw [if_neg c0, if_neg c1, if_neg c2, if_pos c3] at hv; exact ⟨hv, hN⟩
  · rw [if_neg c0, if_neg c1, if_neg c2, if_neg c3, if_pos c4] at hv; exact ⟨hv, hN⟩
  · rw [if_neg c0, if_neg c1, if_neg c2, if_neg c3, if_neg c4, if_pos c5] at hv; exact ⟨hv, hN⟩
  · rw [if_neg c0, if_neg c1, if_neg c2, if_neg c3, if_neg c4, if_neg c5, if_pos c6] at hv; exact ⟨hv, hN⟩
  · rw [if_neg c0, if_neg c1, if_neg c2, if_neg c3, if_neg c4, if_neg c5, if_neg c6, if_pos c7] at hv
    exact c_allFoals hI rfl ⟨hv, hN⟩
  · rw [if_neg c0, if_neg c1, if_neg c2, if_neg c3, if_neg c4, if_neg c5, if_neg c6, if_neg c7, if_pos c8] at hv; exact ⟨hv, hN⟩
  · rw [if_neg c0, if_neg c1, if_neg c2, if_neg c3, if_neg c4, if_neg c5, if_neg c6, if_neg c7, if_neg c8, if_pos c9] at hv; exact ⟨hv, hN⟩
  · rw [if_neg c0, if_neg c1, if_neg c2, if_neg c3, if_neg c4, if_neg c5, if_neg c6, if_neg c7, if_neg c8, if_neg c9, if_pos c10] at hv; exact ⟨hv, hN⟩
  · rw [if_neg c0, if_neg c1, if_neg c2, if_neg c3, if_neg c4, if_neg c5, if_neg c6, if_neg c7, if_neg c8, if_neg c9, if_neg c10, if_pos c11] at hv; exact ⟨hv, hN⟩
  · rw [if_neg c0, if_neg c1, if_neg c2, if_neg c3, if_neg c4, if_neg c5, if_neg c6, if_neg c7, if_neg c8, if_neg c9, if_neg c10, if_neg c11] at hv; exact ⟨hv, hN⟩
theorem L_count (hI : INV mem) (x : Int32) : Agr (d + 20) mX8_count mX9_count [.int x] mem := by
  obtain ⟨hO, hB, hR⟩ := hI.1
  obtain ⟨n, hn, w1, w2, w3⟩ := hI.2.2.2.2.1
  obtain ⟨n', hn', v1, v2, v3⟩ := hI.2.2.2.2.2
  refine E_X8_count _ ⟨fun c0 => ?_, fun c0 => ⟨fun c1 => ?_, fun c1 => ⟨fun c2 => ?_, fun c2 => ⟨fun c3 => ?_, fun c3 => ⟨fun c4 => ?_, fun c4 => ⟨fun c5 => ?_, fun c5 => ⟨fun c6 => ?_, fun c6 => ⟨fun c7 => ?_, fun c7 => ⟨fun c8 => ?_, fun c8 => ⟨fun c9 => ?_, fun c9 => ⟨fun c10 => ?_, fun c10 => ⟨fun c11 => ?_, fun c11 => ?_⟩⟩⟩⟩⟩⟩⟩⟩⟩⟩⟩⟩
  · refine R_count x hO hI ?_
    rw [if_pos c0]; exact hR.1.1
  · refine R_count x hO hI ?_
    rw [if_neg c0, if_pos c1]; exact hR.1.2.1
  · refine E_X0_onMany _ sh41 (kon_loop hO hR (R_count x hO hI ?_) 8 0 (by have := hO.w.2; omega) (by omega))
    rw [if_neg c0, if_neg c1, if_pos c2]
  · refine R_count x hO hI ?_
    rw [if_neg c0, if_neg c1, if_neg c2, if_pos c3]; exact hR.at 3 (by decide) (by decide)
  · refine R_count x hO hI ?_
    rw [if_neg c0, if_neg c1, if_neg c2, if_neg c3, if_pos c4]; exact hR.at 4 (by decide) (by decide)
  · refine R_count x hO hI ?_
    rw [if_neg c0, if_neg c1, if_neg c2, if_neg c3, if_neg c4, if_pos c5]; exact hR.at 5 (by decide) (by decide)
  · refine R_count x hO hI ?_
    rw [if_neg c0, if_neg c1, if_neg c2, if_neg c3, if_neg c4, if_neg c5, if_pos c6]; exact hR.at 6 (by decide) (by decide)
  · refine k_allFoals (c := 41) rfl hO hR (R_count x hO hI ?_)
    rw [if_neg c0, if_neg c1, if_neg c2, if_neg c3, if_neg c4, if_neg c5, if_neg c6, if_pos c7]
  · refine R_count x hO hI ?_
    rw [if_neg c0, if_neg c1, if_neg c2, if_neg c3, if_neg c4, if_neg c5, if_neg c6, if_neg c7, if_pos c8]; exact hR.2.2.2.1
  · refine R_count x hO hI ?_
    rw [if_neg c0, if_neg c1, if_neg c2, if_neg c3, if_neg c4, if_neg c5, if_neg c6, if_neg c7, if_neg c8, if_pos c9]; exact w1.trans w2.symm
  · refine R_count x hO hI ?_
    rw [if_neg c0, if_neg c1, if_neg c2, if_neg c3, if_neg c4, if_neg c5, if_neg c6, if_neg c7, if_neg c8, if_neg c9, if_pos c10]; exact v1.trans v2.symm
  · refine R_count x hO hI ?_
    rw [if_neg c0, if_neg c1, if_neg c2, if_neg c3, if_neg c4, if_neg c5, if_neg c6, if_neg c7, if_neg c8, if_neg c9, if_neg c10, if_pos c11]; exact hR.at 10 (by decide) (by decide)
  · refine R_count x hO hI ?_
    rw [if_neg c0, if_neg c1, if_neg c2, if_neg c3, if_neg c4, if_neg c5, if_neg c6, if_neg c7, if_neg c8, if_neg c9, if_neg c10, if_neg c11]
end OPL
