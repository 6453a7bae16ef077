section OPB
variable {d : Nat} {mem : wf_Mem} {P : Int32 → wf_Mem → Prop} {Q : wf_Mem → Prop} {r : Rw}
theorem k_row {q j : Nat} (hq : wf_sh q = (3, 0)) (hj : j < 3) {PA : Nat → wf_Mem → Prop} (h : PA (q + (j + 1)) mem) : Ca mX3_row d [.ref q, .int (nI j)] mem PA := by
  refine E_X3_row _ hq _ ?_
  have e0 : (nI j = 0) ↔ j = 0 := nI_eq (b := 0) (by omega) (by decide)
  have e1 : (nI j = 1) ↔ j = 1 := nI_eq (b := 1) (by omega) (by decide)
  rw [e0, e1]
  refine ⟨fun c0 => ⟨fun c1 => ?_, fun c1 => ?_⟩, fun c0 => ?_⟩
  · have : j = 2 := by omega
    subst this; exact h
  · subst c1; exact h
  · subst c0; exact h
theorem sh_ring {q j : Nat} (hq : wf_sh q = (3, 0)) (hj : j < 3) : wf_sh (q + (j + 1)) = (20, 12) := by
  have : j = 0 ∨ j = 1 ∨ j = 2 := by omega
  rcases this with rfl | rfl | rfl
  · exact sh_3_1 hq
  · exact sh_3_2 hq
  · exact sh_3_3 hq
def gLay (r : Rw) (x y z : Int32) : Prop := ∃ k j, k < rN r ∧ j < 3 ∧ x = nI k ∧ y = nI j ∧ 0 ≤ z ∧ z ≤ (if j = 1 then 9 else 99)
theorem R_lays (hr : mem 121 = r) (hI : okR r) (x y z : Int32) (h1 : ∀ k j, k < rN r → j < 3 → x = nI k → y = nI j → 0 ≤ z → z ≤ (if j = 1 then 9 else 99) → ∀ m', RO mem m' → m' 121 = upd r (12 + 3 * k + j) z → P (r (12 + 3 * k + j)) m') (h0 : ¬ gLay r x y z → P (-1000000001) mem) : Ci mX9_lays (d + 2) [.ref 120, .int x, .int y, .int z] mem P := by
  obtain ⟨hn, hn2⟩ := hI.n
  have hm : mem 121 0 = nI (rN r) := by rw [hr]; exact hn
  refine E_X9_lays _ _ _ (c_isWagon (rN r) x hm (by omega) (fun k hk ek => z1 (c_isIn y 0 2 rfl rfl (fun a b => z1 ?_) (fun bad => z0 (h0 (fun ⟨k, j, g1, g2, g3, g4, g5⟩ => bad ?_))))) (fun bad => z0 (h0 (fun ⟨k, j, g1, g2, g3, g4, g5⟩ => bad ⟨k, g1, g3⟩))))
  · obtain ⟨j, hj, ej⟩ := nI_bd (m := 2) a b (by decide)
    have fin : ∀ (hi : Int32) (H : Int64), H = hi.toInt64 → hi = (if j = 1 then 9 else 99) → Vw (Ni (d + 2) P) mX9_lays 37 [(0, .ref 120), (1, .int x), (2, .int y), (3, .int z)] [.long H, .long 0, .long z.toInt64] mem := by
      intro hi H hH e
      refine b_X9_lays_37 _ _ _ _ _ _ _ (c_isIn z 0 hi rfl hH (fun a b => n1 ?_) (fun bad => n0 (h0 (fun ⟨k', j', g1, g2, g3, g4, g5, g6⟩ => bad ⟨g5, ?_⟩))))
      · rw [ek, ej, ixw]
        refine c_becomes _ z (by omega) ?_
        rw [hr]
        exact h1 k j hk (by omega) ek ej a (by rw [← e]; exact b) _ (RO.ms (Or.inl rfl)) (ms121 hr)
      · have : j' = j := (nI_eq (by omega) (by omega)).mp (g4.symm.trans ej)
        subst this; rw [e]; exact g6
    have e1 : (y = 1) ↔ j = 1 := by rw [ej]; exact nI_eq (b := 1) (by omega) (by decide)
    rw [e1]
    exact ⟨fun g => fin 99 99 rfl (by rw [if_neg g]), fun g => fin 9 9 rfl (by rw [if_pos g])⟩
  · rw [g4]
    exact ⟨nI_pos' (by omega), nI_le (b := 2) (by omega) (by decide)⟩
theorem L_lays (hI : INV mem) (x y z : Int32) : Agr (d + 20) mX8_lays mX9_lays [.int x, .int y, .int z] mem := by
  obtain ⟨hO, hB, hR⟩ := hI.1
  obtain ⟨hn, hn2⟩ := hO.n
  have hm : mem 42 0 = nI (rN (mem 121)) := hR.1.1.trans hn
  have bad : ¬ gLay (mem 121) x y z → Ci mX9_lays (d + 20) [.ref 120, .int x, .int y, .int z] mem (fun r2 m2 => -1000000001 = r2 ∧ INV m2) := fun hb =>
    R_lays rfl hO x y z (fun k j a b e f g h => absurd ⟨k, j, a, b, e, f, g, h⟩ hb) (fun _ => ⟨rfl, hI⟩)
  refine E_X8_lays _ _ _ (k_has rfl x (rN (mem 121)) hm (by omega) (fun k hk ek => z1 (k_within y 0 2 (fun a b => z1 ?_) (fun b => z0 (bad (fun ⟨k, j, g1, g2, g3, g4, g5⟩ => b ?_))))) (fun b => z0 (bad (fun ⟨k, j, g1, g2, g3, g4, g5⟩ => b ⟨k, g1, g3⟩))))
  · obtain ⟨j, hj, ej⟩ := nI_bd (m := 2) a b (by decide)
    have fin : ∀ (hi : Int32), hi = (if j = 1 then 9 else 99) → Vw (Ni (d + 20) (fun r m1 => Ci mX9_lays (d + 20) [.ref 120, .int x, .int y, .int z] m1 (fun r2 m2 => r = r2 ∧ INV m2))) mX8_lays 37 [(0, .ref 0), (1, .int x), (2, .int y), (3, .int z)] [.int hi, .int 0, .int z] mem := by
      intro hi e
      refine b_X8_lays_37 _ _ _ _ _ _ _ (k_within z 0 hi (fun a b => n1 ?_) (fun b => n0 (bad (fun ⟨k', j', g1, g2, g3, g4, g5, g6⟩ => b ⟨g5, ?_⟩))))
      · rw [ej]
        refine k_row (q := 42) rfl (by omega) ⟨sh_ring rfl (by omega), ?_⟩
        rw [ek, nI_clamp (by omega)]
        refine ⟨vin (by omega), fun v ev => ⟨vin (by omega), fun m1 f1 => ?_⟩⟩
        subst f1
        have hF : Fr CO mem (wf_ms mem (42 + (j + 1)) k z) := Fr.ms (by unfold CO; omega)
        rw [← ek, ← ej]
        refine R_lays (CO.ref hF (by decide)) hO x y z (fun k' j' g1 g2 g3 g4 g5 g6 m' ro e' => ?_) (fun b' => absurd ⟨k, j, hk, by omega, ek, ej, a, by rw [← e]; exact b⟩ b')
        have e1 : k' = k := (nI_eq (by omega) (by omega)).mp (g3.symm.trans ek)
        have e2 : j' = j := (nI_eq (by omega) (by omega)).mp (g4.symm.trans ej)
        subst e1 e2
        refine ⟨?_, hI.op hF ro (hR.wg sh41 hO (k := k') (j := j') (by omega) (by omega) z) e' (okR_wg hO (by omega) (by omega) ⟨g5, g6⟩) ?_ ?_⟩
        · rw [ev]
          have := hR.2.1 k' hk
          have hj3 : j' = 0 ∨ j' = 1 ∨ j' = 2 := by omega
          rcases hj3 with rfl | rfl | rfl
          · exact this.1
          · exact this.2.1
          · exact this.2.2
        · unfold hb; rw [updN _ _ (by omega)]; exact hB
        · unfold rT; rw [updN _ _ (by omega)]; exact Nat.le_refl _
      · have : j' = j := (nI_eq (by omega) (by omega)).mp (g4.symm.trans ej)
        subst this; rw [e]; exact g6
    have e1 : (y = 1) ↔ j = 1 := by rw [ej]; exact nI_eq (b := 1) (by omega) (by decide)
    rw [e1]
    exact ⟨fun g => fin 99 (by rw [if_neg g]), fun g => fin 9 (by rw [if_pos g])⟩
  · rw [g4]
    exact ⟨nI_pos' (by omega), nI_le (b := 2) (by omega) (by decide)⟩
/-- at -/
def atV (r : Rw) (k j : Nat) : Int32 := if j < 3 then r (12 + 3 * k + j) else if j = 3 then ltR r k else if j = 4 then gdR r k else frR r k
theorem R_at (hr : mem 121 = r) (hI : okR r) (x y : Int32) (h1 : ∀ k j, k < rN r → j < 6 → x = nI k → y = nI j → ∀ m', sc mem m' → P (atV r k j) m') (h0 : ¬ ((∃ k, k < rN r ∧ x = nI k) ∧ (∃ j, j < 6 ∧ y = nI j)) → P (-1000000001) mem) : Ci mX9_at (d + 6) [.ref 120, .int x, .int y] mem P := by
  obtain ⟨hn, hn2⟩ := hI.n
  have hm : mem 121 0 = nI (rN r) := by rw [hr]; exact hn
  refine E_X9_at _ _ (c_isWagon (rN r) x hm (by omega) (fun k hk ek => n1 ?_) (fun bad => n0 (h0 (fun g => bad g.1))))
  have g : ∀ j, j < 6 → y = nI j → ∀ m', sc mem m' → P (atV r k j) m' := fun j hj ej => h1 k j hk hj ek ej
  rw [ek]
  have rd : ∀ j : Nat, j < 3 → y = nI j → Ci mX9_wagonsOwn (d + 5) [.ref 120, .int (nI k), .int y] mem (fun r6 mem5 => P r6 mem5) := fun j hj ej => by
    rw [ej]
    refine c_wagonsOwn k j (by omega) ?_
    have := g j (by omega) ej mem sc.rf
    unfold atV at this
    rw [if_pos hj] at this
    rw [hr]; exact this
  refine ⟨fun e => rd 0 (by decide) e, fun c0 => ⟨fun e => rd 1 (by decide) e, fun c1 => ⟨fun e => rd 2 (by decide) e, fun c2 => ⟨fun e => c_light hr hI hk (g 3 (by decide) e), fun c3 => ⟨fun e => c_guard hr hI hk (g 4 (by decide) e), fun c4 => ⟨fun e => c_fears hr hI hk (g 5 (by decide) e), fun c5 => h0 (fun ⟨_, j, hj, ej⟩ => ?_)⟩⟩⟩⟩⟩⟩
  have : j = 0 ∨ j = 1 ∨ j = 2 ∨ j = 3 ∨ j = 4 ∨ j = 5 := by omega
  rcases this with rfl | rfl | rfl | rfl | rfl | rfl
  · exact c0 ej
  · exact c1 ej
  · exact c2 ej
  · exact c3 ej
  · exact c4 ej
  · exact c5 ej
theorem L_at (hI : INV mem) (x y : Int32) : Agr (d + 20) mX8_at mX9_at [.int x, .int y] mem := by
  obtain ⟨hO, hB, hR⟩ := hI.1
  obtain ⟨hn, hn2⟩ := hO.n
  have hm : mem 42 0 = nI (rN (mem 121)) := hR.1.1.trans hn
  have bad : ¬ ((∃ k, k < rN (mem 121) ∧ x = nI k) ∧ (∃ j, j < 6 ∧ y = nI j)) → Ci mX9_at (d + 20) [.ref 120, .int x, .int y] mem (fun r2 m2 => -1000000001 = r2 ∧ INV m2) := fun hb =>
    R_at rfl hO x y (fun k j hk hj ek ej => absurd ⟨⟨k, hk, ek⟩, ⟨j, hj, ej⟩⟩ hb) (fun _ => ⟨rfl, hI⟩)
  refine E_X8_at _ _ (k_has rfl x (rN (mem 121)) hm (by omega) (fun k hk ek => z1 (k_within y 0 5 (fun a b => n1 ?_) (fun b => n0 (bad (fun ⟨_, j, hj, ej⟩ => b (by rw [ej]; exact ⟨nI_pos' (by omega), nI_le (b := 5) (by omega) (by decide)⟩)))))) (fun b => z0 (bad (fun g => b g.1))))
  obtain ⟨j, hj, ej⟩ := nI_bd (m := 5) a b (by decide)
  have good : ∀ (m1 : wf_Mem) (v : Int32), Fr CO mem m1 → Rel 41 m1 (mem 121) → v = atV (mem 121) k j → Ci mX9_at (d + 20) [.ref 120, .int x, .int y] m1 (fun r2 m2 => v = r2 ∧ INV m2) := fun m1 v hF hR1 ev =>
    R_at (CO.ref hF (by decide)) hO x y (fun k' j' g1 g2 g3 g4 m' hs => by
      have e1 : k' = k := (nI_eq (by omega) (by omega)).mp (g3.symm.trans ek)
      have e2 : j' = j := (nI_eq (by omega) (by omega)).mp (g4.symm.trans ej)
      subst e1 e2
      exact ⟨ev, hI.rd hF hs.ro hR1 (hs.s.trans (CO.ref hF (by decide)))⟩) (fun b' => absurd ⟨⟨k, hk, ek⟩, ⟨j, by omega, ej⟩⟩ b')
  have e2 : (2 < y) ↔ 2 < j := by rw [ej]; exact nI_ltI (a := 2) (by decide) (by omega)
  have e3 : (y = 3) ↔ j = 3 := by rw [ej]; exact nI_eq (b := 3) (by omega) (by decide)
  have e4 : (y = 4) ↔ j = 4 := by rw [ej]; exact nI_eq (b := 4) (by omega) (by decide)
  have bounds := hk
  rw [e2, e3, e4]
  refine ⟨fun g2 => k_measure sh41 hO hR (fun m1 f1 G => ?_), fun g2 => ?_⟩
  · have hR1 : Rel 41 m1 (mem 121) := hR.sm sh41 hO f1
    refine ⟨fun g3 => ?_, fun g3 => ⟨fun g4 => ?_, fun g4 => ?_⟩⟩
    · have hv : m1 48 x.toNatClampNeg = atV (mem 121) k j := by
        rw [ek, nI_clamp (by omega)]; unfold atV; rw [if_neg (by omega), if_pos g3]; exact (G k hk).1
      exact ⟨by rw [ek]; exact vin (by omega), good m1 _ (CO.m41 f1) hR1 hv⟩
    · have hv : m1 49 x.toNatClampNeg = atV (mem 121) k j := by
        rw [ek, nI_clamp (by omega)]; unfold atV; rw [if_neg (by omega), if_neg (by omega), if_pos g4]; exact (G k hk).2
      exact ⟨by rw [ek]; exact vin (by omega), good m1 _ (CO.m41 f1) hR1 hv⟩
    · have hcall : Ci mX0_fearsOf (d + 19) [.ref 41, .int (nI k)] m1 (fun r12 mem11 => Ci mX9_at (d + 20) [.ref 120, .int x, .int y] mem11 (fun r2 m2 => r12 = r2 ∧ INV m2)) :=
        k_fearsOf sh41 hO hR1 hk (G k hk).2 (fun m2 f2 => good m2 _ ((CO.m41 f1).tr (CO.s9 f2)) (hR1.sm sh41 hO (S9.m f2)) (by unfold atV; rw [if_neg (by omega), if_neg (by omega), if_neg (by omega)]))
      rw [← ek] at hcall
      exact hcall
  · have hcall : Ca mX3_row (d + 19) [.ref 42, .int (nI j)] mem (fun a14 mem13 => wf_sh a14 = (20, 12) ∧ (vp_in x 12 ∧ Ci mX9_at (d + 20) [.ref 120, .int x, .int y] mem13 (fun r2 m2 => mem13 a14 x.toNatClampNeg = r2 ∧ INV m2))) := by
      refine k_row (q := 42) rfl (by omega) ⟨sh_ring rfl (by omega), by rw [ek]; exact vin (by omega), good mem _ Fr.rf hR ?_⟩
      rw [ek, nI_clamp (by omega)]
      unfold atV
      rw [if_pos (by omega)]
      have := hR.2.1 k hk
      have hj3 : j = 0 ∨ j = 1 ∨ j = 2 := by omega
      rcases hj3 with rfl | rfl | rfl
      · exact this.1
      · exact this.2.1
      · exact this.2.2
    rw [← ej] at hcall
    exact hcall
end OPB
