/-! as, turns, set, deal -/
abbrev ioR (v x : Int32) : Prop := v = x ∨ x = 0 ∨ (x = 1 ∧ v = 3) ∨ (x = 2 ∧ v = 4)
section OPD
variable {d : Nat} {mem : wf_Mem} {P : Int32 → wf_Mem → Prop} {Q : wf_Mem → Prop} {r : Rw}
theorem io_m1 (x s : Int32) (h : P 0 mem) : Vw (Ni (d + 2) P) mX7_isOf 7 [(1, .int x), (2, .int (-1)), (3, .int s)] [] mem :=
  b_X7_isOf_7 _ _ _ _ ⟨fun _ => h, fun _ => k_isKind (-1) (fun a b => absurd a (by decide)) (fun _ => z0 h)⟩
theorem io_st (x : Int32) (j : Nat) (s : Int32) (hs : ¬ 6 ≤ s) (hj : j < 6) (h1 : nI j = x → P 1 mem) (h2 : ¬ nI j = x → Vw (Ni (d + 2) P) mX7_isOf 7 [(1, .int x), (2, .int (wf_abv j)), (3, .int (s + 1))] [] mem) : Vw (Ni (d + 2) P) mX7_isOf 7 [(1, .int x), (2, .int (nI j)), (3, .int s)] [] mem := by
  refine b_X7_isOf_7 _ _ _ _ ⟨fun c => absurd c hs, fun _ => k_isKind (nI j) (fun a b => z1 ⟨fun c => ⟨vin hj, fun y ey => ?_⟩, h1⟩) (fun b => absurd ⟨nI_pos' (by omega), nI_le (b := 5) (by omega) (by decide)⟩ b)⟩
  rw [nI_clamp (by omega)] at ey
  subst ey
  exact h2 c
theorem k_isOf {q : Nat} (hq : wf_sh q = (7, 0)) (x : Int32) (hv : 0 ≤ mem q 0 ∧ mem q 0 ≤ 5) (hx : 0 ≤ x ∧ x ≤ 5) (h1 : ioR (mem q 0) x → P 1 mem) (h0 : ¬ ioR (mem q 0) x → P 0 mem) : Ci mX7_isOf (d + 2) [.ref q, .int x] mem P := by
  refine E_X7_isOf _ hq _ (fun y ey => ?_)
  rw [← ey] at hv h1 h0
  obtain ⟨j, hj, ej⟩ := nI_bd (m := 5) hv.1 hv.2 (by decide)
  obtain ⟨i, hi, ei⟩ := nI_bd (m := 5) hx.1 hx.2 (by decide)
  subst ej ei
  have z : ∀ s : Int32, ¬ 6 ≤ s → (i = 0 → P 1 mem) → (¬ i = 0 → P 0 mem) → Vw (Ni (d + 2) P) mX7_isOf 7 [(1, .int (nI i)), (2, .int 0), (3, .int s)] [] mem := fun s hs a b =>
    io_st (nI i) 0 s hs (by decide) (fun e => a ((nI_eq (by decide) (by omega)).mp e).symm) (fun e => io_m1 _ _ (b (fun c => e (by rw [c]))))
  have hjj : j = 0 ∨ j = 1 ∨ j = 2 ∨ j = 3 ∨ j = 4 ∨ j = 5 := by omega
  have hii : i = 0 ∨ i = 1 ∨ i = 2 ∨ i = 3 ∨ i = 4 ∨ i = 5 := by omega
  rcases hjj with rfl | rfl | rfl | rfl | rfl | rfl <;> rcases hii with rfl | rfl | rfl | rfl | rfl | rfl <;>
    first
    | exact io_st _ _ 0 (by decide) (by decide) (fun _ => h1 (by decide)) (fun e => absurd rfl e)
    | exact io_st _ _ 0 (by decide) (by decide) (fun e => absurd e (by decide)) (fun _ => io_m1 _ _ (h0 (by decide)))
    | exact io_st _ _ 0 (by decide) (by decide) (fun e => absurd e (by decide)) (fun _ => io_st _ 0 1 (by decide) (by decide) (fun _ => h1 (by decide)) (fun e => absurd rfl e))
    | exact io_st _ _ 0 (by decide) (by decide) (fun e => absurd e (by decide)) (fun _ => io_st _ 0 1 (by decide) (by decide) (fun e => absurd e (by decide)) (fun _ => io_m1 _ _ (h0 (by decide))))
    | exact io_st _ _ 0 (by decide) (by decide) (fun e => absurd e (by decide)) (fun _ => io_st _ 1 1 (by decide) (by decide) (fun _ => h1 (by decide)) (fun e => absurd rfl e))
    | exact io_st _ _ 0 (by decide) (by decide) (fun e => absurd e (by decide)) (fun _ => io_st _ 2 1 (by decide) (by decide) (fun _ => h1 (by decide)) (fun e => absurd rfl e))
    | exact io_st _ _ 0 (by decide) (by decide) (fun e => absurd e (by decide)) (fun _ => io_st _ 1 1 (by decide) (by decide) (fun e => absurd e (by decide)) (fun _ => io_st _ 0 2 (by decide) (by decide) (fun _ => h1 (by decide)) (fun e => absurd rfl e)))
    | exact io_st _ _ 0 (by decide) (by decide) (fun e => absurd e (by decide)) (fun _ => io_st _ 2 1 (by decide) (by decide) (fun e => absurd e (by decide)) (fun _ => io_st _ 0 2 (by decide) (by decide) (fun _ => h1 (by decide)) (fun e => absurd rfl e)))
    | exact io_st _ _ 0 (by decide) (by decide) (fun e => absurd e (by decide)) (fun _ => io_st _ 1 1 (by decide) (by decide) (fun e => absurd e (by decide)) (fun _ => io_st _ 0 2 (by decide) (by decide) (fun e => absurd e (by decide)) (fun _ => io_m1 _ _ (h0 (by decide)))))
    | exact io_st _ _ 0 (by decide) (by decide) (fun e => absurd e (by decide)) (fun _ => io_st _ 2 1 (by decide) (by decide) (fun e => absurd e (by decide)) (fun _ => io_st _ 0 2 (by decide) (by decide) (fun e => absurd e (by decide)) (fun _ => io_m1 _ _ (h0 (by decide)))))
theorem c_isOf (v x : Int32) (h1 : ioR v x → P 1 mem) (h0 : ¬ ioR v x → P 0 mem) : Ci mX9_isOf d [.int v, .int x] mem P := by
  unfold ioR at h1 h0
  exact E_X9_isOf _ _ ⟨fun a => h1 (Or.inl a), fun a => ⟨fun b => h1 (Or.inr (Or.inl b)), fun b => ⟨fun c => ⟨fun e => h0 (by grind), fun e => ⟨fun f => h0 (by grind), fun f => h1 (by grind)⟩⟩, fun c => ⟨fun e => h1 (by grind), fun e => ⟨fun f => h0 (by grind), fun f => ⟨fun g => h0 (by grind), fun g => h1 (by grind)⟩⟩⟩⟩⟩⟩
def gWk (r : Rw) (x y : Int32) : Prop := (∃ w, w < rW r ∧ x = nI w) ∧ 0 ≤ y ∧ y ≤ 5
theorem R_as (hr : mem 121 = r) (hI : okR r) (x y : Int32) (h1 : ∀ w, w < rW r → x = nI w → 0 ≤ y → y ≤ 5 → P (if ioR (r (48 + 5 * w)) y then r (48 + 5 * w + 2) else -1000000012) mem) (h0 : ¬ gWk r x y → P (-1000000001) mem) : Ci mX9_as (d + 3) [.ref 120, .int x, .int y] mem P := by
  obtain ⟨hw, hw2⟩ := hI.w
  have hm : mem 121 1 = nI (rW r) := by rw [hr]; exact hw
  refine E_X9_as _ _ (c_isWatcher (rW r) x hm (by omega) (fun w hw ew => z1 (c_isIn y 0 5 rfl rfl (fun a b => n1 ?_) (fun bad => n0 (h0 (fun g => bad g.2))))) (fun bad => z0 (h0 (fun g => bad g.1))))
  have h := h1 w hw ew a b
  subst ew
  refine c_of w 0 (by omega) ?_
  rw [hr, Nat.add_zero]
  refine c_isOf (r (48 + 5 * w)) _ (fun g => ?_) (fun g => ?_)
  · rw [if_pos g] at h
    refine z1 (c_of w 2 (by omega) ?_)
    rw [hr]; exact h
  · rw [if_neg g] at h
    exact z0 h
theorem L_as (hI : INV mem) (x y : Int32) : Agr (d + 20) mX8_as mX9_as [.int x, .int y] mem := by
  obtain ⟨hO, hB, hR⟩ := hI.1
  obtain ⟨hw, hw2⟩ := hO.w
  have hm : mem 41 2 = nI (rW (mem 121)) := hR.1.2.1.trans hw
  have bad : ¬ gWk (mem 121) x y → Ci mX9_as (d + 20) [.ref 120, .int x, .int y] mem (fun r2 m2 => -1000000001 = r2 ∧ INV m2) := fun hb =>
    R_as rfl hO x y (fun w a b c e => absurd ⟨⟨w, a, b⟩, c, e⟩ hb) (fun _ => ⟨rfl, hI⟩)
  refine E_X8_as _ _ (k_hasWatcher sh41 x (rW (mem 121)) hm (by omega) (fun w hw ew => z1 (k_isKind y (fun a b => n1 ?_) (fun b => n0 (bad (fun g => b g.2))))) (fun b => z0 (bad (fun g => b g.1))))
  have ex : x.toNatClampNeg = w := by rw [ew, nI_clamp (by omega)]
  have rd : ∀ i, i < 5 → mem (46 + 4 + w) i = mem 121 (48 + 5 * w + i) := fun i hi => hR.2.2.1 w hw i hi
  have r0 : mem (46 + 4 + w) 0 = mem 121 (48 + 5 * w) := rd 0 (by decide)
  have good : ∀ v : Int32, v = (if ioR (mem 121 (48 + 5 * w)) y then mem 121 (48 + 5 * w + 2) else -1000000012) → Ci mX9_as (d + 20) [.ref 120, .int x, .int y] mem (fun r2 m2 => v = r2 ∧ INV m2) := fun v ev =>
    R_as rfl hO x y (fun w' g1 g2 _ _ => by
      have e1 : w' = w := (nI_eq (by omega) (by omega)).mp (g2.symm.trans ew)
      subst e1
      exact ⟨ev, hI⟩) (fun b' => absurd ⟨⟨w, hw, ew⟩, a, b⟩ b')
  rw [ex]
  refine ⟨by rw [ew]; exact vin (by omega), k_isOf (sh_r22 (a := 46) rfl (by omega)) y (by rw [r0]; exact (hO.wt hw).1) ⟨a, b⟩ (fun g => z1 (good _ ?_)) (fun g => z0 (good _ ?_))⟩
  · rw [r0] at g; rw [if_pos g, rd 2 (by decide)]
  · rw [r0] at g; rw [if_neg g]
/-- a number of a watcher is set -/
theorem R_turns (hr : mem 121 = r) (hI : okR r) (x y : Int32) (h1 : ∀ w, w < rW r → x = nI w → 0 ≤ y → y ≤ 5 → P (r (48 + 5 * w)) (wf_ms mem 121 (48 + 5 * w) y)) (h0 : ¬ gWk r x y → P (-1000000001) mem) : Ci mX9_turns (d + 3) [.ref 120, .int x, .int y] mem P := by
  obtain ⟨hw, hw2⟩ := hI.w
  have hm : mem 121 1 = nI (rW r) := by rw [hr]; exact hw
  refine E_X9_turns _ _ (c_isWatcher (rW r) x hm (by omega) (fun w hw ew => z1 (c_isIn y 0 5 rfl rfl (fun a b => z1 ?_) (fun bad => z0 (h0 (fun g => bad g.2))))) (fun bad => z0 (h0 (fun g => bad g.1))))
  have h := h1 w hw ew a b
  rw [ew, ixo0]
  refine c_becomes _ _ (by omega) ?_
  rw [hr]; exact h
theorem L_wts (hI : INV mem) {w j : Nat} {v : Int32} (hw : w < rW (mem 121)) (hj : j < 5) (hv : (j = 0 → 0 ≤ v ∧ v ≤ 5) ∧ (j = 1 → 0 ≤ v ∧ v ≤ 11) ∧ (j = 2 → 1 ≤ v ∧ v ≤ 9) ∧ (j = 3 → 0 ≤ v ∧ v ≤ 999) ∧ (j = 4 → v = 0 ∨ v = 1)) : INV (wf_ms (wf_ms mem (46 + 4 + w) j v) 121 (48 + 5 * w + j) v) := by
  obtain ⟨hO, hB, hR⟩ := hI.1
  have hw2 := hO.w.2
  have hF : Fr CO mem (wf_ms mem (46 + 4 + w) j v) := Fr.ms (by unfold CO; omega)
  refine hI.op hF (RO.ms (Or.inl rfl)) (hR.wt sh41 hO (w := w) (j := j) (by omega) hj v) (ms121 (CO.ref hF (by decide))) (okR_wt hO (by omega) hj hv) ?_ ?_
  · unfold hb; rw [updN _ _ (by omega)]; exact hB
  · unfold rT; rw [updN _ _ (by omega)]; exact Nat.le_refl _
theorem L_turns (hI : INV mem) (x y : Int32) : Agr (d + 20) mX8_turns mX9_turns [.int x, .int y] mem := by
  obtain ⟨hO, hB, hR⟩ := hI.1
  obtain ⟨hw, hw2⟩ := hO.w
  have hm : mem 41 2 = nI (rW (mem 121)) := hR.1.2.1.trans hw
  have bad : ¬ gWk (mem 121) x y → Ci mX9_turns (d + 20) [.ref 120, .int x, .int y] mem (fun r2 m2 => -1000000001 = r2 ∧ INV m2) := fun hb =>
    R_turns rfl hO x y (fun w a b c e => absurd ⟨⟨w, a, b⟩, c, e⟩ hb) (fun _ => ⟨rfl, hI⟩)
  refine E_X8_turns _ _ (k_hasWatcher sh41 x (rW (mem 121)) hm (by omega) (fun w hw ew => z1 (k_isKind y (fun a b => n1 ?_) (fun b => n0 (bad (fun g => b g.2))))) (fun b => z0 (bad (fun g => b g.1))))
  have ex : x.toNatClampNeg = w := by rw [ew, nI_clamp (by omega)]
  rw [ex]
  refine ⟨by rw [ew]; exact vin (by omega), fun y' ey m1 f1 => ?_⟩
  subst f1
  have hF : Fr CO mem (wf_ms mem (46 + 4 + w) 0 y) := Fr.ms (by unfold CO; omega)
  refine R_turns (CO.ref hF (by decide)) hO x y (fun w' g1 g2 _ _ => ?_) (fun b' => absurd ⟨⟨w, hw, ew⟩, a, b⟩ b')
  have e1 : w' = w := (nI_eq (by omega) (by omega)).mp (g2.symm.trans ew)
  subst e1
  exact ⟨ey.trans (hR.2.2.1 w' hw 0 (by decide)), L_wts hI (j := 0) hw (by decide) ⟨fun _ => ⟨a, b⟩, fun h => absurd h (by decide), fun h => absurd h (by decide), fun h => absurd h (by decide), fun h => absurd h (by decide)⟩⟩
/-- set -/
def gSt (j : Nat) (v : Int32) : Prop := (j = 1 ∧ 0 ≤ v ∧ v ≤ 11) ∨ (j = 2 ∧ 1 ≤ v ∧ v ≤ 9) ∨ (j = 3 ∧ 0 ≤ v ∧ v ≤ 999) ∨ (j = 4 ∧ 0 ≤ v ∧ v ≤ 1)
theorem c_mayBe (x y : Int32) (h1 : ∀ j, x = nI j → gSt j y → P 1 mem) (h0 : (¬ ∃ j, x = nI j ∧ gSt j y) → P 0 mem) : Ci mX9_mayBe (d + 1) [.int x, .int y] mem P := by
  have no : ∀ j : Nat, j < 5 → x = nI j → ¬ gSt j y → P 0 mem := fun j hj ej g => h0 (fun ⟨i, ei, gi⟩ => g (by
    have hi : i < 5 := by unfold gSt at gi; omega
    have : i = j := (nI_eq (by omega) (by omega)).mp (ei.symm.trans ej)
    subst this; exact gi))
  refine E_X9_mayBe _ _ ⟨fun e1 => c_isIn y 0 11 rfl rfl (fun a b => bl1 (h1 1 e1 (Or.inl ⟨rfl, a, b⟩))) (fun b => bl0 (no 1 (by decide) e1 (fun g => b (by unfold gSt at g; simpa using g)))), fun n1 => ⟨fun e2 => c_isIn y 1 9 rfl rfl (fun a b => bl1 (h1 2 e2 (Or.inr (Or.inl ⟨rfl, a, b⟩)))) (fun b => bl0 (no 2 (by decide) e2 (fun g => b (by unfold gSt at g; simpa using g)))), fun n2 => ⟨fun e3 => c_isIn y 0 999 rfl rfl (fun a b => bl1 (h1 3 e3 (Or.inr (Or.inr (Or.inl ⟨rfl, a, b⟩))))) (fun b => bl0 (no 3 (by decide) e3 (fun g => b (by unfold gSt at g; simpa using g)))), fun n3 => ⟨fun e4 => c_isIn y 0 1 rfl rfl (fun a b => bl1 (h1 4 e4 (Or.inr (Or.inr (Or.inr ⟨rfl, a, b⟩))))) (fun b => bl0 (no 4 (by decide) e4 (fun g => b (by unfold gSt at g; simpa using g)))), fun n4 => h0 (fun ⟨i, ei, gi⟩ => ?_)⟩⟩⟩⟩
  have hi : i = 1 ∨ i = 2 ∨ i = 3 ∨ i = 4 := by unfold gSt at gi; omega
  rcases hi with rfl | rfl | rfl | rfl
  · exact n1 ei
  · exact n2 ei
  · exact n3 ei
  · exact n4 ei
theorem k_canBe (x y : Int32) (h1 : ∀ j, x = nI j → gSt j y → P 1 mem) (h0 : (¬ ∃ j, x = nI j ∧ gSt j y) → P 0 mem) : Ci mX7_canBe (d + 1) [.int x, .int y] mem P := by
  have no : ∀ j : Nat, j < 5 → x = nI j → ¬ gSt j y → P 0 mem := fun j hj ej g => h0 (fun ⟨i, ei, gi⟩ => g (by
    have hi : i < 5 := by unfold gSt at gi; omega
    have : i = j := (nI_eq (by omega) (by omega)).mp (ei.symm.trans ej)
    subst this; exact gi))
  refine E_X7_canBe _ _ ⟨fun e1 => k_within y 0 11 (fun a b => bl1 (h1 1 e1 (Or.inl ⟨rfl, a, b⟩))) (fun b => bl0 (no 1 (by decide) e1 (fun g => b (by unfold gSt at g; simpa using g)))), fun n1 => ⟨fun e2 => k_within y 1 9 (fun a b => bl1 (h1 2 e2 (Or.inr (Or.inl ⟨rfl, a, b⟩)))) (fun b => bl0 (no 2 (by decide) e2 (fun g => b (by unfold gSt at g; simpa using g)))), fun n2 => ⟨fun e3 => k_within y 0 999 (fun a b => bl1 (h1 3 e3 (Or.inr (Or.inr (Or.inl ⟨rfl, a, b⟩))))) (fun b => bl0 (no 3 (by decide) e3 (fun g => b (by unfold gSt at g; simpa using g)))), fun n3 => ⟨fun e4 => k_within y 0 1 (fun a b => bl1 (h1 4 e4 (Or.inr (Or.inr (Or.inr ⟨rfl, a, b⟩))))) (fun b => bl0 (no 4 (by decide) e4 (fun g => b (by unfold gSt at g; simpa using g)))), fun n4 => h0 (fun ⟨i, ei, gi⟩ => ?_)⟩⟩⟩⟩
  have hi : i = 1 ∨ i = 2 ∨ i = 3 ∨ i = 4 := by unfold gSt at gi; omega
  rcases hi with rfl | rfl | rfl | rfl
  · exact n1 ei
  · exact n2 ei
  · exact n3 ei
  · exact n4 ei
theorem R_set (hr : mem 121 = r) (hI : okR r) (x y z : Int32) (h1 : ∀ w j, w < rW r → x = nI w → y = nI j → gSt j z → P (r (48 + 5 * w + j)) (wf_ms mem 121 (48 + 5 * w + j) z)) (h0 : ¬ ((∃ w, w < rW r ∧ x = nI w) ∧ ∃ j, y = nI j ∧ gSt j z) → P (-1000000001) mem) : Ci mX9_set (d + 3) [.ref 120, .int x, .int y, .int z] mem P := by
  obtain ⟨hw, hw2⟩ := hI.w
  have hm : mem 121 1 = nI (rW r) := by rw [hr]; exact hw
  refine E_X9_set _ _ _ (c_isWatcher (rW r) x hm (by omega) (fun w hw ew => z1 (c_mayBe y z (fun j ej gj => z1 ?_) (fun bad => z0 (h0 (fun g => bad g.2))))) (fun bad => z0 (h0 (fun g => bad g.1))))
  have h := h1 w j hw ew ej gj
  have hj : j < 5 := by unfold gSt at gj; omega
  rw [ew, ej, ixo]
  refine c_becomes _ _ (by omega) ?_
  rw [hr]; exact h
theorem L_set (hI : INV mem) (x y z : Int32) : Agr (d + 20) mX8_set mX9_set [.int x, .int y, .int z] mem := by
  obtain ⟨hO, hB, hR⟩ := hI.1
  obtain ⟨hw, hw2⟩ := hO.w
  have hm : mem 41 2 = nI (rW (mem 121)) := hR.1.2.1.trans hw
  have bad : ¬ ((∃ w, w < rW (mem 121) ∧ x = nI w) ∧ ∃ j, y = nI j ∧ gSt j z) → Ci mX9_set (d + 20) [.ref 120, .int x, .int y, .int z] mem (fun r2 m2 => -1000000001 = r2 ∧ INV m2) := fun hb =>
    R_set rfl hO x y z (fun w j a b c e => absurd ⟨⟨w, a, b⟩, j, c, e⟩ hb) (fun _ => ⟨rfl, hI⟩)
  refine E_X8_set _ _ _ (k_hasWatcher sh41 x (rW (mem 121)) hm (by omega) (fun w hw ew => z1 (k_canBe y z (fun j ej gj => n1 ?_) (fun b => n0 (bad (fun g => b g.2))))) (fun b => z0 (bad (fun g => b g.1))))
  have ex : x.toNatClampNeg = w := by rw [ew, nI_clamp (by omega)]
  have hj : j = 1 ∨ j = 2 ∨ j = 3 ∨ j = 4 := by unfold gSt at gj; omega
  have go : ∀ (v : Int32) (m1 : wf_Mem), v = mem (46 + 4 + w) j → m1 = wf_ms mem (46 + 4 + w) j z → Ci mX9_set (d + 20) [.ref 120, .int x, .int y, .int z] m1 (fun r2 m2 => v = r2 ∧ INV m2) := by
    intro v m1 ev f1
    subst f1
    have hF : Fr CO mem (wf_ms mem (46 + 4 + w) j z) := Fr.ms (by unfold CO; omega)
    refine R_set (CO.ref hF (by decide)) hO x y z (fun w' j' g1 g2 g3 g4 => ?_) (fun b' => absurd ⟨⟨w, hw, ew⟩, j, ej, gj⟩ b')
    have e1 : w' = w := (nI_eq (by omega) (by omega)).mp (g2.symm.trans ew)
    have e2 : j' = j := (nI_eq (by unfold gSt at g4; omega) (by omega)).mp (g3.symm.trans ej)
    subst e1 e2
    refine ⟨ev.trans (hR.2.2.1 w' hw j' (by omega)), L_wts hI hw (by omega) ?_⟩
    unfold gSt at gj
    refine ⟨fun h => absurd h (by omega), fun h => ?_, fun h => ?_, fun h => ?_, fun h => ?_⟩
    · rcases gj with g | g | g | g
      · exact g.2
      · omega
      · omega
      · omega
    · rcases gj with g | g | g | g
      · omega
      · exact g.2
      · omega
      · omega
    · rcases gj with g | g | g | g
      · omega
      · omega
      · exact g.2
      · omega
    · rcases gj with g | g | g | g
      · omega
      · omega
      · omega
      · obtain ⟨k, hk, ek⟩ := nI_bd (m := 1) g.2.1 g.2.2 (by decide)
        have : k = 0 ∨ k = 1 := by omega
        rcases this with rfl | rfl
        · exact Or.inl ek
        · exact Or.inr ek
  rw [ex]
  refine ⟨by rw [ew]; exact vin (by omega), fun c1 v ev m1 f1 => ?_, fun n1 => ⟨fun c2 v ev m1 f1 => ?_, fun n2 => ⟨fun c3 v ev m1 f1 => ?_, fun n3 v ev m1 f1 => ?_⟩⟩⟩
  · have : j = 1 := (nI_eq (b := 1) (by omega) (by decide)).mp (ej.symm.trans c1)
    subst this; exact go v m1 ev f1
  · have : j = 2 := (nI_eq (b := 2) (by omega) (by decide)).mp (ej.symm.trans c2)
    subst this; exact go v m1 ev f1
  · have : j = 3 := (nI_eq (b := 3) (by omega) (by decide)).mp (ej.symm.trans c3)
    subst this; exact go v m1 ev f1
  · have : j = 4 := by
      rcases hj with rfl | rfl | rfl | h
      · exact absurd ej n1
      · exact absurd ej n2
      · exact absurd ej n3
      · exact h
    subst this; exact go v m1 ev f1
end OPD
