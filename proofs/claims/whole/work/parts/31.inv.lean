/-! THE INVARIANT between the class (cells 0 .. 119) and the reference (120 .. 138) -/
def hb (r : Rw) : Prop := 0 ≤ r 6 ∧ r 6 ≤ 9999
def shI (m : wf_Mem) (k : Nat) : Prop :=
  m (92 + 2 * k) 0 = m 124 k ∧ (m 124 k = -1 ∨ m 124 k = 0 ∨ m 124 k = 1) ∧ m (92 + 2 * k) 1 = m 125 k ∧ (∃ n, n ≤ 24 ∧ m 125 k = nI n) ∧ ∀ j, j < 24 → m (92 + 2 * k + 1) j = m 126 (24 * k + j) ∧ (m 126 (24 * k + j) = -1000000005 ∨ (-99999 ≤ m 126 (24 * k + j) ∧ m 126 (24 * k + j) ≤ 99999))
def slI (m : wf_Mem) (k : Nat) : Prop :=
  m (100 + 4 * k) 0 = m 127 k ∧ (m 127 k = 0 ∨ m 127 k = 1 ∨ m 127 k = 2 ∨ m 127 k = 3) ∧
  (m 127 k = 3 → m (100 + 4 * k) 1 = m 128 k) ∧
  (m 127 k = 1 → m (100 + 4 * k + 1) 0 = m 128 k ∧ (0 ≤ m 128 k ∧ m 128 k ≤ 5) ∧ wtR (m (100 + 4 * k + 1) 0) (m (100 + 4 * k + 1) 2) = m 129 k) ∧
  (m 127 k = 2 → ∃ n, n ≤ 24 ∧ m (100 + 4 * k + 2) 1 = nI n ∧ m 130 k = nI n ∧ ∀ j, j < n → m (100 + 4 * k + 2 + 1) j = m 131 (24 * k + j))
def waI (m : wf_Mem) : Prop := ∃ n, n ≤ 60 ∧ m 0 9 = nI n ∧ m 120 31 = nI n ∧ ∀ j, j < n → m 8 j = m 137 j
def taI (m : wf_Mem) : Prop := ∃ n, n ≤ 96 ∧ m 3 1 = nI n ∧ m 120 16 = nI n ∧ ∀ j, j < n → m 4 j = m 133 j ∧ 0 ≤ m 133 j ∧ m 133 j ≤ 255
def imI (m : wf_Mem) : Prop := (m 0 10 = 0 ∨ m 0 10 = 1) ∧ m 120 3 = m 0 10 ∧ (m 0 10 = 1 → okR (m 122) ∧ hb (m 122) ∧ Rel 58 m (m 122) ∧ rT (m 122) ≤ rT (m 121))
def nwI (m : wf_Mem) : Prop := okR (m 121) ∧ hb (m 121) ∧ Rel 41 m (m 121)
def INV (m : wf_Mem) : Prop := nwI m ∧ imI m ∧ (∀ k, k < 4 → shI m k) ∧ (∀ k, k < 5 → slI m k) ∧ waI m ∧ taI m
/-- cells that only sheets, slots, images, the tape and what waits have -/
def Ov (m m' : wf_Mem) : Prop := (∀ a, a = 0 ∨ a = 3 ∨ a = 4 ∨ a = 8 ∨ (11 ≤ a ∧ a < 39) ∨ (58 ≤ a ∧ a < 75) ∨ (92 ≤ a ∧ a < 120) ∨ a = 122 ∨ (124 ≤ a ∧ a ≤ 131) ∨ a = 133 ∨ a = 137 → m' a = m a) ∧ m' 120 3 = m 120 3 ∧ m' 120 16 = m 120 16 ∧ m' 120 31 = m 120 31
theorem Ov.rf {m : wf_Mem} : Ov m m := ⟨fun _ _ => rfl, rfl, rfl, rfl⟩
theorem Ov.tr {a b c : wf_Mem} (h1 : Ov a b) (h2 : Ov b c) : Ov a c := ⟨fun q g => (h2.1 q g).trans (h1.1 q g), h2.2.1.trans h1.2.1, h2.2.2.1.trans h1.2.2.1, h2.2.2.2.trans h1.2.2.2⟩
/-- the class's calls over now and thought -/
def CO : Nat → Prop := fun a => a = 1 ∨ a = 2 ∨ a = 9 ∨ (41 ≤ a ∧ a < 58) ∨ (75 ≤ a ∧ a < 92)
theorem CO.ov {m m' : wf_Mem} (h : Fr CO m m') : Ov m m' :=
  ⟨fun a ha => h a (by unfold CO; omega), by rw [h 120 (by unfold CO; omega)], by rw [h 120 (by unfold CO; omega)], by rw [h 120 (by unfold CO; omega)]⟩
theorem CO.ref {m m' : wf_Mem} (h : Fr CO m m') {a : Nat} (ha : 120 ≤ a) : m' a = m a := h a (by unfold CO; omega)
theorem CO.c41 {m m' : wf_Mem} (h : Fr (SC 41) m m') : Fr CO m m' := h.to (fun a ha => by unfold SC at ha; unfold CO; omega)
theorem CO.c75 {m m' : wf_Mem} (h : Fr (SC 75) m m') : Fr CO m m' := h.to (fun a ha => by unfold SC at ha; unfold CO; omega)
theorem CO.m41 {m m' : wf_Mem} (h : Fr (SM 41) m m') : Fr CO m m' := CO.c41 (SM.c h)
theorem CO.s9 {m m' : wf_Mem} (h : Fr S9 m m') : Fr CO m m' := h.to (fun a ha => by unfold S9 at ha; unfold CO; omega)
/-- the reference's calls over its row -/
def RO (m m' : wf_Mem) : Prop := (∀ a, a ≠ 120 → a ≠ 121 → a ≠ 123 → a ≠ 132 → a ≠ 134 → a ≠ 135 → a ≠ 136 → a ≠ 138 → m' a = m a) ∧ m' 120 3 = m 120 3 ∧ m' 120 16 = m 120 16 ∧ m' 120 31 = m 120 31
theorem RO.rf {m : wf_Mem} : RO m m := ⟨fun _ _ _ _ _ _ _ _ _ => rfl, rfl, rfl, rfl⟩
theorem RO.tr {a b c : wf_Mem} (h1 : RO a b) (h2 : RO b c) : RO a c := ⟨fun q g1 g2 g3 g4 g5 g6 g7 g8 => (h2.1 q g1 g2 g3 g4 g5 g6 g7 g8).trans (h1.1 q g1 g2 g3 g4 g5 g6 g7 g8), h2.2.1.trans h1.2.1, h2.2.2.1.trans h1.2.2.1, h2.2.2.2.trans h1.2.2.2⟩
theorem RO.ov {m m' : wf_Mem} (h : RO m m') : Ov m m' := ⟨fun a ha => h.1 a (by omega) (by omega) (by omega) (by omega) (by omega) (by omega) (by omega) (by omega), h.2⟩
theorem RO.lo {m m' : wf_Mem} (h : RO m m') {a : Nat} (ha : a < 120) : m' a = m a := h.1 a (by omega) (by omega) (by omega) (by omega) (by omega) (by omega) (by omega) (by omega)
theorem hc.ro {m m' : wf_Mem} (h : hc m m') : RO m m' := ⟨fun a g1 g2 _ _ g5 g6 _ _ => h.1 a g1 g2 g5 g6, h.2 3 (by decide) (by decide), h.2 16 (by decide) (by decide), h.2 31 (by decide) (by decide)⟩
theorem sc.ro {m m' : wf_Mem} (h : sc m m') : RO m m' := h.hc.ro
theorem RO.ms {m : wf_Mem} {a k : Nat} {v : Int32} (h : a = 121 ∨ a = 123 ∨ a = 132 ∨ a = 134 ∨ a = 135 ∨ a = 136 ∨ a = 138) : RO m (wf_ms m a k v) := ⟨fun q _ _ _ _ _ _ _ _ => wf_ms_other _ _ _ _ (by omega), msA _ _ _ _ (by omega), msA _ _ _ _ (by omega), msA _ _ _ _ (by omega)⟩
theorem sh41 : wf_sh 41 = (0, 0) := rfl
theorem sh58 : wf_sh 58 = (0, 0) := rfl
theorem sh75 : wf_sh 75 = (0, 0) := rfl
theorem INV.go {m m' : wf_Mem} (h : INV m) (ho : Ov m m') (h1 : nwI m') (hT : rT (m 121) ≤ rT (m' 121)) : INV m' := by
  obtain ⟨-, ⟨b1, b2, b3⟩, hs, hl, hw, ht⟩ := h
  have e0 : m' 0 = m 0 := ho.1 0 (by omega)
  have e3 : m' 3 = m 3 := ho.1 3 (by omega)
  have e4 : m' 4 = m 4 := ho.1 4 (by omega)
  have e8 : m' 8 = m 8 := ho.1 8 (by omega)
  have e122 : m' 122 = m 122 := ho.1 122 (by omega)
  have e124 : m' 124 = m 124 := ho.1 124 (by omega)
  have e125 : m' 125 = m 125 := ho.1 125 (by omega)
  have e126 : m' 126 = m 126 := ho.1 126 (by omega)
  have e127 : m' 127 = m 127 := ho.1 127 (by omega)
  have e128 : m' 128 = m 128 := ho.1 128 (by omega)
  have e129 : m' 129 = m 129 := ho.1 129 (by omega)
  have e130 : m' 130 = m 130 := ho.1 130 (by omega)
  have e131 : m' 131 = m 131 := ho.1 131 (by omega)
  have e133 : m' 133 = m 133 := ho.1 133 (by omega)
  have e137 : m' 137 = m 137 := ho.1 137 (by omega)
  refine ⟨h1, ⟨by rw [e0]; exact b1, by rw [e0, ho.2.1]; exact b2, fun g => ?_⟩, fun k hk => ?_, fun k hk => ?_, ?_, ?_⟩
  · rw [e0] at g
    obtain ⟨c1, c2, c3, c4⟩ := b3 g
    rw [e122]
    exact ⟨c1, c2, c3.go c1 (fun a ha => ho.1 a (by unfold RdC at ha; omega)), Nat.le_trans c4 hT⟩
  · have := hs k hk
    unfold shI at this ⊢
    rw [e124, e125, e126, ho.1 (92 + 2 * k) (by omega), ho.1 (92 + 2 * k + 1) (by omega)]
    exact this
  · have := hl k hk
    unfold slI at this ⊢
    rw [e127, e128, e129, e130, e131, ho.1 (100 + 4 * k) (by omega), ho.1 (100 + 4 * k + 1) (by omega), ho.1 (100 + 4 * k + 2) (by omega), ho.1 (100 + 4 * k + 2 + 1) (by omega)]
    exact this
  · unfold waI at hw ⊢
    rw [e0, e8, e137, ho.2.2.2]
    exact hw
  · unfold taI at ht ⊢
    rw [e3, e4, e133, ho.2.2.1]
    exact ht
/-- behind a call of the class (m to m1) and the same of the reference (m1 to m2) -/
theorem INV.op {m m1 m2 : wf_Mem} {r' : Rw} (h : INV m) (hc : Fr CO m m1) (hr : RO m1 m2) (hR : Rel 41 m1 r') (e : m2 121 = r') (hO : okR r') (hB : hb r') (hT : rT (m 121) ≤ rT r') : INV m2 := by
  subst e
  exact h.go ((CO.ov hc).tr hr.ov) ⟨hO, hB, hR.go hO (fun a ha => hr.lo (by unfold RdC at ha; omega))⟩ hT
/-- the same where nothing changes for good -/
theorem INV.rd {m m1 m2 : wf_Mem} (h : INV m) (hc : Fr CO m m1) (hr : RO m1 m2) (hR : Rel 41 m1 (m 121)) (e : m2 121 = m 121) : INV m2 := h.op hc hr hR e h.1.1 h.1.2.1 (Nat.le_refl _)
theorem INV.r0 {m m2 : wf_Mem} (h : INV m) (hr : RO m m2) (e : m2 121 = m 121) : INV m2 := h.rd Fr.rf hr h.1.2.2 e
