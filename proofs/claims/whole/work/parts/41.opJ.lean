/-! signs, reads -/
def foR (r : Rw) (k : Nat) : Int32 := if k < rN r then r (12 + 3 * k) else 0
def dfA (p : Nat → Int32) (r : Rw) : Nat → Int32
  | 0 => 0
  | k + 1 => dfA p r k + (if p k = -1000000005 then 0 else (if foR r k ≤ p k then p k - foR r k else foR r k - p k))
def sgG (r : Rw) (p : Nat → Int32) (s n : Nat) (k : Nat) : Int32 := dfA p (hrN (upd r 4 (nI k)) n) s
def sgV (r : Rw) (p : Nat → Int32) (s n j : Nat) : Int32 := if j = 0 then (amA (sgG r p s n) 41).1 else (amA (sgG r p s n) 41).2
theorem ix24 (k j : Nat) : 24 * nI k + nI j = nI (24 * k + j) := by
  show nI 24 * nI k + nI j = _
  rw [pk_mul, nI_add]
theorem sg_ok {r : Rw} (hI : okR r) {k : Nat} (hk : k ≤ 40) : okR (upd r 4 (nI k)) ∧ sm r (upd r 4 (nI k)) :=
  ⟨okR_lo hI (by decide) (by decide) (fun h => by omega) (fun _ => ⟨nI_pos' (by omega), nI_le (b := 99) (by omega) (by decide)⟩), sm.u (by decide) (by decide)⟩
section OPJ
variable {d : Nat} {mem : wf_Mem} {P : Int32 → wf_Mem → Prop} {Q : wf_Mem → Prop} {r : Rw}
theorem c_isSheet (x : Int32) (h1 : ∀ i, i < 4 → x = nI i → P 1 mem) (h0 : (¬ ∃ i, i < 4 ∧ x = nI i) → P 0 mem) : Ci mX9_isSheet (d + 1) [.int x] mem P :=
  E_X9_isSheet _ (c_isIn x 0 3 rfl rfl (fun a b => by
    obtain ⟨j, hj, ej⟩ := nI_bd (m := 3) a b (by decide)
    exact bl1 (h1 j (by omega) ej)) (fun bad => bl0 (h0 (fun ⟨i, hi, ei⟩ => bad (by rw [ei]; exact ⟨nI_pos' (by omega), nI_le (b := 3) (by omega) (by decide)⟩)))))
theorem k_isSheet (x : Int32) (h1 : ∀ i, i < 4 → x = nI i → P 1 mem) (h0 : (¬ ∃ i, i < 4 ∧ x = nI i) → P 0 mem) : Ci mX8_isSheet (d + 1) [.int x] mem P :=
  E_X8_isSheet _ (k_within x 0 3 (fun a b => by
    obtain ⟨j, hj, ej⟩ := nI_bd (m := 3) a b (by decide)
    exact bl1 (h1 j (by omega) ej)) (fun bad => bl0 (h0 (fun ⟨i, hi, ei⟩ => bad (by rw [ei]; exact ⟨nI_pos' (by omega), nI_le (b := 3) (by omega) (by decide)⟩)))))
theorem c_isSlot (x : Int32) (h1 : ∀ i, i < 5 → x = nI i → P 1 mem) (h0 : (¬ ∃ i, i < 5 ∧ x = nI i) → P 0 mem) : Ci mX9_isSlot (d + 1) [.int x] mem P :=
  E_X9_isSlot _ (c_isIn x 0 4 rfl rfl (fun a b => by
    obtain ⟨j, hj, ej⟩ := nI_bd (m := 4) a b (by decide)
    exact bl1 (h1 j (by omega) ej)) (fun bad => bl0 (h0 (fun ⟨i, hi, ei⟩ => bad (by rw [ei]; exact ⟨nI_pos' (by omega), nI_le (b := 4) (by omega) (by decide)⟩)))))
theorem k_isSlot (x : Int32) (h1 : ∀ i, i < 5 → x = nI i → P 1 mem) (h0 : (¬ ∃ i, i < 5 ∧ x = nI i) → P 0 mem) : Ci mX8_isSlot (d + 1) [.int x] mem P :=
  E_X8_isSlot _ (k_within x 0 4 (fun a b => by
    obtain ⟨j, hj, ej⟩ := nI_bd (m := 4) a b (by decide)
    exact bl1 (h1 j (by omega) ej)) (fun bad => bl0 (h0 (fun ⟨i, hi, ei⟩ => bad (by rw [ei]; exact ⟨nI_pos' (by omega), nI_le (b := 4) (by omega) (by decide)⟩)))))
/-- the reference: a sheet is there -/
theorem srt {v : Int32} (h : v = -1 ∨ v = 0 ∨ v = 1) : (0 ≤ v ↔ ¬ v = -1) := by
  rcases h with rfl | rfl | rfl <;> decide
theorem shN {m : wf_Mem} {i : Nat} (h : shI m i) : ∃ n, n ≤ 24 ∧ m 125 i = nI n ∧ m (92 + 2 * i) 1 = nI n := by
  obtain ⟨-, -, a, ⟨n, hn, b⟩, -⟩ := h
  exact ⟨n, hn, b, a.trans b⟩
theorem sh_w {i : Nat} (hi : i < 4) : wf_sh (92 + 2 * i) = (4, 0) := by
  have : i = 0 ∨ i = 1 ∨ i = 2 ∨ i = 3 := by omega
  rcases this with rfl | rfl | rfl | rfl <;> rfl
theorem shI.co {m m' : wf_Mem} {k : Nat} (h : shI m k) (hF : Fr CO m m') (hk : k < 4) : shI m' k := by
  unfold shI at h ⊢
  rw [hF 124 (by unfold CO; omega), hF 125 (by unfold CO; omega), hF 126 (by unfold CO; omega), hF (92 + 2 * k) (by unfold CO; omega), hF (92 + 2 * k + 1) (by unfold CO; omega)]
  exact h
/-- the inner loop of the reference's signs -/
theorem signs_in {i s : Nat} (hi : i < 4) (hs : s ≤ 24) {q : Rw} (hq : okR q) (p : Nat → Int32) (n y x4 x5 x6 : Int32) : ∀ (f k : Nat) (m : wf_Mem), s - k ≤ f → k ≤ s → m 121 = q → m 125 i = nI s → (∀ j, j < 24 → m 126 (24 * i + j) = p j) → (Cv mX9_laysBack (d + 2) [.ref 120] m (fun m2 => ((x4 < 0 → Vw (Ni (d + 3) P) mX9_signs 58 [(0, .ref 120), (1, .int (nI i)), (2, .int n), (3, .int y), (4, .int x6), (5, .int (dfA p q s)), (6, .int (x6 + 1))] [] m2) ∧ (¬ x4 < 0 → ((x5 ≤ dfA p q s → Vw (Ni (d + 3) P) mX9_signs 58 [(0, .ref 120), (1, .int (nI i)), (2, .int n), (3, .int y), (4, .int x4), (5, .int x5), (6, .int (x6 + 1))] [] m2) ∧ (¬ x5 ≤ dfA p q s → Vw (Ni (d + 3) P) mX9_signs 58 [(0, .ref 120), (1, .int (nI i)), (2, .int n), (3, .int y), (4, .int x6), (5, .int (dfA p q s)), (6, .int (x6 + 1))] [] m2)))))) → Vw (Ni (d + 3) P) mX9_signs 84 [(0, .ref 120), (1, .int (nI i)), (2, .int n), (3, .int y), (4, .int x4), (5, .int x5), (6, .int x6), (7, .int (dfA p q k)), (8, .int (nI k))] [] m
  | f, k, m, hf, hk, em, e125, e126, h => by
    obtain ⟨hn, hn2⟩ := hq.n
    have ec : (nI s ≤ nI k) ↔ s ≤ k := nI_leI (by omega) (by omega)
    have ec2 : (nI (rN q) ≤ nI k) ↔ rN q ≤ k := nI_leI (by omega) (by omega)
    refine b_X9_signs_84 _ _ _ _ _ _ _ _ _ ?_
    rw [nI_clamp (by omega : i < 2 ^ 31), e125, ix24, em, hn, ec, ec2]
    refine ⟨vin (by omega), fun g => ?_, fun g => ⟨vin (by omega), fun v ev => ?_⟩⟩
    · have : k = s := by omega
      rw [this]; exact h
    · rw [nI_clamp (by omega), e126 k (by omega)] at ev
      have nx : ∀ z : Int32, z = dfA p q (k + 1) → Vw (Ni (d + 3) P) mX9_signs 84 [(0, .ref 120), (1, .int (nI i)), (2, .int n), (3, .int y), (4, .int x4), (5, .int x5), (6, .int x6), (7, .int z), (8, .int (nI k + 1))] [] m := fun z ez => by
        rw [ez, show nI k + 1 = nI (k + 1) from nI_1 k]
        cases f with
        | zero => omega
        | succ f => exact signs_in hi hs hq p n y x4 x5 x6 f (k + 1) m (by omega) (by omega) em e125 e126 h
      have un : dfA p q (k + 1) = dfA p q k + (if p k = -1000000005 then 0 else (if foR q k ≤ p k then p k - foR q k else foR q k - p k)) := rfl
      rw [un] at nx
      subst ev
      refine ⟨fun c => ⟨fun c2 => c_off _ _ (fun z ez => nx z ?_), fun c2 => c_wagonsOwn k 0 (by omega) (c_off _ _ (fun z ez => nx z ?_))⟩, fun c z ez => nx z ?_⟩
      · rw [ez, if_neg c, show foR q k = 0 from if_neg (by omega)]
      · rw [ez, if_neg c, em, show foR q k = q (12 + 3 * k) from if_pos (by omega)]; rfl
      · rw [ez, if_pos c]
theorem signs_loop (hI : okR r) {i s n j : Nat} (hi : i < 4) (hs : s ≤ 24) (p : Nat → Int32) (hn : n ≤ 60) (y : Int32) (ej : (y = 0) ↔ j = 0) (h : ∀ m', RO mem m' → m' 121 = r → P (sgV r p s n j) m') : ∀ (f k : Nat) (m : wf_Mem), 41 - k ≤ f → k ≤ 41 → RO mem m → (∀ j, j < 88 → m 132 j = r j) → m 121 = r → m 125 i = nI s → (∀ j, j < 24 → m 126 (24 * i + j) = p j) → Vw (Ni (d + 10) P) mX9_signs 58 [(0, .ref 120), (1, .int (nI i)), (2, .int (nI n)), (3, .int y), (4, .int (amA (sgG r p s n) k).1), (5, .int (amA (sgG r p s n) k).2), (6, .int (nI k))] [] m
  | f, k, m, hf, hk, ho, hb, em, e125, e126 => by
    have ec : (40 < nI k) ↔ 40 < k := nI_ltI (a := 40) (by decide) (by omega)
    refine b_X9_signs_58 _ _ _ _ _ _ _ ?_
    rw [ec, ej]
    refine ⟨fun g => ?_, fun g m1 f1 => ?_⟩
    · have e : k = 41 := by omega
      have h' := h m ho em
      unfold sgV at h'
      rw [e]
      refine ⟨fun q => ?_, fun q => ?_⟩
      · rw [if_neg q] at h'; exact h'
      · rw [if_pos q] at h'; exact h'
    · have e1 : m1 121 = upd r 4 (nI k) := by rw [f1, ms121 em]
      have o1 : RO mem m1 := by rw [f1]; exact ho.tr (RO.ms (Or.inl rfl))
      have hp := sg_ok hI (k := k) (by omega)
      refine c_goesOnMany n (by omega) e1 hp.1 (fun m2 o2 e2 => ?_)
      have k2 : ∀ a, a ≠ 120 → a ≠ 121 → a ≠ 134 → a ≠ 135 → m2 a = m a := fun a g1 g2 g3 g4 => by rw [o2.1 a g1 g2 g3 g4, f1, wf_ms_other _ _ _ _ g2]
      refine signs_in (d := d + 7) hi hs (hrN_ok hp.1 n).1 p _ y _ _ _ 24 0 m2 (by omega) (by omega) e2 (by rw [k2 125 (by decide) (by decide) (by decide) (by decide)]; exact e125) (fun j hj => by rw [k2 126 (by decide) (by decide) (by decide) (by decide)]; exact e126 j hj) ?_
      have b2 : ∀ j, j < 88 → m2 132 j = r j := fun j hj => by rw [k2 132 (by decide) (by decide) (by decide) (by decide)]; exact hb j hj
      refine c_laysBack (r := r) b2 (fun j hj => by rw [e2]; exact ((hrN_ok hp.1 n).2.2.2.2 j hj).trans (hp.2.2.2.2 j hj)) (fun m4 o4 e4 k4 => ?_)
      have b4 : ∀ j, j < 88 → m4 132 j = r j := fun j hj => by rw [k4]; exact b2 j hj
      have o5 : RO mem m4 := o1.tr (o2.ro.tr o4)
      rw [show nI k + 1 = nI (k + 1) from nI_1 k]
      cases f with
      | zero => omega
      | succ f =>
        have nx := signs_loop hI hi hs p hn y ej h f (k + 1) m4 (by omega) (by omega) o5 b4 e4 (by rw [o4.1 125 (by decide) (by decide) (by decide) (by decide) (by decide) (by decide) (by decide) (by decide), k2 125 (by decide) (by decide) (by decide) (by decide)]; exact e125) (fun j hj => by rw [o4.1 126 (by decide) (by decide) (by decide) (by decide) (by decide) (by decide) (by decide) (by decide), k2 126 (by decide) (by decide) (by decide) (by decide)]; exact e126 j hj)
        have un : amA (sgG r p s n) (k + 1) = if (amA (sgG r p s n) k).1 < 0 then (nI k, sgG r p s n k) else if (amA (sgG r p s n) k).2 ≤ sgG r p s n k then amA (sgG r p s n) k else (nI k, sgG r p s n k) := rfl
        rw [un] at nx
        refine ⟨fun c => ?_, fun c => ⟨fun c2 => ?_, fun c2 => ?_⟩⟩
        · rw [if_pos c] at nx; exact nx
        · rw [if_neg c, if_pos (show (amA (sgG r p s n) k).2 ≤ sgG r p s n k from c2)] at nx; exact nx
        · rw [if_neg c, if_neg (show ¬ (amA (sgG r p s n) k).2 ≤ sgG r p s n k from c2)] at nx; exact nx
def gSg (x y z : Int32) : Prop := (∃ i, i < 4 ∧ x = nI i) ∧ (0 ≤ y ∧ y ≤ 60) ∧ 0 ≤ z ∧ z ≤ 1
theorem R_signs (hr : mem 121 = r) (hI : okR r) (x y z : Int32) (hsh : ∀ i, i < 4 → shI mem i) (h1 : ∀ i n j s, i < 4 → n ≤ 60 → j ≤ 1 → x = nI i → y = nI n → z = nI j → mem 125 i = nI s → ¬ mem 124 i = -1 → s ≤ 24 → ∀ m', RO mem m' → m' 121 = r → P (sgV r (fun k => mem 126 (24 * i + k)) s n j) m') (hN : ∀ i, i < 4 → x = nI i → gSg x y z → mem 124 i = -1 → P (-1000000011) mem) (h0 : ¬ gSg x y z → P (-1000000001) mem) : Ci mX9_signs (d + 11) [.ref 120, .int x, .int y, .int z] mem P := by
  refine E_X9_signs _ _ _ (c_isSheet x (fun i hi ei => z1 (c_isIn y 0 60 rfl rfl (fun a1 a2 => z1 (c_isIn z 0 1 rfl rfl (fun b1 b2 => n1 ?_) (fun bad => n0 (h0 (fun g => bad g.2.2))))) (fun bad => z0 (h0 (fun g => bad g.2.1))))) (fun bad => z0 (h0 (fun g => bad g.1))))
  obtain ⟨n, hn, en⟩ := nI_bd (m := 60) a1 a2 (by decide)
  obtain ⟨j, hj, ej⟩ := nI_bd (m := 1) b1 b2 (by decide)
  obtain ⟨s, hs, es, -⟩ := shN (hsh i hi)
  have ex : x.toNatClampNeg = i := by rw [ei, nI_clamp (by omega)]
  have q1 : (z = 0) ↔ j = 0 := by rw [ej]; exact nI_eq (b := 0) (by omega) (by decide)
  rw [ex, srt (hsh i hi).2.1]
  refine ⟨by rw [ei]; exact vin hi, fun c => c_laysBy hr (fun m1 o1 e1 k1 => ?_), fun c => hN i hi ei ⟨⟨i, hi, ei⟩, ⟨a1, a2⟩, b1, b2⟩ (Decidable.not_not.mp c)⟩
  have h := h1 i n j s hi hn hj ei en ej es c hs
  rw [ei, en]
  exact signs_loop (d := d + 1) hI hi hs _ hn z q1 h 41 0 m1 (by omega) (by omega) o1 k1 e1 (by rw [o1.1 125 (by decide) (by decide) (by decide) (by decide) (by decide) (by decide) (by decide) (by decide)]; exact es) (fun j _ => by rw [o1.1 126 (by decide) (by decide) (by decide) (by decide) (by decide) (by decide) (by decide) (by decide)])
/-- the class's differences -/
theorem diff_loop {c i s : Nat} (hc : wf_sh (c + 1) = (3, 0)) (hi : i < 4) (hs : s ≤ 24) (hI : okR r) (hR : Rel c mem r) (p : Nat → Int32) (e1 : mem (92 + 2 * i) 1 = nI s) (ep : ∀ k, k < 24 → mem (92 + 2 * i + 1) k = p k) (hp : ∀ k, k < 24 → p k = -1000000005 ∨ (-99999 ≤ p k ∧ p k ≤ 99999)) (h : P (dfA p r s) mem) : ∀ (f k : Nat), s - k ≤ f → k ≤ s → Vw (Ni (d + 2) P) mX4_differences 4 [(0, .ref (92 + 2 * i)), (1, .ref (c + 1)), (2, .int (dfA p r k)), (3, .int (nI k))] [] mem
  | f, k, hf, hk => by
    obtain ⟨hn, hn2⟩ := hI.n
    have ec : (nI s ≤ nI k) ↔ s ≤ k := nI_leI (by omega) (by omega)
    refine b_X4_differences_4 _ _ (sh_w hi) _ hc _ _ ?_
    rw [e1, ec]
    refine ⟨fun g => ?_, fun g => ?_⟩
    · have : k = s := by omega
      rw [this]; exact h
    · rw [nI_clamp (by omega), ep k (by omega)]
      have nx : ∀ z : Int32, z = dfA p r (k + 1) → Vw (Ni (d + 2) P) mX4_differences 4 [(0, .ref (92 + 2 * i)), (1, .ref (c + 1)), (2, .int z), (3, .int (nI k + 1))] [] mem := fun z ez => by
        rw [ez, show nI k + 1 = nI (k + 1) from nI_1 k]
        cases f with
        | zero => omega
        | succ f => exact diff_loop hc hi hs hI hR p e1 ep hp h f (k + 1) (by omega) (by omega)
      have un : dfA p r (k + 1) = dfA p r k + (if p k = -1000000005 then 0 else (if foR r k ≤ p k then p k - foR r k else foR r k - p k)) := rfl
      rw [un] at nx
      have fin : ∀ w : Int32, ¬ p k = -1000000005 → w = foR r k → (0 ≤ w ∧ w ≤ 99) → Vw (Ni (d + 2) P) mX4_differences 41 [(0, .ref (92 + 2 * i)), (1, .ref (c + 1)), (2, .int (dfA p r k)), (3, .int (nI k))] [.int w] mem := fun w c0 ew bw => by
        refine b_X4_differences_41 _ _ (sh_w hi) _ hc _ _ _ ?_
        rw [nI_clamp (by omega), ep k (by omega)]
        refine ⟨vin (by omega), fun z ez => nx z ?_⟩
        rw [ez, if_neg c0, ← ew]
        rcases hp k (by omega) with b | b
        · exact absurd b c0
        · generalize p k = v at b ⊢
          congr 1
          grind
      refine ⟨vin (by omega), fun c0 => ?_, fun c0 => k_has hc (nI k) (rN r) (hR.1.1.trans hn) (by omega) (fun k' hk' ek => z1 ⟨by rw [ek]; exact vin (by omega), ?_⟩) (fun bad => z0 (fin 0 c0 (by unfold foR; rw [if_neg (fun c => bad ⟨k, c, rfl⟩)]) (by decide)))⟩
      · have := nx (dfA p r k) (by rw [if_pos c0]; grind)
        exact this
      · have e : k = k' := (nI_eq (by omega) (by omega)).mp ek
        subst e
        rw [(hR.2.1 k hk').1]
        exact fin _ c0 (by unfold foR; rw [if_pos hk']) (hI.wg hk').1
theorem k_diff {c i s : Nat} (hc : wf_sh (c + 1) = (3, 0)) (hi : i < 4) (hs : s ≤ 24) (hI : okR r) (hR : Rel c mem r) (p : Nat → Int32) (e1 : mem (92 + 2 * i) 1 = nI s) (ep : ∀ k, k < 24 → mem (92 + 2 * i + 1) k = p k) (hp : ∀ k, k < 24 → p k = -1000000005 ∨ (-99999 ≤ p k ∧ p k ≤ 99999)) (h : P (dfA p r s) mem) : Ci mX4_differences (d + 3) [.ref (92 + 2 * i), .ref (c + 1)] mem P :=
  E_X4_differences _ (sh_w hi) _ hc (diff_loop (d := d + 1) hc hi hs hI hR p e1 ep hp h 24 0 (by omega) (by omega))
theorem ksigns_loop (hI : okR r) {i s n j : Nat} (hi : i < 4) (hs : s ≤ 24) (p : Nat → Int32) (hp : ∀ k, k < 24 → p k = -1000000005 ∨ (-99999 ≤ p k ∧ p k ≤ 99999)) (hn : n ≤ 60) (y : Int32) (ej : (y = 0) ↔ j = 0) (h : ∀ m', Fr CO mem m' → Rel 41 m' r → P (sgV r p s n j) m') (e1 : mem (92 + 2 * i) 1 = nI s) (ep : ∀ k, k < 24 → mem (92 + 2 * i + 1) k = p k) : ∀ (f k : Nat) (m : wf_Mem) (x3 x4 : Int32), 41 - k ≤ f → k ≤ 41 → Fr CO mem m → Rel 41 m r → x3 = orN (amA (sgG r p s n) k).1 → (0 < k → x4 = (amA (sgG r p s n) k).2) → Vw (Ni (d + 10) P) mX8_signs 55 [(0, .ref 0), (1, .int (nI i)), (2, .int (nI n)), (3, .int y), (4, .int x3), (5, .int x4), (6, .int (nI k))] [] m
  | f, k, m, x3, x4, hf, hk, ho, hR, h3, h4 => by
    have ec : (40 < nI k) ↔ 40 < k := nI_ltI (a := 40) (by decide) (by omega)
    refine b_X8_signs_55 _ _ _ _ _ _ _ ?_
    rw [ec, ej, nI_clamp (by omega)]
    refine ⟨fun g => ?_, fun g => k_takeFrom sh75 sh41 (by decide) hI hR (fun m1 f1 R1 m2 f2 => ?_)⟩
    · have e : k = 41 := by omega
      have h' := h m ho hR
      unfold sgV at h'
      rw [← e] at h'
      rcases amA_in (sgG r p s n) k (by omega) with ⟨a, b⟩ | ⟨a, i', hi', ei⟩
      · omega
      · have pos : (0 : Int32) ≤ (amA (sgG r p s n) k).1 := by rw [ei]; exact nI_pos' (by omega)
        have e3 : x3 = (amA (sgG r p s n) k).1 := by rw [h3]; unfold orN; rw [if_pos pos]
        rw [e3, h4 a]
        refine ⟨fun q => ?_, fun q => ?_⟩
        · rw [if_neg q] at h'; exact h'
        · rw [if_pos q] at h'; exact h'
    · subst f2
      have hp4 := sg_ok hI (k := k) (by omega)
      have R2 : Rel 75 (wf_ms m1 75 4 (nI k)) (upd r 4 (nI k)) := R1.lo sh75 hI (by decide) (by decide) (nI k)
      have f2 : Fr (SD 75) m1 (wf_ms m1 75 4 (nI k)) := Fr.ms (by unfold SD; omega)
      refine k_pass sh75 hp4.1 R2 n (by omega) (fun m3 f3 R3 _ => ?_)
      have o3 : Fr CO mem m3 := ho.tr ((CO.d75 f1).tr ((CO.d75 f2).tr (CO.c75 f3)))
      have hR3 : Rel 41 m3 r := keep_c hI (keep_d hI (keep_d hI hR f1) f2) f3
      refine ⟨vin (by omega), k_diff (c := 75) rfl hi hs (hrN_ok hp4.1 n).1 R3 p (by rw [o3 _ (by unfold CO; omega)]; exact e1) (fun k hk => by rw [o3 _ (by unfold CO; omega)]; exact ep k hk) hp ?_⟩
      rw [show nI k + 1 = nI (k + 1) from nI_1 k]
      obtain ⟨s1, s2⟩ := am_st (sgG r p s n) (k := k) (by omega) h3 h4
      cases f with
      | zero => omega
      | succ f =>
        refine ⟨fun c => ?_, fun c => ⟨fun c2 => ?_, fun c2 => ?_⟩⟩
        · exact ksigns_loop hI hi hs p hp hn y ej h e1 ep f (k + 1) m3 _ _ (by omega) (by omega) o3 hR3 (s1 c).1 (fun _ => (s1 c).2)
        · exact ksigns_loop hI hi hs p hp hn y ej h e1 ep f (k + 1) m3 _ _ (by omega) (by omega) o3 hR3 ((s2 c).1 c2).1 (fun _ => ((s2 c).1 c2).2)
        · exact ksigns_loop hI hi hs p hp hn y ej h e1 ep f (k + 1) m3 _ _ (by omega) (by omega) o3 hR3 ((s2 c).2 c2).1 (fun _ => ((s2 c).2 c2).2)
theorem L_signs (hI : INV mem) (x y z : Int32) : Agr (d + 20) mX8_signs mX9_signs [.int x, .int y, .int z] mem := by
  obtain ⟨hO, hB, hR⟩ := hI.1
  have hsh := hI.2.2.1
  have bad : ¬ gSg x y z → Ci mX9_signs (d + 20) [.ref 120, .int x, .int y, .int z] mem (fun r2 m2 => -1000000001 = r2 ∧ INV m2) := fun hb =>
    R_signs rfl hO x y z hsh (fun i n j s a b c e f g _ _ _ => absurd ⟨⟨i, a, e⟩, ⟨by rw [f]; exact nI_pos' (by omega), by rw [f]; exact nI_le (b := 60) b (by decide)⟩, by rw [g]; exact nI_pos' (by omega), by rw [g]; exact nI_le (b := 1) c (by decide)⟩ hb) (fun i _ _ g _ => absurd g hb) (fun _ => ⟨rfl, hI⟩)
  refine E_X8_signs _ _ _ (k_isSheet x (fun i hi ei => z1 (k_within y 0 60 (fun a1 a2 => z1 (k_within z 0 1 (fun b1 b2 => n1 ?_) (fun b => n0 (bad (fun g => b g.2.2))))) (fun b => z0 (bad (fun g => b g.2.1))))) (fun b => z0 (bad (fun g => b g.1))))
  obtain ⟨n, hn, en⟩ := nI_bd (m := 60) a1 a2 (by decide)
  obtain ⟨j, hj, ej⟩ := nI_bd (m := 1) b1 b2 (by decide)
  obtain ⟨s, hs, es, es1⟩ := shN (hsh i hi)
  have ex : x.toNatClampNeg = i := by rw [ei, nI_clamp (by omega)]
  have q1 : (z = 0) ↔ j = 0 := by rw [ej]; exact nI_eq (b := 0) (by omega) (by decide)
  have gg : gSg x y z := ⟨⟨i, hi, ei⟩, ⟨a1, a2⟩, b1, b2⟩
  obtain ⟨t1, t2, t3, t4, t5⟩ := hsh i hi
  rw [ex, t1]
  refine ⟨by rw [ei]; exact vin hi, fun c => ?_, fun c => ?_⟩
  · rw [ei, en] at gg ⊢
    refine ksigns_loop (mem := mem) (d := d + 10) hO hi hs (fun k => mem 126 (24 * i + k)) (fun k hk => (t5 k hk).2) hn z q1 (fun m2 hF R2 => ?_) es1 (fun k hk => (t5 k hk).1) 41 0 mem (-1000000005) 0 (by omega) (by omega) Fr.rf hR (show _ = orN (-1) by decide) (fun c => by omega)
    have hsh2 : ∀ k, k < 4 → shI m2 k := fun k hk => (hsh k hk).co hF hk
    refine R_signs (CO.ref hF (by decide)) hO _ _ z hsh2 (fun i' n' j' s' u1 u2 u3 u4 u5 u6 u7 u8 u9 m' ro em => ?_) (fun i' u1 u2 _ u3 => ?_) (fun b' => absurd gg b')
    · have v1 : i' = i := (nI_eq (by omega) (by omega)).mp u4.symm
      have v2 : n' = n := (nI_eq (by omega) (by omega)).mp u5.symm
      have v3 : j' = j := (nI_eq (by omega) (by omega)).mp (u6.symm.trans ej)
      subst v1 v2 v3
      rw [CO.ref hF (by decide), es] at u7
      have v4 : s' = s := (nI_eq (by omega) (by omega)).mp u7.symm
      subst v4
      refine ⟨?_, hI.rd hF ro R2 em⟩
      rw [CO.ref hF (by decide)]
    · have v1 : i' = i := (nI_eq (by omega) (by omega)).mp u2.symm
      subst v1
      rw [CO.ref hF (by decide)] at u3
      exact absurd u3 c
  · refine R_signs rfl hO x y z hsh (fun i' n' j' s' u1 u2 u3 u4 u5 u6 u7 u8 u9 m' ro em => ?_) (fun _ _ _ _ _ => ⟨rfl, hI⟩) (fun b' => absurd gg b')
    have v1 : i' = i := (nI_eq (by omega) (by omega)).mp (u4.symm.trans ei)
    subst v1
    exact absurd c u8
end OPJ
