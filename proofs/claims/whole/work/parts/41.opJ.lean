/-! signs, reads -/
def foR (r : Rw) (k : Nat) : Int32 := if k < rN r then r (12 + 3 * k) else 0
def dfA (p : Nat → Int32) (r : Rw) : Nat → Int32
  | 0 => 0
  | k + 1 => dfA p r k + (if p k = -1000000005 then 0 else (if foR r k ≤ p k then p k - foR r k else foR r k - p k))
def sgG (r : Rw) (p : Nat → Int32) (s n : Nat) (k : Nat) : Int32 := dfA p (hrN (upd r 4 (nI k)) n) s
def sgV (r : Rw) (p : Nat → Int32) (s n j : Nat) : Int32 := if j = 0 then (amA (sgG r p s n) 41).1 else (amA (sgG r p s n) 41).2
theorem ix24 (k j : Nat) : 24 * nI k + nI j = nI (24 * k + j) := by
  show nI 24 * nI k + nI j = _
  rw [pk_mul, nI_add]
theorem sg_ok {r : Rw} (hI : okR r) {k : Nat} (hk : k ≤ 40) : okR (upd r 4 (nI k)) ∧ sm r (upd r 4 (nI k)) :=
  ⟨okR_lo hI (by decide) (by decide) (fun h => by omega) (fun _ => ⟨nI_pos' (by omega), nI_le (b := 99) (by omega) (by decide)⟩), sm.u (by decide) (by decide)⟩
section OPJ
variable {d : Nat} {mem : wf_Mem} {P : Int32 → wf_Mem → Prop} {Q : wf_Mem → Prop} {r : Rw}
theorem c_isSheet (x : Int32) (h1 : ∀ i, i < 4 → x = nI i → P 1 mem) (h0 : (¬ ∃ i, i < 4 ∧ x = nI i) → P 0 mem) : Ci mX9_isSheet (d + 1) [.int x] mem P :=
  E_X9_isSheet _ (c_isIn x 0 3 rfl rfl (fun a b => by
    obtain ⟨j, hj, ej⟩ := nI_bd (m := 3) a b (by decide)
    exact bl1 (h1 j (by omega) ej)) (fun bad => bl0 (h0 (fun ⟨i, hi, ei⟩ => bad (by rw [ei]; exact ⟨nI_pos' (by omega), nI_le (b := 3) (by omega) (by decide)⟩)))))
theorem k_isSheet (x : Int32) (h1 : ∀ i, i < 4 → x = nI i → P 1 mem) (h0 : (¬ ∃ i, i < 4 ∧ x = nI i) → P 0 mem) : Ci mX8_isSheet (d + 1) [.int x] mem P :=
  E_X8_isSheet _ (k_within x 0 3 (fun a b => by
    obtain ⟨j, hj, ej⟩ := nI_bd (m := 3) a b (by decide)
    exact bl1 (h1 j (by omega) ej)) (fun bad => bl0 (h0 (fun ⟨i, hi, ei⟩ => bad (by rw [ei]; exact ⟨nI_pos' (by omega), nI_le (b := 3) (by omega) (by decide)⟩)))))
theorem c_isSlot (x : Int32) (h1 : ∀ i, i < 5 → x = nI i → P 1 mem) (h0 : (¬ ∃ i, i < 5 ∧ x = nI i) → P 0 mem) : Ci mX9_isSlot (d + 1) [.int x] mem P :=
  E_X9_isSlot _ (c_isIn x 0 4 rfl rfl (fun a b => by
    obtain ⟨j, hj, ej⟩ := nI_bd (m := 4) a b (by decide)
    exact bl1 (h1 j (by omega) ej)) (fun bad => bl0 (h0 (fun ⟨i, hi, ei⟩ => bad (by rw [ei]; exact ⟨nI_pos' (by omega), nI_le (b := 4) (by omega) (by decide)⟩)))))
theorem k_isSlot (x : Int32) (h1 : ∀ i, i < 5 → x = nI i → P 1 mem) (h0 : (¬ ∃ i, i < 5 ∧ x = nI i) → P 0 mem) : Ci mX8_isSlot (d + 1) [.int x] mem P :=
  E_X8_isSlot _ (k_within x 0 4 (fun a b => by
    obtain ⟨j, hj, ej⟩ := nI_bd (m := 4) a b (by decide)
    exact bl1 (h1 j (by omega) ej)) (fun bad => bl0 (h0 (fun ⟨i, hi, ei⟩ => bad (by rw [ei]; exact ⟨nI_pos' (by omega), nI_le (b := 4) (by omega) (by decide)⟩)))))
/-- the reference: a sheet is there -/
theorem srt {v : Int32} (h : v = -1 ∨ v = 0 ∨ v = 1) : (0 ≤ v ↔ ¬ v = -1) := by
  rcases h with rfl | rfl | rfl <;> decide
theorem shN {m : wf_Mem} {i : Nat} (h : shI m i) : ∃ n, n ≤ 24 ∧ m 125 i = nI n ∧ m (92 + 2 * i) 1 = nI n := by
  obtain ⟨-, -, a, ⟨n, hn, b⟩, -⟩ := h
  exact ⟨n, hn, b, a.trans b⟩
theorem sh_w {i : Nat} (hi : i < 4) : wf_sh (92 + 2 * i) = (4, 0) := by
  have : i = 0 ∨ i = 1 ∨ i = 2 ∨ i = 3 := by omega
  rcases this with rfl | rfl | rfl | rfl <;> rfl
/-- the inner loop of the reference's signs -/
theorem signs_in {i s : Nat} (hi : i < 4) (hs : s ≤ 24) {q : Rw} (hq : okR q) (p : Nat → Int32) (n y x4 x5 x6 : Int32) : ∀ (f k : Nat) (m : wf_Mem), s - k ≤ f → k ≤ s → m 121 = q → m 125 i = nI s → (∀ j, j < 24 → m 126 (24 * i + j) = p j) → (Cv mX9_laysBack (d + 2) [.ref 120] m (fun m2 => ((x4 < 0 → Vw (Ni (d + 3) P) mX9_signs 58 [(0, .ref 120), (1, .int (nI i)), (2, .int n), (3, .int y), (4, .int x6), (5, .int (dfA p q s)), (6, .int (x6 + 1))] [] m2) ∧ (¬ x4 < 0 → ((x5 ≤ dfA p q s → Vw (Ni (d + 3) P) mX9_signs 58 [(0, .ref 120), (1, .int (nI i)), (2, .int n), (3, .int y), (4, .int x4), (5, .int x5), (6, .int (x6 + 1))] [] m2) ∧ (¬ x5 ≤ dfA p q s → Vw (Ni (d + 3) P) mX9_signs 58 [(0, .ref 120), (1, .int (nI i)), (2, .int n), (3, .int y), (4, .int x6), (5, .int (dfA p q s)), (6, .int (x6 + 1))] [] m2)))))) → Vw (Ni (d + 3) P) mX9_signs 84 [(0, .ref 120), (1, .int (nI i)), (2, .int n), (3, .int y), (4, .int x4), (5, .int x5), (6, .int x6), (7, .int (dfA p q k)), (8, .int (nI k))] [] m
  | f, k, m, hf, hk, em, e125, e126, h => by
    obtain ⟨hn, hn2⟩ := hq.n
    have ec : (nI s ≤ nI k) ↔ s ≤ k := nI_leI (by omega) (by omega)
    have ec2 : (nI (rN q) ≤ nI k) ↔ rN q ≤ k := nI_leI (by omega) (by omega)
    refine b_X9_signs_84 _ _ _ _ _ _ _ _ _ ?_
    rw [nI_clamp (by omega : i < 2 ^ 31), e125, ix24, em, hn, ec, ec2]
    refine ⟨vin (by omega), fun g => ?_, fun g => ⟨vin (by omega), fun v ev => ?_⟩⟩
    · have : k = s := by omega
      rw [this]; exact h
    · rw [nI_clamp (by omega), e126 k (by omega)] at ev
      have nx : ∀ z : Int32, z = dfA p q (k + 1) → Vw (Ni (d + 3) P) mX9_signs 84 [(0, .ref 120), (1, .int (nI i)), (2, .int n), (3, .int y), (4, .int x4), (5, .int x5), (6, .int x6), (7, .int z), (8, .int (nI k + 1))] [] m := fun z ez => by
        rw [ez, show nI k + 1 = nI (k + 1) from nI_1 k]
        cases f with
        | zero => omega
        | succ f => exact signs_in hi hs hq p n y x4 x5 x6 f (k + 1) m (by omega) (by omega) em e125 e126 h
      have un : dfA p q (k + 1) = dfA p q k + (if p k = -1000000005 then 0 else (if foR q k ≤ p k then p k - foR q k else foR q k - p k)) := rfl
      rw [un] at nx
      subst ev
      refine ⟨fun c => ⟨fun c2 => c_off _ _ (fun z ez => nx z ?_), fun c2 => c_wagonsOwn k 0 (by omega) (c_off _ _ (fun z ez => nx z ?_))⟩, fun c z ez => nx z ?_⟩
      · rw [ez, if_neg c]; unfold foR; rw [if_neg (by omega)]
      · rw [ez, if_neg c, em]; unfold foR; rw [if_pos (by omega)]; rfl
      · rw [ez, if_pos c]
theorem signs_loop (hI : okR r) {i s n j : Nat} (hi : i < 4) (hs : s ≤ 24) (p : Nat → Int32) (hn : n ≤ 60) (y : Int32) (ej : (y = 0) ↔ j = 0) (h : ∀ m', RO mem m' → m' 121 = r → P (sgV r p s n j) m') : ∀ (f k : Nat) (m : wf_Mem), 41 - k ≤ f → k ≤ 41 → RO mem m → (∀ j, j < 88 → m 132 j = r j) → m 121 = r → m 125 i = nI s → (∀ j, j < 24 → m 126 (24 * i + j) = p j) → Vw (Ni (d + 10) P) mX9_signs 58 [(0, .ref 120), (1, .int (nI i)), (2, .int (nI n)), (3, .int y), (4, .int (amA (sgG r p s n) k).1), (5, .int (amA (sgG r p s n) k).2), (6, .int (nI k))] [] m
  | f, k, m, hf, hk, ho, hb, em, e125, e126 => by
    have ec : (40 < nI k) ↔ 40 < k := nI_ltI (a := 40) (by decide) (by omega)
    refine b_X9_signs_58 _ _ _ _ _ _ _ ?_
    rw [ec, ej]
    refine ⟨fun g => ?_, fun g m1 f1 => ?_⟩
    · have e : k = 41 := by omega
      have h' := h m ho em
      unfold sgV at h'
      rw [e]
      refine ⟨fun q => ?_, fun q => ?_⟩
      · rw [if_neg q] at h'; exact h'
      · rw [if_pos q] at h'; exact h'
    · have e1 : m1 121 = upd r 4 (nI k) := by rw [f1, ms121 em]
      have o1 : RO mem m1 := by rw [f1]; exact ho.tr (RO.ms (Or.inl rfl))
      have hp := sg_ok hI (k := k) (by omega)
      refine c_goesOnMany n (by omega) e1 hp.1 (fun m2 o2 e2 => ?_)
      have k2 : ∀ a, a ≠ 120 → a ≠ 121 → a ≠ 134 → a ≠ 135 → m2 a = m a := fun a g1 g2 g3 g4 => by rw [o2.1 a g1 g2 g3 g4, f1, wf_ms_other _ _ _ _ g2]
      refine signs_in (d := d + 7) hi hs (hrN_ok hp.1 n).1 p _ y _ _ _ 24 0 m2 (by omega) (by omega) e2 (by rw [k2 125 (by decide) (by decide) (by decide) (by decide)]; exact e125) (fun j hj => by rw [k2 126 (by decide) (by decide) (by decide) (by decide)]; exact e126 j hj) ?_
      have b2 : ∀ j, j < 88 → m2 132 j = r j := fun j hj => by rw [k2 132 (by decide) (by decide) (by decide) (by decide)]; exact hb j hj
      refine c_laysBack (r := r) b2 (fun j hj => by rw [e2]; exact ((hrN_ok hp.1 n).2.2.2.2 j hj).trans (hp.2.2.2.2 j hj)) (fun m4 o4 e4 k4 => ?_)
      have b4 : ∀ j, j < 88 → m4 132 j = r j := fun j hj => by rw [k4]; exact b2 j hj
      have o5 : RO mem m4 := o1.tr (o2.ro.tr o4)
      rw [show nI k + 1 = nI (k + 1) from nI_1 k]
      cases f with
      | zero => omega
      | succ f =>
        have nx := signs_loop hI hi hs p hn y ej h f (k + 1) m4 (by omega) (by omega) o5 b4 e4 (by rw [o4.1 125 (by decide) (by decide) (by decide) (by decide) (by decide) (by decide) (by decide) (by decide), k2 125 (by decide) (by decide) (by decide) (by decide)]; exact e125) (fun j hj => by rw [o4.1 126 (by decide) (by decide) (by decide) (by decide) (by decide) (by decide) (by decide) (by decide), k2 126 (by decide) (by decide) (by decide) (by decide)]; exact e126 j hj)
        have un : amA (sgG r p s n) (k + 1) = if (amA (sgG r p s n) k).1 < 0 then (nI k, sgG r p s n k) else if (amA (sgG r p s n) k).2 ≤ sgG r p s n k then amA (sgG r p s n) k else (nI k, sgG r p s n k) := rfl
        rw [un] at nx
        refine ⟨fun c => ?_, fun c => ⟨fun c2 => ?_, fun c2 => ?_⟩⟩
        · rw [if_pos c] at nx; exact nx
        · rw [if_neg c, if_pos (show (amA (sgG r p s n) k).2 ≤ sgG r p s n k from c2)] at nx; exact nx
        · rw [if_neg c, if_neg (show ¬ (amA (sgG r p s n) k).2 ≤ sgG r p s n k from c2)] at nx; exact nx
def gSg (x y z : Int32) : Prop := (∃ i, i < 4 ∧ x = nI i) ∧ (0 ≤ y ∧ y ≤ 60) ∧ 0 ≤ z ∧ z ≤ 1
theorem R_signs (hr : mem 121 = r) (hI : okR r) (x y z : Int32) (hsh : ∀ i, i < 4 → shI mem i) (h1 : ∀ i n j s, i < 4 → n ≤ 60 → j ≤ 1 → x = nI i → y = nI n → z = nI j → mem 125 i = nI s → ¬ mem 124 i = -1 → s ≤ 24 → ∀ m', RO mem m' → m' 121 = r → P (sgV r (fun k => mem 126 (24 * i + k)) s n j) m') (hN : ∀ i, i < 4 → x = nI i → gSg x y z → mem 124 i = -1 → P (-1000000011) mem) (h0 : ¬ gSg x y z → P (-1000000001) mem) : Ci mX9_signs (d + 11) [.ref 120, .int x, .int y, .int z] mem P := by
  refine E_X9_signs _ _ _ (c_isSheet x (fun i hi ei => z1 (c_isIn y 0 60 rfl rfl (fun a1 a2 => z1 (c_isIn z 0 1 rfl rfl (fun b1 b2 => n1 ?_) (fun bad => n0 (h0 (fun g => bad g.2.2))))) (fun bad => z0 (h0 (fun g => bad g.2.1))))) (fun bad => z0 (h0 (fun g => bad g.1))))
  obtain ⟨n, hn, en⟩ := nI_bd (m := 60) a1 a2 (by decide)
  obtain ⟨j, hj, ej⟩ := nI_bd (m := 1) b1 b2 (by decide)
  obtain ⟨s, hs, es, -⟩ := shN (hsh i hi)
  have ex : x.toNatClampNeg = i := by rw [ei, nI_clamp (by omega)]
  have q1 : (z = 0) ↔ j = 0 := by rw [ej]; exact nI_eq (b := 0) (by omega) (by decide)
  rw [ex, srt (hsh i hi).2.1]
  refine ⟨by rw [ei]; exact vin hi, fun c => c_laysBy hr (fun m1 o1 e1 k1 => ?_), fun c => hN i hi ei ⟨⟨i, hi, ei⟩, ⟨a1, a2⟩, b1, b2⟩ (Decidable.not_not.mp c)⟩
  have h := h1 i n j s hi hn hj ei en ej es c hs
  rw [ei, en]
  exact signs_loop (d := d + 1) hI hi hs _ hn z q1 h 41 0 m1 (by omega) (by omega) o1 k1 e1 (by rw [o1.1 125 (by decide) (by decide) (by decide) (by decide) (by decide) (by decide) (by decide) (by decide)]; exact es) (fun j _ => by rw [o1.1 126 (by decide) (by decide) (by decide) (by decide) (by decide) (by decide) (by decide) (by decide)])
end OPJ
