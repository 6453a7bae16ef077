/-! feed -/
def byV (x : Int32) (j : Nat) : Int32 := nI (x.toBitVec.toNat / 2 ^ (24 - 8 * j) % 2 ^ 8)
def fdV (a b c : Int32) (k : Nat) : Int32 := byV (if k < 4 then a else if k < 8 then b else c) (k % 4)
theorem byC (x s : Int32) (j : Nat) (hs : ((s.toUInt32 &&& Int32.toUInt32 31).toBitVec % 32).toNat = 24 - 8 * j) : ((x.toUInt32 >>> (s.toUInt32 &&& Int32.toUInt32 31)).toInt32) &&& 255 = byV x j := by
  rw [pk_and _ 8 (by decide), pk_ushr x s _ hs]
  rfl
theorem byR (x s : Int32) (j : Nat) (hj : j < 4) (hs : (s.toBitVec.smod 32).toNat = 24 - 8 * j) : (x >>> s) &&& 255 = byV x j := by
  rw [pk_and _ 8 (by decide)]
  have h := pk_shr x s _ hs
  unfold byV
  congr 1
  have e1 : ((x >>> s).toBitVec.toNat : Int) = (x >>> s).toInt % 2 ^ 32 := by
    have := BitVec.toInt_eq_toNat_cond (x >>> s).toBitVec
    have lt := (x >>> s).toBitVec.isLt
    have e : (x >>> s).toInt = (x >>> s).toBitVec.toInt := rfl
    rw [e, this]
    split <;> omega
  have e2 : x.toInt = (x.toBitVec.toNat : Int) ∨ x.toInt = (x.toBitVec.toNat : Int) - 2 ^ 32 := by
    have := BitVec.toInt_eq_toNat_cond x.toBitVec
    have e : x.toInt = x.toBitVec.toInt := rfl
    rw [e, this]
    split
    · exact Or.inl rfl
    · exact Or.inr rfl
  have lt := x.toBitVec.isLt
  rw [Int.shiftRight_eq_div_pow] at h
  generalize (x >>> s).toBitVec.toNat = A at *
  generalize x.toBitVec.toNat = B at *
  generalize (x >>> s).toInt = C at *
  generalize x.toInt = D at *
  have : j = 0 ∨ j = 1 ∨ j = 2 ∨ j = 3 := by omega
  rcases this with rfl | rfl | rfl | rfl
  · simp at h ⊢; omega
  · simp at h ⊢; omega
  · simp at h ⊢; omega
  · simp at h ⊢; omega
theorem byV_bd (x : Int32) (j : Nat) : 0 ≤ byV x j ∧ byV x j ≤ 255 := by
  unfold byV
  have : x.toBitVec.toNat / 2 ^ (24 - 8 * j) % 2 ^ 8 < 256 := Nat.mod_lt _ (by decide)
  exact ⟨nI_pos' (by omega), nI_le (b := 255) (by omega) (by decide)⟩
section OPS
variable {d : Nat} {mem : wf_Mem} {P : Int32 → wf_Mem → Prop} {Q : wf_Mem → Prop} {r : Rw}
theorem takes_loop (x : Int32) {n : Nat} (hn : n + 4 ≤ 96) (h : ∀ m', Fr (fun a => a = 3 ∨ a = 4) mem m' → m' 3 1 = nI (n + 4) → (∀ j, m' 4 j = if n ≤ j ∧ j < n + 4 then byV x (j - n) else mem 4 j) → Q m') : ∀ (f i : Nat) (m : wf_Mem), 4 - i ≤ f → i ≤ 4 → Fr (fun a => a = 3 ∨ a = 4) mem m → m 3 1 = nI (n + i) → (∀ j, m 4 j = if n ≤ j ∧ j < n + i then byV x (j - n) else mem 4 j) → Vw (Nv d Q) mX6_takesNumber 3 [(0, .ref 3), (1, .int x), (2, .int (24 - 8 * nI i))] [] m
  | f, i, m, hf, hi, ho, e1, e4 => by
    have ec : (24 - 8 * nI i < 0) ↔ i = 4 := by
      have : i = 0 ∨ i = 1 ∨ i = 2 ∨ i = 3 ∨ i = 4 := by omega
      rcases this with rfl | rfl | rfl | rfl | rfl <;> decide
    have e9 : (96 ≤ nI (n + i)) ↔ 96 ≤ n + i := nI_leI (a := 96) (by decide) (by omega)
    refine b_X6_takesNumber_3 _ _ _ ?_
    rw [ec, e1, e9]
    refine ⟨fun g => ?_, fun g => ⟨fun g2 => by omega, fun g2 => ⟨vin (by omega), fun m1 f1 m2 f2 => ?_⟩⟩⟩
    · subst g; exact h m ho e1 e4
    · have hs : (((24 - 8 * nI i : Int32).toUInt32 &&& Int32.toUInt32 31).toBitVec % 32).toNat = 24 - 8 * i := by
        have : i = 0 ∨ i = 1 ∨ i = 2 ∨ i = 3 := by omega
        rcases this with rfl | rfl | rfl | rfl <;> decide
      rw [byC x _ i hs, nI_clamp (by omega)] at f1
      have g1 : m1 3 1 = nI (n + i) := by rw [f1, msA _ _ _ _ (by decide)]; exact e1
      rw [g1, nI_1] at f2
      have es : 24 - 8 * nI i + -8 = 24 - 8 * nI (i + 1) := by rw [← nI_1]; grind
      rw [es]
      cases f with
      | zero => omega
      | succ f =>
        refine takes_loop x hn h f (i + 1) m2 (by omega) (by omega) (by rw [f2, f1]; exact (ho.tr (Fr.ms (Or.inr rfl))).tr (Fr.ms (Or.inl rfl))) (by rw [f2, msS]; rfl) (fun j => ?_)
        rw [f2, msA _ _ _ _ (by decide), f1]
        by_cases e : j = n + i
        · rw [e, msS, if_pos (by omega)]
          congr 1
          omega
        · rw [msK _ _ _ _ e, e4 j]
          by_cases g3 : n ≤ j ∧ j < n + i
          · rw [if_pos g3, if_pos (by omega)]
          · rw [if_neg g3, if_neg (by omega)]
theorem k_takes (x : Int32) {n : Nat} (hn : n + 4 ≤ 96) (e : mem 3 1 = nI n) (h : ∀ m', Fr (fun a => a = 3 ∨ a = 4) mem m' → m' 3 1 = nI (n + 4) → (∀ j, m' 4 j = if n ≤ j ∧ j < n + 4 then byV x (j - n) else mem 4 j) → Q m') : Cv mX6_takesNumber d [.ref 3, .int x] mem Q :=
  E_X6_takesNumber _ (takes_loop x hn h 4 0 mem (by omega) (by omega) Fr.rf e (fun j => by rw [if_neg (by omega)]))
theorem feed_loop (a b c : Int32) {n : Nat} (hn : n + 12 ≤ 96) (h : ∀ m', Fr (fun a => a = 120 ∨ a = 133) mem m' → m' 120 16 = nI (n + 12) → (∀ j, j ≠ 16 → m' 120 j = mem 120 j) → (∀ j, m' 133 j = if n ≤ j ∧ j < n + 12 then fdV a b c (j - n) else mem 133 j) → P (nI (n + 12)) m') : ∀ (f k : Nat) (m : wf_Mem), 12 - k ≤ f → k ≤ 12 → Fr (fun a => a = 120 ∨ a = 133) mem m → m 120 16 = nI (n + k) → (∀ j, j ≠ 16 → m 120 j = mem 120 j) → (∀ j, m 133 j = if n ≤ j ∧ j < n + k then fdV a b c (j - n) else mem 133 j) → Vw (Ni d P) mX9_feed 18 [(0, .ref 120), (1, .int a), (2, .int b), (3, .int c), (4, .int (nI k))] [] m
  | f, k, m, hf, hk, ho, e16, e120, e133 => by
    have c12 : (12 ≤ nI k) ↔ 12 ≤ k := nI_leI (a := 12) (by decide) (by omega)
    have c4 : (4 ≤ nI k) ↔ 4 ≤ k := nI_leI (a := 4) (by decide) (by omega)
    have c8 : (8 ≤ nI k) ↔ 8 ≤ k := nI_leI (a := 8) (by decide) (by omega)
    have go : ∀ y : Int32, k < 12 → y = (if k < 4 then a else if k < 8 then b else c) → Vw (Ni d P) mX9_feed 47 [(0, .ref 120), (1, .int a), (2, .int b), (3, .int c), (4, .int (nI k))] [.int y] m := fun y hk12 ey => by
      refine b_X9_feed_47 _ _ _ _ _ _ ?_
      have e4 : nI k - nI k / 4 * 4 = nI (k % 4) := pk_rem (d := 4) (by omega) (by decide) (by decide)
      have hs : (((24 - 8 * nI (k % 4)) &&& 31 : Int32).toBitVec.smod 32).toNat = 24 - 8 * (k % 4) := by
        have : k % 4 = 0 ∨ k % 4 = 1 ∨ k % 4 = 2 ∨ k % 4 = 3 := by omega
        rcases this with q | q | q | q <;> rw [q] <;> decide
      rw [e16, e4, byR y _ (k % 4) (by omega) hs, nI_clamp (by omega), show nI k + 1 = nI (k + 1) from nI_1 k]
      refine ⟨vin (by omega), fun m1 f1 m2 f2 => ?_⟩
      have g1 : m1 120 16 = nI (n + k) := by rw [f1, msA _ _ _ _ (by decide)]; exact e16
      rw [g1, nI_1] at f2
      cases f with
      | zero => omega
      | succ f =>
        refine feed_loop a b c hn h f (k + 1) m2 (by omega) (by omega) (by rw [f2, f1]; exact (ho.tr (Fr.ms (Or.inr rfl))).tr (Fr.ms (Or.inl rfl))) (by rw [f2, msS]; rfl) (fun j hj => by rw [f2, msK _ _ _ _ hj, f1, msA _ _ _ _ (by decide)]; exact e120 j hj) (fun j => ?_)
        rw [f2, msA _ _ _ _ (by decide), f1]
        by_cases e : j = n + k
        · have ek : n + k - n = k := by omega
          rw [e, msS, if_pos (by omega), ey, ek]; rfl
        · rw [msK _ _ _ _ e, e133 j]
          by_cases g3 : n ≤ j ∧ j < n + k
          · rw [if_pos g3, if_pos (by omega)]
          · rw [if_neg g3, if_neg (by omega)]
    refine b_X9_feed_18 _ _ _ _ _ ?_
    rw [c12, c4, c8]
    refine ⟨fun g => ?_, fun g => ⟨fun g2 => ⟨fun g3 => go _ (by omega) ?_, fun g3 => go _ (by omega) ?_⟩, fun g2 => go _ (by omega) ?_⟩⟩
    · have : k = 12 := by omega
      subst this
      rw [e16]; exact h m ho e16 e120 e133
    · rw [if_neg (by omega), if_neg (by omega)]
    · rw [if_neg (by omega), if_pos (by omega)]
    · rw [if_pos (by omega)]
theorem L_feed (hI : INV mem) (x y z : Int32) : Agr (d + 20) mX8_feed mX9_feed [.int x, .int y, .int z] mem := by
  obtain ⟨n, hn, w1, w2, w3⟩ := hI.2.2.2.2.2
  have e12 : nI n + 12 = nI (n + 12) := nI_add n 12
  have c96 : (nI (n + 12) ≤ 96) ↔ n + 12 ≤ 96 := nI_leI (b := 96) (by omega) (by decide)
  refine E_X8_feed _ _ _ ?_
  rw [w1, e12, c96]
  refine ⟨fun g => k_takes x (by omega) w1 (fun m1 f1 a1 b1 => k_takes y (by omega) a1 (fun m2 f2 a2 b2 => k_takes z (by omega) a2 (fun m3 f3 a3 b3 => ?_))), fun g => ?_⟩
  · have o3 : ∀ a, a ≠ 3 → a ≠ 4 → m3 a = mem a := fun a h1 h2 => by rw [f3 a (by omega), f2 a (by omega), f1 a (by omega)]
    have a3' : m3 3 1 = nI (n + 12) := a3
    rw [a3']
    refine E_X9_feed _ _ _ ?_
    have e16 : m3 120 16 = nI n := by rw [o3 120 (by decide) (by decide)]; exact w2
    rw [e16, e12, c96]
    refine ⟨fun _ => feed_loop (mem := m3) x y z g (fun m4 f4 q1 q2 q3 => ⟨rfl, ?_⟩) 12 0 m3 (by omega) (by omega) Fr.rf e16 (fun _ _ => rfl) (fun j => by rw [if_neg (by omega)]), fun c => absurd g c⟩
    have o4 : ∀ a, a ≠ 3 → a ≠ 4 → a ≠ 120 → a ≠ 133 → m4 a = mem a := fun a h1 h2 h3 h4 => by rw [f4 a (by omega), o3 a h1 h2]
    have o120 : ∀ j, j ≠ 16 → m4 120 j = mem 120 j := fun j hj => by rw [q2 j hj, o3 120 (by decide) (by decide)]
    refine hI.wt (fun a _ h1 h2 _ h3 h4 _ => o4 a h1 h2 h3 h4) (by rw [o4 0 (by decide) (by decide) (by decide) (by decide)]) (o120 3 (by decide)) (hI.2.2.2.2.1.fr (by rw [o4 0 (by decide) (by decide) (by decide) (by decide)]) (o120 31 (by decide)) (o4 8 (by decide) (by decide) (by decide) (by decide)) (o4 137 (by decide) (by decide) (by decide) (by decide))) ⟨n + 12, by omega, by rw [f4 3 (by omega)]; exact a3', q1, fun j hj => ?_⟩
    rw [f4 4 (by omega), q3 j]
    by_cases c : n ≤ j
    · rw [if_pos (by omega)]
      refine ⟨?_, by unfold fdV; exact byV_bd _ _⟩
      rw [b3 j, b2 j, b1 j]
      unfold fdV
      by_cases c1 : j < n + 4
      · rw [if_neg (by omega), if_neg (by omega), if_pos (by omega), if_pos (by omega)]
        congr 1; omega
      · by_cases c2 : j < n + 8
        · rw [if_neg (by omega), if_pos (by omega), if_neg (by omega), if_pos (by omega)]
          congr 1; omega
        · rw [if_pos (by omega), if_neg (by omega), if_neg (by omega)]
          congr 1; omega
    · rw [if_neg (by omega), b3 j, if_neg (by omega), b2 j, if_neg (by omega), b1 j, if_neg (by omega), o3 133 (by decide) (by decide)]
      exact w3 j (by omega)
  · refine E_X9_feed _ _ _ ?_
    rw [w2, e12, c96]
    exact ⟨fun c => absurd c g, fun _ => ⟨rfl, hI⟩⟩
end OPS
