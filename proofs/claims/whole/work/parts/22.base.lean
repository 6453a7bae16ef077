/-! small laws -/
theorem n1 {A B : Prop} (h : A) : (¬ (1 : Int32) = 0 → A) ∧ ((1 : Int32) = 0 → B) := ⟨fun _ => h, fun c => absurd c (by decide)⟩
theorem n0 {A B : Prop} (h : B) : (¬ (0 : Int32) = 0 → A) ∧ ((0 : Int32) = 0 → B) := ⟨fun c => absurd rfl c, fun _ => h⟩
theorem z1 {A B : Prop} (h : B) : ((1 : Int32) = 0 → A) ∧ (¬ (1 : Int32) = 0 → B) := ⟨fun c => absurd c (by decide), fun _ => h⟩
theorem z0 {A B : Prop} (h : A) : ((0 : Int32) = 0 → A) ∧ (¬ (0 : Int32) = 0 → B) := ⟨fun _ => h, fun c => absurd rfl c⟩
theorem bl1 {A : Prop} (h : A) : ((1 : Int32) = 0 ∨ (1 : Int32) = 1) ∧ A := ⟨Or.inr rfl, h⟩
theorem bl0 {A : Prop} (h : A) : ((0 : Int32) = 0 ∨ (0 : Int32) = 1) ∧ A := ⟨Or.inl rfl, h⟩
theorem lc_lt (x y : Int64) : lg_cmp x y < 0 ↔ x < y := by
  unfold lg_cmp
  by_cases h1 : x > y
  · rw [if_pos h1]
    exact ⟨fun h => absurd h (by decide), fun h => absurd h (Int64.not_lt.mpr (Int64.le_of_lt h1))⟩
  · rw [if_neg h1]
    by_cases h2 : x = y
    · rw [if_pos h2]
      exact ⟨fun h => absurd h (by decide), fun h => absurd h (by rw [h2]; exact Int64.lt_irrefl)⟩
    · rw [if_neg h2]
      refine ⟨fun _ => ?_, fun _ => by decide⟩
      have h1 := Int64.not_lt.mp h1
      rw [Int64.le_iff_toInt_le] at h1
      rw [Int64.lt_iff_toInt_lt]
      have : x.toInt ≠ y.toInt := fun e => h2 (Int64.toInt_inj.mp e)
      omega
theorem lc_gt (x y : Int64) : 0 < lg_cmp x y ↔ y < x := by
  unfold lg_cmp
  by_cases h1 : x > y
  · rw [if_pos h1]
    exact ⟨fun _ => h1, fun _ => by decide⟩
  · rw [if_neg h1]
    by_cases h2 : x = y
    · rw [if_pos h2]
      exact ⟨fun h => absurd h (by decide), fun h => absurd h h1⟩
    · rw [if_neg h2]
      exact ⟨fun h => absurd h (by decide), fun h => absurd h h1⟩
theorem l64_lt (x y : Int32) : x.toInt64 < y.toInt64 ↔ x < y := by
  rw [Int64.lt_iff_toInt_lt, Int32.lt_iff_toInt_lt, Int32.toInt_toInt64, Int32.toInt_toInt64]
/-- a number within bounds is a Nat's -/
theorem nI_ge0 {x : Int32} (h : 0 ≤ x) : x = nI x.toNatClampNeg := by
  obtain ⟨j, hj, e⟩ := nI_of (Int32.not_lt.mpr h)
  rw [e, nI_clamp hj]
theorem cl_lt {x : Int32} {n : Nat} (h : 0 ≤ x) (hx : x < nI n) (hn : n < 2 ^ 31) : x.toNatClampNeg < n := by
  obtain ⟨j, hj, e⟩ := nI_of (Int32.not_lt.mpr h)
  rw [e, nI_clamp hj]
  rw [e] at hx
  exact (nI_ltI hj hn).mp hx
theorem cl_le {x : Int32} {n : Nat} (h : 0 ≤ x) (hx : x ≤ nI n) (hn : n < 2 ^ 31) : x.toNatClampNeg ≤ n := by
  obtain ⟨j, hj, e⟩ := nI_of (Int32.not_lt.mpr h)
  rw [e, nI_clamp hj]
  rw [e] at hx
  exact (nI_leI hj hn).mp hx
theorem vin {n N : Nat} (h : n < N) (hN : N < 2 ^ 31 := by decide) : vp_in (nI n) N := vp_in_nI h hN
/-- x in 0 .. n - 1, as codes ask it -/
theorem nI_rng {x : Int32} {n : Nat} (h : 0 ≤ x) (hx : x ≤ nI n - 1) (hn : n < 2 ^ 30) : ∃ k, k < n ∧ x = nI k := by
  obtain ⟨j, hj, e⟩ := nI_of (Int32.not_lt.mpr h)
  subst e
  cases n with
  | zero =>
    exfalso
    have h2 := Int32.le_iff_toInt_le.mp hx
    rw [nI_toInt hj] at h2
    have : (nI 0 - 1).toInt = -1 := by decide
    omega
  | succ n =>
    rw [nI_pred] at hx
    have := (nI_leI hj (by omega)).mp hx
    exact ⟨j, by omega, rfl⟩
theorem nI_rng' {n k : Nat} (h : k < n) (hn : n < 2 ^ 30) : 0 ≤ nI k ∧ nI k ≤ nI n - 1 := by
  cases n with
  | zero => omega
  | succ n =>
    rw [nI_pred]
    exact ⟨nI_pos' (by omega), nI_le (by omega) (by omega)⟩
/-- places in the row -/
theorem ixw (k j : Nat) : 12 + 3 * nI k + nI j = nI (12 + 3 * k + j) := by
  show nI 12 + nI 3 * nI k + nI j = _
  rw [pk_mul, nI_add, nI_add]
theorem ixw0 (k : Nat) : 12 + 3 * nI k = nI (12 + 3 * k) := by
  show nI 12 + nI 3 * nI k = _
  rw [pk_mul, nI_add]
theorem ixo (k j : Nat) : 48 + 5 * nI k + nI j = nI (48 + 5 * k + j) := by
  show nI 48 + nI 5 * nI k + nI j = _
  rw [pk_mul, nI_add, nI_add]
theorem ixo0 (k : Nat) : 48 + 5 * nI k = nI (48 + 5 * k) := by
  show nI 48 + nI 5 * nI k = _
  rw [pk_mul, nI_add]
theorem ixt (k : Nat) : 88 + 200 * nI k = nI (88 + 200 * k) := by
  show nI 88 + nI 200 * nI k = _
  rw [pk_mul, nI_add]
theorem msS (m : wf_Mem) (a k : Nat) (v : Int32) : wf_ms m a k v a k = v := by simp [wf_ms]
theorem msA (m : wf_Mem) (a k : Nat) (v : Int32) {b j : Nat} (h : b ≠ a) : wf_ms m a k v b j = m b j := by simp [wf_ms, h]
theorem msK (m : wf_Mem) (a k : Nat) (v : Int32) {b j : Nat} (h : j ≠ k) : wf_ms m a k v b j = m b j := by simp [wf_ms, h]
/-! the reference's leaves -/
section REF0
variable {d : Nat} {mem : wf_Mem} {P : Int32 → wf_Mem → Prop} {Q : wf_Mem → Prop}
theorem c_isIn (x lo hi : Int32) {L H : Int64} (hL : L = lo.toInt64) (hH : H = hi.toInt64) (h1 : lo ≤ x → x ≤ hi → P 1 mem) (h0 : ¬ (lo ≤ x ∧ x ≤ hi) → P 0 mem) : Ci mX9_isIn d [.long x.toInt64, .long L, .long H] mem P := by
  subst hL hH
  refine E_X9_isIn _ _ _ (⟨fun c => ?_, fun c => ⟨fun c2 => ?_, fun c2 => ?_⟩⟩)
  · rw [lc_lt, l64_lt] at c
    exact h0 (fun h => absurd c (Int32.not_lt.mpr h.1))
  · rw [lc_gt, l64_lt] at c2
    exact h0 (fun h => absurd c2 (Int32.not_lt.mpr h.2))
  · rw [lc_lt, l64_lt] at c
    rw [lc_gt, l64_lt] at c2
    exact h1 (Int32.not_lt.mp c) (Int32.not_lt.mp c2)
theorem c_orNone (x : Int32) (h : P (if 0 ≤ x then x else -1000000005) mem) : Ci mX9_orNone d [.int x] mem P :=
  E_X9_orNone _ (⟨fun c => by rw [if_pos c] at h; exact h, fun c => by rw [if_neg c] at h; exact h⟩)
theorem c_within (x m : Int32) (h : P (clp x m) mem) : Ci mX9_within d [.int x, .int m] mem P := by
  unfold clp at h
  refine E_X9_within _ _ (⟨fun c => ⟨fun c2 => ?_, fun c2 => ?_⟩, fun c => ?_⟩)
  · rw [if_pos c, if_pos c2] at h; exact h
  · rw [if_pos c, if_neg c2] at h; exact h
  · rw [if_neg c] at h; exact h
theorem c_off (x y : Int32) (h : P (if y ≤ x then x - y else y - x) mem) : Ci mX9_off d [.int x, .int y] mem P :=
  E_X9_off _ _ (⟨fun c => by rw [if_pos c] at h; exact h, fun c => by rw [if_neg c] at h; exact h⟩)
theorem c_becomes (i : Nat) (v : Int32) (hi : i < 3088) (h : P (mem 121 i) (wf_ms mem 121 i v)) : Ci mX9_becomes d [.ref 120, .int (nI i), .int v] mem P := by
  refine E_X9_becomes _ _ (⟨vin hi, fun x e => ⟨vin hi, fun m e2 => ?_⟩⟩)
  subst e e2
  rw [nI_clamp (by omega)]
  exact h
theorem c_textAt (t : Nat) (h : P (nI (88 + 200 * t)) mem) : Ci mX9_textAt d [.ref 120, .int (nI t)] mem P :=
  E_X9_textAt _ ((by rw [ixt]; exact h))
theorem c_wagonsOwn (k j : Nat) (hk : 12 + 3 * k + j < 3088) (h : P (mem 121 (12 + 3 * k + j)) mem) : Ci mX9_wagonsOwn d [.ref 120, .int (nI k), .int (nI j)] mem P := by
  refine E_X9_wagonsOwn _ _ (?_)
  rw [ixw, nI_clamp (by omega)]
  exact ⟨vin hk, h⟩
theorem c_of (k j : Nat) (hk : 48 + 5 * k + j < 3088) (h : P (mem 121 (48 + 5 * k + j)) mem) : Ci mX9_of d [.ref 120, .int (nI k), .int (nI j)] mem P := by
  refine E_X9_of _ _ (?_)
  rw [ixo, nI_clamp (by omega)]
  exact ⟨vin hk, h⟩
theorem c_isRow (M : wf_M) (j : Nat) (n : Nat) (x : Int32) (hj : mem 121 j = nI n) (hn : n < 2 ^ 30) (hb : Ci mX9_isIn d [.long x.toInt64, .long 0, .long (mem 121 j - 1).toInt64] mem (fun r2 mem1 => (r2 = 0 ∨ r2 = 1) ∧ P r2 mem1) → Ci M (d + 1) [.ref 120, .int x] mem P)
    (h1 : ∀ k, k < n → x = nI k → P 1 mem) (h0 : (¬ ∃ k, k < n ∧ x = nI k) → P 0 mem) : Ci M (d + 1) [.ref 120, .int x] mem P := by
  refine hb (c_isIn x 0 (mem 121 j - 1) rfl rfl (fun a b => ?_) (fun a => ?_))
  · rw [hj] at b
    obtain ⟨k, hk, e⟩ := nI_rng a b hn
    exact bl1 (h1 k hk e)
  · refine bl0 (h0 (fun ⟨k, hk, e⟩ => a ?_))
    rw [hj, e]
    exact nI_rng' hk hn
theorem c_isWagon (n : Nat) (x : Int32) (hj : mem 121 0 = nI n) (hn : n < 2 ^ 30) (h1 : ∀ k, k < n → x = nI k → P 1 mem) (h0 : (¬ ∃ k, k < n ∧ x = nI k) → P 0 mem) : Ci mX9_isWagon (d + 1) [.ref 120, .int x] mem P :=
  c_isRow mX9_isWagon 0 n x hj hn (fun h => E_X9_isWagon _ (h)) h1 h0
theorem c_isWatcher (n : Nat) (x : Int32) (hj : mem 121 1 = nI n) (hn : n < 2 ^ 30) (h1 : ∀ k, k < n → x = nI k → P 1 mem) (h0 : (¬ ∃ k, k < n ∧ x = nI k) → P 0 mem) : Ci mX9_isWatcher (d + 1) [.ref 120, .int x] mem P :=
  c_isRow mX9_isWatcher 1 n x hj hn (fun h => E_X9_isWatcher _ (h)) h1 h0
theorem c_isText (n : Nat) (x : Int32) (hj : mem 121 2 = nI n) (hn : n < 2 ^ 30) (h1 : ∀ k, k < n → x = nI k → P 1 mem) (h0 : (¬ ∃ k, k < n ∧ x = nI k) → P 0 mem) : Ci mX9_isText (d + 1) [.ref 120, .int x] mem P :=
  c_isRow mX9_isText 2 n x hj hn (fun h => E_X9_isText _ (h)) h1 h0
end REF0
