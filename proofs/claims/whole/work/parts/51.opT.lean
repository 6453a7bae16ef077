/-! fires -/
def ldR (r : Rw) (N : Nat) (g : Nat → Nat) : Rw := fun j => if 13 ≤ j ∧ j < 13 + 3 * N ∧ (j - 13) % 3 = 0 then nI (g ((j - 13) / 3)) else r j
def dg (N code i : Nat) : Nat := code / 4 ^ (N - 1 - i) % 4
def suU (g : Nat → Nat) : Nat → Nat
  | 0 => 0
  | k + 1 => suU g k + g k
def LV (r : Rw) (f n : Nat) : Int32 := clp (lvR r 0 (nI f) (nI n) (r 3) (2 * nI f + nI n)) 99
def lsM (r : Rw) : Nat → Int32
  | 0 => 99
  | k + 1 => if ltR r k < lsM r k then ltR r k else lsM r k
/-- light, together, digits, of the first codes -/
def fsS (r : Rw) (N w : Nat) : Nat → Int32 × Int32 × Int32
  | 0 => (-1, 0, 0)
  | k + 1 => if w < suU (dg N k) N then fsS r N w k else
    if (fsS r N w k).1 < lsM (ldR r N (dg N k)) N then (lsM (ldR r N (dg N k)) N, nI (suU (dg N k) N), nI k)
    else if lsM (ldR r N (dg N k)) N = (fsS r N w k).1 ∧ nI (suU (dg N k) N) < (fsS r N w k).2.1 then (lsM (ldR r N (dg N k)) N, nI (suU (dg N k) N), nI k) else fsS r N w k
theorem dg_lt (N code i : Nat) : dg N code i < 4 := Nat.mod_lt _ (by decide)
theorem suU_bd {g : Nat → Nat} (hg : ∀ i, g i < 4) : ∀ k, suU g k ≤ 3 * k
  | 0 => Nat.le_refl _
  | k + 1 => by have := suU_bd hg k; have := hg k; unfold suU; omega
theorem suU_le {g : Nat → Nat} : ∀ {k n : Nat}, k ≤ n → suU g k ≤ suU g n
  | k, 0, h => by have : k = 0 := by omega
                  subst this; exact Nat.le_refl _
  | k, n + 1, h => by
    by_cases e : k = n + 1
    · rw [e]; exact Nat.le_refl _
    · exact Nat.le_trans (suU_le (n := n) (by omega)) (by show suU g n ≤ suU g n + g n; omega)
theorem ld_f (r : Rw) {N i : Nat} (g : Nat → Nat) (h : i < N) : ldR r N g (12 + 3 * i + 1) = nI (g i) := by
  unfold ldR
  rw [if_pos (by omega)]
  congr 2
  omega
theorem ld_o (r : Rw) {N j : Nat} (g : Nat → Nat) (h : ¬ (13 ≤ j ∧ j < 13 + 3 * N ∧ (j - 13) % 3 = 0)) : ldR r N g j = r j := if_neg h
theorem ld_sm (r : Rw) {N : Nat} (hN : N ≤ 6) (g : Nat → Nat) : sm r (ldR r N g) := ⟨ld_o r g (by omega), ld_o r g (by omega), ld_o r g (by omega), fun j hj => ld_o r g (by omega)⟩
theorem ld_ok {r : Rw} (hI : okR r) {N : Nat} (eN : rN r = N) (hN : N ≤ 6) {g : Nat → Nat} (hg : ∀ i, g i < 4) : okR (ldR r N g) := by
  have s := ld_sm r hN g
  have w2 := hI.w.2
  unfold okR
  rw [s.N, s.W, s.T, s.1, s.2.1, s.2.2.1, ld_o r g (j := 3) (by omega), ld_o r g (j := 4) (by omega), ld_o r g (j := 5) (by omega)]
  refine ⟨hI.n, hI.w, hI.t, hI.wood, hI.wolf, hI.hung, fun k hk => ?_, fun w hw => ?_, fun t ht => okT_congr s.2.2.2 (hI.tx ht)⟩
  · rw [ld_o r g (j := 12 + 3 * k) (by omega), ld_o r g (j := 12 + 3 * k + 2) (by omega), ld_f r g (by omega)]
    have := hg k
    exact ⟨(hI.wg hk).1, ⟨nI_pos' (by omega), nI_le (b := 9) (by omega) (by decide)⟩, (hI.wg hk).2.2⟩
  · rw [ld_o r g (j := 48 + 5 * w) (by omega), ld_o r g (j := 48 + 5 * w + 1) (by omega), ld_o r g (j := 48 + 5 * w + 2) (by omega), ld_o r g (j := 48 + 5 * w + 3) (by omega), ld_o r g (j := 48 + 5 * w + 4) (by omega)]
    exact hI.wt hw
theorem ld_rel {r : Rw} {m m' : wf_Mem} {N : Nat} {g0 g : Nat → Nat} (hT : rT r ≤ 14) (eN : rN r = N) (hN : N ≤ 6) (h : Rel 75 m (ldR r N g0)) (hf : Fr (fun a => a = 78) m m') (hv : ∀ i, i < N → m' 78 i = nI (g i)) : Rel 75 m' (ldR r N g) := by
  have s0 := ld_sm r hN g0
  have s := ld_sm r hN g
  have o : ∀ j, ¬ (13 ≤ j ∧ j < 13 + 3 * N ∧ (j - 13) % 3 = 0) → ldR r N g j = ldR r N g0 j := fun j hj => by rw [ld_o r g hj, ld_o r g0 hj]
  have ss : sm (ldR r N g0) (ldR r N g) := ⟨s.1.trans s0.1.symm, s.2.1.trans s0.2.1.symm, s.2.2.1.trans s0.2.2.1.symm, fun j hj => (s.2.2.2 j hj).trans (s0.2.2.2 j hj).symm⟩
  have k : ∀ a, a ≠ 78 → m' a = m a := fun a ha => hf a ha
  obtain ⟨a, b, c, e⟩ := h
  refine ⟨?_, fun i hi => ?_, fun w hw j hj => ?_, ?_⟩
  · rw [k 75 (by decide), k (75 + 1) (by decide), ss.1, ss.2.1, o 3 (by omega), o 4 (by omega), o 5 (by omega), o 6 (by omega), o 7 (by omega), o 8 (by omega), o 9 (by omega), o 10 (by omega)]; exact a
  · rw [s.N, eN] at hi
    obtain ⟨b1, b2, b3⟩ := b i (by rw [s0.N, eN]; exact hi)
    refine ⟨?_, ?_, ?_⟩
    · rw [k (75 + 1 + 1) (by decide), o _ (by omega)]; exact b1
    · rw [ld_f r g hi]; exact hv i hi
    · rw [k (75 + 1 + 3) (by decide), o _ (by omega)]; exact b3
  · rw [ss.W] at hw
    rw [k _ (by omega), o _ (by omega)]; exact c w hw j hj
  · obtain ⟨e1, e2, e3⟩ := e
    refine ⟨by rw [k 75 (by decide), ss.2.2.1]; exact e1, fun key hk => ?_, fun t ht => ?_⟩
    · rw [k (75 + 6) (by decide), ss.T, cntR_congr ss.2.2.2]; exact e2 key hk
    · rw [ss.T] at ht
      have := e3 t ht
      obtain ⟨q1, q2, q3, q4⟩ := tx_congr ss.2.2.2 t
      unfold lwT at this ⊢
      have t14 : t < 14 := by rw [s0.T] at ht; omega
      rw [q1, q4, ss.2.2.2 (88 + 200 * t + 1) (by omega), ss.2.2.2 (88 + 200 * t + 2) (by omega), k _ (by omega), k _ (by omega)]
      exact ⟨this.1, this.2.1, this.2.2.1, fun q hq => by rw [q2]; exact this.2.2.2 q hq⟩
section OPT
variable {d : Nat} {mem : wf_Mem} {P : Int32 → wf_Mem → Prop} {Q : wf_Mem → Prop} {r : Rw}
/-- the class lays the digits -/
theorem put_loop {N code : Nat} (hN : N ≤ 6) (hc : code < 4096) (h : ∀ m', Fr (fun a => a = 78) mem m' → (∀ i, i < N → m' 78 i = nI (dg N code i)) → P (nI (suU (dg N code) N)) m') : ∀ (k : Nat) (m : wf_Mem), k ≤ N → Fr (fun a => a = 78) mem m → (∀ i, k ≤ i → i < N → m 78 i = nI (dg N code i)) → Vw (Ni d P) mX1_putFires 11 [(1, .ref 76), (4, .int (nI (suU (dg N code) N - suU (dg N code) k))), (5, .int (nI (code / 4 ^ (N - k)))), (6, .int (nI k - 1))] [] m
  | 0, m, hk, ho, hv => by
    refine b_X1_putFires_11 _ _ rfl _ _ _ ⟨fun _ => ?_, fun c => absurd (by decide) c⟩
    exact h m ho (fun i hi => hv i (by omega) hi)
  | k + 1, m, hk, ho, hv => by
    have ps : 4 ^ (N - k) = 4 ^ (N - (k + 1)) * 4 := by rw [← Nat.pow_succ]; congr 1; omega
    have bd : code / 4 ^ (N - (k + 1)) ≤ code := Nat.div_le_self _ _
    refine b_X1_putFires_11 _ _ rfl _ _ _ ?_
    rw [nI_pred]
    have e3 : nI (code / 4 ^ (N - (k + 1))) &&& 3 = nI (dg N code k) := by
      rw [pk_andN (by omega) 2 (by decide)]
      unfold dg
      have : N - (k + 1) = N - 1 - k := by omega
      rw [this]
    have e4 : nI (code / 4 ^ (N - (k + 1))) >>> ((2 : Int32) &&& 31) = nI (code / 4 ^ (N - k)) := by
      rw [pk_shrN (by omega) _ 2 (by decide), ps, Nat.div_div_eq_div_mul]
    rw [e3, e4, nI_clamp (by omega)]
    refine ⟨fun c => absurd c (Int32.not_lt.mpr (nI_pos' (by omega))), fun _ => ⟨vin (by omega), fun m2 f2 => ⟨vin (by omega), fun z ez y ey => ?_⟩⟩⟩
    have g2 : m2 (76 + 2) k = nI (dg N code k) := by rw [f2, msS]
    have l1 : suU (dg N code) (k + 1) ≤ suU (dg N code) N := suU_le hk
    have l2 : suU (dg N code) (k + 1) = suU (dg N code) k + dg N code k := rfl
    rw [g2, nI_add] at ez
    have ez' : suU (dg N code) N - suU (dg N code) (k + 1) + dg N code k = suU (dg N code) N - suU (dg N code) k := by omega
    rw [ez'] at ez
    rw [ez, ey]
    have e6 : nI k + -1 = nI k - 1 := by grind
    rw [e6]
    refine put_loop hN hc h k m2 (by omega) (by rw [f2]; exact ho.tr (Fr.ms rfl)) (fun i hi hi2 => ?_)
    by_cases e : i = k
    · rw [e]; exact g2
    · rw [f2, msK _ _ _ _ e]; exact hv i (by omega) hi2
theorem k_put {N code : Nat} (hN : N ≤ 6) (hc : code < 4096) (h : ∀ m', Fr (fun a => a = 78) mem m' → (∀ i, i < N → m' 78 i = nI (dg N code i)) → P (nI (suU (dg N code) N)) m') : Ci mX1_putFires d [.ref 1, .ref 76, .int (nI N), .int (nI code)] mem P := by
  refine E_X1_putFires _ rfl _ _ (fun z ez => ?_)
  rw [ez]
  have := put_loop (d := d) (mem := mem) (P := P) hN hc h N mem (Nat.le_refl _) Fr.rf (fun i h1 h2 => by omega)
  rw [Nat.sub_self, Nat.sub_self, Nat.pow_zero, Nat.div_one] at this
  exact this
/-- the reference lays the digits -/
theorem lay_loopF {N code : Nat} (hI : okR r) (eN : rN r = N) (hN : N ≤ 6) (h1N : 1 ≤ N) (hc : code < 4096) (h : ∀ m', RO mem m' → m' 132 = mem 132 → m' 121 = ldR r N (dg N code) → P (nI (suU (dg N code) N)) m') : ∀ (f k : Nat) (m : wf_Mem), N - k ≤ f → k ≤ N → RO mem m → m 132 = mem 132 → (∀ j, ¬ (13 ≤ j ∧ j < 13 + 3 * N ∧ (j - 13) % 3 = 0) → m 121 j = r j) → (∀ i, i < k → m 121 (12 + 3 * i + 1) = nI (dg N code i)) → Vw (Ni d P) mX9_laysFires 4 [(0, .ref 120), (1, .int (nI code)), (2, .int (nI (suU (dg N code) k))), (3, .int (nI k))] [] m
  | f, k, m, hf, hk, ho, h132, hr, hv => by
    obtain ⟨hn, hn2⟩ := hI.n
    have e0 : m 121 0 = nI N := by rw [hr 0 (by omega), hn, eN]
    have ec : (nI N ≤ nI k) ↔ N ≤ k := nI_leI (by omega) (by omega)
    refine b_X9_laysFires_4 _ _ _ _ ?_
    rw [e0, ec, show (12 + 3 * nI k) + 1 = nI (12 + 3 * k + 1) from ixw k 1, nI_clamp (by omega)]
    refine ⟨fun g => ?_, fun g y ey => ⟨vin (by omega), fun m2 f2 z ez => ?_⟩⟩
    · have : k = N := by omega
      subst this
      refine h m ho h132 (funext (fun j => ?_))
      by_cases c : 13 ≤ j ∧ j < 13 + 3 * k ∧ (j - 13) % 3 = 0
      · have e : j = 12 + 3 * ((j - 13) / 3) + 1 := by omega
        rw [e, hv _ (by omega), ld_f r _ (by omega)]
      · rw [hr j c, ld_o r _ c]
    · have e1 : nI N - 1 - nI k = nI (N - 1 - k) := by
        have : nI N - 1 = nI (N - 1) := by rw [show N = (N - 1) + 1 by omega, nI_pred]; rfl
        rw [this]; exact pk_sub (by omega)
      have hs : (((2 * nI (N - 1 - k)) &&& 31 : Int32).toBitVec.smod 32).toNat = 2 * (N - 1 - k) := by
        have : N - 1 - k = 0 ∨ N - 1 - k = 1 ∨ N - 1 - k = 2 ∨ N - 1 - k = 3 ∨ N - 1 - k = 4 ∨ N - 1 - k = 5 := by omega
        rcases this with q | q | q | q | q | q <;> rw [q] <;> decide
      have bd : code / 2 ^ (2 * (N - 1 - k)) ≤ code := Nat.div_le_self _ _
      rw [e1, pk_shrN (by omega) _ _ hs, pk_andN (by omega) 2 (by decide)] at ey
      have ey' : y = nI (dg N code k) := by
        rw [ey]; unfold dg; rw [Nat.pow_mul]
      rw [ey'] at f2 ez
      rw [nI_add] at ez
      rw [ez, show nI k + 1 = nI (k + 1) from nI_1 k]
      cases f with
      | zero => omega
      | succ f =>
        refine lay_loopF hI eN hN h1N hc h f (k + 1) m2 (by omega) (by omega) (by rw [f2]; exact ho.tr (RO.ms (Or.inl rfl))) (by rw [f2, wf_ms_other _ _ _ _ (by decide)]; exact h132) (fun j hj => by rw [f2, msK _ _ _ _ (by omega)]; exact hr j hj) (fun i hi => ?_)
        rw [f2]
        by_cases e : i = k
        · rw [e, msS]
        · rw [msK _ _ _ _ (by omega)]; exact hv i (by omega)
end OPT
