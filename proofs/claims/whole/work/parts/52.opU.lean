/-! fires, the loops -/
theorem nx6 {r : Rw} {N : Nat} (eN : rN r = N) (hN : N ≤ 6) {g : Nat → Nat} (hg : ∀ i, g i < 4) {k : Nat} (hk : k < N) : ∃ n, n ≤ 6 ∧ nxR (ldR r N g) k = nI n := by
  have e : rN (ldR r N g) = N := by rw [(ld_sm r hN g).N]; exact eN
  unfold nxR
  rw [e]
  by_cases h1 : N < 2
  · rw [if_pos h1]; exact ⟨0, by omega, rfl⟩
  · rw [if_neg h1]
    by_cases h2 : N = 2
    · rw [if_pos h2, ld_f r g (by omega)]
      have := hg (1 - k)
      exact ⟨g (1 - k), by omega, rfl⟩
    · rw [if_neg h2, ld_f r g (Nat.mod_lt _ (by omega)), ld_f r g (Nat.mod_lt _ (by omega)), nI_add]
      have := hg ((k + 1) % N)
      have := hg ((k + N - 1) % N)
      exact ⟨_, by omega, rfl⟩
theorem lvR_congr {r r' : Rw} (h2 : r' 2 = r 2) (h : ∀ j, 88 ≤ j → r' j = r j) (key a b c wo : Int32) : lvR r' key a b c wo = lvR r key a b c wo := by
  have hT : rT r' = rT r := by unfold rT; rw [h2]
  unfold lvR
  rw [hT, cntR_congr h, evT_congr h]
theorem ld_lt {r : Rw} (hI : okR r) {N : Nat} (eN : rN r = N) (hN : N ≤ 6) {g : Nat → Nat} (hg : ∀ i, g i < 4) {k n : Nat} (hk : k < N) (en : nxR (ldR r N g) k = nI n) : LV r (g k) n = ltR (ldR r N g) k := by
  have s := ld_sm r hN g
  have h := lt_lv (ld_ok hI eN hN hg) (k := k) (by rw [s.N, eN]; exact hk)
  rw [← h, ld_f r g hk, en, ld_o r g (j := 3) (by omega), lvR_congr s.2.2.1 s.2.2.2]
  rfl
def lsS (r : Rw) (k : Nat) : Int32 := if k = 0 then 1000 else lsM r k
theorem lsM_bd {r : Rw} (hI : okR r) : ∀ k, k ≤ rN r → ∃ n, n ≤ 99 ∧ lsM r k = nI n
  | 0, _ => ⟨99, by decide, rfl⟩
  | k + 1, hk => by
    unfold lsM
    split
    · exact ltR_bd hI (by omega)
    · exact lsM_bd hI k (by omega)
theorem self_ld {r : Rw} (hI : okR r) {N : Nat} (eN : rN r = N) : ldR r N (fun i => (r (12 + 3 * i + 1)).toNatClampNeg) = r := funext (fun j => by
  by_cases c : 13 ≤ j ∧ j < 13 + 3 * N ∧ (j - 13) % 3 = 0
  · have e : j = 12 + 3 * ((j - 13) / 3) + 1 := by omega
    rw [e, ld_f r _ (by omega)]
    exact (nI_ge0 (hI.wg (k := (j - 13) / 3) (by omega)).2.1.1).symm
  · exact ld_o r _ c)
section OPU
variable {d : Nat} {mem : wf_Mem} {P : Int32 → wf_Mem → Prop} {Q : wf_Mem → Prop} {r : Rw}
theorem kleast_loop (hI : okR r) {N : Nat} (eN : rN r = N) (hN : N ≤ 6) {g : Nat → Nat} (hg : ∀ i, g i < 4) (hR : Rel 75 mem (ldR r N g)) (hT : ∀ i, i < 28 → mem 2 i = LV r (i / 7) (i % 7)) (h : P (lsM (ldR r N g) N) mem) : ∀ (f k : Nat), N - k ≤ f → k ≤ N → Vw (Ni (d + 3) P) mX1_leastLight 6 [(0, .ref 1), (1, .ref 76), (2, .int (nI N)), (3, .int (lsM (ldR r N g) k)), (4, .int (nI k))] [] mem
  | f, k, hf, hk => by
    have ec : (nI N ≤ nI k) ↔ N ≤ k := nI_leI (by omega) (by omega)
    have hok := ld_ok hI eN hN hg
    have eq : rN (ldR r N g) = N := by rw [(ld_sm r hN g).N]; exact eN
    refine b_X1_leastLight_6 _ _ rfl _ _ _ ?_
    rw [ec, nI_clamp (by omega)]
    refine ⟨fun gg => ?_, fun gg => ⟨vin (by omega), k_nextFires (c := 75) sh75 hok hR (by rw [eq]; omega) ?_⟩⟩
    · have : k = N := by omega
      subst this; exact h
    · obtain ⟨n, hn, en⟩ := nx6 eN hN hg (k := k) (by omega)
      have e1 : mem (76 + 2) k = nI (g k) := by rw [← ld_f r g (show k < N by omega)]; exact (hR.2.1 k (by rw [eq]; omega)).2.1
      have e2 : nI (g k) * 7 + nI n = nI (g k * 7 + n) := by show nI (g k) * nI 7 + nI n = _; rw [pk_mul, nI_add]
      have gk := hg k
      rw [e1, en, e2, nI_clamp (by omega), hT _ (by omega)]
      have a1 : (g k * 7 + n) / 7 = g k := by omega
      have a2 : (g k * 7 + n) % 7 = n := by omega
      rw [a1, a2, ld_lt hI eN hN hg (by omega) en]
      refine ⟨vin (by omega), fun z ez => ?_⟩
      have ez' : z = lsM (ldR r N g) (k + 1) := ez
      rw [ez', show nI k + 1 = nI (k + 1) from nI_1 k]
      cases f with
      | zero => omega
      | succ f => exact kleast_loop hI eN hN hg hR hT h f (k + 1) (by omega) (by omega)
theorem leastF_loop {q : Rw} (hq : okR q) (h1 : 1 ≤ rN q) (h : ∀ m', sc mem m' → P (lsM q (rN q)) m') : ∀ (f k : Nat) (m : wf_Mem), rN q - k ≤ f → k ≤ rN q → sc mem m → m 121 = q → Vw (Ni (d + 3) P) mX9_leastLight 6 [(0, .ref 120), (1, .int (lsS q k)), (2, .int (nI k))] [] m
  | f, k, m, hf, hk, ho, em => by
    obtain ⟨hn, hn2⟩ := hq.n
    have ec : (nI (rN q) ≤ nI k) ↔ rN q ≤ k := nI_leI (by omega) (by omega)
    refine b_X9_leastLight_6 _ _ _ ?_
    rw [em, hn, ec]
    refine ⟨fun g => ?_, fun g => c_light em hq (by omega) (fun m1 s1 => ?_)⟩
    · have : k = rN q := by omega
      unfold lsS
      rw [if_neg (by omega), this]; exact h m ho
    · rw [show nI k + 1 = nI (k + 1) from nI_1 k]
      have nx : ∀ z : Int32, z = lsM q (k + 1) → Vw (Ni (d + 3) P) mX9_leastLight 6 [(0, .ref 120), (1, .int z), (2, .int (nI (k + 1)))] [] m1 := fun z ez => by
        have ez' : z = lsS q (k + 1) := by unfold lsS; rw [if_neg (by omega)]; exact ez
        rw [ez']
        cases f with
        | zero => omega
        | succ f => exact leastF_loop hq h1 h f (k + 1) m1 (by omega) (by omega) (ho.tr s1) (s1.s.trans em)
      obtain ⟨v, hv, ev⟩ := ltR_bd hq (k := k) (by omega)
      have un : lsM q (k + 1) = if ltR q k < lsM q k then ltR q k else lsM q k := rfl
      rw [ev] at un ⊢
      unfold lsS
      by_cases e : k = 0
      · subst e
        rw [if_pos rfl]
        have c1 : ¬ (1000 : Int32) ≤ nI v := by
          have : ((1000 : Int32) ≤ nI v) ↔ 1000 ≤ v := nI_leI (a := 1000) (by decide) (by omega)
          rw [this]; omega
        refine ⟨fun c => absurd c c1, fun _ => nx _ ?_⟩
        rw [un]
        have l0 : lsM q 0 = nI 99 := rfl
        rw [l0]
        have c2 : (nI v < nI 99) ↔ v < 99 := nI_ltI (by omega) (by decide)
        by_cases c3 : v < 99
        · rw [if_pos (c2.mpr c3)]
        · rw [if_neg (fun c => c3 (c2.mp c))]
          have : v = 99 := by omega
          rw [this]
      · rw [if_neg e]
        refine ⟨fun c => nx _ ?_, fun c => nx _ ?_⟩
        · rw [un, if_neg (Int32.not_lt.mpr c)]
        · rw [un, if_pos (Int32.not_le.mp c)]
theorem p4 {N : Nat} (hN : N ≤ 6) : ((1 : Int32) <<< ((2 * nI N) &&& 31)) = nI (4 ^ N) := by
  have : N = 0 ∨ N = 1 ∨ N = 2 ∨ N = 3 ∨ N = 4 ∨ N = 5 ∨ N = 6 := by omega
  rcases this with rfl | rfl | rfl | rfl | rfl | rfl | rfl <;> decide
theorem p4_le {N : Nat} (hN : N ≤ 6) : 4 ^ N ≤ 4096 := by
  have : N = 0 ∨ N = 1 ∨ N = 2 ∨ N = 3 ∨ N = 4 ∨ N = 5 ∨ N = 6 := by omega
  rcases this with rfl | rfl | rfl | rfl | rfl | rfl | rfl <;> decide
/-- the frame of the class's search -/
def FS : Nat → Prop := fun a => a = 1 ∨ a = 2 ∨ a = 9 ∨ (75 ≤ a ∧ a < 92)
theorem code_loop (hI : okR r) {N w : Nat} (eN : rN r = N) (hN : N ≤ 6) (h1N : 1 ≤ N) (hw : w ≤ 18) (h : ∀ m', Fr FS mem m' → m' 1 1 = (fsS r N w (4 ^ N)).1 → m' 1 2 = (fsS r N w (4 ^ N)).2.1 → m' 1 3 = (fsS r N w (4 ^ N)).2.2 → Q m') : ∀ (f k : Nat) (m : wf_Mem) (g0 : Nat → Nat), 4 ^ N - k ≤ f → k ≤ 4 ^ N → Fr FS mem m → Rel 75 m (ldR r N g0) → (∀ i, i < 28 → m 2 i = LV r (i / 7) (i % 7)) → m 1 1 = (fsS r N w k).1 → (0 < k → m 1 2 = (fsS r N w k).2.1 ∧ m 1 3 = (fsS r N w k).2.2) → Vw (Nv (d + 5) Q) mX1_runOn 56 [(0, .ref 1), (1, .ref 75), (2, .int (nI w)), (3, .int (nI N)), (4, .int (nI k))] [] m
  | f, k, m, g0, hf, hk, ho, hR, hT, e1, e23 => by
    have p := p4_le hN
    have p0 : 0 < 4 ^ N := Nat.pow_pos (by decide)
    have ec : (nI (4 ^ N) ≤ nI k) ↔ 4 ^ N ≤ k := nI_leI (by omega) (by omega)
    refine b_X1_runOn_56 _ _ sh75 _ _ _ ?_
    rw [p4 hN, ec]
    refine ⟨fun g => ?_, fun g => k_put hN (by omega) (fun m1 f1 g1 => ?_)⟩
    · have : k = 4 ^ N := by omega
      subst this
      exact h m ho e1 (e23 p0).1 (e23 p0).2
    · have R1 : Rel 75 m1 (ldR r N (dg N k)) := ld_rel hI.t.2 eN hN hR f1 g1
      have o1 : ∀ a, a ≠ 78 → m1 a = m a := fun a ha => f1 a ha
      have ho1 : Fr FS mem m1 := ho.tr (f1.to (fun a ha => by subst ha; unfold FS; omega))
      have T1 : ∀ i, i < 28 → m1 2 i = LV r (i / 7) (i % 7) := fun i hi => by rw [o1 2 (by decide)]; exact hT i hi
      have sb := suU_bd (dg_lt N k) N
      have ew : (nI w < nI (suU (dg N k) N)) ↔ w < suU (dg N k) N := nI_ltI (by omega) (by omega)
      rw [ew, show nI k + 1 = nI (k + 1) from nI_1 k]
      have un : fsS r N w (k + 1) = if w < suU (dg N k) N then fsS r N w k else
        if (fsS r N w k).1 < lsM (ldR r N (dg N k)) N then (lsM (ldR r N (dg N k)) N, nI (suU (dg N k) N), nI k)
        else if lsM (ldR r N (dg N k)) N = (fsS r N w k).1 ∧ nI (suU (dg N k) N) < (fsS r N w k).2.1 then (lsM (ldR r N (dg N k)) N, nI (suU (dg N k) N), nI k) else fsS r N w k := rfl
      have a1 : m1 1 1 = (fsS r N w k).1 := by rw [o1 1 (by decide)]; exact e1
      have a23 : 0 < k → m1 1 2 = (fsS r N w k).2.1 ∧ m1 1 3 = (fsS r N w k).2.2 := fun c => by rw [o1 1 (by decide)]; exact e23 c
      have nx : ∀ m2, Fr FS mem m2 → Rel 75 m2 (ldR r N (dg N k)) → (∀ i, i < 28 → m2 2 i = LV r (i / 7) (i % 7)) → m2 1 1 = (fsS r N w (k + 1)).1 → (m2 1 2 = (fsS r N w (k + 1)).2.1 ∧ m2 1 3 = (fsS r N w (k + 1)).2.2) → Vw (Nv (d + 5) Q) mX1_runOn 56 [(0, .ref 1), (1, .ref 75), (2, .int (nI w)), (3, .int (nI N)), (4, .int (nI (k + 1)))] [] m2 := fun m2 b1 b2 b3 b4 b5 => by
        cases f with
        | zero => omega
        | succ f => exact code_loop hI eN hN h1N hw h f (k + 1) m2 (dg N k) (by omega) (by omega) b1 b2 b3 b4 (fun _ => b5)
      have kp : ∀ (c : k = 0), suU (dg N k) N = 0 := fun c => by
        have z : ∀ i, dg N k i = 0 := fun i => by unfold dg; rw [c, Nat.zero_div]
        have : ∀ n, suU (dg N k) n = 0 := fun n => by
          induction n with
          | zero => rfl
          | succ n ih => show suU (dg N k) n + dg N k n = 0; rw [ih, z]
        exact this N
      refine ⟨fun c => ?_, fun c => ?_⟩
      · have k0 : 0 < k := by
          rcases Nat.eq_zero_or_pos k with z | z
          · have := kp z; omega
          · exact z
        exact nx m1 ho1 R1 T1 (by rw [un, if_pos c]; exact a1) (by rw [un, if_pos c]; exact a23 k0)
      · refine E_X1_leastLight _ rfl _ (kleast_loop (d := d + 1) hI eN hN (dg_lt N k) R1 T1 ?_ 6 0 (by omega) (by omega))
        rw [a1]
        have eq : rN (ldR r N (dg N k)) = N := by rw [(ld_sm r hN _).N]; exact eN
        obtain ⟨v, hv, ev⟩ := lsM_bd (ld_ok hI eN hN (dg_lt N k)) N (by rw [eq]; exact Nat.le_refl _)
        have set3 : fsS r N w (k + 1) = (lsM (ldR r N (dg N k)) N, nI (suU (dg N k) N), nI k) → ∀ m2, m2 = wf_ms m1 1 1 (lsM (ldR r N (dg N k)) N) → ∀ m3, m3 = wf_ms m2 1 2 (nI (suU (dg N k) N)) → ∀ m4, m4 = wf_ms m3 1 3 (nI k) → Vw (Nv (d + 5) Q) mX1_runOn 56 [(0, .ref 1), (1, .ref 75), (2, .int (nI w)), (3, .int (nI N)), (4, .int (nI (k + 1)))] [] m4 := fun es m2 f2 m3 f3 m4 f4 => by
          have o4 : ∀ a, a ≠ 1 → m4 a = m1 a := fun a ha => by rw [f4, wf_ms_other _ _ _ _ ha, f3, wf_ms_other _ _ _ _ ha, f2, wf_ms_other _ _ _ _ ha]
          refine nx m4 (ho1.tr (fun a ha => o4 a (fun c => ha (by subst c; unfold FS; omega)))) (R1.go (ld_ok hI eN hN (dg_lt N k)) (fun a ha => o4 a (by unfold RdC at ha; omega))) (fun i hi => by rw [o4 2 (by decide)]; exact T1 i hi) ?_ ⟨?_, ?_⟩
          · rw [es, f4, msK _ _ _ _ (by decide), f3, msK _ _ _ _ (by decide), f2, msS]
          · rw [es, f4, msK _ _ _ _ (by decide), f3, msS]
          · rw [es, f4, msS]
        refine ⟨fun c1 m2 f2 m3 f3 m4 f4 => set3 (by rw [un, if_neg c, if_pos c1]) m2 f2 m3 f3 m4 f4, fun c1 => ?_⟩
        have k0 : 0 < k := by
          rcases Nat.eq_zero_or_pos k with z | z
          · exfalso
            subst z
            apply c1
            show (-1 : Int32) < _
            rw [ev]
            have : (0 : Int32) ≤ nI v := nI_pos' (by omega)
            grind
          · exact z
        obtain ⟨a2, a3⟩ := a23 k0
        rw [a2]
        refine ⟨fun c2 => nx m1 ho1 R1 T1 ?_ ?_, fun c2 => ⟨fun c3 => nx m1 ho1 R1 T1 ?_ ?_, fun c3 m2 f2 m3 f3 m4 f4 => set3 ?_ m2 f2 m3 f3 m4 f4⟩⟩
        · rw [un, if_neg c, if_neg c1, if_neg (fun o => c2 o.1)]; exact a1
        · rw [un, if_neg c, if_neg c1, if_neg (fun o => c2 o.1)]; exact ⟨a2, a3⟩
        · rw [un, if_neg c, if_neg c1, if_neg (fun o => absurd o.2 (Int32.not_lt.mpr c3))]; exact a1
        · rw [un, if_neg c, if_neg c1, if_neg (fun o => absurd o.2 (Int32.not_lt.mpr c3))]; exact ⟨a2, a3⟩
        · rw [un, if_neg c, if_neg c1, if_pos ⟨c2, Int32.not_le.mp c3⟩]
theorem tbl_loop (hI : okR r) {N w : Nat} (eN : rN r = N) (hN : N ≤ 6) (h1N : 1 ≤ N) (hw : w ≤ 18) (h : ∀ m', Fr FS mem m' → m' 1 1 = (fsS r N w (4 ^ N)).1 → m' 1 2 = (fsS r N w (4 ^ N)).2.1 → m' 1 3 = (fsS r N w (4 ^ N)).2.2 → Q m') : ∀ (f k : Nat) (m : wf_Mem), 28 - k ≤ f → k ≤ 28 → Fr FS mem m → Rel 75 m r → (∀ i, i < k → m 2 i = LV r (i / 7) (i % 7)) → Vw (Nv (d + 5) Q) mX1_runOn 2 [(0, .ref 1), (1, .ref 75), (2, .int (nI w)), (3, .int (nI k))] [] m
  | f, k, m, hf, hk, ho, hR, hT => by
    obtain ⟨hn, hn2⟩ := hI.n
    have ec : (28 ≤ nI k) ↔ 28 ≤ k := nI_leI (a := 28) (by decide) (by omega)
    refine b_X1_runOn_2 _ _ sh75 _ _ ?_
    rw [ec]
    refine ⟨fun g m2 f2 z ez => ?_, fun g => ?_⟩
    · have o2 : ∀ a, a ≠ 1 → m2 a = m a := fun a ha => by rw [f2, wf_ms_other _ _ _ _ ha]
      have e0 : m2 (75 + 1) 0 = nI N := by rw [o2 _ (by decide), hR.1.1, hn, eN]
      have ez' : z = nI N := by
        rw [ez, e0]
        have : ((6 : Int32) < nI N) ↔ 6 < N := nI_ltI (a := 6) (by decide) (by omega)
        rw [if_neg (fun c => absurd (this.mp c) (by omega))]
      rw [ez']
      have R2 : Rel 75 m2 r := hR.go hI (fun a ha => o2 a (by unfold RdC at ha; omega))
      rw [← self_ld hI eN] at R2
      exact code_loop hI eN hN h1N hw h (4 ^ N) 0 m2 _ (Nat.sub_le _ _) (Nat.zero_le _) (by rw [f2]; exact ho.tr (Fr.ms (by unfold FS; omega))) R2 (fun i hi => by rw [o2 2 (by decide)]; exact hT i (by omega)) (by rw [f2, msS]; rfl) (fun c => by omega)
    · have e1 : nI k / 7 = nI (k / 7) := pk_div (d := 7) (by omega) (by decide) (by decide)
      have e2 : nI k - nI k / 7 * 7 = nI (k % 7) := pk_rem (d := 7) (by omega) (by decide) (by decide)
      rw [e2, e1, nI_clamp (by omega), show nI k + 1 = nI (k + 1) from nI_1 k]
      refine k_lightBy sh75 hI hR _ _ (fun m1 f1 => ⟨vin (by omega), fun m2 f2 => ?_⟩)
      have o2 : ∀ a, a ≠ 2 → a ≠ 9 → m2 a = m a := fun a h1 h2 => by rw [f2, wf_ms_other _ _ _ _ h1, f1 a (by unfold S9; omega)]
      cases f with
      | zero => omega
      | succ f =>
        refine tbl_loop hI eN hN h1N hw h f (k + 1) m2 (by omega) (by omega) (ho.tr (fun a ha => o2 a (fun c => ha (by subst c; unfold FS; omega)) (fun c => ha (by subst c; unfold FS; omega)))) (hR.go hI (fun a ha => o2 a (by unfold RdC at ha; omega) (by unfold RdC at ha; omega))) (fun i hi => ?_)
        rw [f2]
        by_cases e : i = k
        · rw [e, msS]; rfl
        · rw [msK _ _ _ _ e, f1 2 (by unfold S9; omega)]; exact hT i (by omega)
end OPU
