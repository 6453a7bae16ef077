/-! fires, whole -/
def fiV (r : Rw) (N w j : Nat) : Int32 := if j = 0 then (fsS r N w (4 ^ N)).1 else if j = 1 then (fsS r N w (4 ^ N)).2.1 else (fsS r N w (4 ^ N)).2.2
theorem fsS_ge {r : Rw} (hI : okR r) {N w : Nat} (eN : rN r = N) (hN : N ≤ 6) : ∀ k, -1 ≤ (fsS r N w k).1
  | 0 => by show (-1 : Int32) ≤ -1; decide
  | k + 1 => by
    have ih := fsS_ge hI (w := w) eN hN k
    have eq : rN (ldR r N (dg N k)) = N := by rw [(ld_sm r hN _).N]; exact eN
    obtain ⟨v, hv, ev⟩ := lsM_bd (ld_ok hI eN hN (dg_lt N k)) N (by rw [eq]; exact Nat.le_refl _)
    have p : (-1 : Int32) ≤ lsM (ldR r N (dg N k)) N := by
      rw [ev]
      have : (0 : Int32) ≤ nI v := nI_pos' (by omega)
      grind
    unfold fsS
    split
    · exact ih
    · split
      · exact p
      · split
        · exact p
        · exact ih
section OPV
variable {d : Nat} {mem : wf_Mem} {P : Int32 → wf_Mem → Prop} {Q : wf_Mem → Prop} {r : Rw}
theorem fires_loop (hI : okR r) {N w j : Nat} (eN : rN r = N) (hN : N ≤ 6) (h1N : 1 ≤ N) (hw : w ≤ 18) (hj : j ≤ 2) (h : ∀ m', RO mem m' → m' 121 = r → P (fiV r N w j) m') : ∀ (f k : Nat) (m : wf_Mem), 4 ^ N - k ≤ f → k ≤ 4 ^ N → RO mem m → (∀ j, j < 88 → m 132 j = r j) → (∀ j, ¬ (13 ≤ j ∧ j < 13 + 3 * N ∧ (j - 13) % 3 = 0) → m 121 j = r j) → Vw (Ni (d + 5) P) mX9_fires 65 [(0, .ref 120), (1, .int (nI w)), (2, .int (nI j)), (3, .int (fsS r N w k).2.2), (4, .int (fsS r N w k).1), (5, .int (fsS r N w k).2.1), (6, .int (nI k))] [] m
  | f, k, m, hf, hk, ho, hb, hr => by
    obtain ⟨hn, hn2⟩ := hI.n
    have p := p4_le hN
    have e0 : m 121 0 = nI N := by rw [hr 0 (by omega), hn, eN]
    have ec : (nI (4 ^ N) ≤ nI k) ↔ 4 ^ N ≤ k := nI_leI (by omega) (by omega)
    have j0 : (nI j = 0) ↔ j = 0 := nI_eq (b := 0) (by omega) (by decide)
    have j1 : (nI j = 1) ↔ j = 1 := nI_eq (b := 1) (by omega) (by decide)
    refine b_X9_fires_65 _ _ _ _ _ _ _ ?_
    rw [e0, p4 hN, ec, j0, j1]
    refine ⟨fun g => c_laysBack (r := r) hb (fun j hj => hr j (by omega)) (fun m2 o2 e2 _ => ?_), fun g => ?_⟩
    · have ek : k = 4 ^ N := by omega
      have h' := h m2 (ho.tr o2) e2
      unfold fiV at h'
      rw [ek]
      refine ⟨fun c => ⟨fun c1 => ?_, fun c1 => ?_⟩, fun c => ?_⟩
      · rw [if_neg c, if_neg c1] at h'; exact h'
      · rw [if_neg c, if_pos c1] at h'; exact h'
      · rw [if_pos c] at h'; exact h'
    · have lay : ∀ P' : Int32 → wf_Mem → Prop, (∀ m', RO m m' → m' 132 = m 132 → m' 121 = ldR r N (dg N k) → P' (nI (suU (dg N k) N)) m') → Ci mX9_laysFires (d + 4) [.ref 120, .int (nI k)] m P' := fun P' hP =>
        E_X9_laysFires _ (lay_loopF (mem := m) hI eN hN h1N (by omega) hP N 0 m (Nat.sub_le _ _) (Nat.zero_le _) RO.rf rfl hr (fun i hi => by omega))
      refine lay _ (fun m1 o1 q1 e1 => ?_)
      have sb := suU_bd (dg_lt N k) N
      have ew : (nI (suU (dg N k) N) ≤ nI w) ↔ suU (dg N k) N ≤ w := nI_leI (by omega) (by omega)
      have okq := ld_ok hI eN hN (dg_lt N k)
      have eq : rN (ldR r N (dg N k)) = N := by rw [(ld_sm r hN _).N]; exact eN
      obtain ⟨v, hv, ev⟩ := lsM_bd okq N (by rw [eq]; exact Nat.le_refl _)
      have un : fsS r N w (k + 1) = if w < suU (dg N k) N then fsS r N w k else
        if (fsS r N w k).1 < lsM (ldR r N (dg N k)) N then (lsM (ldR r N (dg N k)) N, nI (suU (dg N k) N), nI k)
        else if lsM (ldR r N (dg N k)) N = (fsS r N w k).1 ∧ nI (suU (dg N k) N) < (fsS r N w k).2.1 then (lsM (ldR r N (dg N k)) N, nI (suU (dg N k) N), nI k) else fsS r N w k := rfl
      have nx : ∀ m2, sc m1 m2 → Vw (Ni (d + 5) P) mX9_fires 65 [(0, .ref 120), (1, .int (nI w)), (2, .int (nI j)), (3, .int (fsS r N w (k + 1)).2.2), (4, .int (fsS r N w (k + 1)).1), (5, .int (fsS r N w (k + 1)).2.1), (6, .int (nI k + 1))] [] m2 := fun m2 s2 => by
        rw [show nI k + 1 = nI (k + 1) from nI_1 k]
        cases f with
        | zero => omega
        | succ f =>
          refine fires_loop hI eN hN h1N hw hj h f (k + 1) m2 (by omega) (by omega) (ho.tr (o1.tr s2.ro)) (fun j hj => ?_) (fun j hj => ?_)
          · rw [s2 132 (by decide) (by decide), q1]; exact hb j hj
          · rw [s2.s, e1]; exact ld_o r _ hj
      rw [ew]
      refine ⟨fun c => E_X9_leastLight ?_, fun c => ?_⟩
      · refine leastF_loop (d := d + 1) (mem := m1) okq (by omega) (fun m2 s2 => ?_) 6 0 m1 (by omega) (by omega) sc.rf e1
        have nx' := nx m2 s2
        rw [un, if_neg (by omega)] at nx'
        rw [eq]
        refine b_X9_fires_102 _ _ _ _ _ _ _ _ _ ⟨fun c1 => ?_, fun c1 => ⟨fun c2 => ?_, fun c2 => ⟨fun c3 => ?_, fun c3 => ⟨fun c4 => ?_, fun c4 => ?_⟩⟩⟩⟩
        · rw [if_pos c1] at nx'; exact nx'
        · rw [ev] at c2; exact absurd c2 (Int32.not_lt.mpr (nI_pos' (by omega)))
        · rw [if_neg c1, if_neg (fun o => c3 o.1)] at nx'; exact nx'
        · rw [if_neg c1, if_neg (fun o => absurd o.2 (Int32.not_lt.mpr c4))] at nx'; exact nx'
        · rw [if_neg c1, if_pos ⟨c3, Int32.not_le.mp c4⟩] at nx'; exact nx'
      · have nx' := nx m1 sc.rf
        rw [un, if_pos (by omega)] at nx'
        refine b_X9_fires_102 _ _ _ _ _ _ _ _ _ ⟨fun c1 => absurd c1 (Int32.not_lt.mpr (fsS_ge hI eN hN k)), fun c1 => ⟨fun _ => nx', fun c2 => absurd (by decide) c2⟩⟩
def gFi (x y : Int32) : Prop := (0 ≤ x ∧ x ≤ 18) ∧ 0 ≤ y ∧ y ≤ 2
theorem R_fires (hr : mem 121 = r) (hI : okR r) (x y : Int32) (h1 : ∀ w j, w ≤ 18 → j ≤ 2 → x = nI w → y = nI j → 1 ≤ rN r → rN r ≤ 6 → ∀ m', RO mem m' → m' 121 = r → P (fiV r (rN r) w j) m') (hN : gFi x y → ¬ (1 ≤ rN r ∧ rN r ≤ 6) → P (-1000000005) mem) (h0 : ¬ gFi x y → P (-1000000001) mem) : Ci mX9_fires (d + 6) [.ref 120, .int x, .int y] mem P := by
  obtain ⟨hn, hn2⟩ := hI.n
  refine E_X9_fires _ _ (c_isIn x 0 18 rfl rfl (fun a1 a2 => z1 (c_isIn y 0 2 rfl rfl (fun b1 b2 => n1 ?_) (fun bad => n0 (h0 (fun g => bad g.2))))) (fun bad => z0 (h0 (fun g => bad g.1))))
  obtain ⟨w, hw, ew⟩ := nI_bd (m := 18) a1 a2 (by decide)
  obtain ⟨j, hj, ej⟩ := nI_bd (m := 2) b1 b2 (by decide)
  have gg : gFi x y := ⟨⟨a1, a2⟩, b1, b2⟩
  have e0 : (nI (rN r) = 0) ↔ rN r = 0 := nI_eq (b := 0) (by omega) (by decide)
  have e6 : (nI (rN r) ≤ 6) ↔ rN r ≤ 6 := nI_leI (b := 6) (by omega) (by decide)
  rw [hr, hn, e0, e6]
  refine ⟨fun c => hN gg (by omega), fun c => ⟨fun c6 => c_laysBy hr (fun m1 o1 e1 k1 => ?_), fun c6 => hN gg (by omega)⟩⟩
  have h := h1 w j hw hj ew ej (by omega) c6
  rw [ew, ej]
  exact fires_loop (d := d + 1) (mem := mem) hI rfl c6 (by omega) hw hj h (4 ^ rN r) 0 m1 (Nat.sub_le _ _) (Nat.zero_le _) o1 k1 (fun j _ => by rw [e1])
theorem L_fires (hI : INV mem) (x y : Int32) : Agr (d + 20) mX8_fires mX9_fires [.int x, .int y] mem := by
  obtain ⟨hO, hB, hR⟩ := hI.1
  obtain ⟨hn, hn2⟩ := hO.n
  have hm : mem 42 0 = nI (rN (mem 121)) := hR.1.1.trans hn
  have bad : ¬ gFi x y → Ci mX9_fires (d + 20) [.ref 120, .int x, .int y] mem (fun r2 m2 => -1000000001 = r2 ∧ INV m2) := fun hb =>
    R_fires rfl hO x y (fun w j h2 h3 ex ey => absurd ⟨⟨by rw [ex]; exact nI_pos' (by omega), by rw [ex]; exact nI_le (b := 18) h2 (by decide)⟩, by rw [ey]; exact nI_pos' (by omega), by rw [ey]; exact nI_le (b := 2) h3 (by decide)⟩ hb) (fun g => absurd g hb) (fun _ => ⟨rfl, hI⟩)
  refine E_X8_fires _ _ (k_within x 0 18 (fun a1 a2 => z1 (k_within y 0 2 (fun b1 b2 => n1 (k_within _ 1 6 (fun c1 c2 => n1 ?_) (fun bad' => n0 ?_))) (fun b => n0 (bad (fun g => b g.2))))) (fun b => z0 (bad (fun g => b g.1))))
  · obtain ⟨w, hw, ew⟩ := nI_bd (m := 18) a1 a2 (by decide)
    obtain ⟨j, hj, ej⟩ := nI_bd (m := 2) b1 b2 (by decide)
    have gg : gFi x y := ⟨⟨a1, a2⟩, b1, b2⟩
    rw [hm] at c1 c2
    have n1' : 1 ≤ rN (mem 121) := (nI_leI (a := 1) (by decide) (by omega)).mp c1
    have n6 : rN (mem 121) ≤ 6 := (nI_leI (b := 6) (by omega) (by decide)).mp c2
    refine k_takeFrom sh75 sh41 (by decide) hO hR (fun m1 f1 R1 => ?_)
    have q0 : (y = 0) ↔ j = 0 := by rw [ej]; exact nI_eq (b := 0) (by omega) (by decide)
    have q1 : (y = 1) ↔ j = 1 := by rw [ej]; exact nI_eq (b := 1) (by omega) (by decide)
    rw [ew, q0, q1]
    refine E_X1_runOn _ sh75 _ (tbl_loop (mem := m1) (d := d + 14) hO rfl n6 n1' hw (fun m2 f2 v1 v2 v3 => ?_) 28 0 m1 (by omega) (by omega) Fr.rf R1 (fun i hi => by omega))
    have hF : Fr CO mem m2 := (CO.d75 f1).tr (f2.to (fun a ha => by unfold FS at ha; unfold CO; omega))
    have R2 : Rel 41 m2 (mem 121) := (keep_d hO hR f1).keep hO f2 (fun a ha => by unfold FS at ha; omega)
    rw [ew] at gg
    have fin : ∀ v : Int32, v = fiV (mem 121) (rN (mem 121)) w j → Ci mX9_fires (d + 20) [.ref 120, .int (nI w), .int y] m2 (fun r2 m2 => v = r2 ∧ INV m2) := fun v ev => by
      refine R_fires (CO.ref hF (by decide)) hO _ y (fun w' j' u1 u2 u3 u4 _ _ m' ro em => ?_) (fun _ b' => absurd ⟨n1', n6⟩ b') (fun b' => absurd gg b')
      have e1 : w' = w := (nI_eq (by omega) (by omega)).mp u3.symm
      have e2 : j' = j := (nI_eq (by omega) (by omega)).mp (u4.symm.trans ej)
      subst e1 e2
      exact ⟨ev, hI.rd hF ro R2 em⟩
    refine ⟨fun c => fin _ ?_, fun c => ⟨fun c' => fin _ ?_, fun c' => fin _ ?_⟩⟩
    · unfold fiV; rw [if_pos c]; exact v1
    · unfold fiV; rw [if_neg c, if_pos c']; exact v2
    · unfold fiV; rw [if_neg c, if_neg c']; exact v3
  · refine R_fires rfl hO x y (fun w j _ _ _ _ u1 u2 => absurd ⟨?_, ?_⟩ bad') (fun _ _ => ⟨rfl, hI⟩) (fun b' => absurd ⟨⟨a1, a2⟩, b1, b2⟩ b')
    · rw [hm]; exact nI_le (a := 1) u1 (by omega)
    · rw [hm]; exact nI_le (b := 6) u2 (by decide)
end OPV
