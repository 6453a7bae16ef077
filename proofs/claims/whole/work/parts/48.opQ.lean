/-! lay -/
section OPQ
variable {d : Nat} {mem : wf_Mem} {P : Int32 → wf_Mem → Prop} {Q : wf_Mem → Prop} {r : Rw}
theorem lay_loop {i c : Nat} (hi : i < 5) (hc : c < 4) (v : Int32) (h : ∀ m', Fr (fun a => a = 131) mem m' → (∀ j, j < 24 → m' 131 (24 * i + j) = mem 126 (24 * c + j)) → (∀ j, (j < 24 * i ∨ 24 * i + 24 ≤ j) → m' 131 j = mem 131 j) → P v m') : ∀ (f k : Nat) (m : wf_Mem), 24 - k ≤ f → k ≤ 24 → Fr (fun a => a = 131) mem m → (∀ j, j < k → m 131 (24 * i + j) = mem 126 (24 * c + j)) → (∀ j, (j < 24 * i ∨ 24 * i + 24 ≤ j) → m 131 j = mem 131 j) → Vw (Ni (d + 1) P) mX9_lay 150 [(0, .ref 120), (1, .int (nI i)), (3, .int (nI c)), (5, .int v), (6, .int (nI k))] [] m
  | f, k, m, hf, hk, ho, hj, hh => by
    have ec : (24 ≤ nI k) ↔ 24 ≤ k := nI_leI (a := 24) (by decide) (by omega)
    refine b_X9_lay_150 _ _ _ _ _ ?_
    rw [ec, ix24, ix24, nI_clamp (by omega), nI_clamp (by omega)]
    refine ⟨fun g => h m ho (fun j q => hj j (by omega)) hh, fun g => ⟨vin (by omega), vin (by omega), fun m2 f2 => ?_⟩⟩
    rw [ho 126 (by decide)] at f2
    rw [show nI k + 1 = nI (k + 1) from nI_1 k]
    cases f with
    | zero => omega
    | succ f =>
      refine lay_loop hi hc v h f (k + 1) m2 (by omega) (by omega) (by rw [f2]; exact ho.tr (Fr.ms rfl)) (fun j hj2 => ?_) (fun j hj2 => by rw [f2, msK _ _ _ _ (by omega)]; exact hh j hj2)
      rw [f2]
      by_cases e : j = k
      · rw [e, msS]
      · rw [msK _ _ _ _ (by omega)]; exact hj j (by omega)
/-- the reference lays a number or nothing -/
theorem lay_n {i : Nat} (hi : i < 5) (y z : Int32) (h1 : ¬ y = 1) (h2 : ¬ y = 2) (h : P (mem 127 i) (wf_ms (wf_ms (wf_ms mem 127 i y) 128 i z) 129 i 0)) : Vw (Ni (d + 3) P) mX9_lay 74 [(0, .ref 120), (1, .int (nI i)), (2, .int y), (3, .int z)] [] mem := by
  refine b_X9_lay_74 _ _ _ _ ?_
  rw [nI_clamp (by omega)]
  refine ⟨vin hi, fun v ev => ⟨vin hi, fun m1 f1 => ⟨fun _ => b_X9_lay_109 _ _ _ _ _ _ _ ?_, fun c => absurd c h1⟩⟩⟩
  rw [nI_clamp (by omega)]
  refine ⟨vin hi, fun m2 f2 => ⟨fun _ => b_X9_lay_129 _ _ _ _ _ _ _ ?_, fun c => absurd c h1⟩⟩
  rw [nI_clamp (by omega)]
  refine ⟨vin hi, fun m3 f3 => ⟨fun _ => ?_, fun c => absurd c h2⟩⟩
  rw [f3, f2, f1, ev]; exact h
theorem lay_w {i w : Nat} (hi : i < 5) (hw : w < 8) (h : P (mem 127 i) (wf_ms (wf_ms (wf_ms mem 127 i 1) 128 i (mem 121 (48 + 5 * w))) 129 i (wtR (mem 121 (48 + 5 * w)) (mem 121 (48 + 5 * w + 2))))) : Vw (Ni (d + 3) P) mX9_lay 74 [(0, .ref 120), (1, .int (nI i)), (2, .int 1), (3, .int (nI w))] [] mem := by
  refine b_X9_lay_74 _ _ _ _ ?_
  rw [nI_clamp (by omega)]
  refine ⟨vin hi, fun v ev => ⟨vin hi, fun m1 f1 => ⟨fun c => absurd rfl c, fun _ => c_of w 0 (by omega) (b_X9_lay_109 _ _ _ _ _ _ _ ?_)⟩⟩⟩
  rw [nI_clamp (by omega)]
  refine ⟨vin hi, fun m2 f2 => ⟨fun c => absurd rfl c, fun _ => c_worth (by omega) (b_X9_lay_129 _ _ _ _ _ _ _ ?_)⟩⟩
  rw [nI_clamp (by omega)]
  refine ⟨vin hi, fun m3 f3 => ⟨fun _ => ?_, fun c => absurd c (by decide)⟩⟩
  have e2 : m2 121 = mem 121 := by rw [f2, wf_ms_other _ _ _ _ (by decide), f1, wf_ms_other _ _ _ _ (by decide)]
  have e1 : m1 121 = mem 121 := by rw [f1, wf_ms_other _ _ _ _ (by decide)]
  rw [e2] at f3
  rw [e1] at f2
  rw [f3, f2, f1, ev]; exact h
theorem lay_s {i c : Nat} (hi : i < 5) (hc : c < 4) (h : ∀ m', Fr (fun a => a = 131) (wf_ms (wf_ms (wf_ms (wf_ms mem 127 i 2) 128 i (nI c)) 129 i 0) 130 i (mem 125 c)) m' → (∀ j, j < 24 → m' 131 (24 * i + j) = mem 126 (24 * c + j)) → (∀ j, (j < 24 * i ∨ 24 * i + 24 ≤ j) → m' 131 j = mem 131 j) → P (mem 127 i) m') : Vw (Ni (d + 3) P) mX9_lay 74 [(0, .ref 120), (1, .int (nI i)), (2, .int 2), (3, .int (nI c))] [] mem := by
  refine b_X9_lay_74 _ _ _ _ ?_
  rw [nI_clamp (by omega)]
  refine ⟨vin hi, fun v ev => ⟨vin hi, fun m1 f1 => ⟨fun _ => b_X9_lay_109 _ _ _ _ _ _ _ ?_, fun c => absurd c (by decide)⟩⟩⟩
  rw [nI_clamp (by omega)]
  refine ⟨vin hi, fun m2 f2 => ⟨fun _ => b_X9_lay_129 _ _ _ _ _ _ _ ?_, fun c => absurd c (by decide)⟩⟩
  rw [nI_clamp (by omega), nI_clamp (by omega)]
  refine ⟨vin hi, fun m3 f3 => ⟨fun c => absurd rfl c, fun _ => ⟨vin hc, vin hi, fun m4 f4 => ?_⟩⟩⟩
  have e3 : m3 125 = mem 125 := by rw [f3, wf_ms_other _ _ _ _ (by decide), f2, wf_ms_other _ _ _ _ (by decide), f1, wf_ms_other _ _ _ _ (by decide)]
  rw [e3] at f4
  have e4 : ∀ a, a ≠ 127 → a ≠ 128 → a ≠ 129 → a ≠ 130 → m4 a = mem a := fun a q1 q2 q3 q4 => by rw [f4, wf_ms_other _ _ _ _ q4, f3, wf_ms_other _ _ _ _ q3, f2, wf_ms_other _ _ _ _ q2, f1, wf_ms_other _ _ _ _ q1]
  refine lay_loop (mem := m4) (d := d + 2) hi hc v (fun m5 f5 g1 g2 => ?_) 24 0 m4 (by omega) (by omega) Fr.rf (fun j hj => by omega) (fun _ _ => rfl)
  rw [ev]
  refine h m5 (by rw [← f1, ← f2, ← f3, ← f4]; exact f5) (fun j hj => ?_) (fun j hj => ?_)
  · rw [g1 j hj, e4 126 (by decide) (by decide) (by decide) (by decide)]
  · rw [g2 j hj, e4 131 (by decide) (by decide) (by decide) (by decide)]
/-- the reference's tests -/
theorem lay_0 (m : wf_Mem) (x y z : Int32) (n : Nat) (hn : m 121 1 = nI n) (hn2 : n ≤ 8) (hs : ∀ c, c < 4 → (m 124 c = -1 ∨ m 124 c = 0 ∨ m 124 c = 1)) (h1 : ∀ i, i < 5 → x = nI i → (y = 0 ∨ y = 3 ∨ (y = 1 ∧ ∃ w, w < n ∧ z = nI w) ∨ (y = 2 ∧ ∃ c, c < 4 ∧ z = nI c ∧ ¬ m 124 c = -1)) → Vw (Ni (d + 4) P) mX9_lay 74 [(0, .ref 120), (1, .int x), (2, .int y), (3, .int z)] [] m) (hN : ∀ i c, i < 5 → x = nI i → y = 2 → c < 4 → z = nI c → m 124 c = -1 → P (-1000000011) m) (h0 : ¬ ((∃ i, i < 5 ∧ x = nI i) ∧ (y = 0 ∨ y = 3 ∨ (y = 1 ∧ ∃ w, w < n ∧ z = nI w) ∨ (y = 2 ∧ ∃ c, c < 4 ∧ z = nI c))) → P (-1000000001) m) : Ci mX9_lay (d + 4) [.ref 120, .int x, .int y, .int z] m P := by
  have no : ¬ (y = 0 ∨ y = 3 ∨ (y = 1 ∧ ∃ w, w < n ∧ z = nI w) ∨ (y = 2 ∧ ∃ c, c < 4 ∧ z = nI c)) → Vw (Ni (d + 4) P) mX9_lay 39 [(0, .ref 120), (1, .int x), (2, .int y), (3, .int z)] [.int 0] m := fun g =>
    b_X9_lay_39 _ _ _ _ _ (c_isSlot x (fun i hi ei => z1 (n0 (h0 (fun q => g q.2)))) (fun b => z0 (h0 (fun q => b q.1))))
  have yes : (y = 0 ∨ y = 3 ∨ (y = 1 ∧ ∃ w, w < n ∧ z = nI w) ∨ (y = 2 ∧ ∃ c, c < 4 ∧ z = nI c)) → Vw (Ni (d + 4) P) mX9_lay 39 [(0, .ref 120), (1, .int x), (2, .int y), (3, .int z)] [.int 1] m := fun g => by
    refine b_X9_lay_39 _ _ _ _ _ (c_isSlot x (fun i hi ei => z1 (n1 ⟨fun c => ?_, fun c => ?_⟩)) (fun b => z0 (h0 (fun q => b q.1))))
    · rcases g with g | g | g | g
      · exact h1 i hi ei (Or.inl g)
      · exact h1 i hi ei (Or.inr (Or.inl g))
      · exact h1 i hi ei (Or.inr (Or.inr (Or.inl g)))
      · exact absurd g.1 c
    · have g' : ∃ c, c < 4 ∧ z = nI c := by
        rcases g with g | g | g | g
        · exact absurd (g.symm.trans c) (by decide)
        · exact absurd (g.symm.trans c) (by decide)
        · exact absurd (g.1.symm.trans c) (by decide)
        · exact g.2
      obtain ⟨k, hk, ek⟩ := g'
      have ez : z.toNatClampNeg = k := by rw [ek, nI_clamp (by omega)]
      rw [ez, srt (hs k hk)]
      refine ⟨by rw [ek]; exact vin hk, fun q => h1 i hi ei (Or.inr (Or.inr (Or.inr ⟨c, k, hk, ek, q⟩))), fun q => hN i k hi ei c hk ek (Decidable.not_not.mp q)⟩
  have m22 : ¬ y = 0 → ¬ y = 3 → (¬ (y = 1 ∧ ∃ w, w < n ∧ z = nI w)) → Vw (Ni (d + 4) P) mX9_lay 22 [(0, .ref 120), (1, .int x), (2, .int y), (3, .int z)] [] m := fun g0 g3 g1 =>
    b_X9_lay_22 _ _ _ _ ⟨fun c => no (fun o => o.elim g0 (fun o => o.elim g3 (fun o => o.elim g1 (fun o => c o.1)))), fun c => c_isSheet z (fun k hk ek => z1 (yes (Or.inr (Or.inr (Or.inr ⟨c, k, hk, ek⟩))))) (fun b => z0 (no (fun o => o.elim g0 (fun o => o.elim g3 (fun o => o.elim g1 (fun o => b o.2))))))⟩
  refine E_X9_lay _ _ _ ⟨fun c0 => yes (Or.inl c0), fun c0 => ⟨fun c3 => yes (Or.inr (Or.inl c3)), fun c3 => ⟨fun c1 => m22 c0 c3 (fun q => c1 q.1), fun c1 => c_isWatcher n z hn (by omega) (fun w hw ew => n1 (yes (Or.inr (Or.inr (Or.inl ⟨c1, w, hw, ew⟩))))) (fun b => n0 (m22 c0 c3 (fun q => b q.2)))⟩⟩⟩
/-- only one slot has changed -/
theorem slots_fin {m m' : wf_Mem} (hI : INV m) {i : Nat} (hi : i < 5) (f1 : ∀ a, (a < 100 + 4 * i ∨ 100 + 4 * i + 4 ≤ a) → (a < 127 ∨ 131 < a) → m' a = m a) (f2 : ∀ k, k ≠ i → m' 127 k = m 127 k ∧ m' 128 k = m 128 k ∧ m' 129 k = m 129 k ∧ m' 130 k = m 130 k) (f3 : ∀ j, (j < 24 * i ∨ 24 * i + 24 ≤ j) → m' 131 j = m 131 j) (h : slI m' i) : INV m' := by
  refine hI.slots (fun a ha => f1 a (by unfold SLc at ha; omega) (by unfold SLc at ha; omega)) (fun k hk => ?_)
  by_cases e : k = i
  · rw [e]; exact h
  · obtain ⟨g1, g2, g3, g4⟩ := f2 k e
    exact (hI.2.2.2.1 k hk).fr g1 g2 g3 g4 (fun j hj => f3 _ (by omega)) (fun q hq => f1 _ (by omega) (by omega))
theorem k_sTake {q0 q1 n : Nat} (h0 : wf_sh q0 = (4, 0)) (h1 : wf_sh q1 = (4, 0)) (ha : q0 ≠ q1) (hb : q0 + 1 ≠ q1) (hc : q1 + 1 ≠ q0) (hv : mem q1 1 = nI n) (hn : n ≤ 24) (h : ∀ m', Fr (fun a => a = q0 ∨ a = q0 + 1) mem m' → m' q0 1 = nI n → (∀ j, j < n → m' (q0 + 1) j = mem (q1 + 1) j) → Q m') : Cv mX4_takeFrom (d + 1) [.ref q0, .ref q1] mem Q := by
  refine E_X4_takeFrom _ h0 _ h1 (fun m1 f1 m2 f2 => ?_)
  have e1 : m1 q1 1 = nI n := by rw [f1, msA _ _ _ _ (Ne.symm ha)]; exact hv
  rw [e1] at f2
  have e2 : m2 q0 1 = nI n := by rw [f2, msS]
  rw [e2, nI_clamp (by omega)]
  refine ⟨⟨by decide, by decide, Int32.not_lt.mpr (nI_pos' (by omega)), by show 0 + n ≤ 24; omega, by show 0 + n ≤ 24; omega⟩, fun m3 f3 => ?_⟩
  have f3' : m3 = wf_mc m2 (q1 + 1) 0 (q0 + 1) 0 n := f3
  refine h m3 (fun a ha' => ?_) ?_ (fun j hj => ?_)
  · rw [f3', wf_mc_other _ _ _ _ _ _ (fun e => ha' (Or.inr e)), f2, wf_ms_other _ _ _ _ (fun e => ha' (Or.inl e)), f1, wf_ms_other _ _ _ _ (fun e => ha' (Or.inl e))]
  · rw [f3', mcA _ _ _ _ (by omega)]; exact e2
  · rw [f3', mcS _ _ _ _ hj, f2, msA _ _ _ _ (by omega), f1, msA _ _ _ _ (by omega)]
theorem L_lay (hI : INV mem) (x y z : Int32) : Agr (d + 20) mX8_lay mX9_lay [.int x, .int y, .int z] mem := by
  obtain ⟨hO, hB, hR⟩ := hI.1
  obtain ⟨hw, hw2⟩ := hO.w
  have hsh := hI.2.2.1
  have hsl := hI.2.2.2.1
  have hm : mem 41 2 = nI (rW (mem 121)) := hR.1.2.1.trans hw
  have hs : ∀ c, c < 4 → (mem 124 c = -1 ∨ mem 124 c = 0 ∨ mem 124 c = 1) := fun c hc => (hsh c hc).2.1
  have bad : ¬ ((∃ i, i < 5 ∧ x = nI i) ∧ (y = 0 ∨ y = 3 ∨ (y = 1 ∧ ∃ w, w < rW (mem 121) ∧ z = nI w) ∨ (y = 2 ∧ ∃ c, c < 4 ∧ z = nI c))) → Ci mX9_lay (d + 20) [.ref 120, .int x, .int y, .int z] mem (fun r2 m2 => -1000000001 = r2 ∧ INV m2) := fun hb =>
    lay_0 (d := d + 16) mem x y z _ hw hw2 hs (fun i hi ei g => absurd ⟨⟨i, hi, ei⟩, g.elim Or.inl (fun g => Or.inr (g.elim Or.inl (fun g => Or.inr (g.elim Or.inl (fun ⟨g, c, hc, ec, _⟩ => Or.inr ⟨g, c, hc, ec⟩)))))⟩ hb) (fun i c hi ei g hc ec _ => absurd ⟨⟨i, hi, ei⟩, Or.inr (Or.inr (Or.inr ⟨g, c, hc, ec⟩))⟩ hb) (fun _ => ⟨rfl, hI⟩)
  refine E_X8_lay _ _ _ (k_isSlot x (fun i hi ei => z1 (k_within y 0 3 (fun a b => n1 ?_) (fun b => n0 (bad (fun g => b ?_))))) (fun b => z0 (bad (fun g => b g.1))))
  · obtain ⟨t, ht, et⟩ := nI_bd (m := 3) a b (by decide)
    have ex : x.toNatClampNeg = i := by rw [ei, nI_clamp (by omega)]
    have vx : vp_in x 5 := by rw [ei]; exact vin hi
    obtain ⟨s1, s2, s3, s4, s5⟩ := hsl i hi
    have c71 : (y = 0 ∨ y = 3 ∨ (y = 1 ∧ ∃ w, w < rW (mem 121) ∧ z = nI w) ∨ (y = 2 ∧ ∃ c, c < 4 ∧ z = nI c ∧ ¬ mem 124 c = -1)) → Vw (Ni (d + 20) (fun r m1 => Ci mX9_lay (d + 20) [.ref 120, .int x, .int y, .int z] m1 (fun r2 m2 => r = r2 ∧ INV m2))) mX8_lay 71 [(0, .ref 0), (1, .int x), (2, .int y), (3, .int z)] [] mem := fun g => by
      refine b_X8_lay_71 _ _ _ _ ?_
      rw [ex]
      refine ⟨vx, fun v ev m1 f1 => ?_⟩
      have ref : ∀ (m : wf_Mem) (R : Int32 → wf_Mem → Prop), (∀ a, a < 100 ∨ 120 ≤ a → m a = mem a) → Vw (Ni (d + 20) R) mX9_lay 74 [(0, .ref 120), (1, .int x), (2, .int y), (3, .int z)] [] m → Ci mX9_lay (d + 20) [.ref 120, .int x, .int y, .int z] m R := fun m R q h => by
        refine lay_0 (d := d + 16) m x y z _ (by rw [q 121 (by omega)]; exact hw) hw2 (by rw [q 124 (by omega)]; exact hs) (fun _ _ _ _ => h) (fun i' c _ _ gy hc ec gc => ?_) (fun hb => absurd ⟨⟨i, hi, ei⟩, g.elim Or.inl (fun g => Or.inr (g.elim Or.inl (fun g => Or.inr (g.elim Or.inl (fun ⟨g, c, hc, ec, _⟩ => Or.inr ⟨g, c, hc, ec⟩)))))⟩ hb)
        exfalso
        rw [q 124 (by omega)] at gc
        rcases g with g | g | g | ⟨g, c', hc', ec', gc'⟩
        · exact absurd (g.symm.trans gy) (by decide)
        · exact absurd (g.symm.trans gy) (by decide)
        · exact absurd (g.1.symm.trans gy) (by decide)
        · have : c' = c := (nI_eq (by omega) (by omega)).mp (ec'.symm.trans ec)
          subst this; exact gc' gc
      have num : (¬ y = 1) → (¬ y = 2) → (y = 0 ∨ y = 3) → ∀ m2, m2 = wf_ms m1 (100 + 4 * i) 1 z → Ci mX9_lay (d + 20) [.ref 120, .int x, .int y, .int z] m2 (fun r2 m2 => v = r2 ∧ INV m2) := fun n1 n2 gy m2 f2 => by
        have o2 : ∀ a, a ≠ 100 + 4 * i → m2 a = mem a := fun a ha => by rw [f2, wf_ms_other _ _ _ _ ha, f1, wf_ms_other _ _ _ _ ha]
        refine ref m2 _ (fun a ha => o2 a (by omega)) ?_
        rw [ei]
        refine lay_n (d := d + 17) hi y z n1 n2 ⟨?_, slots_fin hI hi (fun a h1 h2 => ?_) (fun k hk => ?_) (fun j hj => ?_) ?_⟩
        · rw [ev, s1, o2 127 (by omega)]
        · rw [wf_ms_other _ _ _ _ (by omega), wf_ms_other _ _ _ _ (by omega), wf_ms_other _ _ _ _ (by omega), o2 a (by omega)]
        · refine ⟨?_, ?_, ?_, ?_⟩
          · rw [msA _ _ _ _ (by omega), msA _ _ _ _ (by omega), msK _ _ _ _ hk, o2 127 (by omega)]
          · rw [msA _ _ _ _ (by omega), msK _ _ _ _ hk, msA _ _ _ _ (by omega), o2 128 (by omega)]
          · rw [msK _ _ _ _ hk, msA _ _ _ _ (by omega), msA _ _ _ _ (by omega), o2 129 (by omega)]
          · rw [msA _ _ _ _ (by omega), msA _ _ _ _ (by omega), msA _ _ _ _ (by omega), o2 130 (by omega)]
        · rw [msA _ _ _ _ (by omega), msA _ _ _ _ (by omega), msA _ _ _ _ (by omega), o2 131 (by omega)]
        · have e127 : (wf_ms (wf_ms (wf_ms m2 127 i y) 128 i z) 129 i 0) 127 i = y := by rw [msA _ _ _ _ (by omega), msA _ _ _ _ (by omega), msS]
          have e128 : (wf_ms (wf_ms (wf_ms m2 127 i y) 128 i z) 129 i 0) 128 i = z := by rw [msA _ _ _ _ (by omega), msS]
          have ec : ∀ q, (wf_ms (wf_ms (wf_ms m2 127 i y) 128 i z) 129 i 0) (100 + 4 * i) q = m2 (100 + 4 * i) q := fun q => by rw [msA _ _ _ _ (by omega), msA _ _ _ _ (by omega), msA _ _ _ _ (by omega)]
          unfold slI
          rw [e127, e128, ec, ec]
          refine ⟨?_, ?_, fun _ => ?_, fun c => absurd c n1, fun c => absurd c n2⟩
          · rw [f2, msK _ _ _ _ (by decide), f1, msS]
          · rcases gy with gy | gy
            · exact Or.inl gy
            · exact Or.inr (Or.inr (Or.inr gy))
          · rw [f2, msS]
      refine ⟨fun c1 => ⟨fun c2 m2 f2 => num c1 c2 ?_ m2 f2, fun c2 => ?_⟩, fun c1 => ?_⟩
      · rcases g with g | g | g | g
        · exact Or.inl g
        · exact Or.inr g
        · exact absurd g.1 c1
        · exact absurd g.1 c2
      · have g' : ∃ c, c < 4 ∧ z = nI c := by
          rcases g with g | g | g | ⟨g, c, hc, ec, _⟩
          · exact absurd (g.symm.trans c2) (by decide)
          · exact absurd (g.symm.trans c2) (by decide)
          · exact absurd (g.1.symm.trans c2) (by decide)
          · exact ⟨c, hc, ec⟩
        obtain ⟨c, hc, ec⟩ := g'
        obtain ⟨n, hn, en, en1⟩ := shN (hsh c hc)
        have ez : z.toNatClampNeg = c := by rw [ec, nI_clamp (by omega)]
        rw [ez]
        refine ⟨by rw [ec]; exact vin hc, k_sTake (sh_ss hi) (sh_w hc) (by omega) (by omega) (by omega) (n := n) (by rw [f1, msA _ _ _ _ (by omega)]; exact en1) hn (fun m2 f2 g1 g2 => ?_)⟩
        have o2 : ∀ a, (a < 100 + 4 * i ∨ 100 + 4 * i + 4 ≤ a) → m2 a = mem a := fun a ha => by rw [f2 a (by omega), f1, wf_ms_other _ _ _ _ (by omega)]
        refine ref m2 _ (fun a ha => o2 a (by omega)) ?_
        rw [ei, c2, ec]
        refine lay_s (d := d + 17) hi hc (fun m3 f3 q1 q2 => ⟨?_, slots_fin hI hi (fun a h1 h2 => ?_) (fun k hk => ?_) (fun j hj => ?_) ?_⟩)
        · rw [ev, s1, o2 127 (by omega)]
        · rw [f3 a (by omega), wf_ms_other _ _ _ _ (by omega), wf_ms_other _ _ _ _ (by omega), wf_ms_other _ _ _ _ (by omega), wf_ms_other _ _ _ _ (by omega), o2 a (by omega)]
        · refine ⟨?_, ?_, ?_, ?_⟩
          · rw [f3 127 (by omega), msA _ _ _ _ (by omega), msA _ _ _ _ (by omega), msA _ _ _ _ (by omega), msK _ _ _ _ hk, o2 127 (by omega)]
          · rw [f3 128 (by omega), msA _ _ _ _ (by omega), msA _ _ _ _ (by omega), msK _ _ _ _ hk, msA _ _ _ _ (by omega), o2 128 (by omega)]
          · rw [f3 129 (by omega), msA _ _ _ _ (by omega), msK _ _ _ _ hk, msA _ _ _ _ (by omega), msA _ _ _ _ (by omega), o2 129 (by omega)]
          · rw [f3 130 (by omega), msK _ _ _ _ hk, msA _ _ _ _ (by omega), msA _ _ _ _ (by omega), msA _ _ _ _ (by omega), o2 130 (by omega)]
        · rw [q2 j hj, o2 131 (by omega)]
        · have e127 : m3 127 i = 2 := by rw [f3 127 (by omega), msA _ _ _ _ (by omega), msA _ _ _ _ (by omega), msA _ _ _ _ (by omega), msS]
          have e130 : m3 130 i = nI n := by rw [f3 130 (by omega), msS, o2 125 (by omega)]; exact en
          have ecx : ∀ a, a < 127 → m3 a = m2 a := fun a ha => by rw [f3 a (by omega), wf_ms_other _ _ _ _ (by omega), wf_ms_other _ _ _ _ (by omega), wf_ms_other _ _ _ _ (by omega), wf_ms_other _ _ _ _ (by omega)]
          unfold slI
          rw [e127, e130, ecx _ (by omega : 100 + 4 * i < 127), ecx _ (by omega : 100 + 4 * i + 2 < 127), ecx _ (by omega : 100 + 4 * i + 2 + 1 < 127)]
          refine ⟨?_, Or.inr (Or.inr (Or.inl rfl)), fun q => absurd q (by decide), fun q => absurd q (by decide), fun _ => ⟨n, hn, g1, rfl, fun j hj => ?_⟩⟩
          · rw [f2 _ (by omega), f1, msS]; exact c2
          · rw [g2 j hj, q1 j (by omega), o2 126 (by omega), f1, msA _ _ _ _ (by omega)]
            exact ((hsh c hc).2.2.2.2 j (by omega)).1
      · have g' : ∃ w, w < rW (mem 121) ∧ z = nI w := by
          rcases g with g | g | g | g
          · exact absurd (g.symm.trans c1) (by decide)
          · exact absurd (g.symm.trans c1) (by decide)
          · exact g.2
          · exact absurd (g.1.symm.trans c1) (by decide)
        obtain ⟨w, hw', ew⟩ := g'
        have ez : z.toNatClampNeg = w := by rw [ew, nI_clamp (by omega)]
        rw [ez]
        refine ⟨by rw [ew]; exact vin (by omega), k_watTake (sh_sw hi) (sh_r22 (a := 46) rfl (by omega)) (by omega) (fun m2 f2 g1 => ?_)⟩
        have o2 : ∀ a, (a < 100 + 4 * i ∨ 100 + 4 * i + 4 ≤ a) → m2 a = mem a := fun a ha => by rw [f2 a (by omega), f1, wf_ms_other _ _ _ _ (by omega)]
        have gw : ∀ j, j < 5 → m2 (100 + 4 * i + 1) j = mem 121 (48 + 5 * w + j) := fun j hj => by
          rw [g1 j hj, f1, msA _ _ _ _ (by omega)]; exact hR.2.2.1 w hw' j hj
        refine ref m2 _ (fun a ha => o2 a (by omega)) ?_
        rw [ei, c1, ew]
        refine lay_w (d := d + 17) hi (by omega) ⟨?_, slots_fin hI hi (fun a h1 h2 => ?_) (fun k hk => ?_) (fun j hj => ?_) ?_⟩
        · rw [ev, s1, o2 127 (by omega)]
        · rw [wf_ms_other _ _ _ _ (by omega), wf_ms_other _ _ _ _ (by omega), wf_ms_other _ _ _ _ (by omega), o2 a (by omega)]
        · refine ⟨?_, ?_, ?_, ?_⟩
          · rw [msA _ _ _ _ (by omega), msA _ _ _ _ (by omega), msK _ _ _ _ hk, o2 127 (by omega)]
          · rw [msA _ _ _ _ (by omega), msK _ _ _ _ hk, msA _ _ _ _ (by omega), o2 128 (by omega)]
          · rw [msK _ _ _ _ hk, msA _ _ _ _ (by omega), msA _ _ _ _ (by omega), o2 129 (by omega)]
          · rw [msA _ _ _ _ (by omega), msA _ _ _ _ (by omega), msA _ _ _ _ (by omega), o2 130 (by omega)]
        · rw [msA _ _ _ _ (by omega), msA _ _ _ _ (by omega), msA _ _ _ _ (by omega), o2 131 (by omega)]
        · rw [o2 121 (by omega)]
          generalize hM : wf_ms (wf_ms (wf_ms m2 127 i 1) 128 i (mem 121 (48 + 5 * w))) 129 i (wtR (mem 121 (48 + 5 * w)) (mem 121 (48 + 5 * w + 2))) = M
          have e127 : M 127 i = 1 := by rw [← hM, msA _ _ _ _ (by omega), msA _ _ _ _ (by omega), msS]
          have e128 : M 128 i = mem 121 (48 + 5 * w) := by rw [← hM, msA _ _ _ _ (by omega), msS]
          have e129 : M 129 i = wtR (mem 121 (48 + 5 * w)) (mem 121 (48 + 5 * w + 2)) := by rw [← hM, msS]
          have ecx : ∀ a, a < 127 → M a = m2 a := fun a ha => by rw [← hM, wf_ms_other _ _ _ _ (by omega), wf_ms_other _ _ _ _ (by omega), wf_ms_other _ _ _ _ (by omega)]
          have w0 : m2 (100 + 4 * i + 1) 0 = mem 121 (48 + 5 * w) := gw 0 (by decide)
          unfold slI
          rw [e127, e128, e129, ecx _ (by omega : 100 + 4 * i < 127), ecx _ (by omega : 100 + 4 * i + 1 < 127), w0, gw 2 (by decide)]
          refine ⟨?_, Or.inr (Or.inl rfl), fun q => absurd q (by decide), fun _ => ⟨rfl, (hO.wt hw').1, rfl⟩, fun q => absurd q (by decide)⟩
          rw [f2 _ (by omega), f1, msS]; exact c1
    have c35 : (¬ y = 1 ∨ ∃ w, w < rW (mem 121) ∧ z = nI w) → Vw (Ni (d + 20) (fun r m1 => Ci mX9_lay (d + 20) [.ref 120, .int x, .int y, .int z] m1 (fun r2 m2 => r = r2 ∧ INV m2))) mX8_lay 35 [(0, .ref 0), (1, .int x), (2, .int y), (3, .int z)] [] mem := fun g => by
      have cases4 : y = 0 ∨ y = 1 ∨ y = 2 ∨ y = 3 := by
        have : t = 0 ∨ t = 1 ∨ t = 2 ∨ t = 3 := by omega
        rcases this with rfl | rfl | rfl | rfl
        · exact Or.inl et
        · exact Or.inr (Or.inl et)
        · exact Or.inr (Or.inr (Or.inl et))
        · exact Or.inr (Or.inr (Or.inr et))
      refine b_X8_lay_35 _ _ _ _ ⟨fun c2 => ⟨fun _ => c71 ?_, fun c' => absurd c' c2⟩, fun c2 => k_isSheet z (fun c hc ec => n1 ⟨fun c' => absurd c2 c', fun _ => ?_⟩) (fun b => n0 (bad (fun q => ?_)))⟩
      · rcases cases4 with q | q | q | q
        · exact Or.inl q
        · exact Or.inr (Or.inr (Or.inl ⟨q, g.resolve_left (fun h => h q)⟩))
        · exact absurd q c2
        · exact Or.inr (Or.inl q)
      · have ez : z.toNatClampNeg = c := by rw [ec, nI_clamp (by omega)]
        rw [ez, (hsh c hc).1]
        refine ⟨by rw [ec]; exact vin hc, fun q => c71 (Or.inr (Or.inr (Or.inr ⟨c2, c, hc, ec, q⟩))), fun q => ?_⟩
        refine lay_0 (d := d + 16) mem x y z _ hw hw2 hs (fun i' _ _ g' => ?_) (fun _ _ _ _ _ _ _ _ => ⟨rfl, hI⟩) (fun hb => absurd ⟨⟨i, hi, ei⟩, Or.inr (Or.inr (Or.inr ⟨c2, c, hc, ec⟩))⟩ hb)
        exfalso
        rcases g' with g' | g' | g' | ⟨_, c', hc', ec', gc'⟩
        · exact absurd (g'.symm.trans c2) (by decide)
        · exact absurd (g'.symm.trans c2) (by decide)
        · exact absurd (g'.1.symm.trans c2) (by decide)
        · have : c' = c := (nI_eq (by omega) (by omega)).mp (ec'.symm.trans ec)
          subst this; exact gc' q
      · rcases q.2 with q | q | q | q
        · exact absurd (q.symm.trans c2) (by decide)
        · exact absurd (q.symm.trans c2) (by decide)
        · exact absurd (q.1.symm.trans c2) (by decide)
        · exact b q.2
    refine ⟨fun c => c35 (Or.inl c), fun c => k_hasWatcher sh41 z (rW (mem 121)) hm (by omega) (fun w hw' ew => z1 (c35 (Or.inr ⟨w, hw', ew⟩))) (fun b' => z0 (bad (fun q => ?_)))⟩
    rcases q.2 with q | q | q | q
    · exact absurd (q.symm.trans c) (by decide)
    · exact absurd (q.symm.trans c) (by decide)
    · exact b' q.2
    · exact absurd (q.1.symm.trans c) (by decide)
  · rcases g.2 with q | q | q | q
    · rw [q]; decide
    · rw [q]; decide
    · rw [q.1]; decide
    · rw [q.1]; decide
end OPQ
