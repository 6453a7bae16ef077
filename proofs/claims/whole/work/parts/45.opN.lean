/-! sheet, mark -/
theorem sho16 (x : Int32) : x.toInt16.toInt32 = (x <<< ((16 : Int32) &&& 31)) >>> ((16 : Int32) &&& 31) := by
  have e : ((16 : Int32) &&& 31) = 16 := by decide
  rw [e]
  apply Int32.toBitVec_inj.mp
  rw [Int32.toBitVec_shiftRight, Int32.toBitVec_shiftLeft]
  have e2 : ((16 : Int32).toBitVec.smod 32) = 16#32 := by decide
  rw [e2]
  show (x.toBitVec.signExtend 16).signExtend 32 = _
  apply BitVec.eq_of_getLsbD_eq
  intro i hi
  simp [BitVec.getLsbD_signExtend, BitVec.getLsbD_sshiftRight, BitVec.getLsbD_shiftLeft]
  by_cases h : i < 16
  · have h1 : 16 + i < 32 := by omega
    have h2 : ¬ 32 ≤ i := by omega
    have h3 : ¬ 16 + i < 16 := by omega
    simp [h, h1, hi, h2]
  · have h1 : ¬ 16 + i < 32 := by omega
    have h2 : ¬ 32 ≤ i := by omega
    rw [if_neg h, if_neg h1]
    simp [hi, h2, BitVec.msb_eq_getLsbD_last, BitVec.getLsbD_signExtend, BitVec.getMsbD]
    rw [BitVec.getElem_signExtend]
    simp
theorem sho_bd (x : Int32) : -99999 ≤ x.toInt16.toInt32 ∧ x.toInt16.toInt32 ≤ 99999 := by
  have h1 := x.toInt16.le_toInt
  have h2 := x.toInt16.toInt_lt
  rw [Int32.le_iff_toInt_le, Int32.le_iff_toInt_le, Int16.toInt_toInt32]
  have e1 : (-99999 : Int32).toInt = -99999 := by decide
  have e2 : (99999 : Int32).toInt = 99999 := by decide
  rw [e1, e2]
  omega
section OPN
variable {d : Nat} {mem : wf_Mem} {P : Int32 → wf_Mem → Prop} {Q : wf_Mem → Prop} {r : Rw}
theorem fill_loop {q n : Nat} (hq : wf_sh q = (20, n)) (hn : n < 2 ^ 30) (v : Int32) (h : ∀ m', Fr (fun a => a = q) mem m' → (∀ j, j < n → m' q j = v) → Q m') : ∀ (f k : Nat) (m : wf_Mem), n - k ≤ f → k ≤ n → Fr (fun a => a = q) mem m → (∀ j, j < k → m q j = v) → Vw (Nv d Q) mJ7_fill_53178 5 [(0, .ref q), (1, .int v), (2, .int (nI k)), (3, .int (nI n))] [] m
  | f, k, m, hf, hk, ho, hj => by
    have ec : (nI n ≤ nI k) ↔ n ≤ k := nI_leI (by omega) (by omega)
    refine b_J7_fill_53178_5 _ _ _ hq _ _ _ ?_
    rw [ec]
    refine ⟨fun g => h m ho (fun j q => hj j (by omega)), fun g => ⟨vp_in_nI (by omega) (by omega), fun m2 f2 => ?_⟩⟩
    rw [nI_clamp (by omega)] at f2
    rw [nI_1]
    cases f with
    | zero => omega
    | succ f =>
      refine fill_loop hq hn v h f (k + 1) m2 (by omega) (by omega) (by rw [f2]; exact ho.tr (Fr.ms rfl)) (fun j hj2 => ?_)
      rw [f2]
      by_cases e : j = k
      · rw [e, msS]
      · rw [msK _ _ _ _ e]; exact hj j (by omega)
theorem k_becomes {i : Nat} (hi : i < 4) (x y : Int32) (h : ∀ m', Fr (fun a => a = 92 + 2 * i ∨ a = 92 + 2 * i + 1) mem m' → m' (92 + 2 * i) 0 = x → m' (92 + 2 * i) 1 = y → (∀ j, j < 24 → m' (92 + 2 * i + 1) j = 0) → Q m') : Cv mX4_becomes (d + 1) [.ref (92 + 2 * i), .int x, .int y] mem Q := by
  have hq : wf_sh (92 + 2 * i + 1) = (20, 24) := by
    have : i = 0 ∨ i = 1 ∨ i = 2 ∨ i = 3 := by omega
    rcases this with rfl | rfl | rfl | rfl <;> rfl
  refine E_X4_becomes _ (sh_w hi) _ _ (fun m1 f1 m2 f2 => E_J7_fill_53178 _ _ hq _ (fun z ez => ?_))
  rw [ez]
  refine fill_loop (mem := m2) hq (by decide) 0 (fun m3 f3 z3 => ?_) 24 0 m2 (by omega) (by omega) Fr.rf (fun j hj => by omega)
  refine h m3 (fun a ha => ?_) ?_ ?_ z3
  · rw [f3 a (fun e => ha (Or.inr e)), f2, wf_ms_other _ _ _ _ (fun e => ha (Or.inl e)), f1, wf_ms_other _ _ _ _ (fun e => ha (Or.inl e))]
  · rw [f3 (92 + 2 * i) (by omega), f2, msK _ _ _ _ (by decide), f1, msS]
  · rw [f3 (92 + 2 * i) (by omega), f2, msS]
theorem sheet_loop {i : Nat} (hi : i < 4) (h : ∀ m', Fr (fun a => a = 126) mem m' → (∀ j, j < 24 → m' 126 (24 * i + j) = 0) → (∀ j, (j < 24 * i ∨ 24 * i + 24 ≤ j) → m' 126 j = mem 126 j) → P (mem 125 i) m') : ∀ (f k : Nat) (m : wf_Mem), 24 - k ≤ f → k ≤ 24 → Fr (fun a => a = 126) mem m → (∀ j, j < k → m 126 (24 * i + j) = 0) → (∀ j, (j < 24 * i ∨ 24 * i + 24 ≤ j) → m 126 j = mem 126 j) → Vw (Ni (d + 1) P) mX9_sheet 69 [(0, .ref 120), (1, .int (nI i)), (4, .int (nI k))] [] m
  | f, k, m, hf, hk, ho, hj, hh => by
    have ec : (24 ≤ nI k) ↔ 24 ≤ k := nI_leI (a := 24) (by decide) (by omega)
    refine b_X9_sheet_69 _ _ _ ?_
    rw [ec, ix24, nI_clamp (by omega : i < 2 ^ 31), nI_clamp (by omega)]
    refine ⟨fun g => ⟨vin hi, ?_⟩, fun g => ⟨vin (by omega), fun m2 f2 => ?_⟩⟩
    · rw [ho 125 (by decide)]
      exact h m ho (fun j q => hj j (by omega)) hh
    · rw [nI_1]
      cases f with
      | zero => omega
      | succ f =>
        refine sheet_loop hi h f (k + 1) m2 (by omega) (by omega) (by rw [f2]; exact ho.tr (Fr.ms rfl)) (fun j hj2 => ?_) (fun j hj2 => by rw [f2, msK _ _ _ _ (by omega)]; exact hh j hj2)
        rw [f2]
        by_cases e : j = k
        · rw [e, msS]
        · rw [msK _ _ _ _ (by omega)]; exact hj j (by omega)
/-- behind the class's becomes: the reference's part that sets -/
theorem sheet_fin (hI : INV mem) {i n : Nat} (hi : i < 4) (hn : n ≤ 24) {v z : Int32} (hv : v = -1 ∨ v = 0 ∨ v = 1) (hz : (0 ≤ v → z = nI n) ∧ (¬ 0 ≤ v → n = 0)) {m1 : wf_Mem} (f1 : Fr (fun a => a = 92 + 2 * i ∨ a = 92 + 2 * i + 1) mem m1) (e0 : m1 (92 + 2 * i) 0 = v) (e1 : m1 (92 + 2 * i) 1 = nI n) (e2 : ∀ j, j < 24 → m1 (92 + 2 * i + 1) j = 0) : Vw (Ni (d + 1) (fun r2 m2 => nI n = r2 ∧ INV m2)) mX9_sheet 44 [(0, .ref 120), (1, .int (nI i)), (2, .int v), (3, .int z)] [] m1 := by
  have key : ∀ m2 m3, m2 = wf_ms m1 124 i v → m3 = wf_ms m2 125 i (nI n) → Vw (Ni (d + 1) (fun r2 m2 => nI n = r2 ∧ INV m2)) mX9_sheet 69 [(0, .ref 120), (1, .int (nI i)), (4, .int 0)] [] m3 := by
    intro m2 m3 f2 f3
    refine sheet_loop (mem := m3) hi (fun m4 f4 g1 g2 => ⟨by rw [f3, msS], ?_⟩) 24 0 m3 (by omega) (by omega) Fr.rf (fun j hj => by omega) (fun _ _ => rfl)
    have o : ∀ a, a ≠ 124 → a ≠ 125 → a ≠ 126 → m4 a = m1 a := fun a h1 h2 h3 => by rw [f4 a h3, f3, wf_ms_other _ _ _ _ h2, f2, wf_ms_other _ _ _ _ h1]
    have o126 : ∀ j, (j < 24 * i ∨ 24 * i + 24 ≤ j) → m4 126 j = mem 126 j := fun j hj => by rw [g2 j hj, f3, msA _ _ _ _ (by decide), f2, msA _ _ _ _ (by decide), f1 126 (by omega)]
    have o124 : ∀ k, m4 124 k = if k = i then v else mem 124 k := fun k => by
      rw [f4 124 (by decide), f3, msA _ _ _ _ (by decide), f2]
      by_cases e : k = i
      · rw [if_pos e, e, msS]
      · rw [if_neg e, msK _ _ _ _ e, f1 124 (by omega)]
    have o125 : ∀ k, m4 125 k = if k = i then nI n else mem 125 k := fun k => by
      rw [f4 125 (by decide), f3]
      by_cases e : k = i
      · rw [if_pos e, e, msS]
      · rw [if_neg e, msK _ _ _ _ e, f2, msA _ _ _ _ (by decide), f1 125 (by omega)]
    refine hI.sheets (fun a ha => ?_) (fun k hk => ?_)
    · unfold SHc at ha
      rw [o a (by omega) (by omega) (by omega), f1 a (by omega)]
    · by_cases e : k = i
      · subst e
        refine ⟨?_, ?_, ?_, ⟨n, hn, ?_⟩, fun j hj => ?_⟩
        · rw [o124, if_pos rfl, o _ (by omega) (by omega) (by omega)]; exact e0
        · rw [o124, if_pos rfl]; exact hv
        · rw [o125, if_pos rfl, o _ (by omega) (by omega) (by omega)]; exact e1
        · rw [o125, if_pos rfl]
        · rw [o _ (by omega) (by omega) (by omega), e2 j hj, g1 j hj]
          exact ⟨rfl, Or.inr ⟨by decide, by decide⟩⟩
      · refine (hI.2.2.1 k hk).fr ?_ ?_ (fun j hj => o126 _ (by omega)) ?_ ?_
        · rw [o124, if_neg e]
        · rw [o125, if_neg e]
        · rw [o _ (by omega) (by omega) (by omega), f1 _ (by omega)]
        · rw [o _ (by omega) (by omega) (by omega), f1 _ (by omega)]
  refine b_X9_sheet_44 _ _ _ _ ?_
  rw [nI_clamp (by omega)]
  refine ⟨vin hi, fun m2 f2 => ⟨fun c => ⟨vin hi, fun m3 f3 => key m2 m3 f2 ?_⟩, fun c => ⟨vin hi, fun m3 f3 => key m2 m3 f2 ?_⟩⟩⟩
  · rw [f3, hz.1 c]
  · rw [f3, hz.2 c]; rfl
theorem L_sheet (hI : INV mem) (x y z : Int32) : Agr (d + 20) mX8_sheet mX9_sheet [.int x, .int y, .int z] mem := by
  have bad : ¬ ((∃ i, i < 4 ∧ x = nI i) ∧ -1 ≤ y ∧ y ≤ 1) → Ci mX9_sheet (d + 20) [.ref 120, .int x, .int y, .int z] mem (fun r2 m2 => -1000000001 = r2 ∧ INV m2) := fun hb =>
    E_X9_sheet _ _ _ (c_isSheet x (fun i hi ei => z1 (c_isIn y (-1) 1 rfl rfl (fun a b => absurd ⟨⟨i, hi, ei⟩, a, b⟩ hb) (fun _ => z0 ⟨rfl, hI⟩))) (fun _ => z0 ⟨rfl, hI⟩))
  refine E_X8_sheet _ _ _ (k_isSheet x (fun i hi ei => z1 (k_within y (-1) 1 (fun a b => n1 ?_) (fun b => n0 (bad (fun g => b g.2))))) (fun b => z0 (bad (fun g => b g.1))))
  have ref : ∀ (m : wf_Mem) (R : Int32 → wf_Mem → Prop), ((y < 0 → Vw (Ni (d + 20) R) mX9_sheet 44 [(0, .ref 120), (1, .int x), (2, .int y), (3, .int z)] [] m) ∧ (¬ y < 0 → (z ≤ 24 → (0 ≤ z → Vw (Ni (d + 20) R) mX9_sheet 44 [(0, .ref 120), (1, .int x), (2, .int y), (3, .int z)] [] m) ∧ (¬ 0 ≤ z → R (-1000000014) m)) ∧ (¬ z ≤ 24 → R (-1000000001) m))) → Ci mX9_sheet (d + 20) [.ref 120, .int x, .int y, .int z] m R := fun m R h => by
    refine E_X9_sheet _ _ _ (c_isSheet x (fun i' _ _ => z1 (c_isIn y (-1) 1 rfl rfl (fun _ _ => z1 ?_) (fun b' => absurd ⟨a, b⟩ b'))) (fun b' => absurd ⟨i, hi, ei⟩ b'))
    exact ⟨fun c => ⟨fun _ => h.1 c, fun c' => absurd c c'⟩, fun c => ⟨fun c2 => ⟨fun c' => absurd c' c, fun _ => ((h.2 c).1 c2)⟩, (h.2 c).2⟩⟩
  have hy : y = -1 ∨ y = 0 ∨ y = 1 := by grind
  have hy2 : (y < 0) ↔ y = -1 := by grind
  have ex : x.toNatClampNeg = i := by rw [ei, nI_clamp (by omega)]
  have vx : vp_in x 4 := by rw [ei]; exact vin hi
  rw [ex]
  refine ⟨fun c => ⟨fun c2 => ⟨fun c3 => ⟨vx, k_becomes hi _ _ (fun m1 f1 e0 e1 e2 => ref m1 _ ?_)⟩, fun c3 => ref mem _ ?_⟩, fun c2 => ref mem _ ?_⟩, fun c => ⟨vx, k_becomes hi _ _ (fun m1 f1 e0 e1 e2 => ref m1 _ ?_)⟩⟩
  · obtain ⟨n, hn, en⟩ := nI_bd (m := 24) c3 c2 (by decide)
    rw [hy2]
    refine ⟨fun c' => absurd c' c, fun _ => ⟨fun _ => ⟨fun _ => ?_, fun c' => absurd c3 c'⟩, fun c' => absurd c2 c'⟩⟩
    rw [ei, en]
    exact sheet_fin (d := d + 19) hI hi hn hy ⟨fun _ => rfl, fun c' => absurd (by grind) c'⟩ f1 e0 (by rw [e1, en]) e2
  · rw [hy2]
    exact ⟨fun c' => absurd c' c, fun _ => ⟨fun _ => ⟨fun c' => absurd c' c3, fun _ => ⟨rfl, hI⟩⟩, fun c' => absurd c2 c'⟩⟩
  · rw [hy2]
    exact ⟨fun c' => absurd c' c, fun _ => ⟨fun c' => absurd c' c2, fun _ => ⟨rfl, hI⟩⟩⟩
  · rw [hy2]
    refine ⟨fun _ => ?_, fun c' => absurd c c'⟩
    rw [ei]
    exact sheet_fin (d := d + 19) (n := 0) hI hi (by omega) hy ⟨fun c' => absurd c' (by rw [c]; decide), fun _ => rfl⟩ f1 (by rw [e0, c]) e1 e2
theorem mark_fin (hI : INV mem) {i k : Nat} (hi : i < 4) (hk : k < 24) {v : Int32} (hv : v = -1000000005 ∨ (-99999 ≤ v ∧ v ≤ 99999)) : INV (wf_ms (wf_ms mem (92 + 2 * i + 1) k v) 126 (24 * i + k) v) := by
  refine hI.sheets ((Fr.ms (by unfold SHc; omega)).tr (Fr.ms (by unfold SHc; omega))) (fun c hc => ?_)
  obtain ⟨t1, t2, t3, t4, t5⟩ := hI.2.2.1 c hc
  by_cases e : c = i
  · subst e
    refine ⟨?_, ?_, ?_, ?_, fun j hj => ?_⟩
    · rw [msA _ _ _ _ (by omega), msA _ _ _ _ (by omega), msA _ _ _ _ (by omega), msA _ _ _ _ (by omega)]; exact t1
    · rw [msA _ _ _ _ (by omega), msA _ _ _ _ (by omega)]; exact t2
    · rw [msA _ _ _ _ (by omega), msA _ _ _ _ (by omega), msA _ _ _ _ (by omega), msA _ _ _ _ (by omega)]; exact t3
    · rw [msA _ _ _ _ (by omega), msA _ _ _ _ (by omega)]; exact t4
    · rw [msA _ _ _ _ (b := 92 + 2 * c + 1) (by omega)]
      by_cases e2 : j = k
      · subst e2
        rw [msS, msS]; exact ⟨rfl, hv⟩
      · rw [msK _ _ _ _ e2, msK _ _ _ _ (by omega), msA _ _ _ _ (by omega)]; exact t5 j hj
  · refine (hI.2.2.1 c hc).fr ?_ ?_ (fun j hj => ?_) ?_ ?_
    · rw [msA _ _ _ _ (by omega), msA _ _ _ _ (by omega)]
    · rw [msA _ _ _ _ (by omega), msA _ _ _ _ (by omega)]
    · rw [msK _ _ _ _ (by omega), msA _ _ _ _ (by omega)]
    · rw [wf_ms_other _ _ _ _ (by omega), wf_ms_other _ _ _ _ (by omega)]
    · rw [wf_ms_other _ _ _ _ (by omega), wf_ms_other _ _ _ _ (by omega)]
theorem L_mark (hI : INV mem) (x y z : Int32) : Agr (d + 20) mX8_mark mX9_mark [.int x, .int y, .int z] mem := by
  have hsh := hI.2.2.1
  refine E_X8_mark _ _ _ (k_isSheet x (fun i hi ei => n1 ?_) (fun bad => n0 (E_X9_mark _ _ _ (c_isSheet x (fun i hi ei => absurd ⟨i, hi, ei⟩ bad) (fun _ => n0 ⟨rfl, hI⟩)))))
  obtain ⟨s, hs, es, es1⟩ := shN (hsh i hi)
  obtain ⟨t1, t2, t3, t4, t5⟩ := hsh i hi
  have ex : x.toNatClampNeg = i := by rw [ei, nI_clamp (by omega)]
  have vx : vp_in x 4 := by rw [ei]; exact vin hi
  rw [ex, t1]
  refine ⟨vx, fun c => k_shas (sh_w hi) y s es1 (by omega) (fun k hk ek => n1 ?_) (fun bad => n0 ?_), fun c => ?_⟩
  · have ey : y.toNatClampNeg = k := by rw [ek, nI_clamp (by omega)]
    have vy : vp_in y 24 := by rw [ek]; exact vin (by omega)
    have vxy : vp_in (24 * x + y) 96 := by rw [ei, ek, ix24]; exact vin (by omega)
    have exy : (24 * x + y).toNatClampNeg = 24 * i + k := by rw [ei, ek, ix24, nI_clamp (by omega)]
    have ref : ∀ (m : wf_Mem) (R : Int32 → wf_Mem → Prop), m 124 = mem 124 → m 125 = mem 125 → ((mem 124 i = 0 → (¬ z = -1000000005 → R 1 (wf_ms m 126 (24 * i + k) (z.toInt16.toInt32))) ∧ (z = -1000000005 → R (-1000000012) m)) ∧ (¬ mem 124 i = 0 → (z = -1000000005 ∨ (-99999 ≤ z ∧ z ≤ 99999) → R 1 (wf_ms m 126 (24 * i + k) z)) ∧ (¬ (z = -1000000005 ∨ (-99999 ≤ z ∧ z ≤ 99999)) → R (-1000000001) m))) → Ci mX9_mark (d + 20) [.ref 120, .int x, .int y, .int z] m R := fun m R q1 q2 h => by
      have fin : (mem 124 i = 0 → R 1 (wf_ms m 126 (24 * i + k) (z.toInt16.toInt32))) → (¬ mem 124 i = 0 → R 1 (wf_ms m 126 (24 * i + k) z)) → Vw (Ni (d + 20) R) mX9_mark 96 [(0, .ref 120), (1, .int x), (2, .int y), (3, .int z)] [] m := fun g1 g2 => by
        refine b_X9_mark_96 _ _ _ _ ?_
        rw [ex, exy, q1, ← sho16]
        exact ⟨vx, fun c0 => ⟨vxy, fun m2 f2 => by rw [f2]; exact g2 c0⟩, fun c0 => ⟨vxy, fun m2 f2 => by rw [f2]; exact g1 c0⟩⟩
      refine E_X9_mark _ _ _ (c_isSheet x (fun i' _ _ => n1 ?_) (fun b' => absurd ⟨i, hi, ei⟩ b'))
      rw [ex, q1, q2, srt t2]
      refine ⟨vx, fun _ => ⟨vx, c_rng y s es (by omega) (fun k' _ _ => n1 ?_) (fun b' => absurd ⟨k, hk, ek⟩ b')⟩, fun c' => absurd c c'⟩
      rw [q1]
      have m63 : (mem 124 i = 0 → ¬ z = -1000000005) → Vw (Ni (d + 20) R) mX9_mark 63 [(0, .ref 120), (1, .int x), (2, .int y), (3, .int z)] [] m := fun g0 => by
        refine b_X9_mark_63 _ _ _ _ ?_
        rw [ex, q1]
        refine ⟨vx, fun c1 => ?_, fun c1 => ⟨fun c2 => ?_, fun c2 => ?_⟩⟩
        · have z0' : mem 124 i = 0 := by
            rcases t2 with t | t | t
            · exact absurd t c
            · exact t
            · exact absurd t c1
          exact fin (fun g => (h.1 g).1 (g0 g)) (fun g => absurd z0' g)
        · have n0' : ¬ mem 124 i = 0 := by rw [c1]; decide
          exact fin (fun g => absurd g n0') (fun g => (h.2 g).1 (Or.inl c2))
        · have n0' : ¬ mem 124 i = 0 := by rw [c1]; decide
          exact c_isIn z (-99999) 99999 rfl rfl (fun a b => n1 (fin (fun g => absurd g n0') (fun g => (h.2 g).1 (Or.inr ⟨a, b⟩)))) (fun b => n0 ((h.2 n0').2 (fun o => o.elim c2 b)))
      exact ⟨vx, fun c1 => m63 (fun g => absurd g c1), fun c1 => ⟨fun c2 => m63 (fun _ => c2), fun c2 => (h.1 c1).2 c2⟩⟩
    rw [ey]
    have fr : ∀ v : Int32, (wf_ms mem (92 + 2 * i + 1) k v) 124 = mem 124 ∧ (wf_ms mem (92 + 2 * i + 1) k v) 125 = mem 125 := fun v => ⟨wf_ms_other _ _ _ _ (by omega), wf_ms_other _ _ _ _ (by omega)⟩
    rw [t1]
    refine ⟨fun c1 => ⟨fun c2 => ⟨vy, fun m1 f1 => ?_⟩, fun c2 => k_within z (-99999) 99999 (fun a b => n1 ⟨vy, fun m1 f1 => ?_⟩) (fun b => n0 ?_)⟩, fun c1 => ⟨fun c2 => ⟨vy, fun m1 f1 => ?_⟩, fun c2 => ?_⟩⟩
    · subst f1
      exact ref _ _ (fr z).1 (fr z).2 ⟨fun c' => absurd c' c1, fun _ => ⟨fun g => ⟨rfl, mark_fin hI hi (by omega) g⟩, fun g => absurd (Or.inl c2) g⟩⟩
    · subst f1
      exact ref _ _ (fr z).1 (fr z).2 ⟨fun c' => absurd c' c1, fun _ => ⟨fun g => ⟨rfl, mark_fin hI hi (by omega) g⟩, fun g => absurd (Or.inr ⟨a, b⟩) g⟩⟩
    · exact ref _ _ rfl rfl ⟨fun c' => absurd c' c1, fun _ => ⟨fun g => absurd g (fun o => o.elim c2 b), fun _ => ⟨rfl, hI⟩⟩⟩
    · subst f1
      exact ref _ _ (fr _).1 (fr _).2 ⟨fun _ => ⟨fun _ => ⟨rfl, mark_fin hI hi (by omega) (Or.inr (sho_bd z))⟩, fun g => absurd g c2⟩, fun c' => absurd c1 c'⟩
    · exact ref _ _ rfl rfl ⟨fun _ => ⟨fun g => absurd c2 g, fun _ => ⟨rfl, hI⟩⟩, fun c' => absurd c1 c'⟩
  · refine E_X9_mark _ _ _ (c_isSheet x (fun i' _ _ => n1 ?_) (fun b' => absurd ⟨i, hi, ei⟩ b'))
    rw [ex, srt t2]
    exact ⟨vx, fun _ => ⟨vx, c_rng y s es (by omega) (fun k' h1 h2 => absurd ⟨k', h1, h2⟩ bad) (fun _ => n0 ⟨rfl, hI⟩)⟩, fun c' => absurd c c'⟩
  · refine E_X9_mark _ _ _ (c_isSheet x (fun i' _ _ => n1 ?_) (fun b' => absurd ⟨i, hi, ei⟩ b'))
    rw [ex, srt t2]
    exact ⟨vx, fun c' => absurd c c', fun _ => ⟨rfl, hI⟩⟩
end OPN
