/-! reads, pour -/
def rdP (p : Nat → Int32) (r : Rw) (k : Nat) : Bool := !decide (p k = -1000000005) && (decide (rN r ≤ k) || !decide (p k = ltR r k))
def poA (p : Nat → Int32) (r : Rw) : Nat → Rw × Int32
  | 0 => (r, 0)
  | k + 1 => if p k = -1000000005 ∨ clp (p k) 99 = (poA p r k).1 (12 + 3 * k) then poA p r k else (upd (poA p r k).1 (12 + 3 * k) (clp (p k) 99), (poA p r k).2 + 1)
theorem clp99 (x : Int32) : 0 ≤ clp x 99 ∧ clp x 99 ≤ 99 := clp_in x (m := 99) (by decide)
theorem poA_ok {p : Nat → Int32} {r : Rw} (hI : okR r) : ∀ k, k ≤ 12 → okR (poA p r k).1 ∧ sm r (poA p r k).1 ∧ (poA p r k).1 6 = r 6
  | 0, _ => ⟨hI, sm.rf, rfl⟩
  | k + 1, hk => by
    obtain ⟨a, b, c⟩ := poA_ok (p := p) hI k (by omega)
    unfold poA
    split
    · exact ⟨a, b, c⟩
    · exact ⟨okR_wg a (k := k) (j := 0) (by omega) (by decide) (clp99 _), b.tr (sm.u (by omega) (by omega)), (updN _ _ (by omega)).trans c⟩
section OPM
variable {d : Nat} {mem : wf_Mem} {P : Int32 → wf_Mem → Prop} {Q : wf_Mem → Prop} {r : Rw}
theorem fsA_st (p : Nat → Bool) {s k : Nat} (h : k < s) : fsA p (s - k) k = if p k = true then nI k else fsA p (s - (k + 1)) (k + 1) := by
  have : s - k = (s - (k + 1)) + 1 := by omega
  rw [this]; rfl
theorem reads_loop (hI : okR r) {i s : Nat} (hi : i < 4) (hs : s ≤ 24) (p : Nat → Int32) (h : ∀ m', sc mem m' → P (fsA (rdP p r) s 0) m') : ∀ (f k : Nat) (m : wf_Mem), s - k ≤ f → k ≤ s → sc mem m → m 121 = r → m 125 i = nI s → (∀ j, j < 24 → m 126 (24 * i + j) = p j) → fsA (rdP p r) s 0 = fsA (rdP p r) (s - k) k → Vw (Ni (d + 3) P) mX9_reads 25 [(0, .ref 120), (1, .int (nI i)), (2, .int (nI k))] [] m
  | f, k, m, hf, hk, ho, em, e125, e126, hv => by
    obtain ⟨hn, hn2⟩ := hI.n
    have ec : (nI s ≤ nI k) ↔ s ≤ k := nI_leI (by omega) (by omega)
    have ec2 : (nI (rN r) ≤ nI k) ↔ rN r ≤ k := nI_leI (by omega) (by omega)
    refine b_X9_reads_25 _ _ _ ?_
    rw [nI_clamp (by omega : i < 2 ^ 31), e125, ix24, em, hn, ec, ec2, nI_clamp (by omega)]
    refine ⟨vin hi, fun g => ?_, fun g => ⟨vin (by omega), fun v ev => ?_⟩⟩
    · have : s - k = 0 := by omega
      rw [this] at hv
      rw [hv] at h
      exact h m ho
    · rw [e126 k (by omega)] at ev
      subst ev
      rw [fsA_st _ (by omega)] at hv
      rw [show nI k + 1 = nI (k + 1) from nI_1 k]
      have nx : ∀ m', sc m m' → rdP p r k = false → Vw (Ni (d + 3) P) mX9_reads 25 [(0, .ref 120), (1, .int (nI i)), (2, .int (nI (k + 1)))] [] m' := fun m' s' e => by
        rw [e, if_neg (by decide)] at hv
        cases f with
        | zero => omega
        | succ f => exact reads_loop hI hi hs p h f (k + 1) m' (by omega) (by omega) (ho.tr s') (s'.s.trans em) (by rw [s' 125 (by decide) (by decide)]; exact e125) (fun j hj => by rw [s' 126 (by decide) (by decide)]; exact e126 j hj) hv
      have st : ∀ m', sc m m' → rdP p r k = true → P (nI k) m' := fun m' s' e => by
        rw [e, if_pos rfl] at hv
        rw [hv] at h
        exact h m' (ho.tr s')
      refine ⟨fun c => nx m sc.rf (by unfold rdP; simp [c]), fun c => ⟨fun c2 => st m sc.rf (by unfold rdP; simp [c, c2]), fun c2 => c_light em hI (by omega) (fun m1 s1 => ⟨fun c3 => nx m1 s1 ?_, fun c3 => st m1 s1 ?_⟩)⟩⟩
      · unfold rdP; simp [c3]; omega
      · unfold rdP; simp [c, c3]
theorem kreads_loop (hI : okR r) (hR : Rel 41 mem r) (hG : ∀ i, i < rN r → mem 48 i = ltR r i) {i s : Nat} (hi : i < 4) (hs : s ≤ 24) (p : Nat → Int32) (e1 : mem (92 + 2 * i) 1 = nI s) (ep : ∀ k, k < 24 → mem (92 + 2 * i + 1) k = p k) (h : P (fsA (rdP p r) s 0) mem) : ∀ (f k : Nat), s - k ≤ f → k ≤ s → fsA (rdP p r) s 0 = fsA (rdP p r) (s - k) k → Vw (Ni (d + 3) P) mX8_reads 37 [(0, .ref 0), (2, .ref (92 + 2 * i)), (3, .int (nI k))] [] mem
  | f, k, hf, hk, hv => by
    obtain ⟨hn, hn2⟩ := hI.n
    have ec : (nI s ≤ nI k) ↔ s ≤ k := nI_leI (by omega) (by omega)
    refine b_X8_reads_37 _ _ (sh_w hi) _ ?_
    rw [e1, ec]
    refine ⟨fun g => ?_, fun g => ?_⟩
    · have : s - k = 0 := by omega
      rw [this] at hv
      rw [hv] at h
      exact h
    · rw [fsA_st _ (by omega)] at hv
      have fin : ∀ y : Int32, (rdP p r k = (!decide (p k = -1000000005) && decide (y = 0))) → Vw (Ni (d + 3) P) mX8_reads 82 [(0, .ref 0), (2, .ref (92 + 2 * i)), (3, .int (nI k))] [.int y] mem := fun y ey => by
        refine b_X8_reads_82 _ _ (sh_w hi) _ _ ?_
        rw [nI_clamp (by omega), ep k (by omega), show nI k + 1 = nI (k + 1) from nI_1 k]
        have nx : rdP p r k = false → Vw (Ni (d + 3) P) mX8_reads 37 [(0, .ref 0), (2, .ref (92 + 2 * i)), (3, .int (nI (k + 1)))] [] mem := fun e => by
          rw [e, if_neg (by decide)] at hv
          cases f with
          | zero => omega
          | succ f => exact kreads_loop hI hR hG hi hs p e1 ep h f (k + 1) (by omega) (by omega) hv
        have st : rdP p r k = true → P (nI k) mem := fun e => by
          rw [e, if_pos rfl] at hv
          rw [hv] at h
          exact h
        exact ⟨vin (by omega), fun c => nx (by rw [ey]; simp [c]), fun c => ⟨fun c2 => nx (by rw [ey]; simp [c2]), fun c2 => st (by rw [ey]; simp [c, c2])⟩⟩
      refine k_has rfl (nI k) (rN r) (hR.1.1.trans hn) (by omega) (fun k' hk' ek => z1 ?_) (fun bad => z0 (fin 0 ?_))
      · have e : k = k' := (nI_eq (by omega) (by omega)).mp ek
        subst e
        rw [nI_clamp (by omega), ep k (by omega), hG k hk']
        refine ⟨vin (by omega), vin (by omega), fun c => fin 0 ?_, fun c => fin 1 ?_⟩
        · unfold rdP; simp [c]
        · unfold rdP; simp [c]; omega
      · have : rN r ≤ k := by
          rcases Nat.lt_or_ge k (rN r) with q | q
          · exact absurd ⟨k, q, rfl⟩ bad
          · exact q
        unfold rdP; simp [this]
theorem L_reads (hI : INV mem) (x : Int32) : Agr (d + 20) mX8_reads mX9_reads [.int x] mem := by
  obtain ⟨hO, hB, hR⟩ := hI.1
  have hsh := hI.2.2.1
  refine E_X8_reads _ (k_isSheet x (fun i hi ei => n1 ?_) (fun bad => n0 (E_X9_reads _ (c_isSheet x (fun i hi ei => absurd ⟨i, hi, ei⟩ bad) (fun _ => n0 ⟨rfl, hI⟩)))))
  obtain ⟨s, hs, es, es1⟩ := shN (hsh i hi)
  obtain ⟨t1, t2, t3, t4, t5⟩ := hsh i hi
  have ex : x.toNatClampNeg = i := by rw [ei, nI_clamp (by omega)]
  have vx : vp_in x 4 := by rw [ei]; exact vin hi
  rw [ex, t1]
  refine ⟨vx, fun c => k_measure sh41 hO hR (fun m1 f1 G => ?_), fun c => ?_⟩
  · have hF := CO.m41 f1
    have R1 := hR.sm sh41 hO f1
    refine kreads_loop (d := d + 17) hO R1 (fun i hi => (G i hi).1) hi hs (fun k => mem 126 (24 * i + k)) (by rw [hF _ (by unfold CO; omega)]; exact es1) (fun k hk => by rw [hF _ (by unfold CO; omega)]; exact (t5 k hk).1) ?_ 24 0 (by omega) (by omega) rfl
    refine E_X9_reads _ (c_isSheet x (fun i' _ _ => n1 ?_) (fun bad => absurd ⟨i, hi, ei⟩ bad))
    rw [ex, CO.ref hF (by decide), srt t2]
    refine ⟨vx, fun _ => ?_, fun c' => absurd c c'⟩
    rw [ei]
    exact reads_loop (d := d + 17) (mem := m1) hO hi hs (fun k => mem 126 (24 * i + k)) (fun m' s' => ⟨rfl, hI.rd hF s'.ro R1 (s'.s.trans (CO.ref hF (by decide)))⟩) 24 0 m1 (by omega) (by omega) sc.rf (CO.ref hF (by decide)) (by rw [CO.ref hF (by decide)]; exact es) (fun j _ => by rw [CO.ref hF (by decide)]) rfl
  · refine E_X9_reads _ (c_isSheet x (fun i' _ _ => n1 ?_) (fun bad => absurd ⟨i, hi, ei⟩ bad))
    rw [ex, srt t2]
    exact ⟨vx, fun c' => absurd c c', fun _ => ⟨rfl, hI⟩⟩
/-- pour -/
theorem pour_loop (hI : okR r) {i s : Nat} (hi : i < 4) (hs : s ≤ 24) (p : Nat → Int32) (h : ∀ m', RO mem m' → m' 121 = (poA p r (min s (rN r))).1 → P (poA p r (min s (rN r))).2 m') : ∀ (f k : Nat) (m : wf_Mem), min s (rN r) - k ≤ f → k ≤ min s (rN r) → RO mem m → m 121 = (poA p r k).1 → m 125 i = nI s → (∀ j, j < 24 → m 126 (24 * i + j) = p j) → Vw (Ni (d + 3) P) mX9_pour 27 [(0, .ref 120), (1, .int (nI i)), (2, .int (poA p r k).2), (3, .int (nI k))] [] m
  | f, k, m, hf, hk, ho, em, e125, e126 => by
    obtain ⟨hn, hn2⟩ := hI.n
    have hp := poA_ok (p := p) hI k (by omega)
    have ec : (nI s ≤ nI k) ↔ s ≤ k := nI_leI (by omega) (by omega)
    have ec2 : (nI (rN r) ≤ nI k) ↔ rN r ≤ k := nI_leI (by omega) (by omega)
    refine b_X9_pour_27 _ _ _ _ ?_
    rw [nI_clamp (by omega : i < 2 ^ 31), e125, ix24, em, hp.2.1.1, hn, ec, ec2, nI_clamp (by omega)]
    have stop : k = min s (rN r) → P (poA p r k).2 m := fun e => by rw [e]; exact h m ho (by rw [em, e])
    refine ⟨vin hi, fun g => stop (by omega), fun g => ⟨fun g2 => stop (by omega), fun g2 => ⟨vin (by omega), fun v ev => ?_⟩⟩⟩
    rw [e126 k (by omega)] at ev
    subst ev
    have un : poA p r (k + 1) = if p k = -1000000005 ∨ clp (p k) 99 = (poA p r k).1 (12 + 3 * k) then poA p r k else (upd (poA p r k).1 (12 + 3 * k) (clp (p k) 99), (poA p r k).2 + 1) := rfl
    have fin : ∀ y : Int32, ((p k = -1000000005 ∧ y = (poA p r k).1 (12 + 3 * k)) ∨ (¬ p k = -1000000005 ∧ y = clp (p k) 99)) → Vw (Ni (d + 3) P) mX9_pour 83 [(0, .ref 120), (1, .int (nI i)), (2, .int (poA p r k).2), (3, .int (nI k))] [.int y] m := fun y hy => by
      refine b_X9_pour_83 _ _ _ _ _ ?_
      rw [ixw0]
      refine c_becomes _ _ (by omega) ?_
      rw [em, show nI k + 1 = nI (k + 1) from nI_1 k]
      have nx : ∀ z : Int32, (poA p r (k + 1)).1 = upd (poA p r k).1 (12 + 3 * k) y → z = (poA p r (k + 1)).2 → Vw (Ni (d + 3) P) mX9_pour 27 [(0, .ref 120), (1, .int (nI i)), (2, .int z), (3, .int (nI (k + 1)))] [] (wf_ms m 121 (12 + 3 * k) y) := fun z e1 e2 => by
        rw [e2]
        cases f with
        | zero => omega
        | succ f => exact pour_loop hI hi hs p h f (k + 1) _ (by omega) (by omega) (ho.tr (RO.ms (Or.inl rfl))) (by rw [ms121 em, e1]) (by rw [msA _ _ _ _ (by decide)]; exact e125) (fun j hj => by rw [msA _ _ _ _ (by decide)]; exact e126 j hj)
      rcases hy with ⟨q1, q2⟩ | ⟨q1, q2⟩
      · refine ⟨fun c => absurd q2 c, fun c z ez => nx z ?_ ?_⟩
        · rw [un, if_pos (Or.inl q1), upd_id _ _ q2]
        · rw [un, if_pos (Or.inl q1), ez]; grind
      · refine ⟨fun c z ez => nx z ?_ ?_, fun c z ez => nx z ?_ ?_⟩
        · rw [un, if_neg (fun o => o.elim q1 (fun o => c (q2.trans o))), q2]
        · rw [un, if_neg (fun o => o.elim q1 (fun o => c (q2.trans o))), ez]
        · rw [un, if_pos (Or.inr (q2.symm.trans c)), upd_id _ _ c]
        · rw [un, if_pos (Or.inr (q2.symm.trans c)), ez]; grind
    refine ⟨fun c => c_within _ _ (fin _ (Or.inr ⟨c, rfl⟩)), fun c => c_wagonsOwn k 0 (by omega) (fin _ (Or.inl ⟨c, ?_⟩))⟩
    rw [em]; rfl
theorem kpour_loop (hI : okR r) {i s : Nat} (hi : i < 4) (hs : s ≤ 24) (p : Nat → Int32) (h : ∀ m', Fr CO mem m' → Rel 41 m' (poA p r (min s (rN r))).1 → P (poA p r (min s (rN r))).2 m') : ∀ (f k : Nat) (m : wf_Mem), min s (rN r) - k ≤ f → k ≤ min s (rN r) → Fr CO mem m → Rel 41 m (poA p r k).1 → m (92 + 2 * i) 1 = nI s → (∀ j, j < 24 → m (92 + 2 * i + 1) j = p j) → Vw (Ni (d + 3) P) mX8_pour 33 [(0, .ref 0), (2, .ref (92 + 2 * i)), (3, .int (poA p r k).2), (4, .int (nI k))] [] m
  | f, k, m, hf, hk, ho, hR, e1, ep => by
    obtain ⟨hn, hn2⟩ := hI.n
    have hp := poA_ok (p := p) hI k (by omega)
    have ec : (nI s ≤ nI k) ↔ s ≤ k := nI_leI (by omega) (by omega)
    have ec2 : (nI (rN r) ≤ nI k) ↔ rN r ≤ k := nI_leI (by omega) (by omega)
    have hm : m 42 0 = nI (rN r) := by rw [← hn, ← hp.2.1.1]; exact hR.1.1
    refine b_X8_pour_33 _ _ (sh_w hi) _ _ ?_
    rw [hm, e1, ec, ec2, nI_clamp (by omega), ep k (by omega)]
    have stop : k = min s (rN r) → P (poA p r k).2 m := fun e => by
      have h' := h m ho (by rw [← e]; exact hR)
      rw [← e] at h'; exact h'
    refine ⟨fun g => stop (by omega), fun g => ⟨fun g2 => stop (by omega), fun g2 => ⟨vin (by omega), k_heldc _ 99 (by decide) ?_⟩⟩⟩
    have un : poA p r (k + 1) = if p k = -1000000005 ∨ clp (p k) 99 = (poA p r k).1 (12 + 3 * k) then poA p r k else (upd (poA p r k).1 (12 + 3 * k) (clp (p k) 99), (poA p r k).2 + 1) := rfl
    have ef : m 43 k = (poA p r k).1 (12 + 3 * k) := (hR.2.1 k (by rw [hp.2.1.N]; omega)).1
    rw [ep k (by omega), ef, show nI k + 1 = nI (k + 1) from nI_1 k]
    have sk : (p k = -1000000005 ∨ clp (p k) 99 = (poA p r k).1 (12 + 3 * k)) → Vw (Ni (d + 3) P) mX8_pour 33 [(0, .ref 0), (2, .ref (92 + 2 * i)), (3, .int (poA p r k).2), (4, .int (nI (k + 1)))] [] m := fun c => by
      have e : poA p r (k + 1) = poA p r k := by rw [un, if_pos c]
      cases f with
      | zero => omega
      | succ f =>
        have := kpour_loop hI hi hs p h f (k + 1) m (by omega) (by omega) ho (by rw [e]; exact hR) e1 ep
        rw [e] at this; exact this
    refine ⟨vin (by omega), fun c => sk (Or.inl c), fun c => ⟨vin (by omega), fun c2 => sk (Or.inr c2), fun c2 => ⟨vin (by omega), fun m2 f2 => ?_⟩⟩⟩
    have e : poA p r (k + 1) = (upd (poA p r k).1 (12 + 3 * k) (clp (p k) 99), (poA p r k).2 + 1) := by rw [un, if_neg (fun o => o.elim c c2)]
    subst f2
    cases f with
    | zero => omega
    | succ f =>
      have := kpour_loop hI hi hs p h f (k + 1) (wf_ms m 43 k (clp (p k) 99)) (by omega) (by omega) (ho.tr (Fr.ms (by unfold CO; omega))) (by rw [e]; exact hR.wg sh41 hp.1 (k := k) (j := 0) (by omega) (by decide) _) (by rw [msA _ _ _ _ (by omega)]; exact e1) (fun j hj => by rw [msA _ _ _ _ (by omega)]; exact ep j hj)
      rw [e] at this; exact this
theorem L_pour (hI : INV mem) (x : Int32) : Agr (d + 20) mX8_pour mX9_pour [.int x] mem := by
  obtain ⟨hO, hB, hR⟩ := hI.1
  have hsh := hI.2.2.1
  refine E_X8_pour _ (k_isSheet x (fun i hi ei => n1 ?_) (fun bad => n0 (E_X9_pour _ (c_isSheet x (fun i hi ei => absurd ⟨i, hi, ei⟩ bad) (fun _ => n0 ⟨rfl, hI⟩)))))
  obtain ⟨s, hs, es, es1⟩ := shN (hsh i hi)
  obtain ⟨t1, t2, t3, t4, t5⟩ := hsh i hi
  have ex : x.toNatClampNeg = i := by rw [ei, nI_clamp (by omega)]
  have vx : vp_in x 4 := by rw [ei]; exact vin hi
  have hn2 := hO.n.2
  rw [ex, t1]
  refine ⟨vx, fun c => ?_, fun c => ?_⟩
  · refine kpour_loop (d := d + 17) (mem := mem) hO hi hs (fun k => mem 126 (24 * i + k)) (fun m1 hF R1 => ?_) 24 0 mem (by omega) (by omega) Fr.rf hR es1 (fun j hj => (t5 j hj).1)
    refine E_X9_pour _ (c_isSheet x (fun i' _ _ => n1 ?_) (fun bad => absurd ⟨i, hi, ei⟩ bad))
    rw [ex, CO.ref hF (by decide), srt t2]
    refine ⟨vx, fun _ => ?_, fun c' => absurd c c'⟩
    rw [ei]
    have hp := poA_ok (p := fun k => mem 126 (24 * i + k)) hO (min s (rN (mem 121))) (by omega)
    refine pour_loop (d := d + 17) (mem := m1) hO hi hs (fun k => mem 126 (24 * i + k)) (fun m' ro e => ⟨rfl, hI.op hF ro R1 e hp.1 ?_ (by rw [hp.2.1.T]; exact Nat.le_refl _)⟩) 24 0 m1 (by omega) (by omega) RO.rf (CO.ref hF (by decide)) (by rw [CO.ref hF (by decide)]; exact es) (fun j _ => by rw [CO.ref hF (by decide)])
    unfold hb; rw [hp.2.2]; exact hB
  · refine E_X9_pour _ (c_isSheet x (fun i' _ _ => n1 ?_) (fun bad => absurd ⟨i, hi, ei⟩ bad))
    rw [ex, srt t2]
    exact ⟨vx, fun c' => absurd c c', fun _ => ⟨rfl, hI⟩⟩
end OPM
