/-! lay, keep, back -/
/-- rows that are the same where texts and all else lie -/
def eqA (r r' : Rw) : Prop := ∀ j, j < 2888 → r' j = r j
theorem eqA.N {r r' : Rw} (h : eqA r r') : rN r' = rN r := by unfold rN; rw [h 0 (by decide)]
theorem eqA.W {r r' : Rw} (h : eqA r r') : rW r' = rW r := by unfold rW; rw [h 1 (by decide)]
theorem eqA.T {r r' : Rw} (h : eqA r r') : rT r' = rT r := by unfold rT; rw [h 2 (by decide)]
theorem eqA.mn {r r' : Rw} (h : eqA r r') {t : Nat} (ht : t < 14) : mnR r' t = mnR r t := by unfold mnR; rw [h _ (by omega)]
theorem eqA.st {r r' : Rw} (h : eqA r r') {t k : Nat} (ht : t < 14) (hk : k < 96) : stR r' t k = stR r t k := by unfold stR; rw [h _ (by omega), h _ (by omega)]
theorem eqA.tx {r r' : Rw} (h : eqA r r') {t : Nat} (ht : t < 14) (hm : mnR r t ≤ 96) : txR r' t = txR r t := by
  unfold txR
  rw [h.mn ht]
  apply List.map_congr_left
  intro k hk
  rw [List.mem_range] at hk
  exact h.st ht (by omega)
theorem eqA.cnt {r r' : Rw} (h : eqA r r') (key : Int32) : ∀ t, t ≤ 14 → cntR r' key t = cntR r key t
  | 0, _ => rfl
  | t + 1, ht => by
    unfold cntR
    rw [h _ (by omega), h.cnt key t (by omega)]
theorem eqA.ok {r r' : Rw} (h : eqA r r') (hI : okR r) : okR r' := by
  have n2 := hI.n.2
  have w2 := hI.w.2
  have t2 := hI.t.2
  unfold okR
  rw [h.N, h.W, h.T, h 0 (by decide), h 1 (by decide), h 2 (by decide), h 3 (by decide), h 4 (by decide), h 5 (by decide)]
  refine ⟨hI.n, hI.w, hI.t, hI.wood, hI.wolf, hI.hung, fun k hk => ?_, fun w hw => ?_, fun t ht => ?_⟩
  · rw [h _ (by omega), h _ (by omega), h _ (by omega)]; exact hI.wg hk
  · rw [h _ (by omega), h _ (by omega), h _ (by omega), h _ (by omega), h _ (by omega)]; exact hI.wt hw
  · obtain ⟨a, b, c, e, f⟩ := hI.tx ht
    unfold okT
    rw [h.mn (by omega), h.tx (by omega) c, h _ (by omega : 88 + 200 * t < 2888), h _ (by omega : 88 + 200 * t + 2 < 2888)]
    exact ⟨a, b, c, fun k hk => by rw [h.st (by omega) (by omega)]; exact e k hk, f⟩
theorem eqA.rel {r r' : Rw} {c : Nat} {m : wf_Mem} (h : eqA r r') (hI : okR r) (hR : Rel c m r) : Rel c m r' := by
  have n2 := hI.n.2
  have w2 := hI.w.2
  have t2 := hI.t.2
  obtain ⟨a, b, e, f1, f2, f3⟩ := hR
  refine ⟨?_, fun k hk => ?_, fun w hw j hj => ?_, ?_, fun key hk => ?_, fun t ht => ?_⟩
  · rw [h 0 (by decide), h 1 (by decide), h 3 (by decide), h 4 (by decide), h 5 (by decide), h 6 (by decide), h 7 (by decide), h 8 (by decide), h 9 (by decide), h 10 (by decide)]; exact a
  · rw [h.N] at hk
    rw [h _ (by omega), h _ (by omega), h _ (by omega)]; exact b k hk
  · rw [h.W] at hw
    rw [h _ (by omega)]; exact e w hw j hj
  · rw [h 2 (by decide)]; exact f1
  · rw [h.T, h.cnt _ _ t2]; exact f2 key hk
  · rw [h.T] at ht
    obtain ⟨g1, g2, g3, g4⟩ := f3 t ht
    have c := (hI.tx ht).2.2.1
    unfold lwT
    rw [h.mn (by omega), h _ (by omega : 88 + 200 * t < 2888), h _ (by omega : 88 + 200 * t + 1 < 2888), h _ (by omega : 88 + 200 * t + 2 < 2888)]
    exact ⟨g1, g2, g3, fun k hk => by rw [h.st (by omega) (by omega)]; exact g4 k hk⟩
section OPP
variable {d : Nat} {mem : wf_Mem} {P : Int32 → wf_Mem → Prop} {Q : wf_Mem → Prop} {r : Rw}
theorem aside_loop {a b n1 n2 : Nat} (ha : wf_sh a = (20, n1)) (hb : wf_sh b = (20, n2)) (h1 : 2888 ≤ n1) (h2 : 2888 ≤ n2) (h3 : n1 < 2 ^ 30) (h4 : n2 < 2 ^ 30) (hab : a ≠ b) (h : ∀ m', Fr (fun c => c = b) mem m' → (∀ j, j < 2888 → m' b j = mem a j) → (∀ j, 2888 ≤ j → m' b j = mem b j) → Q m') : ∀ (f k : Nat) (m : wf_Mem), 2888 - k ≤ f → k ≤ 2888 → Fr (fun c => c = b) mem m → (∀ j, j < k → m b j = mem a j) → (∀ j, k ≤ j → m b j = mem b j) → Vw (Nv d Q) mX9_setAside 2 [(1, .ref a), (2, .ref b), (3, .int (nI k))] [] m
  | f, k, m, hf, hk, ho, hj, hh => by
    have ec : (2888 ≤ nI k) ↔ 2888 ≤ k := nI_leI (a := 2888) (by decide) (by omega)
    refine b_X9_setAside_2 _ _ _ ha _ _ hb _ ?_
    rw [ec]
    refine ⟨fun g => h m ho (fun j q => hj j (by omega)) (fun j q => hh j (by omega)), fun g => ⟨vp_in_nI (by omega) (by omega), vp_in_nI (by omega) (by omega), fun m2 f2 => ?_⟩⟩
    rw [nI_clamp (by omega), ho a hab] at f2
    rw [nI_1]
    cases f with
    | zero => omega
    | succ f =>
      refine aside_loop ha hb h1 h2 h3 h4 hab h f (k + 1) m2 (by omega) (by omega) (by rw [f2]; exact ho.tr (Fr.ms rfl)) (fun j q => ?_) (fun j q => by rw [f2, msK _ _ _ _ (by omega)]; exact hh j (by omega))
      rw [f2]
      by_cases e : j = k
      · rw [e, msS]
      · rw [msK _ _ _ _ e]; exact hj j (by omega)
theorem c_aside {a b : Nat} (ha : wf_sh a = (20, 3088)) (hb : wf_sh b = (20, 3088)) (hab : a ≠ b) (h : ∀ m', Fr (fun c => c = b) mem m' → (∀ j, j < 2888 → m' b j = mem a j) → (∀ j, 2888 ≤ j → m' b j = mem b j) → Q m') : Cv mX9_setAside d [.ref 120, .ref a, .ref b] mem Q :=
  E_X9_setAside _ _ ha _ _ hb (aside_loop ha hb (by decide) (by decide) (by decide) (by decide) hab h 2888 0 mem (by omega) (by omega) Fr.rf (fun j q => by omega) (fun _ _ => rfl))
theorem L_keep (hI : INV mem) : Agr (d + 20) mX8_keep mX9_keep [] mem := by
  obtain ⟨hO, hB, hR⟩ := hI.1
  refine E_X8_keep (k_takeFrom sh58 sh41 (by decide) hO hR (fun m1 f1 R1 m2 f2 => ?_))
  have u1 : ∀ a, a ≠ 0 → (a < 58 ∨ 75 ≤ a) → m2 a = mem a := fun a h0 ha => by rw [f2, wf_ms_other _ _ _ _ h0, f1 a (by unfold SD; omega)]
  refine E_X9_keep (fun m3 f3 => c_aside rfl rfl (by decide) (fun m4 f4 g1 g2 => ?_))
  have u2 : ∀ a, a ≠ 0 → a ≠ 120 → a ≠ 122 → (a < 58 ∨ 75 ≤ a) → m4 a = mem a := fun a h0 h1 h2 ha => by rw [f4 a h2, f3, wf_ms_other _ _ _ _ h1, u1 a h0 ha]
  have u0 : ∀ j, j ≠ 10 → m4 0 j = mem 0 j := fun j hj => by rw [f4 0 (by decide), f3, msA _ _ _ _ (by decide), f2, msK _ _ _ _ hj, f1 0 (by unfold SD; omega)]
  have u120 : ∀ j, j ≠ 3 → m4 120 j = mem 120 j := fun j hj => by rw [f4 120 (by decide), f3, msK _ _ _ _ hj, u1 120 (by decide) (by omega)]
  have e121 : m4 121 = mem 121 := u2 121 (by decide) (by decide) (by decide) (by omega)
  have eqa : eqA (mem 121) (m4 122) := fun j hj => by rw [g1 j hj, f3, msA _ _ _ _ (by decide), u1 121 (by decide) (by omega)]
  obtain ⟨h1, h2, h3, h4, h5, h6⟩ := hI
  refine ⟨?_, h1.fr e121 (fun a ha => u2 a (by unfold RdC at ha; omega) (by unfold RdC at ha; omega) (by unfold RdC at ha; omega) (by unfold RdC at ha; omega)), ⟨?_, ?_, fun _ => ?_⟩, fun k hk => (h3 k hk).fr ?_ ?_ (fun j hj => ?_) ?_ ?_, fun k hk => (h4 k hk).fr ?_ ?_ ?_ ?_ (fun j hj => ?_) (fun i hi => ?_), h5.fr (u0 9 (by decide)) (u120 31 (by decide)) (u2 8 (by decide) (by decide) (by decide) (by omega)) (u2 137 (by decide) (by decide) (by decide) (by omega)), h6.fr (by rw [u2 3 (by decide) (by decide) (by decide) (by omega)]) (u120 16 (by decide)) (u2 4 (by decide) (by decide) (by decide) (by omega)) (u2 133 (by decide) (by decide) (by decide) (by omega))⟩
  · rw [e121, u1 42 (by decide) (by omega)]; exact hR.1.1
  · right; rw [f4 0 (by decide), f3, msA _ _ _ _ (by decide), f2, msS]
  · rw [f4 120 (by decide), f3, msS, f4 0 (by decide), f3, msA _ _ _ _ (by decide), f2, msS]
  · refine ⟨eqa.ok hO, ?_, eqa.rel hO (R1.go hO (fun a ha => ?_)), by rw [eqa.T, e121]; exact Nat.le_refl _⟩
    · unfold hb; rw [eqa 6 (by decide)]; exact hB
    · have : a ≠ 0 ∧ a ≠ 120 ∧ a ≠ 122 := by unfold RdC at ha; omega
      rw [f4 a this.2.2, f3, wf_ms_other _ _ _ _ this.2.1, f2, wf_ms_other _ _ _ _ this.1]
  · rw [u2 124 (by decide) (by decide) (by decide) (by omega)]
  · rw [u2 125 (by decide) (by decide) (by decide) (by omega)]
  · rw [u2 126 (by decide) (by decide) (by decide) (by omega)]
  · exact u2 _ (by omega) (by omega) (by omega) (by omega)
  · exact u2 _ (by omega) (by omega) (by omega) (by omega)
  · rw [u2 127 (by decide) (by decide) (by decide) (by omega)]
  · rw [u2 128 (by decide) (by decide) (by decide) (by omega)]
  · rw [u2 129 (by decide) (by decide) (by decide) (by omega)]
  · rw [u2 130 (by decide) (by decide) (by decide) (by omega)]
  · rw [u2 131 (by decide) (by decide) (by decide) (by omega)]
  · exact u2 _ (by omega) (by omega) (by omega) (by omega)
theorem L_back (hI : INV mem) : Agr (d + 20) mX8_back mX9_back [] mem := by
  obtain ⟨i1, i2, i3⟩ := hI.2.1
  refine E_X8_back ⟨fun c => ?_, fun c => E_X9_back ⟨fun c' => absurd (i2.trans c) c', fun _ => ⟨rfl, hI⟩⟩⟩
  have c1 : mem 0 10 = 1 := i1.resolve_left c
  obtain ⟨hO, hB, hR, hT⟩ := i3 c1
  refine k_takeFrom sh41 sh58 (by decide) hO hR (fun m1 f1 R1 => ?_)
  have u1 : ∀ a, (a < 41 ∨ 58 ≤ a) → m1 a = mem a := fun a ha => f1 a (by unfold SD; omega)
  refine E_X9_back ⟨fun _ => c_aside rfl rfl (by decide) (fun m2 f2 g1 g2 => ?_), fun c' => absurd c' (by rw [u1 120 (by omega), i2, c1]; decide)⟩
  have u2 : ∀ a, a ≠ 121 → (a < 41 ∨ 58 ≤ a) → m2 a = mem a := fun a h0 ha => by rw [f2 a h0, u1 a ha]
  have eqa : eqA (mem 122) (m2 121) := fun j hj => by rw [g1 j hj, u1 122 (by omega)]
  obtain ⟨h1, h2, h3, h4, h5, h6⟩ := hI
  refine ⟨?_, ⟨eqa.ok hO, ?_, eqa.rel hO (R1.go hO (fun a ha => f2 a (by unfold RdC at ha; omega)))⟩, ⟨?_, ?_, fun _ => ?_⟩, fun k hk => (h3 k hk).fr ?_ ?_ (fun j hj => ?_) ?_ ?_, fun k hk => (h4 k hk).fr ?_ ?_ ?_ ?_ (fun j hj => ?_) (fun i hi => ?_), h5.fr (by rw [u2 0 (by decide) (by omega)]) (by rw [u2 120 (by decide) (by omega)]) (u2 8 (by decide) (by omega)) (u2 137 (by decide) (by omega)), h6.fr (by rw [u2 3 (by decide) (by omega)]) (by rw [u2 120 (by decide) (by omega)]) (u2 4 (by decide) (by omega)) (u2 133 (by decide) (by omega))⟩
  · rw [eqa 0 (by decide)]; exact R1.1.1
  · unfold hb; rw [eqa 6 (by decide)]; exact hB
  · rw [u2 0 (by decide) (by omega)]; exact i1
  · rw [u2 0 (by decide) (by omega), u2 120 (by decide) (by omega)]; exact i2
  · rw [u2 122 (by decide) (by omega)]
    exact ⟨hO, hB, hR.go hO (fun a ha => u2 a (by unfold RdC at ha; omega) (by unfold RdC at ha; omega)), by rw [eqa.T]; exact Nat.le_refl _⟩
  · rw [u2 124 (by decide) (by omega)]
  · rw [u2 125 (by decide) (by omega)]
  · rw [u2 126 (by decide) (by omega)]
  · exact u2 _ (by omega) (by omega)
  · exact u2 _ (by omega) (by omega)
  · rw [u2 127 (by decide) (by omega)]
  · rw [u2 128 (by decide) (by omega)]
  · rw [u2 129 (by decide) (by omega)]
  · rw [u2 130 (by decide) (by omega)]
  · rw [u2 131 (by decide) (by omega)]
  · exact u2 _ (by omega) (by omega)
end OPP
