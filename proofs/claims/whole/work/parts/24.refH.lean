/-! the reference's light, sight, guard, fears, hour -/
theorem okR.n {r : Rw} (h : okR r) : r 0 = nI (rN r) ∧ rN r ≤ 12 := h.1
theorem okR.w {r : Rw} (h : okR r) : r 1 = nI (rW r) ∧ rW r ≤ 8 := h.2.1
theorem okR.t {r : Rw} (h : okR r) : r 2 = nI (rT r) ∧ rT r ≤ 14 := h.2.2.1
theorem okR.wood {r : Rw} (h : okR r) : 0 ≤ r 3 ∧ r 3 ≤ 9999 := h.2.2.2.1
theorem okR.wolf {r : Rw} (h : okR r) : 0 ≤ r 4 ∧ r 4 ≤ 99 := h.2.2.2.2.1
theorem okR.hung {r : Rw} (h : okR r) : 0 ≤ r 5 ∧ r 5 ≤ 99 := h.2.2.2.2.2.1
theorem okR.wg {r : Rw} (h : okR r) {k : Nat} (hk : k < rN r) : (0 ≤ r (12 + 3 * k) ∧ r (12 + 3 * k) ≤ 99) ∧ (0 ≤ r (12 + 3 * k + 1) ∧ r (12 + 3 * k + 1) ≤ 9) ∧ (0 ≤ r (12 + 3 * k + 2) ∧ r (12 + 3 * k + 2) ≤ 99) := h.2.2.2.2.2.2.1 k hk
theorem okR.wt {r : Rw} (h : okR r) {w : Nat} (hw : w < rW r) : (0 ≤ r (48 + 5 * w) ∧ r (48 + 5 * w) ≤ 5) ∧ (0 ≤ r (48 + 5 * w + 1) ∧ r (48 + 5 * w + 1) ≤ 11) ∧ (1 ≤ r (48 + 5 * w + 2) ∧ r (48 + 5 * w + 2) ≤ 9) ∧ (0 ≤ r (48 + 5 * w + 3) ∧ r (48 + 5 * w + 3) ≤ 999) ∧ (r (48 + 5 * w + 4) = 0 ∨ r (48 + 5 * w + 4) = 1) := h.2.2.2.2.2.2.2.1 w hw
theorem okR.tx {r : Rw} (h : okR r) {t : Nat} (ht : t < rT r) : okT r t := h.2.2.2.2.2.2.2.2 t ht
theorem cntR_in (r : Rw) (key : Int32) : ∀ t, cntR r key t = -1 ∨ ∃ j, j < t ∧ cntR r key t = nI j ∧ r (88 + 200 * j) = key
  | 0 => Or.inl rfl
  | t + 1 => by
    unfold cntR
    by_cases h : r (88 + 200 * t) = key
    · rw [if_pos h]
      exact Or.inr ⟨t, by omega, rfl, h⟩
    · rw [if_neg h]
      rcases cntR_in r key t with h1 | ⟨j, h1, h2, h3⟩
      · exact Or.inl h1
      · exact Or.inr ⟨j, by omega, h2, h3⟩
theorem hnm0 {f : Nat → Int32} {a b c : Int32} (ha : f 102 = a) (hb : f 110 = b) (hc : f 119 = c) : ∀ q, okS 0 q → q.1 = 1 → f q.2.toNatClampNeg = nmK 0 a b c q.2 := by
  intro q hq h1
  rcases hq with g | g | g
  · exact absurd (g.1.symm.trans h1) (by decide)
  · rcases g.2 with ⟨-, g | g | g⟩ | ⟨g, -⟩ | ⟨g, -⟩
    · rw [g]; exact ha
    · rw [g]; exact hb
    · rw [g]; exact hc
    · exact absurd g (by decide)
    · exact absurd g (by decide)
  · exact absurd (g.1.symm.trans h1) (by decide)
theorem hnm1 {f : Nat → Int32} {a b c : Int32} (ha : f 103 = a) (hb : f 116 = b) (hc : f 104 = c) : ∀ q, okS 1 q → q.1 = 1 → f q.2.toNatClampNeg = nmK 1 a b c q.2 := by
  intro q hq h1
  rcases hq with g | g | g
  · exact absurd (g.1.symm.trans h1) (by decide)
  · rcases g.2 with ⟨g, -⟩ | ⟨-, g | g | g⟩ | ⟨g, -⟩
    · exact absurd g (by decide)
    · rw [g]; exact ha
    · rw [g]; exact hb
    · rw [g]; exact hc
    · exact absurd g (by decide)
  · exact absurd (g.1.symm.trans h1) (by decide)
theorem hnm2 {f : Nat → Int32} {a b c : Int32} (ha : f 116 = a) (hb : f 101 = b) : ∀ q, okS 2 q → q.1 = 1 → f q.2.toNatClampNeg = nmK 2 a b c q.2 := by
  intro q hq h1
  rcases hq with g | g | g
  · exact absurd (g.1.symm.trans h1) (by decide)
  · rcases g.2 with ⟨g, -⟩ | ⟨g, -⟩ | ⟨-, g | g⟩
    · exact absurd g (by decide)
    · exact absurd g (by decide)
    · rw [g]; exact ha
    · rw [g]; exact hb
  · exact absurd (g.1.symm.trans h1) (by decide)
theorem ms134 {m : wf_Mem} {k : Nat} {v : Int32} {r : Rw} (hr : m 121 = r) : wf_ms m 134 k v 121 = r := by rw [wf_ms_other _ _ _ _ (by decide)]; exact hr
section REFH
variable {d : Nat} {mem : wf_Mem} {P : Int32 → wf_Mem → Prop} {Q : wf_Mem → Prop} {r : Rw}
theorem c_nextFires (hr : mem 121 = r) (hI : okR r) {k : Nat} (hk : k < rN r) (h : P (nxR r k) mem) : Ci mX9_nextFires (d + 1) [.ref 120, .int (nI k)] mem P := by
  obtain ⟨hn, hn2⟩ := hI.n
  unfold nxR at h
  refine E_X9_nextFires _ (fun x ex => ?_)
  rw [hr, hn] at ex
  subst ex
  refine ⟨fun c => ?_, fun c => ⟨fun c2 => ?_, fun c2 => ?_⟩⟩
  · have h3 : 3 ≤ rN r := (nI_leI (a := 3) (by decide) (by omega)).mp c
    have hz : ¬ nI (rN r) = 0 := nI_ne0 (by omega) (by omega)
    have e1 : (nI k + 1) - (nI k + 1) / nI (rN r) * nI (rN r) = nI ((k + 1) % rN r) := by rw [nI_1, pk_rem (by omega) (by omega) (by omega)]
    have e2 : ((nI k + nI (rN r)) - 1) - ((nI k + nI (rN r)) - 1) / nI (rN r) * nI (rN r) = nI ((k + rN r - 1) % rN r) := by
      have : nI k + nI (rN r) - 1 = nI (k + rN r - 1) := by
        rw [nI_add, show k + rN r = (k + rN r - 1) + 1 by omega, nI_pred]
        rfl
      rw [this, pk_rem (by omega) (by omega) (by omega)]
    rw [e1, e2]
    have m1 := Nat.mod_lt (k + 1) (show rN r > 0 by omega)
    have m2 := Nat.mod_lt (k + rN r - 1) (show rN r > 0 by omega)
    refine ⟨hz, c_wagonsOwn _ 1 (by omega) ⟨hz, c_wagonsOwn _ 1 (by omega) ?_⟩⟩
    rw [if_neg (by omega), if_neg (by omega)] at h
    rw [hr]
    exact h
  · have h2 : 2 ≤ rN r := (nI_leI (a := 2) (by decide) (by omega)).mp c2
    have h3 : ¬ 3 ≤ rN r := fun g => c ((nI_leI (a := 3) (by decide) (by omega)).mpr g)
    have e1 : 1 - nI k = nI (1 - k) := by
      have : k = 0 ∨ k = 1 := by omega
      rcases this with rfl | rfl <;> decide
    rw [e1]
    refine c_wagonsOwn _ 1 (by omega) ?_
    rw [if_neg (by omega), if_pos (by omega)] at h
    rw [hr]
    exact h
  · have h2 : ¬ 2 ≤ rN r := fun g => c2 ((nI_leI (a := 2) (by decide) (by omega)).mpr g)
    rw [if_pos (by omega)] at h
    exact h
theorem c_light (hr : mem 121 = r) (hI : okR r) {k : Nat} (hk : k < rN r) (h : ∀ mem', sc mem mem' → P (ltR r k) mem') : Ci mX9_light (d + 2) [.ref 120, .int (nI k)] mem P := by
  obtain ⟨hn, hn2⟩ := hI.n
  unfold ltR lwR at h
  refine E_X9_light _ (c_wagonsOwn _ 1 (by omega) (c_nextFires hr hI hk (c_counts hr hI 0 ⟨fun c => ?_, fun c => ?_⟩)))
  · rw [if_pos c] at h
    rcases cntR_in r 0 (rT r) with e | ⟨j, hj, e, ekey⟩
    · rw [e] at c; exact absurd c (by decide)
    · have hj14 : j < 14 := by have := hI.t.2; omega
      rw [e, nI_clamp (by omega)] at h
      rw [e]
      intro m1 e1 m2 e2 m3 e3
      subst e1 e2 e3
      refine c_worked (ms134 (ms134 (ms134 hr))) hj14 (hI.tx hj) (r (12 + 3 * k + 1)) (nxR r k) (r 3) ?_ (fun m' hm' => c_within _ _ ?_)
      · rw [ekey]
        refine hnm0 ?_ ?_ ?_
        · simp only [wf_ms, hr]; simp
        · simp [wf_ms]
        · simp [wf_ms, hr]
      · exact h m' (((sc.ms (Or.inl rfl)).tr (sc.ms (Or.inl rfl))).tr ((sc.ms (Or.inl rfl)).tr hm'))
  · rw [if_neg c] at h
    rw [hr]
    exact h mem sc.rf
theorem c_sees52 (hr : mem 121 = r) (hI : okR r) {w k : Nat} (hw : w < rW r) (hk : k < rN r) (hat : r (48 + 5 * w + 1) = nI k) (y : Int32) (hy : y = if 0 ≤ r (48 + 5 * w + 2) - r (48 + 5 * w + 3) / 10 then r (48 + 5 * w + 2) - r (48 + 5 * w + 3) / 10 else 0)
    (h : ∀ mem', sc mem mem' → P (sgR (r (48 + 5 * w)) (r (48 + 5 * w + 2)) (r (48 + 5 * w + 3)) (ltR r k) (r (12 + 3 * k))) mem') :
    Vw (Ni (d + 3) P) mX9_sees 52 [(0, .ref 120), (1, .int (nI w)), (2, .int (nI k))] [.int y] mem := by
  have hW := hI.w.2
  have hn2 := hI.n.2
  refine b_X9_sees_52 _ _ _ _ (c_light hr hI hk (fun m hm x ex => c_of w 0 (by omega) ?_))
  have hr' : m 121 = r := hm.s.trans hr
  rw [hr', Nat.add_zero]
  have h := fun m' hm' => h m' (hm.tr hm')
  have epl : x = plR (r (48 + 5 * w + 2)) (r (48 + 5 * w + 3)) (ltR r k) := by rw [ex, hy]; rfl
  unfold sgR at h
  rw [← epl] at h
  clear epl
  refine ⟨fun c => ?_, fun c => ⟨fun c2 => ?_, fun c2 => ⟨fun c3 => ?_, fun c3 => ⟨fun c4 => ?_, fun c4 => ⟨fun c5 => ?_, fun c5 => ?_⟩⟩⟩⟩⟩
  · rw [if_pos c] at h; exact h m sc.rf
  · rw [if_neg c, if_pos c2] at h
    refine c_of w 2 (by omega) ?_
    rw [hr']
    exact h m sc.rf
  · rw [if_neg c, if_neg c2, if_pos c3] at h; exact h m sc.rf
  · rw [if_neg c, if_neg c2, if_neg c3, if_pos c4] at h
    refine c_of w 2 (by omega) (c_wagonsOwn k 0 (by omega) ?_)
    rw [hr', Nat.add_zero]
    refine ⟨fun c => ?_, fun c => ?_⟩
    · rw [if_pos c] at h; exact h m sc.rf
    · rw [if_neg c] at h; exact h m sc.rf
  · rw [if_neg c, if_neg c2, if_neg c3, if_neg c4, if_pos c5] at h
    refine c_of w 3 (by omega) ?_
    rw [hr']
    refine ⟨fun c => ?_, fun c => ?_⟩
    · rw [if_pos c] at h; exact h m sc.rf
    · rw [if_neg c] at h; exact h m sc.rf
  · rw [if_neg c, if_neg c2, if_neg c3, if_neg c4, if_neg c5] at h; exact h m sc.rf
theorem c_sees (hr : mem 121 = r) (hI : okR r) {w : Nat} (hw : w < rW r) (h : ∀ mem', sc mem mem' → P (seR r w) mem') : Ci mX9_sees (d + 3) [.ref 120, .int (nI w)] mem P := by
  have hW := hI.w.2
  obtain ⟨hn, hn2⟩ := hI.n
  unfold seR at h
  refine E_X9_sees _ (c_of w 1 (by omega) (c_of w 4 (by omega) ?_))
  rw [hr]
  refine ⟨fun c => ?_, fun c => ?_⟩
  · rw [if_pos c] at h; exact h mem sc.rf
  · rw [if_neg c] at h
    refine c_isWagon (rN r) _ (by rw [hr]; exact hn) (by omega) (fun k hk e => n1 ?_) (fun hno => n0 ?_)
    · have hin : 0 ≤ r (48 + 5 * w + 1) ∧ r (48 + 5 * w + 1) ≤ r 0 - 1 := by rw [e, hn]; exact nI_rng' hk (by omega)
      rw [if_pos hin, e, nI_clamp (by omega)] at h
      refine c_of w 2 (by omega) (c_of w 3 (by omega) (fun x ex => ?_))
      rw [hr] at ex
      rw [e]
      refine ⟨fun c2 => ?_, fun c2 => ?_⟩
      · exact c_sees52 hr hI hw hk e x (by rw [← ex, if_pos c2]) h
      · exact c_sees52 hr hI hw hk e 0 (by rw [← ex, if_neg c2]) h
    · have hin : ¬ (0 ≤ r (48 + 5 * w + 1) ∧ r (48 + 5 * w + 1) ≤ r 0 - 1) := by
        intro g
        rw [hn] at g
        obtain ⟨k, h1, h2⟩ := nI_rng g.1 g.2 (by omega)
        exact hno ⟨k, h1, h2⟩
      rw [if_neg hin] at h
      exact h mem sc.rf
theorem c_worth {w : Nat} (hw : w < 8) (h : P (wtR (mem 121 (48 + 5 * w)) (mem 121 (48 + 5 * w + 2))) mem) : Ci mX9_worth (d + 1) [.ref 120, .int (nI w)] mem P := by
  unfold wtR at h
  refine E_X9_worth _ (c_of w 2 (by omega) (c_of w 0 (by omega) ?_))
  rw [Nat.add_zero]
  refine ⟨fun c => ?_, fun c => ⟨fun c2 => ?_, fun c2 => ⟨fun c3 => ?_, fun c3 => ⟨fun c4 => ?_, fun c4 => ⟨fun c5 => ?_, fun c5 => ?_⟩⟩⟩⟩⟩
  · rw [if_pos c] at h; exact h
  · rw [if_neg c, if_pos c2] at h; exact h
  · rw [if_neg c, if_neg c2, if_pos c3] at h; exact h
  · rw [if_neg c, if_neg c2, if_neg c3, if_pos c4] at h; exact h
  · rw [if_neg c, if_neg c2, if_neg c3, if_neg c4, if_pos c5] at h; exact h
  · rw [if_neg c, if_neg c2, if_neg c3, if_neg c4, if_neg c5] at h; exact h
theorem guard_loop (hI : okR r) {k : Nat} : ∀ (j w : Nat) (mem : wf_Mem), mem 121 = r → w + j = rW r → (∀ mem', sc mem mem' → P (gdR r k) mem') →
    Vw (Ni (d + 4) P) mX9_guard 8 [(0, .ref 120), (1, .int (nI k)), (2, .int (gdA r k (ltR r k) w)), (3, .int (nI w))] [] mem := by
  obtain ⟨hw, hw2⟩ := hI.w
  intro j
  induction j with
  | zero =>
    intro w mem hr hj h
    refine b_X9_guard_8 _ _ _ _ (br_t ?_ ?_)
    · rw [hr, hw]; exact nI_le (by omega) (by omega)
    · have : w = rW r := by omega
      rw [this]; exact h mem sc.rf
  | succ j ih =>
    intro w mem hr hj h
    refine b_X9_guard_8 _ _ _ _ (br_f ?_ (c_of w 1 (by omega) ?_))
    · rw [hr, hw]; exact nI_ge (by omega) (by omega)
    · rw [hr, nI_1]
      have e1 : gdA r k (ltR r k) (w + 1) = gdA r k (ltR r k) w + (if r (48 + 5 * w + 1) = nI k then seR r w else 0) := rfl
      refine ⟨fun c x ex => ?_, fun c => c_sees hr hI (by omega) (fun m hm x ex => ?_)⟩
      · rw [if_neg c, ← ex] at e1
        rw [← e1]
        exact ih (w + 1) mem hr (by omega) h
      · rw [if_pos c, ← ex] at e1
        rw [← e1]
        exact ih (w + 1) m (hm.s.trans hr) (by omega) (fun m' hm' => h m' (hm.tr hm'))
theorem c_guard (hr : mem 121 = r) (hI : okR r) {k : Nat} (hk : k < rN r) (h : ∀ mem', sc mem mem' → P (gdR r k) mem') : Ci mX9_guard (d + 4) [.ref 120, .int (nI k)] mem P :=
  E_X9_guard _ (c_light hr hI hk (fun m hm => guard_loop hI (rW r) 0 m (hm.s.trans hr) (by omega) (fun m' hm' => h m' (hm.tr hm'))))
theorem c_fears (hr : mem 121 = r) (hI : okR r) {k : Nat} (hk : k < rN r) (h : ∀ mem', sc mem mem' → P (frR r k) mem') : Ci mX9_fears (d + 5) [.ref 120, .int (nI k)] mem P := by
  obtain ⟨hn, hn2⟩ := hI.n
  unfold frR lwR at h
  refine E_X9_fears _ (c_guard hr hI hk (fun m hm => ?_))
  have hr' : m 121 = r := hm.s.trans hr
  refine c_counts hr' hI 1 ⟨fun c => ?_, fun c => ?_⟩
  · rw [if_pos c] at h
    rcases cntR_in r 1 (rT r) with e | ⟨j, hj, e, ekey⟩
    · rw [e] at c; exact absurd c (by decide)
    · have hj14 : j < 14 := by have := hI.t.2; omega
      rw [e, nI_clamp (by omega)] at h
      rw [e]
      intro m1 e1
      subst e1
      refine c_wagonsOwn k 2 (by omega) ?_
      intro m2 e2 m3 e3
      subst e2 e3
      refine c_worked (ms134 (ms134 (ms134 hr'))) hj14 (hI.tx hj) (gdR r k) (r (12 + 3 * k + 2)) (r 5) ?_ (fun m' hm' => c_within _ _ ?_)
      · rw [ekey]
        refine hnm1 ?_ ?_ ?_
        · simp [wf_ms]
        · simp [wf_ms, hr']
        · simp [wf_ms, hr']
      · exact h m' (hm.tr (((sc.ms (Or.inl rfl)).tr (sc.ms (Or.inl rfl))).tr ((sc.ms (Or.inl rfl)).tr hm')))
  · rw [if_neg c] at h
    refine c_wagonsOwn k 2 (by omega) ?_
    rw [hr']
    exact h m hm
end REFH
