/-! a camp's numbers set anew, its row likewise -/
theorem Rel.at {c : Nat} {m : wf_Mem} {r : Rw} (h : Rel c m r) : ∀ i, 3 ≤ i → i ≤ 10 → m c i = r i := by
  intro i h1 h2
  obtain ⟨-, -, a3, a4, a5, a6, a7, a8, a9, a10⟩ := h.1
  have : i = 3 ∨ i = 4 ∨ i = 5 ∨ i = 6 ∨ i = 7 ∨ i = 8 ∨ i = 9 ∨ i = 10 := by omega
  rcases this with rfl | rfl | rfl | rfl | rfl | rfl | rfl | rfl <;> assumption
theorem RelT.sm {c : Nat} {m : wf_Mem} {r r' : Rw} (h : RelT c m r) (hs : sm r r') : RelT c m r' := by
  obtain ⟨h1, h2, h3⟩ := h
  refine ⟨h1.trans hs.2.2.1.symm, fun k hk => by rw [hs.T, cntR_congr hs.2.2.2]; exact h2 k hk, fun t ht => ?_⟩
  rw [hs.T] at ht
  obtain ⟨e1, e2, e3, e4⟩ := tx_congr hs.2.2.2 t
  have hl := h3 t ht
  unfold lwT at hl ⊢
  rw [e1, e4, hs.2.2.2 (88 + 200 * t + 1) (by omega), hs.2.2.2 (88 + 200 * t + 2) (by omega)]
  exact ⟨hl.1, hl.2.1, hl.2.2.1, fun k hk => by rw [e2]; exact hl.2.2.2 k hk⟩
theorem Rel_mk {c : Nat} {m m' : wf_Mem} {r r' : Rw} (hc : wf_sh c = (0, 0)) (hI : okR r) (h : Rel c m r) (hs : sm r r') (hm : ∀ a, a < 41 ∨ a = c + 6 → m' a = m a) (h0 : m' (c + 1) 0 = m (c + 1) 0) (h2 : m' c 2 = m c 2) (h12 : m' c 12 = m c 12)
    (lo : ∀ i, 3 ≤ i → i ≤ 10 → m' c i = r' i) (wg : ∀ k, k < rN r → m' (c + 1 + 1) k = r' (12 + 3 * k) ∧ m' (c + 1 + 2) k = r' (12 + 3 * k + 1) ∧ m' (c + 1 + 3) k = r' (12 + 3 * k + 2)) (wt : ∀ w, w < rW r → ∀ j, j < 5 → m' (c + 5 + 4 + w) j = r' (48 + 5 * w + j)) : Rel c m' r' := by
  have ht := hI.t.2
  refine ⟨⟨h0.trans (h.1.1.trans hs.1.symm), h2.trans (h.1.2.1.trans hs.2.1.symm), lo 3 (by decide) (by decide), lo 4 (by decide) (by decide), lo 5 (by decide) (by decide), lo 6 (by decide) (by decide), lo 7 (by decide) (by decide), lo 8 (by decide) (by decide), lo 9 (by decide) (by decide), lo 10 (by decide) (by decide)⟩, fun k hk => wg k (by rw [← hs.N]; exact hk), fun w hw => wt w (by rw [← hs.W]; exact hw), ?_⟩
  have hT := RelT.sm h.2.2.2 hs
  obtain ⟨g1, g2, g3⟩ := hT
  refine ⟨h12.trans g1, fun k hk => by rw [hm (c + 6) (Or.inr rfl)]; exact g2 k hk, fun t ht2 => ?_⟩
  have hl := g3 t ht2
  rw [hs.T] at ht2
  unfold lwT at hl ⊢
  rw [hm (10 + 1 + 2 * t) (Or.inl (by omega)), hm (10 + 1 + 2 * t + 1) (Or.inl (by omega))]
  exact hl
theorem camp_ge {c : Nat} (h : wf_sh c = (0, 0)) : 41 ≤ c := by rcases camp3 h with rfl | rfl | rfl <;> decide
theorem Rel.lo {c : Nat} {m : wf_Mem} {r : Rw} (hc : wf_sh c = (0, 0)) (hI : okR r) (h : Rel c m r) {i : Nat} (h3 : 3 ≤ i) (h10 : i ≤ 10) (v : Int32) : Rel c (wf_ms m c i v) (upd r i v) := by
  have h41 := camp_ge hc
  refine Rel_mk hc hI h (sm.u h3 (by omega)) (fun a ha => wf_ms_other _ _ _ _ (by omega)) (msA _ _ _ _ (by omega)) (msK _ _ _ _ (by omega)) (msK _ _ _ _ (by omega)) (fun j a b => ?_) (fun k hk => ?_) (fun w hw j hj => ?_)
  · by_cases e : j = i
    · subst e; rw [msS, updS]
    · rw [msK _ _ _ _ e, updN _ _ e]; exact h.at j a b
  · rw [msA _ _ _ _ (by omega), msA _ _ _ _ (by omega), msA _ _ _ _ (by omega), updN _ _ (by omega), updN _ _ (by omega), updN _ _ (by omega)]
    exact h.2.1 k hk
  · rw [msA _ _ _ _ (by omega), updN _ _ (by omega)]
    exact h.2.2.1 w hw j hj
theorem Rel.wg {c : Nat} {m : wf_Mem} {r : Rw} (hc : wf_sh c = (0, 0)) (hI : okR r) (h : Rel c m r) {k j : Nat} (hk : k < 12) (hj : j < 3) (v : Int32) : Rel c (wf_ms m (c + 1 + (j + 1)) k v) (upd r (12 + 3 * k + j) v) := by
  have h41 := camp_ge hc
  have hn := hI.n.2
  refine Rel_mk hc hI h (sm.u (by omega) (by omega)) (fun a ha => wf_ms_other _ _ _ _ (by omega)) (msA _ _ _ _ (by omega)) (msA _ _ _ _ (by omega)) (msA _ _ _ _ (by omega)) (fun j a b => ?_) (fun k2 hk2 => ?_) (fun w hw j hj => ?_)
  · rw [msA _ _ _ _ (by omega), updN _ _ (by omega)]; exact h.at j a b
  · obtain ⟨g0, g1, g2⟩ := h.2.1 k2 hk2
    have : j = 0 ∨ j = 1 ∨ j = 2 := by omega
    by_cases e : k2 = k
    · subst e
      rcases this with rfl | rfl | rfl
      · refine ⟨?_, by rw [msA _ _ _ _ (by omega), updN _ _ (by omega)]; exact g1, by rw [msA _ _ _ _ (by omega), updN _ _ (by omega)]; exact g2⟩
        show wf_ms m (c + 1 + 1) k2 v (c + 1 + 1) k2 = upd r (12 + 3 * k2) v (12 + 3 * k2)
        rw [msS, updS]
      · rw [updN _ _ (by omega), updS, msA _ _ _ _ (by omega), msS, msA _ _ _ _ (by omega), updN _ _ (by omega)]; exact ⟨g0, rfl, g2⟩
      · rw [updN _ _ (by omega), updN _ _ (by omega), updS, msA _ _ _ _ (by omega), msA _ _ _ _ (by omega), msS]; exact ⟨g0, g1, rfl⟩
    · rw [msK _ _ _ _ e, msK _ _ _ _ e, msK _ _ _ _ e, updN _ _ (by omega), updN _ _ (by omega), updN _ _ (by omega)]
      exact ⟨g0, g1, g2⟩
  · rw [msA _ _ _ _ (by omega), updN _ _ (by omega)]
    exact h.2.2.1 w hw j hj
theorem Rel.wt {c : Nat} {m : wf_Mem} {r : Rw} (hc : wf_sh c = (0, 0)) (hI : okR r) (h : Rel c m r) {w j : Nat} (hw8 : w < 8) (hj : j < 5) (v : Int32) : Rel c (wf_ms m (c + 5 + 4 + w) j v) (upd r (48 + 5 * w + j) v) := by
  have h41 := camp_ge hc
  have hn := hI.n.2
  refine Rel_mk hc hI h (sm.u (by omega) (by omega)) (fun a ha => wf_ms_other _ _ _ _ (by omega)) (msA _ _ _ _ (by omega)) (msA _ _ _ _ (by omega)) (msA _ _ _ _ (by omega)) (fun j a b => ?_) (fun k2 hk2 => ?_) (fun w2 hw2 j2 hj2 => ?_)
  · rw [msA _ _ _ _ (by omega), updN _ _ (by omega)]; exact h.at j a b
  · rw [msA _ _ _ _ (by omega), msA _ _ _ _ (by omega), msA _ _ _ _ (by omega), updN _ _ (by omega), updN _ _ (by omega), updN _ _ (by omega)]
    exact h.2.1 k2 hk2
  · by_cases e : w2 = w
    · subst e
      by_cases e2 : j2 = j
      · subst e2; rw [msS, updS]
      · rw [msK _ _ _ _ e2, updN _ _ (by omega)]; exact h.2.2.1 w2 hw2 j2 hj2
    · rw [msA _ _ _ _ (by omega), updN _ _ (by omega)]; exact h.2.2.1 w2 hw2 j2 hj2
theorem Rel.c16 {c : Nat} {m : wf_Mem} {r : Rw} (hc : wf_sh c = (0, 0)) (hI : okR r) (h : Rel c m r) (v : Int32) : Rel c (wf_ms m c 16 v) r := by
  have h41 := camp_ge hc
  refine Rel_mk hc hI h sm.rf (fun a ha => wf_ms_other _ _ _ _ (by omega)) (msA _ _ _ _ (by omega)) (msK _ _ _ _ (by omega)) (msK _ _ _ _ (by omega)) (fun j a b => ?_) (fun k hk => ?_) (fun w hw j hj => ?_)
  · rw [msK _ _ _ _ (by omega)]; exact h.at j a b
  · rw [msA _ _ _ _ (by omega), msA _ _ _ _ (by omega), msA _ _ _ _ (by omega)]
    exact h.2.1 k hk
  · rw [msA _ _ _ _ (by omega)]
    exact h.2.2.1 w hw j hj
theorem upd_id (r : Rw) (i : Nat) {v : Int32} (h : v = r i) : upd r i v = r := by
  funext j
  by_cases e : j = i
  · subst e; rw [updS]; exact h
  · rw [updN _ _ e]
/-- the camp's own cells -/
def SC (c : Nat) : Nat → Prop := fun a => a = 9 ∨ (c ≤ a ∧ a < c + 17)
theorem SM.c {c : Nat} {m m' : wf_Mem} (h : Fr (SM c) m m') : Fr (SC c) m m' := h.to (fun a h => by unfold SM at h; unfold SC; omega)
theorem S9.c {c : Nat} {m m' : wf_Mem} (h : Fr S9 m m') : Fr (SC c) m m' := h.to (fun a h => Or.inl h)
theorem SC.ms {c : Nat} {m : wf_Mem} {a k : Nat} {v : Int32} (h : c ≤ a ∧ a < c + 17) : Fr (SC c) m (wf_ms m a k v) := Fr.ms (Or.inr h)
section CLSC
variable {d : Nat} {mem : wf_Mem} {P : Int32 → wf_Mem → Prop} {Q : wf_Mem → Prop} {r : Rw} {c : Nat}
theorem burn_loop (hc : wf_sh c = (0, 0)) (hI : okR r) : ∀ (j k : Nat) (mem : wf_Mem), Rel c mem (bnA r k) → k + j = rN r → (∀ mem', Fr (SC c) mem mem' → Rel c mem' (bnR r) → P (woA r (rN r)) mem') →
    Vw (Ni d P) mX0_burn 4 [(0, .ref c), (1, .int (woA r k)), (2, .int (nI k))] [] mem := by
  obtain ⟨hn, hn2⟩ := hI.n
  have hw01 : ∀ k, woA r k = 0 ∨ woA r k = 1 := by
    intro k
    induction k with
    | zero => exact Or.inl rfl
    | succ k ih =>
      unfold woA
      split
      · exact ih
      · exact Or.inr rfl
  intro j
  induction j with
  | zero =>
    intro k mem hR hj h
    have hk : k = rN r := by omega
    subst hk
    refine b_X0_burn_4 _ _ hc _ _ (br_t ?_ ⟨hw01 _, h mem Fr.rf hR⟩)
    rw [hR.1.1, (bnA_ok hI (rN r) (Nat.le_refl _)).2.1, hn]; exact nI_le (Nat.le_refl _) (by omega)
  | succ j ih =>
    intro k mem hR hj h
    obtain ⟨hO, hS⟩ := bnA_ok hI k (by omega)
    have hf : mem (c + 1 + 2) k = bnA r k (12 + 3 * k + 1) := (hR.2.1 k (by rw [hS.N]; omega)).2.1
    have h3 : mem c 3 = bnA r k 3 := hR.at 3 (by decide) (by decide)
    have e1 : bnA r (k + 1) = if bnA r k (12 + 3 * k + 1) ≤ bnA r k 3 then upd (upd (bnA r k) 3 (bnA r k 3 - bnA r k (12 + 3 * k + 1))) 9 (bnA r k 9 + bnA r k (12 + 3 * k + 1)) else upd (bnA r k) (12 + 3 * k + 1) 0 := rfl
    have e2 : woA r (k + 1) = if bnA r k (12 + 3 * k + 1) ≤ bnA r k 3 then woA r k else 1 := rfl
    refine b_X0_burn_4 _ _ hc _ _ (br_f ?_ ⟨vin (by omega), ?_⟩)
    · rw [hR.1.1, hS.1, hn]; exact nI_ge (by omega) (by omega)
    rw [nI_clamp (by omega), hf, h3]
    refine ⟨fun g => ?_, fun g => ⟨vin (by omega), fun m1 f1 => ?_⟩⟩
    · rw [if_pos g] at e1 e2
      refine b_X0_burn_43 _ _ hc _ _ ⟨vin (by omega), fun m1 f1 => ⟨vin (by omega), fun m2 f2 => ?_⟩⟩
      rw [nI_clamp (by omega), hf, h3] at f1
      subst f1
      rw [nI_clamp (by omega), msK _ _ _ _ (by omega), msA _ _ _ _ (by omega), hf, hR.at 9 (by decide) (by decide)] at f2
      subst f2
      rw [nI_1, ← e2]
      have hR2 := (hR.lo hc hO (i := 3) (by decide) (by decide) (bnA r k 3 - bnA r k (12 + 3 * k + 1)))
      have hO2 : okR (upd (bnA r k) 3 (bnA r k 3 - bnA r k (12 + 3 * k + 1))) := by
        refine okR_lo hO (by omega) (by omega) (fun _ => ?_) (fun h => by omega)
        have := hO.wood
        have := (hO.wg (k := k) (by rw [hS.N]; omega)).2.1
        grind
      have hR3 := hR2.lo hc hO2 (i := 9) (by decide) (by decide) (bnA r k 9 + bnA r k (12 + 3 * k + 1))
      rw [← e1] at hR3
      exact ih (k + 1) _ hR3 (by omega) (fun m' a b => h m' (((SC.ms (by omega)).tr (SC.ms (by omega))).tr a) b)
    · subst f1
      rw [if_neg g] at e1 e2
      have hR1 := hR.wg hc hO (k := k) (j := 1) (by omega) (by decide) 0
      have hO1 : okR (upd (bnA r k) (12 + 3 * k + 1) 0) := okR_wg hO (by omega) (by decide) (by decide)
      rw [← e1] at hR1 hO1
      refine b_X0_burn_43 _ _ hc _ _ ⟨vin (by omega), fun m1 f1 => ⟨vin (by omega), fun m2 f2 => ?_⟩⟩
      rw [nI_clamp (by omega), msA _ _ _ _ (by omega), msS, h3] at f1
      subst f1
      rw [nI_clamp (by omega), msK _ _ _ _ (by omega), msA _ _ _ _ (by omega), msA _ _ _ _ (by omega), msS, hR.at 9 (by decide) (by decide)] at f2
      subst f2
      rw [nI_1, ← e2]
      have g3 : bnA r (k + 1) 3 = bnA r k 3 := by rw [e1, updN _ _ (by omega)]
      have g9 : bnA r (k + 1) 9 = bnA r k 9 := by rw [e1, updN _ _ (by omega)]
      have hR2 := hR1.lo hc hO1 (i := 3) (by decide) (by decide) (bnA r k 3 - 0)
      rw [upd_id (bnA r (k + 1)) 3 (by rw [g3]; grind)] at hR2
      have hR3 := hR2.lo hc hO1 (i := 9) (by decide) (by decide) (bnA r k 9 + 0)
      rw [upd_id (bnA r (k + 1)) 9 (by rw [g9]; grind)] at hR3
      exact ih (k + 1) _ hR3 (by omega) (fun m' a b => h m' (((SC.ms (by omega)).tr ((SC.ms (by omega)).tr (SC.ms (by omega)))).tr a) b)
theorem k_burn (hc : wf_sh c = (0, 0)) (hI : okR r) (hR : Rel c mem r) (h : ∀ mem', Fr (SC c) mem mem' → Rel c mem' (bnR r) → P (woA r (rN r)) mem') : Ci mX0_burn d [.ref c] mem P :=
  E_X0_burn _ hc (burn_loop hc hI (rN r) 0 mem hR (by omega) h)
theorem min99 {x : Int32} (h : 0 ≤ x ∧ x ≤ 99) : (if x + 1 < 99 then x + 1 else 99) = clp (x + 1) 99 := by
  unfold clp
  grind
theorem k_meet71 (hc : wf_sh c = (0, 0)) (hI : okR r) (hR : Rel c mem r) {k : Nat} (hk : k < rN r)
    (h : ∀ mem', Fr (SC c) mem mem' → mem' c 16 = mem c 16 → Rel c mem' (upd (upd r (12 + 3 * k + 2) (clp (r (12 + 3 * k + 2) + 1) 99)) 5 (clp (r 5 + 1) 99)) → Q mem') : Vw (Nv (d + 1) Q) mX0_meet 71 [(0, .ref c), (1, .int (nI k))] [] mem := by
  have hn2 := hI.n.2
  obtain ⟨g0, g1, g2⟩ := hI.wg hk
  refine b_X0_meet_71 _ _ hc _ ⟨vin (by omega), vin (by omega), fun m1 e1 m2 e2 => ?_⟩
  rw [nI_clamp (by omega), (hR.2.1 k hk).2.2, min99 g2] at e1
  subst e1
  rw [msA _ _ _ _ (by omega), hR.at 5 (by decide) (by decide), min99 hI.hung] at e2
  subst e2
  have hO1 : okR (upd r (12 + 3 * k + 2) (clp (r (12 + 3 * k + 2) + 1) 99)) := okR_wg hI (by omega) (by decide) (clp_in _ (by decide))
  exact h _ ((SC.ms (by omega)).tr (SC.ms (by omega))) (by rw [msK _ _ _ _ (by decide), msA _ _ _ _ (by omega)]) ((hR.wg hc hI (k := k) (j := 2) (by omega) (by decide) _).lo hc hO1 (i := 5) (by decide) (by decide) _)
theorem k_meet (hc : wf_sh c = (0, 0)) (hI : okR r) (hR : Rel c mem r) {k : Nat} (hk : k < rN r) (hG : mem (c + 8) k = gdR r k) (h : ∀ mem', Fr (SC c) mem mem' → mem' c 16 = mem c 16 → Rel c mem' (tkAt r k) → Q mem') : Cv mX0_meet (d + 1) [.ref c, .int (nI k)] mem Q := by
  have hn2 := hI.n.2
  unfold tkAt at h
  refine E_X0_meet _ hc _ ⟨vin (by omega), ?_⟩
  rw [nI_clamp (by omega), hG, hR.at 4 (by decide) (by decide), hR.at 5 (by decide) (by decide), (hR.2.1 k hk).1]
  refine ⟨fun c2 => ?_, fun c2 => ⟨vin (by omega), fun c3 => ?_, fun c3 => ⟨vin (by omega), vin (by omega), fun m1 e1 => ⟨vin (by omega), fun m2 e2 m3 e3 m4 e4 => ?_⟩⟩⟩⟩
  · rw [if_pos (Or.inl c2)] at h; exact k_meet71 hc hI hR hk h
  · rw [if_pos (Or.inr c3)] at h; exact k_meet71 hc hI hR hk h
  · rw [if_neg (fun g => g.elim c2 c3)] at h
    subst e1 e2
    rw [msA _ _ _ _ (by omega), msA _ _ _ _ (by omega), hR.at 8 (by decide) (by decide)] at e3
    subst e3 e4
    obtain ⟨g0, g1, g2⟩ := hI.wg hk
    have hO1 : okR (upd r (12 + 3 * k) (r (12 + 3 * k) - 1)) := okR_wg (j := 0) hI (by omega) (by decide) (by show 0 ≤ r (12 + 3 * k) - 1 ∧ r (12 + 3 * k) - 1 ≤ 99; grind)
    have hR1 : Rel c (wf_ms mem (c + 1 + 1) k (r (12 + 3 * k) - 1)) (upd r (12 + 3 * k) (r (12 + 3 * k) - 1)) := hR.wg hc hI (k := k) (j := 0) (by omega) (by decide) _
    have hO2 : okR (upd (upd r (12 + 3 * k) (r (12 + 3 * k) - 1)) (12 + 3 * k + 2) 0) := okR_wg hO1 (by omega) (by decide) (by decide)
    have hR2 := hR1.wg hc hO1 (k := k) (j := 2) (by omega) (by decide) 0
    have hO3 : okR (upd (upd (upd r (12 + 3 * k) (r (12 + 3 * k) - 1)) (12 + 3 * k + 2) 0) 8 (r 8 + 1)) := okR_lo hO2 (by omega) (by omega) (fun h => by omega) (fun h => by omega)
    have hR3 := hR2.lo hc hO2 (i := 8) (by decide) (by decide) (r 8 + 1)
    have hR4 := hR3.lo hc hO3 (i := 5) (by decide) (by decide) 0
    refine h _ ((SC.ms (by omega)).tr ((SC.ms (by omega)).tr ((SC.ms (by omega)).tr (SC.ms (by omega))))) (by rw [msK _ _ _ _ (by decide), msK _ _ _ _ (by decide), msA _ _ _ _ (by omega), msA _ _ _ _ (by omega)]) ?_
    have e : upd (upd (upd (upd r (12 + 3 * k) (r (12 + 3 * k) - 1)) (12 + 3 * k + 2) 0) 8 (r 8 + 1)) 5 0 = upd (upd (upd (upd r (12 + 3 * k) (r (12 + 3 * k) - 1)) 8 (r 8 + 1)) 5 0) (12 + 3 * k + 2) 0 := by
      funext j
      simp only [upd]
      by_cases j5 : j = 5
      · subst j5; simp <;> omega
      · by_cases j8 : j = 8
        · subst j8; simp <;> omega
        · simp [j5, j8]
    rw [← e]
    exact hR4
theorem tire_on {t m : Int32} (ht : 0 ≤ t ∧ t ≤ 999) (hm : 0 ≤ m ∧ m ≤ 99) : (if t + m < 999 then t + m else 999) = clp (t + m) 999 := by
  unfold clp
  grind
theorem tire_off {t : Int32} (ht : 0 ≤ t ∧ t ≤ 999) : (if 0 < t - 2 then t - 2 else 0) = clp (t - 2) 999 := by
  unfold clp
  grind
theorem tire_loop (hc : wf_sh c = (0, 0)) (hI : okR r) : ∀ (j w : Nat) (mem : wf_Mem), Rel c mem (trA r w) → w + j = rW r → (∀ mem', Fr (SC c) mem mem' → mem' c 16 = mem c 16 → Rel c mem' (trA r (rW r)) → Q mem') →
    Vw (Nv (d + 3) Q) mX0_tire 2 [(0, .ref c), (1, .int (nI w))] [] mem := by
  obtain ⟨hw, hw2⟩ := hI.w
  have h41 := camp_ge hc
  intro j
  induction j with
  | zero =>
    intro w mem hR hj h
    have hk : w = rW r := by omega
    subst hk
    refine b_X0_tire_2 _ _ hc _ (br_t ?_ (h mem Fr.rf rfl hR))
    rw [hR.1.2.1, (trA_ok hI (rW r) (Nat.le_refl _)).2.2.1, hw]; exact nI_le (Nat.le_refl _) (by omega)
  | succ j ih =>
    intro w mem hR hj h
    obtain ⟨hO, hS⟩ := trA_ok hI w (by omega)
    have hww : w < rW (trA r w) := by rw [hS.W]; omega
    have e : ∀ j, j < 5 → mem (c + 5 + 4 + w) j = trA r w (48 + 5 * w + j) := hR.2.2.1 w hww
    obtain ⟨g0, g1, g2, g3, g4⟩ := hO.wt hww
    have e1 : trA r (w + 1) = if trA r w (48 + 5 * w + 4) = 1 then upd (trA r w) (48 + 5 * w + 3) (clp (trA r w (48 + 5 * w + 3) + tiR (trA r w) w) 999)
        else upd (upd (trA r w) (48 + 5 * w + 3) (clp (trA r w (48 + 5 * w + 3) - 2) 999)) 7 (trA r w 7 + 1) := rfl
    refine b_X0_tire_2 _ _ hc _ (br_f ?_ ⟨vin (by omega), ?_⟩)
    · rw [hR.1.2.1, hS.2.1, hw]; exact nI_ge (by omega) (by omega)
    rw [nI_clamp (by omega), e 4 (by decide), e 3 (by decide), e 2 (by decide), nI_1]
    refine ⟨fun g m1 f1 m2 f2 => ?_, fun g => ?_⟩
    · rw [if_neg g] at e1
      rw [tire_off g3] at f1
      subst f1
      rw [msA _ _ _ _ (by omega), hR.at 7 (by decide) (by decide)] at f2
      subst f2
      have hO1 : okR (upd (trA r w) (48 + 5 * w + 3) (clp (trA r w (48 + 5 * w + 3) - 2) 999)) := okR_wt (j := 3) hO (by omega) (by omega) ⟨fun h => by omega, fun h => by omega, fun h => by omega, fun _ => clp_in _ (by decide), fun h => by omega⟩
      have hR2 := (hR.wt hc hO (w := w) (j := 3) (by omega) (by decide) (clp (trA r w (48 + 5 * w + 3) - 2) 999)).lo hc hO1 (i := 7) (by decide) (by decide) (trA r w 7 + 1)
      rw [← e1] at hR2
      exact ih (w + 1) _ hR2 (by omega) (fun m' a b f => h m' (((SC.ms (by omega)).tr (SC.ms (by omega))).tr a) (by rw [b, msK _ _ _ _ (by decide), msA _ _ _ _ (by omega)]) f)
    · rw [if_pos g] at e1
      refine k_byLaw (key := 2) hc hO hR.2.2.2 (by decide) _ _ _ _ (fun m hm => k_heldc _ _ (by decide) (fun m2 f2 => ?_))
      have et : clp (lvR (trA r w) (nI 2) (trA r w (48 + 5 * w + 3)) (trA r w (48 + 5 * w + 2)) 0 1) 99 = tiR (trA r w) w := lvR_clp _ 2 _ _ _ (n := 1) (m := 99) rfl (by decide) (by decide)
      have hti : 0 ≤ tiR (trA r w) w ∧ tiR (trA r w) w ≤ 99 := by rw [← et]; exact clp_in _ (by decide)
      have hmw : m (c + 5 + 4 + w) = mem (c + 5 + 4 + w) := hm _ (by unfold S9; omega)
      rw [hmw, e 3 (by decide), et, tire_on g3 hti] at f2
      subst f2
      have hR1 : Rel c m (trA r w) := hR.sm hc hO (S9.m hm)
      have hR2 := hR1.wt hc hO (w := w) (j := 3) (by omega) (by decide) (clp (trA r w (48 + 5 * w + 3) + tiR (trA r w) w) 999)
      rw [← e1] at hR2
      exact ih (w + 1) _ hR2 (by omega) (fun m' a b f => h m' (((S9.c hm).tr (SC.ms (by omega))).tr a) (by rw [b, msA _ _ _ _ (by omega), hm c (by unfold S9; omega)]) f)
theorem k_tire (hc : wf_sh c = (0, 0)) (hI : okR r) (hR : Rel c mem r) (h : ∀ mem', Fr (SC c) mem mem' → mem' c 16 = mem c 16 → Rel c mem' (trA r (rW r)) → Q mem') : Cv mX0_tire (d + 3) [.ref c] mem Q :=
  E_X0_tire _ hc (tire_loop hc hI (rW r) 0 mem hR (by omega) h)
theorem pass_loop (hc : wf_sh c = (0, 0)) (hI : okR r) (x : Nat) (hx : x ≤ 300) : ∀ (j k : Nat) (mem : wf_Mem), Rel c mem (hrN r k) → k + j = x → (∀ n, k = n + 1 → mem c 16 = orN (cmR (bnR (hrN r n)))) →
    (∀ mem', Fr (SC c) mem mem' → Rel c mem' (hrN r x) → (∀ n, x = n + 1 → mem' c 16 = orN (cmR (bnR (hrN r n)))) → Q mem') →
    Vw (Nv (d + 5) Q) mX0_pass 2 [(0, .ref c), (1, .int (nI x)), (2, .int (nI k))] [] mem := by
  have h41 := camp_ge hc
  intro j
  induction j with
  | zero =>
    intro k mem hR hj hcm h
    have hk : k = x := by omega
    subst hk
    exact b_X0_pass_2 _ _ hc _ _ (br_t (nI_le (Nat.le_refl _) (by omega)) (h mem Fr.rf hR hcm))
  | succ j ih =>
    intro k mem hR hj hcm h
    have hO := (hrN_ok hI k).1
    obtain ⟨hOb, hSb⟩ := bnR_ok hO
    obtain ⟨hOt, hSt⟩ := tkR_ok hOb
    obtain ⟨hn, hn2⟩ := hOb.n
    refine b_X0_pass_2 _ _ hc _ _ (br_f (nI_ge (by omega) (by omega)) (k_burn hc hO hR (fun m1 f1 R1 => k_measure hc hOb R1 (fun m2 f2 G2 => k_least hc hOb (R1.sm hc hOb f2) (fun i hi => (G2 i hi).2) (fun m3 f3 m4 e4 => ?_)))))
    subst e4
    have R3 : Rel c m3 (bnR (hrN r k)) := (R1.sm hc hOb f2).sm hc hOb (S9.m f3)
    have R4 : Rel c (wf_ms m3 c 16 (orN (cmR (bnR (hrN r k))))) (bnR (hrN r k)) := R3.c16 hc hOb _
    have F4 : Fr (SC c) mem (wf_ms m3 c 16 (orN (cmR (bnR (hrN r k))))) := (f1.tr (SM.c f2)).tr ((S9.c f3).tr (SC.ms (by omega)))
    have fin : ∀ m5, Fr (SC c) (wf_ms m3 c 16 (orN (cmR (bnR (hrN r k))))) m5 → m5 c 16 = orN (cmR (bnR (hrN r k))) → Rel c m5 (tkR (bnR (hrN r k))) → Cv mX0_tire (d + 4) [.ref c] m5 (fun mem11 => ∀ mem12 : wf_Mem, mem12 = wf_ms mem11 c 6 (mem11 c 6 + 1) → Vw (Nv (d + 5) Q) mX0_pass 2 [(0, .ref c), (1, .int (nI x)), (2, .int (nI k + 1))] [] mem12) := by
      intro m5 F5 C5 R5
      refine k_tire hc hOt R5 (fun m6 F6 C6 R6 m7 e7 => ?_)
      have hW : rW (tkR (bnR (hrN r k))) = rW (hrN r k) := by rw [hSt.W, hSb.W]
      rw [hW] at R6
      have R6 : Rel c m6 (hrX (hrN r k)) := R6
      rw [R6.at 6 (by decide) (by decide)] at e7
      subst e7
      have R7 : Rel c (wf_ms m6 c 6 (hrX (hrN r k) 6 + 1)) (hrR (hrN r k)) := R6.lo hc (hrX_ok hO).1 (i := 6) (by decide) (by decide) _
      rw [nI_1]
      exact ih (k + 1) _ R7 (by omega) (fun n hn => by have : k = n := by omega
                                                       subst this
                                                       rw [msK _ _ _ _ (by decide), C6, C5]) (fun m' a b f => h m' ((F4.tr (F5.tr (F6.tr (SC.ms (by omega))))).tr a) b f)
    rw [msS]
    refine k_has (sh_0_0 hc) _ (rN (bnR (hrN r k))) (R4.1.1.trans hn) (by omega) (fun i hi ei => z1 ?_) (fun hno => z0 ?_)
    · have e6 : wf_ms m3 c 16 (orN (cmR (bnR (hrN r k)))) c 16 = nI i := by rw [msS]; exact ei
      rw [e6]
      have hcm : cmR (bnR (hrN r k)) = nI i := by
        rcases cmR_in hOb with g | ⟨q, hq, g⟩
        · rw [g] at ei
          exact absurd (nI_pos' (n := i) (by omega)) (by rw [← ei]; decide)
        · rw [g] at ei ⊢
          unfold orN at ei
          rw [if_pos (nI_pos' (by omega))] at ei
          exact ei
      have h9 : c + 8 ≠ 9 := by omega
      refine k_meet hc hOb R4 hi ?_ (fun m5 F5 C5 R5 => fin m5 F5 (by rw [C5, msS]) ?_)
      · rw [msA _ _ _ _ (by omega), f3 _ h9]; exact (G2 i hi).2
      · unfold tkR
        rw [hcm, if_pos (nI_pos' (by omega)), nI_clamp (by omega)]
        exact R5
    · refine fin _ Fr.rf (msS _ _ _ _) ?_
      have hneg : ¬ 0 ≤ cmR (bnR (hrN r k)) := by
        rcases cmR_in hOb with g | ⟨q, hq, g⟩
        · rw [g]; decide
        · exact absurd ⟨q, hq, by rw [g]; unfold orN; rw [if_pos (nI_pos' (by omega))]⟩ hno
      unfold tkR
      rw [if_neg hneg]
      exact R4
theorem k_pass (hc : wf_sh c = (0, 0)) (hI : okR r) (hR : Rel c mem r) (x : Nat) (hx : x ≤ 300) (h : ∀ mem', Fr (SC c) mem mem' → Rel c mem' (hrN r x) → (∀ n, x = n + 1 → mem' c 16 = orN (cmR (bnR (hrN r n)))) → Q mem') : Cv mX0_pass (d + 5) [.ref c, .int (nI x)] mem Q :=
  E_X0_pass _ hc _ (pass_loop hc hI x hx x 0 mem hR (by omega) (fun n hn => by omega) h)
end CLSC
