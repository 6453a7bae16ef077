/-! the operations, one by one: the class's call, then the reference's: the same answer, and the invariant again -/
abbrev Agr (D : Nat) (Mx Mm : wf_M) (as : List Value) (mem : wf_Mem) : Prop := Ci Mx D (.ref 0 :: as) mem (fun r m1 => Ci Mm D (.ref 120 :: as) m1 (fun r2 m2 => r = r2 ∧ INV m2))
/-- one more wagon -/
def wagR (r : Rw) (x : Int32) : Rw := upd (upd (upd (upd r (12 + 3 * rN r) x) (12 + 3 * rN r + 1) 0) (12 + 3 * rN r + 2) 0) 0 (r 0 + 1)
theorem wagR_at (r : Rw) (x : Int32) (j : Nat) : wagR r x j = if j = 0 then r 0 + 1 else if j = 12 + 3 * rN r + 2 then 0 else if j = 12 + 3 * rN r + 1 then 0 else if j = 12 + 3 * rN r then x else r j := by
  unfold wagR
  simp only [upd]
theorem wagR_o (r : Rw) (x : Int32) {j : Nat} (h0 : j ≠ 0) (h : j < 12 + 3 * rN r ∨ 12 + 3 * rN r + 2 < j) : wagR r x j = r j := by
  rw [wagR_at, if_neg h0, if_neg (by omega), if_neg (by omega), if_neg (by omega)]
theorem wagR_N {r : Rw} (hI : okR r) (x : Int32) : wagR r x 0 = nI (rN r + 1) ∧ rN (wagR r x) = rN r + 1 := by
  obtain ⟨hn, hn2⟩ := hI.n
  have e : wagR r x 0 = nI (rN r + 1) := by rw [wagR_at, if_pos rfl, hn, nI_1]
  refine ⟨e, ?_⟩
  show (wagR r x 0).toNatClampNeg = _
  rw [e, nI_clamp (by omega)]
theorem okR_wag {r : Rw} (hI : okR r) {x : Int32} (hn : rN r < 12) (hx : 0 ≤ x ∧ x ≤ 99) : okR (wagR r x) := by
  obtain ⟨e0, eN⟩ := wagR_N hI x
  have hw2 := hI.w.2
  have eW : rW (wagR r x) = rW r := by unfold rW; rw [wagR_o r x (by decide) (by omega)]
  have eT : rT (wagR r x) = rT r := by unfold rT; rw [wagR_o r x (by decide) (by omega)]
  unfold okR
  rw [eN, eW, eT, wagR_o r x (j := 1) (by decide) (by omega), wagR_o r x (j := 2) (by decide) (by omega), wagR_o r x (j := 3) (by decide) (by omega), wagR_o r x (j := 4) (by decide) (by omega), wagR_o r x (j := 5) (by decide) (by omega)]
  refine ⟨⟨e0, by omega⟩, hI.w, hI.t, hI.wood, hI.wolf, hI.hung, fun k hk => ?_, fun w hw => ?_, fun t ht => okT_congr (fun j hj => wagR_o r x (by omega) (by omega)) (hI.tx ht)⟩
  · by_cases e : k = rN r
    · subst e
      rw [wagR_at, wagR_at, wagR_at]
      simp only [show ¬ (12 + 3 * rN r = 0) by omega, show ¬ (12 + 3 * rN r + 1 = 0) by omega, show ¬ (12 + 3 * rN r + 2 = 0) by omega, if_false, show ¬ (12 + 3 * rN r = 12 + 3 * rN r + 2) by omega, show ¬ (12 + 3 * rN r = 12 + 3 * rN r + 1) by omega, show ¬ (12 + 3 * rN r + 1 = 12 + 3 * rN r + 2) by omega, if_true]
      exact ⟨hx, by decide, by decide⟩
    · rw [wagR_o r x (by omega) (by omega), wagR_o r x (by omega) (by omega), wagR_o r x (by omega) (by omega)]
      exact hI.wg (by omega)
  · rw [wagR_o r x (by omega) (by omega), wagR_o r x (by omega) (by omega), wagR_o r x (by omega) (by omega), wagR_o r x (by omega) (by omega), wagR_o r x (by omega) (by omega)]
    exact hI.wt hw
theorem Rel_texts {c : Nat} {m m' : wf_Mem} {r r' : Rw} (h : RelT c m r) (h2 : r' 2 = r 2) (ht : ∀ j, 88 ≤ j → r' j = r j) (hT : rT r ≤ 14) (hm : m' c 12 = m c 12) (h6 : m' (c + 6) = m (c + 6)) (hl : ∀ a, 11 ≤ a → a < 39 → m' a = m a) : RelT c m' r' := by
  have eT : rT r' = rT r := by unfold rT; rw [h2]
  obtain ⟨g1, g2, g3⟩ := h
  refine ⟨hm.trans (g1.trans h2.symm), fun k hk => by rw [h6, eT, cntR_congr ht]; exact g2 k hk, fun t htt => ?_⟩
  rw [eT] at htt
  obtain ⟨e1, e2, e3, e4⟩ := tx_congr ht t
  have hh := g3 t htt
  unfold lwT at hh ⊢
  rw [e1, e4, ht (88 + 200 * t + 1) (by omega), ht (88 + 200 * t + 2) (by omega), hl (10 + 1 + 2 * t) (by omega) (by omega), hl (10 + 1 + 2 * t + 1) (by omega) (by omega)]
  exact ⟨hh.1, hh.2.1, hh.2.2.1, fun k hk => by rw [e2]; exact hh.2.2.2 k hk⟩
theorem Rel_wag {m : wf_Mem} {r : Rw} (hI : okR r) (h : Rel 41 m r) (x : Int32) (hn : rN r < 12) : Rel 41 (wf_ms (wf_ms (wf_ms (wf_ms m (42 + 1) (rN r) x) (42 + 2) (rN r) 0) (42 + 3) (rN r) 0) 42 0 (r 0 + 1)) (wagR r x) := by
  obtain ⟨e0, eN⟩ := wagR_N hI x
  have hw2 := hI.w.2
  have eW : rW (wagR r x) = rW r := by unfold rW; rw [wagR_o r x (by decide) (by omega)]
  generalize hM : wf_ms (wf_ms (wf_ms (wf_ms m (42 + 1) (rN r) x) (42 + 2) (rN r) 0) (42 + 3) (rN r) 0) 42 0 (r 0 + 1) = M
  have ho : ∀ a, a ≠ 42 → a ≠ 43 → a ≠ 44 → a ≠ 45 → M a = m a := fun a g1 g2 g3 g4 => by
    rw [← hM, wf_ms_other _ _ _ _ g1, wf_ms_other _ _ _ _ g4, wf_ms_other _ _ _ _ g3, wf_ms_other _ _ _ _ g2]
  have hlo : ∀ i, 3 ≤ i → i ≤ 10 → M 41 i = wagR r x i := fun i a b => by
    rw [ho 41 (by decide) (by decide) (by decide) (by decide), wagR_o r x (by omega) (by omega)]; exact h.at i a b
  refine ⟨⟨?_, ?_, hlo 3 (by decide) (by decide), hlo 4 (by decide) (by decide), hlo 5 (by decide) (by decide), hlo 6 (by decide) (by decide), hlo 7 (by decide) (by decide), hlo 8 (by decide) (by decide), hlo 9 (by decide) (by decide), hlo 10 (by decide) (by decide)⟩, fun k hk => ?_, fun w hw j hj => ?_, ?_⟩
  · show M 42 0 = _
    rw [← hM, msS, wagR_at, if_pos rfl]
  · rw [ho 41 (by decide) (by decide) (by decide) (by decide), wagR_o r x (by decide) (by omega)]; exact h.1.2.1
  · rw [eN] at hk
    show M 43 k = _ ∧ M 44 k = _ ∧ M 45 k = _
    by_cases e : k = rN r
    · subst e
      rw [wagR_at, wagR_at, wagR_at]
      simp only [show ¬ (12 + 3 * rN r = 0) by omega, show ¬ (12 + 3 * rN r + 1 = 0) by omega, show ¬ (12 + 3 * rN r + 2 = 0) by omega, if_false, show ¬ (12 + 3 * rN r = 12 + 3 * rN r + 2) by omega, show ¬ (12 + 3 * rN r = 12 + 3 * rN r + 1) by omega, show ¬ (12 + 3 * rN r + 1 = 12 + 3 * rN r + 2) by omega, if_true]
      rw [← hM]
      simp [wf_ms]
    · obtain ⟨g0, g1, g2⟩ := h.2.1 k (by omega)
      rw [wagR_o r x (by omega) (by omega), wagR_o r x (by omega) (by omega), wagR_o r x (by omega) (by omega), ← hM]
      simp only [wf_ms, e]
      simpa using ⟨g0, g1, g2⟩
  · rw [eW] at hw
    rw [ho _ (by omega) (by omega) (by omega) (by omega), wagR_o r x (by omega) (by omega)]
    exact h.2.2.1 w hw j hj
  · exact Rel_texts h.2.2.2 (wagR_o r x (by decide) (by omega)) (fun j hj => wagR_o r x (by omega) (by omega)) hI.t.2 (by rw [ho 41 (by decide) (by decide) (by decide) (by decide)]) (ho 47 (by decide) (by decide) (by decide) (by decide)) (fun a g1 g2 => ho a (by omega) (by omega) (by omega) (by omega))
section OPA
variable {d : Nat} {mem : wf_Mem} {P : Int32 → wf_Mem → Prop} {Q : wf_Mem → Prop} {r : Rw}
theorem R_wagon (hr : mem 121 = r) (hI : okR r) (x : Int32) (h1 : 0 ≤ x → x ≤ 99 → rN r < 12 → ∀ m', RO mem m' → m' 121 = wagR r x → P (nI (rN r)) m') (hF : 0 ≤ x → x ≤ 99 → rN r = 12 → P (-1000000003) mem) (h0 : ¬ (0 ≤ x ∧ x ≤ 99) → P (-1000000001) mem) : Ci mX9_wagon (d + 1) [.ref 120, .int x] mem P := by
  obtain ⟨hn, hn2⟩ := hI.n
  refine E_X9_wagon _ (c_isIn x 0 99 rfl rfl (fun a b => n1 ?_) (fun a => n0 (h0 a)))
  rw [hr, hn]
  have e12 : (nI (rN r) = 12) ↔ rN r = 12 := nI_eq (b := 12) (by omega) (by decide)
  rw [e12]
  refine ⟨fun g y ey => ?_, fun g => hF a b g⟩
  rw [ixw0] at ey
  subst ey
  refine ⟨vin (by omega), fun m1 f1 => ⟨by rw [nI_1]; exact vin (by omega), fun m2 f2 => ⟨by rw [nI_2]; exact vin (by omega), fun m3 f3 m4 f4 => ?_⟩⟩⟩
  rw [nI_clamp (by omega)] at f1
  rw [nI_1, nI_clamp (by omega)] at f2
  rw [nI_2, nI_clamp (by omega)] at f3
  have hm3 : m3 121 = upd (upd (upd r (12 + 3 * rN r) x) (12 + 3 * rN r + 1) 0) (12 + 3 * rN r + 2) 0 := by rw [f3, ms121]; rw [f2, ms121]; rw [f1, ms121 hr]
  have h30 : m3 121 0 = r 0 := by rw [hm3, updN _ _ (by omega), updN _ _ (by omega), updN _ _ (by omega)]
  rw [h30] at f4
  have hm4 : m4 121 = wagR r x := by rw [f4, ms121 hm3]; rfl
  have hro : RO mem m4 := by
    rw [f4, f3, f2, f1]
    exact (((RO.ms (Or.inl rfl)).tr (RO.ms (Or.inl rfl))).tr (RO.ms (Or.inl rfl))).tr (RO.ms (Or.inl rfl))
  have := h1 a b (by omega) m4 hro hm4
  rw [hm4, (wagR_N hI x).1, nI_pred]
  exact this
theorem L_wagon (hI : INV mem) (x : Int32) : Agr (d + 20) mX8_wagon mX9_wagon [.int x] mem := by
  obtain ⟨hO, hB, hR⟩ := hI.1
  obtain ⟨hn, hn2⟩ := hO.n
  have hm : mem 42 0 = nI (rN (mem 121)) := hR.1.1.trans hn
  have e12 : (nI (rN (mem 121)) < 12) ↔ rN (mem 121) < 12 := nI_ltI (b := 12) (by omega) (by decide)
  refine E_X8_wagon _ (k_within x 0 99 (fun a b => n1 (E_X3_joins _ rfl _ ?_)) (fun bad => n0 ?_))
  · rw [hm, e12]
    refine ⟨fun lt => ⟨vin (by omega), fun m1 f1 => ?_⟩, fun ge => ?_⟩
    · rw [nI_clamp (by omega)] at f1
      have g1 : m1 42 0 = nI (rN (mem 121)) := by rw [f1, msA _ _ _ _ (by decide)]; exact hm
      rw [g1, nI_clamp (by omega)]
      refine ⟨vin (by omega), fun m2 f2 => ?_⟩
      have g2 : m2 42 0 = nI (rN (mem 121)) := by rw [f2, msA _ _ _ _ (by decide)]; exact g1
      rw [g2, nI_clamp (by omega)]
      refine ⟨vin (by omega), fun m3 f3 m4 f4 => ?_⟩
      have g3 : m3 42 0 = nI (rN (mem 121)) := by rw [f3, msA _ _ _ _ (by decide)]; exact g2
      rw [g3, ← hn] at f4
      have g4 : m4 42 0 = nI (rN (mem 121) + 1) := by rw [f4, msS, hn, nI_1]
      rw [g4, nI_pred]
      subst f1 f2 f3 f4
      have hF : Fr CO mem (wf_ms (wf_ms (wf_ms (wf_ms mem (42 + 1) (rN (mem 121)) x) (42 + 2) (rN (mem 121)) 0) (42 + 3) (rN (mem 121)) 0) 42 0 (mem 121 0 + 1)) :=
        (((Fr.ms (by unfold CO; omega)).tr (Fr.ms (by unfold CO; omega))).tr (Fr.ms (by unfold CO; omega))).tr (Fr.ms (by unfold CO; omega))
      refine R_wagon (CO.ref hF (by decide)) hO x (fun _ _ _ m' ro e => ⟨rfl, hI.op hF ro (Rel_wag hO hR x lt) e (okR_wag hO lt ⟨a, b⟩) ?_ ?_⟩) (fun _ _ e => absurd e (by omega)) (fun bad => absurd ⟨a, b⟩ bad)
      · unfold hb; rw [wagR_o _ x (by decide) (by omega)]; exact hB
      · unfold rT; rw [wagR_o _ x (by decide) (by omega)]; exact Nat.le_refl _
    · exact R_wagon rfl hO x (fun _ _ lt => absurd lt ge) (fun _ _ _ => ⟨rfl, hI⟩) (fun bad => absurd ⟨a, b⟩ bad)
  · exact R_wagon rfl hO x (fun a b => absurd ⟨a, b⟩ bad) (fun a b => absurd ⟨a, b⟩ bad) (fun _ => ⟨rfl, hI⟩)
theorem L_seed (hI : INV mem) (x : Int32) : Agr (d + 20) mX8_seed mX9_seed [.int x] mem := by
  obtain ⟨hO, hB, hR⟩ := hI.1
  refine E_X8_seed _ (fun y ey m1 f1 => ?_)
  subst f1
  have hF : Fr CO mem (wf_ms mem 41 10 x) := Fr.ms (by unfold CO; omega)
  refine E_X9_seed _ (c_becomes 10 x (by decide) ⟨?_, hI.op hF (RO.ms (Or.inl rfl)) (hR.lo sh41 hO (i := 10) (by decide) (by decide) x) (ms121 (CO.ref hF (by decide))) (okR_lo hO (by decide) (by decide) (fun h => by omega) (fun h => by omega)) ?_ ?_⟩)
  · rw [ey, hR.at 10 (by decide) (by decide), CO.ref hF (by decide)]
  · unfold hb; rw [updN _ _ (by decide)]; exact hB
  · unfold rT; rw [updN _ _ (by decide)]; exact Nat.le_refl _
/-- FAR -/
theorem R_far (hr : mem 121 = r) (hI : okR r) (x y : Int32) (h1 : ∀ k j, k < rN r → j < rN r → x = nI k → y = nI j → P (if nI (rN r) - (if y ≤ x then x - y else y - x) ≤ (if y ≤ x then x - y else y - x) then nI (rN r) - (if y ≤ x then x - y else y - x) else (if y ≤ x then x - y else y - x)) mem) (h0 : ¬ ((∃ k, k < rN r ∧ x = nI k) ∧ (∃ k, k < rN r ∧ y = nI k)) → P (-1000000001) mem) : Ci mX9_far (d + 2) [.ref 120, .int x, .int y] mem P := by
  obtain ⟨hn, hn2⟩ := hI.n
  have hm : mem 121 0 = nI (rN r) := by rw [hr]; exact hn
  refine E_X9_far _ _ (c_isWagon (rN r) x hm (by omega) (fun k hk ek => z1 (c_isWagon (rN r) y hm (by omega) (fun j hj ej => n1 (c_off _ _ ?_)) (fun bad => n0 (h0 (fun g => bad g.2))))) (fun bad => z0 (h0 (fun g => bad g.1))))
  have h := h1 k j hk hj ek ej
  rw [hm]
  refine ⟨fun g => ?_, fun g => ?_⟩
  · rw [if_pos g] at h; exact h
  · rw [if_neg g] at h; exact h
theorem L_far (hI : INV mem) (x y : Int32) : Agr (d + 20) mX8_far mX9_far [.int x, .int y] mem := by
  obtain ⟨hO, hB, hR⟩ := hI.1
  obtain ⟨hn, hn2⟩ := hO.n
  have hm : mem 42 0 = nI (rN (mem 121)) := hR.1.1.trans hn
  have bad : ¬ ((∃ k, k < rN (mem 121) ∧ x = nI k) ∧ (∃ k, k < rN (mem 121) ∧ y = nI k)) → Ci mX9_far (d + 20) [.ref 120, .int x, .int y] mem (fun r2 m2 => -1000000001 = r2 ∧ INV m2) := fun hb =>
    R_far rfl hO x y (fun k j hk hj ek ej => absurd ⟨⟨k, hk, ek⟩, ⟨j, hj, ej⟩⟩ hb) (fun _ => ⟨rfl, hI⟩)
  refine E_X8_far _ _ (k_has rfl x (rN (mem 121)) hm (by omega) (fun k hk ek => z1 (k_has rfl y (rN (mem 121)) hm (by omega) (fun j hj ej => n1 (fun z ez => ?_)) (fun b => n0 (bad (fun g => b g.2))))) (fun b => z0 (bad (fun g => b g.1))))
  refine R_far rfl hO x y (fun k' j' _ _ _ _ => ⟨?_, hI⟩) (fun b => absurd ⟨⟨k, hk, ek⟩, ⟨j, hj, ej⟩⟩ b)
  have hz : z = if y ≤ x then x - y else y - x := by
    rw [ez, ek, ej]
    have h1 : (0 ≤ nI k) ∧ nI k < 12 := ⟨nI_pos' (by omega), nI_lt (b := 12) (by omega) (by decide)⟩
    have h2 : (0 ≤ nI j) ∧ nI j < 12 := ⟨nI_pos' (by omega), nI_lt (b := 12) (by omega) (by decide)⟩
    grind
  rw [hm, ← hz]
  grind
/-- plain -/
theorem R_plain (hr : mem 121 = r) (hI : okR r) (x y : Int32) (h1 : ∀ j, j < 3 → x = nI j → 0 ≤ y → y ≤ (if j = 0 then 9999 else 99) → ∀ m', RO mem m' → m' 121 = upd r (3 + j) y → P (r (3 + j)) m') (h0 : ¬ (∃ j, j < 3 ∧ x = nI j ∧ 0 ≤ y ∧ y ≤ (if j = 0 then 9999 else 99)) → P (-1000000001) mem) : Ci mX9_plain (d + 2) [.ref 120, .int x, .int y] mem P := by
  have fin : ∀ (j : Nat) (hi : Int32) (H : Int64), j < 3 → x = nI j → H = hi.toInt64 → hi = (if j = 0 then 9999 else 99) → Vw (Ni (d + 2) P) mX9_plain 28 [(0, .ref 120), (1, .int x), (2, .int y)] [.long H, .long 0, .long y.toInt64] mem := by
    intro j hi H hj ex hH e
    refine b_X9_plain_28 _ _ _ _ _ _ (c_isIn y 0 hi rfl hH (fun a b => z1 ?_) (fun bad => z0 (h0 (fun ⟨i, g1, g2, g3, g4⟩ => bad ⟨g3, ?_⟩))))
    · have e3 : 3 + x = nI (3 + j) := by rw [ex]; exact nI_add 3 j
      rw [e3]
      refine c_becomes (3 + j) y (by omega) ?_
      rw [hr]
      exact h1 j hj ex a (by rw [← e]; exact b) _ (RO.ms (Or.inl rfl)) (ms121 hr)
    · have : i = j := (nI_eq (by omega) (by omega)).mp (g2.symm.trans ex)
      subst this
      rw [e]; exact g4
  refine E_X9_plain _ _ (c_isIn x 0 2 rfl rfl (fun a b => z1 ?_) (fun bad => z0 (h0 (fun ⟨i, g1, g2, g3, g4⟩ => bad ?_))))
  · obtain ⟨j, hj, ej⟩ := nI_bd (m := 2) a b (by decide)
    have e0 : (x = 0) ↔ j = 0 := by rw [ej]; exact nI_eq (b := 0) (by omega) (by decide)
    rw [e0]
    refine ⟨fun g => fin j 99 99 (by omega) ej rfl (by rw [if_neg g]), fun g => fin j 9999 9999 (by omega) ej rfl (by rw [if_pos g])⟩
  · rw [g2]
    exact ⟨nI_pos' (by omega), nI_le (b := 2) (by omega) (by decide)⟩
theorem L_plain (hI : INV mem) (x y : Int32) : Agr (d + 20) mX8_plain mX9_plain [.int x, .int y] mem := by
  obtain ⟨hO, hB, hR⟩ := hI.1
  have bad : ¬ (∃ j, j < 3 ∧ x = nI j ∧ 0 ≤ y ∧ y ≤ (if j = 0 then 9999 else 99)) → Ci mX9_plain (d + 20) [.ref 120, .int x, .int y] mem (fun r2 m2 => -1000000001 = r2 ∧ INV m2) := fun hb =>
    R_plain rfl hO x y (fun j a b e f => absurd ⟨j, a, b, e, f⟩ hb) (fun _ => ⟨rfl, hI⟩)
  have fin : ∀ (j : Nat) (hi : Int32), j < 3 → x = nI j → hi = (if j = 0 then 9999 else 99) → Vw (Ni (d + 20) (fun r m1 => Ci mX9_plain (d + 20) [.ref 120, .int x, .int y] m1 (fun r2 m2 => r = r2 ∧ INV m2))) mX8_plain 23 [(0, .ref 0), (1, .int x), (2, .int y)] [.int hi, .int 0, .int y] mem := by
    intro j hi hj ex e
    refine b_X8_plain_23 _ _ _ _ _ _ (k_within y 0 hi (fun a b => n1 ?_) (fun b => n0 (bad (fun ⟨i, g1, g2, g3, g4⟩ => b ⟨g3, ?_⟩))))
    · have go : ∀ m1, m1 = wf_ms mem 41 (3 + j) y → Ci mX9_plain (d + 20) [.ref 120, .int x, .int y] m1 (fun r2 m2 => mem 41 (3 + j) = r2 ∧ INV m2) := by
        intro m1 f1
        subst f1
        have hF : Fr CO mem (wf_ms mem 41 (3 + j) y) := Fr.ms (by unfold CO; omega)
        refine R_plain (CO.ref hF (by decide)) hO x y (fun i g1 g2 g3 g4 m' ro e' => ?_) (fun b' => absurd ⟨j, hj, ex, a, by rw [← e]; exact b⟩ b')
        have : i = j := (nI_eq (by omega) (by omega)).mp (g2.symm.trans ex)
        subst this
        refine ⟨hR.at _ (by omega) (by omega), hI.op hF ro (hR.lo sh41 hO (i := 3 + i) (by omega) (by omega) y) e' (okR_lo hO (by omega) (by omega) (fun h => ?_) (fun h => ?_)) ?_ ?_⟩
        · rw [if_pos (by omega)] at g4; exact ⟨g3, g4⟩
        · rw [if_neg (by omega)] at g4; exact ⟨g3, g4⟩
        · unfold hb; rw [updN _ _ (by omega)]; exact hB
        · unfold rT; rw [updN _ _ (by omega)]; exact Nat.le_refl _
      have e0 : (x = 0) ↔ j = 0 := by rw [ex]; exact nI_eq (b := 0) (by omega) (by decide)
      have e1 : (x = 1) ↔ j = 1 := by rw [ex]; exact nI_eq (b := 1) (by omega) (by decide)
      rw [e0, e1]
      refine ⟨fun c0 => ⟨fun c1 z ez m1 f1 => ?_, fun c1 z ez m1 f1 => ?_⟩, fun c0 z ez m1 f1 => ?_⟩
      · have : j = 2 := by omega
        subst this; rw [ez]; exact go m1 f1
      · subst c1; rw [ez]; exact go m1 f1
      · subst c0; rw [ez]; exact go m1 f1
    · have : i = j := (nI_eq (by omega) (by omega)).mp (g2.symm.trans ex)
      subst this
      rw [e]; exact g4
  refine E_X8_plain _ _ (k_within x 0 2 (fun a b => z1 ?_) (fun b => z0 (bad (fun ⟨i, g1, g2, g3, g4⟩ => b ?_))))
  · obtain ⟨j, hj, ej⟩ := nI_bd (m := 2) a b (by decide)
    have e0 : (x = 0) ↔ j = 0 := by rw [ej]; exact nI_eq (b := 0) (by omega) (by decide)
    rw [e0]
    exact ⟨fun g => fin j 99 (by omega) ej (by rw [if_neg g]), fun g => fin j 9999 (by omega) ej (by rw [if_pos g])⟩
  · rw [g2]
    exact ⟨nI_pos' (by omega), nI_le (b := 2) (by omega) (by decide)⟩
end OPA
