/-! text: what holds of rows that are the same below the next text -/
def eqB (r r' : Rw) : Prop := ∀ j, j < 88 + 200 * rT r → r' j = r j
theorem eqB.mn {r r' : Rw} (h : eqB r r') {t : Nat} (ht : t < rT r) : mnR r' t = mnR r t := by unfold mnR; rw [h _ (by omega)]
theorem eqB.st {r r' : Rw} (h : eqB r r') {t k : Nat} (ht : t < rT r) (hk : k < 96) : stR r' t k = stR r t k := by unfold stR; rw [h _ (by omega), h _ (by omega)]
theorem eqB.tx {r r' : Rw} (h : eqB r r') {t : Nat} (ht : t < rT r) (hm : mnR r t ≤ 96) : txR r' t = txR r t := by
  unfold txR
  rw [h.mn ht]
  apply List.map_congr_left
  intro k hk
  rw [List.mem_range] at hk
  exact h.st ht (by omega)
theorem eqB.cnt {r r' : Rw} (h : eqB r r') (key : Int32) : ∀ t, t ≤ rT r → cntR r' key t = cntR r key t
  | 0, _ => rfl
  | t + 1, ht => by
    unfold cntR
    rw [h _ (by omega), h.cnt key t (by omega)]
theorem eqB.okt {r r' : Rw} (h : eqB r r') (hI : okR r) {t : Nat} (ht : t < rT r) : okT r' t := by
  obtain ⟨a, b, c, e, f⟩ := hI.tx ht
  unfold okT
  rw [h.mn ht, h.tx ht c, h _ (by omega : 88 + 200 * t < 88 + 200 * rT r), h _ (by omega : 88 + 200 * t + 2 < 88 + 200 * rT r)]
  exact ⟨a, b, c, fun k hk => by rw [h.st ht (by omega)]; exact e k hk, f⟩
theorem eqB.lw {r r' : Rw} {m m' : wf_Mem} (h : eqB r r') (hI : okR r) {t : Nat} (ht : t < rT r) (hl : lwT m r t) (e1 : m' (10 + 1 + 2 * t) = m (10 + 1 + 2 * t)) (e2 : m' (10 + 1 + 2 * t + 1) = m (10 + 1 + 2 * t + 1)) : lwT m' r' t := by
  obtain ⟨g1, g2, g3, g4⟩ := hl
  have c := (hI.tx ht).2.2.1
  unfold lwT
  rw [h.mn ht, e1, e2, h _ (by omega : 88 + 200 * t < 88 + 200 * rT r), h _ (by omega : 88 + 200 * t + 1 < 88 + 200 * rT r), h _ (by omega : 88 + 200 * t + 2 < 88 + 200 * rT r)]
  exact ⟨g1, g2, g3, fun k hk => by rw [h.st ht (by omega)]; exact g4 k hk⟩
/-- a row that is the same but for r 2 and the next text -/
def eqC (r r' : Rw) : Prop := ∀ j, j ≠ 2 → j < 88 + 200 * rT r → r' j = r j
theorem okR_to {r r' : Rw} (h : eqC r r') (hI : okR r) {T : Nat} (e2 : r' 2 = nI T) (hT : T ≤ 14) (htx : ∀ t, t < T → okT r' t) : okR r' := by
  have n2 := hI.n.2
  have w2 := hI.w.2
  have eN : rN r' = rN r := by unfold rN; rw [h 0 (by decide) (by omega)]
  have eW : rW r' = rW r := by unfold rW; rw [h 1 (by decide) (by omega)]
  have eT : rT r' = T := by unfold rT; rw [e2, nI_clamp (by omega)]
  unfold okR
  rw [eN, eW, eT, h 0 (by decide) (by omega), h 1 (by decide) (by omega), h 3 (by decide) (by omega), h 4 (by decide) (by omega), h 5 (by decide) (by omega)]
  refine ⟨hI.n, hI.w, ⟨e2, hT⟩, hI.wood, hI.wolf, hI.hung, fun k hk => ?_, fun w hw => ?_, htx⟩
  · rw [h _ (by omega) (by omega), h _ (by omega) (by omega), h _ (by omega) (by omega)]; exact hI.wg hk
  · rw [h _ (by omega) (by omega), h _ (by omega) (by omega), h _ (by omega) (by omega), h _ (by omega) (by omega), h _ (by omega) (by omega)]; exact hI.wt hw
theorem Rel_to {r r' : Rw} {c : Nat} {m m' : wf_Mem} (h : eqC r r') (hI : okR r) (hR : Rel c m r) (hc : ∀ j, j ≠ 12 → m' c j = m c j) (hf : ∀ a, (c + 1 ≤ a ∧ a ≤ c + 4) ∨ (c + 9 ≤ a ∧ a < c + 17) → m' a = m a) (hT : RelT c m' r') : Rel c m' r' := by
  have n2 := hI.n.2
  have w2 := hI.w.2
  obtain ⟨a, b, e, -⟩ := hR
  have eN : rN r' = rN r := by unfold rN; rw [h 0 (by decide) (by omega)]
  have eW : rW r' = rW r := by unfold rW; rw [h 1 (by decide) (by omega)]
  refine ⟨?_, fun k hk => ?_, fun w hw j hj => ?_, hT⟩
  · rw [h 0 (by decide) (by omega), h 1 (by decide) (by omega), h 3 (by decide) (by omega), h 4 (by decide) (by omega), h 5 (by decide) (by omega), h 6 (by decide) (by omega), h 7 (by decide) (by omega), h 8 (by decide) (by omega), h 9 (by decide) (by omega), h 10 (by decide) (by omega), hf (c + 1) (by omega), hc 2 (by decide), hc 3 (by decide), hc 4 (by decide), hc 5 (by decide), hc 6 (by decide), hc 7 (by decide), hc 8 (by decide), hc 9 (by decide), hc 10 (by decide)]
    exact a
  · rw [eN] at hk
    rw [h _ (by omega) (by omega), h _ (by omega) (by omega), h _ (by omega) (by omega), hf (c + 1 + 1) (by omega), hf (c + 1 + 2) (by omega), hf (c + 1 + 3) (by omega)]; exact b k hk
  · rw [eW] at hw
    rw [h _ (by omega) (by omega), hf (c + 5 + 4 + w) (by omega)]; exact e w hw j hj
/-- the other parts of the invariant behind a text: x the law that was read into -/
theorem INV_text {m m' : wf_Mem} {x : Nat} (hI : INV m) (hx : x = 10 + 1 + 2 * rT (m 121)) (hT : rT (m 121) ≤ rT (m' 121)) (h1 : nwI m')
    (hf : ∀ a, a ≠ x → a ≠ x + 1 → a ≠ 3 → a ≠ 5 → a ≠ 41 → a ≠ 47 → a ≠ 120 → a ≠ 121 → m' a = m a) (h120 : ∀ j, (j < 16 ∨ 26 < j) → m' 120 j = m 120 j) (e3 : m' 3 1 = 0) (e16 : m' 120 16 = 0) : INV m' := by
  obtain ⟨⟨hO, -, -⟩, ⟨b1, b2, b3⟩, hs, hl, hw, ht⟩ := hI
  have ht2 := hO.t.2
  have e0 : m' 0 = m 0 := hf 0 (by omega) (by omega) (by decide) (by decide) (by decide) (by decide) (by decide) (by decide)
  have e122 : m' 122 = m 122 := hf 122 (by omega) (by omega) (by decide) (by decide) (by decide) (by decide) (by decide) (by decide)
  refine ⟨h1, ⟨by rw [e0]; exact b1, by rw [e0, h120 3 (by decide)]; exact b2, fun g => ?_⟩, fun k hk => ?_, fun k hk => ?_, ?_, ?_⟩
  · rw [e0] at g
    obtain ⟨c1, c2, ⟨q1, q2, q3, q4, q5, q6⟩, c4⟩ := b3 g
    rw [e122]
    have ht3 := c1.t.2
    have w2 := c1.w.2
    have hf58 : ∀ a, 58 ≤ a → a < 75 → m' a = m a := fun a g1 g2 => hf a (by omega) (by omega) (by omega) (by omega) (by omega) (by omega) (by omega) (by omega)
    refine ⟨c1, c2, ⟨?_, fun k hk => ?_, fun w hw j hj => ?_, ?_, fun k hk => ?_, fun t htt => ?_⟩, Nat.le_trans c4 hT⟩
    · rw [hf58 58 (by omega) (by omega), hf58 (58 + 1) (by omega) (by omega)]; exact q1
    · rw [hf58 (58 + 1 + 1) (by omega) (by omega), hf58 (58 + 1 + 2) (by omega) (by omega), hf58 (58 + 1 + 3) (by omega) (by omega)]; exact q2 k hk
    · rw [hf58 (58 + 5 + 4 + w) (by omega) (by omega)]; exact q3 w hw j hj
    · rw [hf58 58 (by omega) (by omega)]; exact q4
    · rw [hf58 (58 + 6) (by omega) (by omega)]; exact q5 k hk
    · have hl := q6 t htt
      unfold lwT at hl ⊢
      rw [hf (10 + 1 + 2 * t) (by omega) (by omega) (by omega) (by omega) (by omega) (by omega) (by omega) (by omega), hf (10 + 1 + 2 * t + 1) (by omega) (by omega) (by omega) (by omega) (by omega) (by omega) (by omega) (by omega)]
      exact hl
  · have hf2 : ∀ a, 92 ≤ a → a < 139 → a ≠ 120 → a ≠ 121 → m' a = m a := fun a g1 g2 g3 g4 => hf a (by omega) (by omega) (by omega) (by omega) (by omega) (by omega) g3 g4
    exact (hs k hk).fr (by rw [hf2 124 (by omega) (by omega) (by omega) (by omega)]) (by rw [hf2 125 (by omega) (by omega) (by omega) (by omega)]) (fun j _ => by rw [hf2 126 (by omega) (by omega) (by omega) (by omega)]) (hf2 _ (by omega) (by omega) (by omega) (by omega)) (hf2 _ (by omega) (by omega) (by omega) (by omega))
  · have hf2 : ∀ a, 92 ≤ a → a < 139 → a ≠ 120 → a ≠ 121 → m' a = m a := fun a g1 g2 g3 g4 => hf a (by omega) (by omega) (by omega) (by omega) (by omega) (by omega) g3 g4
    exact (hl k hk).fr (by rw [hf2 127 (by omega) (by omega) (by omega) (by omega)]) (by rw [hf2 128 (by omega) (by omega) (by omega) (by omega)]) (by rw [hf2 129 (by omega) (by omega) (by omega) (by omega)]) (by rw [hf2 130 (by omega) (by omega) (by omega) (by omega)]) (fun j _ => by rw [hf2 131 (by omega) (by omega) (by omega) (by omega)]) (fun i hi => hf2 _ (by omega) (by omega) (by omega) (by omega))
  · exact hw.fr (by rw [e0]) (h120 31 (by decide)) (hf 8 (by omega) (by omega) (by decide) (by decide) (by decide) (by decide) (by decide) (by decide)) (hf 137 (by omega) (by omega) (by decide) (by decide) (by decide) (by decide) (by decide) (by decide))
  · exact ⟨0, by omega, by rw [e3]; rfl, by rw [e16]; rfl, fun j hj => absurd hj (Nat.not_lt_zero _)⟩
/-- behind a fault or at FULL -/
theorem INV_textF {m m' : wf_Mem} {x : Nat} (hI : INV m) (hx : x = 10 + 1 + 2 * rT (m 121)) (hr : eqB (m 121) (m' 121))
    (hf : ∀ a, a ≠ x → a ≠ x + 1 → a ≠ 3 → a ≠ 5 → a ≠ 120 → a ≠ 121 → m' a = m a) (h120 : ∀ j, (j < 16 ∨ 26 < j) → m' 120 j = m 120 j) (e3 : m' 3 1 = 0) (e16 : m' 120 16 = 0) : INV m' := by
  obtain ⟨hO, hB, hR⟩ := hI.1
  have ht2 := hO.t
  have e2 : m' 121 2 = m 121 2 := hr 2 (by omega)
  have eT : rT (m' 121) = rT (m 121) := by unfold rT; rw [e2]
  refine INV_text hI hx (by rw [eT]; exact Nat.le_refl _) ⟨?_, ?_, ?_⟩ (fun a g1 g2 g3 g4 _ _ g5 g6 => hf a g1 g2 g3 g4 g5 g6) h120 e3 e16
  · exact okR_to (fun j _ g => hr j g) hO (e2.trans ht2.1) ht2.2 (fun t ht => hr.okt hO ht)
  · unfold hb; rw [hr 6 (by omega)]; exact hB
  · have f41 : ∀ a, 41 ≤ a → a < 58 → m' a = m a := fun a g1 g2 => hf a (by omega) (by omega) (by omega) (by omega) (by omega) (by omega)
    refine Rel_to (fun j _ g => hr j g) hO hR (fun j _ => by rw [f41 41 (by omega) (by omega)]) (fun a ha => f41 a (by omega) (by omega)) ?_
    obtain ⟨q4, q5, q6⟩ := hR.2.2.2
    refine ⟨?_, fun k hk => ?_, fun t ht => ?_⟩
    · rw [f41 41 (by omega) (by omega), e2]; exact q4
    · rw [f41 (41 + 6) (by omega) (by omega), eT, hr.cnt _ _ (Nat.le_refl _)]; exact q5 k hk
    · rw [eT] at ht
      exact hr.lw hO ht (q6 t ht) (hf _ (by omega) (by omega) (by omega) (by omega) (by omega) (by omega)) (hf _ (by omega) (by omega) (by omega) (by omega) (by omega) (by omega))
/-- a text's steps, as the row has them -/
theorem tx_map {r : Rw} {t : Nat} {δ : List (Int32 × Int32)} (hm : mnR r t = δ.length) (h : ∀ i, i < δ.length → stR r t i = δ.getD i (0, 0)) : txR r t = δ := by
  unfold txR
  rw [hm]
  apply List.ext_getElem?
  intro i
  by_cases c : i < δ.length
  · rw [List.getElem?_map, List.getElem?_range c, Option.map_some, h i c, List.getD_eq_getElem?_getD, List.getElem?_eq_getElem c]
    rfl
  · rw [List.getElem?_eq_none (by simp; omega), List.getElem?_eq_none (by omega)]
/-- behind a text that was told -/
theorem INV_textS {m m' : wf_Mem} {x : Nat} {κ : Int32} {δ : List (Int32 × Int32)} (hI : INV m) (hx : x = 10 + 1 + 2 * rT (m 121)) (hT14 : rT (m 121) < 14) (hκ : κ = 0 ∨ κ = 1 ∨ κ = 2) (hd : okD κ δ) (hl : δ.length ≤ 92)
    (hr : eqC (m 121) (m' 121)) (e2 : m' 121 2 = nI (rT (m 121) + 1)) (r0 : m' 121 (88 + 200 * rT (m 121)) = κ) (r1 : m' 121 (88 + 200 * rT (m 121) + 1) = nI (lvs δ)) (r2 : m' 121 (88 + 200 * rT (m 121) + 2) = nI δ.length) (rs : ∀ i, i < δ.length → stR (m' 121) (rT (m 121)) i = δ.getD i (0, 0))
    (hf : ∀ a, a ≠ x → a ≠ x + 1 → a ≠ 3 → a ≠ 5 → a ≠ 41 → a ≠ 47 → a ≠ 120 → a ≠ 121 → m' a = m a) (hO' : OU x κ δ m') (e41 : ∀ j, j ≠ 12 → m' 41 j = m 41 j) (e4112 : m' 41 12 = nI (rT (m 121) + 1)) (e47 : ∀ j, m' 47 j = if j = κ.toNatClampNeg then nI (rT (m 121)) else m 47 j)
    (h120 : ∀ j, (j < 16 ∨ 26 < j) → m' 120 j = m 120 j) (e3 : m' 3 1 = 0) (e16 : m' 120 16 = 0) : INV m' := by
  obtain ⟨hO, hB, hR⟩ := hI.1
  have ht2 := hO.t
  have eT : rT (m' 121) = rT (m 121) + 1 := by unfold rT; rw [e2, nI_clamp (by omega)]; rfl
  have hbT : ∀ t, t < rT (m 121) → ∀ j, 88 + 200 * t ≤ j → j < 88 + 200 * t + 200 → m' 121 j = m 121 j := fun t ht j g1 g2 => hr j (by omega) (by omega)
  have hbE : eqB (m 121) (fun j => if j = 2 then m 121 2 else m' 121 j) := fun j hj => by
    by_cases z : j = 2
    · show (if j = 2 then _ else _) = _; rw [if_pos z, z]
    · show (if j = 2 then _ else _) = _; rw [if_neg z]; exact hr j z hj
  have mnE : ∀ t, t < rT (m 121) → mnR (m' 121) t = mnR (m 121) t := fun t ht => by unfold mnR; rw [hbT t ht _ (by omega) (by omega)]
  have stE : ∀ t k, t < rT (m 121) → k < 96 → stR (m' 121) t k = stR (m 121) t k := fun t k ht hk => by unfold stR; rw [hbT t ht _ (by omega) (by omega), hbT t ht _ (by omega) (by omega)]
  have cnE : ∀ (key : Int32) t, t ≤ rT (m 121) → cntR (m' 121) key t = cntR (m 121) key t := fun key t => by
    induction t with
    | zero => intro _; rfl
    | succ t ih =>
      intro ht
      show (if m' 121 (88 + 200 * t) = key then _ else _) = (if m 121 (88 + 200 * t) = key then _ else _)
      rw [hbT t (by omega) _ (by omega) (by omega), ih (by omega)]
  have mnN : mnR (m' 121) (rT (m 121)) = δ.length := by unfold mnR; rw [r2, nI_clamp (by omega)]
  refine INV_text hI hx (by omega) ⟨?_, ?_, ?_⟩ hf h120 e3 e16
  · refine okR_to hr hO e2 (by omega) (fun t ht => ?_)
    by_cases z : t < rT (m 121)
    · obtain ⟨a, b, c, e, f⟩ := hO.tx z
      have tE : txR (m' 121) t = txR (m 121) t := by
        unfold txR
        rw [mnE t z]
        apply List.map_congr_left
        intro k hk
        rw [List.mem_range] at hk
        exact stE t k z (by omega)
      unfold okT
      rw [mnE t z, tE, hbT t z (88 + 200 * t) (by omega) (by omega), hbT t z (88 + 200 * t + 2) (by omega) (by omega)]
      exact ⟨a, b, c, fun k hk => by rw [stE t k z (by omega)]; exact e k hk, f⟩
    · have et : t = rT (m 121) := by omega
      subst et
      unfold okT
      rw [mnN, tx_map mnN rs, r0, r2]
      refine ⟨hκ, rfl, by omega, fun k hk => ?_, hd.2.2 0 (by omega)⟩
      rw [rs k hk]
      refine hd.2.1 _ ?_
      rw [List.getD_eq_getElem?_getD, List.getElem?_eq_getElem hk]
      exact List.getElem_mem hk
  · unfold hb; rw [hr 6 (by decide) (by omega)]; exact hB
  · refine Rel_to hr hO hR e41 (fun a ha => hf a (by omega) (by omega) (by omega) (by omega) (by omega) (by omega) (by omega) (by omega)) ?_
    obtain ⟨q4, q5, q6⟩ := hR.2.2.2
    refine ⟨by rw [e4112, e2], fun k hk => ?_, fun t ht => ?_⟩
    · rw [eT]
      show m' 47 k = orN (if m' 121 (88 + 200 * rT (m 121)) = nI k then nI (rT (m 121)) else cntR (m' 121) (nI k) (rT (m 121)))
      rw [e47, r0]
      have ek : (κ = nI k) ↔ k = κ.toNatClampNeg := by
        have : k = 0 ∨ k = 1 ∨ k = 2 := by omega
        rcases hκ with rfl | rfl | rfl <;> rcases this with rfl | rfl | rfl <;> decide
      by_cases z : κ = nI k
      · rw [if_pos (ek.mp z), if_pos z]
        unfold orN
        rw [if_pos (nI_pos' (by omega))]
      · rw [if_neg (fun q => z (ek.mpr q)), if_neg z, cnE _ _ (Nat.le_refl _)]
        exact q5 k hk
    · by_cases z : t < rT (m 121)
      · obtain ⟨g1, g2, g3, g4⟩ := q6 t z
        have c := (hO.tx z).2.2.1
        unfold lwT
        rw [mnE t z, hbT t z (88 + 200 * t) (by omega) (by omega), hbT t z (88 + 200 * t + 1) (by omega) (by omega), hbT t z (88 + 200 * t + 2) (by omega) (by omega), hf (10 + 1 + 2 * t) (by omega) (by omega) (by omega) (by omega) (by omega) (by omega) (by omega) (by omega), hf (10 + 1 + 2 * t + 1) (by omega) (by omega) (by omega) (by omega) (by omega) (by omega) (by omega) (by omega)]
        exact ⟨g1, g2, g3, fun k hk => by rw [stE t k z (by omega)]; exact g4 k hk⟩
      · have et : t = rT (m 121) := by omega
        subst et
        obtain ⟨p0, p1, p3, p4⟩ := hO'
        unfold lwT
        rw [mnN, r0, r1, r2, ← hx]
        exact ⟨p0, p1, p3, fun k hk => by rw [rs k hk]; exact p4 k hk⟩
