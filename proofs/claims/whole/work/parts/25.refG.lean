/-! what an hour keeps -/
theorem tx_congr {r r' : Rw} (h : ∀ j, 88 ≤ j → r' j = r j) (t : Nat) : mnR r' t = mnR r t ∧ (∀ k, stR r' t k = stR r t k) ∧ txR r' t = txR r t ∧ r' (88 + 200 * t) = r (88 + 200 * t) := by
  have h1 : mnR r' t = mnR r t := by unfold mnR; rw [h _ (by omega)]
  have h2 : ∀ k, stR r' t k = stR r t k := fun k => by unfold stR; rw [h _ (by omega), h _ (by omega)]
  refine ⟨h1, h2, ?_, h _ (by omega)⟩
  unfold txR
  rw [h1]
  exact List.map_congr_left (fun k _ => h2 k)
theorem okT_congr {r r' : Rw} (h : ∀ j, 88 ≤ j → r' j = r j) {t : Nat} (ht : okT r t) : okT r' t := by
  obtain ⟨e1, e2, e3, e4⟩ := tx_congr h t
  unfold okT
  rw [e1, e3, e4, h (88 + 200 * t + 2) (by omega)]
  obtain ⟨a, b, c, e, f⟩ := ht
  exact ⟨a, b, c, fun k hk => by rw [e2]; exact e k hk, f⟩
theorem evT_congr {r r' : Rw} (h : ∀ j, 88 ≤ j → r' j = r j) (t : Nat) (a b c : Int32) : evT r' t a b c = evT r t a b c := by
  obtain ⟨e1, e2, e3, e4⟩ := tx_congr h t
  unfold evT
  rw [e3, e4]
theorem cntR_congr {r r' : Rw} (h : ∀ j, 88 ≤ j → r' j = r j) (key : Int32) : ∀ t, cntR r' key t = cntR r key t
  | 0 => rfl
  | t + 1 => by
    unfold cntR
    rw [h _ (by omega), cntR_congr h key t]
theorem lwR_congr {r r' : Rw} (h2 : r' 2 = r 2) (h : ∀ j, 88 ≤ j → r' j = r j) (key a b c wo m : Int32) : lwR r' key a b c wo m = lwR r key a b c wo m := by
  have hT : rT r' = rT r := by unfold rT; rw [h2]
  unfold lwR
  rw [hT, cntR_congr h, evT_congr h]
theorem okR_mk {r r' : Rw} (hI : okR r) (h0 : r' 0 = r 0) (h1 : r' 1 = r 1) (h2 : r' 2 = r 2) (ht : ∀ j, 88 ≤ j → r' j = r j) (h3 : 0 ≤ r' 3 ∧ r' 3 ≤ 9999) (h4 : 0 ≤ r' 4 ∧ r' 4 ≤ 99) (h5 : 0 ≤ r' 5 ∧ r' 5 ≤ 99)
    (hg : ∀ k, k < rN r → (0 ≤ r' (12 + 3 * k) ∧ r' (12 + 3 * k) ≤ 99) ∧ (0 ≤ r' (12 + 3 * k + 1) ∧ r' (12 + 3 * k + 1) ≤ 9) ∧ (0 ≤ r' (12 + 3 * k + 2) ∧ r' (12 + 3 * k + 2) ≤ 99))
    (hw : ∀ w, w < rW r → (0 ≤ r' (48 + 5 * w) ∧ r' (48 + 5 * w) ≤ 5) ∧ (0 ≤ r' (48 + 5 * w + 1) ∧ r' (48 + 5 * w + 1) ≤ 11) ∧ (1 ≤ r' (48 + 5 * w + 2) ∧ r' (48 + 5 * w + 2) ≤ 9) ∧ (0 ≤ r' (48 + 5 * w + 3) ∧ r' (48 + 5 * w + 3) ≤ 999) ∧ (r' (48 + 5 * w + 4) = 0 ∨ r' (48 + 5 * w + 4) = 1)) : okR r' := by
  have eN : rN r' = rN r := by unfold rN; rw [h0]
  have eW : rW r' = rW r := by unfold rW; rw [h1]
  have eT : rT r' = rT r := by unfold rT; rw [h2]
  unfold okR
  rw [eN, eW, eT, h0, h1, h2]
  exact ⟨hI.n, hI.w, hI.t, h3, h4, h5, hg, hw, fun t h => okT_congr ht (hI.tx h)⟩
theorem updS (f : Nat → Int32) (k : Nat) (v : Int32) : upd f k v k = v := by simp [upd]
theorem updN (f : Nat → Int32) {k j : Nat} (v : Int32) (h : j ≠ k) : upd f k v j = f j := by simp [upd, h]
/-- one number of a row set anew -/
theorem okR_lo {r : Rw} (hI : okR r) {i : Nat} {v : Int32} (h1 : 3 ≤ i) (h2 : i < 12) (hv3 : i = 3 → 0 ≤ v ∧ v ≤ 9999) (hv : i = 4 ∨ i = 5 → 0 ≤ v ∧ v ≤ 99) : okR (upd r i v) := by
  refine okR_mk hI (updN _ _ (by omega)) (updN _ _ (by omega)) (updN _ _ (by omega)) (fun j hj => updN _ _ (by omega)) ?_ ?_ ?_ ?_ ?_
  · by_cases h : i = 3
    · subst h; rw [updS]; exact hv3 rfl
    · rw [updN _ _ (by omega)]; exact hI.wood
  · by_cases h : i = 4
    · subst h; rw [updS]; exact hv (Or.inl rfl)
    · rw [updN _ _ (by omega)]; exact hI.wolf
  · by_cases h : i = 5
    · subst h; rw [updS]; exact hv (Or.inr rfl)
    · rw [updN _ _ (by omega)]; exact hI.hung
  · intro k hk
    rw [updN _ _ (by omega), updN _ _ (by omega), updN _ _ (by omega)]
    exact hI.wg hk
  · intro w hw
    rw [updN _ _ (by omega), updN _ _ (by omega), updN _ _ (by omega), updN _ _ (by omega), updN _ _ (by omega)]
    exact hI.wt hw
theorem okR_wg {r : Rw} (hI : okR r) {k j : Nat} {v : Int32} (hk : k < 12) (hj : j < 3) (hv : 0 ≤ v ∧ v ≤ (if j = 1 then 9 else 99)) : okR (upd r (12 + 3 * k + j) v) := by
  have hn := hI.n.2
  refine okR_mk hI (updN _ _ (by omega)) (updN _ _ (by omega)) (updN _ _ (by omega)) (fun j hj => updN _ _ (by omega)) ?_ ?_ ?_ ?_ ?_
  · rw [updN _ _ (by omega)]; exact hI.wood
  · rw [updN _ _ (by omega)]; exact hI.wolf
  · rw [updN _ _ (by omega)]; exact hI.hung
  · intro k2 hk2
    obtain ⟨g0, g1, g2⟩ := hI.wg hk2
    by_cases hkk : k2 = k
    · subst hkk
      have : j = 0 ∨ j = 1 ∨ j = 2 := by omega
      rcases this with rfl | rfl | rfl
      · rw [Nat.add_zero, updS, updN _ _ (by omega), updN _ _ (by omega)]; exact ⟨hv, g1, g2⟩
      · rw [updN _ _ (by omega), updS, updN _ _ (by omega)]; exact ⟨g0, hv, g2⟩
      · rw [updN _ _ (by omega), updN _ _ (by omega), updS]; exact ⟨g0, g1, hv⟩
    · rw [updN _ _ (by omega), updN _ _ (by omega), updN _ _ (by omega)]
      exact ⟨g0, g1, g2⟩
  · intro w hw
    rw [updN _ _ (by omega), updN _ _ (by omega), updN _ _ (by omega), updN _ _ (by omega), updN _ _ (by omega)]
    exact hI.wt hw
theorem okR_wt {r : Rw} (hI : okR r) {w j : Nat} {v : Int32} (hw8 : w < 8) (hj : j < 5) (hv : (j = 0 → 0 ≤ v ∧ v ≤ 5) ∧ (j = 1 → 0 ≤ v ∧ v ≤ 11) ∧ (j = 2 → 1 ≤ v ∧ v ≤ 9) ∧ (j = 3 → 0 ≤ v ∧ v ≤ 999) ∧ (j = 4 → v = 0 ∨ v = 1)) : okR (upd r (48 + 5 * w + j) v) := by
  have hn := hI.n.2
  have hw2 := hI.w.2
  refine okR_mk hI (updN _ _ (by omega)) (updN _ _ (by omega)) (updN _ _ (by omega)) (fun j hj => updN _ _ (by omega)) ?_ ?_ ?_ ?_ ?_
  · rw [updN _ _ (by omega)]; exact hI.wood
  · rw [updN _ _ (by omega)]; exact hI.wolf
  · rw [updN _ _ (by omega)]; exact hI.hung
  · intro k hk
    rw [updN _ _ (by omega), updN _ _ (by omega), updN _ _ (by omega)]
    exact hI.wg hk
  · intro w2 hw2
    obtain ⟨g0, g1, g2, g3, g4⟩ := hI.wt hw2
    by_cases hkk : w2 = w
    · subst hkk
      have : j = 0 ∨ j = 1 ∨ j = 2 ∨ j = 3 ∨ j = 4 := by omega
      rcases this with rfl | rfl | rfl | rfl | rfl
      · rw [Nat.add_zero, updS, updN _ _ (by omega), updN _ _ (by omega), updN _ _ (by omega), updN _ _ (by omega)]; exact ⟨hv.1 rfl, g1, g2, g3, g4⟩
      · rw [updN _ _ (by omega), updS, updN _ _ (by omega), updN _ _ (by omega), updN _ _ (by omega)]; exact ⟨g0, hv.2.1 rfl, g2, g3, g4⟩
      · rw [updN _ _ (by omega), updN _ _ (by omega), updS, updN _ _ (by omega), updN _ _ (by omega)]; exact ⟨g0, g1, hv.2.2.1 rfl, g3, g4⟩
      · rw [updN _ _ (by omega), updN _ _ (by omega), updN _ _ (by omega), updS, updN _ _ (by omega)]; exact ⟨g0, g1, g2, hv.2.2.2.1 rfl, g4⟩
      · rw [updN _ _ (by omega), updN _ _ (by omega), updN _ _ (by omega), updN _ _ (by omega), updS]; exact ⟨g0, g1, g2, g3, hv.2.2.2.2 rfl⟩
    · rw [updN _ _ (by omega), updN _ _ (by omega), updN _ _ (by omega), updN _ _ (by omega), updN _ _ (by omega)]
      exact ⟨g0, g1, g2, g3, g4⟩
/-- the same wagons, watchers, texts by number, and the same texts -/
def sm (r r' : Rw) : Prop := r' 0 = r 0 ∧ r' 1 = r 1 ∧ r' 2 = r 2 ∧ ∀ j, 88 ≤ j → r' j = r j
theorem sm.rf {r : Rw} : sm r r := ⟨rfl, rfl, rfl, fun _ _ => rfl⟩
theorem sm.tr {a b c : Rw} (h1 : sm a b) (h2 : sm b c) : sm a c := ⟨h2.1.trans h1.1, h2.2.1.trans h1.2.1, h2.2.2.1.trans h1.2.2.1, fun j hj => (h2.2.2.2 j hj).trans (h1.2.2.2 j hj)⟩
theorem sm.u {r : Rw} {i : Nat} {v : Int32} (h1 : 3 ≤ i) (h2 : i < 88) : sm r (upd r i v) := ⟨updN _ _ (by omega), updN _ _ (by omega), updN _ _ (by omega), fun j hj => updN _ _ (by omega)⟩
theorem sm.N {r r' : Rw} (h : sm r r') : rN r' = rN r := by unfold rN; rw [h.1]
theorem sm.W {r r' : Rw} (h : sm r r') : rW r' = rW r := by unfold rW; rw [h.2.1]
theorem sm.T {r r' : Rw} (h : sm r r') : rT r' = rT r := by unfold rT; rw [h.2.2.1]
theorem clp_in (x : Int32) {m : Int32} (hm : 0 ≤ m) : 0 ≤ clp x m ∧ clp x m ≤ m := by
  unfold clp
  grind
theorem bnA_ok {r : Rw} (hI : okR r) : ∀ k, k ≤ rN r → okR (bnA r k) ∧ sm r (bnA r k)
  | 0, _ => ⟨hI, sm.rf⟩
  | k + 1, hk => by
    obtain ⟨h1, h2⟩ := bnA_ok hI k (by omega)
    have hn := hI.n.2
    have hg := (h1.wg (k := k) (by rw [h2.N]; omega)).2.1
    have hwd := h1.wood
    unfold bnA
    by_cases c : bnA r k (12 + 3 * k + 1) ≤ bnA r k 3
    · rw [if_pos c]
      refine ⟨okR_lo (okR_lo h1 (by omega) (by omega) (fun _ => ?_) (fun h => by omega)) (by omega) (by omega) (fun h => by omega) (fun h => by omega), (h2.tr (sm.u (by omega) (by omega))).tr (sm.u (by omega) (by omega))⟩
      grind
    · rw [if_neg c]
      exact ⟨okR_wg (j := 1) h1 (by omega) (by omega) (by decide), h2.tr (sm.u (by omega) (by omega))⟩
theorem bnR_ok {r : Rw} (hI : okR r) : okR (bnR r) ∧ sm r (bnR r) := bnA_ok hI (rN r) (Nat.le_refl _)
theorem cmA_in (r : Rw) : ∀ k, (k = 0 ∧ cmA r k = (-1, 0)) ∨ ∃ j, j < k ∧ (cmA r k).1 = nI j
  | 0 => Or.inl ⟨rfl, rfl⟩
  | k + 1 => by
    refine Or.inr ?_
    unfold cmA
    by_cases h1 : (cmA r k).1 < 0
    · rw [if_pos h1]; exact ⟨k, by omega, rfl⟩
    · rw [if_neg h1]
      by_cases h2 : (cmA r k).2 ≤ frR r k
      · rw [if_pos h2]
        rcases cmA_in r k with ⟨h, e⟩ | ⟨j, h, e⟩
        · exact absurd (by rw [e]; decide) h1
        · exact ⟨j, by omega, e⟩
      · rw [if_neg h2]; exact ⟨k, by omega, rfl⟩
theorem cmR_in {r : Rw} (hI : okR r) : cmR r = -1 ∨ ∃ k, k < rN r ∧ cmR r = nI k := by
  unfold cmR
  by_cases h : r 4 ≤ 0
  · rw [if_pos h]; exact Or.inl rfl
  · rw [if_neg h]
    rcases cmA_in r (rN r) with ⟨-, e⟩ | h
    · exact Or.inl (by rw [e])
    · exact Or.inr h
theorem tkAt_ok {r : Rw} (hI : okR r) {k : Nat} (hk : k < rN r) : okR (tkAt r k) ∧ sm r (tkAt r k) := by
  have hn := hI.n.2
  obtain ⟨g0, g1, g2⟩ := hI.wg hk
  unfold tkAt
  by_cases c : r 4 + r 5 ≤ gdR r k ∨ r (12 + 3 * k) ≤ 0
  · rw [if_pos c]
    exact ⟨okR_lo (okR_wg (j := 2) hI (by omega) (by omega) (clp_in _ (by decide))) (by omega) (by omega) (fun h => by omega) (fun _ => clp_in _ (by decide)), (sm.u (by omega) (by omega)).tr (sm.u (by omega) (by omega))⟩
  · rw [if_neg c]
    refine ⟨okR_wg (j := 2) (okR_lo (okR_lo (okR_wg (j := 0) hI (by omega) (by omega) ?_) (by omega) (by omega) (fun h => by omega) (fun h => by omega)) (by omega) (by omega) (fun h => by omega) (fun _ => by decide)) (by omega) (by omega) (by decide), (((sm.u (by omega) (by omega)).tr (sm.u (by omega) (by omega))).tr (sm.u (by omega) (by omega))).tr (sm.u (by omega) (by omega))⟩
    have : ¬ r (12 + 3 * k) ≤ 0 := fun h => c (Or.inr h)
    show 0 ≤ r (12 + 3 * k) - 1 ∧ r (12 + 3 * k) - 1 ≤ 99
    grind
theorem tkR_ok {r : Rw} (hI : okR r) : okR (tkR r) ∧ sm r (tkR r) := by
  unfold tkR
  by_cases c : 0 ≤ cmR r
  · rw [if_pos c]
    rcases cmR_in hI with e | ⟨k, hk, e⟩
    · rw [e] at c; exact absurd c (by decide)
    · have := hI.n.2
      rw [e, nI_clamp (by omega)]
      exact tkAt_ok hI hk
  · rw [if_neg c]; exact ⟨hI, sm.rf⟩
theorem trA_ok {r : Rw} (hI : okR r) : ∀ w, w ≤ rW r → okR (trA r w) ∧ sm r (trA r w)
  | 0, _ => ⟨hI, sm.rf⟩
  | w + 1, hw => by
    obtain ⟨h1, h2⟩ := trA_ok hI w (by omega)
    have hw2 := hI.w.2
    unfold trA
    by_cases c : trA r w (48 + 5 * w + 4) = 1
    · rw [if_pos c]
      exact ⟨okR_wt (j := 3) h1 (by omega) (by omega) ⟨fun h => by omega, fun h => by omega, fun h => by omega, fun _ => clp_in _ (by decide), fun h => by omega⟩, h2.tr (sm.u (by omega) (by omega))⟩
    · rw [if_neg c]
      exact ⟨okR_lo (okR_wt (j := 3) h1 (by omega) (by omega) ⟨fun h => by omega, fun h => by omega, fun h => by omega, fun _ => clp_in _ (by decide), fun h => by omega⟩) (by omega) (by omega) (fun h => by omega) (fun h => by omega), (h2.tr (sm.u (by omega) (by omega))).tr (sm.u (by omega) (by omega))⟩
theorem hrX_ok {r : Rw} (hI : okR r) : okR (hrX r) ∧ sm r (hrX r) := by
  obtain ⟨a1, a2⟩ := bnR_ok hI
  obtain ⟨b1, b2⟩ := tkR_ok a1
  obtain ⟨c1, c2⟩ := trA_ok b1 (rW r) (by rw [b2.W, a2.W]; exact Nat.le_refl _)
  exact ⟨c1, (a2.tr b2).tr c2⟩
theorem hrR_ok {r : Rw} (hI : okR r) : okR (hrR r) ∧ sm r (hrR r) := by
  obtain ⟨a, b⟩ := hrX_ok hI
  exact ⟨okR_lo a (by omega) (by omega) (fun h => by omega) (fun h => by omega), b.tr (sm.u (by omega) (by omega))⟩
theorem hrN_ok {r : Rw} (hI : okR r) : ∀ n, okR (hrN r n) ∧ sm r (hrN r n)
  | 0 => ⟨hI, sm.rf⟩
  | n + 1 => by
    obtain ⟨a, b⟩ := hrN_ok hI n
    obtain ⟨e, f⟩ := hrR_ok a
    exact ⟨e, b.tr f⟩
/-- the hour goes on by one -/
theorem bnA_6 (r : Rw) : ∀ k, bnA r k 6 = r 6
  | 0 => rfl
  | k + 1 => by
    unfold bnA
    split
    · rw [updN _ _ (by decide), updN _ _ (by decide)]; exact bnA_6 r k
    · rw [updN _ _ (by omega)]; exact bnA_6 r k
theorem tkR_6 (r : Rw) : tkR r 6 = r 6 := by
  unfold tkR tkAt
  split
  · split
    · rw [updN _ _ (by decide), updN _ _ (by omega)]
    · rw [updN _ _ (by omega), updN _ _ (by decide), updN _ _ (by decide), updN _ _ (by omega)]
  · rfl
theorem trA_6 (r : Rw) : ∀ w, trA r w 6 = r 6
  | 0 => rfl
  | w + 1 => by
    unfold trA
    split
    · rw [updN _ _ (by omega)]; exact trA_6 r w
    · rw [updN _ _ (by decide), updN _ _ (by omega)]; exact trA_6 r w
theorem hrR_6 (r : Rw) : hrR r 6 = r 6 + 1 := by
  unfold hrR
  rw [updS]
  unfold hrX
  rw [trA_6, tkR_6]
  unfold bnR
  rw [bnA_6]
