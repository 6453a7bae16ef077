/-! bounds -/
theorem div_bd {x : Int32} {m e : Nat} (h : 0 ≤ x) (h2 : x ≤ nI m) (hm : m < 2 ^ 31) (he : 0 < e) (he2 : e < 2 ^ 31) : ∃ q, q ≤ m / e ∧ x / nI e = nI q := by
  obtain ⟨j, hj, e1⟩ := nI_of (Int32.not_lt.mpr h)
  subst e1
  have := (nI_leI hj hm).mp h2
  exact ⟨j / e, Nat.div_le_div_right this, pk_div hj he he2⟩
theorem nI_bd {x : Int32} {m : Nat} (h : 0 ≤ x) (h2 : x ≤ nI m) (hm : m < 2 ^ 31) : ∃ q, q ≤ m ∧ x = nI q := by
  obtain ⟨j, hj, e1⟩ := nI_of (Int32.not_lt.mpr h)
  subst e1
  exact ⟨j, (nI_leI hj hm).mp h2, rfl⟩
theorem clp_id {n m : Nat} (h : n ≤ m) (hm : m < 2 ^ 31) : clp (nI n) (nI m) = nI n := by
  unfold clp
  rw [if_pos (nI_pos' (by omega)), if_pos (nI_le h hm)]
theorem clp_nI (x : Int32) {m : Nat} (hm : m < 2 ^ 31) : ∃ n, n ≤ m ∧ clp x (nI m) = nI n := by
  obtain ⟨h1, h2⟩ := clp_in x (m := nI m) (nI_pos' hm)
  exact nI_bd h1 h2 hm
theorem fire_bd {r : Rw} (hI : okR r) {k : Nat} (hk : k < rN r) : ∃ n, n ≤ 9 ∧ r (12 + 3 * k + 1) = nI n := by
  obtain ⟨-, ⟨a, b⟩, -⟩ := hI.wg hk
  exact nI_bd (m := 9) a b (by decide)
theorem nxR_bd {r : Rw} (hI : okR r) {k : Nat} (hk : k < rN r) : ∃ n, n ≤ 18 ∧ nxR r k = nI n := by
  unfold nxR
  by_cases h1 : rN r < 2
  · rw [if_pos h1]; exact ⟨0, by decide, rfl⟩
  · rw [if_neg h1]
    by_cases h2 : rN r = 2
    · rw [if_pos h2]
      obtain ⟨n, a, b⟩ := fire_bd hI (k := 1 - k) (by omega)
      exact ⟨n, by omega, b⟩
    · rw [if_neg h2]
      obtain ⟨n, a, b⟩ := fire_bd hI (k := (k + 1) % rN r) (Nat.mod_lt _ (by omega))
      obtain ⟨n', a', b'⟩ := fire_bd hI (k := (k + rN r - 1) % rN r) (Nat.mod_lt _ (by omega))
      exact ⟨n + n', by omega, by rw [b, b', nI_add]⟩
theorem ltR_bd {r : Rw} (hI : okR r) {k : Nat} (hk : k < rN r) : ∃ n, n ≤ 99 ∧ ltR r k = nI n := by
  unfold ltR lwR
  split
  · exact clp_nI _ (m := 99) (by decide)
  · obtain ⟨n, a, b⟩ := fire_bd hI hk
    obtain ⟨n', a', b'⟩ := nxR_bd hI hk
    exact ⟨2 * n + n', by omega, by rw [b, b']; show nI 2 * nI n + nI n' = _; rw [pk_mul, nI_add]⟩
theorem plR_bd {e t l : Int32} (he : 1 ≤ e ∧ e ≤ 9) (ht : 0 ≤ t ∧ t ≤ 999) {n : Nat} (hl : l = nI n) (hn : n ≤ 99) : ∃ q, q ≤ 33 ∧ plR e t l = nI q := by
  obtain ⟨a, ha, ea⟩ := div_bd (e := 10) (m := 999) ht.1 ht.2 (by decide) (by decide) (by decide)
  obtain ⟨b, hb, eb⟩ := div_bd (x := l) (e := 4) (m := 99) (by rw [hl]; exact nI_pos' (by omega)) (by rw [hl]; exact nI_le hn (by decide)) (by decide) (by decide) (by decide)
  obtain ⟨f, hf, ef⟩ := nI_bd (m := 9) (Int32.le_trans (by decide) he.1) he.2 (by decide)
  unfold plR
  have e10 : t / 10 = nI a := ea
  have e4 : l / 4 = nI b := eb
  rw [e10, e4, ef]
  by_cases c : 0 ≤ nI f - nI a
  · rw [if_pos c]
    have hle : a ≤ f := by
      rcases Nat.lt_or_ge f a with g | g
      · exact absurd (pk_sneg (by omega) g) (Int32.not_lt.mpr c)
      · exact g
    exact ⟨f - a + b, by omega, by rw [pk_sub hle, nI_add]⟩
  · rw [if_neg c]
    exact ⟨0 + b, by omega, by rw [← nI_0, nI_add]⟩
theorem sgR_bd {kind e t l f : Int32} (he : 1 ≤ e ∧ e ≤ 9) (ht : 0 ≤ t ∧ t ≤ 999) {n : Nat} (hl : l = nI n) (hn : n ≤ 99) : ∃ q, q ≤ 33 ∧ sgR kind e t l f = nI q := by
  obtain ⟨p, hp, ep⟩ := plR_bd he ht hl hn
  obtain ⟨g, hg, eg⟩ := nI_bd (m := 9) (Int32.le_trans (by decide) he.1) he.2 (by decide)
  unfold sgR
  rw [ep, eg]
  have h2 : nI p / 2 = nI (p / 2) := pk_div (d := 2) (by omega) (by decide) (by decide)
  split
  · exact ⟨p / 2, by omega, h2⟩
  · split
    · exact ⟨g, by omega, rfl⟩
    · split
      · exact ⟨p / 2 + 1, by omega, by rw [h2, nI_1]⟩
      · split
        · split
          · exact ⟨g + 0, by omega, nI_add g 0⟩
          · exact ⟨g + 3, by omega, nI_add g 3⟩
        · split
          · split
            · exact ⟨p, hp, rfl⟩
            · exact ⟨0, by decide, rfl⟩
          · exact ⟨p, hp, rfl⟩
theorem seR_bd {r : Rw} (hI : okR r) {w : Nat} (hw : w < rW r) : ∃ q, q ≤ 33 ∧ seR r w = nI q := by
  obtain ⟨g0, g1, g2, g3, g4⟩ := hI.wt hw
  obtain ⟨hn, hn2⟩ := hI.n
  unfold seR
  split
  · exact ⟨0, by decide, rfl⟩
  · split
    · rename_i c
      rw [hn] at c
      obtain ⟨k, hk, e⟩ := nI_rng c.1 c.2 (by omega)
      obtain ⟨n, h1, h2⟩ := ltR_bd hI hk
      rw [e, nI_clamp (by omega)]
      exact sgR_bd g2 g3 h2 h1
    · exact ⟨0, by decide, rfl⟩
theorem gdA_bd {r : Rw} (hI : okR r) {k : Nat} (hk : k < rN r) : ∀ w, w ≤ rW r → ∃ q, q ≤ 99 + 33 * w ∧ gdA r k (ltR r k) w = nI q
  | 0, _ => ltR_bd hI hk
  | w + 1, hw => by
    obtain ⟨q, h1, h2⟩ := gdA_bd hI hk w (by omega)
    obtain ⟨p, h3, h4⟩ := seR_bd hI (w := w) (by omega)
    unfold gdA
    rw [h2]
    split
    · exact ⟨q + p, by omega, by rw [h4, nI_add]⟩
    · exact ⟨q + 0, by omega, nI_add q 0⟩
theorem gdR_bd {r : Rw} (hI : okR r) {k : Nat} (hk : k < rN r) : ∃ q, q ≤ 363 ∧ gdR r k = nI q := by
  obtain ⟨q, h1, h2⟩ := gdA_bd hI hk (rW r) (Nat.le_refl _)
  have := hI.w.2
  exact ⟨q, by omega, h2⟩
/-- what a law gives, ahead of the bounds -/
def lvR (r : Rw) (key a b e wo : Int32) : Int32 := if 0 ≤ cntR r key (rT r) then evT r (cntR r key (rT r)).toNatClampNeg a b e else wo
theorem lvR_clp (r : Rw) (key a b e : Int32) {wo : Int32} {n m : Nat} (hw : wo = nI n) (hn : n ≤ m) (hm : m < 2 ^ 31) : clp (lvR r key a b e wo) (nI m) = lwR r key a b e wo (nI m) := by
  unfold lvR lwR
  split
  · rfl
  · rw [hw, clp_id hn hm]
theorem camp3 {c : Nat} (h : wf_sh c = (0, 0)) : c = 41 ∨ c = 58 ∨ c = 75 := sh_all (P := fun c => c = 41 ∨ c = 58 ∨ c = 75) (by decide) (by decide +kernel) h
/-- the cells that Rel c reads -/
def RdC (c a : Nat) : Prop := (c ≤ a ∧ a ≤ c + 4) ∨ a = c + 6 ∨ (c + 9 ≤ a ∧ a < c + 17) ∨ (11 ≤ a ∧ a < 39)
theorem RelT.go {c : Nat} {r : Rw} {m m' : wf_Mem} (hI : okR r) (h : RelT c m r) (hf : ∀ a, RdC c a → m' a = m a) : RelT c m' r := by
  have ht := hI.t.2
  obtain ⟨h1, h2, h3⟩ := h
  refine ⟨by rw [hf c (Or.inl ⟨by omega, by omega⟩)]; exact h1, fun k hk => by rw [hf (c + 6) (Or.inr (Or.inl rfl))]; exact h2 k hk, fun t htt => ?_⟩
  have hl := h3 t htt
  unfold lwT at hl ⊢
  rw [hf (10 + 1 + 2 * t) (Or.inr (Or.inr (Or.inr ⟨by omega, by omega⟩))), hf (10 + 1 + 2 * t + 1) (Or.inr (Or.inr (Or.inr ⟨by omega, by omega⟩)))]
  exact hl
theorem Rel.go {c : Nat} {r : Rw} {m m' : wf_Mem} (hI : okR r) (h : Rel c m r) (hf : ∀ a, RdC c a → m' a = m a) : Rel c m' r := by
  have hw := hI.w.2
  obtain ⟨h1, h2, h3, h4⟩ := h
  refine ⟨?_, fun k hk => ?_, fun w hw2 j hj => ?_, RelT.go hI h4 hf⟩
  · rw [hf c (Or.inl ⟨by omega, by omega⟩), hf (c + 1) (Or.inl ⟨by omega, by omega⟩)]; exact h1
  · rw [hf (c + 1 + 1) (Or.inl ⟨by omega, by omega⟩), hf (c + 1 + 2) (Or.inl ⟨by omega, by omega⟩), hf (c + 1 + 3) (Or.inl ⟨by omega, by omega⟩)]; exact h2 k hk
  · rw [hf (c + 5 + 4 + w) (Or.inr (Or.inr (Or.inl ⟨by omega, by omega⟩)))]; exact h3 w hw2 j hj
def SM (c : Nat) : Nat → Prop := fun a => a = 9 ∨ a = c + 7 ∨ a = c + 8
theorem Rel.sm {c : Nat} {r : Rw} {m m' : wf_Mem} (hc : wf_sh c = (0, 0)) (hI : okR r) (h : Rel c m r) (hf : Fr (SM c) m m') : Rel c m' r :=
  h.go hI (fun a ha => hf a (by rcases camp3 hc with rfl | rfl | rfl <;> (unfold RdC at ha; unfold SM; omega)))
theorem S9.m {c : Nat} {m m' : wf_Mem} (h : Fr S9 m m') : Fr (SM c) m m' := h.to (fun _ h => Or.inl h)
section CLSB
variable {d : Nat} {mem : wf_Mem} {P : Int32 → wf_Mem → Prop} {Q : wf_Mem → Prop} {r : Rw} {c : Nat}
theorem k_byLaw (hc : wf_sh c = (0, 0)) (hI : okR r) (hR : RelT c mem r) {key : Nat} (hk : key < 3) (a b e wo : Int32) (h : ∀ mem', Fr S9 mem mem' → P (lvR r (nI key) a b e wo) mem') : Ci mX0_byLaw (d + 2) [.ref c, .int (nI key), .int a, .int b, .int e, .int wo] mem P := by
  obtain ⟨ht, ht2⟩ := hI.t
  refine E_X0_byLaw _ hc _ _ _ _ _ ⟨vin (by omega), fun x ex => ?_⟩
  rw [nI_clamp (by omega), hR.2.1 key hk] at ex
  unfold lvR at h
  refine k_rng x (rT r) (hR.1.trans ht) (by omega) (fun t ht3 e1 => z1 ?_) (fun hno => z0 ?_)
  · rcases cntR_in r (nI key) (rT r) with g | ⟨j, hj, g, -⟩
    · rw [g] at ex
      exact absurd (show (-1000000005 : Int32) = nI t from ex.symm.trans e1) (fun z => by have := nI_pos' (n := t) (by omega); rw [← z] at this; exact absurd this (by decide))
    · have hx : x = nI j := by rw [ex, g]; unfold orN; rw [if_pos (nI_pos' (by omega))]
      rw [g, if_pos (nI_pos' (by omega)), nI_clamp (by omega)] at h
      rw [hx, nI_clamp (by omega)]
      exact ⟨vin (by omega), k_work (by omega) (hI.tx hj) (hR.2.2 j hj) a b e h⟩
  · rcases cntR_in r (nI key) (rT r) with g | ⟨j, hj, g, -⟩
    · rw [g, if_neg (by decide)] at h
      exact h mem Fr.rf
    · exact absurd ⟨j, hj, by rw [ex, g]; unfold orN; rw [if_pos (nI_pos' (by omega))]⟩ hno
theorem k_lightBy (hc : wf_sh c = (0, 0)) (hI : okR r) (hR : Rel c mem r) (a b : Int32) (h : ∀ mem', Fr S9 mem mem' → P (clp (lvR r 0 a b (r 3) (2 * a + b)) 99) mem') : Ci mX0_lightBy (d + 3) [.ref c, .int a, .int b] mem P := by
  refine E_X0_lightBy _ hc _ _ ?_
  rw [hR.1.2.2.1]
  exact k_byLaw (key := 0) hc hI hR.2.2.2 (by decide) a b (r 3) (2 * a + b) (fun m hm => k_heldc _ _ (by decide) (h m hm))
theorem k_nextFires (hc : wf_sh c = (0, 0)) (hI : okR r) (hR : Rel c mem r) {k : Nat} (hk : k < rN r) (h : P (nxR r k) mem) : Ci mX3_nextFires (d + 2) [.ref (c + 1), .int (nI k)] mem P := by
  obtain ⟨hn, hn2⟩ := hI.n
  have h0 : mem (c + 1) 0 = nI (rN r) := hR.1.1.trans hn
  have fin : ∀ (x y : Nat), x < rN r → y < rN r → P (if x = y then r (12 + 3 * x + 1) else r (12 + 3 * x + 1) + r (12 + 3 * y + 1)) mem → Vw (Ni (d + 2) P) mX3_nextFires 52 [(0, .ref (c + 1)), (2, .int (nI x))] [.int (nI y)] mem := by
    intro x y hx hy hh
    refine b_X3_nextFires_52 _ _ (sh_0_0 hc) _ _ ?_
    rw [nI_clamp (by omega), nI_clamp (by omega), (hR.2.1 x hx).2.1, (hR.2.1 y hy).2.1, nI_eq (by omega) (by omega)]
    refine ⟨fun g => ⟨vin (by omega), vin (by omega), ?_⟩, fun g => ⟨vin (by omega), ?_⟩⟩
    · rw [if_neg g] at hh; exact hh
    · rw [if_pos g] at hh; exact hh
  unfold nxR at h
  refine E_X3_nextFires _ (sh_0_0 hc) _ ⟨fun g => ?_, fun g => ?_⟩
  · rw [h0] at g
    have : rN r < 2 := (nI_ltI (b := 2) (by omega) (by decide)).mp g
    rw [if_pos this] at h
    exact h
  · rw [h0] at g
    have h2 : ¬ rN r < 2 := fun z => g ((nI_ltI (b := 2) (by omega) (by decide)).mpr z)
    rw [if_neg h2] at h
    have hpred : nI (rN r) - 1 = nI (rN r - 1) := by rw [show rN r = (rN r - 1) + 1 by omega, nI_pred]; rfl
    have hk0 : (nI k = 0) ↔ k = 0 := nI_eq (b := 0) (by omega) (by decide)
    have hkn : (nI k = nI (rN r - 1)) ↔ k = rN r - 1 := nI_eq (by omega) (by omega)
    refine k_has (sh_0_0 hc) _ (rN r) h0 (by omega) (fun _ _ _ => n1 ?_) (fun hno => absurd ⟨k, hk, rfl⟩ hno)
    rw [h0, hpred, hk0, hkn]
    refine ⟨fun ck => ?_, fun ck => ?_⟩
    · rw [nI_1]
      intro x ex
      subst ex
      refine ⟨fun c0 => ?_, fun c0 => ?_⟩
      · have e1 : nI k - 1 = nI (k - 1) := by rw [show k = (k - 1) + 1 by omega, nI_pred]; rfl
        rw [e1]
        refine fin (k + 1) (k - 1) (by omega) (by omega) ?_
        rw [if_neg (by omega), Nat.mod_eq_of_lt (show k + 1 < rN r by omega), show k + rN r - 1 = (k - 1) + rN r by omega, Nat.add_mod_right, Nat.mod_eq_of_lt (show k - 1 < rN r by omega)] at h
        rw [if_neg (by omega)]
        exact h
      · refine fin (k + 1) (rN r - 1) (by omega) (by omega) ?_
        subst c0
        by_cases h3 : rN r = 2
        · rw [if_pos h3] at h
          rw [if_pos (by omega)]
          exact h
        · have e1 : (0 + 1) % rN r = 0 + 1 := Nat.mod_eq_of_lt (by omega)
          have e2 : (0 + rN r - 1) % rN r = rN r - 1 := by rw [Nat.zero_add]; exact Nat.mod_eq_of_lt (by omega)
          rw [if_neg h3, e1, e2] at h
          rw [if_neg (by omega)]
          exact h
    · refine ⟨fun c0 => ?_, fun c0 => absurd c0 (by omega)⟩
      have e1 : nI k - 1 = nI (k - 1) := by rw [show k = (k - 1) + 1 by omega, nI_pred]; rfl
      rw [e1]
      refine fin 0 (k - 1) (by omega) (by omega) ?_
      by_cases h3 : rN r = 2
      · rw [if_pos h3] at h
        rw [if_pos (by omega), show 0 = 1 - k by omega]
        exact h
      · rw [if_neg h3, show k + 1 = rN r by omega, Nat.mod_self, show k + rN r - 1 = (k - 1) + rN r by omega, Nat.add_mod_right, Nat.mod_eq_of_lt (show k - 1 < rN r by omega)] at h
        rw [if_neg (by omega)]
        exact h
theorem lt_lv (hI : okR r) {k : Nat} (hk : k < rN r) : clp (lvR r 0 (r (12 + 3 * k + 1)) (nxR r k) (r 3) (2 * r (12 + 3 * k + 1) + nxR r k)) 99 = ltR r k := by
  obtain ⟨n, a, b⟩ := fire_bd hI hk
  obtain ⟨n', a', b'⟩ := nxR_bd hI hk
  exact lvR_clp r 0 _ _ _ (n := 2 * n + n') (m := 99) (by rw [b, b']; show nI 2 * nI n + nI n' = _; rw [pk_mul, nI_add]) (by omega) (by decide)
theorem k_plain {q : Nat} (hq : wf_sh q = (7, 0)) (l : Int32) (h : P (plR (mem q 2) (mem q 3) l) mem) : Ci mX7_plainSight (d + 1) [.ref q, .int l] mem P := by
  refine E_X7_plainSight _ hq _ ?_
  unfold plR at h
  have e : (if 0 < mem q 2 - mem q 3 / 10 then mem q 2 - mem q 3 / 10 else 0) = (if 0 ≤ mem q 2 - mem q 3 / 10 then mem q 2 - mem q 3 / 10 else 0) := by
    generalize mem q 2 - mem q 3 / 10 = z
    grind
  rw [e]
  exact h
theorem k_sight {q : Nat} (hq : wf_sh q = (7, 0)) (l f : Int32) (h : P (if mem q 4 = 0 then 0 else sgR (mem q 0) (mem q 2) (mem q 3) l f) mem) : Ci mX7_sight (d + 2) [.ref q, .int l, .int f] mem P := by
  refine E_X7_sight _ hq _ _ ⟨fun g => ?_, fun g => by rw [if_pos g] at h; exact h⟩
  rw [if_neg g] at h
  unfold sgR at h
  refine ⟨fun c => ?_, fun c => ⟨fun c2 => ?_, fun c2 => ⟨fun c3 => ?_, fun c3 => ⟨fun c4 => ?_, fun c4 => ⟨fun c5 => ?_, fun c5 => ?_⟩⟩⟩⟩⟩
  · rw [if_pos c] at h; exact k_plain hq l h
  · rw [if_neg c, if_pos c2] at h; exact h
  · rw [if_neg c, if_neg c2, if_pos c3] at h; exact k_plain hq l h
  · rw [if_neg c, if_neg c2, if_neg c3, if_pos c4] at h
    refine ⟨fun c => ?_, fun c => ?_⟩
    · rw [if_pos c, show mem q 2 + 0 = mem q 2 by grind] at h; exact h
    · rw [if_neg c] at h; exact h
  · rw [if_neg c, if_neg c2, if_neg c3, if_neg c4, if_pos c5] at h
    refine ⟨fun c => ?_, fun c => ?_⟩
    · rw [if_pos c] at h; exact k_plain hq l h
    · rw [if_neg c] at h; exact h
  · rw [if_neg c, if_neg c2, if_neg c3, if_neg c4, if_neg c5] at h; exact k_plain hq l h
/-- what a watcher sees, its light measured -/
theorem k_sightOf (hc : wf_sh c = (0, 0)) (hI : okR r) (hR : Rel c mem r) {w : Nat} (hw : w < rW r) (hL : ∀ k, k < rN r → mem (c + 7) k = ltR r k) (h : P (seR r w) mem) : Ci mX0_sightOf (d + 3) [.ref c, .ref (c + 5 + 4 + w)] mem P := by
  obtain ⟨hn, hn2⟩ := hI.n
  have hW := hI.w.2
  have e : ∀ j, j < 5 → mem (c + 5 + 4 + w) j = r (48 + 5 * w + j) := hR.2.2.1 w hw
  have hq : wf_sh (c + 5 + 4 + w) = (7, 0) := sh_r22 (sh_0_1 hc) (by omega)
  refine E_X0_sightOf _ hc _ hq ?_
  rw [e 1 (by decide)]
  unfold seR at h
  refine k_has (sh_0_0 hc) _ (rN r) (hR.1.1.trans hn) (by omega) (fun k hk ek => z1 ?_) (fun hno => z0 ?_)
  · rw [e 1 (by decide), ek, nI_clamp (by omega), hL k hk, (hR.2.1 k hk).1]
    refine ⟨vin (by omega), vin (by omega), k_sight hq _ _ ?_⟩
    rw [e 4 (by decide), e 0 (by decide), e 2 (by decide), e 3 (by decide), Nat.add_zero]
    by_cases g : r (48 + 5 * w + 4) = 0
    · rw [if_pos g] at h ⊢; exact h
    · rw [if_neg g] at h ⊢
      have hin : 0 ≤ r (48 + 5 * w + 1) ∧ r (48 + 5 * w + 1) ≤ r 0 - 1 := by rw [ek, hn]; exact nI_rng' hk (by omega)
      rw [if_pos hin, ek, nI_clamp (by omega)] at h
      exact h
  · have hin : ¬ (0 ≤ r (48 + 5 * w + 1) ∧ r (48 + 5 * w + 1) ≤ r 0 - 1) := by
      intro g
      rw [hn] at g
      obtain ⟨k, h1, h2⟩ := nI_rng g.1 g.2 (by omega)
      exact hno ⟨k, h1, h2⟩
    rw [if_neg hin] at h
    have : (if r (48 + 5 * w + 4) = 0 then (0 : Int32) else 0) = 0 := by split <;> rfl
    rw [this] at h
    exact h
theorem measure1 (hc : wf_sh c = (0, 0)) (hI : okR r) : ∀ (j k : Nat) (mem : wf_Mem), Rel c mem r → k + j = rN r → (∀ i, i < k → mem (c + 7) i = ltR r i ∧ mem (c + 8) i = ltR r i) →
    (∀ mem', Fr (SM c) mem mem' → (∀ i, i < rN r → mem' (c + 7) i = ltR r i ∧ mem' (c + 8) i = ltR r i) → Vw (Nv (d + 4) Q) mX0_measure 60 [(0, .ref c), (1, .int 0)] [] mem') →
    Vw (Nv (d + 4) Q) mX0_measure 2 [(0, .ref c), (1, .int (nI k))] [] mem := by
  obtain ⟨hn, hn2⟩ := hI.n
  intro j
  induction j with
  | zero =>
    intro k mem hR hj hm h
    have hk : k = rN r := by omega
    subst hk
    refine b_X0_measure_2 _ _ hc _ (br_t ?_ (h mem Fr.rf hm))
    rw [hR.1.1, hn]; exact nI_le (Nat.le_refl _) (by omega)
  | succ j ih =>
    intro k mem hR hj hm h
    refine b_X0_measure_2 _ _ hc _ (br_f ?_ ⟨vin (by omega), ?_⟩)
    · rw [hR.1.1, hn]; exact nI_ge (by omega) (by omega)
    rw [nI_clamp (by omega), nI_1]
    refine k_nextFires hc hI hR (by omega) ?_
    rw [(hR.2.1 k (by omega)).2.1]
    refine k_lightBy hc hI hR _ _ (fun m hf => ⟨vin (by omega), fun m2 e2 => ⟨vin (by omega), vin (by omega), fun m3 e3 => ?_⟩⟩)
    rw [lt_lv hI (by omega)] at e2
    subst e2
    rw [msS] at e3
    subst e3
    have hF : Fr (SM c) mem (wf_ms (wf_ms m (c + 7) k (ltR r k)) (c + 8) k (ltR r k)) := (S9.m hf).tr ((Fr.ms (Or.inr (Or.inl rfl))).tr (Fr.ms (Or.inr (Or.inr rfl))))
    refine ih (k + 1) _ (hR.sm hc hI hF) (by omega) (fun i hi => ?_) (fun m' a b => h m' (hF.tr a) b)
    have h9a : c + 7 ≠ 9 := by rcases camp3 hc with rfl | rfl | rfl <;> decide
    have h9b : c + 8 ≠ 9 := by rcases camp3 hc with rfl | rfl | rfl <;> decide
    by_cases hik : i = k
    · subst hik
      exact ⟨by rw [msA _ _ _ _ (by omega), msS], msS _ _ _ _⟩
    · rw [msK _ _ _ _ hik, msK _ _ _ _ hik, msK _ _ _ _ hik, msK _ _ _ _ hik, hf _ h9a, hf _ h9b]
      exact hm i (by omega)
theorem measure2 (hc : wf_sh c = (0, 0)) (hI : okR r) : ∀ (j w : Nat) (mem : wf_Mem), Rel c mem r → w + j = rW r → (∀ i, i < rN r → mem (c + 7) i = ltR r i ∧ mem (c + 8) i = gdA r i (ltR r i) w) →
    (∀ mem', Fr (SM c) mem mem' → (∀ i, i < rN r → mem' (c + 7) i = ltR r i ∧ mem' (c + 8) i = gdR r i) → Q mem') →
    Vw (Nv (d + 4) Q) mX0_measure 60 [(0, .ref c), (1, .int (nI w))] [] mem := by
  obtain ⟨hn, hn2⟩ := hI.n
  obtain ⟨hw, hw2⟩ := hI.w
  intro j
  induction j with
  | zero =>
    intro w mem hR hj hm h
    have hk : w = rW r := by omega
    subst hk
    refine b_X0_measure_60 _ _ hc _ (br_t ?_ (h mem Fr.rf hm))
    rw [hR.1.2.1, hw]; exact nI_le (Nat.le_refl _) (by omega)
  | succ j ih =>
    intro w mem hR hj hm h
    refine b_X0_measure_60 _ _ hc _ (br_f ?_ ⟨vin (by omega), fun x ex => ?_⟩)
    · rw [hR.1.2.1, hw]; exact nI_ge (by omega) (by omega)
    rw [nI_clamp (by omega), hR.2.2.1 w (by omega) 1 (by decide)] at ex
    rw [nI_1]
    refine k_has (sh_0_0 hc) _ (rN r) (hR.1.1.trans hn) (by omega) (fun k hk ek => z1 ?_) (fun hno => z0 ?_)
    · rw [ek, nI_clamp (by omega), nI_clamp (by omega)]
      refine ⟨vin (by omega), vin (by omega), k_sightOf hc hI hR (by omega) (fun k hk => (hm k hk).1) ⟨vin (by omega), fun m2 e2 => ?_⟩⟩
      rw [(hm k hk).2] at e2
      subst e2
      have hF : Fr (SM c) mem (wf_ms mem (c + 8) k (gdA r k (ltR r k) w + seR r w)) := Fr.ms (Or.inr (Or.inr rfl))
      refine ih (w + 1) _ (hR.sm hc hI hF) (by omega) (fun i hi => ?_) (fun m' a b => h m' (hF.tr a) b)
      refine ⟨by rw [msA _ _ _ _ (by omega)]; exact (hm i hi).1, ?_⟩
      show _ = gdA r i (ltR r i) w + (if r (48 + 5 * w + 1) = nI i then seR r w else 0)
      by_cases hik : i = k
      · subst hik
        rw [msS, if_pos (ex.symm.trans ek)]
      · rw [msK _ _ _ _ hik, (hm i hi).2, if_neg (fun z => hik ((nI_eq (by omega) (by omega)).mp (z.symm.trans (ex.symm.trans ek))))]
        grind
    · refine ih (w + 1) mem hR (by omega) (fun i hi => ⟨(hm i hi).1, ?_⟩) h
      show _ = gdA r i (ltR r i) w + (if r (48 + 5 * w + 1) = nI i then seR r w else 0)
      rw [(hm i hi).2, if_neg (fun z => hno ⟨i, hi, ex.trans z⟩)]
      grind
theorem k_measure (hc : wf_sh c = (0, 0)) (hI : okR r) (hR : Rel c mem r) (h : ∀ mem', Fr (SM c) mem mem' → (∀ i, i < rN r → mem' (c + 7) i = ltR r i ∧ mem' (c + 8) i = gdR r i) → Q mem') : Cv mX0_measure (d + 4) [.ref c] mem Q := by
  refine E_X0_measure _ hc ?_
  exact measure1 hc hI (rN r) 0 mem hR (by omega) (fun i hi => absurd hi (by omega)) (fun m1 f1 h1 => measure2 hc hI (rW r) 0 m1 (hR.sm hc hI f1) (by omega) h1 (fun m2 f2 h2 => h m2 (f1.tr f2) h2))
theorem k_fearsOf (hc : wf_sh c = (0, 0)) (hI : okR r) (hR : Rel c mem r) {k : Nat} (hk : k < rN r) (hG : mem (c + 8) k = gdR r k) (h : ∀ mem', Fr S9 mem mem' → P (frR r k) mem') : Ci mX0_fearsOf (d + 3) [.ref c, .int (nI k)] mem P := by
  obtain ⟨hn, hn2⟩ := hI.n
  refine E_X0_fearsOf _ hc _ (k_has (sh_0_0 hc) _ (rN r) (hR.1.1.trans hn) (by omega) (fun _ _ _ => n1 ?_) (fun hno => absurd ⟨k, hk, rfl⟩ hno))
  rw [nI_clamp (by omega), hG, (hR.2.1 k hk).2.2, hR.1.2.2.2.2.1]
  refine ⟨vin (by omega), fun x ex => ⟨vin (by omega), vin (by omega), ?_⟩⟩
  subst ex
  refine k_byLaw (key := 1) hc hI hR.2.2.2 (by decide) _ _ _ _ (fun m hm => k_heldc _ _ (by decide) ?_)
  obtain ⟨q, h1, h2⟩ := gdR_bd hI hk
  obtain ⟨-, -, g1, g2⟩ := hI.wg hk
  obtain ⟨p, h3, h4⟩ := nI_bd (m := 99) g1 g2 (by decide)
  have e : clp (lvR r (nI 1) (gdR r k) (r (12 + 3 * k + 2)) (r 5) (gdR r k + r (12 + 3 * k + 2))) 999 = frR r k :=
    lvR_clp r 1 _ _ _ (n := q + p) (m := 999) (by rw [h2, h4, nI_add]) (by omega) (by decide)
  rw [e]
  exact h m hm
theorem least_loop (hc : wf_sh c = (0, 0)) (hI : okR r) (hw : ¬ r 4 ≤ 0) : ∀ (j k : Nat) (mem : wf_Mem), Rel c mem r → (∀ i, i < rN r → mem (c + 8) i = gdR r i) → k + j = rN r → (∀ mem', Fr S9 mem mem' → P (orN (cmA r (rN r)).1) mem') →
    Vw (Ni (d + 4) P) mX0_leastFeared 7 [(0, .ref c), (1, .int (orN (cmA r k).1)), (2, .int (cmA r k).2), (3, .int (nI k))] [] mem := by
  obtain ⟨hn, hn2⟩ := hI.n
  intro j
  induction j with
  | zero =>
    intro k mem hR hG hj h
    have hk : k = rN r := by omega
    subst hk
    refine b_X0_leastFeared_7 _ _ hc _ _ _ (br_t ?_ (h mem Fr.rf))
    rw [hR.1.1, hn]; exact nI_le (Nat.le_refl _) (by omega)
  | succ j ih =>
    intro k mem hR hG hj h
    refine b_X0_leastFeared_7 _ _ hc _ _ _ (br_f ?_ (br_f (by rw [hR.1.2.2.2.1]; exact hw) (k_fearsOf hc hI hR (by omega) (hG k (by omega)) (fun m hm => ?_))))
    · rw [hR.1.1, hn]; exact nI_ge (by omega) (by omega)
    have h9 : c + 8 ≠ 9 := by rcases camp3 hc with rfl | rfl | rfl <;> decide
    have hn := ih (k + 1) m (hR.sm hc hI (S9.m hm)) (fun i hi => by rw [hm _ h9]; exact hG i hi) (by omega) (fun m' a => h m' (hm.tr a))
    rw [nI_1]
    have eo : orN (nI k) = nI k := by unfold orN; rw [if_pos (nI_pos' (by omega))]
    unfold cmA at hn
    rcases cmA_in r k with ⟨-, e⟩ | ⟨i, hi, e⟩
    · rw [e] at hn ⊢
      rw [if_pos (by decide)] at hn
      refine ⟨fun _ => ?_, fun g => absurd (by decide) g⟩
      dsimp only at hn
      rw [eo] at hn
      exact hn
    · have ei : orN (nI i) = nI i := by unfold orN; rw [if_pos (nI_pos' (by omega))]
      rw [if_neg (by rw [e]; exact nI_pos (by omega))] at hn
      rw [e, ei]
      refine ⟨fun g => absurd (nI_pos' (n := i) (by omega)) (by rw [g]; decide), fun _ => ⟨fun c2 => ?_, fun c2 => ?_⟩⟩
      · rw [if_pos c2, e, ei] at hn; exact hn
      · rw [if_neg c2] at hn
        dsimp only at hn
        rw [eo] at hn; exact hn
theorem k_least (hc : wf_sh c = (0, 0)) (hI : okR r) (hR : Rel c mem r) (hG : ∀ i, i < rN r → mem (c + 8) i = gdR r i) (h : ∀ mem', Fr S9 mem mem' → P (orN (cmR r)) mem') : Ci mX0_leastFeared (d + 4) [.ref c] mem P := by
  unfold cmR at h
  refine E_X0_leastFeared _ hc ?_
  by_cases hw : r 4 ≤ 0
  · rw [if_pos hw] at h
    have h := h mem Fr.rf
    exact b_X0_leastFeared_7 _ _ hc _ _ _ ⟨fun _ => h, fun _ => br_t (by rw [hR.1.2.2.2.1]; exact hw) h⟩
  · rw [if_neg hw] at h
    exact least_loop hc hI hw (rN r) 0 mem hR hG (by omega) h
end CLSB
