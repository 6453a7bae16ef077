/-! the invariant's pieces over a change elsewhere; ask, item, rest, tell, trim, textTold, why -/
theorem nwI.fr {m m' : wf_Mem} (h : nwI m) (e : m' 121 = m 121) (hf : ∀ a, RdC 41 a → m' a = m a) : nwI m' := by
  obtain ⟨a, b, c⟩ := h
  unfold nwI
  rw [e]
  exact ⟨a, b, c.go a hf⟩
theorem imI.fr {m m' : wf_Mem} (h : imI m) (e0 : m' 0 10 = m 0 10) (e1 : m' 120 3 = m 120 3) (e2 : m' 122 = m 122) (e3 : rT (m 121) ≤ rT (m' 121)) (hf : ∀ a, RdC 58 a → m' a = m a) : imI m' := by
  obtain ⟨a, b, c⟩ := h
  refine ⟨by rw [e0]; exact a, by rw [e0, e1]; exact b, fun g => ?_⟩
  rw [e0] at g
  obtain ⟨c1, c2, c3, c4⟩ := c g
  rw [e2]
  exact ⟨c1, c2, c3.go c1 hf, Nat.le_trans c4 e3⟩
theorem waI.fr {m m' : wf_Mem} (h : waI m) (e0 : m' 0 9 = m 0 9) (e1 : m' 120 31 = m 120 31) (e2 : m' 8 = m 8) (e3 : m' 137 = m 137) : waI m' := by
  unfold waI at h ⊢
  rw [e0, e1, e2, e3]; exact h
theorem taI.fr {m m' : wf_Mem} (h : taI m) (e0 : m' 3 1 = m 3 1) (e1 : m' 120 16 = m 120 16) (e2 : m' 4 = m 4) (e3 : m' 133 = m 133) : taI m' := by
  unfold taI at h ⊢
  rw [e0, e1, e2, e3]; exact h
theorem shI.fr {m m' : wf_Mem} {k : Nat} (h : shI m k) (e0 : m' 124 k = m 124 k) (e1 : m' 125 k = m 125 k) (e2 : ∀ j, j < 24 → m' 126 (24 * k + j) = m 126 (24 * k + j)) (e3 : m' (92 + 2 * k) = m (92 + 2 * k)) (e4 : m' (92 + 2 * k + 1) = m (92 + 2 * k + 1)) : shI m' k := by
  obtain ⟨a, b, c, f, g⟩ := h
  refine ⟨by rw [e3, e0]; exact a, by rw [e0]; exact b, by rw [e3, e1]; exact c, by rw [e1]; exact f, fun j hj => by rw [e4, e2 j hj]; exact g j hj⟩
theorem slI.fr {m m' : wf_Mem} {k : Nat} (h : slI m k) (e0 : m' 127 k = m 127 k) (e1 : m' 128 k = m 128 k) (e2 : m' 129 k = m 129 k) (e3 : m' 130 k = m 130 k) (e4 : ∀ j, j < 24 → m' 131 (24 * k + j) = m 131 (24 * k + j)) (hc : ∀ i, i < 4 → m' (100 + 4 * k + i) = m (100 + 4 * k + i)) : slI m' k := by
  obtain ⟨a, b, c, f, g⟩ := h
  unfold slI
  have c0 : m' (100 + 4 * k) = m (100 + 4 * k) := hc 0 (by decide)
  have c1 : m' (100 + 4 * k + 1) = m (100 + 4 * k + 1) := hc 1 (by decide)
  have c2 : m' (100 + 4 * k + 2) = m (100 + 4 * k + 2) := hc 2 (by decide)
  have c3 : m' (100 + 4 * k + 2 + 1) = m (100 + 4 * k + 2 + 1) := hc 3 (by decide)
  rw [e0, e1, e2, e3, c0, c1, c2, c3]
  exact ⟨a, b, c, f, fun q => by
    obtain ⟨n, hn, u, v, w⟩ := g q
    exact ⟨n, hn, u, v, fun j hj => by rw [e4 j (by omega)]; exact w j hj⟩⟩
def SHc : Nat → Prop := fun a => (92 ≤ a ∧ a < 100) ∨ a = 124 ∨ a = 125 ∨ a = 126 ∨ a = 136
theorem INV.sheets {m m' : wf_Mem} (h : INV m) (hf : Fr SHc m m') (hs : ∀ k, k < 4 → shI m' k) : INV m' := by
  have u : ∀ a, (a < 92 ∨ (100 ≤ a ∧ a < 124) ∨ (127 ≤ a ∧ a < 136) ∨ 137 ≤ a) → m' a = m a := fun a ha => hf a (by unfold SHc; omega)
  obtain ⟨h1, h2, h3, h4, h5, h6⟩ := h
  refine ⟨h1.fr (u 121 (by omega)) (fun a ha => u a (by unfold RdC at ha; omega)), h2.fr (by rw [u 0 (by omega)]) (by rw [u 120 (by omega)]) (u 122 (by omega)) (by rw [u 121 (by omega)]; exact Nat.le_refl _) (fun a ha => u a (by unfold RdC at ha; omega)), hs, fun k hk => (h4 k hk).fr (by rw [u 127 (by omega)]) (by rw [u 128 (by omega)]) (by rw [u 129 (by omega)]) (by rw [u 130 (by omega)]) (fun j hj => by rw [u 131 (by omega)]) (fun i hi => u _ (by omega)), h5.fr (by rw [u 0 (by omega)]) (by rw [u 120 (by omega)]) (u 8 (by omega)) (u 137 (by omega)), h6.fr (by rw [u 3 (by omega)]) (by rw [u 120 (by omega)]) (u 4 (by omega)) (u 133 (by omega))⟩
def SLc : Nat → Prop := fun a => (100 ≤ a ∧ a < 120) ∨ (127 ≤ a ∧ a ≤ 131)
theorem INV.slots {m m' : wf_Mem} (h : INV m) (hf : Fr SLc m m') (hs : ∀ k, k < 5 → slI m' k) : INV m' := by
  have u : ∀ a, (a < 100 ∨ (120 ≤ a ∧ a < 127) ∨ 132 ≤ a) → m' a = m a := fun a ha => hf a (by unfold SLc; omega)
  obtain ⟨h1, h2, h3, h4, h5, h6⟩ := h
  refine ⟨h1.fr (u 121 (by omega)) (fun a ha => u a (by unfold RdC at ha; omega)), h2.fr (by rw [u 0 (by omega)]) (by rw [u 120 (by omega)]) (u 122 (by omega)) (by rw [u 121 (by omega)]; exact Nat.le_refl _) (fun a ha => u a (by unfold RdC at ha; omega)), fun k hk => (h3 k hk).fr (by rw [u 124 (by omega)]) (by rw [u 125 (by omega)]) (fun j hj => by rw [u 126 (by omega)]) (u _ (by omega)) (u _ (by omega)), hs, h5.fr (by rw [u 0 (by omega)]) (by rw [u 120 (by omega)]) (u 8 (by omega)) (u 137 (by omega)), h6.fr (by rw [u 3 (by omega)]) (by rw [u 120 (by omega)]) (u 4 (by omega)) (u 133 (by omega))⟩
section OPK
variable {d : Nat} {mem : wf_Mem} {P : Int32 → wf_Mem → Prop} {Q : wf_Mem → Prop} {r : Rw}
theorem sh_sw {i : Nat} (hi : i < 5) : wf_sh (100 + 4 * i + 1) = (7, 0) := by
  have : i = 0 ∨ i = 1 ∨ i = 2 ∨ i = 3 ∨ i = 4 := by omega
  rcases this with rfl | rfl | rfl | rfl | rfl <;> rfl
theorem sh_ss {i : Nat} (hi : i < 5) : wf_sh (100 + 4 * i + 2) = (4, 0) := by
  have : i = 0 ∨ i = 1 ∨ i = 2 ∨ i = 3 ∨ i = 4 := by omega
  rcases this with rfl | rfl | rfl | rfl | rfl <;> rfl
theorem L_ask (hI : INV mem) (x y : Int32) : Agr (d + 20) mX8_ask mX9_ask [.int x, .int y] mem := by
  have hsl := hI.2.2.2.1
  refine E_X8_ask _ _ (k_isSlot x (fun i hi ei => z1 (k_isKind y (fun a b => n1 ?_) (fun bad => n0 ?_))) (fun bad => z0 ?_))
  · have ex : x.toNatClampNeg = i := by rw [ei, nI_clamp (by omega)]
    have vx : vp_in x 5 := by rw [ei]; exact vin hi
    obtain ⟨t1, t2, t3, t4, t5⟩ := hsl i hi
    rw [ex, t1]
    have ref : ∀ v : Int32, v = (if mem 127 i = 0 then -1000000011 else if mem 127 i = 1 ∧ ioR (mem 128 i) y then mem 129 i else -1000000012) → Ci mX9_ask (d + 20) [.ref 120, .int x, .int y] mem (fun r2 m2 => v = r2 ∧ INV m2) := fun v ev => by
      refine E_X9_ask _ _ (c_isSlot x (fun i' hi' ei' => z1 (c_isIn y 0 5 rfl rfl (fun a b => n1 ?_) (fun bad => absurd ⟨a, b⟩ bad))) (fun bad => absurd ⟨i, hi, ei⟩ bad))
      rw [ex]
      refine ⟨vx, fun c => ⟨vx, fun c1 => ⟨?_, hI⟩, fun c1 => ⟨vx, c_isOf _ _ (fun g => z1 ⟨vx, ?_, hI⟩) (fun g => z0 ⟨?_, hI⟩)⟩⟩, fun c => ⟨?_, hI⟩⟩
      · rw [ev, if_neg c, if_neg (fun q => c1 q.1)]
      · rw [ev, if_neg c, if_pos ⟨c1, g⟩]
      · rw [ev, if_neg c, if_neg (fun q => g q.2)]
      · rw [ev, if_pos c]
    refine ⟨vx, fun c => ⟨fun c1 => ref _ ?_, fun c1 => ?_⟩, fun c => ref _ ?_⟩
    · rw [if_neg c, if_neg (fun q => c1 q.1)]
    · obtain ⟨u1, u2, u3⟩ := t4 c1
      refine k_isOf (sh_sw hi) y (by rw [u1]; exact u2) ⟨a, b⟩ (fun g => n1 (k_worth (sh_sw hi) (ref _ ?_))) (fun g => n0 (ref _ ?_))
      · rw [u1] at g; rw [if_neg c, if_pos ⟨c1, g⟩]; exact u3
      · rw [u1] at g; rw [if_neg c, if_neg (fun q => g q.2)]
    · rw [if_pos c]
  · exact E_X9_ask _ _ (c_isSlot x (fun i' hi' ei' => z1 (c_isIn y 0 5 rfl rfl (fun a b => absurd ⟨a, b⟩ bad) (fun _ => n0 ⟨rfl, hI⟩))) (fun bad' => z0 ⟨rfl, hI⟩))
  · exact E_X9_ask _ _ (c_isSlot x (fun i' hi' ei' => absurd ⟨i', hi', ei'⟩ bad) (fun _ => z0 ⟨rfl, hI⟩))
theorem k_shas {q : Nat} (hq : wf_sh q = (4, 0)) (x : Int32) (n : Nat) (hv : mem q 1 = nI n) (hn : n < 2 ^ 30) (h1 : ∀ k, k < n → x = nI k → P 1 mem) (h0 : (¬ ∃ k, k < n ∧ x = nI k) → P 0 mem) : Ci mX4_has (d + 1) [.ref q, .int x] mem P :=
  E_X4_has _ hq _ (k_rng x n hv hn (fun k a b => bl1 (h1 k a b)) (fun a => bl0 (h0 a)))
theorem c_rng (x : Int32) {v : Int32} (n : Nat) (hv : v = nI n) (hn : n < 2 ^ 30) (h1 : ∀ k, k < n → x = nI k → P 1 mem) (h0 : (¬ ∃ k, k < n ∧ x = nI k) → P 0 mem) : Ci mX9_isIn d [.long x.toInt64, .long 0, .long (v - 1).toInt64] mem P := by
  rw [hv]
  refine c_isIn x 0 (nI n - 1) rfl rfl (fun a b => ?_) (fun bad => h0 (fun ⟨k, hk, ek⟩ => bad (by rw [ek]; exact nI_rng' hk hn)))
  obtain ⟨k, hk, ek⟩ := nI_rng a b hn
  exact h1 k hk ek
theorem L_item (hI : INV mem) (x y : Int32) : Agr (d + 20) mX8_item mX9_item [.int x, .int y] mem := by
  have hsl := hI.2.2.2.1
  refine E_X8_item _ _ (k_isSlot x (fun i hi ei => n1 ?_) (fun bad => n0 ?_))
  · have ex : x.toNatClampNeg = i := by rw [ei, nI_clamp (by omega)]
    have vx : vp_in x 5 := by rw [ei]; exact vin hi
    obtain ⟨t1, t2, t3, t4, t5⟩ := hsl i hi
    rw [ex, t1]
    refine ⟨vx, fun c => ⟨fun c2 => ?_, fun c2 => ?_⟩, fun c => ?_⟩
    · obtain ⟨n, hn, u1, u2, u3⟩ := t5 c2
      have ref : ∀ R : Int32 → wf_Mem → Prop, (∀ k, k < n → y = nI k → (¬ mem 131 (24 * i + k) = -1000000005 → R (mem 131 (24 * i + k)) mem) ∧ (mem 131 (24 * i + k) = -1000000005 → R (-1000000012) mem)) → ((¬ ∃ k, k < n ∧ y = nI k) → R (-1000000013) mem) → Ci mX9_item (d + 20) [.ref 120, .int x, .int y] mem R := fun R h1 h0 => by
        refine E_X9_item _ _ (c_isSlot x (fun i' hi' ei' => n1 ?_) (fun bad => absurd ⟨i, hi, ei⟩ bad))
        rw [ex]
        refine ⟨vx, fun _ => ⟨vx, c_rng y n u2 (by omega) (fun k hk ek => n1 ?_) (fun bad => n0 (h0 bad))⟩, fun c' => absurd c2 c'⟩
        rw [ei, ek, ix24, nI_clamp (by omega)]
        exact ⟨vin (by omega), fun z ez => by rw [ez]; exact h1 k hk ek⟩
      refine k_shas (sh_ss hi) y n u1 (by omega) (fun k hk ek => n1 ?_) (fun bad => n0 (ref _ (fun k hk ek => absurd ⟨k, hk, ek⟩ bad) (fun _ => ⟨rfl, hI⟩)))
      rw [ek, nI_clamp (by omega), u3 k hk]
      refine ⟨vin (by omega), fun z ez => ?_⟩
      subst ez
      have kk : ∀ k', k' < n → y = nI k' → k' = k := fun k' h1 h2 => (nI_eq (by omega) (by omega)).mp (h2.symm.trans ek)
      rw [← ek]
      refine ⟨fun c3 => ref _ (fun k' h1 h2 => ?_) (fun bad => absurd ⟨k, hk, ek⟩ bad), fun c3 => ref _ (fun k' h1 h2 => ?_) (fun bad => absurd ⟨k, hk, ek⟩ bad)⟩
      · rw [kk k' h1 h2]; exact ⟨fun _ => ⟨rfl, hI⟩, fun c4 => absurd c4 c3⟩
      · rw [kk k' h1 h2]; exact ⟨fun c4 => absurd c3 c4, fun _ => ⟨rfl, hI⟩⟩
    · refine E_X9_item _ _ (c_isSlot x (fun i' hi' ei' => n1 ?_) (fun bad => absurd ⟨i, hi, ei⟩ bad))
      rw [ex]
      exact ⟨vx, fun c' => absurd c' c2, fun _ => ⟨vx, fun _ => ⟨rfl, hI⟩, fun c' => absurd c' c⟩⟩
    · refine E_X9_item _ _ (c_isSlot x (fun i' hi' ei' => n1 ?_) (fun bad => absurd ⟨i, hi, ei⟩ bad))
      rw [ex]
      exact ⟨vx, fun c' => absurd (c'.symm.trans c) (by decide), fun _ => ⟨vx, fun c' => absurd c c', fun _ => ⟨rfl, hI⟩⟩⟩
  · exact E_X9_item _ _ (c_isSlot x (fun i' hi' ei' => absurd ⟨i', hi', ei'⟩ bad) (fun _ => n0 ⟨rfl, hI⟩))
theorem L_rest (hI : INV mem) (x y : Int32) : Agr (d + 20) mX8_rest mX9_rest [.int x, .int y] mem := by
  have hsl := hI.2.2.2.1
  refine E_X8_rest _ _ (k_isSlot x (fun i hi ei => n1 ?_) (fun bad => n0 ?_))
  · have ex : x.toNatClampNeg = i := by rw [ei, nI_clamp (by omega)]
    have vx : vp_in x 5 := by rw [ei]; exact vin hi
    obtain ⟨t1, t2, t3, t4, t5⟩ := hsl i hi
    rw [ex, t1]
    have ref : ∀ R : Int32 → wf_Mem → Prop, ((mem 127 i = 3 → (¬ y = 0 → R (mem 128 i - mem 128 i / y * y) mem) ∧ (y = 0 → R (-1000000002) mem)) ∧ (¬ mem 127 i = 3 → (¬ mem 127 i = 0 → R (-1000000012) mem) ∧ (mem 127 i = 0 → R (-1000000011) mem))) → Ci mX9_rest (d + 20) [.ref 120, .int x, .int y] mem R := fun R h => by
      refine E_X9_rest _ _ (c_isSlot x (fun i' hi' ei' => n1 ?_) (fun bad => absurd ⟨i, hi, ei⟩ bad))
      rw [ex]
      exact ⟨vx, fun c => ⟨fun c2 => ⟨vx, c2, (h.1 c).1 c2⟩, (h.1 c).2⟩, fun c => ⟨vx, (h.2 c).1, (h.2 c).2⟩⟩
    refine ⟨vx, fun c => ⟨fun c2 => ?_, fun c2 => ?_⟩, fun c => ?_⟩
    · rw [t3 c2]
      refine ⟨fun c3 => ⟨c3, ref _ ⟨fun _ => ⟨fun _ => ⟨rfl, hI⟩, fun c4 => absurd c4 c3⟩, fun c4 => absurd c2 c4⟩⟩, fun c3 => ref _ ⟨fun _ => ⟨fun c4 => absurd c3 c4, fun _ => ⟨rfl, hI⟩⟩, fun c4 => absurd c2 c4⟩⟩
    · exact ref _ ⟨fun c3 => absurd c3 c2, fun _ => ⟨fun _ => ⟨rfl, hI⟩, fun c3 => absurd c3 c⟩⟩
    · exact ref _ ⟨fun c3 => absurd (c3.symm.trans c) (by decide), fun _ => ⟨fun c3 => absurd c c3, fun _ => ⟨rfl, hI⟩⟩⟩
  · exact E_X9_rest _ _ (c_isSlot x (fun i' hi' ei' => absurd ⟨i', hi', ei'⟩ bad) (fun _ => n0 ⟨rfl, hI⟩))
end OPK
