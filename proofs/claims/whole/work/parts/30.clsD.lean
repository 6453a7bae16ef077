/-! a camp taken over from another -/
def SD (c : Nat) : Nat → Prop := fun a => c ≤ a ∧ a < c + 17
theorem SD.ms {c : Nat} {m : wf_Mem} {a k : Nat} {v : Int32} (h : c ≤ a ∧ a < c + 17) : Fr (SD c) m (wf_ms m a k v) := Fr.ms h
theorem SD.c {c : Nat} {m m' : wf_Mem} (h : Fr (SD c) m m') : Fr (SC c) m m' := h.to (fun _ h => Or.inr h)
theorem camp_apart {a b : Nat} (ha : wf_sh a = (0, 0)) (hb : wf_sh b = (0, 0)) (h : a ≠ b) : a + 17 ≤ b ∨ b + 17 ≤ a := by
  rcases camp3 ha with rfl | rfl | rfl <;> rcases camp3 hb with rfl | rfl | rfl <;> omega
theorem mcS (m : wf_Mem) (a0 a n : Nat) {j : Nat} (h : j < n) : wf_mc m a0 0 a 0 n a j = m a0 j := by simp [wf_mc, h]
theorem mcA (m : wf_Mem) (a0 a n : Nat) {b j : Nat} (h : b ≠ a) : wf_mc m a0 0 a 0 n b j = m b j := by simp [wf_mc, h]
theorem Fr.mc {S : Nat → Prop} {m : wf_Mem} {a0 sp a dp n : Nat} (h : S a) : Fr S m (wf_mc m a0 sp a dp n) := fun q g => wf_mc_other _ _ _ _ _ _ (fun e => g (by rw [e]; exact h))
section CLSD
variable {d : Nat} {mem : wf_Mem} {P : Int32 → wf_Mem → Prop} {Q : wf_Mem → Prop} {r : Rw} {c : Nat}
theorem k_ringTake {q0 q1 : Nat} (h0 : wf_sh q0 = (3, 0)) (h1 : wf_sh q1 = (3, 0)) (ha : q0 + 4 ≤ q1 ∨ q1 + 4 ≤ q0) {n : Nat} (hn : mem q1 0 = nI n) (hn2 : n ≤ 12)
    (h : ∀ mem', Fr (fun a => q0 ≤ a ∧ a < q0 + 4) mem mem' → mem' q0 0 = nI n → (∀ k, k < n → mem' (q0 + 1) k = mem (q1 + 1) k ∧ mem' (q0 + 2) k = mem (q1 + 2) k ∧ mem' (q0 + 3) k = mem (q1 + 3) k) → Q mem') : Cv mX3_takeFrom (d + 1) [.ref q0, .ref q1] mem Q := by
  refine E_X3_takeFrom _ h0 _ h1 (fun m1 e1 => ?_)
  rw [hn] at e1
  have g1 : m1 q0 0 = nI n := by rw [e1, msS]
  have z0 : (0 : Int32).toNatClampNeg = 0 := rfl
  have ok : ¬ (0 : Int32) < 0 ∧ ¬ (0 : Int32) < 0 ∧ ¬ nI n < 0 ∧ (0 : Int32).toNatClampNeg + (nI n).toNatClampNeg ≤ 12 ∧ (0 : Int32).toNatClampNeg + (nI n).toNatClampNeg ≤ 12 := by
    rw [nI_clamp (by omega), z0]
    exact ⟨by decide, by decide, nI_pos (by omega), by omega, by omega⟩
  rw [g1]
  refine ⟨ok, fun m2 e2 => ?_⟩
  rw [z0, nI_clamp (by omega)] at e2
  have g2 : m2 q0 0 = nI n := by rw [e2, mcA _ _ _ _ (by omega)]; exact g1
  rw [g2]
  refine ⟨ok, fun m3 e3 => ?_⟩
  rw [z0, nI_clamp (by omega)] at e3
  have g3 : m3 q0 0 = nI n := by rw [e3, mcA _ _ _ _ (by omega)]; exact g2
  rw [g3]
  refine ⟨ok, fun m4 e4 => ?_⟩
  rw [z0, nI_clamp (by omega)] at e4
  refine h m4 ?_ ?_ (fun k hk => ⟨?_, ?_, ?_⟩)
  · rw [e4, e3, e2, e1]
    exact (((Fr.ms ⟨by omega, by omega⟩).tr (Fr.mc ⟨by omega, by omega⟩)).tr (Fr.mc ⟨by omega, by omega⟩)).tr (Fr.mc ⟨by omega, by omega⟩)
  · rw [e4, mcA _ _ _ _ (by omega)]; exact g3
  · rw [e4, mcA _ _ _ _ (by omega), e3, mcA _ _ _ _ (by omega), e2, mcS _ _ _ _ hk, e1, msA _ _ _ _ (by omega)]
  · rw [e4, mcA _ _ _ _ (by omega), e3, mcS _ _ _ _ hk, e2, mcA _ _ _ _ (by omega), e1, msA _ _ _ _ (by omega)]
  · rw [e4, mcS _ _ _ _ hk, e3, mcA _ _ _ _ (by omega), e2, mcA _ _ _ _ (by omega), e1, msA _ _ _ _ (by omega)]
theorem k_watTake {q0 q1 : Nat} (h0 : wf_sh q0 = (7, 0)) (h1 : wf_sh q1 = (7, 0)) (ha : q0 ≠ q1) (h : ∀ mem', Fr (fun a => a = q0) mem mem' → (∀ j, j < 5 → mem' q0 j = mem q1 j) → Q mem') : Cv mX7_takeFrom d [.ref q0, .ref q1] mem Q := by
  refine E_X7_takeFrom _ h0 _ h1 (fun m1 e1 m2 e2 m3 e3 m4 e4 m5 e5 => ?_)
  have ne : q1 ≠ q0 := Ne.symm ha
  subst e1
  rw [msA _ _ _ _ ne] at e2
  subst e2
  rw [msA _ _ _ _ ne, msA _ _ _ _ ne] at e3
  subst e3
  rw [msA _ _ _ _ ne, msA _ _ _ _ ne, msA _ _ _ _ ne] at e4
  subst e4
  rw [msA _ _ _ _ ne, msA _ _ _ _ ne, msA _ _ _ _ ne, msA _ _ _ _ ne] at e5
  subst e5
  have fq : ∀ (m : wf_Mem) (k : Nat) (v : Int32), Fr (fun a => a = q0) m (wf_ms m q0 k v) := fun m k v => Fr.ms rfl
  refine h _ ((((fq _ _ _).tr (fq _ _ _)).tr (fq _ _ _)).tr ((fq _ _ _).tr (fq _ _ _))) (fun j hj => ?_)
  have : j = 0 ∨ j = 1 ∨ j = 2 ∨ j = 3 ∨ j = 4 := by omega
  rcases this with rfl | rfl | rfl | rfl | rfl <;> simp [wf_ms]
theorem take_loop {c0 c1 : Nat} (h0 : wf_sh c0 = (0, 0)) (h1 : wf_sh c1 = (0, 0)) (hne : c0 ≠ c1) (hI : okR r) : ∀ (j w : Nat) (mem : wf_Mem), Rel c1 mem r → w + j = rW r → mem (c0 + 1) 0 = r 0 → mem c0 2 = r 1 →
    (∀ k, k < rN r → mem (c0 + 1 + 1) k = r (12 + 3 * k) ∧ mem (c0 + 1 + 2) k = r (12 + 3 * k + 1) ∧ mem (c0 + 1 + 3) k = r (12 + 3 * k + 2)) → (∀ i, i < w → ∀ j, j < 5 → mem (c0 + 5 + 4 + i) j = r (48 + 5 * i + j)) →
    (∀ mem', Fr (SD c0) mem mem' → Rel c0 mem' r → Q mem') → Vw (Nv (d + 1) Q) mX0_takeFrom 21 [(0, .ref c0), (1, .ref c1), (2, .int (nI w))] [] mem := by
  obtain ⟨hw, hw2⟩ := hI.w
  have hap := camp_apart h0 h1 hne
  have ge0 := camp_ge h0
  have ge1 := camp_ge h1
  have ht := hI.t.2
  intro j
  induction j with
  | zero =>
    intro w mem hR hj e0 e2 hg hwt h
    have hk : w = rW r := by omega
    subst hk
    refine b_X0_takeFrom_21 _ _ h0 _ h1 _ (br_t (by rw [e2, hw]; exact nI_le (Nat.le_refl _) (by omega)) ?_)
    intro m2 f2 m3 f3 m4 f4 m5 f5 m6 f6 m7 f7 m8 f8 m9 f9 m10 f10
    refine ⟨by decide, fun m11 f11 => ?_⟩
    have ne : c1 ≠ c0 := Ne.symm hne
    subst f2
    rw [msA _ _ _ _ ne] at f3; subst f3
    rw [msA _ _ _ _ ne, msA _ _ _ _ ne] at f4; subst f4
    rw [msA _ _ _ _ ne, msA _ _ _ _ ne, msA _ _ _ _ ne] at f5; subst f5
    rw [msA _ _ _ _ ne, msA _ _ _ _ ne, msA _ _ _ _ ne, msA _ _ _ _ ne] at f6; subst f6
    rw [msA _ _ _ _ ne, msA _ _ _ _ ne, msA _ _ _ _ ne, msA _ _ _ _ ne, msA _ _ _ _ ne] at f7; subst f7
    rw [msA _ _ _ _ ne, msA _ _ _ _ ne, msA _ _ _ _ ne, msA _ _ _ _ ne, msA _ _ _ _ ne, msA _ _ _ _ ne] at f8; subst f8
    rw [msA _ _ _ _ ne, msA _ _ _ _ ne, msA _ _ _ _ ne, msA _ _ _ _ ne, msA _ _ _ _ ne, msA _ _ _ _ ne, msA _ _ _ _ ne] at f9; subst f9
    rw [msA _ _ _ _ ne, msA _ _ _ _ ne, msA _ _ _ _ ne, msA _ _ _ _ ne, msA _ _ _ _ ne, msA _ _ _ _ ne, msA _ _ _ _ ne, msA _ _ _ _ ne] at f10; subst f10
    have f11 : m11 = wf_mc _ (c1 + 6) 0 (c0 + 6) 0 3 := f11
    have hoth : ∀ a, a ≠ c0 → a ≠ c0 + 6 → m11 a = mem a := fun a g1 g2 => by
      rw [f11, wf_mc_other _ _ _ _ _ _ g2]
      rw [wf_ms_other _ _ _ _ g1, wf_ms_other _ _ _ _ g1, wf_ms_other _ _ _ _ g1, wf_ms_other _ _ _ _ g1, wf_ms_other _ _ _ _ g1, wf_ms_other _ _ _ _ g1, wf_ms_other _ _ _ _ g1, wf_ms_other _ _ _ _ g1, wf_ms_other _ _ _ _ g1]
    have h66 : ∀ k, k < 3 → m11 (c0 + 6) k = mem (c1 + 6) k := fun k hk => by
      have g : c1 + 6 ≠ c0 := by omega
      rw [f11, mcS _ _ _ _ hk]
      rw [wf_ms_other _ _ _ _ g, wf_ms_other _ _ _ _ g, wf_ms_other _ _ _ _ g, wf_ms_other _ _ _ _ g, wf_ms_other _ _ _ _ g, wf_ms_other _ _ _ _ g, wf_ms_other _ _ _ _ g, wf_ms_other _ _ _ _ g, wf_ms_other _ _ _ _ g]
    have hc0 : ∀ j, m11 c0 j = (wf_ms (wf_ms (wf_ms (wf_ms (wf_ms (wf_ms (wf_ms (wf_ms (wf_ms mem c0 3 (mem c1 3)) c0 4 (mem c1 4)) c0 5 (mem c1 5)) c0 6 (mem c1 6)) c0 7 (mem c1 7)) c0 8 (mem c1 8)) c0 9 (mem c1 9)) c0 10 (mem c1 10)) c0 12 (mem c1 12)) c0 j := fun j => by
      rw [f11, wf_mc_other _ _ _ _ _ _ (by omega)]
    have hF : Fr (SD c0) mem m11 := fun a g => hoth a (fun e => g (by unfold SD; omega)) (fun e => g (by unfold SD; omega))
    refine h m11 hF ⟨⟨?_, ?_, ?_, ?_, ?_, ?_, ?_, ?_, ?_, ?_⟩, fun k hk => ?_, fun i hi j hj => ?_, ?_, fun k hk => ?_, fun t ht2 => ?_⟩
    · rw [hoth _ (by omega) (by omega)]; exact e0
    · rw [hc0]; simp only [wf_ms]; simpa using e2
    · rw [hc0, ← hR.at 3 (by decide) (by decide)]; simp [wf_ms]
    · rw [hc0, ← hR.at 4 (by decide) (by decide)]; simp [wf_ms]
    · rw [hc0, ← hR.at 5 (by decide) (by decide)]; simp [wf_ms]
    · rw [hc0, ← hR.at 6 (by decide) (by decide)]; simp [wf_ms]
    · rw [hc0, ← hR.at 7 (by decide) (by decide)]; simp [wf_ms]
    · rw [hc0, ← hR.at 8 (by decide) (by decide)]; simp [wf_ms]
    · rw [hc0, ← hR.at 9 (by decide) (by decide)]; simp [wf_ms]
    · rw [hc0, ← hR.at 10 (by decide) (by decide)]; simp [wf_ms]
    · rw [hoth _ (by omega) (by omega), hoth _ (by omega) (by omega), hoth _ (by omega) (by omega)]; exact hg k hk
    · rw [hoth _ (by omega) (by omega)]; exact hwt i hi j hj
    · rw [hc0, ← hR.2.2.2.1]; simp [wf_ms]
    · rw [h66 k hk]; exact hR.2.2.2.2.1 k hk
    · have hl := hR.2.2.2.2.2 t ht2
      unfold lwT at hl ⊢
      rw [hoth (10 + 1 + 2 * t) (by omega) (by omega), hoth (10 + 1 + 2 * t + 1) (by omega) (by omega)]
      exact hl
  | succ j ih =>
    intro w mem hR hj e0 e2 hg hwt h
    refine b_X0_takeFrom_21 _ _ h0 _ h1 _ (br_f (by rw [e2, hw]; exact nI_ge (by omega) (by omega)) ⟨vin (by omega), vin (by omega), ?_⟩)
    rw [nI_clamp (by omega), nI_1]
    refine k_watTake (sh_r22 (sh_0_1 h0) (by omega)) (sh_r22 (sh_0_1 h1) (by omega)) (by omega) (fun m f g => ?_)
    have fo : ∀ a, a ≠ c0 + 5 + 4 + w → m a = mem a := fun a ha => f a ha
    refine ih (w + 1) m (hR.go hI (fun a ha => fo a (by unfold RdC at ha; omega))) (by omega) (by rw [fo _ (by omega)]; exact e0) (by rw [fo _ (by omega)]; exact e2) (fun k hk => ?_) (fun i hi j2 hj2 => ?_) (fun m' a b => h m' ((f.to (fun a ha => by unfold SD; omega)).tr a) b)
    · rw [fo _ (by omega), fo _ (by omega), fo _ (by omega)]; exact hg k hk
    · by_cases e : i = w
      · subst e; rw [g j2 hj2]; exact hR.2.2.1 i (by omega) j2 hj2
      · rw [fo _ (by omega)]; exact hwt i (by omega) j2 hj2
theorem k_takeFrom {c0 c1 : Nat} (h0 : wf_sh c0 = (0, 0)) (h1 : wf_sh c1 = (0, 0)) (hne : c0 ≠ c1) (hI : okR r) (hR : Rel c1 mem r) (h : ∀ mem', Fr (SD c0) mem mem' → Rel c0 mem' r → Q mem') : Cv mX0_takeFrom (d + 2) [.ref c0, .ref c1] mem Q := by
  obtain ⟨hn, hn2⟩ := hI.n
  have hap := camp_apart h0 h1 hne
  have ge0 := camp_ge h0
  have hwb := hI.w.2
  refine E_X0_takeFrom _ h0 _ h1 (k_ringTake (sh_0_0 h0) (sh_0_0 h1) (by omega) (hR.1.1.trans hn) hn2 (fun m1 f1 g1 k1 m2 e2 => ?_))
  have hF1 : Fr (SD c0) mem m1 := f1.to (fun a ha => by unfold SD; omega)
  have hR1 : Rel c1 m1 r := hR.go hI (fun a ha => hF1 a (by unfold RdC at ha; unfold SD; omega))
  rw [hR1.1.2.1] at e2
  subst e2
  have hF2 : Fr (SD c0) mem (wf_ms m1 c0 2 (r 1)) := hF1.tr (SD.ms (by omega))
  have hR2 : Rel c1 (wf_ms m1 c0 2 (r 1)) r := hR.go hI (fun a ha => hF2 a (by unfold RdC at ha; unfold SD; omega))
  refine take_loop h0 h1 hne hI (rW r) 0 _ hR2 (by omega) (by rw [msA _ _ _ _ (by omega), g1, hn]) (msS _ _ _ _) (fun k hk => ?_) (fun i hi => by omega) (fun m' a b => h m' (hF2.tr a) b)
  rw [msA _ _ _ _ (by omega), msA _ _ _ _ (by omega), msA _ _ _ _ (by omega), (k1 k hk).1, (k1 k hk).2.1, (k1 k hk).2.2]
  exact hR.2.1 k hk
end CLSD
