/-! what a tape says: the key and the run, or the place of the fault -/
def kyP (t : Nat → Int32) (b e : Nat) (κ : Int32) : Prop := (κ = 0 ∧ wdP t b e 0) ∨ (κ = 1 ∧ ¬ wdP t b e 0 ∧ wdP t b e 1) ∨ (κ = 2 ∧ ¬ wdP t b e 0 ∧ ¬ wdP t b e 1 ∧ wdP t b e 2)
def tx0 (t : Nat → Int32) (n : Nat) : Nat := tb t n 0
def tx1 (t : Nat → Int32) (n : Nat) : Nat := teB t n (tx0 t n)
def tx2 (t : Nat → Int32) (n : Nat) : Nat := tb t n (tx1 t n)
def TXr (t : Nat → Int32) (n : Nat) (κ : Int32) (R : Nat ⊕ List (Int32 × Int32)) : Prop :=
  (κ = -1 ∧ (¬ wdP t (tx0 t n) (tx1 t n) 0 ∧ ¬ wdP t (tx0 t n) (tx1 t n) 1 ∧ ¬ wdP t (tx0 t n) (tx1 t n) 2) ∧ R = .inl (tx0 t n)) ∨
  (kyP t (tx0 t n) (tx1 t n) κ ∧ R = if tx2 t n = tx1 t n ∧ ¬ tso t n (tx2 t n) = 0 then .inl (tx2 t n) else run t n κ [] [] 0 0 true (tx2 t n))
theorem TXr.ex (t : Nat → Int32) (n : Nat) : ∃ κ R, TXr t n κ R := by
  by_cases a : wdP t (tx0 t n) (tx1 t n) 0
  · exact ⟨0, _, Or.inr ⟨Or.inl ⟨rfl, a⟩, rfl⟩⟩
  · by_cases b : wdP t (tx0 t n) (tx1 t n) 1
    · exact ⟨1, _, Or.inr ⟨Or.inr (Or.inl ⟨rfl, a, b⟩), rfl⟩⟩
    · by_cases c : wdP t (tx0 t n) (tx1 t n) 2
      · exact ⟨2, _, Or.inr ⟨Or.inr (Or.inr ⟨rfl, a, b, c⟩), rfl⟩⟩
      · exact ⟨-1, _, Or.inl ⟨rfl, ⟨a, b, c⟩, rfl⟩⟩
theorem kyP.k {t : Nat → Int32} {b e : Nat} {κ : Int32} (h : kyP t b e κ) : κ = 0 ∨ κ = 1 ∨ κ = 2 := by
  rcases h with h | h | h
  · exact Or.inl h.1
  · exact Or.inr (Or.inl h.1)
  · exact Or.inr (Or.inr h.1)
theorem kyP.len {t : Nat → Int32} {b e : Nat} {κ : Int32} (h : kyP t b e κ) : b + 4 ≤ e := by
  have l0 : wf_sLen.getD 0 0 = 5 := rfl
  have l1 : wf_sLen.getD 1 0 = 4 := rfl
  have l2 : wf_sLen.getD 2 0 = 4 := rfl
  rcases h with h | h | h
  · have := h.2.1; omega
  · have := h.2.2.1; omega
  · have := h.2.2.2.1; omega
theorem tx_bd (t : Nat → Int32) (n : Nat) : tx0 t n ≤ n ∧ tx0 t n ≤ tx1 t n ∧ tx1 t n ≤ n ∧ tx1 t n ≤ tx2 t n ∧ tx2 t n ≤ n := by
  have a := tb_bd (t := t) (n := n) n 0 (by omega) (by omega)
  have b := te_bd (t := t) (n := n) (b := tb t n 0) a.2
  have c := tb_bd (t := t) (n := n) n (teB t n (tb t n 0)) (by omega) b.2.1
  unfold tx2 tx1 tx0
  omega
section TXN
variable {d : Nat} {mem : wf_Mem} {P : Int32 → wf_Mem → Prop} {Q : wf_Mem → Prop} {r : Rw} {t : Nat → Int32}
theorem k_keyR {b e : Nat} {κ : Int32} (he : e ≤ 96) (hbe : b ≤ e) (e2 : mem 3 2 = nI b) (e3 : mem 3 3 = nI e) (e4 : ∀ j, j < e → mem 4 j = t j) (hk : (κ = -1 ∧ ¬ wdP t b e 0 ∧ ¬ wdP t b e 1 ∧ ¬ wdP t b e 2) ∨ kyP t b e κ) (h : P κ mem) : Ci mX6_keyHere (d + 6) [.ref 3] mem P := by
  refine k_keyHere (t := t) he hbe e2 e3 e4 (fun a => ?_) (fun a b => ?_) (fun a b c => ?_) (fun a b c => ?_)
  · rcases hk with ⟨_, h1, _⟩ | ⟨rfl, _⟩ | ⟨_, h1, _⟩ | ⟨_, h1, _⟩
    · exact absurd a h1
    · exact h
    · exact absurd a h1
    · exact absurd a h1
  · rcases hk with ⟨_, _, h1, _⟩ | ⟨_, h1⟩ | ⟨rfl, _⟩ | ⟨_, _, h1, _⟩
    · exact absurd b h1
    · exact absurd h1 a
    · exact h
    · exact absurd b h1
  · rcases hk with ⟨_, _, _, h1⟩ | ⟨_, h1⟩ | ⟨_, _, h1⟩ | ⟨rfl, _⟩
    · exact absurd c h1
    · exact absurd h1 a
    · exact absurd h1 b
    · exact h
  · rcases hk with ⟨rfl, _⟩ | ⟨_, h1⟩ | ⟨_, _, h1⟩ | ⟨_, _, _, h1⟩
    · exact h
    · exact absurd h1 a
    · exact absurd h1 b
    · exact absurd h1 c
theorem k_readInto {x : Nat} (hx : wf_sh x = (2, 0)) (hx3 : 5 < x) {n : Nat} (hn : n ≤ 96) (e1 : mem 3 1 = nI n) (e4 : ∀ j, j < n → mem 4 j = t j) {κ : Int32} {R : Nat ⊕ List (Int32 × Int32)} (hT : TXr t n κ R) (hF : ∀ b m', R = .inl b → Mr x mem m' → P (nI b) m') (hS : ∀ o m', R = .inr o → Mr x mem m' → OU x κ o m' → P (-1) m') : Ci mX6_readInto (d + 7) [.ref 3, .ref x] mem P := by
  obtain ⟨b0, b01, b1, b12, b2⟩ := tx_bd t n
  refine E_X6_readInto _ hx (fun m1 f1 m2 f2 m3 f3 m4 f4 m5 f5 => ?_)
  have u3 : ∀ a, a ≠ 3 → m5 a = mem a := fun a ha => by rw [f5, wf_ms_other _ _ _ _ ha, f4, wf_ms_other _ _ _ _ ha, f3, wf_ms_other _ _ _ _ ha, f2, wf_ms_other _ _ _ _ ha, f1, wf_ms_other _ _ _ _ ha]
  have s1 : m5 3 1 = nI n := by rw [f5, msK _ _ _ _ (by decide), f4, msK _ _ _ _ (by decide), f3, msK _ _ _ _ (by decide), f2, msK _ _ _ _ (by decide), f1, msK _ _ _ _ (by decide)]; exact e1
  have s3 : m5 3 3 = nI 0 := by rw [f5, msK _ _ _ _ (by decide), f4, msK _ _ _ _ (by decide), f3, msK _ _ _ _ (by decide), f2, msK _ _ _ _ (by decide), f1, msS]; rfl
  have s5 : m5 3 5 = nI 0 := by rw [f5, msK _ _ _ _ (by decide), f4, msK _ _ _ _ (by decide), f3, msK _ _ _ _ (by decide), f2, msS]; rfl
  have s6 : m5 3 6 = nI 0 := by rw [f5, msK _ _ _ _ (by decide), f4, msK _ _ _ _ (by decide), f3, msS]; rfl
  have s7 : m5 3 7 = nI 0 := by rw [f5, msK _ _ _ _ (by decide), f4, msS]; rfl
  have s8 : m5 3 8 = 1 := by rw [f5, msS]
  have a4 : ∀ j, j < n → m5 4 j = t j := fun j hj => by rw [u3 4 (by decide)]; exact e4 j hj
  have r5 : Mr x mem m5 := ⟨fun a _ _ g _ => u3 a g, by rw [s1, e1]⟩
  refine k_steps (d := d + 4) (t := t) (n := n) (p := 0) hn (by omega) s1 s3 a4 (fun m6 t6 c2 c3 => ?_)
  have c2' : m6 3 2 = nI (tx0 t n) := c2
  have c3' : m6 3 3 = nI (tx1 t n) := c3
  have a6 : ∀ j, j < n → m6 4 j = t j := fun j hj => by rw [t6.1 4 (by decide)]; exact a4 j hj
  refine k_keyR (t := t) (κ := κ) (b := tx0 t n) (e := tx1 t n) (by omega) b01 c2' c3' (fun j hj => a6 j (by omega)) (hT.elim (fun z => Or.inl ⟨z.1, z.2.1⟩) (fun z => Or.inr z.1)) ?_
  rcases hT with ⟨z1, z2, z3⟩ | ⟨hk, z3⟩
  · rw [z1]
    refine ⟨fun c => absurd c (by decide), fun _ => ?_⟩
    rw [c2']
    exact hF _ _ z3 (r5.tr (Mr.st t6))
  · have hkk := hk.k
    refine ⟨fun _ => E_X2_begins _ hx _ (fun m7 f7 m8 f8 m9 f9 w ew => ?_), fun c => absurd (by rcases hkk with rfl | rfl | rfl <;> decide) c⟩
    have v3 : ∀ a, a ≠ x → m9 a = m6 a := fun a ha => by rw [f9, wf_ms_other _ _ _ _ ha, f8, wf_ms_other _ _ _ _ ha, f7, wf_ms_other _ _ _ _ ha]
    have q0 : m9 x 0 = κ := by rw [f9, msK _ _ _ _ (by decide), f8, msK _ _ _ _ (by decide), f7, msS]
    have q1 : m9 x 1 = nI 0 := by rw [f9, msK _ _ _ _ (by decide), f8, msS]; rfl
    have q3 : m9 x 3 = nI 0 := by rw [f9, msS]; rfl
    have r9 : Mr x mem m9 := (r5.tr (Mr.st t6)).tr ⟨fun a g _ _ _ => v3 a g, by rw [v3 3 (by omega)]⟩
    rw [v3 3 (by omega), c3'] at ew
    refine k_steps (d := d + 4) (t := t) (n := n) (p := tx1 t n) hn b1 (by rw [v3 3 (by omega), t6.2 1 (by decide) (by decide)]; exact s1) (by rw [v3 3 (by omega)]; exact c3') (fun j hj => by rw [v3 4 (by omega)]; exact a6 j hj) (fun m10 t10 g2 g3 => ?_)
    have g2' : m10 3 2 = nI (tx2 t n) := g2
    have g3' : m10 3 3 = nI (teB t n (tx2 t n)) := g3
    have a10 : ∀ j, j < n → m10 4 j = t j := fun j hj => by rw [t10.1 4 (by decide), v3 4 (by omega)]; exact a6 j hj
    have h1 : m10 3 1 = nI n := by rw [t10.2 1 (by decide) (by decide), v3 3 (by omega), t6.2 1 (by decide) (by decide)]; exact s1
    have r10 : Mr x mem m10 := r9.tr (Mr.st t10)
    have M10 : MR x κ [] [] 0 0 1 m10 := by
      refine ⟨⟨?_, fun i hi => absurd hi (by simp)⟩, ⟨?_, ?_, ?_, fun i hi => absurd hi (by simp)⟩, ?_, ?_, ?_⟩
      · rw [t10.2 5 (by decide) (by decide), v3 3 (by omega), t6.2 5 (by decide) (by decide)]; exact s5
      · rw [t10.1 x (by omega)]; exact q0
      · rw [t10.1 x (by omega)]; exact q1
      · rw [t10.1 x (by omega)]; exact q3
      · rw [t10.2 6 (by decide) (by decide), v3 3 (by omega), t6.2 6 (by decide) (by decide)]; exact s6
      · rw [t10.2 7 (by decide) (by decide), v3 3 (by omega), t6.2 7 (by decide) (by decide)]; exact s7
      · rw [t10.2 8 (by decide) (by decide), v3 3 (by omega), t6.2 8 (by decide) (by decide)]; exact s8
    have loop : ¬ (tx2 t n = tx1 t n ∧ ¬ tso t n (tx2 t n) = 0) → Vw (Ni (d + 7) P) mX6_readInto 80 [(0, .ref 3), (1, .ref x), (4, .int 0)] [] m10 := fun c => by
      rw [if_neg c] at z3
      exact k_read80 (mem := mem) (d := d + 1) (t := t) hx hx3 hkk hn hF hS n 0 (tx2 t n) [] [] 0 0 true m10 (by omega) b2 (by omega) r10 M10 h1 g2' g3' a10 ⟨by omega, by omega, Nat.le_refl _, Nat.zero_le _⟩ z3.symm
    have ee : (nI (tx2 t n) = nI (tx1 t n)) ↔ tx2 t n = tx1 t n := nI_eq (by omega) (by omega)
    rw [g2', ew, ee]
    refine ⟨fun c => loop (fun q => c q.1), fun c => k_sortHere (d := d + 5) (t := t) hn h1 g2' b2 a10 ⟨fun c2 => loop (fun q => q.2 c2), fun c2 => ?_⟩⟩
    rw [g2']
    refine hF _ _ ?_ r10
    rw [z3, if_pos ⟨c, c2⟩]
end TXN
