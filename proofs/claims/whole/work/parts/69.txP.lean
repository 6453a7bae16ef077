/-! the reference: its state as it reads -/
def LdS (A : Nat) (L : List (Int32 × Int32)) (m : wf_Mem) : Prop := m 120 24 = nI L.length ∧ m 120 26 = nI (lvs L) ∧ m 120 25 = nI A ∧ ∀ i, i < L.length → m 121 (A + 2 * i) = (L.getD i (0, 0)).1 ∧ m 121 (A + 2 * i + 1) = (L.getD i (0, 0)).2
def RSt (A : Nat) (t : Nat → Int32) (n B : Nat) (T : Bool) (deep turned : Nat) (L : List (Int32 × Int32)) (m : wf_Mem) : Prop := Tok t n B T m ∧ m 120 16 = nI n ∧ (∀ j, j < n → m 133 j = t j) ∧ m 120 22 = nI deep ∧ m 120 23 = nI turned ∧ LdS A L m
def Fx (A : Nat) (m m' : wf_Mem) : Prop := (∀ a, a ≠ 120 → a ≠ 121 → m' a = m a) ∧ (∀ j, (j < 17 ∨ 26 < j) → m' 120 j = m 120 j) ∧ ∀ j, j < A → m' 121 j = m 121 j
theorem Fx.rf {A : Nat} {m : wf_Mem} : Fx A m m := ⟨fun _ _ _ => rfl, fun _ _ => rfl, fun _ _ => rfl⟩
theorem Fx.tr {A : Nat} {a b c : wf_Mem} (h1 : Fx A a b) (h2 : Fx A b c) : Fx A a c := ⟨fun q g1 g2 => (h2.1 q g1 g2).trans (h1.1 q g1 g2), fun j g => (h2.2.1 j g).trans (h1.2.1 j g), fun j g => (h2.2.2 j g).trans (h1.2.2 j g)⟩
theorem Fx.ms {A : Nat} {m : wf_Mem} {k : Nat} {v : Int32} (hk : 17 ≤ k ∧ k ≤ 26) : Fx A m (wf_ms m 120 k v) := ⟨fun q g _ => wf_ms_other _ _ _ _ g, fun j g => msK _ _ _ _ (by omega), fun j g => msA _ _ _ _ (by decide)⟩
theorem Tok.go {t : Nat → Int32} {n B : Nat} {T : Bool} {m m' : wf_Mem} (h : Tok t n B T m) (e : ∀ j, 17 ≤ j → j ≤ 21 → m' 120 j = m 120 j) : Tok t n B T m' := by
  unfold Tok at h ⊢
  rw [e 17 (by decide) (by decide), e 18 (by decide) (by decide), e 19 (by decide) (by decide), e 20 (by decide) (by decide), e 21 (by decide) (by decide)]
  exact h
theorem LdS.go {A : Nat} {L : List (Int32 × Int32)} {m m' : wf_Mem} (h : LdS A L m) (e : ∀ j, 24 ≤ j → j ≤ 26 → m' 120 j = m 120 j) (e' : m' 121 = m 121) : LdS A L m' := by
  unfold LdS at h ⊢
  rw [e 24 (by decide) (by decide), e 25 (by decide) (by decide), e 26 (by decide) (by decide), e']
  exact h
section TXP
variable {d : Nat} {mem : wf_Mem} {P : Int32 → wf_Mem → Prop} {Q : wf_Mem → Prop} {r : Rw} {t : Nat → Int32} {A n B deep turned : Nat} {T : Bool} {L : List (Int32 × Int32)}
theorem c_next (hn : n ≤ 96) (hB : B ≤ n) (hS : RSt A t n B T deep turned L mem) (h : ∀ T' m', Fx A mem m' → RSt A t n (nxB t n B) T' deep turned L m' → (mem 120 19 = 3 → T' = false) → Q m') : Cv mX9_nextToken (d + 2) [.ref 120] mem Q := by
  obtain ⟨h1, h2, h3, h4, h5, h6⟩ := hS
  have bd := te_bd (t := t) (n := n) (b := B) hB
  refine c_nextToken (t := t) (n := n) (p := teB t n B) hn bd.2.1 h2 h1.2.1 h3 (fun m' tk tok => ?_)
  refine h _ m' ⟨fun a g _ => tk.1 a g, fun j g => tk.2 j (by omega), fun j g => by rw [tk.1 121 (by decide)]⟩ ⟨tok, ?_, fun j hj => ?_, ?_, ?_, h6.go (fun j g1 g2 => tk.2 j (by omega)) (tk.1 121 (by decide))⟩ (fun e => ?_)
  · rw [tk.2 16 (by decide)]; exact h2
  · rw [tk.1 133 (by decide)]; exact h3 j hj
  · rw [tk.2 22 (by decide)]; exact h4
  · rw [tk.2 23 (by decide)]; exact h5
  · rw [e]; unfold tgF; simp
theorem tk_3 (hT : Tok t n B T mem) (h : B < n) (hs : srt1 (t B) = 0) : mem 120 19 = 3 ∧ mem 120 21 = t B := by
  refine ⟨?_, hT.2.2.2.2.1 h hs⟩
  rw [hT.2.2.1]
  unfold tkV
  rw [if_pos h, hs, if_neg (by decide), if_neg (by decide)]
theorem tk_n3 (hT : Tok t n B T mem) (h : ¬ (B < n ∧ srt1 (t B) = 0)) : ¬ mem 120 19 = 3 := by
  rw [hT.2.2.1]
  unfold tkV
  by_cases c : B < n
  · rw [if_pos c]
    by_cases c1 : srt1 (t B) = 1
    · rw [if_pos c1]; split <;> decide
    · rw [if_neg c1]
      by_cases c2 : srt1 (t B) = 2
      · rw [if_pos c2]; split <;> decide
      · exfalso
        rcases srt_3 (t B) with q | q | q
        · exact h ⟨c, q⟩
        · exact c1 q
        · exact c2 q
  · rw [if_neg c]; decide
theorem c_isSign (hT : Tok t n B T mem) (c : Int32) (hc : srt1 c = 0) (h1 : B < n → t B = c → mem 120 19 = 3 → mem 120 21 = c → P 1 mem) (h0 : ¬ (B < n ∧ t B = c) → P 0 mem) : Ci mX9_isSign d [.ref 120, .int c] mem P := by
  refine E_X9_isSign _ ?_
  by_cases g : B < n ∧ srt1 (t B) = 0
  · obtain ⟨a, b⟩ := tk_3 hT g.1 g.2
    rw [a, b]
    exact ⟨fun q => absurd rfl q, fun _ => ⟨fun q => h0 (fun w => q w.2), fun q => h1 g.1 q a (b.trans q)⟩⟩
  · exact ⟨fun _ => h0 (fun w => g ⟨w.1, by rw [w.2]; exact hc⟩), fun q => absurd q (tk_n3 hT g)⟩
/-- a step is laid -/
theorem c_step (hA : A ≤ 2888) (hL : L.length < 96) (hR : LdS A L mem) (a b : Int32) (h : ∀ m', (∀ q, q ≠ 120 → q ≠ 121 → m' q = mem q) → (∀ j, j ≠ 24 → m' 120 j = mem 120 j) → m' 120 24 = nI (L.length + 1) → (∀ j, j < A + 2 * L.length → m' 121 j = mem 121 j) → m' 121 (A + 2 * L.length) = a → m' 121 (A + 2 * L.length + 1) = b → Q m') : Cv mX9_step d [.ref 120, .int a, .int b] mem Q := by
  obtain ⟨r1, r2, r3, r4⟩ := hR
  have e2 : (2 : Int32) * nI L.length = nI (2 * L.length) := by
    rw [show (2 : Int32) = nI 2 from rfl]
    unfold nI
    exact (Int32.ofNat_mul 2 _).symm
  have eV : mem 120 25 + (2 * mem 120 24) = nI (A + 2 * L.length) := by rw [r1, r3, e2, nI_add]
  refine E_X9_step _ _ ?_
  rw [eV]
  refine ⟨vin (by omega), fun m1 f1 => ?_⟩
  rw [nI_clamp (by omega)] at f1
  have eV1 : m1 120 25 + (2 * m1 120 24) + 1 = nI (A + 2 * L.length + 1) := by rw [f1, msA _ _ _ _ (by decide), msA _ _ _ _ (by decide), eV, nI_1]
  rw [eV1]
  refine ⟨vin (by omega), fun m2 f2 m3 f3 => ?_⟩
  rw [nI_clamp (by omega)] at f2
  have e24 : m2 120 24 = nI L.length := by rw [f2, msA _ _ _ _ (by decide), f1, msA _ _ _ _ (by decide)]; exact r1
  rw [e24, nI_1] at f3
  refine h m3 (fun q g1 g2 => ?_) (fun j hj => ?_) (by rw [f3, msS]) (fun j hj => ?_) ?_ ?_
  · rw [f3, wf_ms_other _ _ _ _ g1, f2, wf_ms_other _ _ _ _ g2, f1, wf_ms_other _ _ _ _ g2]
  · rw [f3, msK _ _ _ _ hj, f2, msA _ _ _ _ (by decide), f1, msA _ _ _ _ (by decide)]
  · rw [f3, msA _ _ _ _ (by decide), f2, msK _ _ _ _ (by omega), f1, msK _ _ _ _ (by omega)]
  · rw [f3, msA _ _ _ _ (by decide), f2, msK _ _ _ _ (by omega), f1, msS]
  · rw [f3, msA _ _ _ _ (by decide), f2, msS]
theorem LdS.add {m : wf_Mem} (hR : LdS A L mem) (q : Int32 × Int32) (e24 : m 120 24 = nI (L.length + 1)) (e26 : m 120 26 = nI (lvs (L ++ [q]))) (e25 : m 120 25 = mem 120 25) (el : ∀ j, j < A + 2 * L.length → m 121 j = mem 121 j) (ea : m 121 (A + 2 * L.length) = q.1) (eb : m 121 (A + 2 * L.length + 1) = q.2) : LdS A (L ++ [q]) m := by
  obtain ⟨r1, r2, r3, r4⟩ := hR
  refine ⟨by rw [e24]; simp, e26, e25.trans r3, fun i hi => ?_⟩
  have hi' : i < L.length + 1 := by simpa using hi
  rw [getD_app L q i hi']
  by_cases z : i = L.length
  · rw [if_pos z, z]; exact ⟨ea, eb⟩
  · rw [if_neg z, el _ (by omega), el _ (by omega)]; exact r4 i (by omega)
/-- a sign is laid -/
theorem c_stepS (hA : A ≤ 2888) (hL : L.length < 96) (hS : RSt A t n B T deep turned L mem) (c : Int32) (h : ∀ m', Fx A mem m' → RSt A t n B T deep turned (L ++ [(2, c)]) m' → Q m') : Cv mX9_step d [.ref 120, .int 2, .int c] mem Q := by
  obtain ⟨h1, h2, h3, h4, h5, h6⟩ := hS
  refine c_step hA hL h6 2 c (fun m' a1 a2 a3 a4 a5 a6 => h m' ⟨a1, fun j g => a2 j (by omega), fun j g => a4 j (by omega)⟩ ⟨h1.go (fun j g1 g2 => a2 j (by omega)), ?_, fun j hj => ?_, ?_, ?_, ?_⟩)
  · rw [a2 16 (by decide)]; exact h2
  · rw [a1 133 (by decide) (by decide)]; exact h3 j hj
  · rw [a2 22 (by decide)]; exact h4
  · rw [a2 23 (by decide)]; exact h5
  · refine h6.add (2, c) a3 ?_ (a2 25 (by decide)) a4 a5 a6
    rw [a2 26 (by decide), lvs_app, h6.2.1]; rfl
/-- a name or a number is laid, the next piece is looked at -/
theorem c_stepL (hn : n ≤ 96) (hB : B ≤ n) (hA : A ≤ 2888) (hL : L.length < 96) (hS : RSt A t n B T deep turned L mem) (q : Int32 × Int32) (hq : ¬ q.1 = 2) (h : ∀ T' m', Fx A mem m' → RSt A t n (nxB t n B) T' deep turned (L ++ [q]) m' → Q m') : Cv mX9_step (d + 2) [.ref 120, .int q.1, .int q.2] mem (fun m1 => ∀ m2 : wf_Mem, m2 = wf_ms m1 120 26 (m1 120 26 + 1) → Cv mX9_nextToken (d + 2) [.ref 120] m2 Q) := by
  obtain ⟨h1, h2, h3, h4, h5, h6⟩ := hS
  refine c_step hA hL h6 q.1 q.2 (fun m1 a1 a2 a3 a4 a5 a6 m2 f2 => ?_)
  have e26 : m1 120 26 = nI (lvs L) := by rw [a2 26 (by decide)]; exact h6.2.1
  rw [e26, nI_1] at f2
  have u : ∀ j, j ≠ 24 → j ≠ 26 → m2 120 j = mem 120 j := fun j g1 g2 => by rw [f2, msK _ _ _ _ g2, a2 j g1]
  have fx : Fx A mem m2 := ⟨fun a g1 g2 => by rw [f2, wf_ms_other _ _ _ _ g1, a1 a g1 g2], fun j g => u j (by omega) (by omega), fun j g => by rw [f2, msA _ _ _ _ (by decide), a4 j (by omega)]⟩
  have S2 : RSt A t n B T deep turned (L ++ [q]) m2 := by
    refine ⟨h1.go (fun j g1 g2 => u j (by omega) (by omega)), ?_, fun j hj => ?_, ?_, ?_, ?_⟩
    · rw [u 16 (by decide) (by decide)]; exact h2
    · rw [fx.1 133 (by decide) (by decide)]; exact h3 j hj
    · rw [u 22 (by decide) (by decide)]; exact h4
    · rw [u 23 (by decide) (by decide)]; exact h5
    · refine h6.add q (by rw [f2, msK _ _ _ _ (by decide)]; exact a3) ?_ (u 25 (by decide) (by decide)) (fun j g => by rw [f2, msA _ _ _ _ (by decide)]; exact a4 j g) (by rw [f2, msA _ _ _ _ (by decide)]; exact a5) (by rw [f2, msA _ _ _ _ (by decide)]; exact a6)
      rw [f2, msS, lvs_app]
      have : lvs [q] = 1 := by show (if q.1 = 2 then 0 else 1) + 0 = 1; rw [if_neg hq]
      rw [this]
  exact c_next hn hB S2 (fun T' m' f S _ => h T' m' (fx.tr f) S)
theorem c_isName (key c : Int32) (hk : key = 0 ∨ key = 1 ∨ key = 2) (h1 : nmO key c → P 1 mem) (h0 : ¬ nmO key c → P 0 mem) : Ci mX9_isName d [.int key, .int c] mem P := by
  refine E_X9_isName _ _ ?_
  rcases hk with rfl | rfl | rfl
  · refine ⟨fun _ => ⟨fun a => h1 ?_, fun a => ⟨fun b => h1 ?_, fun b => ⟨fun e => h0 ?_, fun e => h1 ?_⟩⟩⟩, fun q => absurd rfl q⟩
    · exact Or.inl ⟨rfl, Or.inl a⟩
    · exact Or.inl ⟨rfl, Or.inr (Or.inl b)⟩
    · simp [nmO, a, b, e]
    · exact Or.inl ⟨rfl, Or.inr (Or.inr e)⟩
  · refine ⟨fun q => absurd q (by decide), fun _ => ⟨fun _ => ⟨fun a => h1 ?_, fun a => ⟨fun b => h1 ?_, fun b => ⟨fun e => h0 ?_, fun e => h1 ?_⟩⟩⟩, fun q => absurd rfl q⟩⟩
    · exact Or.inr (Or.inl ⟨rfl, Or.inl a⟩)
    · exact Or.inr (Or.inl ⟨rfl, Or.inr (Or.inl b)⟩)
    · simp [nmO, a, b, e]
    · exact Or.inr (Or.inl ⟨rfl, Or.inr (Or.inr e)⟩)
  · refine ⟨fun q => absurd q (by decide), fun _ => ⟨fun q => absurd q (by decide), fun _ => ⟨fun a => h1 ?_, fun a => ⟨fun e => h0 ?_, fun e => h1 ?_⟩⟩⟩⟩
    · exact Or.inr (Or.inr ⟨rfl, Or.inl a⟩)
    · simp [nmO, a, e]
    · exact Or.inr (Or.inr ⟨rfl, Or.inr e⟩)
end TXP
