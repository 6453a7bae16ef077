/-! the class's machine: a sign is taken, a paren is closed, a piece begins -/
def MR (x : Nat) (key : Int32) (st : List Int32) (o : List (Int32 × Int32)) (par nots : Nat) (want : Int32) (m : wf_Mem) : Prop := SR st m ∧ OU x key o m ∧ m 3 6 = nI par ∧ m 3 7 = nI nots ∧ m 3 8 = want
/-- frame of a piece: the law x, what waits, the slots 5 to 8 of the tape -/
def Mp (x : Nat) (m m' : wf_Mem) : Prop := (∀ a, a ≠ x → a ≠ x + 1 → a ≠ 3 → a ≠ 5 → m' a = m a) ∧ ∀ j, j < 5 → m' 3 j = m 3 j
theorem Mp.rf {x : Nat} {m : wf_Mem} : Mp x m m := ⟨fun _ _ _ _ _ => rfl, fun _ _ => rfl⟩
theorem Mp.tr {x : Nat} {a b c : wf_Mem} (h1 : Mp x a b) (h2 : Mp x b c) : Mp x a c := ⟨fun q g1 g2 g3 g4 => (h2.1 q g1 g2 g3 g4).trans (h1.1 q g1 g2 g3 g4), fun j g => (h2.2 j g).trans (h1.2 j g)⟩
theorem Mp.mc {x : Nat} {S : Nat → Prop} {m m' : wf_Mem} (h : Mc x S m m') (hS : ∀ j, S j → 5 ≤ j) : Mp x m m' := ⟨fun a g1 g2 g3 _ => h.1 a g1 g2 g3, fun j g => h.2 j (fun s => by have := hS j s; omega)⟩
theorem Mp.ms {x : Nat} {m : wf_Mem} {k : Nat} {v : Int32} (hk : 5 ≤ k) : Mp x m (wf_ms m 3 k v) := ⟨fun a _ _ g _ => wf_ms_other _ _ _ _ g, fun j g => msK _ _ _ _ (by omega)⟩
theorem OU.go {x : Nat} {key : Int32} {o : List (Int32 × Int32)} {m m' : wf_Mem} (h : OU x key o m) (e : m' x = m x) (e' : m' (x + 1) = m (x + 1)) : OU x key o m' := by
  unfold OU at h ⊢; rw [e, e']; exact h
theorem SR.go {st : List Int32} {m m' : wf_Mem} (h : SR st m) (e : m' 3 5 = m 3 5) (e' : m' 5 = m 5) : SR st m' := by
  unfold SR at h ⊢; rw [e, e']; exact h
section TXF
variable {d : Nat} {mem : wf_Mem} {P : Int32 → wf_Mem → Prop} {Q : wf_Mem → Prop} {r : Rw} {t : Nat → Int32}
theorem k_endsP {x : Nat} (hx : wf_sh x = (2, 0)) (hx3 : 5 < x) {key : Int32} {st : List Int32} {o : List (Int32 × Int32)} {par nots : Nat} {want : Int32} (hM : MR x key st o par nots want mem) (hl : o.length + st.length ≤ 96) (hn : ntS st ≤ nots) (h : ∀ m', Mp x mem m' → MR x key (edS st o).1 (edS st o).2 par (nots - ntS st) 0 m' → Q m') : Cv mX6_endsPiece (d + 2) [.ref 3, .ref x] mem Q := by
  obtain ⟨h1, h2, h3, h4, h5⟩ := hM
  refine E_X6_endsPiece _ hx (fun m1 f1 => ?_)
  refine k_ends hx hx3 st o nots m1 (h1.go (by rw [f1, msK _ _ _ _ (by decide)]) (by rw [f1, wf_ms_other _ _ _ _ (by decide)])) (h2.go (by rw [f1, wf_ms_other _ _ _ _ (by omega)]) (by rw [f1, wf_ms_other _ _ _ _ (by omega)])) hl (by rw [f1, msK _ _ _ _ (by decide)]; exact h4) hn (fun m2 c2 s2 o2 e2 => h m2 ?_ ⟨s2, o2, ?_, e2, ?_⟩)
  · refine Mp.tr (by rw [f1]; exact Mp.ms (by decide)) (Mp.mc c2 (fun j hj => by omega))
  · rw [c2.2 6 (by omega), f1, msK _ _ _ _ (by decide)]; exact h3
  · rw [c2.2 8 (by omega), f1, msS]
theorem k_opens {x : Nat} (hx3 : 5 < x) {key : Int32} {st : List Int32} {o : List (Int32 × Int32)} {par nots : Nat} {want : Int32} (hM : MR x key st o par nots want mem) (hl : st.length < 96) (hp : par ≤ 8) (hn : nots ≤ 8) (c : Int32) (h1 : c = 40 → par < 8 → ∀ m', Mp x mem m' → MR x key (40 :: st) o (par + 1) nots want m' → P 1 m') (h2 : c = 33 → nots < 8 → ∀ m', Mp x mem m' → MR x key (33 :: st) o par (nots + 1) want m' → P 1 m') (h0 : ¬ (c = 40 ∧ par < 8) → ¬ (c = 33 ∧ nots < 8) → P 0 mem) : Ci mX6_opens (d + 1) [.ref 3, .int c] mem P := by
  obtain ⟨q1, q2, q3, q4, q5⟩ := hM
  have e6 : (8 ≤ nI par) ↔ 8 ≤ par := nI_leI (a := 8) (by decide) (by omega)
  have e7 : (8 ≤ nI nots) ↔ 8 ≤ nots := nI_leI (a := 8) (by decide) (by omega)
  have p28 : ¬ (c = 40 ∧ par < 8) → Vw (Ni (d + 1) P) mX6_opens 28 [(0, .ref 3), (1, .int c)] [] mem := fun n40 => by
    refine b_X6_opens_28 _ _ ?_
    rw [q4, e7]
    refine ⟨fun g => h0 n40 (fun o => g o.1), fun g => ⟨fun g2 => h0 n40 (fun o => by omega), fun g2 m1 f1 => ?_⟩⟩
    rw [nI_1] at f1
    refine k_pushes c (q1.go (by rw [f1, msK _ _ _ _ (by decide)]) (by rw [f1, wf_ms_other _ _ _ _ (by decide)])) hl (fun m2 a2 b2 s2 => ?_)
    rw [g] at s2
    refine h2 g (by omega) m2 ⟨fun a z1 z2 z3 z4 => by rw [a2 a z3 z4, f1, wf_ms_other _ _ _ _ z3], fun j hj => by rw [b2 j (by omega), f1, msK _ _ _ _ (by omega)]⟩ ⟨s2, q2.go (by rw [a2 x (by omega) (by omega), f1, wf_ms_other _ _ _ _ (by omega)]) (by rw [a2 (x + 1) (by omega) (by omega), f1, wf_ms_other _ _ _ _ (by omega)]), ?_, ?_, ?_⟩
    · rw [b2 6 (by decide), f1, msK _ _ _ _ (by decide)]; exact q3
    · rw [b2 7 (by decide), f1, msS]
    · rw [b2 8 (by decide), f1, msK _ _ _ _ (by decide)]; exact q5
  refine E_X6_opens _ ?_
  rw [q3, e6]
  refine ⟨fun g => p28 (fun o => g o.1), fun g => ⟨fun g2 => p28 (fun o => by omega), fun g2 m1 f1 => ?_⟩⟩
  rw [nI_1] at f1
  refine k_pushes c (q1.go (by rw [f1, msK _ _ _ _ (by decide)]) (by rw [f1, wf_ms_other _ _ _ _ (by decide)])) hl (fun m2 a2 b2 s2 => ?_)
  rw [g] at s2
  refine h1 g (by omega) m2 ⟨fun a z1 z2 z3 z4 => by rw [a2 a z3 z4, f1, wf_ms_other _ _ _ _ z3], fun j hj => by rw [b2 j (by omega), f1, msK _ _ _ _ (by omega)]⟩ ⟨s2, q2.go (by rw [a2 x (by omega) (by omega), f1, wf_ms_other _ _ _ _ (by omega)]) (by rw [a2 (x + 1) (by omega) (by omega), f1, wf_ms_other _ _ _ _ (by omega)]), ?_, ?_, ?_⟩
  · rw [b2 6 (by decide), f1, msS]
  · rw [b2 7 (by decide), f1, msK _ _ _ _ (by decide)]; exact q4
  · rw [b2 8 (by decide), f1, msK _ _ _ _ (by decide)]; exact q5
end TXF
