/-! the class's machine: the signs that wait (the last first), the steps so far -/
def lvl (c : Int32) : Int32 := if c = 38 then 2 else if c = 42 then 5 else if c = 43 then 4 else if c = 45 then 4 else if c = 47 then 5 else if c = 60 then 3 else if c = 61 then 3 else if c = 62 then 3 else if c = 124 then 1 else 0
def clS (l : Int32) : List Int32 → List (Int32 × Int32) → List Int32 × List (Int32 × Int32)
  | [], o => ([], o)
  | c :: s, o => if lvl c < l then (c :: s, o) else clS l s (o ++ [(2, c)])
/-- how many nots lie on top -/
def ntS : List Int32 → Nat
  | [] => 0
  | c :: s => if c = 33 then ntS s + 1 else 0
def edS : List Int32 → List (Int32 × Int32) → List Int32 × List (Int32 × Int32)
  | [], o => ([], o)
  | c :: s, o => if c = 33 then edS s (o ++ [(2, 33)]) else (c :: s, o)
def SR (st : List Int32) (m : wf_Mem) : Prop := m 3 5 = nI st.length ∧ ∀ i, i < st.length → m 5 i = st.getD (st.length - 1 - i) 0
def lvs : List (Int32 × Int32) → Nat
  | [] => 0
  | q :: l => (if q.1 = 2 then 0 else 1) + lvs l
theorem lvs_app (a b : List (Int32 × Int32)) : lvs (a ++ b) = lvs a + lvs b := by
  induction a with
  | nil => simp [lvs]
  | cons q l ih => simp [lvs, ih]; omega
def OU (x : Nat) (key : Int32) (o : List (Int32 × Int32)) (m : wf_Mem) : Prop := m x 0 = key ∧ m x 1 = nI (lvs o) ∧ m x 3 = nI o.length ∧ ∀ i, i < o.length → m (x + 1) i = encS key (o.getD i (0, 0))
section TXD
variable {d : Nat} {mem : wf_Mem} {P : Int32 → wf_Mem → Prop} {Q : wf_Mem → Prop} {r : Rw} {t : Nat → Int32}
theorem k_levelOf (c : Int32) (h : P (lvl c) mem) : Ci mX6_levelOf d [.int c] mem P := by
  unfold lvl at h
  refine E_X6_levelOf _ ⟨fun a => ?_, fun a => ⟨fun b => ?_, fun b => ⟨fun c => ?_, fun c => ⟨fun e => ?_, fun e => ⟨fun f => ?_, fun f => ⟨fun g => ?_, fun g => ⟨fun i => ?_, fun i => ⟨fun j => ?_, fun j => ⟨fun k => ?_, fun k => ?_⟩⟩⟩⟩⟩⟩⟩⟩⟩
  · rw [if_pos a] at h; exact h
  · rw [if_neg a, if_pos b] at h; exact h
  · rw [if_neg a, if_neg b, if_pos c] at h; exact h
  · rw [if_neg a, if_neg b, if_neg c, if_pos e] at h; exact h
  · rw [if_neg a, if_neg b, if_neg c, if_neg e, if_pos f] at h; exact h
  · rw [if_neg a, if_neg b, if_neg c, if_neg e, if_neg f, if_pos g] at h; exact h
  · rw [if_neg a, if_neg b, if_neg c, if_neg e, if_neg f, if_neg g, if_pos i] at h; exact h
  · rw [if_neg a, if_neg b, if_neg c, if_neg e, if_neg f, if_neg g, if_neg i, if_pos j] at h; exact h
  · rw [if_neg a, if_neg b, if_neg c, if_neg e, if_neg f, if_neg g, if_neg i, if_neg j, if_pos k] at h; exact h
  · rw [if_neg a, if_neg b, if_neg c, if_neg e, if_neg f, if_neg g, if_neg i, if_neg j, if_neg k] at h; exact h
theorem k_pushes {st : List Int32} (c : Int32) (hs : SR st mem) (hl : st.length < 96) (h : ∀ m', (∀ a, a ≠ 3 → a ≠ 5 → m' a = mem a) → (∀ j, j ≠ 5 → m' 3 j = mem 3 j) → SR (c :: st) m' → Q m') : Cv mX6_pushes d [.ref 3, .int c] mem Q := by
  obtain ⟨s1, s2⟩ := hs
  have ec : (96 ≤ nI st.length) ↔ 96 ≤ st.length := nI_leI (a := 96) (by decide) (by omega)
  refine E_X6_pushes _ ?_
  rw [s1, ec]
  refine ⟨fun g => by omega, fun g => ⟨vin (by omega), fun m1 f1 m2 f2 => ?_⟩⟩
  rw [nI_clamp (by omega)] at f1
  have a1 : m1 3 5 = nI st.length := by rw [f1, msA _ _ _ _ (by decide)]; exact s1
  rw [a1, nI_1] at f2
  refine h m2 (fun a h1 h2 => ?_) (fun j hj => ?_) ⟨?_, fun i hi => ?_⟩
  · rw [f2, wf_ms_other _ _ _ _ h1, f1, wf_ms_other _ _ _ _ h2]
  · rw [f2, msK _ _ _ _ hj, f1, msA _ _ _ _ (by decide)]
  · rw [f2, msS]; rfl
  · rw [f2, msA _ _ _ _ (by decide), f1]
    have hi' : i < st.length + 1 := hi
    show _ = (c :: st).getD (st.length + 1 - 1 - i) 0
    by_cases e : i = st.length
    · have : st.length + 1 - 1 - i = 0 := by omega
      rw [e, msS, show st.length + 1 - 1 - st.length = 0 by omega]; rfl
    · rw [msK _ _ _ _ e, s2 i (by omega)]
      have : st.length + 1 - 1 - i = (st.length - 1 - i) + 1 := by omega
      rw [this]; rfl
/-- the top of what waits is taken off -/
theorem SR.pop {c : Int32} {st : List Int32} {m m' : wf_Mem} (h : SR (c :: st) m) (e1 : m' 3 5 = nI st.length) (e2 : ∀ i, i < st.length → m' 5 i = m 5 i) : SR st m' := by
  refine ⟨e1, fun i hi => ?_⟩
  rw [e2 i hi, h.2 i (by show i < st.length + 1; omega)]
  show (c :: st).getD (st.length + 1 - 1 - i) 0 = _
  have : st.length + 1 - 1 - i = (st.length - 1 - i) + 1 := by omega
  rw [this]; rfl
theorem SR.top {c : Int32} {st : List Int32} {m : wf_Mem} (h : SR (c :: st) m) : m 5 st.length = c := by
  rw [h.2 st.length (by show st.length < st.length + 1; omega)]
  show (c :: st).getD (st.length + 1 - 1 - st.length) 0 = c
  rw [show st.length + 1 - 1 - st.length = 0 by omega]; rfl
end TXD
