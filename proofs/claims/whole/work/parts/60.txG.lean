/-! the class's machine: takesClose, takesSign -/
def tlS : List Int32 → List Int32
  | [] => []
  | _ :: s => s
def is3 : List Int32 → Prop
  | [] => False
  | c :: _ => lvl c = 3
section TXG
variable {d : Nat} {mem : wf_Mem} {P : Int32 → wf_Mem → Prop} {Q : wf_Mem → Prop} {r : Rw} {t : Nat → Int32}
theorem k_closesC {x : Nat} (hx : wf_sh x = (2, 0)) (hx3 : 5 < x) {key : Int32} {st : List Int32} {o : List (Int32 × Int32)} {par nots : Nat} {want : Int32} (l : Int32) (hM : MR x key st o par nots want mem) (hl : o.length + st.length ≤ 96) (h : ∀ m', Mp x mem m' → MR x key (clS l st o).1 (clS l st o).2 par nots want m' → Q m') : Cv mX6_closesDownTo (d + 2) [.ref 3, .int l, .ref x] mem Q := by
  obtain ⟨h1, h2, h3, h4, h5⟩ := hM
  refine Cw_of rfl (Nat.le_of_ble_eq_true rfl) rfl (k_closes hx hx3 st o mem h1 h2 hl (fun m' c s o' => h m' (Mp.mc c (fun j hj => by omega)) ⟨s, o', ?_, ?_, ?_⟩))
  · rw [c.2 6 (by decide)]; exact h3
  · rw [c.2 7 (by decide)]; exact h4
  · rw [c.2 8 (by decide)]; exact h5
theorem k_takesClose {x : Nat} (hx : wf_sh x = (2, 0)) (hx3 : 5 < x) {key : Int32} {st : List Int32} {o : List (Int32 × Int32)} {par nots : Nat} {want : Int32} (hM : MR x key st o par nots want mem) (hl : o.length + st.length ≤ 96) (hp : par ≤ 8) (hn : ntS (tlS (clS 1 st o).1) ≤ nots) (h1 : 0 < par → ∀ m', Mp x mem m' → MR x key (edS (tlS (clS 1 st o).1) (clS 1 st o).2).1 (edS (tlS (clS 1 st o).1) (clS 1 st o).2).2 (par - 1) (nots - ntS (tlS (clS 1 st o).1)) 0 m' → P 1 m') (h0 : par = 0 → P 0 mem) : Ci mX6_takesClose (d + 3) [.ref 3, .ref x] mem P := by
  have e6 : mem 3 6 = nI par := hM.2.2.1
  have ec : (nI par = 0) ↔ par = 0 := nI_eq (b := 0) (by omega) (by decide)
  refine E_X6_takesClose _ hx ?_
  rw [e6, ec]
  refine ⟨fun g => k_closesC hx hx3 1 hM hl (fun m1 p1 M1 => ?_), h0⟩
  have len := clS_len 1 st o
  have ep : nI par - 1 = nI (par - 1) := by rw [show par = (par - 1) + 1 by omega, nI_pred]; rfl
  obtain ⟨s1, o1, a6, a7, a8⟩ := M1
  generalize hS : (clS 1 st o).1 = S1 at *
  generalize hO : (clS 1 st o).2 = O1 at *
  cases S1 with
  | nil =>
    rw [s1.1]
    refine ⟨fun _ m2 f2 => ?_, fun c => absurd (by decide) c⟩
    rw [a6, ep] at f2
    refine k_endsP hx hx3 (st := []) (o := O1) (par := par - 1) (nots := nots) (want := want) ⟨s1.go (by rw [f2, msK _ _ _ _ (by decide)]) (by rw [f2, wf_ms_other _ _ _ _ (by decide)]), o1.go (by rw [f2, wf_ms_other _ _ _ _ (by omega)]) (by rw [f2, wf_ms_other _ _ _ _ (by omega)]), by rw [f2, msS], by rw [f2, msK _ _ _ _ (by decide)]; exact a7, by rw [f2, msK _ _ _ _ (by decide)]; exact a8⟩ (by simp at len ⊢; omega) hn (fun m3 p3 M3 => h1 (by omega) m3 (p1.tr (Mp.tr (by rw [f2]; exact Mp.ms (by decide)) p3)) M3)
  | cons c s =>
    have b1 : m1 3 5 = nI (s.length + 1) := s1.1
    have len' : O1.length + (s.length + 1) = o.length + st.length := len
    have ec2 : (nI (s.length + 1) ≤ 0) ↔ s.length + 1 ≤ 0 := nI_leI (b := 0) (by omega) (by decide)
    rw [b1, ec2, nI_pred]
    refine ⟨fun g2 => by omega, fun _ m2 f2 m3 f3 => ?_⟩
    have b6 : m2 3 6 = nI par := by rw [f2, msK _ _ _ _ (by decide)]; exact a6
    rw [b6, ep] at f3
    have o3 : ∀ a, a ≠ 3 → m3 a = m1 a := fun a ha => by rw [f3, wf_ms_other _ _ _ _ ha, f2, wf_ms_other _ _ _ _ ha]
    refine k_endsP hx hx3 (st := s) (o := O1) (par := par - 1) (nots := nots) (want := want) ⟨s1.pop (by rw [f3, msK _ _ _ _ (by decide), f2, msS]) (fun i hi => by rw [o3 5 (by decide)]), o1.go (o3 x (by omega)) (o3 (x + 1) (by omega)), by rw [f3, msS], by rw [f3, msK _ _ _ _ (by decide), f2, msK _ _ _ _ (by decide)]; exact a7, by rw [f3, msK _ _ _ _ (by decide), f2, msK _ _ _ _ (by decide)]; exact a8⟩ (by omega) hn (fun m4 p4 M4 => h1 (by omega) m4 (p1.tr (Mp.tr (by rw [f3, f2]; exact (Mp.ms (by decide)).tr (Mp.ms (by decide))) p4)) M4)
/-- a sign between two sides is pushed -/
theorem k_pushW {x : Nat} (hx3 : 5 < x) {key : Int32} {st : List Int32} {o : List (Int32 × Int32)} {par nots : Nat} {want : Int32} (c : Int32) (hM : MR x key st o par nots want mem) (hl : st.length < 96) (h : ∀ m', Mp x mem m' → MR x key (c :: st) o par nots 1 m' → P 1 m') : Cv mX6_pushes d [.ref 3, .int c] mem (fun m1 => ∀ m2 : wf_Mem, m2 = wf_ms m1 3 8 1 → P 1 m2) := by
  obtain ⟨q1, q2, q3, q4, q5⟩ := hM
  refine k_pushes c q1 hl (fun m1 a1 b1 s1 m2 f2 => h m2 ⟨fun a z1 z2 z3 z4 => by rw [f2, wf_ms_other _ _ _ _ z3, a1 a z3 z4], fun j hj => by rw [f2, msK _ _ _ _ (by omega), b1 j (by omega)]⟩ ⟨s1.go (by rw [f2, msK _ _ _ _ (by decide)]) (by rw [f2, wf_ms_other _ _ _ _ (by decide)]), q2.go (by rw [f2, wf_ms_other _ _ _ _ (by omega), a1 x (by omega) (by omega)]) (by rw [f2, wf_ms_other _ _ _ _ (by omega), a1 (x + 1) (by omega) (by omega)]), ?_, ?_, by rw [f2, msS]⟩)
  · rw [f2, msK _ _ _ _ (by decide), b1 6 (by decide)]; exact q3
  · rw [f2, msK _ _ _ _ (by decide), b1 7 (by decide)]; exact q4
end TXG
