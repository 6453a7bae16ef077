/-! dark, loss, lasts -/
def dkA (r : Rw) (v : Int32) : Nat → Int32
  | 0 => 0
  | k + 1 => if v ≤ ltR r k then dkA r v k else dkA r v k ||| ((1 : Int32) <<< (nI k &&& 31))
/-- the first of the numbers from k on (f of them) -/
def fsA (p : Nat → Bool) : Nat → Nat → Int32
  | 0, _ => -1000000005
  | f + 1, k => if p k = true then nI k else fsA p f (k + 1)
section OPG
variable {d : Nat} {mem : wf_Mem} {P : Int32 → wf_Mem → Prop} {Q : wf_Mem → Prop} {r : Rw}
theorem dark_loop (hI : okR r) (v : Int32) (h : ∀ m', sc mem m' → P (dkA r v (rN r)) m') : ∀ (f k : Nat) (m : wf_Mem), rN r - k ≤ f → k ≤ rN r → m 121 = r → sc mem m → Vw (Ni (d + 3) P) mX9_dark 19 [(0, .ref 120), (1, .int v), (2, .int (dkA r v k)), (3, .int (nI k))] [] m
  | f, k, m, hf, hk, em, ho => by
    obtain ⟨hn, hn2⟩ := hI.n
    have ec : (nI (rN r) ≤ nI k) ↔ rN r ≤ k := nI_leI (by omega) (by omega)
    refine b_X9_dark_19 _ _ _ _ ?_
    rw [em, hn, ec]
    refine ⟨fun g => ?_, fun g => c_light em hI (by omega) (fun m1 s1 => ?_)⟩
    · have : k = rN r := by omega
      rw [this]; exact h m ho
    · have nx : ∀ y : Int32, y = dkA r v (k + 1) → Vw (Ni (d + 3) P) mX9_dark 19 [(0, .ref 120), (1, .int v), (2, .int y), (3, .int (nI k + 1))] [] m1 := fun y ey => by
        rw [ey, nI_1]
        cases f with
        | zero => omega
        | succ f => exact dark_loop hI v h f (k + 1) m1 (by omega) (by omega) (s1.s.trans em) (ho.tr s1)
      refine ⟨fun g2 y ey => nx y ?_, fun g2 y ey => nx y ?_⟩
      · rw [ey]; show _ = if _ then _ else _; rw [if_pos g2]; simp
      · rw [ey]; show _ = if _ then _ else _; rw [if_neg g2]
theorem R_dark (hr : mem 121 = r) (hI : okR r) (x : Int32) (h1 : 0 ≤ x → x ≤ 100 → ∀ m', sc mem m' → P (dkA r x (rN r)) m') (h0 : ¬ (0 ≤ x ∧ x ≤ 100) → P (-1000000001) mem) : Ci mX9_dark (d + 4) [.ref 120, .int x] mem P :=
  E_X9_dark _ (c_isIn x 0 100 rfl rfl (fun a b => n1 (dark_loop hI x (h1 a b) 20 0 mem (by have := hI.n.2; omega) (by omega) hr sc.rf)) (fun bad => n0 (h0 bad)))
theorem kdark_loop (hI : okR r) (hR : Rel 41 mem r) (hG : ∀ i, i < rN r → mem 48 i = ltR r i) (v : Int32) (h : P (dkA r v (rN r)) mem) : ∀ (f k : Nat), rN r - k ≤ f → k ≤ rN r → Vw (Ni (d + 1) P) mX8_dark 24 [(0, .ref 0), (1, .int v), (2, .int (dkA r v k)), (3, .int (nI k))] [] mem
  | f, k, hf, hk => by
    obtain ⟨hn, hn2⟩ := hI.n
    have hm : mem 42 0 = nI (rN r) := hR.1.1.trans hn
    have ec : (nI (rN r) ≤ nI k) ↔ rN r ≤ k := nI_leI (by omega) (by omega)
    refine b_X8_dark_24 _ _ _ _ ?_
    rw [hm, ec]
    refine ⟨fun g => ?_, fun g => ?_⟩
    · have : k = rN r := by omega
      rw [this]; exact h
    · rw [nI_clamp (by omega), hG k (by omega)]
      have nx : ∀ y : Int32, y = dkA r v (k + 1) → Vw (Ni (d + 1) P) mX8_dark 24 [(0, .ref 0), (1, .int v), (2, .int y), (3, .int (nI k + 1))] [] mem := fun y ey => by
        rw [ey, nI_1]
        cases f with
        | zero => omega
        | succ f => exact kdark_loop hI hR hG v h f (k + 1) (by omega) (by omega)
      refine ⟨vin (by omega), fun g2 => nx _ ?_, fun g2 y ey => nx y ?_⟩
      · show _ = if _ then _ else _; rw [if_pos g2]
      · rw [ey]; show _ = if _ then _ else _; rw [if_neg g2]
theorem L_dark (hI : INV mem) (x : Int32) : Agr (d + 20) mX8_dark mX9_dark [.int x] mem := by
  obtain ⟨hO, hB, hR⟩ := hI.1
  refine E_X8_dark _ (k_within x 0 100 (fun a b => n1 (k_measure sh41 hO hR (fun m1 f1 G => ?_))) (fun bad => n0 (R_dark rfl hO x (fun a b => absurd ⟨a, b⟩ bad) (fun _ => ⟨rfl, hI⟩))))
  have hF := CO.m41 f1
  have R1 := hR.sm sh41 hO f1
  refine kdark_loop hO R1 (fun i hi => (G i hi).1) x ?_ 20 0 (by have := hO.n.2; omega) (by omega)
  exact R_dark (CO.ref hF (by decide)) hO x (fun _ _ m' s => ⟨rfl, hI.rd hF s.ro R1 (s.s.trans (CO.ref hF (by decide)))⟩) (fun b' => absurd ⟨a, b⟩ b')
/-- loss -/
def lsP (r : Rw) (n : Nat) : Bool := !decide (hrN r n 8 ≤ r 8)
theorem c_lossEnd (hI : okR r) {k : Nat} (v : Int32) {m : wf_Mem} (ho : RO mem m) (hb : ∀ j, j < 88 → m 132 j = r j) (em : m 121 = hrN r k) (h : ∀ m', RO mem m' → m' 121 = r → P (orN v) m') : Cv mX9_laysBack d [.ref 120] m (fun m' => Ci mX9_orNone d [.int v] m' P) :=
  c_laysBack (r := r) hb (fun j hj => by rw [em]; exact (hrN_ok hI k).2.2.2.2 j hj) (fun m' o e _ => c_orNone _ (h m' (ho.tr o) e))
theorem loss_loop (hI : okR r) : ∀ (f k : Nat) (m : wf_Mem), f + k = 300 → RO mem m → (∀ j, j < 88 → m 132 j = r j) → m 121 = hrN r k → (∀ m', RO mem m' → m' 121 = r → P (fsA (lsP r) f (k + 1)) m') → Vw (Ni (d + 9) P) mX9_loss 8 [(0, .ref 120), (1, .int (-1)), (2, .int (nI (k + 1)))] [] m
  | f, k, m, hf, ho, hb, em, h => by
    have ec : (300 < nI (k + 1)) ↔ 300 < k + 1 := nI_ltI (a := 300) (by decide) (by omega)
    refine b_X9_loss_8 _ _ _ ?_
    rw [ec]
    refine ⟨fun g => ?_, fun g => ⟨fun g2 => absurd g2 (by decide), fun _ => c_goesOn em (hrN_ok hI k).1 (fun m1 c1 r1 _ _ => ?_)⟩⟩
    · have : f = 0 := by omega
      subst this
      exact c_lossEnd hI (-1) ho hb em h
    · cases f with
      | zero => omega
      | succ f =>
        have b1 : ∀ j, j < 88 → m1 132 j = r j := fun j hj => by rw [c1.1 132 (by decide) (by decide) (by decide) (by decide)]; exact hb j hj
        have e8 : m1 121 8 = hrN r (k + 1) 8 := by rw [r1]; rfl
        rw [e8, b1 8 (by decide)]
        have hv : fsA (lsP r) (f + 1) (k + 1) = if lsP r (k + 1) = true then nI (k + 1) else fsA (lsP r) f (k + 1 + 1) := rfl
        refine ⟨fun g2 => ?_, fun g2 => ?_⟩
        · rw [hv, if_neg (by unfold lsP; simp [g2])] at h
          rw [nI_1]
          exact loss_loop hI f (k + 1) m1 (by omega) (ho.tr c1.ro) b1 r1 h
        · rw [hv, if_pos (by unfold lsP; simp [g2])] at h
          have pos : (0 : Int32) ≤ nI (k + 1) := nI_pos' (by omega)
          have fin := c_lossEnd (d := d + 8) (P := P) (k := k + 1) hI (nI (k + 1)) (ho.tr c1.ro) b1 r1 (by unfold orN; rw [if_pos pos]; exact h)
          exact b_X9_loss_8 _ _ _ ⟨fun _ => fin, fun _ => ⟨fun _ => fin, fun n => absurd pos n⟩⟩
theorem R_loss (hr : mem 121 = r) (hI : okR r) (h : ∀ m', RO mem m' → m' 121 = r → P (fsA (lsP r) 300 1) m') : Ci mX9_loss (d + 10) [.ref 120] mem P :=
  E_X9_loss (c_laysBy hr (fun m1 o1 e1 k1 => loss_loop (d := d + 1) hI 300 0 m1 rfl o1 k1 e1 h))
theorem kloss_loop (hI : okR r) (h : ∀ m', Fr CO mem m' → Rel 41 m' r → P (fsA (lsP r) 300 1) m') : ∀ (f k : Nat) (m : wf_Mem), f + k = 300 → Fr CO mem m → Rel 41 m r → Rel 75 m (hrN r k) → fsA (lsP r) 300 1 = fsA (lsP r) f (k + 1) → Vw (Ni (d + 6) P) mX8_loss 13 [(0, .ref 0), (1, .int (nI (k + 1)))] [] m
  | f, k, m, hf, ho, hR, hT, hv => by
    have ec : (300 < nI (k + 1)) ↔ 300 < k + 1 := nI_ltI (a := 300) (by decide) (by omega)
    refine b_X8_loss_13 _ _ ?_
    rw [ec]
    refine ⟨fun g => ?_, fun g => k_pass sh75 (hrN_ok hI k).1 hT 1 (by decide) (fun m1 f1 R1 _ => ?_)⟩
    · have : f = 0 := by omega
      subst this
      rw [hv] at h
      exact h m ho hR
    · cases f with
      | zero => omega
      | succ f =>
        have hR1 := keep_c hI hR f1
        have hT1 : Rel 75 m1 (hrN r (k + 1)) := R1
        rw [hT1.at 8 (by decide) (by decide), hR1.at 8 (by decide) (by decide)]
        have hv2 : fsA (lsP r) (f + 1) (k + 1) = if lsP r (k + 1) = true then nI (k + 1) else fsA (lsP r) f (k + 1 + 1) := rfl
        refine ⟨fun g2 => ?_, fun g2 => ?_⟩
        · rw [hv2, if_neg (by unfold lsP; simp [g2])] at hv
          rw [nI_1]
          exact kloss_loop hI h f (k + 1) m1 (by omega) (ho.tr (CO.c75 f1)) hR1 hT1 hv
        · rw [hv2, if_pos (by unfold lsP; simp [g2])] at hv
          rw [hv] at h
          exact h m1 (ho.tr (CO.c75 f1)) hR1
theorem L_loss (hI : INV mem) : Agr (d + 20) mX8_loss mX9_loss [] mem := by
  obtain ⟨hO, hB, hR⟩ := hI.1
  refine E_X8_loss (k_takeFrom sh75 sh41 (by decide) hO hR (fun m1 f1 R1 => ?_))
  refine kloss_loop (mem := mem) (d := d + 14) hO (fun m2 hF R2 => ?_) 300 0 m1 rfl (CO.d75 f1) (keep_d hO hR f1) R1 rfl
  exact R_loss (CO.ref hF (by decide)) hO (fun m' ro em => ⟨rfl, hI.rd hF ro R2 em⟩)
end OPG
