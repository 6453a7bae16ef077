/-! lasts, watch, place -/
def eqF (r r' : Rw) : Prop := r 0 = r' 0 ∧ r 3 = r' 3 ∧ ∀ k, k < 12 → r (12 + 3 * k + 1) = r' (12 + 3 * k + 1)
theorem eqF.tr {a b c : Rw} (h1 : eqF a b) (h2 : eqF b c) : eqF a c := ⟨h1.1.trans h2.1, h1.2.1.trans h2.2.1, fun k hk => (h1.2.2 k hk).trans (h2.2.2 k hk)⟩
theorem eqF.u {r : Rw} {i : Nat} {v : Int32} (h0 : i ≠ 0) (h3 : i ≠ 3) (h : ∀ k, k < 12 → i ≠ 12 + 3 * k + 1) : eqF r (upd r i v) :=
  ⟨(updN _ _ (Ne.symm h0)).symm, (updN _ _ (Ne.symm h3)).symm, fun k hk => (updN _ _ (Ne.symm (h k hk))).symm⟩
theorem eqF.N {r r' : Rw} (h : eqF r r') : rN r = rN r' := by unfold rN; rw [h.1]
theorem eqF_bnA {r r' : Rw} (h : eqF r r') : ∀ k, k ≤ 12 → eqF (bnA r k) (bnA r' k) ∧ woA r k = woA r' k
  | 0, _ => ⟨h, rfl⟩
  | k + 1, hk => by
    obtain ⟨⟨a, b, c⟩, w⟩ := eqF_bnA h k (by omega)
    have ck := c k (by omega)
    unfold bnA woA
    rw [← b, ← ck]
    by_cases g : bnA r k (12 + 3 * k + 1) ≤ bnA r k 3
    · rw [if_pos g, if_pos g, if_pos g, if_pos g]
      refine ⟨⟨?_, ?_, fun j hj => ?_⟩, w⟩
      · rw [updN _ _ (by decide), updN _ _ (by decide), updN _ _ (by decide), updN _ _ (by decide)]; exact a
      · rw [updN _ (k := 9) _ (by decide), updN _ (k := 9) _ (by decide), updS, updS]
      · rw [updN _ _ (by omega), updN _ _ (by omega), updN _ _ (by omega), updN _ _ (by omega)]; exact c j hj
    · rw [if_neg g, if_neg g, if_neg g, if_neg g]
      refine ⟨⟨?_, ?_, fun j hj => ?_⟩, rfl⟩
      · rw [updN _ _ (by omega), updN _ _ (by omega)]; exact a
      · rw [updN _ _ (by omega), updN _ _ (by omega)]; exact b
      · by_cases e : j = k
        · rw [e, updS, updS]
        · rw [updN _ _ (by omega), updN _ _ (by omega)]; exact c j hj
theorem eqF_tk (r : Rw) : eqF r (tkR r) := by
  unfold tkR tkAt
  split
  · split
    · exact (eqF.u (by omega) (by omega) (fun k _ => by omega)).tr (eqF.u (by omega) (by omega) (fun k _ => by omega))
    · exact ((eqF.u (by omega) (by omega) (fun k _ => by omega)).tr (eqF.u (by omega) (by omega) (fun k _ => by omega))).tr ((eqF.u (by omega) (by omega) (fun k _ => by omega)).tr (eqF.u (by omega) (by omega) (fun k _ => by omega)))
  · exact ⟨rfl, rfl, fun _ _ => rfl⟩
theorem eqF_tr (r : Rw) : ∀ w, eqF r (trA r w)
  | 0 => ⟨rfl, rfl, fun _ _ => rfl⟩
  | w + 1 => by
    refine (eqF_tr r w).tr ?_
    show eqF (trA r w) (if trA r w (48 + 5 * w + 4) = 1 then _ else _)
    split
    · exact eqF.u (by omega) (by omega) (fun k _ => by omega)
    · exact (eqF.u (by omega) (by omega) (fun k _ => by omega)).tr (eqF.u (by omega) (by omega) (fun k _ => by omega))
theorem eqF_hr (r : Rw) : eqF (bnR r) (hrR r) := by
  unfold hrR hrX
  exact ((eqF_tk _).tr (eqF_tr _ _)).tr (eqF.u (by omega) (by omega) (fun k _ => by omega))
def bnN (r : Rw) : Nat → Rw
  | 0 => r
  | n + 1 => bnR (bnN r n)
theorem bnN_ok {r : Rw} (hI : okR r) : ∀ n, okR (bnN r n)
  | 0 => hI
  | n + 1 => (bnA_ok (bnN_ok hI n) _ (Nat.le_refl _)).1
theorem eqF_n {r : Rw} (hI : okR r) : ∀ n, eqF (bnN r n) (hrN r n)
  | 0 => ⟨rfl, rfl, fun _ _ => rfl⟩
  | n + 1 => by
    have h := eqF_n hI n
    refine eqF.tr ?_ (eqF_hr (hrN r n))
    show eqF (bnA _ _) (bnA _ _)
    rw [h.N]
    exact (eqF_bnA h _ (hrN_ok hI n).1.n.2).1
theorem wo_n {r : Rw} (hI : okR r) (n : Nat) : woA (bnN r n) (rN (bnN r n)) = woA (hrN r n) (rN (hrN r n)) := by
  have h := eqF_n hI n
  rw [h.N]
  exact (eqF_bnA h _ (hrN_ok hI n).1.n.2).2
def laP (r : Rw) (n : Nat) : Bool := !decide (woA (hrN r (n - 1)) (rN (hrN r (n - 1))) = 0)
/-- the least of some, and which -/
def amA (g : Nat → Int32) : Nat → Int32 × Int32
  | 0 => (-1, 0)
  | k + 1 => if (amA g k).1 < 0 then (nI k, g k) else if (amA g k).2 ≤ g k then amA g k else (nI k, g k)
theorem amA_in (g : Nat → Int32) : ∀ k, k < 1000 → (k = 0 ∧ amA g k = (-1, 0)) ∨ (0 < k ∧ ∃ j, j < k ∧ (amA g k).1 = nI j)
  | 0, _ => Or.inl ⟨rfl, rfl⟩
  | k + 1, hk => by
    refine Or.inr ⟨by omega, ?_⟩
    unfold amA
    rcases amA_in g k (by omega) with ⟨a, b⟩ | ⟨a, j, hj, ej⟩
    · rw [b, if_pos (by decide)]
      exact ⟨k, by omega, rfl⟩
    · have : ¬ nI j < 0 := Int32.not_lt.mpr (nI_pos' (by omega))
      rw [ej, if_neg this]
      by_cases c : (amA g k).2 ≤ g k
      · rw [if_pos c]; exact ⟨j, by omega, ej⟩
      · rw [if_neg c]; exact ⟨k, by omega, rfl⟩
theorem am_st (g : Nat → Int32) {k : Nat} (hk : k < 900) {x3 x4 : Int32} (h3 : x3 = orN (amA g k).1) (h4 : 0 < k → x4 = (amA g k).2) : (x3 = -1000000005 → nI k = orN (amA g (k + 1)).1 ∧ g k = (amA g (k + 1)).2) ∧ (¬ x3 = -1000000005 → (x4 ≤ g k → x3 = orN (amA g (k + 1)).1 ∧ x4 = (amA g (k + 1)).2) ∧ (¬ x4 ≤ g k → nI k = orN (amA g (k + 1)).1 ∧ g k = (amA g (k + 1)).2)) := by
  have pk : orN (nI k) = nI k := by unfold orN; rw [if_pos (nI_pos' (by omega))]
  have un : amA g (k + 1) = if (amA g k).1 < 0 then (nI k, g k) else if (amA g k).2 ≤ g k then amA g k else (nI k, g k) := rfl
  rcases amA_in g k (by omega) with ⟨a, b⟩ | ⟨a, j, hj, ej⟩
  · have e3 : x3 = -1000000005 := by rw [h3, b]; decide
    refine ⟨fun _ => ?_, fun n => absurd e3 n⟩
    rw [un, b, if_pos (by decide), pk]
    exact ⟨rfl, rfl⟩
  · have e3 : x3 = nI j := by rw [h3, ej]; unfold orN; rw [if_pos (nI_pos' (by omega))]
    have ne : ¬ nI j = -1000000005 := fun c => by
      have h1 : (0 : Int32) ≤ nI j := nI_pos' (by omega)
      rw [c] at h1; exact absurd h1 (by decide)
    have : ¬ nI j < 0 := Int32.not_lt.mpr (nI_pos' (by omega))
    rw [un, ej, if_neg this, h4 a]
    refine ⟨fun c => absurd (e3.symm.trans c) ne, fun _ => ⟨fun c => ?_, fun c => ?_⟩⟩
    · rw [if_pos c, ← h3]; exact ⟨rfl, rfl⟩
    · rw [if_neg c, pk]; exact ⟨rfl, rfl⟩
def wkA (r : Rw) (w : Nat) : Nat → Rw
  | 0 => r
  | k + 1 => upd (wkA r w k) (48 + 5 * k + 4) (if k = w then 1 else 0)
def wkR (r : Rw) (w : Nat) : Rw := wkA r w (rW r)
theorem wkA_ok {r : Rw} (hI : okR r) (w : Nat) : ∀ k, k ≤ 8 → okR (wkA r w k) ∧ sm r (wkA r w k)
  | 0, _ => ⟨hI, sm.rf⟩
  | k + 1, hk => by
    obtain ⟨a, b⟩ := wkA_ok hI w k (by omega)
    refine ⟨okR_wt a (w := k) (j := 4) (by omega) (by decide) ⟨fun h => absurd h (by decide), fun h => absurd h (by decide), fun h => absurd h (by decide), fun h => absurd h (by decide), fun _ => ?_⟩, b.tr (sm.u (by omega) (by omega))⟩
    by_cases e : k = w
    · rw [if_pos e]; exact Or.inr rfl
    · rw [if_neg e]; exact Or.inl rfl
theorem wkR_ok {r : Rw} (hI : okR r) (w : Nat) : okR (wkR r w) ∧ sm r (wkR r w) := wkA_ok hI w _ hI.w.2
def wcG (r : Rw) (n : Nat) (w : Nat) : Int32 := hrN (wkR r w) n 8
def waV (r : Rw) (n j : Nat) : Int32 := if 0 ≤ (amA (wcG r n) (rW r)).1 then (if j = 0 then (amA (wcG r n) (rW r)).1 else (amA (wcG r n) (rW r)).2) else -1000000005
def plR2 (r : Rw) (w k : Nat) : Rw := upd (upd r (48 + 5 * w + 1) (nI k)) (48 + 5 * w + 4) 1
theorem plR2_ok {r : Rw} (hI : okR r) {w k : Nat} (hw : w < 8) (hk : k < 12) : okR (plR2 r w k) ∧ sm r (plR2 r w k) := by
  refine ⟨okR_wt (okR_wt hI (w := w) (j := 1) hw (by decide) ⟨fun h => absurd h (by decide), fun _ => ⟨nI_pos' (by omega), nI_le (b := 11) (by omega) (by decide)⟩, fun h => absurd h (by decide), fun h => absurd h (by decide), fun h => absurd h (by decide)⟩) (w := w) (j := 4) hw (by decide) ⟨fun h => absurd h (by decide), fun h => absurd h (by decide), fun h => absurd h (by decide), fun h => absurd h (by decide), fun _ => Or.inr rfl⟩, (sm.u (by omega) (by omega)).tr (sm.u (by omega) (by omega))⟩
def plG (r : Rw) (w n : Nat) (k : Nat) : Int32 := hrN (plR2 r w k) n 8
section OPH
variable {d : Nat} {mem : wf_Mem} {P : Int32 → wf_Mem → Prop} {Q : wf_Mem → Prop} {r : Rw}
theorem lasts_loop (hI : okR r) : ∀ (f k : Nat) (m : wf_Mem), f + k = 300 → RO mem m → (∀ j, j < 88 → m 132 j = r j) → m 121 = hrN r k → (∀ m', RO mem m' → m' 121 = r → P (fsA (laP r) f (k + 1)) m') → Vw (Ni (d + 9) P) mX9_lasts 8 [(0, .ref 120), (1, .int (-1)), (2, .int (nI (k + 1)))] [] m
  | f, k, m, hf, ho, hb, em, h => by
    have ec : (300 < nI (k + 1)) ↔ 300 < k + 1 := nI_ltI (a := 300) (by decide) (by omega)
    refine b_X9_lasts_8 _ _ _ ?_
    rw [ec]
    refine ⟨fun g => ?_, fun g => ⟨fun g2 => absurd g2 (by decide), fun _ => c_goesOn em (hrN_ok hI k).1 (fun m1 c1 r1 w1 _ => ?_)⟩⟩
    · have : f = 0 := by omega
      subst this
      exact c_lossEnd hI (-1) ho hb em h
    · cases f with
      | zero => omega
      | succ f =>
        have b1 : ∀ j, j < 88 → m1 132 j = r j := fun j hj => by rw [c1.1 132 (by decide) (by decide) (by decide) (by decide)]; exact hb j hj
        rw [w1]
        have hv : fsA (laP r) (f + 1) (k + 1) = if laP r (k + 1) = true then nI (k + 1) else fsA (laP r) f (k + 1 + 1) := rfl
        refine ⟨fun g2 => ?_, fun g2 => ?_⟩
        · rw [hv, if_neg (by unfold laP; simp [g2])] at h
          rw [nI_1]
          exact lasts_loop hI f (k + 1) m1 (by omega) (ho.tr c1.ro) b1 r1 h
        · rw [hv, if_pos (by unfold laP; simp [g2])] at h
          have pos : (0 : Int32) ≤ nI (k + 1) := nI_pos' (by omega)
          have fin := c_lossEnd (d := d + 8) (P := P) (k := k + 1) hI (nI (k + 1)) (ho.tr c1.ro) b1 r1 (by unfold orN; rw [if_pos pos]; exact h)
          exact b_X9_lasts_8 _ _ _ ⟨fun _ => fin, fun _ => ⟨fun _ => fin, fun n => absurd pos n⟩⟩
theorem R_lasts (hr : mem 121 = r) (hI : okR r) (h : ∀ m', RO mem m' → m' 121 = r → P (fsA (laP r) 300 1) m') : Ci mX9_lasts (d + 10) [.ref 120] mem P :=
  E_X9_lasts (c_laysBy hr (fun m1 o1 e1 k1 => lasts_loop (d := d + 1) hI 300 0 m1 rfl o1 k1 e1 h))
theorem klasts_loop (hI : okR r) (h : ∀ m', Fr CO mem m' → Rel 41 m' r → P (fsA (laP r) 300 1) m') : ∀ (f k : Nat) (m : wf_Mem), f + k = 300 → Fr CO mem m → Rel 41 m r → Rel 75 m (bnN r k) → fsA (laP r) 300 1 = fsA (laP r) f (k + 1) → Vw (Ni (d + 6) P) mX8_lasts 13 [(0, .ref 0), (1, .int (nI (k + 1)))] [] m
  | f, k, m, hf, ho, hR, hT, hv => by
    have ec : (300 < nI (k + 1)) ↔ 300 < k + 1 := nI_ltI (a := 300) (by decide) (by omega)
    refine b_X8_lasts_13 _ _ ?_
    rw [ec]
    refine ⟨fun g => ?_, fun g => k_burn sh75 (bnN_ok hI k) hT (fun m1 f1 R1 => ?_)⟩
    · have : f = 0 := by omega
      subst this
      rw [hv] at h
      exact h m ho hR
    · cases f with
      | zero => omega
      | succ f =>
        have hR1 := keep_c hI hR f1
        rw [wo_n hI k]
        have hv2 : fsA (laP r) (f + 1) (k + 1) = if laP r (k + 1) = true then nI (k + 1) else fsA (laP r) f (k + 1 + 1) := rfl
        refine ⟨fun g2 => ?_, fun g2 => ?_⟩
        · rw [hv2, if_neg (by unfold laP; simp [g2])] at hv
          rw [nI_1]
          exact klasts_loop hI h f (k + 1) m1 (by omega) (ho.tr (CO.c75 f1)) hR1 R1 hv
        · rw [hv2, if_pos (by unfold laP; simp [g2])] at hv
          rw [hv] at h
          exact h m1 (ho.tr (CO.c75 f1)) hR1
theorem L_lasts (hI : INV mem) : Agr (d + 20) mX8_lasts mX9_lasts [] mem := by
  obtain ⟨hO, hB, hR⟩ := hI.1
  refine E_X8_lasts (k_takeFrom sh75 sh41 (by decide) hO hR (fun m1 f1 R1 => ?_))
  refine klasts_loop (mem := mem) (d := d + 14) hO (fun m2 hF R2 => ?_) 300 0 m1 rfl (CO.d75 f1) (keep_d hO hR f1) R1 rfl
  exact R_lasts (CO.ref hF (by decide)) hO (fun m' ro em => ⟨rfl, hI.rd hF ro R2 em⟩)
/-- watch -/
theorem watch_loop (hI : okR r) {n j : Nat} (hn : n ≤ 60) (y : Int32) (ej : (y = 0) ↔ j = 0) (h : ∀ m', RO mem m' → m' 121 = r → P (waV r n j) m') : ∀ (f w : Nat) (m : wf_Mem), rW r - w ≤ f → w ≤ rW r → RO mem m → (∀ j, j < 88 → m 132 j = r j) → m 121 = r → Vw (Ni (d + 10) P) mX9_watch 37 [(0, .ref 120), (1, .int (nI n)), (2, .int y), (3, .int (amA (wcG r n) w).1), (4, .int (amA (wcG r n) w).2), (5, .int (nI w))] [] m
  | f, w, m, hf, hw, ho, hb, em => by
    obtain ⟨hw1, hw2⟩ := hI.w
    have ec : (nI (rW r) ≤ nI w) ↔ rW r ≤ w := nI_leI (by omega) (by omega)
    refine b_X9_watch_37 _ _ _ _ _ _ ?_
    rw [em, hw1, ec]
    refine ⟨fun g => ?_, fun g => ?_⟩
    · have e : w = rW r := by omega
      have h' := h m ho em
      unfold waV at h'
      rw [e, ej]
      refine ⟨fun c => ⟨fun q => ?_, fun q => ?_⟩, fun c => ?_⟩
      · rw [if_pos c, if_neg q] at h'; exact h'
      · rw [if_pos c, if_pos q] at h'; exact h'
      · rw [if_neg c] at h'; exact h'
    · have inner : ∀ (f2 k : Nat) (m2 : wf_Mem), rW r - k ≤ f2 → k ≤ rW r → RO mem m2 → (∀ j, j < 88 → m2 132 j = r j) → m2 121 = wkA r w k → Vw (Ni (d + 10) P) mX9_watch 51 [(0, .ref 120), (1, .int (nI n)), (2, .int y), (3, .int (amA (wcG r n) w).1), (4, .int (amA (wcG r n) w).2), (5, .int (nI w)), (6, .int (nI k))] [] m2 := by
        intro f2
        induction f2 with
        | zero =>
          intro k m2 q1 q2 q3 q4 q5
          have ek : k = rW r := by omega
          subst ek
          have hm1 : m2 121 1 = nI (rW r) := by rw [q5, (wkA_ok hI w _ hw2).2.2.1, hw1]
          refine b_X9_watch_51 _ _ _ _ _ _ _ ?_
          rw [hm1]
          refine ⟨fun _ => ?_, fun c => absurd (nI_le (Nat.le_refl _) (by omega)) c⟩
          refine c_goesOnMany n (by omega) q5 (wkR_ok hI w).1 (fun m3 o3 e3 v ev => ?_)
          rw [e3] at ev
          have ev' : v = wcG r n w := ev
          have b3 : ∀ j, j < 88 → m3 132 j = r j := fun j hj => by rw [o3.1 132 (by decide) (by decide) (by decide) (by decide)]; exact q4 j hj
          refine c_laysBack (r := r) b3 (fun j hj => by rw [e3]; exact ((hrN_ok (wkR_ok hI w).1 n).2.2.2.2 j hj).trans ((wkR_ok hI w).2.2.2.2 j hj)) (fun m4 o4 e4 k4 => ?_)
          have b4 : ∀ j, j < 88 → m4 132 j = r j := fun j hj => by rw [k4]; exact b3 j hj
          have o5 : RO mem m4 := q3.tr (o3.ro.tr o4)
          rw [nI_1]
          cases f with
          | zero => omega
          | succ f =>
            have nx := watch_loop hI hn y ej h f (w + 1) m4 (by omega) (by omega) o5 b4 e4
            have un : amA (wcG r n) (w + 1) = if (amA (wcG r n) w).1 < 0 then (nI w, wcG r n w) else if (amA (wcG r n) w).2 ≤ wcG r n w then amA (wcG r n) w else (nI w, wcG r n w) := rfl
            rw [un] at nx
            rw [ev']
            refine ⟨fun c => ?_, fun c => ⟨fun c2 => ?_, fun c2 => ?_⟩⟩
            · rw [if_pos c] at nx; exact nx
            · rw [if_neg c, if_pos c2] at nx; exact nx
            · rw [if_neg c, if_neg c2] at nx; exact nx
        | succ f2 ih =>
          intro k m2 q1 q2 q3 q4 q5
          by_cases ek : k = rW r
          · exact ih k m2 (by omega) q2 q3 q4 q5
          have hm1 : m2 121 1 = nI (rW r) := by rw [q5, (wkA_ok hI w _ (by omega)).2.2.1, hw1]
          refine b_X9_watch_51 _ _ _ _ _ _ _ ?_
          have e2 : (48 + 5 * nI k) + 4 = nI (48 + 5 * k + 4) := ixo k 4
          have ee : (nI k = nI w) ↔ k = w := nI_eq (by omega) (by omega)
          have ek2 : (nI (rW r) ≤ nI k) ↔ rW r ≤ k := nI_leI (by omega) (by omega)
          rw [hm1, e2, ee, ek2, show nI k + 1 = nI (k + 1) from nI_1 k, nI_clamp (by omega)]
          refine ⟨fun c => absurd c (by omega), fun _ => ⟨fun c => ⟨vin (by omega), fun m3 f3 => ?_⟩, fun c => ⟨vin (by omega), fun m3 f3 => ?_⟩⟩⟩
          · refine ih (k + 1) m3 (by omega) (by omega) (by rw [f3]; exact q3.tr (RO.ms (Or.inl rfl))) (fun j hj => by rw [f3, msA _ _ _ _ (by decide)]; exact q4 j hj) ?_
            rw [f3, ms121 q5]; show _ = upd _ _ _; rw [if_neg c]
          · refine ih (k + 1) m3 (by omega) (by omega) (by rw [f3]; exact q3.tr (RO.ms (Or.inl rfl))) (fun j hj => by rw [f3, msA _ _ _ _ (by decide)]; exact q4 j hj) ?_
            rw [f3, ms121 q5]; show _ = upd _ _ _; rw [if_pos c]
      exact inner 8 0 m (by omega) (by omega) ho hb em
theorem R_watch (hr : mem 121 = r) (hI : okR r) (x y : Int32) (h1 : ∀ n j, n ≤ 60 → j ≤ 1 → x = nI n → y = nI j → (1 ≤ x ∧ x ≤ 60) ∧ 0 ≤ y ∧ y ≤ 1 → ∀ m', RO mem m' → m' 121 = r → P (waV r n j) m') (h0 : ¬ ((1 ≤ x ∧ x ≤ 60) ∧ 0 ≤ y ∧ y ≤ 1) → P (-1000000001) mem) : Ci mX9_watch (d + 11) [.ref 120, .int x, .int y] mem P := by
  refine E_X9_watch _ _ (c_isIn x 1 60 rfl rfl (fun a1 a2 => z1 (c_isIn y 0 1 rfl rfl (fun b1 b2 => n1 (c_laysBy hr (fun m1 o1 e1 k1 => ?_))) (fun bad => n0 (h0 (fun g => bad g.2))))) (fun bad => z0 (h0 (fun g => bad g.1))))
  obtain ⟨n, hn, en⟩ := nI_bd (m := 60) (by grind) a2 (by decide)
  obtain ⟨j, hj, ej⟩ := nI_bd (m := 1) b1 b2 (by decide)
  have q1 : (y = 0) ↔ j = 0 := by rw [ej]; exact nI_eq (b := 0) (by omega) (by decide)
  rw [en]
  exact watch_loop (d := d + 1) hI hn y q1 (h1 n j hn hj en ej ⟨⟨a1, a2⟩, b1, b2⟩) 8 0 m1 (by have := hI.w.2; omega) (by omega) o1 k1 e1
theorem wakes_loop (hI : okR r) (w : Nat) (hw8 : w < 8) (h : ∀ m', Fr (SD 75) mem m' → Rel 75 m' (wkR r w) → Q m') : ∀ (f k : Nat) (m : wf_Mem), rW r - k ≤ f → k ≤ rW r → Fr (SD 75) mem m → Rel 75 m (wkA r w k) → Vw (Nv d Q) mX0_wakesOnly 2 [(0, .ref 75), (1, .int (nI w)), (2, .int (nI k))] [] m
  | f, k, m, hf, hk, ho, hR => by
    obtain ⟨hw1, hw2⟩ := hI.w
    have hm1 : m 75 2 = nI (rW r) := by rw [hR.1.2.1, (wkA_ok hI w _ (by omega)).2.2.1, hw1]
    have ek2 : (nI (rW r) ≤ nI k) ↔ rW r ≤ k := nI_leI (by omega) (by omega)
    have ee : (nI k = nI w) ↔ k = w := nI_eq (by omega) (by omega)
    refine b_X0_wakesOnly_2 _ _ sh75 _ _ ?_
    rw [hm1, ek2, ee]
    refine ⟨fun g => ?_, fun g => ?_⟩
    · have : k = rW r := by omega
      subst this
      exact h m ho hR
    · rw [nI_clamp (by omega)]
      have go : ∀ v : Int32, v = (if k = w then 1 else 0) → ∀ m2, m2 = wf_ms m (75 + 5 + 4 + k) 4 v → Vw (Nv d Q) mX0_wakesOnly 2 [(0, .ref 75), (1, .int (nI w)), (2, .int (nI k + 1))] [] m2 := by
        intro v ev m2 f2
        subst f2
        rw [show nI k + 1 = nI (k + 1) from nI_1 k]
        cases f with
        | zero => omega
        | succ f =>
          refine wakes_loop hI w hw8 h f (k + 1) _ (by omega) (by omega) (ho.tr (Fr.ms (by unfold SD; omega))) ?_
          show Rel 75 _ (upd _ _ _)
          rw [← ev]
          exact hR.wt sh75 (wkA_ok hI w k (by omega)).1 (by omega) (by decide) v
      exact ⟨vin (by omega), fun c m2 f2 => go 0 (by rw [if_neg c]) m2 f2, fun c m2 f2 => go 1 (by rw [if_pos c]) m2 f2⟩
theorem k_wakesOnly (hI : okR r) (hR : Rel 75 mem r) (w : Nat) (hw8 : w < 8) (h : ∀ m', Fr (SD 75) mem m' → Rel 75 m' (wkR r w) → Q m') : Cv mX0_wakesOnly d [.ref 75, .int (nI w)] mem Q :=
  E_X0_wakesOnly _ sh75 _ (wakes_loop hI w hw8 h 8 0 mem (by have := hI.w.2; omega) (by omega) Fr.rf hR)
theorem kwatch_loop (hI : okR r) {n j : Nat} (hn : n ≤ 60) (y : Int32) (ej : (y = 0) ↔ j = 0) (h : ∀ m', Fr CO mem m' → Rel 41 m' r → P (waV r n j) m') : ∀ (f w : Nat) (m : wf_Mem) (x3 x4 : Int32), rW r - w ≤ f → w ≤ rW r → Fr CO mem m → Rel 41 m r → x3 = orN (amA (wcG r n) w).1 → (0 < w → x4 = (amA (wcG r n) w).2) → (w = 0 → x4 = -1000000005) → Vw (Ni (d + 10) P) mX8_watch 32 [(0, .ref 0), (1, .int (nI n)), (2, .int y), (3, .int x3), (4, .int x4), (5, .int (nI w))] [] m
  | f, w, m, x3, x4, hf, hw, ho, hR, h3, h4, h40 => by
    obtain ⟨hw1, hw2⟩ := hI.w
    have ec : (nI (rW r) ≤ nI w) ↔ rW r ≤ w := nI_leI (by omega) (by omega)
    refine b_X8_watch_32 _ _ _ _ _ _ ?_
    rw [hR.1.2.1, hw1, ec]
    refine ⟨fun g => ?_, fun g => ?_⟩
    · have e : w = rW r := by omega
      have h' := h m ho hR
      unfold waV at h'
      rw [← e] at h'
      rw [ej]
      rcases amA_in (wcG r n) w (by omega) with ⟨a, b⟩ | ⟨a, i, hi, ei⟩
      · rw [b, if_neg (by decide)] at h'
        have e3 : x3 = -1000000005 := by rw [h3, b]; decide
        rw [e3, h40 a]
        exact ⟨fun _ => h', fun _ => h'⟩
      · have pos : (0 : Int32) ≤ (amA (wcG r n) w).1 := by rw [ei]; exact nI_pos' (by omega)
        rw [if_pos pos] at h'
        have e3 : x3 = (amA (wcG r n) w).1 := by rw [h3]; unfold orN; rw [if_pos pos]
        rw [e3, h4 a]
        refine ⟨fun q => ?_, fun q => ?_⟩
        · rw [if_neg q] at h'; exact h'
        · rw [if_pos q] at h'; exact h'
    · refine k_takeFrom sh75 sh41 (by decide) hI hR (fun m1 f1 R1 => k_wakesOnly hI R1 w (by omega) (fun m2 f2 R2 => k_pass sh75 (wkR_ok hI w).1 R2 n (by omega) (fun m3 f3 R3 _ => ?_)))
      have o3 : Fr CO mem m3 := ho.tr ((CO.d75 f1).tr ((CO.d75 f2).tr (CO.c75 f3)))
      have hR3 : Rel 41 m3 r := keep_c hI (keep_d hI (keep_d hI hR f1) f2) f3
      have ev : m3 75 8 = wcG r n w := R3.at 8 (by decide) (by decide)
      rw [ev, show nI w + 1 = nI (w + 1) from nI_1 w]
      obtain ⟨s1, s2⟩ := am_st (wcG r n) (by omega) h3 h4
      cases f with
      | zero => omega
      | succ f =>
        refine ⟨fun c v ev => ?_, fun c => ⟨fun c2 => ?_, fun c2 v ev => ?_⟩⟩
        · exact kwatch_loop hI hn y ej h f (w + 1) m3 _ _ (by omega) (by omega) o3 hR3 (s1 c).1 (fun _ => ev.trans (s1 c).2) (fun e => by omega)
        · exact kwatch_loop hI hn y ej h f (w + 1) m3 _ _ (by omega) (by omega) o3 hR3 ((s2 c).1 c2).1 (fun _ => ((s2 c).1 c2).2) (fun e => by omega)
        · exact kwatch_loop hI hn y ej h f (w + 1) m3 _ _ (by omega) (by omega) o3 hR3 ((s2 c).2 c2).1 (fun _ => ev.trans ((s2 c).2 c2).2) (fun e => by omega)
theorem L_watch (hI : INV mem) (x y : Int32) : Agr (d + 20) mX8_watch mX9_watch [.int x, .int y] mem := by
  obtain ⟨hO, hB, hR⟩ := hI.1
  have bad : ¬ ((1 ≤ x ∧ x ≤ 60) ∧ 0 ≤ y ∧ y ≤ 1) → Ci mX9_watch (d + 20) [.ref 120, .int x, .int y] mem (fun r2 m2 => -1000000001 = r2 ∧ INV m2) := fun hb =>
    R_watch rfl hO x y (fun n j h2 h3 ex ey gg => absurd gg hb) (fun _ => ⟨rfl, hI⟩)
  refine E_X8_watch _ _ (k_within x 1 60 (fun a1 a2 => z1 (k_within y 0 1 (fun b1 b2 => n1 ?_) (fun b => n0 (bad (fun g => b g.2))))) (fun b => z0 (bad (fun g => b g.1))))
  obtain ⟨n, hn, en⟩ := nI_bd (m := 60) (by grind) a2 (by decide)
  obtain ⟨j, hj, ej⟩ := nI_bd (m := 1) b1 b2 (by decide)
  have q1 : (y = 0) ↔ j = 0 := by rw [ej]; exact nI_eq (b := 0) (by omega) (by decide)
  have gg : (1 ≤ x ∧ x ≤ 60) ∧ 0 ≤ y ∧ y ≤ 1 := ⟨⟨a1, a2⟩, b1, b2⟩
  rw [en] at gg ⊢
  refine kwatch_loop (mem := mem) (d := d + 10) hO hn y q1 (fun m2 hF R2 => ?_) 8 0 mem (-1000000005) (-1000000005) (by have := hO.w.2; omega) (by omega) Fr.rf hR (show _ = orN (-1) by decide) (fun c => by omega) (fun _ => rfl)
  refine R_watch (CO.ref hF (by decide)) hO _ y (fun n' j' q1 q2 q3 q4 _ m' ro em => ?_) (fun b' => absurd gg b')
  have e1 : n' = n := (nI_eq (by omega) (by omega)).mp q3.symm
  have e2 : j' = j := (nI_eq (by omega) (by omega)).mp (q4.symm.trans ej)
  subst e1 e2
  exact ⟨rfl, hI.rd hF ro R2 em⟩
end OPH
