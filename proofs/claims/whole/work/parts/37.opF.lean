/-! hours, night, behind, loss, dark -/
theorem hrN_6 (r : Rw) : ∀ n, hrN r n 6 = r 6 + nI n
  | 0 => by show r 6 = r 6 + 0; grind
  | n + 1 => by
    show hrR (hrN r n) 6 = _
    rw [hrR_6, hrN_6 r n, ← nI_1]
    grind
def alF (r : Rw) : Nat → Int32
  | 0 => 0
  | k + 1 => alF r k + r (12 + 3 * k)
def bhV (r : Rw) (j : Nat) : Int32 := if j = 0 then r 8 else if j = 1 then r 3 else if j = 2 then r 5 else alF r (rN r)
/-- what is only thought leaves what is now -/
theorem Rel.keep {m m' : wf_Mem} {r : Rw} {S : Nat → Prop} (hI : okR r) (h : Rel 41 m r) (hf : Fr S m m') (hs : ∀ a, S a → a < 11 ∨ 58 ≤ a) : Rel 41 m' r :=
  h.go hI (fun a ha => hf a (fun z => by have := hs a z; unfold RdC at ha; omega))
theorem CO.d75 {m m' : wf_Mem} (h : Fr (SD 75) m m') : Fr CO m m' := h.to (fun a ha => by unfold SD at ha; unfold CO; omega)
theorem keep_d {m m' : wf_Mem} {r : Rw} (hI : okR r) (h : Rel 41 m r) (hf : Fr (SD 75) m m') : Rel 41 m' r := h.keep hI hf (fun a ha => by unfold SD at ha; omega)
theorem keep_c {m m' : wf_Mem} {r : Rw} (hI : okR r) (h : Rel 41 m r) (hf : Fr (SC 75) m m') : Rel 41 m' r := h.keep hI hf (fun a ha => by unfold SC at ha; omega)
section OPF
variable {d : Nat} {mem : wf_Mem} {P : Int32 → wf_Mem → Prop} {Q : wf_Mem → Prop} {r : Rw}
theorem by_loop (hr : mem 121 = r) : ∀ (f k : Nat) (m : wf_Mem), 88 - k ≤ f → k ≤ 88 → m 121 = r → RO mem m → (∀ j, j < k → m 132 j = r j) → (∀ m', RO mem m' → m' 121 = r → (∀ j, j < 88 → m' 132 j = r j) → Q m') → Vw (Nv d Q) mX9_laysBy 2 [(0, .ref 120), (1, .int (nI k))] [] m
  | f, k, m, hf, hk, h1, ho, hj, h => by
    have ec : (88 ≤ nI k) ↔ 88 ≤ k := nI_leI (a := 88) (by decide) (by omega)
    refine b_X9_laysBy_2 _ _ ?_
    rw [ec]
    refine ⟨fun g => h m ho h1 (fun j q => hj j (by omega)), fun g => ⟨vin (by omega), vin (by omega), fun m2 f2 => ?_⟩⟩
    rw [nI_clamp (by omega), h1] at f2
    rw [nI_1]
    cases f with
    | zero => omega
    | succ f =>
      refine by_loop hr f (k + 1) m2 (by omega) (by omega) (by rw [f2, wf_ms_other _ _ _ _ (by decide)]; exact h1) (by rw [f2]; exact ho.tr (RO.ms (by omega))) (fun j q => ?_) h
      rw [f2]
      by_cases e : j = k
      · rw [e, msS]
      · rw [msK _ _ _ _ e]; exact hj j (by omega)
theorem c_laysBy (hr : mem 121 = r) (h : ∀ m', RO mem m' → m' 121 = r → (∀ j, j < 88 → m' 132 j = r j) → Q m') : Cv mX9_laysBy d [.ref 120] mem Q :=
  E_X9_laysBy (by_loop hr 88 0 mem (by omega) (by omega) hr RO.rf (fun j q => by omega) h)
theorem back_loop (hb : ∀ j, j < 88 → mem 132 j = r j) : ∀ (f k : Nat) (m : wf_Mem), 88 - k ≤ f → k ≤ 88 → RO mem m → m 132 = mem 132 → (∀ j, j < k → m 121 j = r j) → (∀ j, 88 ≤ j → m 121 j = r j) → (∀ m', RO mem m' → m' 121 = r → m' 132 = mem 132 → Q m') → Vw (Nv d Q) mX9_laysBack 2 [(0, .ref 120), (1, .int (nI k))] [] m
  | f, k, m, hf, hk, ho, h1, hj, hh, h => by
    have ec : (88 ≤ nI k) ↔ 88 ≤ k := nI_leI (a := 88) (by decide) (by omega)
    refine b_X9_laysBack_2 _ _ ?_
    rw [ec]
    refine ⟨fun g => h m ho (funext (fun j => ?_)) h1, fun g => ⟨vin (by omega), vin (by omega), fun m2 f2 => ?_⟩⟩
    · by_cases q : j < 88
      · exact hj j (by omega)
      · exact hh j (by omega)
    rw [nI_clamp (by omega), h1, hb k (by omega)] at f2
    rw [nI_1]
    cases f with
    | zero => omega
    | succ f =>
      refine back_loop hb f (k + 1) m2 (by omega) (by omega) (by rw [f2]; exact ho.tr (RO.ms (by omega))) (by rw [f2, wf_ms_other _ _ _ _ (by decide)]; exact h1) (fun j q => ?_) (fun j q => ?_) h
      · rw [f2]
        by_cases e : j = k
        · rw [e, msS]
        · rw [msK _ _ _ _ e]; exact hj j (by omega)
      · rw [f2, msK _ _ _ _ (by omega)]; exact hh j q
theorem c_laysBack (hb : ∀ j, j < 88 → mem 132 j = r j) (hh : ∀ j, 88 ≤ j → mem 121 j = r j) (h : ∀ m', RO mem m' → m' 121 = r → m' 132 = mem 132 → Q m') : Cv mX9_laysBack d [.ref 120] mem Q :=
  E_X9_laysBack (back_loop hb 88 0 mem (by omega) (by omega) RO.rf rfl (fun j q => by omega) hh h)
/-- hours -/
theorem hours_loop (hI : okR r) {h6 : Nat} (e6 : r 6 = nI h6) (hh : h6 ≤ 9999) (n : Nat) (hn : n ≤ 300) (x2 : Int32) (h : ∀ m', hc mem m' → m' 121 = hrN r (min n (9999 - h6)) → P (hrN r (min n (9999 - h6)) 8 - x2) m') : ∀ (f k : Nat) (m : wf_Mem), min n (9999 - h6) - k ≤ f → k ≤ min n (9999 - h6) → hc mem m → m 121 = hrN r k → Vw (Ni (d + 9) P) mX9_hours 25 [(0, .ref 120), (1, .int (nI n)), (2, .int x2), (3, .int (nI k))] [] m
  | f, k, m, hf, hk, ho, em => by
    have ec : (nI n ≤ nI k) ↔ n ≤ k := nI_leI (by omega) (by omega)
    have e9 : (9999 ≤ nI (h6 + k)) ↔ 9999 ≤ h6 + k := nI_leI (a := 9999) (by decide) (by omega)
    refine b_X9_hours_25 _ _ _ _ ?_
    rw [ec, em, hrN_6, e6, nI_add, e9]
    have stop : k = min n (9999 - h6) → P (hrN r k 8 - x2) m := fun e => by rw [e]; exact h m ho (by rw [em, e])
    refine ⟨fun g => stop (by omega), fun g => ⟨fun g2 => stop (by omega), fun g2 => c_goesOn em (hrN_ok hI k).1 (fun m1 c1 r1 _ _ => ?_)⟩⟩
    rw [nI_1]
    cases f with
    | zero => omega
    | succ f => exact hours_loop hI e6 hh n hn x2 h f (k + 1) m1 (by omega) (by omega) (ho.tr c1) r1
theorem R_hours (hr : mem 121 = r) (hI : okR r) {h6 : Nat} (e6 : r 6 = nI h6) (hh : h6 ≤ 9999) (x : Int32) (h1 : ∀ n, n ≤ 300 → x = nI n → 1 ≤ x ∧ x ≤ 300 → ∀ m', RO mem m' → m' 121 = hrN r (min n (9999 - h6)) → P (hrN r (min n (9999 - h6)) 8 - r 8) m') (h0 : ¬ (1 ≤ x ∧ x ≤ 300) → P (-1000000001) mem) : Ci mX9_hours (d + 10) [.ref 120, .int x] mem P := by
  refine E_X9_hours _ (c_isIn x 1 300 rfl rfl (fun a b => n1 (fun y ey => ?_)) (fun bad => n0 (h0 bad)))
  obtain ⟨n, hn, en⟩ := nI_bd (m := 300) (by grind) b (by decide)
  rw [en, ey, hr]
  exact hours_loop hI e6 hh n hn _ (fun m' c e => h1 n hn en ⟨a, b⟩ m' c.ro e) 300 0 mem (by omega) (by omega) hc.rf hr
theorem L_hours (hI : INV mem) (x : Int32) : Agr (d + 20) mX8_hours mX9_hours [.int x] mem := by
  obtain ⟨hO, hB, hR⟩ := hI.1
  obtain ⟨h6, hh, e6⟩ := nI_bd (m := 9999) hB.1 hB.2 (by decide)
  refine E_X8_hours _ (k_within x 1 300 (fun a b => n1 (fun y ey => ?_)) (fun b => n0 (R_hours rfl hO e6 hh x (fun n h2 ex g => absurd g b) (fun _ => ⟨rfl, hI⟩))))
  · obtain ⟨n, hn, en⟩ := nI_bd (m := 300) (by grind) b (by decide)
    have e1 : (9999 : Int32) - mem 41 6 = nI (9999 - h6) := by
      rw [hR.at 6 (by decide) (by decide), e6]; exact pk_sub (a := 9999) hh
    have eX : (if 9999 - mem 41 6 < x then 9999 - mem 41 6 else x) = nI (min n (9999 - h6)) := by
      rw [e1, en]
      have : (nI (9999 - h6) < nI n) ↔ 9999 - h6 < n := nI_ltI (by omega) (by omega)
      by_cases g : 9999 - h6 < n
      · rw [if_pos (this.mpr g), Nat.min_eq_right (by omega)]
      · rw [if_neg (fun c => g (this.mp c)), Nat.min_eq_left (by omega)]
    rw [eX]
    refine k_pass sh41 hO hR _ (by omega) (fun m1 f1 R1 _ => ?_)
    have hF := CO.c41 f1
    refine R_hours (CO.ref hF (by decide)) hO e6 hh x (fun n' h2 ex _ m' ro em => ?_) (fun b' => absurd ⟨a, b⟩ b')
    have : n' = n := (nI_eq (by omega) (by omega)).mp (ex.symm.trans en)
    subst this
    refine ⟨by rw [R1.at 8 (by decide) (by decide), ey, hR.at 8 (by decide) (by decide)], hI.op hF ro R1 em (hrN_ok hO _).1 ?_ (by rw [(hrN_ok hO _).2.T]; exact Nat.le_refl _)⟩
    unfold hb
    rw [hrN_6, e6, nI_add]
    exact ⟨nI_pos' (by omega), nI_le (b := 9999) (by omega) (by decide)⟩
/-- night -/
theorem L_night (hI : INV mem) (x : Int32) : Agr (d + 20) mX8_night mX9_night [.int x] mem := by
  obtain ⟨hO, hB, hR⟩ := hI.1
  refine E_X8_night _ ⟨fun c0 => ?_, fun c0 => ⟨fun c1 => ?_, fun c1 => ⟨fun c2 => ?_, fun c2 => ⟨fun c3 => ?_, fun c3 => ?_⟩⟩⟩⟩
  · exact E_X9_night _ ⟨fun _ => ⟨hR.at 8 (by decide) (by decide), hI⟩, fun n => absurd c0 n⟩
  · exact E_X9_night _ ⟨fun n => absurd n c0, fun _ => ⟨fun _ => ⟨hR.at 7 (by decide) (by decide), hI⟩, fun n => absurd c1 n⟩⟩
  · exact E_X9_night _ ⟨fun n => absurd n c0, fun _ => ⟨fun n => absurd n c1, fun _ => ⟨fun _ => ⟨hR.at 9 (by decide) (by decide), hI⟩, fun n => absurd c2 n⟩⟩⟩
  · refine k_measure sh41 hO hR (fun m1 f1 G => k_least sh41 hO (hR.sm sh41 hO f1) (fun i hi => (G i hi).2) (fun m2 f2 => ?_))
    have hF : Fr CO mem m2 := (CO.m41 f1).tr (CO.s9 f2)
    refine E_X9_night _ ⟨fun n => absurd n c0, fun _ => ⟨fun n => absurd n c1, fun _ => ⟨fun n => absurd n c2, fun _ => ⟨fun _ => c_comeTo (CO.ref hF (by decide)) hO (fun m3 s3 => c_orNone _ ⟨rfl, ?_⟩), fun n => absurd c3 n⟩⟩⟩⟩
    exact hI.rd hF s3.ro ((hR.sm sh41 hO f1).keep hO f2 (fun a ha => by unfold S9 at ha; omega)) (s3.s.trans (CO.ref hF (by decide)))
  · exact E_X9_night _ ⟨fun n => absurd n c0, fun _ => ⟨fun n => absurd n c1, fun _ => ⟨fun n => absurd n c2, fun _ => ⟨fun n => absurd n c3, fun _ => ⟨rfl, hI⟩⟩⟩⟩⟩
/-- all foals -/
theorem alF_loop (hI : okR r) (hr : mem 121 = r) (h : P (alF r (rN r)) mem) : ∀ (f k : Nat), rN r - k ≤ f → k ≤ rN r → Vw (Ni (d + 1) P) mX9_allFoals 4 [(0, .ref 120), (1, .int (alF r k)), (2, .int (nI k))] [] mem
  | f, k, hf, hk => by
    obtain ⟨hn, hn2⟩ := hI.n
    have ec : (nI (rN r) ≤ nI k) ↔ rN r ≤ k := nI_leI (by omega) (by omega)
    refine b_X9_allFoals_4 _ _ _ ?_
    rw [hr, hn, ec]
    refine ⟨fun g => ?_, fun g => c_wagonsOwn k 0 (by omega) (fun y ey => ?_)⟩
    · have : k = rN r := by omega
      rw [this]; exact h
    · rw [hr] at ey
      have e : y = alF r (k + 1) := ey
      rw [e, nI_1]
      cases f with
      | zero => omega
      | succ f => exact alF_loop hI hr h f (k + 1) (by omega) (by omega)
theorem c_allFoals (hI : okR r) (hr : mem 121 = r) (h : P (alF r (rN r)) mem) : Ci mX9_allFoals (d + 1) [.ref 120] mem P :=
  E_X9_allFoals (alF_loop hI hr h (rN r) 0 (by omega) (by omega))
theorem kalF_loop {c : Nat} (hc : wf_sh (c + 1) = (3, 0)) (hI : okR r) (hR : Rel c mem r) (h : P (alF r (rN r)) mem) : ∀ (f k : Nat), rN r - k ≤ f → k ≤ rN r → Vw (Ni d P) mX3_allFoals 4 [(0, .ref (c + 1)), (1, .int (alF r k)), (2, .int (nI k))] [] mem
  | f, k, hf, hk => by
    obtain ⟨hn, hn2⟩ := hI.n
    have ec : (nI (rN r) ≤ nI k) ↔ rN r ≤ k := nI_leI (by omega) (by omega)
    refine b_X3_allFoals_4 _ _ hc _ _ ?_
    rw [hR.1.1, hn, ec]
    refine ⟨fun g => ?_, fun g => ⟨vin (by omega), fun y ey => ?_⟩⟩
    · have : k = rN r := by omega
      rw [this]; exact h
    · rw [nI_clamp (by omega), (hR.2.1 k (by omega)).1] at ey
      have e : y = alF r (k + 1) := ey
      rw [e, nI_1]
      cases f with
      | zero => omega
      | succ f => exact kalF_loop hc hI hR h f (k + 1) (by omega) (by omega)
theorem k_allFoals {c : Nat} (hc : wf_sh (c + 1) = (3, 0)) (hI : okR r) (hR : Rel c mem r) (h : P (alF r (rN r)) mem) : Ci mX3_allFoals d [.ref (c + 1)] mem P :=
  E_X3_allFoals _ hc (kalF_loop hc hI hR h (rN r) 0 (by omega) (by omega))
/-- behind -/
theorem R_behind (hr : mem 121 = r) (hI : okR r) (x y : Int32) (h1 : ∀ n j, n ≤ 300 → j < 4 → x = nI n → y = nI j → ∀ m', RO mem m' → m' 121 = r → P (bhV (hrN r n) j) m') (h0 : ¬ ((0 ≤ x ∧ x ≤ 300) ∧ 0 ≤ y ∧ y ≤ 3) → P (-1000000001) mem) : Ci mX9_behind (d + 10) [.ref 120, .int x, .int y] mem P := by
  refine E_X9_behind _ _ (c_isIn x 0 300 rfl rfl (fun a1 a2 => z1 (c_isIn y 0 3 rfl rfl (fun b1 b2 => n1 (c_laysBy hr (fun m1 o1 e1 k1 => ?_))) (fun bad => n0 (h0 (fun g => bad g.2))))) (fun bad => z0 (h0 (fun g => bad g.1))))
  obtain ⟨n, hn, en⟩ := nI_bd (m := 300) a1 a2 (by decide)
  obtain ⟨j, hj, ej⟩ := nI_bd (m := 3) b1 b2 (by decide)
  rw [en]
  refine c_goesOnMany n hn e1 hI (fun m2 o2 e2 => ?_)
  have q1 : (y = 0) ↔ j = 0 := by rw [ej]; exact nI_eq (b := 0) (by omega) (by decide)
  have q2 : (y = 1) ↔ j = 1 := by rw [ej]; exact nI_eq (b := 1) (by omega) (by decide)
  have q3 : (y = 2) ↔ j = 2 := by rw [ej]; exact nI_eq (b := 2) (by omega) (by decide)
  rw [q1, q2, q3]
  have fin : ∀ v : Int32, v = bhV (hrN r n) j → Cv mX9_laysBack (d + 9) [.ref 120] m2 (fun m' => P v m') := fun v ev =>
    c_laysBack (r := r) (fun i hi => by rw [o2.1 132 (by decide) (by decide) (by decide) (by decide)]; exact k1 i hi) (fun i hi => by rw [e2]; exact (hrN_ok hI n).2.2.2.2 i hi) (fun m3 o3 e3 _ => by rw [ev]; exact h1 n j hn (by omega) en ej m3 (o1.tr (o2.ro.tr o3)) e3)
  refine ⟨fun c0 => ⟨fun c1 => ⟨fun c2 => c_allFoals (hrN_ok hI n).1 e2 (fin _ ?_), fun c2 v ev => fin v ?_⟩, fun c1 v ev => fin v ?_⟩, fun c0 v ev => fin v ?_⟩
  · unfold bhV; rw [if_neg c0, if_neg c1, if_neg c2]
  · unfold bhV; rw [if_neg c0, if_neg c1, if_pos c2, ev, e2]
  · unfold bhV; rw [if_neg c0, if_pos c1, ev, e2]
  · unfold bhV; rw [if_pos c0, ev, e2]
theorem L_behind (hI : INV mem) (x y : Int32) : Agr (d + 20) mX8_behind mX9_behind [.int x, .int y] mem := by
  obtain ⟨hO, hB, hR⟩ := hI.1
  have bad : ¬ ((0 ≤ x ∧ x ≤ 300) ∧ 0 ≤ y ∧ y ≤ 3) → Ci mX9_behind (d + 20) [.ref 120, .int x, .int y] mem (fun r2 m2 => -1000000001 = r2 ∧ INV m2) := fun hb =>
    R_behind rfl hO x y (fun n j h2 h3 ex ey => absurd ⟨⟨by rw [ex]; exact nI_pos' (by omega), by rw [ex]; exact nI_le (b := 300) h2 (by decide)⟩, by rw [ey]; exact nI_pos' (by omega), by rw [ey]; exact nI_le (b := 3) (by omega) (by decide)⟩ hb) (fun _ => ⟨rfl, hI⟩)
  refine E_X8_behind _ _ (k_within x 0 300 (fun a1 a2 => z1 (k_within y 0 3 (fun b1 b2 => n1 (k_takeFrom sh75 sh41 (by decide) hO hR (fun m1 f1 R1 => ?_))) (fun b => n0 (bad (fun g => b g.2))))) (fun b => z0 (bad (fun g => b g.1))))
  obtain ⟨n, hn, en⟩ := nI_bd (m := 300) a1 a2 (by decide)
  obtain ⟨j, hj, ej⟩ := nI_bd (m := 3) b1 b2 (by decide)
  rw [en]
  refine k_pass sh75 hO R1 n hn (fun m2 f2 R2 _ => ?_)
  have hF : Fr CO mem m2 := (CO.d75 f1).tr (CO.c75 f2)
  have fin : ∀ v : Int32, v = bhV (hrN (mem 121) n) j → Ci mX9_behind (d + 20) [.ref 120, .int (nI n), .int y] m2 (fun r2 m2 => v = r2 ∧ INV m2) := fun v ev =>
    R_behind (CO.ref hF (by decide)) hO _ y (fun n' j' q1 q2 q3 q4 m' ro em => by
      have e1 : n' = n := (nI_eq (by omega) (by omega)).mp q3.symm
      have e2 : j' = j := (nI_eq (by omega) (by omega)).mp (q4.symm.trans ej)
      subst e1 e2
      exact ⟨ev, hI.rd hF ro (keep_c hO (keep_d hO hR f1) f2) em⟩) (fun b' => absurd ⟨by rw [← en]; exact ⟨a1, a2⟩, b1, b2⟩ b')
  have q1 : (y = 0) ↔ j = 0 := by rw [ej]; exact nI_eq (b := 0) (by omega) (by decide)
  have q2 : (y = 1) ↔ j = 1 := by rw [ej]; exact nI_eq (b := 1) (by omega) (by decide)
  have q3 : (y = 2) ↔ j = 2 := by rw [ej]; exact nI_eq (b := 2) (by omega) (by decide)
  refine ⟨fun c0 => fin _ ?_, fun c0 => ⟨fun c1 => fin _ ?_, fun c1 => ⟨fun c2 => fin _ ?_, fun c2 => k_allFoals (c := 75) rfl (hrN_ok hO n).1 R2 (fin _ ?_)⟩⟩⟩
  · rw [q1] at c0; unfold bhV; rw [if_pos c0]; exact R2.at 8 (by decide) (by decide)
  · rw [q1] at c0; rw [q2] at c1; unfold bhV; rw [if_neg c0, if_pos c1]; exact R2.at 3 (by decide) (by decide)
  · rw [q1] at c0; rw [q2] at c1; rw [q3] at c2; unfold bhV; rw [if_neg c0, if_neg c1, if_pos c2]; exact R2.at 5 (by decide) (by decide)
  · rw [q1] at c0; rw [q2] at c1; rw [q3] at c2; unfold bhV; rw [if_neg c0, if_neg c1, if_neg c2]
end OPF
