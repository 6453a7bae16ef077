/-! check -/
def dueV (q : Rw) (k : Nat) : Int32 := if k % 2 = 0 then (if 0 ≤ cmR (bnR (hrN q (k / 2))) then cmR (bnR (hrN q (k / 2))) else 99) else hrN q (k / 2 + 1) 8 + 100 * hrN q (k / 2 + 1) 3
def ckA (w due : Nat → Int32) (many D : Nat) : Nat → Nat → Int32
  | 0, _ => if many ≤ D then 0 else nI (1 + D)
  | f + 1, k => if k < many ∧ w k = due k then ckA w due many D f (k + 1) else nI (1 + k)
theorem ckA_st (w due : Nat → Int32) {many D k : Nat} (h : k < D) : ckA w due many D (D - k) k = if k < many ∧ w k = due k then ckA w due many D (D - (k + 1)) (k + 1) else nI (1 + k) := by
  have : D - k = (D - (k + 1)) + 1 := by omega
  rw [this]; rfl
theorem INV.ck {m m' : wf_Mem} (h : INV m) (hf : ∀ a, ((1 ≤ a ∧ a < 75 ∧ a ≠ 9) ∨ (92 ≤ a ∧ a < 120) ∨ a = 121 ∨ a = 122 ∨ (124 ≤ a ∧ a < 134) ∨ a = 137) → m' a = m a) (e0 : m' 0 10 = m 0 10) (e1 : m' 0 9 = 0) (e2 : m' 120 3 = m 120 3) (e3 : m' 120 16 = m 120 16) (e4 : m' 120 31 = 0) : INV m' := by
  obtain ⟨h1, h2, h3, h4, h5, h6⟩ := h
  exact ⟨h1.fr (hf 121 (by omega)) (fun a ha => hf a (by unfold RdC at ha; omega)), h2.fr e0 e2 (hf 122 (by omega)) (by rw [hf 121 (by omega)]; exact Nat.le_refl _) (fun a ha => hf a (by unfold RdC at ha; omega)), fun k hk => (h3 k hk).fr (by rw [hf 124 (by omega)]) (by rw [hf 125 (by omega)]) (fun j hj => by rw [hf 126 (by omega)]) (hf _ (by omega)) (hf _ (by omega)), fun k hk => (h4 k hk).fr (by rw [hf 127 (by omega)]) (by rw [hf 128 (by omega)]) (by rw [hf 129 (by omega)]) (by rw [hf 130 (by omega)]) (fun j hj => by rw [hf 131 (by omega)]) (fun i hi => hf _ (by omega)), ⟨0, by omega, e1, e4, fun j hj => by omega⟩, h6.fr (by rw [hf 3 (by omega)]) e3 (hf 4 (by omega)) (hf 133 (by omega))⟩
theorem two_mul_nI (h : Nat) : 2 * nI h = nI (2 * h) := by show nI 2 * nI h = _; rw [pk_mul]
theorem rem2 {k : Nat} (hk : k < 2 ^ 31) : (nI k - nI k / 2 * 2 = 0) ↔ k % 2 = 0 := by
  have e : nI k - nI k / 2 * 2 = nI (k % 2) := pk_rem (d := 2) hk (by decide) (by decide)
  rw [e]
  exact nI_eq (b := 0) (by omega) (by decide)
section OPR
variable {d : Nat} {mem : wf_Mem} {P : Int32 → wf_Mem → Prop} {Q : wf_Mem → Prop} {r q : Rw}
/-- the reference's compare -/
theorem ck_cmp {many D : Nat} (hm : many ≤ 60) (hD : D ≤ 60) (w due : Nat → Int32) (hw : ∀ j, j < many → mem 137 j = w j) (hd : ∀ j, j < D → mem 138 j = due j) (h : P (ckA w due many D D 0) mem) : ∀ (f k : Nat), D - k ≤ f → k ≤ D → k ≤ many → ckA w due many D D 0 = ckA w due many D (D - k) k → Vw (Ni (d + 1) P) mX9_check 159 [(0, .ref 120), (2, .int (nI many)), (3, .int (nI D)), (4, .int (nI k))] [] mem
  | f, k, hf, hk, hkm, hv => by
    have c1 : (nI many ≤ nI k) ↔ many ≤ k := nI_leI (by omega) (by omega)
    have c2 : (nI D ≤ nI k) ↔ D ≤ k := nI_leI (by omega) (by omega)
    have fin : (k = many ∧ k = D → ckA w due many D D 0 = 0) → (¬ (k = many ∧ k = D) → ckA w due many D D 0 = nI (1 + k)) → Vw (Ni (d + 1) P) mX9_check 194 [(2, .int (nI many)), (3, .int (nI D)), (4, .int (nI k))] [] mem := fun g1 g0 => by
      have e1 : (nI k = nI many) ↔ k = many := nI_eq (by omega) (by omega)
      have e2 : (nI k = nI D) ↔ k = D := nI_eq (by omega) (by omega)
      have e3 : 1 + nI k = nI (1 + k) := nI_add 1 k
      refine b_X9_check_194 _ _ _ _ ?_
      rw [e1, e2, e3]
      refine ⟨fun c => ?_, fun c => ⟨fun c' => ?_, fun c' => ?_⟩⟩
      · rw [← g0 (fun o => c o.1)]; exact h
      · rw [← g0 (fun o => c' o.2)]; exact h
      · rw [← g1 ⟨c, c'⟩]; exact h
    have fin2 : (many ≤ k ∨ D ≤ k ∨ ¬ w k = due k) → Vw (Ni (d + 1) P) mX9_check 194 [(2, .int (nI many)), (3, .int (nI D)), (4, .int (nI k))] [] mem := fun g => by
      by_cases e : k = D
      · have e0 : D - k = 0 := by omega
        rw [e0] at hv
        have hv' : ckA w due many D D 0 = if many ≤ D then 0 else nI (1 + D) := hv
        refine fin (fun o => ?_) (fun o => ?_)
        · rw [hv', if_pos (by omega)]
        · rw [hv', if_neg (by omega), e]
      · have ng : ¬ (k < many ∧ w k = due k) := fun o => by
          rcases g with g | g | g
          · omega
          · omega
          · exact g o.2
        rw [ckA_st w due (by omega), if_neg ng] at hv
        exact fin (fun o => absurd o.2 e) (fun _ => hv)
    refine b_X9_check_159 _ _ _ _ ?_
    rw [c1, c2, nI_clamp (by omega)]
    refine ⟨fun g => fin2 (Or.inl g), fun g => ⟨fun g2 => fin2 (Or.inr (Or.inl g2)), fun g2 => ?_⟩⟩
    rw [hw k (by omega), hd k (by omega)]
    refine ⟨vin (by omega), vin (by omega), fun g3 => fin2 (Or.inr (Or.inr g3)), fun g3 => ?_⟩
    rw [show nI k + 1 = nI (k + 1) from nI_1 k]
    rw [ckA_st w due (by omega), if_pos ⟨by omega, g3⟩] at hv
    cases f with
    | zero => omega
    | succ f => exact ck_cmp hm hD w due hw hd h f (k + 1) (by omega) (by omega) (by omega) hv
/-- frame of the reference's check -/
def KF (m m' : wf_Mem) : Prop := (∀ a, a ≠ 120 → a ≠ 121 → a ≠ 123 → a ≠ 134 → a ≠ 135 → a ≠ 138 → m' a = m a) ∧ ∀ j, j ≠ 12 → j ≠ 13 → m' 120 j = m 120 j
theorem KF.rf {m : wf_Mem} : KF m m := ⟨fun _ _ _ _ _ _ _ => rfl, fun _ _ _ => rfl⟩
theorem KF.tr {a b c : wf_Mem} (h1 : KF a b) (h2 : KF b c) : KF a c := ⟨fun q g1 g2 g3 g4 g5 g6 => (h2.1 q g1 g2 g3 g4 g5 g6).trans (h1.1 q g1 g2 g3 g4 g5 g6), fun j g1 g2 => (h2.2 j g1 g2).trans (h1.2 j g1 g2)⟩
theorem KF.hc {m m' : wf_Mem} (h : hc m m') : KF m m' := ⟨fun a g1 g2 _ g4 g5 _ => h.1 a g1 g2 g4 g5, h.2⟩
theorem KF.fr {m m' : wf_Mem} {b : Nat} (h : Fr (fun c => c = b) m m') (hb : b = 121 ∨ b = 123 ∨ b = 138) : KF m m' := ⟨fun a g1 g2 g3 _ _ g6 => h a (by omega), fun j _ _ => by rw [h 120 (by omega)]⟩
theorem KF.ms {m : wf_Mem} {k : Nat} {v : Int32} : KF m (wf_ms m 138 k v) := KF.fr (Fr.ms rfl) (by omega)
theorem ck_loop (hq : okR q) {h6 n many H : Nat} (e6 : q 6 = nI h6) (hh : h6 ≤ 9999) (hn : n ≤ 30) (eH : H = min n (9999 - h6)) (A : Rw) (hA : ∀ j, 2888 ≤ j → q j = A j) (h : ∀ m', KF mem m' → m' 121 = A → (∀ k, k < 2 * H → m' 138 k = dueV q k) → Vw (Ni (d + 9) P) mX9_check 159 [(0, .ref 120), (2, .int (nI many)), (3, .int (nI (2 * H))), (4, .int 0)] [] m') : ∀ (f i : Nat) (m : wf_Mem), H - i ≤ f → i ≤ H → KF mem m → m 121 = hrN q i → (∀ j, j < 2888 → m 123 j = A j) → (∀ k, k < 2 * i → m 138 k = dueV q k) → Vw (Ni (d + 9) P) mX9_check 65 [(0, .ref 120), (1, .int (nI n)), (2, .int (nI many)), (3, .int (nI (2 * i))), (4, .int (nI i))] [] m
  | f, i, m, hf, hi, ho, em, ea, ed => by
    have ec : (nI n ≤ nI i) ↔ n ≤ i := nI_leI (by omega) (by omega)
    have e9 : (9999 ≤ nI (h6 + i)) ↔ 9999 ≤ h6 + i := nI_leI (a := 9999) (by decide) (by omega)
    refine b_X9_check_65 _ _ _ _ _ ?_
    rw [ec, em, hrN_6, e6, nI_add, e9]
    have stop : i = H → Cv mX9_setAside (d + 8) [.ref 120, .ref 123, .ref 121] m (fun mem2 => Vw (Ni (d + 9) P) mX9_check 159 [(0, .ref 120), (2, .int (nI many)), (3, .int (nI (2 * i))), (4, .int 0)] [] mem2) := fun e => by
      refine c_aside rfl rfl (by decide) (fun m2 f2 g1 g2 => ?_)
      rw [e]
      refine h m2 (ho.tr (KF.fr f2 (by omega))) (funext (fun j => ?_)) (fun k hk => ?_)
      · by_cases c : j < 2888
        · rw [g1 j c, ea j c]
        · rw [g2 j (by omega), em, (hrN_ok hq i).2.2.2.2 j (by omega)]; exact hA j (by omega)
      · rw [f2 138 (by decide)]; exact ed k (by omega)
    refine ⟨fun g => stop (by omega), fun g => ⟨fun g2 => stop (by omega), fun g2 => c_goesOn em (hrN_ok hq i).1 (fun m1 c1 r1 _ w1 => ?_)⟩⟩
    have r1' : m1 121 = hrN q (i + 1) := r1
    have k1 : m1 138 = m 138 := c1.1 138 (by decide) (by decide) (by decide) (by decide)
    rw [w1]
    have due0 : ∀ v : Int32, v = dueV q (2 * i) → Vw (Ni (d + 9) P) mX9_check 109 [(0, .ref 120), (1, .int (nI n)), (2, .int (nI many)), (3, .int (nI (2 * i))), (4, .int (nI i))] [.int v, .int (nI (2 * i)), .ref 138] m1 := fun v ev => by
      refine b_X9_check_109 _ _ _ _ _ _ _ ?_
      rw [show nI (2 * i) + 1 = nI (2 * i + 1) from nI_1 _, show nI (2 * i) + 2 = nI (2 * (i + 1)) from nI_2 _, show nI i + 1 = nI (i + 1) from nI_1 _, nI_clamp (by omega), nI_clamp (by omega)]
      refine ⟨vin (by omega), fun m2 f2 => ⟨vin (by omega), fun m3 f3 => ?_⟩⟩
      have e2 : m2 121 = hrN q (i + 1) := by rw [f2, wf_ms_other _ _ _ _ (by decide)]; exact r1'
      rw [e2] at f3
      cases f with
      | zero => omega
      | succ f =>
        refine ck_loop hq e6 hh hn eH A hA h f (i + 1) m3 (by omega) (by omega) ((ho.tr (KF.hc c1)).tr (by rw [f3, f2]; exact KF.ms.tr KF.ms)) ?_ (fun j hj => ?_) (fun k hk => ?_)
        · rw [f3, wf_ms_other _ _ _ _ (by decide)]; exact e2
        · rw [f3, msA _ _ _ _ (by decide), f2, msA _ _ _ _ (by decide), c1.1 123 (by decide) (by decide) (by decide) (by decide)]; exact ea j hj
        · rw [f3]
          by_cases e : k = 2 * i + 1
          · rw [e, msS]
            unfold dueV
            have a1 : (2 * i + 1) % 2 = 1 := by omega
            have a2 : (2 * i + 1) / 2 = i := by omega
            rw [a1, a2, if_neg (by decide)]
          · rw [msK _ _ _ _ e, f2]
            by_cases e' : k = 2 * i
            · rw [e', msS]; exact ev
            · rw [msK _ _ _ _ e', k1]; exact ed k (by omega)
    have dv : dueV q (2 * i) = if 0 ≤ cmR (bnR (hrN q i)) then cmR (bnR (hrN q i)) else 99 := by
      unfold dueV
      have a1 : (2 * i) % 2 = 0 := by omega
      have a2 : (2 * i) / 2 = i := by omega
      rw [a1, a2, if_pos rfl]
    refine ⟨fun c => due0 _ ?_, fun c => due0 _ ?_⟩
    · rw [dv, if_pos c]
    · rw [dv, if_neg c]
/-- the class's loop -/
theorem kck_loop (hq : okR q) {many H : Nat} (hm : many ≤ 60) (hH : H ≤ 30) (w : Nat → Int32) (hw : ∀ j, j < many → mem 8 j = w j) (h : ∀ m', Fr (SC 75) mem m' → P (ckA w (dueV q) many (2 * H) (2 * H) 0) m') : ∀ (f k : Nat) (m : wf_Mem), 2 * H - k ≤ f → k ≤ 2 * H → Fr (SC 75) mem m → Rel 75 m (hrN q ((k + 1) / 2)) → (k % 2 = 1 → m 75 16 = orN (cmR (bnR (hrN q (k / 2))))) → ckA w (dueV q) many (2 * H) (2 * H) 0 = ckA w (dueV q) many (2 * H) (2 * H - k) k → Vw (Ni (d + 6) P) mX8_check 64 [(0, .ref 0), (2, .int (nI many)), (3, .int (nI H)), (4, .int (nI k))] [] m
  | f, k, m, hf, hk, ho, hR, h16, hv => by
    have ec : (nI (2 * H) ≤ nI k) ↔ 2 * H ≤ k := nI_leI (by omega) (by omega)
    have em : (nI many ≤ nI (2 * H)) ↔ many ≤ 2 * H := nI_leI (by omega) (by omega)
    refine b_X8_check_64 _ _ _ _ ?_
    rw [two_mul_nI, ec, em, rem2 (by omega), show 1 + nI (2 * H) = nI (1 + 2 * H) from nI_add 1 _]
    refine ⟨fun g => ?_, fun g => ?_⟩
    · have e0 : 2 * H - k = 0 := by omega
      rw [e0] at hv
      have hv' : ckA w (dueV q) many (2 * H) (2 * H) 0 = if many ≤ 2 * H then 0 else nI (1 + 2 * H) := hv
      refine ⟨fun c => ?_, fun c => ?_⟩
      · rw [if_pos c] at hv'; rw [← hv']; exact h m ho
      · rw [if_neg c] at hv'; rw [← hv']; exact h m ho
    · have c122 : ∀ (m2 : wf_Mem) (y : Int32), Fr (SC 75) mem m2 → Rel 75 m2 (hrN q ((k + 2) / 2)) → ((k + 1) % 2 = 1 → m2 75 16 = orN (cmR (bnR (hrN q ((k + 1) / 2))))) → y = dueV q k → Vw (Ni (d + 6) P) mX8_check 122 [(0, .ref 0), (2, .int (nI many)), (3, .int (nI H)), (4, .int (nI k))] [.int y] m2 := fun m2 y o2 R2 h2 ey => by
        refine b_X8_check_122 _ _ _ _ _ ?_
        have ek : (nI many ≤ nI k) ↔ many ≤ k := nI_leI (by omega) (by omega)
        rw [ek, nI_clamp (by omega), show 1 + nI k = nI (1 + k) from nI_add 1 _]
        rw [ckA_st w (dueV q) (by omega)] at hv
        refine ⟨fun g2 => ?_, fun g2 => ⟨vin (by omega), ?_⟩⟩
        · rw [if_neg (by omega)] at hv; rw [← hv]; exact h m2 o2
        · have e8 : m2 8 k = w k := by rw [o2 8 (by unfold SC; omega)]; exact hw k (by omega)
          rw [e8, ey]
          refine ⟨fun g3 => ?_, fun g3 => ?_⟩
          · rw [if_pos ⟨by omega, g3⟩] at hv
            rw [show nI k + 1 = nI (k + 1) from nI_1 k]
            cases f with
            | zero => omega
            | succ f => exact kck_loop hq hm hH w hw h f (k + 1) m2 (by omega) (by omega) o2 R2 h2 hv
          · rw [if_neg (fun o => g3 o.2)] at hv; rw [← hv]; exact h m2 o2
      refine ⟨fun odd => ?_, fun even => ?_⟩
      · have a1 : (k + 1) / 2 = (k + 2) / 2 := by omega
        have a2 : k / 2 + 1 = (k + 2) / 2 := by omega
        refine b_X8_check_87 _ _ _ _ ?_
        rw [rem2 (by omega)]
        refine ⟨fun _ => c122 m _ ho (by rw [← a1]; exact hR) (fun c => by omega) ?_, fun c => absurd c odd⟩
        unfold dueV
        rw [if_neg odd, hR.at 8 (by decide) (by decide), hR.at 3 (by decide) (by decide), a1, a2]
      · have a1 : (k + 1) / 2 = k / 2 := by omega
        have a2 : (k + 2) / 2 = k / 2 + 1 := by omega
        rw [a1] at hR
        refine k_pass sh75 (hrN_ok hq _).1 hR 1 (by decide) (fun m1 f1 R1 g16 => ?_)
        have o1 : Fr (SC 75) mem m1 := ho.tr f1
        have R1' : Rel 75 m1 (hrN q ((k + 2) / 2)) := by rw [a2]; exact R1
        have e16 : m1 75 16 = orN (cmR (bnR (hrN q (k / 2)))) := g16 0 rfl
        refine b_X8_check_87 _ _ _ _ ?_
        rw [rem2 (by omega)]
        refine ⟨fun c => absurd even c, fun _ => E_X0_cameTold _ sh75 ?_⟩
        rw [e16]
        have dv : dueV q k = if 0 ≤ cmR (bnR (hrN q (k / 2))) then cmR (bnR (hrN q (k / 2))) else 99 := by unfold dueV; rw [if_pos even]
        have h16' : (k + 1) % 2 = 1 → m1 75 16 = orN (cmR (bnR (hrN q ((k + 1) / 2)))) := fun _ => by rw [a1]; exact e16
        by_cases c : 0 ≤ cmR (bnR (hrN q (k / 2)))
        · have eo : orN (cmR (bnR (hrN q (k / 2)))) = cmR (bnR (hrN q (k / 2))) := by unfold orN; rw [if_pos c]
          rw [eo]
          refine ⟨fun _ => c122 m1 _ o1 R1' h16' (by rw [dv, if_pos c]), fun c' => ?_⟩
          rw [c'] at c; exact absurd c (by decide)
        · have eo : orN (cmR (bnR (hrN q (k / 2)))) = -1000000005 := by unfold orN; rw [if_neg c]
          rw [eo]
          exact ⟨fun c' => absurd rfl c', fun _ => c122 m1 _ o1 R1' h16' (by rw [dv, if_neg c])⟩
theorem L_check (hI : INV mem) (x : Int32) : Agr (d + 20) mX8_check mX9_check [.int x] mem := by
  obtain ⟨many, hmn, w1, w2, w3⟩ := hI.2.2.2.2.1
  obtain ⟨i1, i2, i3⟩ := hI.2.1
  refine E_X8_check _ (fun y ey m1 f1 => ?_)
  rw [w1] at ey
  have o1 : ∀ a, a ≠ 0 → m1 a = mem a := fun a ha => by rw [f1, wf_ms_other _ _ _ _ ha]
  have o10 : ∀ j, j ≠ 9 → m1 0 j = mem 0 j := fun j hj => by rw [f1, msK _ _ _ _ hj]
  have o19 : m1 0 9 = 0 := by rw [f1, msS]
  have early : ∀ m2, m2 = wf_ms m1 120 31 0 → INV m2 := fun m2 f2 => by
    refine hI.ck (fun a ha => ?_) ?_ ?_ ?_ ?_ ?_
    · rw [f2, wf_ms_other _ _ _ _ (by omega), o1 a (by omega)]
    · rw [f2, msA _ _ _ _ (by decide)]; exact o10 10 (by decide)
    · rw [f2, msA _ _ _ _ (by decide)]; exact o19
    · rw [f2, msK _ _ _ _ (by decide), o1 120 (by decide)]
    · rw [f2, msK _ _ _ _ (by decide), o1 120 (by decide)]
    · rw [f2, msS]
  refine k_within x 1 30 (fun a b => n1 ⟨fun c => ?_, fun c => ?_⟩) (fun bad => n0 (E_X9_check _ (fun y' _ m2 f2 => c_isIn x 1 30 rfl rfl (fun a b => absurd ⟨a, b⟩ bad) (fun _ => n0 ⟨rfl, early m2 f2⟩))))
  · rw [o10 10 (by decide)] at c
    have c1 : mem 0 10 = 1 := i1.resolve_left c
    obtain ⟨hO, hB, hR, hT⟩ := i3 c1
    obtain ⟨n, hn, en⟩ := nI_bd (m := 30) (by grind) b (by decide)
    obtain ⟨h6, hh, e6⟩ := nI_bd (m := 9999) hB.1 hB.2 (by decide)
    have eqa : eqA (mem 122) (fun j => if j < 2888 then mem 122 j else mem 121 j) := fun j hj => if_pos hj
    generalize hq : (fun j => if j < 2888 then mem 122 j else mem 121 j) = q at eqa
    have okq := eqa.ok hO
    have Rq : Rel 58 m1 q := (eqa.rel hO hR).go okq (fun a ha => o1 a (by unfold RdC at ha; omega))
    have q6 : q 6 = nI h6 := (eqa 6 (by decide)).trans e6
    have hA : ∀ j, 2888 ≤ j → q j = mem 121 j := fun j hj => by rw [← hq]; exact if_neg (by omega)
    refine k_takeFrom sh75 sh58 (by decide) okq Rq (fun m2 f2 R2 v ev => ?_)
    have e58 : m2 58 6 = nI h6 := by rw [f2 58 (by unfold SD; omega), Rq.at 6 (by decide) (by decide)]; exact q6
    have eV : v = nI (min n (9999 - h6)) := by
      have e1 : (9999 : Int32) - nI h6 = nI (9999 - h6) := pk_sub (a := 9999) hh
      rw [ev, e58, e1, en]
      have : (nI (9999 - h6) < nI n) ↔ 9999 - h6 < n := nI_ltI (by omega) (by omega)
      by_cases g : 9999 - h6 < n
      · rw [if_pos (this.mpr g), Nat.min_eq_right (by omega)]
      · rw [if_neg (fun c => g (this.mp c)), Nat.min_eq_left (by omega)]
    rw [eV, ey]
    have o2 : ∀ a, a ≠ 0 → (a < 75 ∨ 92 ≤ a) → m2 a = mem a := fun a h0 ha => by rw [f2 a (by unfold SD; omega), o1 a h0]
    refine kck_loop (mem := m2) (d := d + 14) okq (many := many) (H := min n (9999 - h6)) hmn (by omega) (mem 137) (fun j hj => by rw [o2 8 (by decide) (by omega)]; exact w3 j hj) (fun m3 f3 => ?_) 60 0 m2 (by omega) (by omega) Fr.rf R2 (fun c => by omega) rfl
    have o3 : ∀ a, a ≠ 0 → (a < 75 ∨ 92 ≤ a) → a ≠ 9 → m3 a = mem a := fun a h0 h1 h2 => by rw [f3 a (by unfold SC; omega), o2 a h0 h1]
    have o30 : m3 0 = m1 0 := by rw [f3 0 (by unfold SC; omega), f2 0 (by unfold SD; omega)]
    refine E_X9_check _ (fun y' ey' m4 f4 => c_isIn x 1 30 rfl rfl (fun _ _ => n1 ⟨fun _ => c_aside rfl rfl (by decide) (fun m5 f5 g1 g2 => c_aside rfl rfl (by decide) (fun m6 f6 g3 g4 => ?_)), fun c' => absurd c' ?_⟩) (fun bad => absurd ⟨a, b⟩ bad))
    · have o6 : ∀ a, a ≠ 120 → a ≠ 121 → a ≠ 123 → m6 a = m3 a := fun a h1 h2 h3 => by rw [f6 a h2, f5 a h3, f4, wf_ms_other _ _ _ _ h1]
      have e6 : m6 121 = q := funext (fun j => by
        by_cases cj : j < 2888
        · rw [g3 j cj, f5 122 (by decide), f4, msA _ _ _ _ (by decide), o3 122 (by decide) (by omega) (by decide), eqa j cj]
        · rw [g4 j (by omega), f5 121 (by decide), f4, msA _ _ _ _ (by decide), o3 121 (by decide) (by omega) (by decide), hA j (by omega)])
      have e123 : ∀ j, j < 2888 → m6 123 j = mem 121 j := fun j hj => by rw [f6 123 (by decide), g1 j hj, f4, msA _ _ _ _ (by decide), o3 121 (by decide) (by omega) (by decide)]
      have e120 : ∀ j, j ≠ 31 → m6 120 j = mem 120 j := fun j hj => by rw [f6 120 (by decide), f5 120 (by decide), f4, msK _ _ _ _ hj, o3 120 (by decide) (by omega) (by decide)]
      have e12031 : m6 120 31 = 0 := by rw [f6 120 (by decide), f5 120 (by decide), f4, msS]
      rw [o3 120 (by decide) (by omega) (by decide), w2] at ey'
      rw [ey', en]
      refine ck_loop (mem := m6) (d := d + 11) okq q6 hh hn rfl (mem 121) hA (fun m7 k7 e7 d7 => ?_) 30 0 m6 (by omega) (by omega) KF.rf e6 e123 (fun k hk => by omega)
      refine ck_cmp (mem := m7) (d := d + 19) hmn (by omega) (mem 137) (dueV q) (fun j _ => by rw [k7.1 137 (by decide) (by decide) (by decide) (by decide) (by decide) (by decide), o6 137 (by decide) (by decide) (by decide), o3 137 (by decide) (by omega) (by decide)]) d7 ⟨rfl, ?_⟩ 60 0 (by omega) (by omega) (by omega) rfl
      refine hI.ck (fun a' ha => ?_) ?_ ?_ ?_ ?_ ?_
      · by_cases ca : a' = 121
        · rw [ca]; exact e7
        · rw [k7.1 a' (by omega) (by omega) (by omega) (by omega) (by omega) (by omega), o6 a' (by omega) (by omega) (by omega), o3 a' (by omega) (by omega) (by omega)]
      · rw [k7.1 0 (by decide) (by decide) (by decide) (by decide) (by decide) (by decide), o6 0 (by decide) (by decide) (by decide), o30]; exact o10 10 (by decide)
      · rw [k7.1 0 (by decide) (by decide) (by decide) (by decide) (by decide) (by decide), o6 0 (by decide) (by decide) (by decide), o30]; exact o19
      · rw [k7.2 3 (by decide) (by decide)]; exact e120 3 (by decide)
      · rw [k7.2 16 (by decide) (by decide)]; exact e120 16 (by decide)
      · rw [k7.2 31 (by decide) (by decide)]; exact e12031
    · rw [f4, msK _ _ _ _ (by decide), o3 120 (by decide) (by omega) (by decide), i2, c1]; decide
  · rw [o10 10 (by decide)] at c
    refine E_X9_check _ (fun y' _ m2 f2 => c_isIn x 1 30 rfl rfl (fun _ _ => n1 ⟨fun c' => absurd ?_ c', fun _ => ⟨rfl, early m2 f2⟩⟩) (fun bad => absurd ⟨a, b⟩ bad))
    rw [f2, msK _ _ _ _ (by decide), o1 120 (by decide), i2]; exact c
end OPR
