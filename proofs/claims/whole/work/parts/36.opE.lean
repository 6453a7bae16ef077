/-! deal -/
def zR (r : Rw) : Int32 := r 10 * 1103515245 + 12345
def dzR (r : Rw) : Rw := upd r 10 (zR r)
def shZ (z : Int32) : Int32 := (z.toUInt32 >>> ((8 : Int32).toUInt32 &&& Int32.toUInt32 31)).toInt32
theorem shZ_nI (z : Int32) : ∃ n, n < 2 ^ 24 ∧ shZ z = nI n := by
  refine ⟨z.toBitVec.toNat / 2 ^ 8, by have := z.toBitVec.isLt; omega, ?_⟩
  have h := pk_ushr z 8 8 (by decide)
  have e : (nI (z.toBitVec.toNat / 2 ^ 8)).toBitVec.toNat = z.toBitVec.toNat / 2 ^ 8 := by
    have := z.toBitVec.isLt
    unfold nI
    simp
    omega
  apply Int32.toBitVec_inj.mp
  apply BitVec.eq_of_toNat_eq
  rw [e]
  exact h
theorem shZ_rem (z : Int32) {k : Nat} (hk : 0 < k) (hk2 : k < 100) : ∃ n, n < k ∧ shZ z - shZ z / nI k * nI k = nI n := by
  obtain ⟨n, hn, e⟩ := shZ_nI z
  exact ⟨n % k, Nat.mod_lt _ hk, by rw [e, pk_rem (by omega) hk (by omega)]⟩
def k6 (z : Int32) : Int32 := shZ z - shZ z / 6 * 6
def k12 (z : Int32) : Int32 := shZ z - shZ z / 12 * 12
def k9 (z : Int32) : Int32 := 1 + (shZ z - shZ z / 9 * 9)
theorem k6_bd (z : Int32) : 0 ≤ k6 z ∧ k6 z ≤ 5 := by
  obtain ⟨n, hn, e⟩ := shZ_rem z (k := 6) (by decide) (by decide)
  have e' : k6 z = nI n := e
  rw [e']
  exact ⟨nI_pos' (by omega), nI_le (b := 5) (by omega) (by decide)⟩
theorem k12_bd (z : Int32) : 0 ≤ k12 z ∧ k12 z ≤ 11 := by
  obtain ⟨n, hn, e⟩ := shZ_rem z (k := 12) (by decide) (by decide)
  have e' : k12 z = nI n := e
  rw [e']
  exact ⟨nI_pos' (by omega), nI_le (b := 11) (by omega) (by decide)⟩
theorem k9_bd (z : Int32) : 1 ≤ k9 z ∧ k9 z ≤ 9 := by
  obtain ⟨n, hn, e⟩ := shZ_rem z (k := 9) (by decide) (by decide)
  have e' : k9 z = nI (1 + n) := by
    show 1 + _ = _
    have e2 : shZ z - shZ z / 9 * 9 = nI n := e
    rw [e2]; exact nI_add 1 n
  rw [e']
  exact ⟨nI_le (a := 1) (by omega) (by omega), nI_le (b := 9) (by omega) (by decide)⟩
/-- one that is dealt -/
def d3R (r : Rw) : Rw := dzR (dzR (dzR r))
def dlR (r : Rw) : Rw := watR (d3R r) (k6 (zR r)) (k12 (zR (dzR r))) (k9 (zR (dzR (dzR r))))
def dlN (r : Rw) : Nat → Rw
  | 0 => r
  | n + 1 => dlR (dlN r n)
theorem dzR_o (r : Rw) {j : Nat} (h : j ≠ 10) : dzR r j = r j := updN _ _ h
theorem d3R_o (r : Rw) {j : Nat} (h : j ≠ 10) : d3R r j = r j := by unfold d3R; rw [dzR_o _ h, dzR_o _ h, dzR_o _ h]
theorem okR_dz {r : Rw} (hI : okR r) : okR (dzR r) := okR_lo hI (by decide) (by decide) (fun h => by omega) (fun h => by omega)
theorem okR_d3 {r : Rw} (hI : okR r) : okR (d3R r) := okR_dz (okR_dz (okR_dz hI))
theorem d3R_W (r : Rw) : rW (d3R r) = rW r := by unfold rW; rw [d3R_o _ (by decide)]
theorem okR_dl {r : Rw} (hI : okR r) (hw : rW r < 8) : okR (dlR r) := okR_wat (okR_d3 hI) (by rw [d3R_W]; exact hw) (k6_bd _) (k12_bd _) (k9_bd _)
theorem dlR_W {r : Rw} (hI : okR r) : rW (dlR r) = rW r + 1 := by unfold dlR; rw [(watR_W (okR_d3 hI) _ _ _).2, d3R_W]
theorem dlR_o {r : Rw} {j : Nat} (hj : j ≠ 10) (h1 : j ≠ 1) (hb : j < 48) : dlR r j = r j := by unfold dlR; rw [watR_o _ _ _ _ h1 (by omega), d3R_o _ hj]
section OPE
variable {d : Nat} {mem : wf_Mem} {P : Int32 → wf_Mem → Prop} {Q : wf_Mem → Prop} {r : Rw}
theorem c_drawn (hr : mem 121 = r) (h : ∀ m', RO mem m' → m' 121 = dzR r → P (shZ (zR r)) m') : Ci mX9_drawn d [.ref 120] mem P := by
  refine E_X9_drawn (fun m1 f1 => ?_)
  have e : m1 121 = dzR r := by rw [f1, ms121 hr, hr]; rfl
  have e2 : m1 121 10 = zR r := by rw [e]; exact updS _ _ _
  rw [e2]
  exact h m1 (by rw [f1]; exact RO.ms (Or.inl rfl)) e
theorem k_draw (hI : okR r) (hR : Rel 41 mem r) (h : ∀ m', Fr CO mem m' → Rel 41 m' (dzR r) → P (shZ (zR r)) m') : Ci mX0_draw d [.ref 41] mem P := by
  refine E_X0_draw _ sh41 (fun m1 f1 => ?_)
  rw [hR.at 10 (by decide) (by decide)] at f1
  have e2 : m1 41 10 = zR r := by rw [f1, msS]; rfl
  rw [e2]
  subst f1
  exact h _ (Fr.ms (by unfold CO; omega)) (hR.lo sh41 hI (by decide) (by decide) _)
/-- the reference's deal from some that came -/
theorem c_dealL (n : Nat) (hn : n ≤ 8) : ∀ (f c : Nat) (mem : wf_Mem) (r : Rw), mem 121 = r → okR r → n - c ≤ f → c ≤ n → (∀ m' e, c ≤ e → e ≤ n → e - c ≤ 8 - rW r → (e = n ∨ e - c = 8 - rW r) → RO mem m' → m' 121 = dlN r (e - c) → P (nI e) m') → Vw (Ni (d + 2) P) mX9_deal 17 [(0, .ref 120), (1, .int (nI n)), (2, .int (nI c))] [] mem
  | f, c, mem, r, hr, hI, hf, hc, h => by
    obtain ⟨hw, hw2⟩ := hI.w
    have ec : (nI n ≤ nI c) ↔ n ≤ c := nI_leI (by omega) (by omega)
    have e8 : (8 ≤ nI (rW r)) ↔ 8 ≤ rW r := nI_leI (a := 8) (by decide) (by omega)
    refine b_X9_deal_17 _ _ _ ?_
    rw [hr, hw, ec, e8]
    have stop : n = c ∨ rW r = 8 → P (nI c) mem := fun g => h mem c (Nat.le_refl _) hc (by omega) (by omega) RO.rf (by rw [Nat.sub_self]; exact hr)
    refine ⟨fun g => stop (by omega), fun g => ⟨fun g2 => stop (by omega), fun g2 => ?_⟩⟩
    refine c_drawn hr (fun m1 o1 e1 x ex => c_drawn e1 (fun m2 o2 e2 y ey => c_drawn e2 (fun m3 o3 e3 => ?_)))
    subst ex ey
    refine c_comes e3 (okR_d3 hI) (by show rW (d3R r) < 8; rw [d3R_W]; omega) _ _ _ (fun m4 o4 e4 => ?_)
    rw [nI_1]
    cases f with
    | zero => omega
    | succ f =>
      refine c_dealL n hn f (c + 1) m4 (dlR r) e4 (okR_dl hI (by omega)) (by omega) (by omega) (fun m' e q1 q2 q3 q4 ro em => ?_)
      rw [dlR_W hI] at q3 q4
      refine h m' e (by omega) q2 (by omega) (by omega) ((o1.tr (o2.tr (o3.tr o4))).tr ro) ?_
      rw [em]
      have : e - c = (e - (c + 1)) + 1 := by omega
      rw [this]
      have sw : ∀ (i : Nat), dlN (dlR r) i = dlN r (i + 1) := by
        intro i
        induction i with
        | zero => rfl
        | succ i ih => show dlR _ = dlR _; rw [ih]
      exact sw _
theorem R_deal (hr : mem 121 = r) (hI : okR r) (x : Int32) (h1 : ∀ n e, 1 ≤ n → n ≤ 8 → x = nI n → e = min n (8 - rW r) → ∀ m', RO mem m' → m' 121 = dlN r e → P (nI e) m') (h0 : ¬ (1 ≤ x ∧ x ≤ 8) → P (-1000000001) mem) : Ci mX9_deal (d + 3) [.ref 120, .int x] mem P := by
  refine E_X9_deal _ (c_isIn x 1 8 rfl rfl (fun a b => n1 ?_) (fun bad => n0 (h0 bad)))
  obtain ⟨n, hn, en⟩ := nI_bd (m := 8) (by grind) b (by decide)
  have h1n : 1 ≤ n := by
    rcases Nat.eq_zero_or_pos n with z | z
    · rw [z] at en; rw [en] at a; exact absurd a (by decide)
    · exact z
  rw [en]
  refine c_dealL n hn (n + 1) 0 mem r hr hI (by omega) (by omega) (fun m' e q1 q2 q3 q4 ro em => ?_)
  exact h1 n e h1n hn en (by omega) m' ro em
theorem k_dealL (n : Nat) (hn : n ≤ 8) (K : Int32 → wf_Mem → Prop) : ∀ (f c : Nat) (mem : wf_Mem) (r : Rw), Rel 41 mem r → okR r → n - c ≤ f → c ≤ n → n - c ≤ 8 - rW r → (∀ m', Fr CO mem m' → Rel 41 m' (dlN r (n - c)) → okR (dlN r (n - c)) → K (nI n) m') → Vw (Ni (d + 2) K) mX8_deal 30 [(0, .ref 0), (2, .int (nI n)), (3, .int (nI c))] [] mem
  | f, c, mem, r, hR, hI, hf, hc, hw, h => by
    have ec : (nI n ≤ nI c) ↔ n ≤ c := nI_leI (by omega) (by omega)
    refine b_X8_deal_30 _ _ _ ?_
    rw [ec]
    refine ⟨fun g => ?_, fun g => ?_⟩
    · have : n - c = 0 := by omega
      rw [this] at h
      exact h mem Fr.rf hR hI
    refine k_draw hI hR (fun m1 o1 e1 x ex => k_draw (okR_dz hI) e1 (fun m2 o2 e2 y ey => k_draw (okR_dz (okR_dz hI)) e2 (fun m3 o3 e3 z ez => ?_)))
    subst ex ey ez
    have hW : rW (d3R r) = rW r := d3R_W r
    refine k_hires (okR_d3 hI) e3 _ _ _ (fun lt m4 o4 e4 => ?_) (fun e => by rw [hW] at e; omega)
    rw [nI_1]
    cases f with
    | zero => omega
    | succ f =>
      refine k_dealL n hn K f (c + 1) m4 (dlR r) e4 (okR_dl hI (by omega)) (by omega) (by omega) (by rw [dlR_W hI]; omega) (fun m' ro em ok => ?_)
      have sw : ∀ (i : Nat), dlN (dlR r) i = dlN r (i + 1) := by
        intro i
        induction i with
        | zero => rfl
        | succ i ih => show dlR _ = dlR _; rw [ih]
      have q : n - c = (n - (c + 1)) + 1 := by omega
      rw [sw, ← q] at em ok
      exact h m' ((o1.tr (o2.tr (o3.tr o4))).tr ro) em ok
theorem dlN_o {r : Rw} {j : Nat} (hj : j ≠ 10) (h1 : j ≠ 1) (hb : j < 48) (n : Nat) : dlN r n j = r j := by
  induction n with
  | zero => rfl
  | succ n ih => exact (dlR_o hj h1 hb).trans ih
theorem L_deal (hI : INV mem) (x : Int32) : Agr (d + 20) mX8_deal mX9_deal [.int x] mem := by
  obtain ⟨hO, hB, hR⟩ := hI.1
  obtain ⟨hw, hw2⟩ := hO.w
  have bad : ¬ (1 ≤ x ∧ x ≤ 8) → Ci mX9_deal (d + 20) [.ref 120, .int x] mem (fun r2 m2 => -1000000001 = r2 ∧ INV m2) := fun hb =>
    R_deal rfl hO x (fun n e h1 h2 ex _ => absurd ⟨by rw [ex]; exact nI_le (a := 1) h1 (by omega), by rw [ex]; exact nI_le (b := 8) h2 (by decide)⟩ hb) (fun _ => ⟨rfl, hI⟩)
  refine E_X8_deal _ (k_within x 1 8 (fun a b => n1 (fun y ey => ?_)) (fun b => n0 (bad b)))
  obtain ⟨n, hn, en⟩ := nI_bd (m := 8) (by grind) b (by decide)
  have eY : y = nI (min n (8 - rW (mem 121))) := by
    have e1 : (8 : Int32) - mem 41 2 = nI (8 - rW (mem 121)) := by
      rw [hR.1.2.1, hw]; exact pk_sub (a := 8) hw2
    rw [ey, e1, en]
    have : (nI (8 - rW (mem 121)) < nI n) ↔ 8 - rW (mem 121) < n := nI_ltI (by omega) (by omega)
    by_cases g : 8 - rW (mem 121) < n
    · rw [if_pos (this.mpr g), Nat.min_eq_right (by omega)]
    · rw [if_neg (fun c => g (this.mp c)), Nat.min_eq_left (by omega)]
  rw [eY]
  refine k_dealL (min n (8 - rW (mem 121))) (by omega) _ 9 0 mem (mem 121) hR hO (by omega) (by omega) (by omega) (fun m1 hF hR1 ok1 => ?_)
  refine R_deal (CO.ref hF (by decide)) hO x (fun n' e q1 q2 ex ee m' ro em => ?_) (fun b' => absurd ⟨a, b⟩ b')
  have : n' = n := (nI_eq (by omega) (by omega)).mp (ex.symm.trans en)
  subst this
  subst ee
  refine ⟨rfl, hI.op hF ro hR1 em ok1 ?_ ?_⟩
  · unfold hb; rw [dlN_o (by decide) (by decide) (by decide)]; exact hB
  · unfold rT; rw [dlN_o (by decide) (by decide) (by decide)]; exact Nat.le_refl _
end OPE
