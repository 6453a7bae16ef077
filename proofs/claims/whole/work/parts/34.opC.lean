/-! one more watcher -/
def watR (r : Rw) (x y z : Int32) : Rw := upd (upd (upd (upd (upd (upd r (48 + 5 * rW r) x) (48 + 5 * rW r + 1) y) (48 + 5 * rW r + 2) z) (48 + 5 * rW r + 3) 0) (48 + 5 * rW r + 4) 0) 1 (r 1 + 1)
theorem watR_at (r : Rw) (x y z : Int32) (j : Nat) : watR r x y z j = if j = 1 then r 1 + 1 else if j = 48 + 5 * rW r + 4 then 0 else if j = 48 + 5 * rW r + 3 then 0 else if j = 48 + 5 * rW r + 2 then z else if j = 48 + 5 * rW r + 1 then y else if j = 48 + 5 * rW r then x else r j := by
  unfold watR
  simp only [upd]
theorem watR_o (r : Rw) (x y z : Int32) {j : Nat} (h0 : j ≠ 1) (h : j < 48 + 5 * rW r ∨ 48 + 5 * rW r + 4 < j) : watR r x y z j = r j := by
  rw [watR_at, if_neg h0, if_neg (by omega), if_neg (by omega), if_neg (by omega), if_neg (by omega), if_neg (by omega)]
theorem watR_W {r : Rw} (hI : okR r) (x y z : Int32) : watR r x y z 1 = nI (rW r + 1) ∧ rW (watR r x y z) = rW r + 1 := by
  obtain ⟨hn, hn2⟩ := hI.w
  have e : watR r x y z 1 = nI (rW r + 1) := by rw [watR_at, if_pos rfl, hn, nI_1]
  refine ⟨e, ?_⟩
  show (watR r x y z 1).toNatClampNeg = _
  rw [e, nI_clamp (by omega)]
theorem watR_new (r : Rw) (x y z : Int32) : watR r x y z (48 + 5 * rW r) = x ∧ watR r x y z (48 + 5 * rW r + 1) = y ∧ watR r x y z (48 + 5 * rW r + 2) = z ∧ watR r x y z (48 + 5 * rW r + 3) = 0 ∧ watR r x y z (48 + 5 * rW r + 4) = 0 := by
  have q0 : ¬ (48 + 5 * rW r = 1) := by omega
  have q1 : ¬ (48 + 5 * rW r + 1 = 1) := by omega
  have q2 : ¬ (48 + 5 * rW r + 2 = 1) := by omega
  have q3 : ¬ (48 + 5 * rW r + 3 = 1) := by omega
  have q4 : ¬ (48 + 5 * rW r + 4 = 1) := by omega
  refine ⟨?_, ?_, ?_, ?_, ?_⟩
  · rw [watR_at, if_neg q0, if_neg (by omega), if_neg (by omega), if_neg (by omega), if_neg (by omega), if_pos rfl]
  · rw [watR_at, if_neg q1, if_neg (by omega), if_neg (by omega), if_neg (by omega), if_pos rfl]
  · rw [watR_at, if_neg q2, if_neg (by omega), if_neg (by omega), if_pos rfl]
  · rw [watR_at, if_neg q3, if_neg (by omega), if_pos rfl]
  · rw [watR_at, if_neg q4, if_pos rfl]
theorem okR_wat {r : Rw} (hI : okR r) {x y z : Int32} (hn : rW r < 8) (hx : 0 ≤ x ∧ x ≤ 5) (hy : 0 ≤ y ∧ y ≤ 11) (hz : 1 ≤ z ∧ z ≤ 9) : okR (watR r x y z) := by
  obtain ⟨e0, eW⟩ := watR_W hI x y z
  have hn2 := hI.n.2
  have eN : rN (watR r x y z) = rN r := by unfold rN; rw [watR_o r x y z (by decide) (by omega)]
  have eT : rT (watR r x y z) = rT r := by unfold rT; rw [watR_o r x y z (by decide) (by omega)]
  unfold okR
  rw [eN, eW, eT, watR_o r x y z (j := 0) (by decide) (by omega), watR_o r x y z (j := 2) (by decide) (by omega), watR_o r x y z (j := 3) (by decide) (by omega), watR_o r x y z (j := 4) (by decide) (by omega), watR_o r x y z (j := 5) (by decide) (by omega)]
  refine ⟨hI.n, ⟨e0, by omega⟩, hI.t, hI.wood, hI.wolf, hI.hung, fun k hk => ?_, fun w hw => ?_, fun t ht => okT_congr (fun j hj => watR_o r x y z (by omega) (by omega)) (hI.tx ht)⟩
  · rw [watR_o r x y z (by omega) (by omega), watR_o r x y z (by omega) (by omega), watR_o r x y z (by omega) (by omega)]
    exact hI.wg hk
  · by_cases e : w = rW r
    · subst e
      obtain ⟨a, b, c, f, g⟩ := watR_new r x y z
      rw [a, b, c, f, g]
      exact ⟨hx, hy, hz, by decide, Or.inl rfl⟩
    · rw [watR_o r x y z (by omega) (by omega), watR_o r x y z (by omega) (by omega), watR_o r x y z (by omega) (by omega), watR_o r x y z (by omega) (by omega), watR_o r x y z (by omega) (by omega)]
      exact hI.wt (by omega)
theorem Rel_wat {m : wf_Mem} {r : Rw} (hI : okR r) (h : Rel 41 m r) (x y z : Int32) (hn : rW r < 8) {q : Nat} (hq : q = 41 + 5 + 4 + rW r) : Rel 41 (wf_ms (wf_ms (wf_ms (wf_ms (wf_ms (wf_ms m q 0 x) q 1 y) q 2 z) q 3 0) q 4 0) 41 2 (r 1 + 1)) (watR r x y z) := by
  obtain ⟨e0, eW⟩ := watR_W hI x y z
  have hn2 := hI.n.2
  have eN : rN (watR r x y z) = rN r := by unfold rN; rw [watR_o r x y z (by decide) (by omega)]
  generalize hM : wf_ms (wf_ms (wf_ms (wf_ms (wf_ms (wf_ms m q 0 x) q 1 y) q 2 z) q 3 0) q 4 0) 41 2 (r 1 + 1) = M
  have ho : ∀ a, a ≠ 41 → a ≠ q → M a = m a := fun a g1 g2 => by
    rw [← hM, wf_ms_other _ _ _ _ g1, wf_ms_other _ _ _ _ g2, wf_ms_other _ _ _ _ g2, wf_ms_other _ _ _ _ g2, wf_ms_other _ _ _ _ g2, wf_ms_other _ _ _ _ g2]
  have ho41 : ∀ j, j ≠ 2 → M 41 j = m 41 j := fun j g => by
    rw [← hM, msK _ _ _ _ g, msA _ _ _ _ (by omega), msA _ _ _ _ (by omega), msA _ _ _ _ (by omega), msA _ _ _ _ (by omega), msA _ _ _ _ (by omega)]
  have hlo : ∀ i, 3 ≤ i → i ≤ 10 → M 41 i = watR r x y z i := fun i a b => by
    rw [ho41 i (by omega), watR_o r x y z (by omega) (by omega)]; exact h.at i a b
  refine ⟨⟨?_, ?_, hlo 3 (by decide) (by decide), hlo 4 (by decide) (by decide), hlo 5 (by decide) (by decide), hlo 6 (by decide) (by decide), hlo 7 (by decide) (by decide), hlo 8 (by decide) (by decide), hlo 9 (by decide) (by decide), hlo 10 (by decide) (by decide)⟩, fun k hk => ?_, fun w hw j hj => ?_, ?_⟩
  · rw [ho 42 (by decide) (by omega), watR_o r x y z (by decide) (by omega)]; exact h.1.1
  · rw [← hM, msS, watR_at, if_pos rfl]
  · rw [eN] at hk
    rw [ho (41 + 1 + 1) (by decide) (by omega), ho (41 + 1 + 2) (by decide) (by omega), ho (41 + 1 + 3) (by decide) (by omega), watR_o r x y z (by omega) (by omega), watR_o r x y z (by omega) (by omega), watR_o r x y z (by omega) (by omega)]
    exact h.2.1 k hk
  · rw [eW] at hw
    by_cases e : w = rW r
    · subst e
      obtain ⟨a, b, c, f, g⟩ := watR_new r x y z
      have hq41 : ¬ (q = 41) := by omega
      rw [← hq]
      have : j = 0 ∨ j = 1 ∨ j = 2 ∨ j = 3 ∨ j = 4 := by omega
      rcases this with rfl | rfl | rfl | rfl | rfl
      · rw [Nat.add_zero, a, ← hM]; simp [wf_ms, hq41]
      · rw [b, ← hM]; simp [wf_ms, hq41]
      · rw [c, ← hM]; simp [wf_ms, hq41]
      · rw [f, ← hM]; simp [wf_ms, hq41]
      · rw [g, ← hM]; simp [wf_ms, hq41]
    · rw [ho _ (by omega) (by omega), watR_o r x y z (by omega) (by omega)]
      exact h.2.2.1 w (by omega) j hj
  · exact Rel_texts h.2.2.2 (watR_o r x y z (by decide) (by omega)) (fun j hj => watR_o r x y z (by omega) (by omega)) hI.t.2 (ho41 12 (by decide)) (ho 47 (by decide) (by omega)) (fun a g1 g2 => ho a (by omega) (by omega))
section OPC
variable {d : Nat} {mem : wf_Mem} {P : Int32 → wf_Mem → Prop} {Q : wf_Mem → Prop} {r : Rw}
theorem c_comes (hr : mem 121 = r) (hI : okR r) (hw : rW r < 8) (x y z : Int32) (h : ∀ m', RO mem m' → m' 121 = watR r x y z → Q m') : Cv mX9_comes d [.ref 120, .int x, .int y, .int z] mem Q := by
  obtain ⟨hn, hn2⟩ := hI.w
  refine E_X9_comes _ _ _ (fun v ev => ?_)
  rw [hr, hn, ixo0] at ev
  subst ev
  have i1 : nI (48 + 5 * rW r) + 1 = nI (48 + 5 * rW r + 1) := nI_1 _
  have i2 : nI (48 + 5 * rW r) + 2 = nI (48 + 5 * rW r + 2) := nI_add _ 2
  have i3 : nI (48 + 5 * rW r) + 3 = nI (48 + 5 * rW r + 3) := nI_add _ 3
  have i4 : nI (48 + 5 * rW r) + 4 = nI (48 + 5 * rW r + 4) := nI_add _ 4
  rw [i1, i2, i3, i4]
  refine ⟨vin (by omega), fun m1 f1 => ⟨vin (by omega), fun m2 f2 => ⟨vin (by omega), fun m3 f3 => ⟨vin (by omega), fun m4 f4 => ⟨vin (by omega), fun m5 f5 m6 f6 => ?_⟩⟩⟩⟩⟩
  rw [nI_clamp (by omega)] at f1 f2 f3 f4 f5
  have hm5 : m5 121 = upd (upd (upd (upd (upd r (48 + 5 * rW r) x) (48 + 5 * rW r + 1) y) (48 + 5 * rW r + 2) z) (48 + 5 * rW r + 3) 0) (48 + 5 * rW r + 4) 0 := by
    rw [f5, ms121]; rw [f4, ms121]; rw [f3, ms121]; rw [f2, ms121]; rw [f1, ms121 hr]
  have h51 : m5 121 1 = r 1 := by rw [hm5, updN _ _ (by omega), updN _ _ (by omega), updN _ _ (by omega), updN _ _ (by omega), updN _ _ (by omega)]
  rw [h51] at f6
  refine h m6 ?_ ?_
  · rw [f6, f5, f4, f3, f2, f1]
    exact (((RO.ms (Or.inl rfl)).tr (RO.ms (Or.inl rfl))).tr ((RO.ms (Or.inl rfl)).tr (RO.ms (Or.inl rfl)))).tr ((RO.ms (Or.inl rfl)).tr (RO.ms (Or.inl rfl)))
  · rw [f6, ms121 hm5]; rfl
theorem k_hires (hI : okR r) (hR : Rel 41 mem r) (x y z : Int32) (h1 : rW r < 8 → ∀ m', Fr CO mem m' → Rel 41 m' (watR r x y z) → P (nI (rW r)) m') (hF : rW r = 8 → P (-1000000003) mem) : Ci mX0_hires d [.ref 41, .int x, .int y, .int z] mem P := by
  obtain ⟨hn, hn2⟩ := hI.w
  refine E_X0_hires _ sh41 _ _ _ ?_
  have e8 : (nI (rW r) < 8) ↔ rW r < 8 := nI_ltI (b := 8) (by omega) (by decide)
  rw [hR.1.2.1, hn, e8]
  refine ⟨fun lt => ⟨vin lt, ?_⟩, fun ge => hF (by omega)⟩
  rw [nI_clamp (by omega)]
  intro m1 f1 m2 f2 m3 f3 m4 f4 m5 f5 m6 f6
  have hq : 41 + 5 + 4 + rW r ≠ 41 := by omega
  have g5 : m5 41 2 = r 1 := by
    rw [f5, msA _ _ _ _ (by omega), f4, msA _ _ _ _ (by omega), f3, msA _ _ _ _ (by omega), f2, msA _ _ _ _ (by omega), f1, msA _ _ _ _ (by omega)]
    exact hR.1.2.1
  rw [g5] at f6
  have g6 : m6 41 2 = nI (rW r + 1) := by rw [f6, msS, hn, nI_1]
  rw [g6, nI_pred]
  subst f1 f2 f3 f4 f5 f6
  refine h1 lt _ ?_ (Rel_wat hI hR x y z lt rfl)
  have fq : ∀ (m : wf_Mem) (k : Nat) (v : Int32), Fr CO m (wf_ms m (41 + 5 + 4 + rW r) k v) := fun m k v => Fr.ms (by unfold CO; omega)
  exact (((fq _ _ _).tr (fq _ _ _)).tr ((fq _ _ _).tr (fq _ _ _))).tr ((fq _ _ _).tr (Fr.ms (by unfold CO; omega)))
theorem k_isKind (x : Int32) (h1 : 0 ≤ x → x ≤ 5 → P 1 mem) (h0 : ¬ (0 ≤ x ∧ x ≤ 5) → P 0 mem) : Ci mX8_isKind (d + 1) [.int x] mem P :=
  E_X8_isKind _ (k_within x 0 5 (fun a b => bl1 (h1 a b)) (fun a => bl0 (h0 a)))
theorem k_hasWatcher {c : Nat} (hc : wf_sh c = (0, 0)) (x : Int32) (n : Nat) (hv : mem c 2 = nI n) (hn : n < 2 ^ 30) (h1 : ∀ k, k < n → x = nI k → P 1 mem) (h0 : (¬ ∃ k, k < n ∧ x = nI k) → P 0 mem) : Ci mX0_hasWatcher (d + 1) [.ref c, .int x] mem P :=
  E_X0_hasWatcher _ hc _ (k_rng x n hv hn (fun k a b => bl1 (h1 k a b)) (fun a => bl0 (h0 a)))
def gWat (x y z : Int32) : Prop := (0 ≤ x ∧ x ≤ 5) ∧ (0 ≤ y ∧ y ≤ 11) ∧ (1 ≤ z ∧ z ≤ 9)
theorem R_watcher (hr : mem 121 = r) (hI : okR r) (x y z : Int32) (h1 : gWat x y z → rW r < 8 → ∀ m', RO mem m' → m' 121 = watR r x y z → P (nI (rW r)) m') (hF : gWat x y z → rW r = 8 → P (-1000000003) mem) (h0 : ¬ gWat x y z → P (-1000000001) mem) : Ci mX9_watcher (d + 1) [.ref 120, .int x, .int y, .int z] mem P := by
  obtain ⟨hn, hn2⟩ := hI.w
  refine E_X9_watcher _ _ _ (c_isIn x 0 5 rfl rfl (fun a1 a2 => z1 (c_isIn y 0 11 rfl rfl (fun b1 b2 => z1 (c_isIn z 1 9 rfl rfl (fun c1 c2 => n1 ?_) (fun a => n0 (h0 (fun g => a g.2.2))))) (fun a => z0 (h0 (fun g => a g.2.1))))) (fun a => z0 (h0 (fun g => a g.1))))
  have e8 : (nI (rW r) = 8) ↔ rW r = 8 := nI_eq (b := 8) (by omega) (by decide)
  rw [hr, hn, e8]
  refine ⟨fun g => c_comes hr hI (by omega) x y z (fun m' ro e => ?_), fun g => hF ⟨⟨a1, a2⟩, ⟨b1, b2⟩, ⟨c1, c2⟩⟩ g⟩
  rw [e, (watR_W hI x y z).1, nI_pred]
  exact h1 ⟨⟨a1, a2⟩, ⟨b1, b2⟩, ⟨c1, c2⟩⟩ (by omega) m' ro e
theorem L_watcher (hI : INV mem) (x y z : Int32) : Agr (d + 20) mX8_watcher mX9_watcher [.int x, .int y, .int z] mem := by
  obtain ⟨hO, hB, hR⟩ := hI.1
  have hn2 := hO.w.2
  have bad : ¬ gWat x y z → Ci mX9_watcher (d + 20) [.ref 120, .int x, .int y, .int z] mem (fun r2 m2 => -1000000001 = r2 ∧ INV m2) := fun hb =>
    R_watcher rfl hO x y z (fun g => absurd g hb) (fun g => absurd g hb) (fun _ => ⟨rfl, hI⟩)
  refine E_X8_watcher _ _ _ (k_isKind x (fun a1 a2 => z1 (k_within y 0 11 (fun b1 b2 => z1 (k_within z 1 9 (fun c1 c2 => n1 ?_) (fun a => n0 (bad (fun g => a g.2.2))))) (fun a => z0 (bad (fun g => a g.2.1))))) (fun a => z0 (bad (fun g => a g.1))))
  have g : gWat x y z := ⟨⟨a1, a2⟩, ⟨b1, b2⟩, ⟨c1, c2⟩⟩
  refine k_hires hO hR x y z (fun lt m1 hF hR1 => ?_) (fun e8 => R_watcher rfl hO x y z (fun _ lt => absurd lt (by omega)) (fun _ _ => ⟨rfl, hI⟩) (fun b => absurd g b))
  refine R_watcher (CO.ref hF (by decide)) hO x y z (fun _ _ m' ro e => ⟨rfl, hI.op hF ro hR1 e (okR_wat hO lt g.1 g.2.1 g.2.2) ?_ ?_⟩) (fun _ e => absurd e (by omega)) (fun b => absurd g b)
  · unfold hb; rw [watR_o _ x y z (by decide) (by omega)]; exact hB
  · unfold rT; rw [watR_o _ x y z (by decide) (by omega)]; exact Nat.le_refl _
/-- told -/
def toV (r : Rw) (w j : Nat) : Int32 := if j < 5 then r (48 + 5 * w + j) else if j = 5 then seR r w else wtR (r (48 + 5 * w)) (r (48 + 5 * w + 2))
theorem R_told (hr : mem 121 = r) (hI : okR r) (x y : Int32) (h1 : ∀ w j, w < rW r → j < 7 → x = nI w → y = nI j → ∀ m', sc mem m' → P (toV r w j) m') (h0 : ¬ ((∃ w, w < rW r ∧ x = nI w) ∧ (∃ j, j < 7 ∧ y = nI j)) → P (-1000000001) mem) : Ci mX9_told (d + 6) [.ref 120, .int x, .int y] mem P := by
  obtain ⟨hw, hw2⟩ := hI.w
  have hm : mem 121 1 = nI (rW r) := by rw [hr]; exact hw
  refine E_X9_told _ _ (c_isWatcher (rW r) x hm (by omega) (fun w hw ew => z1 (c_isIn y 0 6 rfl rfl (fun a b => n1 ?_) (fun bad => n0 (h0 (fun ⟨_, j, hj, ej⟩ => bad (by rw [ej]; exact ⟨nI_pos' (by omega), nI_le (b := 6) (by omega) (by decide)⟩)))))) (fun bad => z0 (h0 (fun g => bad g.1))))
  obtain ⟨j, hj, ej⟩ := nI_bd (m := 6) a b (by decide)
  have h := h1 w j hw (by omega) ew ej
  unfold toV at h
  have e5 : (5 ≤ y) ↔ 5 ≤ j := by rw [ej]; exact nI_leI (a := 5) (by decide) (by omega)
  have e5' : (y = 5) ↔ j = 5 := by rw [ej]; exact nI_eq (b := 5) (by omega) (by decide)
  rw [e5, e5', ew]
  refine ⟨fun g => ⟨fun g2 => ?_, fun g2 => ?_⟩, fun g => ?_⟩
  · rw [if_neg (by omega), if_neg g2] at h
    refine c_worth (by omega) ?_
    rw [hr]; exact h mem sc.rf
  · rw [if_neg (by omega), if_pos g2] at h
    exact c_sees hr hI hw h
  · rw [if_pos (by omega)] at h
    rw [ej]
    refine c_of w j (by omega) ?_
    rw [hr]; exact h mem sc.rf
theorem k_worth {q : Nat} (hq : wf_sh q = (7, 0)) (h : P (wtR (mem q 0) (mem q 2)) mem) : Ci mX7_worth d [.ref q] mem P := by
  unfold wtR at h
  refine E_X7_worth _ hq ⟨fun c => ?_, fun c => ⟨fun c2 => ?_, fun c2 => ⟨fun c3 => ?_, fun c3 => ⟨fun c4 => ?_, fun c4 => ⟨fun c5 => ?_, fun c5 => ?_⟩⟩⟩⟩⟩
  · rw [if_pos c] at h; exact h
  · rw [if_neg c, if_pos c2] at h; exact h
  · rw [if_neg c, if_neg c2, if_pos c3] at h; exact h
  · rw [if_neg c, if_neg c2, if_neg c3, if_pos c4] at h
    have e : 20 - mem q 2 + 9 = 29 - mem q 2 := by grind
    rw [e]; exact h
  · rw [if_neg c, if_neg c2, if_neg c3, if_neg c4, if_pos c5] at h; exact h
  · rw [if_neg c, if_neg c2, if_neg c3, if_neg c4, if_neg c5] at h; exact h
theorem L_told (hI : INV mem) (x y : Int32) : Agr (d + 20) mX8_told mX9_told [.int x, .int y] mem := by
  obtain ⟨hO, hB, hR⟩ := hI.1
  obtain ⟨hw, hw2⟩ := hO.w
  have hm : mem 41 2 = nI (rW (mem 121)) := hR.1.2.1.trans hw
  have bad : ¬ ((∃ w, w < rW (mem 121) ∧ x = nI w) ∧ (∃ j, j < 7 ∧ y = nI j)) → Ci mX9_told (d + 20) [.ref 120, .int x, .int y] mem (fun r2 m2 => -1000000001 = r2 ∧ INV m2) := fun hb =>
    R_told rfl hO x y (fun k j hk hj ek ej => absurd ⟨⟨k, hk, ek⟩, ⟨j, hj, ej⟩⟩ hb) (fun _ => ⟨rfl, hI⟩)
  refine E_X8_told _ _ (k_hasWatcher sh41 x (rW (mem 121)) hm (by omega) (fun w hw ew => z1 (k_within y 0 6 (fun a b => n1 ?_) (fun b => n0 (bad (fun ⟨_, j, hj, ej⟩ => b (by rw [ej]; exact ⟨nI_pos' (by omega), nI_le (b := 6) (by omega) (by decide)⟩)))))) (fun b => z0 (bad (fun g => b g.1))))
  obtain ⟨j, hj, ej⟩ := nI_bd (m := 6) a b (by decide)
  have good : ∀ (m1 : wf_Mem) (v : Int32), Fr CO mem m1 → Rel 41 m1 (mem 121) → v = toV (mem 121) w j → Ci mX9_told (d + 20) [.ref 120, .int x, .int y] m1 (fun r2 m2 => v = r2 ∧ INV m2) := fun m1 v hF hR1 ev =>
    R_told (CO.ref hF (by decide)) hO x y (fun k' j' g1 g2 g3 g4 m' hs => by
      have e1 : k' = w := (nI_eq (by omega) (by omega)).mp (g3.symm.trans ew)
      have e2 : j' = j := (nI_eq (by omega) (by omega)).mp (g4.symm.trans ej)
      subst e1 e2
      exact ⟨ev, hI.rd hF hs.ro hR1 (hs.s.trans (CO.ref hF (by decide)))⟩) (fun b' => absurd ⟨⟨w, hw, ew⟩, ⟨j, by omega, ej⟩⟩ b')
  have ex : x.toNatClampNeg = w := by rw [ew, nI_clamp (by omega)]
  have rd : ∀ i, i < 5 → mem (46 + 4 + w) i = mem 121 (48 + 5 * w + i) := fun i hi => hR.2.2.1 w hw i hi
  have sm : ∀ i : Nat, i < 5 → y = nI i → Ci mX9_told (d + 20) [.ref 120, .int x, .int y] mem (fun r2 m2 => mem (46 + 4 + w) i = r2 ∧ INV m2) := fun i hi ei => by
    have : i = j := (nI_eq (by omega) (by omega)).mp (ei.symm.trans ej)
    subst this
    exact good mem _ Fr.rf hR (by rw [rd i hi]; unfold toV; rw [if_pos hi])
  rw [ex]
  refine ⟨by rw [ew]; exact vin (by omega), fun e => sm 0 (by decide) e, fun c0 => ⟨fun e => sm 1 (by decide) e, fun c1 => ⟨fun e => sm 2 (by decide) e, fun c2 => ⟨fun e => sm 3 (by decide) e, fun c3 => ⟨fun e => sm 4 (by decide) e, fun c4 => ⟨fun e => ?_, fun c5 => ?_⟩⟩⟩⟩⟩⟩
  · have hj5 : j = 5 := (nI_eq (b := 5) (by omega) (by decide)).mp (ej.symm.trans e)
    refine k_measure sh41 hO hR (fun m1 f1 G => k_sightOf sh41 hO (hR.sm sh41 hO f1) hw (fun k hk => (G k hk).1) (good m1 _ (CO.m41 f1) (hR.sm sh41 hO f1) ?_))
    unfold toV; rw [if_neg (by omega), if_pos hj5]
  · have hj6 : j = 6 := by
      have h : j = 0 ∨ j = 1 ∨ j = 2 ∨ j = 3 ∨ j = 4 ∨ j = 5 ∨ j = 6 := by omega
      rcases h with rfl | rfl | rfl | rfl | rfl | rfl | h
      · exact absurd ej c0
      · exact absurd ej c1
      · exact absurd ej c2
      · exact absurd ej c3
      · exact absurd ej c4
      · exact absurd ej c5
      · exact h
    refine k_worth (sh_r22 (a := 46) rfl (by omega)) (good mem _ Fr.rf hR ?_)
    rw [rd 0 (by decide), rd 2 (by decide), Nat.add_zero]
    unfold toV; rw [if_neg (by omega), if_neg (by omega)]
end OPC
