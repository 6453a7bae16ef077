/-! place -/
section OPI
variable {d : Nat} {mem : wf_Mem} {P : Int32 → wf_Mem → Prop} {Q : wf_Mem → Prop} {r : Rw}
theorem place_loop (hI : okR r) {w n : Nat} (hw : w < rW r) (hn : n ≤ 60) (h : ∀ m', RO mem m' → m' 121 = r → P (orN (amA (plG r w n) (rN r)).1) m') : ∀ (f k : Nat) (m : wf_Mem), rN r - k ≤ f → k ≤ rN r → RO mem m → (∀ j, j < 88 → m 132 j = r j) → m 121 = r → Vw (Ni (d + 10) P) mX9_place 35 [(0, .ref 120), (1, .int (nI w)), (2, .int (nI n)), (3, .int (amA (plG r w n) k).1), (4, .int (amA (plG r w n) k).2), (5, .int (nI k))] [] m
  | f, k, m, hf, hk, ho, hb, em => by
    obtain ⟨hn1, hn2⟩ := hI.n
    have hw2 := hI.w.2
    have ec : (nI (rN r) ≤ nI k) ↔ rN r ≤ k := nI_leI (by omega) (by omega)
    have i1 : (48 + 5 * nI w) + 1 = nI (48 + 5 * w + 1) := ixo w 1
    have i4 : (48 + 5 * nI w) + 4 = nI (48 + 5 * w + 4) := ixo w 4
    refine b_X9_place_35 _ _ _ _ _ _ ?_
    rw [em, hn1, ec, i1, i4]
    refine ⟨fun g => ?_, fun g => ⟨vin (by omega), fun m1 f1 => ⟨vin (by omega), fun m2 f2 => ?_⟩⟩⟩
    · have e : k = rN r := by omega
      rw [e]
      exact c_orNone _ (h m ho em)
    · rw [nI_clamp (by omega)] at f1 f2
      have e2 : m2 121 = plR2 r w k := by rw [f2, ms121 (r := upd r (48 + 5 * w + 1) (nI k)) (by rw [f1, ms121 em])]; rfl
      have o2 : RO mem m2 := by rw [f2, f1]; exact ho.tr ((RO.ms (Or.inl rfl)).tr (RO.ms (Or.inl rfl)))
      have b2 : ∀ j, j < 88 → m2 132 j = r j := fun j hj => by rw [f2, f1, msA _ _ _ _ (by decide), msA _ _ _ _ (by decide)]; exact hb j hj
      have hp := plR2_ok hI (w := w) (k := k) (by omega) (by omega)
      refine c_goesOnMany n (by omega) e2 hp.1 (fun m3 o3 e3 v ev => ?_)
      rw [e3] at ev
      have ev' : v = plG r w n k := ev
      have b3 : ∀ j, j < 88 → m3 132 j = r j := fun j hj => by rw [o3.1 132 (by decide) (by decide) (by decide) (by decide)]; exact b2 j hj
      refine c_laysBack (r := r) b3 (fun j hj => by rw [e3]; exact ((hrN_ok hp.1 n).2.2.2.2 j hj).trans (hp.2.2.2.2 j hj)) (fun m4 o4 e4 k4 => ?_)
      have b4 : ∀ j, j < 88 → m4 132 j = r j := fun j hj => by rw [k4]; exact b3 j hj
      have o5 : RO mem m4 := o2.tr (o3.ro.tr o4)
      rw [show nI k + 1 = nI (k + 1) from nI_1 k]
      cases f with
      | zero => omega
      | succ f =>
        have nx := place_loop hI hw hn h f (k + 1) m4 (by omega) (by omega) o5 b4 e4
        have un : amA (plG r w n) (k + 1) = if (amA (plG r w n) k).1 < 0 then (nI k, plG r w n k) else if (amA (plG r w n) k).2 ≤ plG r w n k then amA (plG r w n) k else (nI k, plG r w n k) := rfl
        rw [un] at nx
        rw [ev']
        refine ⟨fun c => ?_, fun c => ⟨fun c2 => ?_, fun c2 => ?_⟩⟩
        · rw [if_pos c] at nx; exact nx
        · rw [if_neg c, if_pos c2] at nx; exact nx
        · rw [if_neg c, if_neg c2] at nx; exact nx
theorem R_place (hr : mem 121 = r) (hI : okR r) (x y : Int32) (h1 : ∀ w n, w < rW r → n ≤ 60 → x = nI w → y = nI n → 1 ≤ y ∧ y ≤ 60 → ∀ m', RO mem m' → m' 121 = r → P (orN (amA (plG r w n) (rN r)).1) m') (h0 : ¬ ((∃ w, w < rW r ∧ x = nI w) ∧ 1 ≤ y ∧ y ≤ 60) → P (-1000000001) mem) : Ci mX9_place (d + 11) [.ref 120, .int x, .int y] mem P := by
  obtain ⟨hw1, hw2⟩ := hI.w
  have hm : mem 121 1 = nI (rW r) := by rw [hr]; exact hw1
  refine E_X9_place _ _ (c_isWatcher (rW r) x hm (by omega) (fun w hw ew => z1 (c_isIn y 1 60 rfl rfl (fun b1 b2 => n1 (c_laysBy hr (fun m1 o1 e1 k1 => ?_))) (fun bad => n0 (h0 (fun g => bad g.2))))) (fun bad => z0 (h0 (fun g => bad g.1))))
  obtain ⟨n, hn, en⟩ := nI_bd (m := 60) (by grind) b2 (by decide)
  have h := h1 w n hw hn ew en ⟨b1, b2⟩
  rw [ew, en]
  exact place_loop (d := d + 1) hI hw hn (fun m' ro e => h m' ro e) 12 0 m1 (by have := hI.n.2; omega) (by omega) o1 k1 e1
theorem kplace_loop (hI : okR r) {w n : Nat} (hw : w < rW r) (hn : n ≤ 60) (h : ∀ m', Fr CO mem m' → Rel 41 m' r → P (orN (amA (plG r w n) (rN r)).1) m') : ∀ (f k : Nat) (m : wf_Mem) (x3 x4 : Int32), rN r - k ≤ f → k ≤ rN r → Fr CO mem m → Rel 41 m r → x3 = orN (amA (plG r w n) k).1 → (0 < k → x4 = (amA (plG r w n) k).2) → Vw (Ni (d + 10) P) mX8_place 33 [(0, .ref 0), (1, .int (nI w)), (2, .int (nI n)), (3, .int x3), (4, .int x4), (5, .int (nI k))] [] m
  | f, k, m, x3, x4, hf, hk, ho, hR, h3, h4 => by
    obtain ⟨hn1, hn2⟩ := hI.n
    have hw2 := hI.w.2
    have ec : (nI (rN r) ≤ nI k) ↔ rN r ≤ k := nI_leI (by omega) (by omega)
    have hm : m 42 0 = nI (rN r) := hR.1.1.trans hn1
    refine b_X8_place_33 _ _ _ _ _ _ ?_
    rw [hm, ec, nI_clamp (by omega)]
    refine ⟨fun g => ?_, fun g => k_takeFrom sh75 sh41 (by decide) hI hR (fun m1 f1 R1 => ⟨vin (by omega), fun m2 f2 => ⟨vin (by omega), fun m3 f3 => ?_⟩⟩)⟩
    · have e : k = rN r := by omega
      rw [h3, e]
      exact h m ho hR
    · subst f2 f3
      have hp := plR2_ok hI (w := w) (k := k) (by omega) (by omega)
      have ok1 : okR (upd r (48 + 5 * w + 1) (nI k)) := okR_wt hI (w := w) (j := 1) (by omega) (by decide) ⟨fun h => absurd h (by decide), fun _ => ⟨nI_pos' (by omega), nI_le (b := 11) (by omega) (by decide)⟩, fun h => absurd h (by decide), fun h => absurd h (by decide), fun h => absurd h (by decide)⟩
      have R2 : Rel 75 (wf_ms m1 (80 + 4 + w) 1 (nI k)) (upd r (48 + 5 * w + 1) (nI k)) := R1.wt sh75 hI (by omega) (by decide) (nI k)
      have R3 : Rel 75 (wf_ms (wf_ms m1 (80 + 4 + w) 1 (nI k)) (80 + 4 + w) 4 1) (plR2 r w k) := R2.wt sh75 ok1 (by omega) (by decide) 1
      have f3 : Fr (SD 75) m1 (wf_ms (wf_ms m1 (80 + 4 + w) 1 (nI k)) (80 + 4 + w) 4 1) := (Fr.ms (by unfold SD; omega)).tr (Fr.ms (by unfold SD; omega))
      refine k_pass sh75 hp.1 R3 n (by omega) (fun m4 f4 R4 _ => ?_)
      have o4 : Fr CO mem m4 := ho.tr ((CO.d75 f1).tr ((CO.d75 f3).tr (CO.c75 f4)))
      have hR4 : Rel 41 m4 r := keep_c hI (keep_d hI (keep_d hI hR f1) f3) f4
      have ev : m4 75 8 = plG r w n k := R4.at 8 (by decide) (by decide)
      rw [ev, show nI k + 1 = nI (k + 1) from nI_1 k]
      obtain ⟨s1, s2⟩ := am_st (plG r w n) (k := k) (by omega) h3 h4
      cases f with
      | zero => omega
      | succ f =>
        refine ⟨fun c v ev => ?_, fun c => ⟨fun c2 => ?_, fun c2 v ev => ?_⟩⟩
        · exact kplace_loop hI hw hn h f (k + 1) m4 _ _ (by omega) (by omega) o4 hR4 (s1 c).1 (fun _ => ev.trans (s1 c).2)
        · exact kplace_loop hI hw hn h f (k + 1) m4 _ _ (by omega) (by omega) o4 hR4 ((s2 c).1 c2).1 (fun _ => ((s2 c).1 c2).2)
        · exact kplace_loop hI hw hn h f (k + 1) m4 _ _ (by omega) (by omega) o4 hR4 ((s2 c).2 c2).1 (fun _ => ev.trans ((s2 c).2 c2).2)
theorem L_place (hI : INV mem) (x y : Int32) : Agr (d + 20) mX8_place mX9_place [.int x, .int y] mem := by
  obtain ⟨hO, hB, hR⟩ := hI.1
  obtain ⟨hw1, hw2⟩ := hO.w
  have hm : mem 41 2 = nI (rW (mem 121)) := hR.1.2.1.trans hw1
  have bad : ¬ ((∃ w, w < rW (mem 121) ∧ x = nI w) ∧ 1 ≤ y ∧ y ≤ 60) → Ci mX9_place (d + 20) [.ref 120, .int x, .int y] mem (fun r2 m2 => -1000000001 = r2 ∧ INV m2) := fun hb =>
    R_place rfl hO x y (fun w n a _ ex _ gg => absurd ⟨⟨w, a, ex⟩, gg⟩ hb) (fun _ => ⟨rfl, hI⟩)
  refine E_X8_place _ _ (k_hasWatcher sh41 x (rW (mem 121)) hm (by omega) (fun w hw ew => z1 (k_within y 1 60 (fun b1 b2 => n1 ?_) (fun b => n0 (bad (fun g => b g.2))))) (fun b => z0 (bad (fun g => b g.1))))
  obtain ⟨n, hn, en⟩ := nI_bd (m := 60) (by grind) b2 (by decide)
  have gg : (∃ w, w < rW (mem 121) ∧ x = nI w) ∧ 1 ≤ y ∧ y ≤ 60 := ⟨⟨w, hw, ew⟩, b1, b2⟩
  rw [en, ew] at gg ⊢
  refine kplace_loop (mem := mem) (d := d + 10) hO hw hn (fun m2 hF R2 => ?_) 12 0 mem (-1000000005) 0 (by have := hO.n.2; omega) (by omega) Fr.rf hR (show _ = orN (-1) by decide) (fun c => by omega)
  refine R_place (CO.ref hF (by decide)) hO _ _ (fun w' n' q1 q2 q3 q4 _ m' ro em => ?_) (fun b' => absurd gg b')
  have e1 : n' = n := (nI_eq (by omega) (by omega)).mp q4.symm
  have e2 : w' = w := (nI_eq (by omega) (by omega)).mp q3.symm
  subst e1 e2
  exact ⟨rfl, hI.rd hF ro R2 em⟩
end OPI
