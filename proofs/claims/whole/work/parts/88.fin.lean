/-! the first memory has the invariant; all references are put -/
theorem m4_z (a j : Nat) (h : (a < 121 ∨ 121 < a) ∧ (a < 124 ∨ 124 < a)) : mdM 4 a j = slM 5 a j := by
  show wf_ms (wf_ms (wf_ms (wf_ms (wf_ms (wf_ms (wf_ms (wf_ms (slM 5) 121 10 1) 121 3 100) 121 4 3) 121 5 5) 124 0 (-1)) 124 1 (-1)) 124 2 (-1)) 124 3 (-1) a j = _
  rw [msA _ _ _ _ (by omega), msA _ _ _ _ (by omega), msA _ _ _ _ (by omega), msA _ _ _ _ (by omega), msA _ _ _ _ (by omega), msA _ _ _ _ (by omega), msA _ _ _ _ (by omega), msA _ _ _ _ (by omega)]
theorem m4_hi (a j : Nat) (h : 120 ≤ a) (h2 : a ≠ 121) (h3 : a ≠ 124) : mdM 4 a j = 0 := by
  rw [m4_z a j (by omega), slM_z 5 a (by omega)]
theorem inv0 : INV (mdM 4) := by
  have r0 : mdM 4 121 0 = 0 := by decide +kernel
  have r1 : mdM 4 121 1 = 0 := by decide +kernel
  have r2 : mdM 4 121 2 = 0 := by decide +kernel
  have r3 : mdM 4 121 3 = 100 := by decide +kernel
  have r4 : mdM 4 121 4 = 3 := by decide +kernel
  have r5 : mdM 4 121 5 = 5 := by decide +kernel
  have r6 : mdM 4 121 6 = 0 := by decide +kernel
  have eN : rN (mdM 4 121) = 0 := by unfold rN; rw [r0]; decide
  have eW : rW (mdM 4 121) = 0 := by unfold rW; rw [r1]; decide
  have eT : rT (mdM 4 121) = 0 := by unfold rT; rw [r2]; decide
  refine ⟨⟨?_, ?_, ?_⟩, ⟨?_, ?_, ?_⟩, fun k hk => ?_, fun k hk => ?_, ?_, ?_⟩
  · unfold okR
    rw [eN, eW, eT, r0, r1, r2, r3, r4, r5]
    exact ⟨⟨rfl, by decide⟩, ⟨rfl, by decide⟩, ⟨rfl, by decide⟩, ⟨by decide, by decide⟩, ⟨by decide, by decide⟩, ⟨by decide, by decide⟩, fun k hk => absurd hk (Nat.not_lt_zero _), fun k hk => absurd hk (Nat.not_lt_zero _), fun k hk => absurd hk (Nat.not_lt_zero _)⟩
  · unfold hb; rw [r6]; exact ⟨by decide, by decide⟩
  · refine ⟨?_, fun k hk => ?_, fun w hw => ?_, ?_, fun key hk => ?_, fun t ht => ?_⟩
    · decide +kernel
    · rw [eN] at hk; exact absurd hk (Nat.not_lt_zero _)
    · rw [eW] at hw; exact absurd hw (Nat.not_lt_zero _)
    · decide +kernel
    · rw [eT]
      have : key = 0 ∨ key = 1 ∨ key = 2 := by omega
      rcases this with rfl | rfl | rfl
      · show mdM 4 47 0 = orN (-1); decide +kernel
      · show mdM 4 47 1 = orN (-1); decide +kernel
      · show mdM 4 47 2 = orN (-1); decide +kernel
    · rw [eT] at ht; exact absurd ht (Nat.not_lt_zero _)
  · exact Or.inl (by decide +kernel)
  · decide +kernel
  · intro h; exact absurd h (by decide +kernel)
  · have hz : ∀ j, mdM 4 126 j = 0 := fun j => m4_hi 126 j (by decide) (by decide) (by decide)
    have hp : ∀ a, a = 93 ∨ a = 95 ∨ a = 97 ∨ a = 99 → ∀ j, mdM 4 a j = 0 := fun a ha j => by
      rw [m4_z a j (by omega)]
      rcases ha with rfl | rfl | rfl | rfl <;> rfl
    unfold shI
    refine ⟨?_, ?_, ?_, ⟨0, by decide, ?_⟩, fun j hj => ?_⟩
    · have : k = 0 ∨ k = 1 ∨ k = 2 ∨ k = 3 := by omega
      rcases this with rfl | rfl | rfl | rfl <;> decide +kernel
    · refine Or.inl ?_
      have : k = 0 ∨ k = 1 ∨ k = 2 ∨ k = 3 := by omega
      rcases this with rfl | rfl | rfl | rfl <;> decide +kernel
    · have : k = 0 ∨ k = 1 ∨ k = 2 ∨ k = 3 := by omega
      rcases this with rfl | rfl | rfl | rfl <;> decide +kernel
    · exact m4_hi 125 k (by decide) (by decide) (by decide)
    · rw [hz, hp _ (by omega) j]
      exact ⟨rfl, Or.inr ⟨by decide, by decide⟩⟩
  · have h127 : mdM 4 127 k = 0 := m4_hi 127 k (by decide) (by decide) (by decide)
    unfold slI
    rw [h127]
    refine ⟨?_, Or.inl rfl, fun q => absurd q (by decide), fun q => absurd q (by decide), fun q => absurd q (by decide)⟩
    have : k = 0 ∨ k = 1 ∨ k = 2 ∨ k = 3 ∨ k = 4 := by omega
    rcases this with rfl | rfl | rfl | rfl | rfl <;> decide +kernel
  · exact ⟨0, by decide, by decide +kernel, by decide +kernel, fun j hj => absurd hj (Nat.not_lt_zero _)⟩
  · exact ⟨0, by decide, by decide +kernel, by decide +kernel, fun j hj => absurd hj (Nat.not_lt_zero _)⟩
/-- every reference of the layout is put -/
def kall (g : kSet) : Bool := (List.range 139).all (fun a => if (wf_sh a).1 < 10 then (List.range (wf_N (wf_sh a).1)).all (fun k => (wf_rfl (wf_sh a).1 a k).isNone || g a k) else if (wf_sh a).1 = 20 then true else (List.range (wf_sh a).2).all (fun i => g a i))
set_option maxRecDepth 100000 in
theorem kall_ok : kall mdS = true := by decide +kernel
theorem arrV_cong {cI : ClassId} {N : Nat} {f f' : Nat → Value} (h : ∀ j, j < N → f j = f' j) : arrV cI N f = arrV cI N f' := by
  unfold arrV
  congr 1
  congr 1
  funext j
  exact h j.val j.isLt
theorem sh_kd : ∀ a, a < 139 → (wf_sh a).1 < 10 ∨ (wf_sh a).1 = 20 ∨ 20 < (wf_sh a).1 := by decide +kernel
theorem k_full {G : wf_G} {m : wf_Mem} {g : kSet} {H : Heap} (hg : kall g = true) (h : va_P G.1 vwCl (wf_kw G 139 m g) H) : va_P G.1 vwCl (wf_ws G m) H := by
  intro a q hq
  have ha : a < 139 := by
    have := (List.getElem?_eq_some_iff.mp hq).1
    rw [wf_ws_len] at this
    exact this
  rw [wf_ws_at ha] at hq
  cases hq
  have h1 := h a _ (k_at ha)
  have hga := List.all_eq_true.mp hg a (List.mem_range.mpr ha)
  generalize hs : wf_sh a = sh at hga
  obtain ⟨kd, n⟩ := sh
  have hk := sh_kd a ha
  rw [hs] at hk
  rcases hk with hk | hk | hk
  · have hk : kd < 10 := hk
    have hga' : (List.range (wf_N kd)).all (fun k => (wf_rfl kd a k).isNone || g a k) = true := by
      have : (if kd < 10 then (List.range (wf_N kd)).all (fun k => (wf_rfl kd a k).isNone || g a k) else _) = true := hga
      rw [if_pos hk] at this
      exact this
    rw [wf_K_obj hs hk] at h1
    rw [wf_E_obj hs hk]
    have e : (List.range (wf_N kd)).map (fun k => wf_tr G.2.2 (wf_vk (m a) (g a) kd a k)) = (List.range (wf_N kd)).map (fun k => wf_tr G.2.2 (wf_vl (m a) kd a k)) := by
      apply List.map_congr_left
      intro k hk2
      have := List.all_eq_true.mp hga' k hk2
      unfold wf_vk wf_vl
      cases hr : wf_rfl kd a k with
      | none => rfl
      | some b =>
        rw [hr] at this
        have : g a k = true := by simpa using this
        simp [this]
    rw [e] at h1
    exact h1
  · have hk : kd = 20 := hk
    subst hk
    rw [wf_K_int hs] at h1
    rw [wf_E_int hs]
    exact h1
  · have hk : 20 < kd := hk
    have hga' : (List.range n).all (fun i => g a i) = true := by
      have : (if kd < 10 then _ else if kd = 20 then true else (List.range n).all (fun i => g a i)) = true := hga
      rw [if_neg (by omega), if_neg (by omega)] at this
      exact this
    rw [wf_K_row hs hk] at h1
    rw [wf_E_row hs hk]
    have h2 : H[G.2.2 a]? = some (vp_cell (G.2.1 kd) (n, .inr (.inr (.inr (.inr (fun i => if g a i = true then some (G.2.2 (wf_el kd a i)) else none)))))) := h1
    show H[G.2.2 a]? = some (vp_cell (G.2.1 kd) (n, .inr (.inr (.inr (.inr (fun i => some (G.2.2 (wf_el kd a i))))))))
    rw [h2, vp_cell_q, vp_cell_q]
    congr 1
    refine arrV_cong (fun j hj => ?_)
    have := List.all_eq_true.mp hga' j (List.mem_range.mpr hj)
    rw [if_pos this]
