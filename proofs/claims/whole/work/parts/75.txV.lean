/-! text -/
theorem mrun_bd {t : Nat → Int32} {n : Nat} {key : Int32} {b : Nat} : ∀ (f : Nat) (st : List Int32) (o : List (Int32 × Int32)) (par nots : Nat) (want : Bool) (B : Nat), B ≤ n → mrun t n key f st o par nots want B = .inl b → b ≤ n
  | 0, st, o, par, nots, want, B, h, e => by
    have : B = b := Sum.inl.inj e
    omega
  | f + 1, st, o, par, nots, want, B, h, e => by
    unfold mrun at e
    by_cases c : B < n
    · rw [if_pos c] at e
      have nb := nxB_bd (t := t) c
      generalize mstep t n key st o par nots want B = q at e
      cases q with
      | none =>
        have : B = b := Sum.inl.inj e
        omega
      | some q => exact mrun_bd f _ _ _ _ _ _ nb.2 e
    · rw [if_neg c] at e
      split at e
      · have : B = b := Sum.inl.inj e
        omega
      · cases e
theorem TXr.bd {t : Nat → Int32} {n : Nat} {κ : Int32} {b : Nat} (h : TXr t n κ (.inl b)) : b ≤ n := by
  have bd := tx_bd t n
  rcases h with ⟨_, _, e⟩ | ⟨_, e⟩
  · have : b = tx0 t n := Sum.inl.inj e
    omega
  · split at e
    · have : b = tx2 t n := Sum.inl.inj e
      omega
    · exact mrun_bd _ _ _ _ _ _ _ bd.2.2.2.2 e.symm
section TXV
variable {d : Nat} {mem : wf_Mem} {P : Int32 → wf_Mem → Prop} {Q : wf_Mem → Prop}
theorem L_text (hI : INV mem) : Agr (d + 80) mX8_text mX9_text [] mem := by
  obtain ⟨hO, hB, hR⟩ := hI.1
  obtain ⟨n, hn, t1, t2, t3⟩ := hI.2.2.2.2.2
  obtain ⟨κ, R, hT⟩ := TXr.ex (fun j => mem 133 j) n
  have hT0 := hO.t
  have q12 : mem 41 12 = nI (rT (mem 121)) := hR.2.2.2.1.trans hT0.1
  have eIf : (if 14 < mem 41 12 then (14 : Int32) else mem 41 12) = nI (rT (mem 121)) := by
    rw [q12]
    have : (14 < nI (rT (mem 121))) ↔ 14 < rT (mem 121) := nI_ltI (a := 14) (by decide) (by omega)
    rw [if_neg (fun q => by have := this.mp q; omega)]
  have hx : wf_sh (10 + 1 + 2 * rT (mem 121)) = (2, 0) := sh_r21 sh_a10 (by omega)
  refine E_X8_text (d := d + 79) ?_
  rw [eIf, nI_clamp (by omega)]
  generalize ex : 10 + 1 + 2 * rT (mem 121) = x at *
  have hx3 : 5 < x := by omega
  have hx4 : x ≤ 39 := by omega
  refine ⟨vin (by omega), k_readInto (d := d + 72) (t := fun j => mem 133 j) hx hx3 hn t1 (fun j hj => (t3 j hj).1) hT (fun b m1 eR r1 m2 f2 => ?_) (fun o m1 eR r1 o1 m2 f2 => ?_)⟩
  · have u2 : ∀ a, a ≠ x → a ≠ x + 1 → a ≠ 3 → a ≠ 5 → m2 a = mem a := fun a g1 g2 g3 g4 => by rw [f2, wf_ms_other _ _ _ _ g3, r1.1 a g1 g2 g3 g4]
    have hb96 : b < 2 ^ 31 := by
      rw [eR] at hT
      have := hT.bd
      omega
    refine ⟨fun q => absurd q (Int32.not_lt.mpr (nI_pos' hb96)), fun _ => ?_⟩
    refine E_X9_text (d := d + 79) (c_parse (d := d + 9) (n := n) (t := fun j => mem 133 j) hn ?_ (fun j hj => ?_) hT0.2 ?_ hT (fun b' m3 eR' fy e17 => ?_) (fun δ m3 eR' => ?_))
    · rw [u2 120 (by omega) (by omega) (by decide) (by decide)]; exact t2
    · rw [u2 133 (by omega) (by omega) (by decide) (by decide)]
    · rw [u2 121 (by omega) (by omega) (by decide) (by decide)]; exact hT0.1
    · rw [eR] at eR'
      cases eR'
      refine ⟨fun q => absurd q (by decide), fun _ => ⟨by rw [e17], ?_⟩⟩
      refine INV_textF hI ex.symm (fun j hj => ?_) (fun a g1 g2 g3 g4 g5 g6 => ?_) (fun j hj => ?_) ?_ fy.2.2.1
      · rw [fy.2.2.2 j (by have := txA_ge hT0.2; omega), u2 121 (by omega) (by omega) (by decide) (by decide)]
      · rw [fy.1 a g5 g6, u2 a g1 g2 g3 g4]
      · rw [fy.2.1 j hj, u2 120 (by omega) (by omega) (by decide) (by decide)]
      · rw [fy.1 3 (by decide) (by decide), f2, msS]
    · rw [eR] at eR'; cases eR'
  · have u2 : ∀ a, a ≠ x → a ≠ x + 1 → a ≠ 3 → a ≠ 5 → m2 a = mem a := fun a g1 g2 g3 g4 => by rw [f2, wf_ms_other _ _ _ _ g3, r1.1 a g1 g2 g3 g4]
    have e41 : m2 41 = mem 41 := u2 41 (by omega) (by omega) (by decide) (by decide)
    have O2 : OU x κ o m2 := o1.go (by rw [f2, wf_ms_other _ _ _ _ (by omega)]) (by rw [f2, wf_ms_other _ _ _ _ (by omega)])
    have ec : (nI (rT (mem 121)) < 14) ↔ rT (mem 121) < 14 := nI_ltI (b := 14) (by omega) (by decide)
    have e14 : (nI (rT (mem 121)) = 14) ↔ rT (mem 121) = 14 := nI_eq (b := 14) (by omega) (by decide)
    refine ⟨fun _ => ?_, fun q => absurd (by decide) q⟩
    rw [e41, q12, ec]
    refine ⟨fun g => ?_, fun g => ?_⟩
    · have hκ : κ = 0 ∨ κ = 1 ∨ κ = 2 := by
        rcases hT with ⟨_, _, z⟩ | ⟨z, _⟩
        · rw [eR] at z; cases z
        · exact z.k
      rw [O2.1]
      refine ⟨by rcases hκ with rfl | rfl | rfl; exact vin (n := 0) (by decide); exact vin (n := 1) (by decide); exact vin (n := 2) (by decide), fun m3 f3 m4 f4 => ?_⟩
      have e3 : m3 41 12 = nI (rT (mem 121)) := by rw [f3, msA _ _ _ _ (by decide), e41, q12]
      rw [e3, nI_1] at f4
      rw [e3]
      have u4 : ∀ a, a ≠ x → a ≠ x + 1 → a ≠ 3 → a ≠ 5 → a ≠ 41 → a ≠ 47 → m4 a = mem a := fun a g1 g2 g3 g4 g5 g6 => by rw [f4, wf_ms_other _ _ _ _ g5, f3, wf_ms_other _ _ _ _ g6, u2 a g1 g2 g3 g4]
      refine E_X9_text (d := d + 79) (c_parse (d := d + 9) (n := n) (t := fun j => mem 133 j) hn ?_ (fun j hj => ?_) hT0.2 ?_ hT (fun b' m5 eR' => ?_) (fun δ m5 eR' fy ld hd hl _ => ?_))
      · rw [u4 120 (by omega) (by omega) (by decide) (by decide) (by decide) (by decide)]; exact t2
      · rw [u4 133 (by omega) (by omega) (by decide) (by decide) (by decide) (by decide)]
      · rw [u4 121 (by omega) (by omega) (by decide) (by decide) (by decide) (by decide)]; exact hT0.1
      · rw [eR] at eR'; cases eR'
      · rw [eR] at eR'
        cases eR'
        have hA : txA (rT (mem 121)) = 88 + 200 * rT (mem 121) + 4 := by unfold txA; rw [if_pos g]
        rw [hA] at fy ld
        have lo : ∀ j, j < 88 + 200 * rT (mem 121) + 4 → m5 121 j = mem 121 j := fun j hj => by rw [fy.2.2.2 j hj, u4 121 (by omega) (by omega) (by decide) (by decide) (by decide) (by decide)]
        have e2 : m5 121 2 = nI (rT (mem 121)) := by rw [lo 2 (by omega)]; exact hT0.1
        have eV : (88 : Int32) + 200 * nI (rT (mem 121)) = nI (88 + 200 * rT (mem 121)) := by rw [show (200 : Int32) = nI 200 from rfl, nI_mul, show (88 : Int32) = nI 88 from rfl, nI_add]
        rw [e2, e14]
        refine ⟨fun _ => ⟨fun _ => E_X9_textAt _ ?_, fun q => by omega⟩, fun q => absurd (by rcases hκ with rfl | rfl | rfl <;> decide) q⟩
        rw [eV, show nI (88 + 200 * rT (mem 121)) + 0 = nI (88 + 200 * rT (mem 121)) from Int32.add_zero _, nI_1, show nI (88 + 200 * rT (mem 121)) + 2 = nI (88 + 200 * rT (mem 121) + 2) from nI_add _ 2, nI_clamp (by omega), nI_clamp (by omega), nI_clamp (by omega)]
        refine ⟨vin (by omega), fun m6 f6 => ⟨vin (by omega), fun m7 f7 => ⟨vin (by omega), fun m8 f8 m9 f9 => ?_⟩⟩⟩
        have a26 : m6 120 26 = nI (lvs o) := by rw [f6, msA _ _ _ _ (by decide)]; exact ld.2.1
        have a24 : m7 120 24 = nI o.length := by rw [f7, msA _ _ _ _ (by decide), f6, msA _ _ _ _ (by decide)]; exact ld.1
        rw [a26] at f7
        rw [a24] at f8
        have a2 : m8 121 2 = nI (rT (mem 121)) := by rw [f8, msK _ _ _ _ (by omega), f7, msK _ _ _ _ (by omega), f6, msK _ _ _ _ (by omega)]; exact e2
        rw [a2, nI_1] at f9
        have w : ∀ j, j ≠ 2 → j ≠ 88 + 200 * rT (mem 121) → j ≠ 88 + 200 * rT (mem 121) + 1 → j ≠ 88 + 200 * rT (mem 121) + 2 → m9 121 j = m5 121 j := fun j h1 h2 h3 h4 => by rw [f9, msK _ _ _ _ h1, f8, msK _ _ _ _ h4, f7, msK _ _ _ _ h3, f6, msK _ _ _ _ h2]
        have wo : ∀ a, a ≠ 121 → m9 a = m5 a := fun a ha => by rw [f9, wf_ms_other _ _ _ _ ha, f8, wf_ms_other _ _ _ _ ha, f7, wf_ms_other _ _ _ _ ha, f6, wf_ms_other _ _ _ _ ha]
        have w2 : m9 121 2 = nI (rT (mem 121) + 1) := by rw [f9, msS]
        refine ⟨by rw [w2, nI_pred], ?_⟩
        refine INV_textS (κ := κ) (δ := o) hI ex.symm g hκ hd (by omega) (fun j h1 h2 => ?_) w2 ?_ ?_ ?_ (fun i hi => ?_) (fun a g1 g2 g3 g4 g5 g6 g7 g8 => ?_) ?_ (fun j hj => ?_) ?_ (fun j => ?_) (fun j hj => ?_) ?_ ?_
        · rw [w j h1 (by omega) (by omega) (by omega), lo j (by omega)]
        · rw [f9, msK _ _ _ _ (by omega), f8, msK _ _ _ _ (by omega), f7, msK _ _ _ _ (by omega), f6, msS]
        · rw [f9, msK _ _ _ _ (by omega), f8, msK _ _ _ _ (by omega), f7, msS]
        · rw [f9, msK _ _ _ _ (by omega), f8, msS]
        · have := ld.2.2.2 i hi
          unfold stR
          rw [w _ (by omega) (by omega) (by omega) (by omega), w _ (by omega) (by omega) (by omega) (by omega), this.1, this.2]
        · rw [wo a g8, fy.1 a g7 g8, u4 a g1 g2 g3 g4 g5 g6]
        · refine O2.go ?_ ?_
          · rw [wo x (by omega), fy.1 x (by omega) (by omega), f4, wf_ms_other _ _ _ _ (by omega), f3, wf_ms_other _ _ _ _ (by omega)]
          · rw [wo (x + 1) (by omega), fy.1 (x + 1) (by omega) (by omega), f4, wf_ms_other _ _ _ _ (by omega), f3, wf_ms_other _ _ _ _ (by omega)]
        · rw [wo 41 (by decide), fy.1 41 (by decide) (by decide), f4, msK _ _ _ _ hj, f3, msA _ _ _ _ (by decide), e41]
        · rw [wo 41 (by decide), fy.1 41 (by decide) (by decide), f4, msS]
        · rw [wo 47 (by decide), fy.1 47 (by decide) (by decide), f4, msA _ _ _ _ (by decide), f3]
          by_cases z : j = κ.toNatClampNeg
          · rw [if_pos z, z, msS]
          · rw [if_neg z, msK _ _ _ _ z, u2 47 (by omega) (by omega) (by decide) (by decide)]
        · rw [wo 120 (by decide), fy.2.1 j hj, u4 120 (by omega) (by omega) (by decide) (by decide) (by decide) (by decide)]
        · rw [wo 3 (by decide), fy.1 3 (by decide) (by decide), f4, msA _ _ _ _ (by decide), f3, msA _ _ _ _ (by decide), f2, msS]
        · rw [wo 120 (by decide)]; exact fy.2.2.1
    · have h14 : rT (mem 121) = 14 := by omega
      refine E_X9_text (d := d + 79) (c_parse (d := d + 9) (n := n) (t := fun j => mem 133 j) hn ?_ (fun j hj => ?_) hT0.2 ?_ hT (fun b' m5 eR' => ?_) (fun δ m5 eR' fy ld hd hl hκ => ?_))
      · rw [u2 120 (by omega) (by omega) (by decide) (by decide)]; exact t2
      · rw [u2 133 (by omega) (by omega) (by decide) (by decide)]
      · rw [u2 121 (by omega) (by omega) (by decide) (by decide)]; exact hT0.1
      · rw [eR] at eR'; cases eR'
      · have lo : ∀ j, j < 88 + 200 * rT (mem 121) → m5 121 j = mem 121 j := fun j hj => by rw [fy.2.2.2 j (by have := txA_ge hT0.2; omega), u2 121 (by omega) (by omega) (by decide) (by decide)]
        have e2 : m5 121 2 = nI (rT (mem 121)) := by rw [lo 2 (by omega)]; exact hT0.1
        rw [e2, e14]
        refine ⟨fun _ => ⟨fun q => absurd h14 q, fun _ => ⟨rfl, ?_⟩⟩, fun q => absurd (by rcases hκ with rfl | rfl | rfl <;> decide) q⟩
        refine INV_textF hI ex.symm lo (fun a g1 g2 g3 g4 g5 g6 => ?_) (fun j hj => ?_) ?_ fy.2.2.1
        · rw [fy.1 a g5 g6, u2 a g1 g2 g3 g4]
        · rw [fy.2.1 j hj, u2 120 (by omega) (by omega) (by decide) (by decide)]
        · rw [fy.1 3 (by decide) (by decide), f2, msS]
end TXV
