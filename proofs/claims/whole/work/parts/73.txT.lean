/-! the reference: parse -/
def txA (T0 : Nat) : Nat := if T0 < 14 then 88 + 200 * T0 + 4 else 2888
theorem txA_le {T0 : Nat} (h : T0 ≤ 14) : txA T0 ≤ 2888 := by unfold txA; split <;> omega
theorem txA_ge {T0 : Nat} (h : T0 ≤ 14) : 88 + 200 * T0 ≤ txA T0 := by unfold txA; split <;> omega
def Fy (A : Nat) (m m' : wf_Mem) : Prop := (∀ a, a ≠ 120 → a ≠ 121 → m' a = m a) ∧ (∀ j, (j < 16 ∨ 26 < j) → m' 120 j = m 120 j) ∧ m' 120 16 = 0 ∧ ∀ j, j < A → m' 121 j = m 121 j
theorem nI_mul (a b : Nat) : nI a * nI b = nI (a * b) := by unfold nI; exact (Int32.ofNat_mul a b).symm
theorem tok_sg {t : Nat → Int32} {n B : Nat} {T : Bool} {m : wf_Mem} (h : Tok t n B T m) (hs : T = false ∨ tso t n B = 0) : Tok t n B false m := by
  rcases hs with rfl | hs
  · exact h
  · obtain ⟨a, b, c, e⟩ := h
    refine ⟨a, b, c.trans ?_, e⟩
    unfold tkV
    unfold tso at hs
    by_cases g : B < n
    · rw [if_pos g] at hs ⊢
      rw [if_pos g, hs, if_neg (by decide), if_neg (by decide), if_neg (by decide), if_neg (by decide)]
    · rw [if_neg g, if_neg g]
section TXT
variable {d : Nat} {mem : wf_Mem} {P : Int32 → wf_Mem → Prop} {Q : wf_Mem → Prop} {t : Nat → Int32} {n : Nat}
theorem c_parse (hn : n ≤ 96) (e1 : mem 120 16 = nI n) (e4 : ∀ j, j < n → mem 133 j = t j) {T0 : Nat} (hT0 : T0 ≤ 14) (e2 : mem 121 2 = nI T0) {κ : Int32} {R : Nat ⊕ List (Int32 × Int32)} (hT : TXr t n κ R) (hF : ∀ b m', R = .inl b → Fy (txA T0) mem m' → m' 120 17 = nI b → P (-1) m') (hS : ∀ δ m', R = .inr δ → Fy (txA T0) mem m' → LdS (txA T0) δ m' → okD κ δ → δ.length + 4 ≤ 96 → (κ = 0 ∨ κ = 1 ∨ κ = 2) → P κ m') : Ci mX9_parse (d + 70) [.ref 120] mem P := by
  obtain ⟨b0, b01, b1, b12, b2⟩ := tx_bd t n
  have hA := txA_le hT0
  refine E_X9_parse (d := d + 69) (fun m1 f1 m2 f2 m3 f3 m4 f4 m5 f5 m6 f6 => ?_)
  have u : ∀ a, a ≠ 120 → m6 a = mem a := fun a ha => by rw [f6, wf_ms_other _ _ _ _ ha, f5, wf_ms_other _ _ _ _ ha, f4, wf_ms_other _ _ _ _ ha, f3, wf_ms_other _ _ _ _ ha, f2, wf_ms_other _ _ _ _ ha, f1, wf_ms_other _ _ _ _ ha]
  have v : ∀ j, j < 17 ∨ 26 < j → m6 120 j = mem 120 j := fun j hj => by rw [f6, msK _ _ _ _ (by omega), f5, msK _ _ _ _ (by omega), f4, msK _ _ _ _ (by omega), f3, msK _ _ _ _ (by omega), f2, msK _ _ _ _ (by omega), f1, msK _ _ _ _ (by omega)]
  have s18 : m6 120 18 = nI 0 := by rw [f6, msK _ _ _ _ (by decide), f5, msK _ _ _ _ (by decide), f4, msK _ _ _ _ (by decide), f3, msK _ _ _ _ (by decide), f2, msK _ _ _ _ (by decide), f1, msS]; rfl
  have s22 : m6 120 22 = nI 0 := by rw [f6, msK _ _ _ _ (by decide), f5, msK _ _ _ _ (by decide), f4, msK _ _ _ _ (by decide), f3, msS]; rfl
  have s23 : m6 120 23 = nI 0 := by rw [f6, msK _ _ _ _ (by decide), f5, msK _ _ _ _ (by decide), f4, msS]; rfl
  have s24 : m6 120 24 = nI 0 := by rw [f6, msK _ _ _ _ (by decide), f5, msS]; rfl
  have s26 : m6 120 26 = nI 0 := by rw [f6, msS]; rfl
  have e2' : m6 121 2 = nI T0 := by rw [u 121 (by decide)]; exact e2
  have ec : (14 ≤ nI T0) ↔ 14 ≤ T0 := nI_leI (a := 14) (by decide) (by omega)
  have p60 : ∀ y : Int32, y = nI (txA T0) → Vw (Ni (d + 70) P) mX9_parse 60 [(0, .ref 120)] [.int y, .ref 120] m6 := fun y ey => by
    refine b_X9_parse_60 (d := d + 69) _ _ (fun m7 f7 => ?_)
    rw [ey] at f7
    have u7 : ∀ a, a ≠ 120 → m7 a = mem a := fun a ha => by rw [f7, wf_ms_other _ _ _ _ ha, u a ha]
    have k7 : ∀ j, j ≠ 25 → m7 120 j = m6 120 j := fun j hj => by rw [f7, msK _ _ _ _ hj]
    have e7 : ∀ j, j < n → m7 133 j = t j := fun j hj => by rw [u7 133 (by decide)]; exact e4 j hj
    have x7 : Fx (txA T0) mem m7 := ⟨fun a g _ => u7 a g, fun j g => by rw [k7 j (by omega), v j g], fun j g => by rw [u7 121 (by decide)]⟩
    refine c_nextToken (d := d + 67) (t := t) (n := n) (p := 0) hn (by omega) (by rw [k7 16 (by decide), v 16 (by decide)]; exact e1) (by rw [k7 18 (by decide)]; exact s18) e7 (fun m8 tk tok => ?_)
    have eT : (tgF 0 (m7 120 19) && decide (tb t n 0 = 0)) = false := by unfold tgF; simp
    rw [eT] at tok
    have tok8 : Tok t n (tx0 t n) false m8 := tok
    have x8 : Fx (txA T0) m7 m8 := ⟨fun a g _ => tk.1 a g, fun j g => tk.2 j (by omega), fun j g => by rw [tk.1 121 (by decide)]⟩
    have S8 : RSt (txA T0) t n (tx0 t n) false 0 0 [] m8 := by
      refine ⟨tok8, ?_, fun j hj => ?_, ?_, ?_, ?_, ?_, ?_, fun i hi => absurd hi (by simp)⟩
      · rw [tk.2 16 (by decide), k7 16 (by decide), v 16 (by decide)]; exact e1
      · rw [tk.1 133 (by decide)]; exact e7 j hj
      · rw [tk.2 22 (by decide), k7 22 (by decide)]; exact s22
      · rw [tk.2 23 (by decide), k7 23 (by decide)]; exact s23
      · rw [tk.2 24 (by decide), k7 24 (by decide)]; exact s24
      · rw [tk.2 26 (by decide), k7 26 (by decide)]; exact s26
      · rw [tk.2 25 (by decide), f7, msS]
    have fin : ∀ {m9 m10 : wf_Mem}, Fx (txA T0) m8 m9 → m10 = wf_ms m9 120 16 0 → Fy (txA T0) mem m10 := fun {m9} {m10} x9 f10 => by
      have x := x7.tr (x8.tr x9)
      exact ⟨fun a g1 g2 => by rw [f10, wf_ms_other _ _ _ _ g1, x.1 a g1 g2], fun j g => by rw [f10, msK _ _ _ _ (by omega), x.2.1 j (by omega)], by rw [f10, msS], fun j g => by rw [f10, msA _ _ _ _ (by decide), x.2.2 j g]⟩
    refine c_key (d := d + 68) (κ := κ) hn b0 tok8 S8.2.2.1 (hT.elim (fun z => Or.inl ⟨z.1, z.2.1⟩) (fun z => Or.inr z.1)) ?_
    rcases hT with ⟨z1, z2, z3⟩ | ⟨hk, z3⟩
    · rw [z1]
      refine ⟨fun _ => b_X9_parse_81 (d := d + 69) _ _ _ ⟨fun _ m9 f9 => ⟨fun _ => hF _ m9 z3 (fin Fx.rf f9) (by rw [f9, msK _ _ _ _ (by decide)]; exact tok8.1), fun q => absurd rfl q⟩, fun q => absurd rfl q⟩, fun q => absurd (by decide) q⟩
    · have hkk := hk.k
      have hlen := hk.len
      refine ⟨fun q => absurd q (by rcases hkk with rfl | rfl | rfl <;> decide), fun _ => b_X9_parse_81 (d := d + 69) _ _ _ ⟨fun q => absurd q (by decide), fun _ => ?_⟩⟩
      have w1 : m8 120 19 = 1 := by
        refine (tk_1 tok8).mpr ⟨by omega, ?_⟩
        rcases hk with h | h | h
        · rw [show t (tx0 t n) = 108 from h.2.2 0 (by decide)]; decide
        · rw [show t (tx0 t n) = 102 from h.2.2.2 0 (by decide)]; decide
        · rw [show t (tx0 t n) = 116 from h.2.2.2.2 0 (by decide)]; decide
      refine c_nextToken (d := d + 67) (t := t) (n := n) (p := tx1 t n) hn b1 S8.2.1 tok8.2.1 S8.2.2.1 (fun m9 tk9 tok9' => ?_)
      have tok9 : Tok t n (tx2 t n) (tgF (tx1 t n) (m8 120 19) && decide (tx2 t n = tx1 t n)) m9 := tok9'
      have x9 : Fx (txA T0) m8 m9 := ⟨fun a g _ => tk9.1 a g, fun j g => tk9.2 j (by omega), fun j g => by rw [tk9.1 121 (by decide)]⟩
      by_cases c : tx2 t n = tx1 t n ∧ ¬ tso t n (tx2 t n) = 0
      · rw [if_pos c] at z3
        have w4 : m9 120 19 = 4 := by
          rw [tok9.2.2.1, w1]
          have : (tgF (tx1 t n) 1 && decide (tx2 t n = tx1 t n)) = true := by unfold tgF; simp [c.1]; omega
          rw [this]
          unfold tkV
          have c2 := c.2
          unfold tso at c2
          by_cases g : tx2 t n < n
          · rw [if_pos g] at c2 ⊢
            by_cases s1 : srt1 (t (tx2 t n)) = 1
            · rw [if_pos s1, if_pos rfl]
            · have s2 : srt1 (t (tx2 t n)) = 2 := by
                rcases srt_3 (t (tx2 t n)) with q | q | q
                · exact absurd q c2
                · exact absurd q s1
                · exact q
              rw [if_neg s1, if_pos s2, if_neg (fun q => absurd q.1 (by decide))]
          · rw [if_neg g] at c2; exact absurd rfl c2
        exact c_wrong (d := d + 63) w4 (z0 (fun m10 f10 => hF _ m10 z3 (fin x9 f10) (by rw [f10, msK _ _ _ _ (by decide)]; exact tok9.1)))
      · rw [if_neg c] at z3
        have tokF : Tok t n (tx2 t n) false m9 := by
          refine tok_sg tok9 ?_
          by_cases g : tx2 t n = tx1 t n
          · exact Or.inr (Classical.byContradiction (fun q => c ⟨g, q⟩))
          · exact Or.inl (by simp [g])
        have S9 : RSt (txA T0) t n (tx2 t n) false 0 0 [] m9 := by
          refine ⟨tokF, ?_, fun j hj => ?_, ?_, ?_, S8.2.2.2.2.2.go (fun j g1 g2 => tk9.2 j (by omega)) (tk9.1 121 (by decide))⟩
          · rw [tk9.2 16 (by decide)]; exact S8.2.1
          · rw [tk9.1 133 (by decide)]; exact S8.2.2.1 j hj
          · rw [tk9.2 22 (by decide)]; exact S8.2.2.2.1
          · rw [tk9.2 23 (by decide)]; exact S8.2.2.2.2.1
        refine sp_top hn hA hkk (d + 69) 0 0 (tx2 t n) [] [] m9 _ (by unfold rmD; omega) (Nat.zero_le _) ⟨S9, by decide, by decide, by show 0 + 0 + 4 ≤ _; omega, b2⟩ trivial (fun B' m10 g => z1 ?_) (fun B' m10 g => z0 (fun m11 f11 => hF B' m11 (z3.trans g.2.2.2) (fin (x9.tr g.1) f11) (by rw [f11, msK _ _ _ _ (by decide)]; exact g.2.1)))
        obtain ⟨T, p, o', δ, x10, S10, er, hp, eo, hd, hx, hl, hn', hB⟩ := g
        have hl' : ([] ++ δ).length + 0 + 4 ≤ B' := hl
        by_cases g : B' < n
        · have ne : ¬ m10 120 19 = 0 := by
            rw [S10.1.2.2.1]
            unfold tkV
            rw [if_pos g]
            split
            · split <;> decide
            · split
              · split <;> decide
              · decide
          refine ⟨fun _ m11 f11 => hF B' m11 (z3.trans (er.trans (run_flt (fun _ _ => rfl) (fun q => absurd g q) hx))) (fin (x9.tr x10) f11) (by rw [f11, msK _ _ _ _ (by decide)]; exact S10.1.1), fun q => absurd q ne⟩
        · have eq0 : m10 120 19 = 0 := by
            rw [S10.1.2.2.1]
            unfold tkV
            rw [if_neg g]
          have eR : R = .inr δ := by
            rw [z3, er, run_endS (by omega), cl_pend hp (show tpl 1 [] from trivial), eo]
            rfl
          refine ⟨fun q => absurd eq0 q, fun _ m11 f11 => hS δ m11 eR (fin (x9.tr x10) f11) (S10.2.2.2.2.2.go (fun j g1 g2 => by rw [f11, msK _ _ _ _ (by omega)]) (by rw [f11, wf_ms_other _ _ _ _ (by decide)])) hd (by
            have : ([] ++ δ).length = δ.length := rfl
            omega) hkk⟩
  rw [e2', ec]
  refine ⟨fun g => p60 _ ?_, fun g => E_X9_textAt _ (p60 _ ?_)⟩
  · unfold txA; rw [if_neg (by omega)]; rfl
  · unfold txA
    rw [if_pos (by omega), show (200 : Int32) = nI 200 from rfl, nI_mul, show (88 : Int32) = nI 88 from rfl, nI_add, show (4 : Int32) = nI 4 from rfl, nI_add]
end TXT
