/-! the reference: the key, the whole text -/
theorem wd_4 {t : Nat → Int32} {b e i : Nat} (hl : wf_sLen.getD i 0 = 4) {x1 x2 x3 x4 : Int32} (h0 : chS i 0 = x1) (h1 : chS i 1 = x2) (h2 : chS i 2 = x3) (h3 : chS i 3 = x4) : wdP t b e i ↔ (e - b = 4 ∧ t b = x1 ∧ t (b + 1) = x2 ∧ t (b + 2) = x3 ∧ t (b + 3) = x4) := by
  unfold wdP
  rw [hl]
  refine ⟨fun h => ⟨h.1, (h.2 0 (by decide)).trans h0, (h.2 1 (by decide)).trans h1, (h.2 2 (by decide)).trans h2, (h.2 3 (by decide)).trans h3⟩, fun h => ⟨h.1, fun k hk => ?_⟩⟩
  have : k = 0 ∨ k = 1 ∨ k = 2 ∨ k = 3 := by omega
  rcases this with rfl | rfl | rfl | rfl
  · exact h.2.1.trans h0.symm
  · exact h.2.2.1.trans h1.symm
  · exact h.2.2.2.1.trans h2.symm
  · exact h.2.2.2.2.trans h3.symm
theorem wd_5 {t : Nat → Int32} {b e : Nat} : wdP t b e 0 ↔ (e - b = 5 ∧ t b = 108 ∧ t (b + 1) = 105 ∧ t (b + 2) = 103 ∧ t (b + 3) = 104 ∧ t (b + 4) = 116) := by
  unfold wdP
  rw [show wf_sLen.getD 0 0 = 5 from rfl]
  refine ⟨fun h => ⟨h.1, h.2 0 (by decide), h.2 1 (by decide), h.2 2 (by decide), h.2 3 (by decide), h.2 4 (by decide)⟩, fun h => ⟨h.1, fun k hk => ?_⟩⟩
  have : k = 0 ∨ k = 1 ∨ k = 2 ∨ k = 3 ∨ k = 4 := by omega
  rcases this with rfl | rfl | rfl | rfl | rfl
  · exact h.2.1
  · exact h.2.2.1
  · exact h.2.2.2.1
  · exact h.2.2.2.2.1
  · exact h.2.2.2.2.2
section TXS
variable {d : Nat} {m : wf_Mem} {P : Int32 → wf_Mem → Prop} {Q : wf_Mem → Prop} {t : Nat → Int32} {A n B deep turned : Nat} {key l l' : Int32} {st : List Int32} {o : List (Int32 × Int32)} {T : Bool} {L : List (Int32 × Int32)}
theorem tk_1 (tok : Tok t n B false m) : m 120 19 = 1 ↔ (B < n ∧ srt1 (t B) = 1) := by
  rw [tok.2.2.1]
  unfold tkV
  by_cases c : B < n
  · rw [if_pos c]
    by_cases s1 : srt1 (t B) = 1
    · rw [if_pos s1, if_neg (by decide)]; exact ⟨fun _ => ⟨c, s1⟩, fun _ => rfl⟩
    · rw [if_neg s1]
      refine ⟨fun q => ?_, fun q => absurd q.2 s1⟩
      split at q
      · split at q
        · exact absurd q (by decide)
        · exact absurd q (by decide)
      · exact absurd q (by decide)
  · rw [if_neg c]; exact ⟨fun q => absurd q (by decide), fun q => absurd q.1 c⟩
theorem c_w4 (hn : n ≤ 96) (hB : B ≤ n) (tok : Tok t n B false m) (e4 : ∀ j, j < n → m 133 j = t j) (x1 x2 x3 x4 : Int32) (hx1 : srt1 x1 = 1) (hx4 : ¬ x4 = 0) (h1 : (teB t n B - B = 4 ∧ t B = x1 ∧ t (B + 1) = x2 ∧ t (B + 2) = x3 ∧ t (B + 3) = x4) → P 1 m) (h0 : ¬ (teB t n B - B = 4 ∧ t B = x1 ∧ t (B + 1) = x2 ∧ t (B + 2) = x3 ∧ t (B + 3) = x4) → P 0 m) : Ci mX9_isWordAt d [.ref 120, .int x1, .int x2, .int x3, .int x4] m P := by
  have bd := te_bd (t := t) (n := n) (b := B) hB
  have nlt : teB t n B - B = 4 → B < n := fun q => by omega
  have es : nI (teB t n B) - nI B = nI (teB t n B - B) := pk_sub bd.1
  have ec : (nI (teB t n B - B) = 4) ↔ teB t n B - B = 4 := nI_eq (b := 4) (by omega) (by decide)
  refine E_X9_isWordAt _ _ _ _ ⟨fun _ => b_X9_isWordAt_10 _ _ _ _ _ _ ?_, fun q => absurd q hx4⟩
  rw [tok.1, tok.2.1, es, ec, show nI B + 1 = nI (B + 1) from nI_1 B, show nI B + 2 = nI (B + 2) from nI_add B 2, show nI B + 3 = nI (B + 3) from nI_add B 3]
  refine ⟨fun g => h0 (fun w => g ((tk_1 tok).mpr ⟨nlt w.1, by rw [w.2.1]; exact hx1⟩)), fun g => ⟨fun g2 => h0 (fun w => g2 w.1), fun g2 => ?_⟩⟩
  rw [nI_clamp (by omega), nI_clamp (by omega), nI_clamp (by omega), nI_clamp (by omega), e4 B (by omega), e4 (B + 1) (by omega), e4 (B + 2) (by omega), e4 (B + 3) (by omega)]
  exact ⟨vin (by omega), fun q => h0 (fun w => q w.2.1), fun a1 => ⟨vin (by omega), fun q => h0 (fun w => q w.2.2.1), fun a2 => ⟨vin (by omega), fun q => h0 (fun w => q w.2.2.2.1), fun a3 => ⟨fun q => absurd q hx4, fun _ => ⟨vin (by omega), fun q => h0 (fun w => q w.2.2.2.2), fun a4 => h1 ⟨g2, a1, a2, a3, a4⟩⟩⟩⟩⟩⟩
theorem c_w5 (hn : n ≤ 96) (hB : B ≤ n) (tok : Tok t n B false m) (e4 : ∀ j, j < n → m 133 j = t j) (x1 x2 x3 x4 x5 : Int32) (hx1 : srt1 x1 = 1) (h1 : (teB t n B - B = 5 ∧ t B = x1 ∧ t (B + 1) = x2 ∧ t (B + 2) = x3 ∧ t (B + 3) = x4 ∧ t (B + 4) = x5) → P 1 m) (h0 : ¬ (teB t n B - B = 5 ∧ t B = x1 ∧ t (B + 1) = x2 ∧ t (B + 2) = x3 ∧ t (B + 3) = x4 ∧ t (B + 4) = x5) → P 0 m) : Ci mX9_isLong d [.ref 120, .int x1, .int x2, .int x3, .int x4, .int x5, .int 0] m P := by
  have bd := te_bd (t := t) (n := n) (b := B) hB
  have nlt : teB t n B - B = 5 → B < n := fun q => by omega
  have es : nI (teB t n B) - nI B = nI (teB t n B - B) := pk_sub bd.1
  have ec : (nI (teB t n B - B) = 5) ↔ teB t n B - B = 5 := nI_eq (b := 5) (by omega) (by decide)
  refine E_X9_isLong _ _ _ _ _ _ ⟨fun q => absurd rfl q, fun _ => b_X9_isLong_11 _ _ _ _ _ _ _ _ ?_⟩
  rw [tok.1, tok.2.1, es, ec, show nI B + 1 = nI (B + 1) from nI_1 B, show nI B + 2 = nI (B + 2) from nI_add B 2, show nI B + 3 = nI (B + 3) from nI_add B 3, show nI B + 4 = nI (B + 4) from nI_add B 4]
  refine ⟨fun g => h0 (fun w => g ((tk_1 tok).mpr ⟨nlt w.1, by rw [w.2.1]; exact hx1⟩)), fun g => ⟨fun g2 => h0 (fun w => g2 w.1), fun g2 => ?_⟩⟩
  rw [nI_clamp (by omega), nI_clamp (by omega), nI_clamp (by omega), nI_clamp (by omega), nI_clamp (by omega), e4 B (by omega), e4 (B + 1) (by omega), e4 (B + 2) (by omega), e4 (B + 3) (by omega), e4 (B + 4) (by omega)]
  exact ⟨vin (by omega), fun q => h0 (fun w => q w.2.1), fun a1 => ⟨vin (by omega), fun q => h0 (fun w => q w.2.2.1), fun a2 => ⟨vin (by omega), fun q => h0 (fun w => q w.2.2.2.1), fun a3 => ⟨vin (by omega), fun q => h0 (fun w => q w.2.2.2.2.1), fun a4 => ⟨vin (by omega), fun q => h0 (fun w => q w.2.2.2.2.2), fun a5 => ⟨fun _ => h1 ⟨g2, a1, a2, a3, a4, a5⟩, fun q => absurd rfl q⟩⟩⟩⟩⟩⟩
theorem c_key {κ : Int32} (hn : n ≤ 96) (hB : B ≤ n) (tok : Tok t n B false m) (e4 : ∀ j, j < n → m 133 j = t j) (hk : (κ = -1 ∧ ¬ wdP t B (teB t n B) 0 ∧ ¬ wdP t B (teB t n B) 1 ∧ ¬ wdP t B (teB t n B) 2) ∨ kyP t B (teB t n B) κ) (h : P κ m) : Ci mX9_key (d + 1) [.ref 120] m P := by
  have w1 := wd_4 (t := t) (b := B) (e := teB t n B) (i := 1) rfl (x1 := 102) (x2 := 101) (x3 := 97) (x4 := 114) rfl rfl rfl rfl
  have w2 := wd_4 (t := t) (b := B) (e := teB t n B) (i := 2) rfl (x1 := 116) (x2 := 105) (x3 := 114) (x4 := 101) rfl rfl rfl rfl
  refine E_X9_key (c_w5 hn hB tok e4 108 105 103 104 116 (by decide) (fun a => z1 ?_) (fun a => z0 (c_w4 hn hB tok e4 102 101 97 114 (by decide) (by decide) (fun b => z1 ?_) (fun b => z0 (c_w4 hn hB tok e4 116 105 114 101 (by decide) (by decide) (fun c => z1 ?_) (fun c => z0 ?_))))))
  · have a := wd_5.mpr a
    rcases hk with ⟨_, h1, _⟩ | ⟨rfl, _⟩ | ⟨_, h1, _⟩ | ⟨_, h1, _⟩
    · exact absurd a h1
    · exact h
    · exact absurd a h1
    · exact absurd a h1
  · have a := fun q => a (wd_5.mp q)
    have b := w1.mpr b
    rcases hk with ⟨_, _, h1, _⟩ | ⟨_, h1⟩ | ⟨rfl, _⟩ | ⟨_, _, h1, _⟩
    · exact absurd b h1
    · exact absurd h1 a
    · exact h
    · exact absurd b h1
  · have a := fun q => a (wd_5.mp q)
    have b := fun q => b (w1.mp q)
    have c := w2.mpr c
    rcases hk with ⟨_, _, _, h1⟩ | ⟨_, h1⟩ | ⟨_, _, h1⟩ | ⟨rfl, _⟩
    · exact absurd c h1
    · exact absurd h1 a
    · exact absurd h1 b
    · exact h
  · have a := fun q => a (wd_5.mp q)
    have b := fun q => b (w1.mp q)
    have c := fun q => c (w2.mp q)
    rcases hk with ⟨rfl, _⟩ | ⟨_, h1⟩ | ⟨_, _, h1⟩ | ⟨_, _, _, h1⟩
    · exact h
    · exact absurd h1 a
    · exact absurd h1 b
    · exact absurd h1 c
/-- a piece that is tight to the key: nothing takes it -/
theorem c_wrong (hw : m 120 19 = 4) (h : P 0 m) : Ci mX9_either (d + 6) [.ref 120, .int key] m P := by
  have sgn : ∀ (c : Int32) (D : Nat) (R : Int32 → wf_Mem → Prop), R 0 m → Ci mX9_isSign D [.ref 120, .int c] m R := fun c D R hR => E_X9_isSign _ ⟨fun _ => hR, fun q => by rw [hw] at q; exact absurd q (by decide)⟩
  refine E_X9_either _ (E_X9_both _ (E_X9_test _ (E_X9_sum _ (E_X9_term _ (E_X9_part0 _ ?_)))))
  rw [hw]
  refine ⟨fun _ => ⟨fun _ => b_X9_part0_84 _ _ (sgn 33 _ _ (z0 (b_X9_part0_145 _ _ (sgn 40 _ _ (z0 ?_))))), fun q => absurd q (by decide)⟩, fun q => absurd q (by decide)⟩
  exact n0 (n0 (n0 (n0 (n0 h))))
end TXS
