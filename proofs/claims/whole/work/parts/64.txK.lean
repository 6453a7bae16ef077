/-! names, of the class -/
abbrev nmO (key c : Int32) : Prop := (key = 0 ∧ (c = 102 ∨ c = 110 ∨ c = 119)) ∨ (key = 1 ∧ (c = 103 ∨ c = 116 ∨ c = 104)) ∨ (key = 2 ∧ (c = 116 ∨ c = 101))
def ixS (i : Nat) (c : Int32) : Nat → Nat → Int32
  | 0, _ => -1
  | f + 1, k => if (wf_sByt.getD i []).getD k 0 = c then nI k else ixS i c f (k + 1)
theorem let_val {c : Int32} (h : srt1 c = 1) : ∃ k, k < 26 ∧ c = nI (97 + k) := by
  obtain ⟨a, b⟩ := (srt_L c).mpr h
  have e : c = nI c.toNatClampNeg := nI_ge0 (by grind)
  have b1 : c.toNatClampNeg ≤ 122 := cl_le (n := 122) (by grind) b (by decide)
  have b2 : 97 ≤ c.toNatClampNeg := by
    rw [e] at a
    exact (nI_leI (a := 97) (by decide) (by omega)).mp a
  exact ⟨c.toNatClampNeg - 97, by omega, by rw [show 97 + (c.toNatClampNeg - 97) = c.toNatClampNeg by omega]; exact e⟩
theorem let_conv : ∀ k, k < 26 → ((nI (97 + k)).toUInt32 % 65536).toInt32 = nI (97 + k) ∧ ((nI (97 + k)).toInt8.toInt32) = nI (97 + k) ∧ ¬ nI (97 + k) < 0 ∧ ¬ 255 < nI (97 + k) := by decide
theorem ix_0 (c : Int32) : (nmO 0 c ∧ 0 ≤ ixS 3 c (wf_sLen.getD 3 0) 0 ∧ -1 - ixS 3 c (wf_sLen.getD 3 0) 0 = encS 0 (1, c)) ∨ (¬ nmO 0 c ∧ ixS 3 c (wf_sLen.getD 3 0) 0 = -1) := by
  by_cases a : c = 102
  · subst a; exact Or.inl (by decide)
  · by_cases b : c = 110
    · subst b; exact Or.inl (by decide)
    · by_cases e : c = 119
      · subst e; exact Or.inl (by decide)
      · refine Or.inr ⟨fun h => by simp [nmO, a, b, e] at h, ?_⟩
        show (if (102 : Int32) = c then nI 0 else if (110 : Int32) = c then nI 1 else if (119 : Int32) = c then nI 2 else -1) = -1
        rw [if_neg (Ne.symm a), if_neg (Ne.symm b), if_neg (Ne.symm e)]
theorem ix_1 (c : Int32) : (nmO 1 c ∧ 0 ≤ ixS 4 c (wf_sLen.getD 4 0) 0 ∧ -1 - ixS 4 c (wf_sLen.getD 4 0) 0 = encS 1 (1, c)) ∨ (¬ nmO 1 c ∧ ixS 4 c (wf_sLen.getD 4 0) 0 = -1) := by
  by_cases a : c = 103
  · subst a; exact Or.inl (by decide)
  · by_cases b : c = 116
    · subst b; exact Or.inl (by decide)
    · by_cases e : c = 104
      · subst e; exact Or.inl (by decide)
      · refine Or.inr ⟨fun h => by simp [nmO, a, b, e] at h, ?_⟩
        show (if (103 : Int32) = c then nI 0 else if (116 : Int32) = c then nI 1 else if (104 : Int32) = c then nI 2 else -1) = -1
        rw [if_neg (Ne.symm a), if_neg (Ne.symm b), if_neg (Ne.symm e)]
theorem ix_2 (c : Int32) : (nmO 2 c ∧ 0 ≤ ixS 5 c (wf_sLen.getD 5 0) 0 ∧ -1 - ixS 5 c (wf_sLen.getD 5 0) 0 = encS 2 (1, c)) ∨ (¬ nmO 2 c ∧ ixS 5 c (wf_sLen.getD 5 0) 0 = -1) := by
  by_cases a : c = 116
  · subst a; exact Or.inl (by decide)
  · by_cases b : c = 101
    · subst b; exact Or.inl (by decide)
    · refine Or.inr ⟨fun h => by simp [nmO, a, b] at h, ?_⟩
      show (if (116 : Int32) = c then nI 0 else if (101 : Int32) = c then nI 1 else -1) = -1
      rw [if_neg (Ne.symm a), if_neg (Ne.symm b)]
section TXK
variable {d : Nat} {mem : wf_Mem} {P : Int32 → wf_Mem → Prop} {Q : wf_Mem → Prop} {r : Rw} {t : Nat → Int32}
theorem idx_loop {i : Nat} (hi : i < 6) (c : Int32) (h : P (ixS i c (wf_sLen.getD i 0) 0) mem) : ∀ (f k : Nat), f + k = wf_sLen.getD i 0 → ixS i c f k = ixS i c (wf_sLen.getD i 0) 0 → Vw (Ni d P) mJ1_indexOfChar_4cfef 7 [(0, .ref (100001 + 2 * i)), (3, .int (nI (wf_sLen.getD i 0))), (4, .int c), (5, .int (nI k))] [] mem
  | 0, k, hk, e => by
    have h5 := sLen_le hi
    have ec : (nI (wf_sLen.getD i 0) ≤ nI k) ↔ wf_sLen.getD i 0 ≤ k := nI_leI (by omega) (by omega)
    refine b_J1_indexOfChar_4cfef_7 _ _ hi _ _ _ ?_
    rw [ec]
    exact ⟨fun _ => by rw [← e] at h; exact h, fun g => absurd (by omega) g⟩
  | f + 1, k, hk, e => by
    have h5 := sLen_le hi
    have ec : (nI (wf_sLen.getD i 0) ≤ nI k) ↔ wf_sLen.getD i 0 ≤ k := nI_leI (by omega) (by omega)
    refine b_J1_indexOfChar_4cfef_7 _ _ hi _ _ _ ?_
    rw [ec, nI_clamp (by omega)]
    refine ⟨fun g => by omega, fun g => ⟨vp_in_nI (by omega) (by omega), fun q => ?_, fun y => ?_⟩⟩
    · rw [show nI k + 1 = nI (k + 1) from nI_1 k]
      refine idx_loop hi c h f (k + 1) (by omega) ?_
      rw [← e]
      show _ = (if _ then _ else _)
      rw [if_neg q]
    · rw [← e] at h
      have : ixS i c (f + 1) k = nI k := by
        show (if _ then _ else _) = _
        rw [if_pos y]
      rw [this] at h; exact h
theorem k_indexOf {i : Nat} (hi : i < 6) {c : Int32} (hc : srt1 c = 1) (h : P (ixS i c (wf_sLen.getD i 0) 0) mem) : Ci mJ0_indexOf_0f7a4 (d + 3) [.ref (100000 + 2 * i), .int c] mem P := by
  have h5 := sLen_le hi
  have h2 : 0 < wf_sLen.getD i 0 := by rcases six hi with rfl | rfl | rfl | rfl | rfl | rfl <;> decide
  obtain ⟨k, hk, e⟩ := let_val hc
  obtain ⟨a1, a2, a3, a4⟩ := let_conv k hk
  rw [← e] at a1 a2 a3 a4
  refine E_J0_indexOf_0f7a4 _ hi _ (E_J0_indexOf_7cf53 _ hi _ _ (E_J0_isLatin1_aae02 _ hi ⟨fun c => absurd c (by decide), fun _ => k_strLen hi (E_J1_indexOf_4cfef _ hi _ _ _ (E_J1_canEncode_9a6ad _ ⟨fun q => absurd q a3, fun _ => ⟨fun q => absurd q a4, fun _ => n1 (fun y ey z ez => ?_)⟩⟩))⟩))
  have ey' : y = nI 0 := by rw [ey]; decide
  have ez' : z = nI (wf_sLen.getD i 0) := by
    rw [ez]
    exact if_neg (Int32.lt_irrefl)
  rw [ey', ez']
  refine ⟨fun _ => E_J1_indexOfChar_4cfef _ hi _ _ _ (fun w ew => ?_), fun q => absurd (nI_lt h2 (by omega)) q⟩
  rw [ew, a2]
  exact idx_loop hi c h (wf_sLen.getD i 0) 0 (by omega) rfl
theorem k_takesName {x : Nat} (hx : wf_sh x = (2, 0)) (hx3 : 5 < x) {key : Int32} {st : List Int32} {o : List (Int32 × Int32)} {par nots b E : Nat} {want c : Int32} (hM : MR x key st o par nots want mem) (hkey : key = 0 ∨ key = 1 ∨ key = 2) (hl : o.length + st.length < 96) (hn : ntS st ≤ nots) (hbE : b ≤ E) (hE : E ≤ 96) (hb : b < 96) (e2 : mem 3 2 = nI b) (e3 : mem 3 3 = nI E) (e4 : mem 4 b = c) (hc : srt1 c = 1) (h1 : E - b = 1 ∧ nmO key c → ∀ m', Mp x mem m' → MR x key (edS st (o ++ [(1, c)])).1 (edS st (o ++ [(1, c)])).2 par (nots - ntS st) 0 m' → P 1 m') (h0 : ¬ (E - b = 1 ∧ nmO key c) → P 0 mem) : Ci mX6_takesName (d + 4) [.ref 3, .ref x] mem P := by
  have es : nI E - nI b = nI (E - b) := pk_sub hbE
  have ec : (nI (E - b) = 1) ↔ E - b = 1 := nI_eq (b := 1) (by omega) (by decide)
  obtain ⟨k, hk, ek⟩ := let_val hc
  obtain ⟨a1, -, -, -⟩ := let_conv k hk
  rw [← ek] at a1
  have go : ∀ i, i < 6 → ((nmO key c ∧ 0 ≤ ixS i c (wf_sLen.getD i 0) 0 ∧ -1 - ixS i c (wf_sLen.getD i 0) 0 = encS key (1, c)) ∨ (¬ nmO key c ∧ ixS i c (wf_sLen.getD i 0) 0 = -1)) → ∃ a : Nat, a < 6 ∧ 100000 + 2 * i = 100000 + 2 * a ∧ (vp_in (mem 3 2) 96 ∧ (Ci mJ0_indexOf_0f7a4 (d + 3) [.ref (100000 + 2 * a), .int (((mem 4 (mem 3 2).toNatClampNeg).toUInt32 % 65536).toInt32)] mem (fun r14 mem13 => ((¬ ((mem13 3 3) - (mem13 3 2)) = 1 → P 0 mem13) ∧ (((mem13 3 3) - (mem13 3 2)) = 1 → ((0 ≤ r14 → (Cv mX2_addName (d + 3) [.ref x, .int r14] mem13 (fun mem17 => (Cv mX6_endsPiece (d + 3) [.ref 3, .ref x] mem17 (fun mem18 => P 1 mem18))))) ∧ (¬ 0 ≤ r14 → P 0 mem13))))))) := fun i hi hix => by
    refine ⟨i, hi, rfl, by rw [e2]; exact vin hb, ?_⟩
    rw [e2, nI_clamp (by omega), e4, a1]
    refine k_indexOf hi hc ?_
    rw [e2, e3, es, ec]
    refine ⟨fun g => h0 (fun q => g q.1), fun g => ⟨fun g2 => ?_, fun g2 => h0 (fun q => ?_)⟩⟩
    · rcases hix with ⟨w1, w2, w3⟩ | ⟨w1, w2⟩
      · obtain ⟨q1, q2, q3, q4, q5⟩ := hM
        refine k_addName hx q2 (by omega) _ c w3 (fun m1 l1 o1 => ?_)
        have b3 : m1 3 = mem 3 := l1 3 (by omega) (by omega)
        have b5 : m1 5 = mem 5 := l1 5 (by omega) (by omega)
        exact k_endsP hx hx3 (st := st) (par := par) (nots := nots) (want := want) ⟨q1.go (by rw [b3]) b5, o1, by rw [b3]; exact q3, by rw [b3]; exact q4, by rw [b3]; exact q5⟩ (by simp; omega) hn (fun m2 p2 M2 => h1 ⟨g, w1⟩ m2 (Mp.tr ⟨fun a z1 z2 _ _ => l1 a z1 z2, fun j _ => by rw [b3]⟩ p2) M2)
      · rw [w2] at g2; exact absurd g2 (by decide)
    · rcases hix with ⟨w1, w2, w3⟩ | ⟨w1, w2⟩
      · exact g2 w2
      · exact w1 q.2
  refine E_X6_takesName _ hx ?_
  rw [hM.2.1.1]
  rcases hkey with rfl | rfl | rfl
  · exact E_X6_namesOf _ ⟨fun q => absurd rfl q, fun _ => go 3 (by decide) (ix_0 c)⟩
  · exact E_X6_namesOf _ ⟨fun _ => ⟨fun q => absurd rfl q, fun _ => go 4 (by decide) (ix_1 c)⟩, fun q => absurd q (by decide)⟩
  · exact E_X6_namesOf _ ⟨fun _ => ⟨fun _ => go 5 (by decide) (ix_2 c), fun q => absurd q (by decide)⟩, fun q => absurd q (by decide)⟩
end TXK
