/-! words: how long, which letter -/
section TXI
variable {d : Nat} {mem : wf_Mem} {P : Int32 → wf_Mem → Prop} {Q : wf_Mem → Prop} {r : Rw} {t : Nat → Int32}
theorem six {i : Nat} (h : i < 6) : i = 0 ∨ i = 1 ∨ i = 2 ∨ i = 3 ∨ i = 4 ∨ i = 5 := by omega
theorem k_strLen {i : Nat} (hi : i < 6) (h : P (nI (wf_sLen.getD i 0)) mem) : Ci mJ0_length_8abf5 (d + 1) [.ref (100000 + 2 * i)] mem P := by
  refine E_J0_length_8abf5 _ hi (E_J0_coder_7d493 _ hi ?_)
  have e : (Int32.ofNat (wf_sLen.getD i 0)) >>> ((0 : Int32) &&& 31) = nI (wf_sLen.getD i 0) := by
    rcases six hi with rfl | rfl | rfl | rfl | rfl | rfl <;> decide
  rw [e]; exact h
def chS (i k : Nat) : Int32 := (wf_sByt.getD i []).getD k 0
theorem k_check (x y : Int32) (hx : ¬ x < 0) (hy : x < y) (h : Q mem) : Cv mJ0_checkIndex_df160 (d + 2) [.int x, .int y] mem Q :=
  E_J0_checkIndex_df160 _ _ (fun v hv => by
    rcases hv with rfl | rfl
    · exact Cw_of rfl (Nat.le_of_ble_eq_true rfl) rfl (b_J3_checkIndex_8e157_0 _ _ _ _ ⟨fun c => absurd c hx, fun _ => ⟨fun _ => h, fun c => absurd hy c⟩⟩)
    · exact Cw_of rfl (Nat.le_of_ble_eq_true rfl) rfl (b_J3_checkIndex_8e157_0 _ _ _ _ ⟨fun c => absurd c hx, fun _ => ⟨fun _ => h, fun c => absurd hy c⟩⟩))
theorem ch_all : ∀ i, i < 6 → ∀ k, k < wf_sLen.getD i 0 → (((((wf_sByt.getD i []).getD k 0) &&& 255).toUInt32 % 65536).toInt32) = chS i k := by decide
theorem sLen_le {i : Nat} (hi : i < 6) : wf_sLen.getD i 0 ≤ 5 := by
  rcases six hi with rfl | rfl | rfl | rfl | rfl | rfl <;> decide
theorem ch_nar {i k : Nat} (hi : i < 6) (hk : k < wf_sLen.getD i 0) : narrow .char (.int (chS i k)) = .int (chS i k) := by
  have h5 := sLen_le hi
  have kk : k = 0 ∨ k = 1 ∨ k = 2 ∨ k = 3 ∨ k = 4 := by omega
  rcases six hi with rfl | rfl | rfl | rfl | rfl | rfl <;> rcases kk with rfl | rfl | rfl | rfl | rfl <;> first | rfl | exact absurd hk (by decide)
theorem k_charAt {i k : Nat} (hi : i < 6) (hk : k < wf_sLen.getD i 0) (h : P (chS i k) mem) : Ci mJ0_charAt_5068e (d + 4) [.ref (100000 + 2 * i), .int (nI k)] mem P := by
  have h5 := sLen_le hi
  refine E_J0_charAt_5068e _ hi _ (E_J0_isLatin1_aae02 _ hi ⟨fun c => absurd c (by decide), fun _ => E_J1_charAt_3b067 _ hi _ (k_check _ _ (Int32.not_lt.mpr (nI_pos' (by omega))) (nI_lt hk (by omega)) ?_)⟩)
  rw [nI_clamp (by omega), ch_all i hi k hk]
  exact ⟨vp_in_nI hk (by omega), ch_nar hi hk, ch_nar hi hk, h⟩
end TXI
