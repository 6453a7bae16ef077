/-! the key's word, of the class -/
def wdP (t : Nat → Int32) (b e i : Nat) : Prop := e - b = wf_sLen.getD i 0 ∧ ∀ k, k < wf_sLen.getD i 0 → t (b + k) = chS i k
section TXJ
variable {d : Nat} {mem : wf_Mem} {P : Int32 → wf_Mem → Prop} {Q : wf_Mem → Prop} {r : Rw} {t : Nat → Int32}
theorem here_loop {i b e : Nat} (hi : i < 6) (he : e ≤ 96) (hbe : b ≤ e) (el : e - b = wf_sLen.getD i 0) (e2 : mem 3 2 = nI b) (e4 : ∀ j, j < e → mem 4 j = t j) (h1 : wdP t b e i → P 1 mem) (h0 : ¬ wdP t b e i → P 0 mem) : ∀ (f k : Nat), wf_sLen.getD i 0 - k ≤ f → k ≤ wf_sLen.getD i 0 → (∀ j, j < k → t (b + j) = chS i j) → Vw (Ni (d + 5) P) mX6_isHere 20 [(0, .ref 3), (1, .ref (100000 + 2 * i)), (2, .int (nI k))] [] mem
  | f, k, hf, hk, hj => by
    have h5 := sLen_le hi
    have ec : (nI (wf_sLen.getD i 0) ≤ nI k) ↔ wf_sLen.getD i 0 ≤ k := nI_leI (by omega) (by omega)
    refine b_X6_isHere_20 _ _ hi _ (k_strLen hi ?_)
    rw [ec, e2, nI_add, nI_clamp (by omega)]
    refine ⟨fun g => h1 ⟨el, fun j hj' => hj j (by omega)⟩, fun g => ⟨vin (by omega), k_charAt hi (by omega) ?_⟩⟩
    rw [e4 (b + k) (by omega)]
    refine ⟨fun g2 => ?_, fun g2 => h0 (fun w => g2 (w.2 k (by omega)))⟩
    rw [show nI k + 1 = nI (k + 1) from nI_1 k]
    cases f with
    | zero => omega
    | succ f => exact here_loop hi he hbe el e2 e4 h1 h0 f (k + 1) (by omega) (by omega) (fun j hj' => by
        by_cases z : j = k
        · rw [z]; exact g2
        · exact hj j (by omega))
theorem k_isHere {i b e : Nat} (hi : i < 6) (he : e ≤ 96) (hbe : b ≤ e) (e2 : mem 3 2 = nI b) (e3 : mem 3 3 = nI e) (e4 : ∀ j, j < e → mem 4 j = t j) (h1 : wdP t b e i → P 1 mem) (h0 : ¬ wdP t b e i → P 0 mem) : Ci mX6_isHere (d + 5) [.ref 3, .ref (100000 + 2 * i)] mem P := by
  have h5 := sLen_le hi
  have es : nI e - nI b = nI (e - b) := pk_sub hbe
  have ec : (nI (e - b) = nI (wf_sLen.getD i 0)) ↔ e - b = wf_sLen.getD i 0 := nI_eq (by omega) (by omega)
  refine E_X6_isHere _ hi (k_strLen hi ?_)
  rw [e2, e3, es, ec]
  exact ⟨fun g => here_loop (t := t) hi he hbe g e2 e4 h1 h0 5 0 (by omega) (by omega) (fun j hj => by omega), fun g => h0 (fun w => g w.1)⟩
/-- the key: the number of the first of the three words that is here -/
theorem k_keyHere {b e : Nat} (he : e ≤ 96) (hbe : b ≤ e) (e2 : mem 3 2 = nI b) (e3 : mem 3 3 = nI e) (e4 : ∀ j, j < e → mem 4 j = t j) (h0 : wdP t b e 0 → P 0 mem) (h1 : ¬ wdP t b e 0 → wdP t b e 1 → P 1 mem) (h2 : ¬ wdP t b e 0 → ¬ wdP t b e 1 → wdP t b e 2 → P 2 mem) (hn : ¬ wdP t b e 0 → ¬ wdP t b e 1 → ¬ wdP t b e 2 → P (-1) mem) : Ci mX6_keyHere (d + 6) [.ref 3] mem P :=
  E_X6_keyHere (k_isHere (t := t) (by decide) he hbe e2 e3 e4 (fun w => z1 (h0 w)) (fun n0' => z0 (k_isHere (t := t) (by decide) he hbe e2 e3 e4 (fun w => z1 (h1 n0' w)) (fun n1' => z0 (k_isHere (t := t) (by decide) he hbe e2 e3 e4 (fun w => z1 (h2 n0' n1' w)) (fun n2' => z0 (hn n0' n1' n2')))))))
end TXJ
