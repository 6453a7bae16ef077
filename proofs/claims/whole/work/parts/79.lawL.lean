/-! the law: its loop -/
section LAWL
variable {b L : Nat} {xs : Nat → Int32}
theorem law_cmp {i L : Nat} (hi : i ≤ 3080) (hL : L ≤ 3072) : (nI L - 6 < nI i) ↔ L < i + 6 := by
  have e : nI L - 6 < nI i ↔ nI L - 6 < nI i := Iff.rfl
  rw [Int32.lt_iff_toInt_lt]
  have h1 : (nI i).toInt = i := nI_toInt (by omega)
  have h2 : (nI L).toInt = L := nI_toInt (by omega)
  have h3 : (nI L - 6).toInt = (L : Int) - 6 := by
    rw [Int32.toInt_sub, h2, show (6 : Int32).toInt = 6 from rfl]
    rw [Int.bmod_eq_of_le] <;> omega
  rw [h1, h3]
  omega
theorem law_loop (hL : L ≤ 3072) : ∀ (f i : Nat) (mem : wf_Mem), L + 6 - i ≤ f → i ≤ 3080 → INV mem → Vw (NLaw b L xs) mL_law 18 [(0, .ref 90002), (1, .ref 0), (2, .ref 120), (3, .int (nI i))] [] mem
  | f, i, mem, hf, hi, hI => by
    refine V_iload_n 3 dL_law_18 rfl ?_
    refine V_aload_n 0 dL_law_19 rfl ?_
    refine V_slenL dL_law_20 ?_
    refine V_bipush dL_law_21 rfl ?_
    refine V_isub dL_law_23 ?_
    refine V_icmp_gt (tgt := 1451) dL_law_24 rfl ⟨fun _ => ?_, fun c => ?_⟩
    · refine V_iconst dL_law_1451 rfl ?_
      exact V_lret dL_law_1452
    · have hi6 : i + 6 ≤ L := by
        have := mt (law_cmp hi hL).mpr c
        omega
      refine V_aload_n 0 dL_law_27 rfl ?_
      refine V_iload_n 3 dL_law_28 rfl ?_
      refine V_sld dL_law_29 rfl (by omega) hL ?_
      refine V_bipush dL_law_30 rfl ?_
      refine V_iand dL_law_32 ?_
      refine law_sw hL hi6 hI _ (fun m hm => ?_)
      refine V_iinc 3 dL_law_1445 rfl (show nI i + Int32.ofInt 6 = nI (i + 6) from nI_add i 6) (by decide) rfl rfl ?_
      refine V_goto (tgt := 18) dL_law_1448 rfl ?_
      cases f with
      | zero => omega
      | succ f => exact law_loop hL f (i + 6) m (by omega) (by omega) hm
end LAWL
