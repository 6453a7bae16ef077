/-! THE MACHINE as a function: what waits, the steps, parens, nots, whether a piece is wanted; at the piece that begins at B -/
abbrev MSt : Type := List Int32 × List (Int32 × Int32) × Nat × Nat × Bool
def is3b : List Int32 → Bool
  | [] => false
  | c :: _ => decide (lvl c = 3)
theorem is3b_1 {s : List Int32} (h : is3 s) : is3b s = true := by
  cases s with
  | nil => exact h.elim
  | cons c s => exact decide_eq_true (p := lvl c = 3) h
theorem is3b_0 {s : List Int32} (h : ¬ is3 s) : ¬ is3b s = true := by
  cases s with
  | nil => exact fun q => absurd q (by decide)
  | cons c s => exact fun q => h (of_decide_eq_true (p := lvl c = 3) q)
def enM (st : List Int32) (o : List (Int32 × Int32)) (par nots : Nat) : MSt := ((edS st o).1, (edS st o).2, par, nots - ntS st, false)
def mstep (t : Nat → Int32) (n : Nat) (key : Int32) (st : List Int32) (o : List (Int32 × Int32)) (par nots : Nat) (want : Bool) (B : Nat) : Option MSt :=
  if want = true then
    (if srt1 (t B) = 1 then (if teB t n B - B = 1 ∧ nmO key (t B) then some (enM st (o ++ [(1, t B)]) par nots) else none)
    else if srt1 (t B) = 2 then (if teB t n B - B ≤ 4 then some (enM st (o ++ [(0, nuA t B (teB t n B - B))]) par nots) else none)
    else if t B = 40 ∧ par < 8 then some (40 :: st, o, par + 1, nots, true)
    else if t B = 33 ∧ nots < 8 then some (33 :: st, o, par, nots + 1, true)
    else none)
  else
    (if t B = 41 then (if 0 < par then some (enM (tlS (clS 1 st o).1) (clS 1 st o).2 (par - 1) nots) else none)
    else if lvl (t B) = 0 then none
    else if lvl (t B) = 3 then (if is3b (clS 4 st o).1 = true then none else some (t B :: (clS 4 st o).1, (clS 4 st o).2, par, nots, true))
    else some (t B :: (clS (lvl (t B)) st o).1, (clS (lvl (t B)) st o).2, par, nots, true))
def nxB (t : Nat → Int32) (n B : Nat) : Nat := tb t n (teB t n B)
def mrun (t : Nat → Int32) (n : Nat) (key : Int32) : Nat → List Int32 → List (Int32 × Int32) → Nat → Nat → Bool → Nat → Nat ⊕ List (Int32 × Int32)
  | 0, _, _, _, _, _, B => .inl B
  | f + 1, st, o, par, nots, want, B =>
    if B < n then (match mstep t n key st o par nots want B with
      | none => .inl B
      | some q => mrun t n key f q.1 q.2.1 q.2.2.1 q.2.2.2.1 q.2.2.2.2 (nxB t n B))
    else if want = true ∨ 0 < par then .inl B else .inr (clS 1 st o).2
def run (t : Nat → Int32) (n : Nat) (key : Int32) (st : List Int32) (o : List (Int32 × Int32)) (par nots : Nat) (want : Bool) (B : Nat) : Nat ⊕ List (Int32 × Int32) := mrun t n key (n + 1 - B) st o par nots want B
theorem nxB_bd {t : Nat → Int32} {n B : Nat} (h : B < n) : B < nxB t n B ∧ nxB t n B ≤ n := by
  have a := te_bd (t := t) (n := n) (b := B) (by omega)
  have b := tb_bd (t := t) (n := n) n (teB t n B) (by omega) a.2.1
  unfold nxB
  have := a.2.2 h
  omega
theorem mrun_fu {t : Nat → Int32} {n : Nat} {key : Int32} : ∀ (f g : Nat) (st : List Int32) (o : List (Int32 × Int32)) (par nots : Nat) (want : Bool) (B : Nat), n + 1 - B ≤ f → n + 1 - B ≤ g → B ≤ n → mrun t n key f st o par nots want B = mrun t n key g st o par nots want B
  | 0, g, st, o, par, nots, want, B, h1, h2, h3 => by omega
  | f + 1, 0, st, o, par, nots, want, B, h1, h2, h3 => by omega
  | f + 1, g + 1, st, o, par, nots, want, B, h1, h2, h3 => by
    unfold mrun
    by_cases c : B < n
    · rw [if_pos c, if_pos c]
      have b := nxB_bd (t := t) c
      cases mstep t n key st o par nots want B with
      | none => rfl
      | some q => exact mrun_fu f g _ _ _ _ _ _ (by omega) (by omega) b.2
    · rw [if_neg c, if_neg c]
section TXL
variable {t : Nat → Int32} {n : Nat} {key : Int32} {st : List Int32} {o : List (Int32 × Int32)} {par nots B : Nat} {want : Bool}
theorem run_none (h : B < n) (e : mstep t n key st o par nots want B = none) : run t n key st o par nots want B = .inl B := by
  unfold run
  rw [show n + 1 - B = (n - B) + 1 by omega]
  unfold mrun
  rw [if_pos h, e]
theorem run_some {st' : List Int32} {o' : List (Int32 × Int32)} {par' nots' : Nat} {want' : Bool} (h : B < n) (e : mstep t n key st o par nots want B = some (st', o', par', nots', want')) : run t n key st o par nots want B = run t n key st' o' par' nots' want' (nxB t n B) := by
  have b := nxB_bd (t := t) h
  have : run t n key st o par nots want B = mrun t n key (n - B) st' o' par' nots' want' (nxB t n B) := by
    unfold run
    rw [show n + 1 - B = (n - B) + 1 by omega]
    show (if B < n then _ else _) = _
    rw [if_pos h, e]
  rw [this]
  exact mrun_fu _ _ _ _ _ _ _ _ (by omega) (by omega) b.2
theorem run_endF (h : ¬ B < n) (c : want = true ∨ 0 < par) : run t n key st o par nots want B = .inl B := by
  unfold run
  by_cases e : n + 1 - B = 0
  · rw [e]; rfl
  · rw [show n + 1 - B = (n - B) + 1 by omega]
    unfold mrun
    rw [if_neg h, if_pos c]
theorem run_endS (h : B = n) : run t n key st o 0 nots false B = .inr (clS 1 st o).2 := by
  unfold run
  rw [show n + 1 - B = (n - B) + 1 by omega]
  unfold mrun
  have c : ¬ ((false : Bool) = true ∨ 0 < 0) := fun q => q.elim (fun w => absurd w (by decide)) (fun w => absurd w (by decide))
  rw [if_neg (by omega), if_neg c]
/-! the steps one by one -/
theorem ms_name (h1 : srt1 (t B) = 1) (h2 : teB t n B - B = 1 ∧ nmO key (t B)) : mstep t n key st o par nots true B = some (enM st (o ++ [(1, t B)]) par nots) := by
  unfold mstep; rw [if_pos rfl, if_pos h1, if_pos h2]
theorem ms_nameF (h1 : srt1 (t B) = 1) (h2 : ¬ (teB t n B - B = 1 ∧ nmO key (t B))) : mstep t n key st o par nots true B = none := by
  unfold mstep; rw [if_pos rfl, if_pos h1, if_neg h2]
theorem ms_num (h1 : srt1 (t B) = 2) (h2 : teB t n B - B ≤ 4) : mstep t n key st o par nots true B = some (enM st (o ++ [(0, nuA t B (teB t n B - B))]) par nots) := by
  unfold mstep; rw [if_pos rfl, if_neg (by rw [h1]; decide), if_pos h1, if_pos h2]
theorem ms_numF (h1 : srt1 (t B) = 2) (h2 : ¬ teB t n B - B ≤ 4) : mstep t n key st o par nots true B = none := by
  unfold mstep; rw [if_pos rfl, if_neg (by rw [h1]; decide), if_pos h1, if_neg h2]
theorem ms_par (h1 : t B = 40) (h2 : par < 8) : mstep t n key st o par nots true B = some (40 :: st, o, par + 1, nots, true) := by
  unfold mstep; rw [if_pos rfl, if_neg (by rw [h1]; decide), if_neg (by rw [h1]; decide), if_pos ⟨h1, h2⟩]
theorem ms_not (h1 : t B = 33) (h2 : nots < 8) : mstep t n key st o par nots true B = some (33 :: st, o, par, nots + 1, true) := by
  unfold mstep; rw [if_pos rfl, if_neg (by rw [h1]; decide), if_neg (by rw [h1]; decide), if_neg (fun q => absurd (h1.symm.trans q.1) (by decide)), if_pos ⟨h1, h2⟩]
theorem ms_opF (h0 : srt1 (t B) = 0) (h1 : ¬ (t B = 40 ∧ par < 8)) (h2 : ¬ (t B = 33 ∧ nots < 8)) : mstep t n key st o par nots true B = none := by
  unfold mstep; rw [if_pos rfl, if_neg (by rw [h0]; decide), if_neg (by rw [h0]; decide), if_neg h1, if_neg h2]
theorem ms_cls (h1 : t B = 41) (h2 : 0 < par) : mstep t n key st o par nots false B = some (enM (tlS (clS 1 st o).1) (clS 1 st o).2 (par - 1) nots) := by
  unfold mstep; rw [if_neg (by decide), if_pos h1, if_pos h2]
theorem ms_clsF (h1 : t B = 41) (h2 : par = 0) : mstep t n key st o par nots false B = none := by
  unfold mstep; rw [if_neg (by decide), if_pos h1, if_neg (by omega)]
theorem ms_sgF (h1 : ¬ t B = 41) (h2 : lvl (t B) = 0) : mstep t n key st o par nots false B = none := by
  unfold mstep; rw [if_neg (by decide), if_neg h1, if_pos h2]
theorem ms_sg (h1 : ¬ t B = 41) (h2 : ¬ lvl (t B) = 0) (h3 : ¬ lvl (t B) = 3) : mstep t n key st o par nots false B = some (t B :: (clS (lvl (t B)) st o).1, (clS (lvl (t B)) st o).2, par, nots, true) := by
  unfold mstep; rw [if_neg (by decide), if_neg h1, if_neg h2, if_neg h3]
theorem ms_s3 (h1 : ¬ t B = 41) (h3 : lvl (t B) = 3) (h4 : ¬ is3 (clS 4 st o).1) : mstep t n key st o par nots false B = some (t B :: (clS 4 st o).1, (clS 4 st o).2, par, nots, true) := by
  unfold mstep; rw [if_neg (by decide), if_neg h1, if_neg (by rw [h3]; decide), if_pos h3, if_neg (is3b_0 h4)]
theorem ms_s3F (h1 : ¬ t B = 41) (h3 : lvl (t B) = 3) (h4 : is3 (clS 4 st o).1) : mstep t n key st o par nots false B = none := by
  unfold mstep; rw [if_neg (by decide), if_neg h1, if_neg (by rw [h3]; decide), if_pos h3, if_pos (is3b_1 h4)]
end TXL
/-! what the machine keeps to -/
def cn33 : List Int32 → Nat
  | [] => 0
  | c :: s => (if c = 33 then 1 else 0) + cn33 s
theorem nt_cn : ∀ s : List Int32, ntS s ≤ cn33 s
  | [] => Nat.le_refl _
  | c :: s => by
    have := nt_cn s
    unfold ntS cn33
    by_cases h : c = 33
    · rw [if_pos h, if_pos h]; omega
    · rw [if_neg h, if_neg h]; omega
theorem ed_cn : ∀ (s : List Int32) (o : List (Int32 × Int32)), cn33 (edS s o).1 + ntS s = cn33 s
  | [], o => rfl
  | c :: s, o => by
    unfold edS ntS
    by_cases h : c = 33
    · rw [if_pos h, if_pos h]
      have := ed_cn s (o ++ [(2, 33)])
      have e : cn33 (c :: s) = 1 + cn33 s := by show (if c = 33 then 1 else 0) + cn33 s = _; rw [if_pos h]
      omega
    · rw [if_neg h, if_neg h]; rfl
theorem ed_len : ∀ (s : List Int32) (o : List (Int32 × Int32)), (edS s o).2.length + (edS s o).1.length = o.length + s.length
  | [], o => rfl
  | c :: s, o => by
    unfold edS
    by_cases h : c = 33
    · rw [if_pos h, ed_len s]; simp; omega
    · rw [if_neg h]
theorem cl_cn (l : Int32) : ∀ (s : List Int32) (o : List (Int32 × Int32)), cn33 (clS l s o).1 ≤ cn33 s
  | [], o => Nat.le_refl _
  | c :: s, o => by
    unfold clS
    by_cases h : lvl c < l
    · rw [if_pos h]; exact Nat.le_refl _
    · rw [if_neg h]
      have := cl_cn l s (o ++ [(2, c)])
      have e : cn33 (c :: s) = (if c = 33 then 1 else 0) + cn33 s := rfl
      omega
theorem tl_cn (s : List Int32) : cn33 (tlS s) ≤ cn33 s := by
  cases s with
  | nil => exact Nat.le_refl _
  | cons c s => show cn33 s ≤ (if c = 33 then 1 else 0) + cn33 s; omega
theorem tl_len (s : List Int32) : (tlS s).length ≤ s.length := by
  cases s with
  | nil => exact Nat.le_refl _
  | cons c s => show s.length ≤ s.length + 1; omega
theorem lv_33 {c : Int32} (h : ¬ lvl c = 0) : ¬ c = 33 := fun e => h (by rw [e]; decide)
theorem cn_cons {c : Int32} (h : ¬ c = 33) (s : List Int32) : cn33 (c :: s) = cn33 s := by show (if c = 33 then 1 else 0) + cn33 s = _; rw [if_neg h]; omega
def MI (st : List Int32) (o : List (Int32 × Int32)) (par nots k : Nat) : Prop := par ≤ 8 ∧ nots ≤ 8 ∧ cn33 st ≤ nots ∧ o.length + st.length ≤ k
theorem enM_inv {st : List Int32} {o : List (Int32 × Int32)} {par nots k : Nat} (h : MI st o par nots k) : MI (enM st o par nots).1 (enM st o par nots).2.1 (enM st o par nots).2.2.1 (enM st o par nots).2.2.2.1 k := by
  obtain ⟨a, b, c, e⟩ := h
  have h1 := ed_cn st o
  have h2 := ed_len st o
  refine ⟨a, ?_, ?_, ?_⟩
  · show nots - ntS st ≤ 8; omega
  · show cn33 (edS st o).1 ≤ nots - ntS st; omega
  · show (edS st o).2.length + (edS st o).1.length ≤ k; omega
theorem ms_inv {t : Nat → Int32} {n : Nat} {key : Int32} {st : List Int32} {o : List (Int32 × Int32)} {par nots B k : Nat} {want : Bool} {q : MSt} (e : mstep t n key st o par nots want B = some q) (h : MI st o par nots k) : MI q.1 q.2.1 q.2.2.1 q.2.2.2.1 (k + 1) := by
  obtain ⟨a, b, c, f⟩ := h
  unfold mstep at e
  by_cases w : want = true
  · rw [if_pos w] at e
    by_cases s1 : srt1 (t B) = 1
    · rw [if_pos s1] at e
      by_cases z : teB t n B - B = 1 ∧ nmO key (t B)
      · rw [if_pos z] at e
        cases e
        exact enM_inv ⟨a, b, c, by simp; omega⟩
      · rw [if_neg z] at e; cases e
    · rw [if_neg s1] at e
      by_cases s2 : srt1 (t B) = 2
      · rw [if_pos s2] at e
        by_cases z : teB t n B - B ≤ 4
        · rw [if_pos z] at e
          cases e
          exact enM_inv ⟨a, b, c, by simp; omega⟩
        · rw [if_neg z] at e; cases e
      · rw [if_neg s2] at e
        by_cases s3 : t B = 40 ∧ par < 8
        · rw [if_pos s3] at e
          cases e
          exact ⟨by show par + 1 ≤ 8; omega, b, by rw [cn_cons (by decide)]; exact c, by show o.length + (st.length + 1) ≤ k + 1; omega⟩
        · rw [if_neg s3] at e
          by_cases s4 : t B = 33 ∧ nots < 8
          · rw [if_pos s4] at e
            cases e
            exact ⟨a, by show nots + 1 ≤ 8; omega, by show 1 + cn33 st ≤ nots + 1; omega, by show o.length + (st.length + 1) ≤ k + 1; omega⟩
          · rw [if_neg s4] at e; cases e
  · rw [if_neg w] at e
    by_cases s1 : t B = 41
    · rw [if_pos s1] at e
      by_cases z : 0 < par
      · rw [if_pos z] at e
        cases e
        refine enM_inv ⟨by omega, b, ?_, ?_⟩
        · have := tl_cn (clS 1 st o).1
          have := cl_cn 1 st o
          omega
        · have := tl_len (clS 1 st o).1
          have := clS_len 1 st o
          omega
      · rw [if_neg z] at e; cases e
    · rw [if_neg s1] at e
      by_cases s2 : lvl (t B) = 0
      · rw [if_pos s2] at e; cases e
      · rw [if_neg s2] at e
        have fin : ∀ l : Int32, MI (t B :: (clS l st o).1) (clS l st o).2 par nots (k + 1) := fun l => by
          have := cl_cn l st o
          have := clS_len l st o
          exact ⟨a, b, by rw [cn_cons (lv_33 s2)]; omega, by show (clS l st o).2.length + ((clS l st o).1.length + 1) ≤ k + 1; omega⟩
        by_cases s3 : lvl (t B) = 3
        · rw [if_pos s3] at e
          by_cases z : is3b (clS 4 st o).1 = true
          · rw [if_pos z] at e; cases e
          · rw [if_neg z] at e
            cases e
            exact fin 4
        · rw [if_neg s3] at e
          cases e
          exact fin _
