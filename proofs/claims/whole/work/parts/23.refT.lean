/-! the reference works a text -/
def sc (m m' : wf_Mem) : Prop := ∀ a, a ≠ 134 → a ≠ 135 → m' a = m a
theorem sc.rf {m : wf_Mem} : sc m m := fun _ _ _ => rfl
theorem sc.tr {a b c : wf_Mem} (h1 : sc a b) (h2 : sc b c) : sc a c := fun q g1 g2 => (h2 q g1 g2).trans (h1 q g1 g2)
theorem sc.s {m m' : wf_Mem} (h : sc m m') : m' 121 = m 121 := h 121 (by decide) (by decide)
theorem sc.ms {m : wf_Mem} {a k : Nat} {v : Int32} (h : a = 134 ∨ a = 135) : sc m (wf_ms m a k v) := fun q g1 g2 => wf_ms_other _ _ _ _ (by omega)
def pil (f : Nat → Int32) : List Int32 → Prop
  | [] => True
  | x :: s => f s.length = x ∧ pil f s
theorem pil_upd {f : Nat → Int32} {n : Nat} {v : Int32} : ∀ {s : List Int32}, s.length ≤ n → pil f s → pil (upd f n v) s
  | [], _, _ => trivial
  | x :: s, hn, h => by
    simp only [List.length_cons] at hn
    refine ⟨?_, pil_upd (by omega) h.2⟩
    have := h.1
    simp only [upd]
    rw [if_neg (by omega)]
    exact this
theorem pil_push {f : Nat → Int32} {s : List Int32} {v : Int32} (h : pil f s) : pil (upd f s.length v) (v :: s) := ⟨by simp [upd], pil_upd (Nat.le_refl _) h⟩
theorem ixs (a k : Nat) : nI a + 4 + 2 * nI k = nI (a + 4 + 2 * k) := by
  show nI a + nI 4 + nI 2 * nI k = _
  rw [pk_mul, nI_add, nI_add]
theorem nI_2 (a : Nat) : nI a + 2 = nI (a + 2) := nI_add a 2
theorem dvm1 (x : Int32) : x / (-1) = 0 - x := by
  have h : ∀ y : Int32, y = -1 → x / y = 0 - x := by
    intro y hy
    rw [← Int32.toInt_inj, Int32.toInt_div, Int32.toInt_sub, hy]
    have e1 : (-1 : Int32).toInt = -1 := by decide
    have e2 : (0 : Int32).toInt = 0 := by decide
    rw [e1, e2, Int.tdiv_neg, Int.tdiv_one]
    simp
  exact h _ rfl
section REFT
variable {d : Nat} {mem : wf_Mem} {P : Int32 → wf_Mem → Prop} {Q : wf_Mem → Prop}
theorem c_joined (c x y : Int32) (h : P (jnR c x y) mem) : Ci mX9_joined d [.int c, .int x, .int y] mem P := by
  unfold jnR at h
  refine E_X9_joined _ _ _ ⟨fun a => ?_, fun a => ⟨fun b => ?_, fun b => ⟨fun e => ?_, fun e => ⟨fun f => ?_, fun f => ⟨fun g => ?_, fun g => ⟨fun i => ?_, fun i => ⟨fun j => ?_, fun j => ⟨fun k => ?_, fun k => ?_⟩⟩⟩⟩⟩⟩⟩⟩
  · subst a
    refine ⟨fun p => ?_, fun p => ⟨fun q => ?_, fun q => ?_⟩⟩ <;> simpa [*] using h
  · subst b; simpa using h
  · subst e; simpa using h
  · subst f; simpa using h
  · subst g
    refine ⟨fun p => ⟨fun q => ⟨p, ?_⟩, fun q => ?_⟩, fun p => ?_⟩
    · simpa [p] using h
    · subst q
      rw [← dvm1]
      simpa using h
    · simpa [p] using h
  · subst i
    refine ⟨fun p => ?_, fun p => ?_⟩
    · have : ¬ x < y := Int32.not_lt.mpr p
      simpa [this] using h
    · have : x < y := Int32.not_le.mp p
      simpa [this] using h
  · subst j
    refine ⟨fun p => ?_, fun p => ?_⟩ <;> simpa [p] using h
  · subst k
    refine ⟨fun p => ?_, fun p => ?_⟩
    · have : ¬ y < x := Int32.not_lt.mpr p
      simpa [this] using h
    · have : y < x := Int32.not_le.mp p
      simpa [this] using h
  · simp only [a, b, e, f, g, i, j, k, if_false] at h
    refine ⟨fun p => ?_, fun p => ⟨fun q => ?_, fun q => ?_⟩⟩ <;> simpa [*] using h
theorem counts_loop {r : Rw} (hr : mem 121 = r) (hI : okR r) (key : Int32) (h : P (cntR r key (rT r)) mem) : ∀ (j t : Nat), t + j = rT r → Vw (Ni (d + 1) P) mX9_counts 4 [(0, .ref 120), (1, .int key), (2, .int (cntR r key t)), (3, .int (nI t))] [] mem := by
  obtain ⟨h2, h2'⟩ := hI.2.2.1
  intro j
  induction j with
  | zero =>
    intro t ht
    refine b_X9_counts_4 _ _ _ _ (br_t ?_ ?_)
    · rw [hr, h2]; exact nI_le (by omega) (by omega)
    · have : t = rT r := by omega
      rw [this]; exact h
  | succ j ih =>
    intro t ht
    refine b_X9_counts_4 _ _ _ _ (br_f ?_ (c_textAt t ⟨vin (by omega), ?_⟩))
    · rw [hr, h2]; exact nI_ge (by omega) (by omega)
    · have e1 : cntR r key (t + 1) = if r (88 + 200 * t) = key then nI t else cntR r key t := rfl
      have hn := ih (t + 1) (by omega)
      rw [nI_clamp (by omega), hr, nI_1]
      rw [e1] at hn
      exact ⟨fun c => by rw [if_neg c] at hn; exact hn, fun c => by rw [if_pos c] at hn; exact hn⟩
theorem c_counts {r : Rw} (hr : mem 121 = r) (hI : okR r) (key : Int32) (h : P (cntR r key (rT r)) mem) : Ci mX9_counts (d + 1) [.ref 120, .int key] mem P :=
  E_X9_counts _ (counts_loop hr hI key h (rT r) 0 (by omega))
theorem txR_drop {r : Rw} {t k : Nat} (h : k < mnR r t) : (txR r t).drop k = stR r t k :: (txR r t).drop (k + 1) := by
  have hl : k < (txR r t).length := by simp [txR, h]
  rw [List.drop_eq_getElem_cons hl]
  simp [txR]
theorem worked_loop {r : Rw} {t : Nat} (hT : t < 14) (hO : okT r t) (a b c : Int32)
 :
    ∀ (j k : Nat) (stk : List Int32) (mem : wf_Mem), k + j = mnR r t → mem 121 = r → (∀ q, okS (r (88 + 200 * t)) q → q.1 = 1 → mem 134 q.2.toNatClampNeg = nmK (r (88 + 200 * t)) a b c q.2) → htS ((txR r t).drop k) stk.length = some 1 → stk.length ≤ 96 → pil (mem 135) stk →
      (∀ mem', sc mem mem' → P ((evS (nmK (r (88 + 200 * t)) a b c) ((txR r t).drop k) stk).headD 0) mem') →
      Vw (Ni (d + 1) P) mX9_worked 4 [(0, .ref 120), (1, .int (nI t)), (2, .int (nI stk.length)), (3, .int (nI k))] [] mem := by
  obtain ⟨hkey, hm, hm96, hst, -⟩ := hO
  intro j
  induction j with
  | zero =>
    intro k stk mem hk hr hnm hht hs hp h
    refine b_X9_worked_4 _ _ _ _ (c_textAt t ?_)
    rw [nI_2, nI_clamp (by omega), hr, hm]
    refine ⟨vin (by omega), br_t (nI_le (by omega) (by omega)) ?_⟩
    have hd : (txR r t).drop k = [] := List.drop_eq_nil_iff.mpr (by simp [txR]; omega)
    rw [hd] at hht h
    simp only [htS, Option.some.injEq] at hht
    have h := h mem sc.rf
    match stk, hht, hp, h with
    | [x], _, hp, h =>
      have e : mem 135 0 = x := hp.1
      rw [e]
      exact h
  | succ j ih =>
    intro k stk mem hk hr hnm hht hs hp h
    have hkm : k < mnR r t := by omega
    rw [txR_drop hkm] at hht h
    have hok := hst k hkm
    refine b_X9_worked_4 _ _ _ _ (c_textAt t ?_)
    rw [nI_2, nI_clamp (by omega), hr, hm]
    refine ⟨vin (by omega), br_f (nI_ge (by omega) (by omega)) (c_textAt t ?_)⟩
    rw [ixs, nI_clamp (by omega), hr]
    refine ⟨vin (by omega), fun w hw => c_textAt t ?_⟩
    rw [ixs, nI_1, nI_clamp (by omega), hr]
    refine ⟨vin (by omega), fun v hv => ?_⟩
    replace hw : w = (stR r t k).1 := hw
    replace hv : v = (stR r t k).2 := hv
    generalize stR r t k = q at hht h hok hw hv
    subst hw hv
    simp only [htS, evS] at hht h
    refine ⟨fun c2 => ?_, fun c2 => ?_⟩
    · rw [if_pos c2] at hht h
      refine ⟨fun c3 => ?_, fun c3 => ?_⟩
      · rw [if_neg c3] at hht h
        match stk, hht, hs, hp, h with
        | [], hht, _, _, _ => simp at hht
        | [x], hht, _, _, _ => simp at hht
        | y :: x :: s, hht, hs, hp, h =>
          simp only [List.length_cons] at hht hs ⊢
          rw [if_pos (by omega)] at hht
          rw [pk_m1, nI_pred, nI_clamp (by omega), nI_clamp (by omega)]
          have ex : mem 135 s.length = x := hp.2.1
          have ey : mem 135 (s.length + 1) = y := hp.1
          rw [ex, ey]
          refine ⟨vin (by omega), vin (by omega), c_joined _ _ _ ⟨vin (by omega), fun m2 e2 => ?_⟩⟩
          subst e2
          rw [nI_1]
          have := ih (k + 1) (jnR q.2 x y :: s) (wf_ms mem 135 s.length (jnR q.2 x y)) (by omega) (by rw [wf_ms_other _ _ _ _ (by decide)]; exact hr) (by rw [wf_ms_other _ _ _ _ (by decide)]; exact hnm) hht (by simp only [List.length_cons]; omega) (by rw [wf_ms_same]; exact pil_push hp.2.2) (fun m' hm' => h m' ((sc.ms (Or.inr rfl)).tr hm'))
          exact this
      · rw [if_pos c3] at hht h
        match stk, hht, hs, hp, h with
        | [], hht, _, _, _ => simp at hht
        | x :: s, hht, hs, hp, h =>
          simp only [List.length_cons] at hht hs ⊢
          rw [if_pos (by omega)] at hht
          rw [nI_pred, nI_clamp (by omega)]
          have ex : mem 135 s.length = x := hp.1
          rw [ex]
          have go : ∀ z : Int32, z = (if x = 0 then 1 else 0) → Vw (Ni (d + 1) P) mX9_worked 4 [(0, .ref 120), (1, .int (nI t)), (2, .int (nI (s.length + 1))), (3, .int (nI k + 1))] [] (wf_ms mem 135 s.length z) := by
            intro z hz
            rw [nI_1]
            have := ih (k + 1) (z :: s) (wf_ms mem 135 s.length z) (by omega) (by rw [wf_ms_other _ _ _ _ (by decide)]; exact hr) (by rw [wf_ms_other _ _ _ _ (by decide)]; exact hnm) hht (by simp only [List.length_cons]; omega) (by rw [wf_ms_same]; exact pil_push hp.2) (fun m' hm' => by rw [hz]; exact h m' ((sc.ms (Or.inr rfl)).tr hm'))
            exact this
          refine ⟨vin (by omega), fun c4 => ⟨vin (by omega), fun m2 e2 => ?_⟩, fun c4 => ⟨vin (by omega), fun m2 e2 => ?_⟩⟩
          · subst e2; exact go 0 (by rw [if_neg c4])
          · subst e2; exact go 1 (by rw [if_pos c4])
    · rw [if_neg c2] at hht h
      by_cases hl : stk.length < 96
      · rw [if_pos hl] at hht
        have go : ∀ z : Int32, z = (if q.1 = 0 then q.2 else nmK (r (88 + 200 * t)) a b c q.2) → Vw (Ni (d + 1) P) mX9_worked 4 [(0, .ref 120), (1, .int (nI t)), (2, .int (nI stk.length + 1)), (3, .int (nI k + 1))] [] (wf_ms mem 135 stk.length z) := by
          intro z hz
          rw [nI_1, nI_1]
          have := ih (k + 1) (z :: stk) (wf_ms mem 135 stk.length z) (by omega) (by rw [wf_ms_other _ _ _ _ (by decide)]; exact hr) (by rw [wf_ms_other _ _ _ _ (by decide)]; exact hnm) hht (by simp only [List.length_cons]; omega) (by rw [wf_ms_same]; exact pil_push hp) (fun m' hm' => by rw [hz]; exact h m' ((sc.ms (Or.inr rfl)).tr hm'))
          exact this
        rw [nI_clamp (by omega : stk.length < 2 ^ 31)]
        refine ⟨fun c3 => ?_, fun c3 => ⟨vin (by omega), fun m2 e2 => ?_⟩⟩
        · have h1 : q.1 = 1 := by
            rcases hok with g | g | g
            · exact absurd g.1 c3
            · exact g.1
            · exact absurd g.1 c2
          refine ⟨?_, vin (by omega), fun m2 e2 => ?_⟩
          · have hv : q.2 = 102 ∨ q.2 = 110 ∨ q.2 = 119 ∨ q.2 = 103 ∨ q.2 = 116 ∨ q.2 = 104 ∨ q.2 = 101 := by
              rcases hok with g | g | g
              · exact absurd g.1 c3
              · rcases g.2 with ⟨-, g | g | g⟩ | ⟨-, g | g | g⟩ | ⟨-, g | g⟩ <;> simp [g]
              · exact absurd g.1 c2
            rcases hv with g | g | g | g | g | g | g <;> rw [g] <;> exact wf_in_lit (by decide)
          · subst e2
            rw [hnm q hok h1]
            exact go _ (by rw [if_neg c3])
        · subst e2
          exact go _ (by rw [if_pos c3])
      · rw [if_neg hl] at hht
        cases hht
theorem c_worked {r : Rw} {t : Nat} (hr : mem 121 = r) (hT : t < 14) (hO : okT r t) (a b c : Int32) (hnm : ∀ q, okS (r (88 + 200 * t)) q → q.1 = 1 → mem 134 q.2.toNatClampNeg = nmK (r (88 + 200 * t)) a b c q.2)
    (h : ∀ mem', sc mem mem' → P (evT r t a b c) mem') : Ci mX9_worked (d + 1) [.ref 120, .int (nI t)] mem P := by
  refine E_X9_worked _ ?_
  have := worked_loop (d := d) (P := P) hT hO a b c (mnR r t) 0 [] mem (by omega) hr hnm (by simpa using hO.2.2.2.2) (by simp) trivial (by simpa [evT] using h)
  exact this
end REFT
