/-! the class's machine: steps are added, signs are closed -/
theorem getD_app (o : List (Int32 × Int32)) (q : Int32 × Int32) (i : Nat) (h : i < o.length + 1) : (o ++ [q]).getD i (0, 0) = if i = o.length then q else o.getD i (0, 0) := by
  by_cases e : i = o.length
  · rw [if_pos e, e]; simp
  · rw [if_neg e]
    have : i < o.length := by omega
    simp [List.getElem?_append_left this]
section TXE
variable {d : Nat} {mem : wf_Mem} {P : Int32 → wf_Mem → Prop} {Q : wf_Mem → Prop} {r : Rw} {t : Nat → Int32}
theorem k_addCode {x : Nat} (hx : wf_sh x = (2, 0)) {n : Nat} (hn : n < 96) (e : mem x 3 = nI n) (c : Int32) (h : ∀ m', m' = wf_ms (wf_ms mem (x + 1) n c) x 3 (nI (n + 1)) → Q m') : Cv mX2_addCode d [.ref x, .int c] mem Q := by
  have ec : (96 ≤ nI n) ↔ 96 ≤ n := nI_leI (a := 96) (by decide) (by omega)
  refine E_X2_addCode _ hx _ ?_
  rw [e, ec]
  refine ⟨fun g => by omega, fun g => ⟨vin (by omega), fun m1 f1 m2 f2 => h m2 ?_⟩⟩
  rw [nI_clamp (by omega)] at f1
  have a : m1 x 3 = nI n := by rw [f1, msA _ _ _ _ (by omega)]; exact e
  rw [f2, a, nI_1, f1]
theorem OU.add {x : Nat} {key : Int32} {o : List (Int32 × Int32)} {m : wf_Mem} (h : OU x key o m) (q : Int32 × Int32) {m' : wf_Mem} (e0 : m' x 0 = m x 0) (e1 : m' x 1 = nI (lvs (o ++ [q]))) (e3 : m' x 3 = nI (o.length + 1)) (ec : ∀ i, m' (x + 1) i = if i = o.length then encS key q else m (x + 1) i) : OU x key (o ++ [q]) m' := by
  obtain ⟨a, b, c, e⟩ := h
  refine ⟨e0.trans a, e1, by rw [e3]; simp, fun i hi => ?_⟩
  have hi' : i < o.length + 1 := by simpa using hi
  rw [ec, getD_app o q i hi']
  by_cases z : i = o.length
  · rw [if_pos z, if_pos z]
  · rw [if_neg z, if_neg z]; exact e i (by omega)
/-- frame: only the law x -/
def Lw (x : Nat) (m m' : wf_Mem) : Prop := ∀ a, a ≠ x → a ≠ x + 1 → m' a = m a
theorem k_addSign {x : Nat} (hx : wf_sh x = (2, 0)) {key : Int32} {o : List (Int32 × Int32)} (ho : OU x key o mem) (hl : o.length < 96) (c : Int32) (h : ∀ m', Lw x mem m' → OU x key (o ++ [(2, c)]) m' → Q m') : Cv mX2_addSign (d + 1) [.ref x, .int c] mem Q := by
  refine E_X2_addSign _ hx _ (k_addCode hx hl ho.2.2.1 _ (fun m' f => h m' (fun a h1 h2 => by rw [f, wf_ms_other _ _ _ _ h1, wf_ms_other _ _ _ _ h2]) (ho.add _ ?_ ?_ ?_ (fun i => ?_))))
  · rw [f, msK _ _ _ _ (by decide), msA _ _ _ _ (by omega)]
  · rw [f, msK _ _ _ _ (by decide), msA _ _ _ _ (by omega), lvs_app, ho.2.1]; rfl
  · rw [f, msS]
  · rw [f, msA _ _ _ _ (by omega)]
    by_cases z : i = o.length
    · rw [if_pos z, z, msS]; unfold encS; rw [if_neg (show ¬ (2 : Int32) = 0 by decide), if_pos rfl]
    · rw [if_neg z, msK _ _ _ _ z]
theorem k_addLeaf {x : Nat} {key : Int32} {o : List (Int32 × Int32)} (ho : OU x key o mem) (q : Int32 × Int32) (hq : ¬ q.1 = 2) {m1 m2 : wf_Mem} (f1 : m1 = wf_ms (wf_ms mem (x + 1) o.length (encS key q)) x 3 (nI (o.length + 1))) (f2 : m2 = wf_ms m1 x 1 (m1 x 1 + 1)) : Lw x mem m2 ∧ OU x key (o ++ [q]) m2 := by
  have a1 : m1 x 1 = nI (lvs o) := by rw [f1, msK _ _ _ _ (by decide), msA _ _ _ _ (by omega)]; exact ho.2.1
  rw [a1, nI_1] at f2
  refine ⟨fun a h1 h2 => by rw [f2, wf_ms_other _ _ _ _ h1, f1, wf_ms_other _ _ _ _ h1, wf_ms_other _ _ _ _ h2], ho.add _ ?_ ?_ ?_ (fun i => ?_)⟩
  · rw [f2, msK _ _ _ _ (by decide), f1, msK _ _ _ _ (by decide), msA _ _ _ _ (by omega)]
  · rw [f2, msS, lvs_app]
    have : lvs [q] = 1 := by show (if q.1 = 2 then 0 else 1) + 0 = 1; rw [if_neg hq]
    rw [this]
  · rw [f2, msK _ _ _ _ (by decide), f1, msS]
  · rw [f2, msA _ _ _ _ (by omega), f1, msA _ _ _ _ (by omega)]
    by_cases z : i = o.length
    · rw [if_pos z, z, msS]
    · rw [if_neg z, msK _ _ _ _ z]
theorem k_addNumber {x : Nat} (hx : wf_sh x = (2, 0)) {key : Int32} {o : List (Int32 × Int32)} (ho : OU x key o mem) (hl : o.length < 96) (c : Int32) (h : ∀ m', Lw x mem m' → OU x key (o ++ [(0, c)]) m' → Q m') : Cv mX2_addNumber (d + 1) [.ref x, .int c] mem Q :=
  E_X2_addNumber _ hx _ (k_addCode hx hl ho.2.2.1 _ (fun m1 f1 m2 f2 => by
    obtain ⟨a, b⟩ := k_addLeaf ho (0, c) (show ¬ (0 : Int32) = 2 by decide) (by rw [f1]; rfl) f2
    exact h m2 a b))
theorem k_addName {x : Nat} (hx : wf_sh x = (2, 0)) {key : Int32} {o : List (Int32 × Int32)} (ho : OU x key o mem) (hl : o.length < 96) (v c : Int32) (hv : -1 - v = encS key (1, c)) (h : ∀ m', Lw x mem m' → OU x key (o ++ [(1, c)]) m' → Q m') : Cv mX2_addName (d + 1) [.ref x, .int v] mem Q :=
  E_X2_addName _ hx _ (k_addCode hx hl ho.2.2.1 _ (fun m1 f1 m2 f2 => by
    obtain ⟨a, b⟩ := k_addLeaf ho (1, c) (by show ¬ (1 : Int32) = 2; decide) (by rw [f1, hv]) f2
    exact h m2 a b))
/-- frame of the machine: the law x, what waits, the tape's slots named -/
def Mc (x : Nat) (S : Nat → Prop) (m m' : wf_Mem) : Prop := (∀ a, a ≠ x → a ≠ x + 1 → a ≠ 3 → m' a = m a) ∧ ∀ j, ¬ S j → m' 3 j = m 3 j
theorem Mc.rf {x : Nat} {S : Nat → Prop} {m : wf_Mem} : Mc x S m m := ⟨fun _ _ _ _ => rfl, fun _ _ => rfl⟩
theorem Mc.tr {x : Nat} {S : Nat → Prop} {a b c : wf_Mem} (h1 : Mc x S a b) (h2 : Mc x S b c) : Mc x S a c := ⟨fun q g1 g2 g3 => (h2.1 q g1 g2 g3).trans (h1.1 q g1 g2 g3), fun j g => (h2.2 j g).trans (h1.2 j g)⟩
theorem clS_len (l : Int32) : ∀ (st : List Int32) (o : List (Int32 × Int32)), (clS l st o).2.length + (clS l st o).1.length = o.length + st.length
  | [], o => rfl
  | c :: s, o => by
    unfold clS
    split
    · rfl
    · rw [clS_len l s]; simp; omega
theorem k_closes {x : Nat} (hx : wf_sh x = (2, 0)) (hx3 : 5 < x) {key l : Int32} : ∀ (st : List Int32) (o : List (Int32 × Int32)) (mem : wf_Mem), SR st mem → OU x key o mem → o.length + st.length ≤ 96 → (∀ m', Mc x (fun j => j = 5) mem m' → SR (clS l st o).1 m' → OU x key (clS l st o).2 m' → Q m') → Vw (Nv (d + 2) Q) mX6_closesDownTo 0 [(0, .ref 3), (1, .int l), (2, .ref x)] [] mem
  | [], o, mem, hs, ho, hl, h => by
    refine b_X6_closesDownTo_0 _ _ _ hx ?_
    rw [hs.1]
    exact ⟨fun _ => h mem Mc.rf hs ho, fun c => absurd (by decide) c⟩
  | c :: s, o, mem, hs, ho, hl, h => by
    have hl' : o.length + (s.length + 1) ≤ 96 := hl
    have e1 : mem 3 5 = nI (s.length + 1) := hs.1
    have ec : (nI (s.length + 1) ≤ 0) ↔ s.length + 1 ≤ 0 := nI_leI (b := 0) (by omega) (by decide)
    refine b_X6_closesDownTo_0 _ _ _ hx ?_
    rw [e1, ec, nI_pred, nI_clamp (by omega), hs.top]
    refine ⟨fun g => by omega, fun g => ⟨vin (by omega), k_levelOf _ ⟨fun g2 => ?_, fun g2 m1 f1 => ?_⟩⟩⟩
    · have e : clS l (c :: s) o = (c :: s, o) := by unfold clS; rw [if_pos g2]
      rw [e] at h
      exact h mem Mc.rf hs ho
    · have e : clS l (c :: s) o = clS l s (o ++ [(2, c)]) := by
        show (if lvl c < l then _ else _) = _
        rw [if_neg g2]
      rw [e] at h
      rw [e1, nI_pred] at f1
      have a1 : m1 3 5 = nI s.length := by rw [f1, msS]
      have a5 : m1 5 = mem 5 := by rw [f1, wf_ms_other _ _ _ _ (by decide)]
      rw [a1, nI_clamp (by omega), a5, hs.top]
      have ho1 : OU x key o m1 := by
        obtain ⟨q1, q2, q3, q4⟩ := ho
        have z : m1 x = mem x := by rw [f1, wf_ms_other _ _ _ _ (by omega)]
        have z' : m1 (x + 1) = mem (x + 1) := by rw [f1, wf_ms_other _ _ _ _ (by omega)]
        exact ⟨by rw [z]; exact q1, by rw [z]; exact q2, by rw [z]; exact q3, fun i hi => by rw [z']; exact q4 i hi⟩
      refine ⟨vin (by omega), k_addSign hx ho1 (by omega) c (fun m2 l2 o2 => ?_)⟩
      have b3 : m2 3 = m1 3 := l2 3 (by omega) (by omega)
      have b5 : m2 5 = m1 5 := l2 5 (by omega) (by omega)
      refine k_closes hx hx3 s (o ++ [(2, c)]) m2 (hs.pop (by rw [b3]; exact a1) (fun i hi => by rw [b5, a5])) o2 (by simp; omega) (fun m3 c3 => h m3 ?_)
      refine Mc.tr ⟨fun a h1 h2 h3 => by rw [l2 a h1 h2, f1, wf_ms_other _ _ _ _ h3], fun j hj => by rw [b3, f1, msK _ _ _ _ hj]⟩ c3
theorem k_ends {x : Nat} (hx : wf_sh x = (2, 0)) (hx3 : 5 < x) {key : Int32} : ∀ (st : List Int32) (o : List (Int32 × Int32)) (n : Nat) (mem : wf_Mem), SR st mem → OU x key o mem → o.length + st.length ≤ 96 → mem 3 7 = nI n → ntS st ≤ n → (∀ m', Mc x (fun j => j = 5 ∨ j = 7) mem m' → SR (edS st o).1 m' → OU x key (edS st o).2 m' → m' 3 7 = nI (n - ntS st) → Q m') → Vw (Nv (d + 2) Q) mX6_endsPiece 5 [(0, .ref 3), (1, .ref x)] [] mem
  | [], o, n, mem, hs, ho, hl, e7, hn, h => by
    refine b_X6_endsPiece_5 _ _ hx ?_
    rw [hs.1]
    exact ⟨fun _ => h mem Mc.rf hs ho e7, fun c => absurd (by decide) c⟩
  | c :: s, o, n, mem, hs, ho, hl, e7, hn, h => by
    have hl' : o.length + (s.length + 1) ≤ 96 := hl
    have e1 : mem 3 5 = nI (s.length + 1) := hs.1
    have ec : (nI (s.length + 1) ≤ 0) ↔ s.length + 1 ≤ 0 := nI_leI (b := 0) (by omega) (by decide)
    refine b_X6_endsPiece_5 _ _ hx ?_
    rw [e1, ec, nI_pred, nI_clamp (by omega), hs.top]
    refine ⟨fun g => by omega, fun g => ⟨vin (by omega), fun g2 => ?_, fun g2 m1 f1 m2 f2 => ?_⟩⟩
    · have e : edS (c :: s) o = (c :: s, o) := by unfold edS; rw [if_neg g2]
      have e' : ntS (c :: s) = 0 := by unfold ntS; rw [if_neg g2]
      rw [e, e'] at h
      exact h mem Mc.rf hs ho e7
    · have e : edS (c :: s) o = edS s (o ++ [(2, 33)]) := by
        show (if c = 33 then _ else _) = _
        rw [if_pos g2]
      have e' : ntS (c :: s) = ntS s + 1 := by
        show (if c = 33 then _ else _) = _
        rw [if_pos g2]
      rw [e, e'] at h
      rw [e'] at hn
      have a7 : m1 3 7 = nI n := by rw [f1, msK _ _ _ _ (by decide)]; exact e7
      have en : nI n - 1 = nI (n - 1) := by rw [show n = (n - 1) + 1 by omega, nI_pred]; rfl
      rw [a7, en] at f2
      have a1 : m2 3 5 = nI s.length := by rw [f2, msK _ _ _ _ (by decide), f1, msS]
      have o2 : ∀ a, a ≠ 3 → m2 a = mem a := fun a ha => by rw [f2, wf_ms_other _ _ _ _ ha, f1, wf_ms_other _ _ _ _ ha]
      have ho1 : OU x key o m2 := by
        obtain ⟨q1, q2, q3, q4⟩ := ho
        exact ⟨by rw [o2 x (by omega)]; exact q1, by rw [o2 x (by omega)]; exact q2, by rw [o2 x (by omega)]; exact q3, fun i hi => by rw [o2 (x + 1) (by omega)]; exact q4 i hi⟩
      refine k_addSign hx ho1 (by omega) 33 (fun m3 l3 o3 => ?_)
      have b3 : m3 3 = m2 3 := l3 3 (by omega) (by omega)
      have b5 : m3 5 = m2 5 := l3 5 (by omega) (by omega)
      refine k_ends hx hx3 s (o ++ [(2, 33)]) (n - 1) m3 (hs.pop (by rw [b3]; exact a1) (fun i hi => by rw [b5, o2 5 (by decide)])) o3 (by simp; omega) (by rw [b3, f2, msS]) (by omega) (fun m4 c4 s4 o4 e4 => h m4 ?_ s4 o4 (by rw [e4]; congr 1; omega))
      refine Mc.tr ⟨fun a h1 h2 h3 => by rw [l3 a h1 h2, o2 a h3], fun j hj => by rw [b3, f2, msK _ _ _ _ (fun z => hj (Or.inr z)), f1, msK _ _ _ _ (fun z => hj (Or.inl z))]⟩ c4
end TXE
