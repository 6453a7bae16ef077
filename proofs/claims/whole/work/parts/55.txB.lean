/-! the reference's pieces -/
def nuA (t : Nat → Int32) (b : Nat) : Nat → Int32
  | 0 => 0
  | k + 1 => 10 * nuA t b k + t (b + k) - 48
theorem srt_L (b : Int32) : (97 ≤ b ∧ b ≤ 122) ↔ srt1 b = 1 := by
  unfold srt1
  by_cases a : b < 97
  · rw [if_pos a]
    refine ⟨fun h => absurd a (Int32.not_lt.mpr h.1), fun h => ?_⟩
    split at h
    · exact absurd h (by decide)
    · split at h
      · exact absurd h (by decide)
      · exact absurd h (by decide)
  · rw [if_neg a]
    by_cases c : 122 < b
    · rw [if_pos c]
      refine ⟨fun h => absurd c (Int32.not_lt.mpr h.2), fun h => ?_⟩
      split at h
      · exact absurd h (by decide)
      · split at h
        · exact absurd h (by decide)
        · exact absurd h (by decide)
    · rw [if_neg c]
      exact ⟨fun _ => rfl, fun _ => ⟨Int32.not_lt.mp a, Int32.not_lt.mp c⟩⟩
theorem srt_D (b : Int32) : (48 ≤ b ∧ b ≤ 57) ↔ srt1 b = 2 := by
  unfold srt1
  by_cases a : b < 97
  · rw [if_pos a]
    by_cases c : b < 48
    · rw [if_pos c]
      exact ⟨fun h => absurd c (Int32.not_lt.mpr h.1), fun h => absurd h (by decide)⟩
    · rw [if_neg c]
      by_cases e : 57 < b
      · rw [if_pos e]
        exact ⟨fun h => absurd e (Int32.not_lt.mpr h.2), fun h => absurd h (by decide)⟩
      · rw [if_neg e]
        exact ⟨fun _ => rfl, fun _ => ⟨Int32.not_lt.mp c, Int32.not_lt.mp e⟩⟩
  · rw [if_neg a]
    have nd : ¬ (48 ≤ b ∧ b ≤ 57) := fun h => by grind
    refine ⟨fun h => absurd h nd, fun h => ?_⟩
    split at h
    · split at h
      · exact absurd h (by decide)
      · split at h
        · exact absurd h (by decide)
        · grind
    · exact absurd h (by decide)
theorem srt_3 (b : Int32) : srt1 b = 0 ∨ srt1 b = 1 ∨ srt1 b = 2 := by
  unfold srt1
  split
  · split
    · exact Or.inl rfl
    · split
      · exact Or.inl rfl
      · exact Or.inr (Or.inr rfl)
  · split
    · split
      · exact Or.inl rfl
      · split
        · exact Or.inl rfl
        · exact Or.inr (Or.inr rfl)
    · exact Or.inr (Or.inl rfl)
section TXB
variable {d : Nat} {mem : wf_Mem} {P : Int32 → wf_Mem → Prop} {Q : wf_Mem → Prop} {r : Rw} {t : Nat → Int32}
theorem c_isLetter {n p : Nat} (hn : n ≤ 96) (hp : p ≤ n) (e1 : mem 120 16 = nI n) (e4 : ∀ j, j < n → mem 133 j = t j) (h1 : p < n → srt1 (t p) = 1 → P 1 mem) (h0 : ¬ (p < n ∧ srt1 (t p) = 1) → P 0 mem) : Ci mX9_isLetter (d + 1) [.ref 120, .int (nI p)] mem P := by
  have ec : (nI n ≤ nI p) ↔ n ≤ p := nI_leI (by omega) (by omega)
  refine E_X9_isLetter _ ?_
  rw [e1, ec, nI_clamp (by omega)]
  refine ⟨fun g => h0 (fun o => by omega), fun g => ⟨vin (by omega), ?_⟩⟩
  rw [e4 p (by omega)]
  exact c_isIn _ 97 122 rfl rfl (fun a b => z1 (h1 (by omega) ((srt_L _).mp ⟨a, b⟩))) (fun b => z0 (h0 (fun o => b ((srt_L _).mpr o.2))))
theorem c_isDigit {n p : Nat} (hn : n ≤ 96) (hp : p ≤ n) (e1 : mem 120 16 = nI n) (e4 : ∀ j, j < n → mem 133 j = t j) (h1 : p < n → srt1 (t p) = 2 → P 1 mem) (h0 : ¬ (p < n ∧ srt1 (t p) = 2) → P 0 mem) : Ci mX9_isDigit (d + 1) [.ref 120, .int (nI p)] mem P := by
  have ec : (nI n ≤ nI p) ↔ n ≤ p := nI_leI (by omega) (by omega)
  refine E_X9_isDigit _ ?_
  rw [e1, ec, nI_clamp (by omega)]
  refine ⟨fun g => h0 (fun o => by omega), fun g => ⟨vin (by omega), ?_⟩⟩
  rw [e4 p (by omega)]
  exact c_isIn _ 48 57 rfl rfl (fun a b => z1 (h1 (by omega) ((srt_D _).mp ⟨a, b⟩))) (fun b => z0 (h0 (fun o => b ((srt_D _).mpr o.2))))
/-- frame: the piece's fields (17 begin, 18 behind, 19 token, 20 number, 21 letter) -/
def Tk (m m' : wf_Mem) : Prop := (∀ a, a ≠ 120 → m' a = m a) ∧ ∀ j, (j < 17 ∨ 21 < j) → m' 120 j = m 120 j
theorem Tk.rf {m : wf_Mem} : Tk m m := ⟨fun _ _ => rfl, fun _ _ => rfl⟩
theorem Tk.tr {a b c : wf_Mem} (h1 : Tk a b) (h2 : Tk b c) : Tk a c := ⟨fun q g => (h2.1 q g).trans (h1.1 q g), fun j g => (h2.2 j g).trans (h1.2 j g)⟩
theorem Tk.ms {m : wf_Mem} {k : Nat} {v : Int32} (hk : 17 ≤ k ∧ k ≤ 21) : Tk m (wf_ms m 120 k v) := ⟨fun q g => wf_ms_other _ _ _ _ g, fun j g => msK _ _ _ _ (by omega)⟩
theorem letters_loop {n b E : Nat} (hn : n ≤ 96) (ti : Int32) (hE : ∀ m', Tk mem m' → m' 120 17 = nI b → m' 120 18 = nI E → m' 120 19 = (if ti = 0 then 1 else 4) → m' 120 21 = (if E - b = 1 then t b else 0) → Q m') (hb : b < n) (hbE : b < E) (hEn : E ≤ n) : ∀ (f p : Nat) (m : wf_Mem), n - p ≤ f → p ≤ n → Tk mem m → m 120 16 = nI n → m 120 17 = nI b → m 120 18 = nI p → (∀ j, j < n → m 133 j = t j) → rn t n 1 p = E → Vw (Nv (d + 2) Q) mX9_nextToken 128 [(0, .ref 120), (1, .int ti)] [] m
  | f, p, m, hf, hp, ho, e1, e2, e3, e4, er => by
    refine b_X9_nextToken_128 _ _ ?_
    rw [e3]
    have fin : p = E → ∀ v : Int32, v = (if ti = 0 then 1 else 4) → Vw (Nv (d + 2) Q) mX9_nextToken 162 [(0, .ref 120)] [.int v, .ref 120] m := fun ep v ev => by
      refine b_X9_nextToken_162 _ _ (fun m1 f1 => ?_)
      have a1 : m1 120 18 = nI E := by rw [f1, msK _ _ _ _ (by decide), e3, ep]
      have a2 : m1 120 17 = nI b := by rw [f1, msK _ _ _ _ (by decide)]; exact e2
      have a3 : m1 120 19 = v := by rw [f1, msS]
      have o1 : Tk mem m1 := by rw [f1]; exact ho.tr (Tk.ms (by omega))
      have es : nI E - nI b = nI (E - b) := pk_sub (by omega)
      have e1' : (nI (E - b) = 1) ↔ E - b = 1 := nI_eq (b := 1) (by omega) (by decide)
      rw [a1, a2, es, e1', nI_clamp (by omega)]
      refine ⟨fun c m2 f2 => ?_, fun c => ⟨vin (by omega), fun m2 f2 => ?_⟩⟩
      · exact hE m2 (by rw [f2]; exact o1.tr (Tk.ms (by omega))) (by rw [f2, msK _ _ _ _ (by decide)]; exact a2) (by rw [f2, msK _ _ _ _ (by decide)]; exact a1) (by rw [f2, msK _ _ _ _ (by decide), a3]; exact ev) (by rw [f2, msS, if_neg c])
      · exact hE m2 (by rw [f2]; exact o1.tr (Tk.ms (by omega))) (by rw [f2, msK _ _ _ _ (by decide)]; exact a2) (by rw [f2, msK _ _ _ _ (by decide)]; exact a1) (by rw [f2, msK _ _ _ _ (by decide), a3]; exact ev) (by rw [f2, msS, if_pos c, f1, msA _ _ _ _ (by decide)]; exact e4 b hb)
    refine c_isLetter hn hp e1 e4 (fun g1 g2 => z1 (fun m2 f2 => ?_)) (fun g => z0 ?_)
    · rw [rn_st g1, if_pos g2] at er
      rw [e3, nI_1] at f2
      cases f with
      | zero => omega
      | succ f => exact letters_loop hn ti hE hb hbE hEn f (p + 1) m2 (by omega) (by omega) (by rw [f2]; exact ho.tr (Tk.ms (by omega))) (by rw [f2, msK _ _ _ _ (by decide)]; exact e1) (by rw [f2, msK _ _ _ _ (by decide)]; exact e2) (by rw [f2, msS]) (fun j hj => by rw [f2, msA _ _ _ _ (by decide)]; exact e4 j hj) er
    · have ep : p = E := by
        by_cases c : p < n
        · rw [rn_st c, if_neg (fun o => g ⟨c, o⟩)] at er; exact er
        · rw [rn_end (by omega)] at er; exact er
      exact ⟨fun c => fin ep 1 (by rw [if_pos c]), fun c => fin ep 4 (by rw [if_neg c])⟩
theorem digits_loop {n b E : Nat} (hn : n ≤ 96) (ti : Int32) (hE : ∀ m', Tk mem m' → m' 120 17 = nI b → m' 120 18 = nI E → m' 120 19 = (if ti = 0 ∧ E - b ≤ 4 then 2 else 4) → m' 120 20 = nuA t b (min (E - b) 4) → Q m') (hb : b < n) (hEn : E ≤ n) : ∀ (f p : Nat) (m : wf_Mem), n - p ≤ f → b ≤ p → p ≤ n → Tk mem m → m 120 16 = nI n → m 120 17 = nI b → m 120 18 = nI p → m 120 20 = nuA t b (min (p - b) 4) → (∀ j, j < n → m 133 j = t j) → rn t n 2 p = E → Vw (Nv (d + 2) Q) mX9_nextToken 214 [(0, .ref 120), (1, .int ti)] [] m
  | f, p, m, hf, hbp, hp, ho, e1, e2, e3, e5, e4, er => by
    refine b_X9_nextToken_214 _ _ ?_
    have es : nI p - nI b = nI (p - b) := pk_sub hbp
    have e4' : (nI (p - b) ≤ 4) ↔ p - b ≤ 4 := nI_leI (b := 4) (by omega) (by decide)
    have e4'' : (4 ≤ nI (p - b)) ↔ 4 ≤ p - b := nI_leI (a := 4) (by decide) (by omega)
    rw [e3]
    refine c_isDigit hn hp e1 e4 (fun g1 g2 => z1 ?_) (fun g => z0 ?_)
    · rw [e3, e2, es, e4'', nI_clamp (by omega)]
      rw [rn_st g1, if_pos g2] at er
      have nx : ∀ (v : Int32) (m2 m3 : wf_Mem), v = nuA t b (min (p + 1 - b) 4) → m2 = wf_ms m 120 20 v → m3 = wf_ms m2 120 18 (m2 120 18 + 1) → Vw (Nv (d + 2) Q) mX9_nextToken 214 [(0, .ref 120), (1, .int ti)] [] m3 := fun v m2 m3 ev f2 f3 => by
        have a3 : m2 120 18 = nI p := by rw [f2, msK _ _ _ _ (by decide)]; exact e3
        rw [a3, nI_1] at f3
        cases f with
        | zero => omega
        | succ f =>
          refine digits_loop hn ti hE hb hEn f (p + 1) m3 (by omega) (by omega) (by omega) (by rw [f3, f2]; exact (ho.tr (Tk.ms (by omega))).tr (Tk.ms (by omega))) ?_ ?_ (by rw [f3, msS]) ?_ (fun j hj => ?_) er
          · rw [f3, msK _ _ _ _ (by decide), f2, msK _ _ _ _ (by decide)]; exact e1
          · rw [f3, msK _ _ _ _ (by decide), f2, msK _ _ _ _ (by decide)]; exact e2
          · rw [f3, msK _ _ _ _ (by decide), f2, msS]; exact ev
          · rw [f3, msA _ _ _ _ (by decide), f2, msA _ _ _ _ (by decide)]; exact e4 j hj
      refine ⟨fun c m2 f2 m3 f3 => nx _ m2 m3 ?_ f2 f3, fun c => ⟨vin (by omega), fun m2 f2 m3 f3 => nx _ m2 m3 ?_ f2 f3⟩⟩
      · rw [e5, Nat.min_eq_right c, Nat.min_eq_right (by omega)]
      · have a : min (p + 1 - b) 4 = (p - b) + 1 := by omega
        have b' : min (p - b) 4 = p - b := by omega
        rw [a, e5, b', e4 p g1]
        show _ = 10 * nuA t b (p - b) + t (b + (p - b)) - 48
        have : b + (p - b) = p := by omega
        rw [this]
    · have ep : p = E := by
        by_cases c : p < n
        · rw [rn_st c, if_neg (fun o => g ⟨c, o⟩)] at er; exact er
        · rw [rn_end (by omega)] at er; exact er
      subst ep
      rw [e3, e2, es, e4']
      have fin : ∀ (v : Int32) (m2 : wf_Mem), v = (if ti = 0 ∧ p - b ≤ 4 then 2 else 4) → m2 = wf_ms m 120 19 v → Q m2 := fun v m2 ev f2 =>
        hE m2 (by rw [f2]; exact ho.tr (Tk.ms (by omega))) (by rw [f2, msK _ _ _ _ (by decide)]; exact e2) (by rw [f2, msK _ _ _ _ (by decide)]; exact e3) (by rw [f2, msS]; exact ev) (by rw [f2, msK _ _ _ _ (by decide)]; exact e5)
      exact ⟨fun c m2 f2 => fin 4 m2 (by rw [if_neg (fun o => c o.1)]) f2, fun c => ⟨fun c2 m2 f2 => fin 2 m2 (by rw [if_pos ⟨c, c2⟩]) f2, fun c2 m2 f2 => fin 4 m2 (by rw [if_neg (fun o => c2 o.2)]) f2⟩⟩
end TXB
