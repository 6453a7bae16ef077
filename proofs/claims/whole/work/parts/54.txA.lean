/-! the tape, cut into pieces -/
def srt1 (b : Int32) : Int32 := if b < 97 then (if b < 48 then 0 else if 57 < b then 0 else 2) else if 122 < b then (if b < 48 then 0 else if 57 < b then 0 else 2) else 1
def skP (t : Nat → Int32) : Nat → Nat → Nat
  | 0, p => p
  | f + 1, p => if t p = 32 then skP t f (p + 1) else p
def rnP (t : Nat → Int32) (c : Int32) : Nat → Nat → Nat
  | 0, p => p
  | f + 1, p => if srt1 (t p) = c then rnP t c f (p + 1) else p
def tb (t : Nat → Int32) (n p : Nat) : Nat := skP t (n - p) p
def tso (t : Nat → Int32) (n b : Nat) : Int32 := if b < n then srt1 (t b) else 0
def rn (t : Nat → Int32) (n : Nat) (c : Int32) (p : Nat) : Nat := rnP t c (n - p) p
def teB (t : Nat → Int32) (n b : Nat) : Nat := if b < n then (if srt1 (t b) = 0 then b + 1 else rn t n (srt1 (t b)) (b + 1)) else n
def te (t : Nat → Int32) (n p : Nat) : Nat := teB t n (tb t n p)
theorem tb_st {t : Nat → Int32} {n p : Nat} (h : p < n) : tb t n p = if t p = 32 then tb t n (p + 1) else p := by
  unfold tb
  have : n - p = (n - (p + 1)) + 1 := by omega
  rw [this]; rfl
theorem tb_end {t : Nat → Int32} {n p : Nat} (h : n ≤ p) : tb t n p = p := by
  unfold tb
  have : n - p = 0 := by omega
  rw [this]; rfl
theorem rn_st {t : Nat → Int32} {n p : Nat} {c : Int32} (h : p < n) : rn t n c p = if srt1 (t p) = c then rn t n c (p + 1) else p := by
  unfold rn
  have : n - p = (n - (p + 1)) + 1 := by omega
  rw [this]; rfl
theorem rn_end {t : Nat → Int32} {n p : Nat} {c : Int32} (h : n ≤ p) : rn t n c p = p := by
  unfold rn
  have : n - p = 0 := by omega
  rw [this]; rfl
theorem tb_bd {t : Nat → Int32} {n : Nat} : ∀ (f p : Nat), n - p ≤ f → p ≤ n → p ≤ tb t n p ∧ tb t n p ≤ n
  | 0, p, hf, hp => by rw [tb_end (by omega)]; omega
  | f + 1, p, hf, hp => by
    by_cases c : p < n
    · rw [tb_st c]
      split
      · have := tb_bd (t := t) (n := n) f (p + 1) (by omega) (by omega); omega
      · omega
    · rw [tb_end (by omega)]; omega
theorem rn_bd {t : Nat → Int32} {n : Nat} {c : Int32} : ∀ (f p : Nat), n - p ≤ f → p ≤ n → p ≤ rn t n c p ∧ rn t n c p ≤ n
  | 0, p, hf, hp => by rw [rn_end (by omega)]; omega
  | f + 1, p, hf, hp => by
    by_cases e : p < n
    · rw [rn_st e]
      split
      · have := rn_bd (t := t) (n := n) (c := c) f (p + 1) (by omega) (by omega); omega
      · omega
    · rw [rn_end (by omega)]; omega
theorem te_bd {t : Nat → Int32} {n b : Nat} (h : b ≤ n) : b ≤ teB t n b ∧ teB t n b ≤ n ∧ (b < n → b < teB t n b) := by
  unfold teB
  split
  · split
    · omega
    · have := rn_bd (t := t) (n := n) (c := srt1 (t b)) n (b + 1) (by omega) (by omega); omega
  · omega
section TXA
variable {d : Nat} {mem : wf_Mem} {P : Int32 → wf_Mem → Prop} {Q : wf_Mem → Prop} {r : Rw} {t : Nat → Int32}
theorem k_sortOf (x : Int32) (h : P (srt1 x) mem) : Ci mX6_sortOf d [.int x] mem P := by
  unfold srt1 at h
  refine E_X6_sortOf _ ⟨fun a => ⟨fun b => ?_, fun b => ⟨fun c => ?_, fun c => ?_⟩⟩, fun a => ⟨fun b => ⟨fun c => ?_, fun c => ⟨fun e => ?_, fun e => ?_⟩⟩, fun b => ?_⟩⟩
  · rw [if_pos a, if_pos b] at h; exact h
  · rw [if_pos a, if_neg b, if_pos c] at h; exact h
  · rw [if_pos a, if_neg b, if_neg c] at h; exact h
  · rw [if_neg a, if_pos b, if_pos c] at h; exact h
  · rw [if_neg a, if_pos b, if_neg c, if_pos e] at h; exact h
  · rw [if_neg a, if_pos b, if_neg c, if_neg e] at h; exact h
  · rw [if_neg a, if_neg b] at h; exact h
theorem k_sortHere {n b : Nat} (hn : n ≤ 96) (e1 : mem 3 1 = nI n) (e2 : mem 3 2 = nI b) (hb : b ≤ n) (e4 : ∀ j, j < n → mem 4 j = t j) (h : P (tso t n b) mem) : Ci mX6_sortHere (d + 1) [.ref 3] mem P := by
  have ec : (nI n ≤ nI b) ↔ n ≤ b := nI_leI (by omega) (by omega)
  refine E_X6_sortHere ?_
  rw [e1, e2, ec, nI_clamp (by omega)]
  unfold tso at h
  refine ⟨fun g => ?_, fun g => ⟨vin (by omega), k_sortOf _ ?_⟩⟩
  · rw [if_neg (by omega)] at h; exact h
  · rw [if_pos (by omega)] at h
    rw [e4 b (by omega)]; exact h
/-- frame of the class's steps: the places of the piece -/
def St3 (m m' : wf_Mem) : Prop := (∀ a, a ≠ 3 → m' a = m a) ∧ ∀ j, j ≠ 2 → j ≠ 3 → m' 3 j = m 3 j
theorem St3.rf {m : wf_Mem} : St3 m m := ⟨fun _ _ => rfl, fun _ _ _ => rfl⟩
theorem St3.tr {a b c : wf_Mem} (h1 : St3 a b) (h2 : St3 b c) : St3 a c := ⟨fun q g => (h2.1 q g).trans (h1.1 q g), fun j g1 g2 => (h2.2 j g1 g2).trans (h1.2 j g1 g2)⟩
theorem St3.ms {m : wf_Mem} {k : Nat} {v : Int32} (hk : k = 2 ∨ k = 3) : St3 m (wf_ms m 3 k v) := ⟨fun q g => wf_ms_other _ _ _ _ g, fun j g1 g2 => msK _ _ _ _ (by omega)⟩
theorem run_loop {n b : Nat} (hn : n ≤ 96) (c : Int32) (hc : ¬ c = 0) (E : Nat) (hE : ∀ m', St3 mem m' → m' 3 2 = nI b → m' 3 3 = nI E → Q m') : ∀ (f p : Nat) (m : wf_Mem), n - p ≤ f → p ≤ n → St3 mem m → m 3 1 = nI n → m 3 2 = nI b → m 3 3 = nI p → (∀ j, j < n → m 4 j = t j) → rn t n c p = E → Vw (Nv (d + 1) Q) mX6_steps 68 [(0, .ref 3), (1, .int c)] [] m
  | f, p, m, hf, hp, ho, e1, e2, e3, e4, er => by
    have ec : (nI n ≤ nI p) ↔ n ≤ p := nI_leI (by omega) (by omega)
    refine b_X6_steps_68 _ _ ?_
    rw [e1, e3, ec, nI_clamp (by omega)]
    refine ⟨fun g => absurd g hc, fun _ => ⟨fun g => ?_, fun g => ⟨vin (by omega), k_sortOf _ ?_⟩⟩⟩
    · rw [rn_end g] at er
      subst er
      exact hE m ho e2 e3
    · rw [rn_st (by omega)] at er
      rw [e4 p (by omega)]
      refine ⟨fun g2 => ?_, fun g2 m2 f2 => ?_⟩
      · rw [if_neg g2] at er
        subst er
        exact hE m ho e2 e3
      · rw [if_pos g2] at er
        rw [e3, nI_1] at f2
        cases f with
        | zero => omega
        | succ f => exact run_loop hn c hc E hE f (p + 1) m2 (by omega) (by omega) (by rw [f2]; exact ho.tr (St3.ms (Or.inr rfl))) (by rw [f2, msK _ _ _ _ (by decide)]; exact e1) (by rw [f2, msK _ _ _ _ (by decide)]; exact e2) (by rw [f2, msS]) (fun j hj => by rw [f2, msA _ _ _ _ (by decide)]; exact e4 j hj) er
theorem steps_46 {n b : Nat} (hn : n ≤ 96) (hb : b ≤ n) (h : ∀ m', St3 mem m' → m' 3 2 = nI b → m' 3 3 = nI (teB t n b) → Q m') (m : wf_Mem) (ho : St3 mem m) (e1 : m 3 1 = nI n) (e2 : m 3 2 = nI b) (e4 : ∀ j, j < n → m 4 j = t j) : Vw (Nv (d + 2) Q) mX6_steps 46 [(0, .ref 3)] [] m := by
  refine b_X6_steps_46 _ (fun m1 f1 => ?_)
  have eV : (if m 3 2 + 1 < m 3 1 then m 3 2 + 1 else m 3 1) = nI (min n (b + 1)) := by
    rw [e1, e2, nI_1]
    have : (nI (b + 1) < nI n) ↔ b + 1 < n := nI_ltI (by omega) (by omega)
    by_cases g : b + 1 < n
    · rw [if_pos (this.mpr g), Nat.min_eq_right (by omega)]
    · rw [if_neg (fun c => g (this.mp c)), Nat.min_eq_left (by omega)]
  rw [eV] at f1
  have o1 : St3 mem m1 := by rw [f1]; exact ho.tr (St3.ms (Or.inr rfl))
  have a1 : m1 3 1 = nI n := by rw [f1, msK _ _ _ _ (by decide)]; exact e1
  have a2 : m1 3 2 = nI b := by rw [f1, msK _ _ _ _ (by decide)]; exact e2
  have a3 : m1 3 3 = nI (min n (b + 1)) := by rw [f1, msS]
  have a4 : ∀ j, j < n → m1 4 j = t j := fun j hj => by rw [f1, msA _ _ _ _ (by decide)]; exact e4 j hj
  refine k_sortHere hn a1 a2 hb a4 ?_
  unfold tso
  by_cases c : b < n
  · have em : min n (b + 1) = b + 1 := by omega
    rw [em] at a3
    rw [if_pos c]
    by_cases z : srt1 (t b) = 0
    · rw [z]
      refine b_X6_steps_68 _ _ ⟨fun _ => h m1 o1 a2 ?_, fun g => absurd rfl g⟩
      rw [a3]; unfold teB; rw [if_pos c, if_pos z]
    · refine run_loop (mem := mem) (d := d + 1) hn _ z (teB t n b) h 96 (b + 1) m1 (by omega) (by omega) o1 a1 a2 a3 a4 ?_
      unfold teB; rw [if_pos c, if_neg z]
  · rw [if_neg c]
    refine b_X6_steps_68 _ _ ⟨fun _ => h m1 o1 a2 ?_, fun g => absurd rfl g⟩
    rw [a3]; unfold teB; rw [if_neg c]
    congr 1; omega
theorem steps_8 {n B : Nat} (hn : n ≤ 96) (h : ∀ m', St3 mem m' → m' 3 2 = nI B → m' 3 3 = nI (teB t n B) → Q m') : ∀ (f p : Nat) (m : wf_Mem), n - p ≤ f → p ≤ n → St3 mem m → m 3 1 = nI n → m 3 2 = nI p → (∀ j, j < n → m 4 j = t j) → tb t n p = B → Vw (Nv (d + 2) Q) mX6_steps 8 [(0, .ref 3)] [] m
  | f, p, m, hf, hp, ho, e1, e2, e4, er => by
    have ec : (nI n ≤ nI p) ↔ n ≤ p := nI_leI (by omega) (by omega)
    refine b_X6_steps_8 _ ?_
    rw [e1, e2, ec, nI_clamp (by omega)]
    refine ⟨fun g => ?_, fun g => ⟨vin (by omega), fun g2 => ?_, fun g2 m2 f2 => ?_⟩⟩
    · rw [tb_end g] at er
      subst er
      exact steps_46 hn hp h m ho e1 e2 e4
    · rw [e4 p (by omega)] at g2
      rw [tb_st (by omega), if_neg g2] at er
      subst er
      exact steps_46 hn hp h m ho e1 e2 e4
    · rw [e4 p (by omega)] at g2
      rw [tb_st (by omega), if_pos g2] at er
      rw [nI_1] at f2
      cases f with
      | zero => omega
      | succ f => exact steps_8 hn h f (p + 1) m2 (by omega) (by omega) (by rw [f2]; exact ho.tr (St3.ms (Or.inl rfl))) (by rw [f2, msK _ _ _ _ (by decide)]; exact e1) (by rw [f2, msS]) (fun j hj => by rw [f2, msA _ _ _ _ (by decide)]; exact e4 j hj) er
theorem k_steps {n p : Nat} (hn : n ≤ 96) (hp : p ≤ n) (e1 : mem 3 1 = nI n) (e3 : mem 3 3 = nI p) (e4 : ∀ j, j < n → mem 4 j = t j) (h : ∀ m', St3 mem m' → m' 3 2 = nI (tb t n p) → m' 3 3 = nI (te t n p) → Q m') : Cv mX6_steps (d + 2) [.ref 3] mem Q := by
  refine E_X6_steps (fun m1 f1 => ?_)
  rw [e3] at f1
  exact steps_8 (mem := mem) hn h 96 p m1 (by omega) hp (by rw [f1]; exact St3.ms (Or.inl rfl)) (by rw [f1, msK _ _ _ _ (by decide)]; exact e1) (by rw [f1, msS]) (fun j hj => by rw [f1, msA _ _ _ _ (by decide)]; exact e4 j hj) rfl
end TXA
