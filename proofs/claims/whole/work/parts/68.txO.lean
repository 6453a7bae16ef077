/-! the levels: what waits above a stack, closed -/
def sg : List Int32 → List (Int32 × Int32)
  | [] => []
  | c :: p => (2, c) :: sg p
theorem sg_app (a b : List Int32) : sg (a ++ b) = sg a ++ sg b := by
  induction a with
  | nil => rfl
  | cons c a ih => show (2, c) :: sg (a ++ b) = (2, c) :: (sg a ++ sg b); rw [ih]
theorem sg_len (a : List Int32) : (sg a).length = a.length := by
  induction a with
  | nil => rfl
  | cons c a ih => show (sg a).length + 1 = a.length + 1; rw [ih]
def tpl (l : Int32) : List Int32 → Prop
  | [] => True
  | c :: _ => lvl c < l ∧ ¬ c = 33
def LL (l l' : Int32) : Prop := ∀ c : Int32, lvl c < l' ↔ (lvl c < l ∨ lvl c = l)
theorem LL12 : LL 1 2 := fun c => by rcases lvl_bd c with h | h | h | h | h | h <;> rw [h] <;> decide
theorem LL23 : LL 2 3 := fun c => by rcases lvl_bd c with h | h | h | h | h | h <;> rw [h] <;> decide
theorem LL34 : LL 3 4 := fun c => by rcases lvl_bd c with h | h | h | h | h | h <;> rw [h] <;> decide
theorem LL45 : LL 4 5 := fun c => by rcases lvl_bd c with h | h | h | h | h | h <;> rw [h] <;> decide
theorem LL56 : LL 5 6 := fun c => by rcases lvl_bd c with h | h | h | h | h | h <;> rw [h] <;> decide
theorem cl_app {l : Int32} {st : List Int32} : ∀ (p : List Int32) (o : List (Int32 × Int32)), (∀ c, c ∈ p → ¬ lvl c < l) → clS l (p ++ st) o = clS l st (o ++ sg p)
  | [], o, _ => by show clS l st o = clS l st (o ++ []); rw [List.append_nil]
  | c :: p, o, h => by
    show (if lvl c < l then _ else clS l (p ++ st) (o ++ [(2, c)])) = _
    rw [if_neg (h c List.mem_cons_self), cl_app p _ (fun q hq => h q (List.mem_cons_of_mem _ hq)), List.append_assoc]
    rfl
theorem cl_tp {l : Int32} {st : List Int32} (h : tpl l st) (o : List (Int32 × Int32)) : clS l st o = (st, o) := by
  cases st with
  | nil => rfl
  | cons c s => show (if lvl c < l then _ else _) = _; rw [if_pos h.1]
theorem cl_pend {l : Int32} {p st : List Int32} {o : List (Int32 × Int32)} (hp : ∀ c, c ∈ p → ¬ lvl c < l) (h : tpl l st) : clS l (p ++ st) o = (st, o ++ sg p) := by
  rw [cl_app p o hp, cl_tp h]
theorem tpl.to {l l' : Int32} {st : List Int32} (hL : LL l l') (h : tpl l st) : tpl l' st := by
  cases st with
  | nil => exact trivial
  | cons c s => exact ⟨(hL c).mpr (Or.inl h.1), h.2⟩
theorem tpl_nt {l : Int32} {st : List Int32} (h : tpl l st) : ntS st = 0 := by
  cases st with
  | nil => rfl
  | cons c s => show (if c = 33 then _ else _) = _; rw [if_neg h.2]
theorem tpl_ed {l : Int32} {st : List Int32} (h : tpl l st) (o : List (Int32 × Int32)) : edS st o = (st, o) := by
  cases st with
  | nil => rfl
  | cons c s => show (if c = 33 then _ else _) = _; rw [if_neg h.2]
theorem ed_33 (st : List Int32) (o : List (Int32 × Int32)) : edS (33 :: st) o = edS st (o ++ [(2, 33)]) := by
  show (if (33 : Int32) = 33 then _ else _) = _; rw [if_pos rfl]
theorem nt_33 (st : List Int32) : ntS (33 :: st) = ntS st + 1 := by
  show (if (33 : Int32) = 33 then _ else _) = _; rw [if_pos rfl]
theorem tpl_40 {l : Int32} (hl : (0 : Int32) < l) (st : List Int32) : tpl l (40 :: st) := ⟨by rw [show lvl 40 = 0 by decide]; exact hl, by decide⟩
/-- signs by their level -/
theorem lv_1 {c : Int32} (h : lvl c = 1) : c = 124 := by unfold lvl at h; grind
theorem lv_2 {c : Int32} (h : lvl c = 2) : c = 38 := by unfold lvl at h; grind
theorem lv_3 {c : Int32} (h : lvl c = 3) : c = 60 ∨ c = 61 ∨ c = 62 := by unfold lvl at h; grind
theorem lv_4 {c : Int32} (h : lvl c = 4) : c = 43 ∨ c = 45 := by unfold lvl at h; grind
theorem lv_5 {c : Int32} (h : lvl c = 5) : c = 42 ∨ c = 47 := by unfold lvl at h; grind
theorem lv_sg {c : Int32} (h : ¬ lvl c = 0) : c = 43 ∨ c = 45 ∨ c = 42 ∨ c = 47 ∨ c = 60 ∨ c = 62 ∨ c = 61 ∨ c = 38 ∨ c = 124 := by
  rcases lvl_bd c with q | q | q | q | q | q
  · exact absurd q h
  · have := lv_1 q; grind
  · have := lv_2 q; grind
  · have := lv_3 q; grind
  · have := lv_4 q; grind
  · have := lv_5 q; grind
theorem lv_s0 {c : Int32} (h : ¬ srt1 c = 0) : lvl c = 0 := by
  by_cases q : lvl c = 0
  · exact q
  · exfalso
    rcases lv_sg q with rfl | rfl | rfl | rfl | rfl | rfl | rfl | rfl | rfl <;> exact h (by decide)
/-! the steps of a piece: they find what they work on, and leave one more -/
def okD (key : Int32) (δ : List (Int32 × Int32)) : Prop := 1 ≤ δ.length ∧ (∀ q, q ∈ δ → okS key q) ∧ ∀ h, h + δ.length ≤ 96 → htS δ h = some (h + 1)
theorem ht_app : ∀ (a b : List (Int32 × Int32)) (h k : Nat), htS a h = some k → htS (a ++ b) h = htS b k
  | [], b, h, k, e => by
    have : h = k := Option.some.inj e
    rw [this]; rfl
  | q :: a, b, h, k, e => by
    show (if q.1 = 2 then _ else _) = _
    have e' : (if q.1 = 2 then (if q.2 = 33 then (if 1 ≤ h then htS a h else none) else (if 2 ≤ h then htS a (h - 1) else none)) else (if h < 96 then htS a (h + 1) else none)) = some k := e
    by_cases c : q.1 = 2
    · rw [if_pos c] at e' ⊢
      by_cases c2 : q.2 = 33
      · rw [if_pos c2] at e' ⊢
        by_cases c3 : 1 ≤ h
        · rw [if_pos c3] at e' ⊢
          exact ht_app a b _ _ e'
        · rw [if_neg c3] at e'; cases e'
      · rw [if_neg c2] at e' ⊢
        by_cases c3 : 2 ≤ h
        · rw [if_pos c3] at e' ⊢
          exact ht_app a b _ _ e'
        · rw [if_neg c3] at e'; cases e'
    · rw [if_neg c] at e' ⊢
      by_cases c3 : h < 96
      · rw [if_pos c3] at e' ⊢
        exact ht_app a b _ _ e'
      · rw [if_neg c3] at e'; cases e'
theorem okD_leaf {key : Int32} {q : Int32 × Int32} (h : okS key q) (hq : ¬ q.1 = 2) : okD key [q] := by
  refine ⟨Nat.le_refl _, fun w hw => ?_, fun k hk => ?_⟩
  · rw [List.mem_singleton.mp hw]; exact h
  · show (if q.1 = 2 then _ else (if k < 96 then some (k + 1) else none)) = _
    have hk' : k + 1 ≤ 96 := hk
    rw [if_neg hq, if_pos (by omega)]
theorem okD_not {key : Int32} {a : List (Int32 × Int32)} (h : okD key a) : okD key (a ++ [(2, 33)]) := by
  obtain ⟨h1, h2, h3⟩ := h
  refine ⟨by simp, fun w hw => ?_, fun k hk => ?_⟩
  · rcases List.mem_append.mp hw with g | g
    · exact h2 w g
    · rw [List.mem_singleton.mp g]; exact Or.inr (Or.inr ⟨rfl, Or.inl rfl⟩)
  · rw [List.length_append] at hk
    have hk' : k + (a.length + 1) ≤ 96 := hk
    rw [ht_app a _ k (k + 1) (h3 k (by omega))]
    show (if (2 : Int32) = 2 then (if (33 : Int32) = 33 then (if 1 ≤ k + 1 then some (k + 1) else none) else _) else _) = _
    rw [if_pos rfl, if_pos rfl, if_pos (by omega)]
theorem okD_join {key : Int32} {a b : List (Int32 × Int32)} (ha : okD key a) (hb : okD key b) {c : Int32} (hc : ¬ lvl c = 0) : okD key ((a ++ b) ++ [(2, c)]) := by
  obtain ⟨a1, a2, a3⟩ := ha
  obtain ⟨b1, b2, b3⟩ := hb
  refine ⟨by simp; omega, fun w hw => ?_, fun k hk => ?_⟩
  · rcases List.mem_append.mp hw with g | g
    · rcases List.mem_append.mp g with g | g
      · exact a2 w g
      · exact b2 w g
    · rw [List.mem_singleton.mp g]; exact Or.inr (Or.inr ⟨rfl, Or.inr (lv_sg hc)⟩)
  · rw [List.length_append, List.length_append] at hk
    have hk' : k + (a.length + b.length + 1) ≤ 96 := hk
    have e1 := ht_app a b k (k + 1) (a3 k (by omega))
    rw [b3 (k + 1) (by omega)] at e1
    rw [ht_app (a ++ b) _ k (k + 1 + 1) e1]
    show (if (2 : Int32) = 2 then (if c = 33 then _ else (if 2 ≤ k + 1 + 1 then some (k + 1 + 1 - 1) else none)) else _) = _
    rw [if_pos rfl, if_neg (lv_33 hc), if_pos (by omega)]
    rfl
/-- digits -/
theorem dig_val {c : Int32} (h : srt1 c = 2) : ∃ k, k < 10 ∧ c = nI (48 + k) := by
  obtain ⟨a, b⟩ := (srt_D c).mpr h
  have e : c = nI c.toNatClampNeg := nI_ge0 (by grind)
  have b1 : c.toNatClampNeg ≤ 57 := cl_le (n := 57) (by grind) b (by decide)
  have b2 : 48 ≤ c.toNatClampNeg := by
    rw [e] at a
    exact (nI_leI (a := 48) (by decide) (by omega)).mp a
  exact ⟨c.toNatClampNeg - 48, by omega, by rw [show 48 + (c.toNatClampNeg - 48) = c.toNatClampNeg by omega]; exact e⟩
theorem nu_val {t : Nat → Int32} {b : Nat} : ∀ k, k ≤ 4 → (∀ j, j < k → srt1 (t (b + j)) = 2) → ∃ v, v < 10 ^ k ∧ nuA t b k = nI v
  | 0, _, _ => ⟨0, by decide, rfl⟩
  | k + 1, hk, h => by
    obtain ⟨v, hv, e⟩ := nu_val k (by omega) (fun j hj => h j (by omega))
    obtain ⟨q, hq, e2⟩ := dig_val (h k (by omega))
    refine ⟨10 * v + q, by rw [Nat.pow_succ]; omega, ?_⟩
    show 10 * nuA t b k + t (b + k) - 48 = _
    rw [e, e2]
    have e10 : (10 : Int32) * nI v = nI (10 * v) := by
      rw [show (10 : Int32) = nI 10 from rfl]
      unfold nI
      exact (Int32.ofNat_mul 10 v).symm
    rw [e10, nI_add]
    rw [show 10 * v + (48 + q) = (10 * v + q) + 48 by omega, ← nI_add, show nI 48 = (48 : Int32) from rfl]
    exact Int32.add_sub_cancel _ _
theorem rn_all {t : Nat → Int32} {n : Nat} {c : Int32} : ∀ (f p : Nat), n - p ≤ f → p ≤ n → ∀ j, p ≤ j → j < rn t n c p → srt1 (t j) = c
  | f, p, hf, hp, j, h1, h2 => by
    by_cases e : p < n
    · rw [rn_st e] at h2
      by_cases g : srt1 (t p) = c
      · rw [if_pos g] at h2
        by_cases z : j = p
        · rw [z]; exact g
        · cases f with
          | zero => omega
          | succ f => exact rn_all f (p + 1) (by omega) (by omega) j (by omega) h2
      · rw [if_neg g] at h2; omega
    · rw [rn_end (by omega)] at h2; omega
theorem te_all {t : Nat → Int32} {n B : Nat} (h : B < n) (hs : ¬ srt1 (t B) = 0) : ∀ j, B ≤ j → j < teB t n B → srt1 (t j) = srt1 (t B) := fun j h1 h2 => by
  unfold teB at h2
  rw [if_pos h, if_neg hs] at h2
  by_cases z : j = B
  · rw [z]
  · exact rn_all n (B + 1) (by omega) (by omega) j (by omega) h2
theorem okS_num {t : Nat → Int32} {n B : Nat} (key : Int32) (h : B < n) (hs : srt1 (t B) = 2) (h4 : teB t n B - B ≤ 4) : okS key (0, nuA t B (teB t n B - B)) := by
  obtain ⟨v, hv, e⟩ := nu_val (t := t) (b := B) (teB t n B - B) h4 (fun j hj => by rw [te_all h (by rw [hs]; decide) (B + j) (by omega) (by omega)]; exact hs)
  have : v < 10 ^ 4 := Nat.lt_of_lt_of_le hv (Nat.pow_le_pow_right (by decide) h4)
  refine Or.inl ⟨rfl, ?_, ?_⟩
  · show 0 ≤ nuA t B (teB t n B - B)
    rw [e]; exact nI_pos' (by omega)
  · show nuA t B (teB t n B - B) ≤ 9999
    rw [e]; exact (nI_leI (b := 9999) (by omega) (by decide)).mpr (by omega)
