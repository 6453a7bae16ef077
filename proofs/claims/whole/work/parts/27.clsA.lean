/-! THE CLASS: a camp c of the memory is a row; the laws are the row's texts -/
def encS (key : Int32) (q : Int32 × Int32) : Int32 := if q.1 = 0 then q.2 else if q.1 = 2 then -100 - q.2 else nmK key (-1) (-2) (-3) q.2
def lwT (mem : wf_Mem) (r : Rw) (t : Nat) : Prop :=
  mem (10 + 1 + 2 * t) 0 = r (88 + 200 * t) ∧ mem (10 + 1 + 2 * t) 1 = r (88 + 200 * t + 1) ∧ mem (10 + 1 + 2 * t) 3 = r (88 + 200 * t + 2) ∧ ∀ k, k < mnR r t → mem (10 + 1 + 2 * t + 1) k = encS (r (88 + 200 * t)) (stR r t k)
def orN (x : Int32) : Int32 := if 0 ≤ x then x else -1000000005
def RelT (c : Nat) (mem : wf_Mem) (r : Rw) : Prop :=
  mem c 12 = r 2 ∧ (∀ key, key < 3 → mem (c + 6) key = orN (cntR r (nI key) (rT r))) ∧ ∀ t, t < rT r → lwT mem r t
def Rel (c : Nat) (mem : wf_Mem) (r : Rw) : Prop :=
  (mem (c + 1) 0 = r 0 ∧ mem c 2 = r 1 ∧ mem c 3 = r 3 ∧ mem c 4 = r 4 ∧ mem c 5 = r 5 ∧ mem c 6 = r 6 ∧ mem c 7 = r 7 ∧ mem c 8 = r 8 ∧ mem c 9 = r 9 ∧ mem c 10 = r 10) ∧
  (∀ k, k < rN r → mem (c + 1 + 1) k = r (12 + 3 * k) ∧ mem (c + 1 + 2) k = r (12 + 3 * k + 1) ∧ mem (c + 1 + 3) k = r (12 + 3 * k + 2)) ∧
  (∀ w, w < rW r → ∀ j, j < 5 → mem (c + 5 + 4 + w) j = r (48 + 5 * w + j)) ∧ RelT c mem r
/-- only some cells have changed -/
def Fr (S : Nat → Prop) (m m' : wf_Mem) : Prop := ∀ a, ¬ S a → m' a = m a
theorem Fr.rf {S : Nat → Prop} {m : wf_Mem} : Fr S m m := fun _ _ => rfl
theorem Fr.tr {S : Nat → Prop} {a b c : wf_Mem} (h1 : Fr S a b) (h2 : Fr S b c) : Fr S a c := fun q g => (h2 q g).trans (h1 q g)
theorem Fr.ms {S : Nat → Prop} {m : wf_Mem} {a k : Nat} {v : Int32} (h : S a) : Fr S m (wf_ms m a k v) := fun q g => wf_ms_other _ _ _ _ (fun e => g (by rw [e]; exact h))
theorem Fr.to {S S' : Nat → Prop} {m m' : wf_Mem} (h : Fr S m m') (hs : ∀ a, S a → S' a) : Fr S' m m' := fun q g => h q (fun z => g (hs q z))
def S9 : Nat → Prop := fun a => a = 9
section CLSA
variable {d : Nat} {mem : wf_Mem} {P : Int32 → wf_Mem → Prop} {Q : wf_Mem → Prop} {r : Rw} {c : Nat}
theorem k_within (x lo hi : Int32) (h1 : lo ≤ x → x ≤ hi → P 1 mem) (h0 : ¬ (lo ≤ x ∧ x ≤ hi) → P 0 mem) : Ci mX8_within d [.int x, .int lo, .int hi] mem P :=
  E_X8_within _ _ _ ⟨fun c => h0 (fun g => absurd c (Int32.not_lt.mpr g.1)), fun c => ⟨fun c2 => h0 (fun g => absurd c2 (Int32.not_lt.mpr g.2)), fun c2 => h1 (Int32.not_lt.mp c) (Int32.not_lt.mp c2)⟩⟩
theorem k_held (x lo hi : Int32) (h : P (if lo < (if x < hi then x else hi) then (if x < hi then x else hi) else lo) mem) : Ci mX8_held (d + 1) [.int x, .int lo, .int hi] mem P := E_X8_held _ _ _ h
theorem held_clp (x m : Int32) (hm : 0 ≤ m) : (if 0 < (if x < m then x else m) then (if x < m then x else m) else 0) = clp x m := by
  unfold clp
  grind
theorem k_heldc (x m : Int32) (hm : 0 ≤ m) (h : P (clp x m) mem) : Ci mX8_held (d + 1) [.int x, .int 0, .int m] mem P := k_held _ _ _ (by rw [held_clp x m hm]; exact h)
theorem k_rng (x : Int32) {v : Int32} (n : Nat) (hv : v = nI n) (hn : n < 2 ^ 30) (h1 : ∀ k, k < n → x = nI k → P 1 mem) (h0 : (¬ ∃ k, k < n ∧ x = nI k) → P 0 mem) : Ci mX8_within d [.int x, .int 0, .int (v - 1)] mem P := by
  refine k_within x 0 (v - 1) (fun a b => ?_) (fun a => ?_)
  · rw [hv] at b
    obtain ⟨k, hk, e⟩ := nI_rng a b hn
    exact h1 k hk e
  · refine h0 (fun ⟨k, hk, e⟩ => a ?_)
    rw [hv, e]
    exact nI_rng' hk hn
theorem k_has {q : Nat} (hq : wf_sh q = (3, 0)) (x : Int32) (n : Nat) (hv : mem q 0 = nI n) (hn : n < 2 ^ 30) (h1 : ∀ k, k < n → x = nI k → P 1 mem) (h0 : (¬ ∃ k, k < n ∧ x = nI k) → P 0 mem) : Ci mX3_has (d + 1) [.ref q, .int x] mem P :=
  E_X3_has _ hq _ (k_rng x n hv hn (fun k a b => bl1 (h1 k a b)) (fun a => bl0 (h0 a)))
theorem k_named (key : Int32) (hk : key = 0 ∨ key = 1 ∨ key = 2) (v a b e : Int32) (h : P (nmK key a b e v) mem) : Ci mX2_named d [.int (nmK key (-1) (-2) (-3) v), .int a, .int b, .int e] mem P := by
  refine E_X2_named _ _ _ _ ?_
  unfold nmK at h ⊢
  rcases hk with rfl | rfl | rfl
  · simp only [if_true] at h ⊢
    split at h
    · simpa [*] using h
    · split at h
      · simpa [*] using h
      · simpa [*] using h
  · simp only [show ¬ (1 : Int32) = 0 by decide, if_false, if_true] at h ⊢
    split at h
    · simpa [*] using h
    · split at h
      · simpa [*] using h
      · simpa [*] using h
  · simp only [show ¬ (2 : Int32) = 0 by decide, show ¬ (2 : Int32) = 1 by decide, if_false] at h ⊢
    split at h
    · simpa [*] using h
    · simpa [*] using h
theorem k_joined (v x y : Int32) (hv : v = 43 ∨ v = 45 ∨ v = 42 ∨ v = 47 ∨ v = 60 ∨ v = 62 ∨ v = 61 ∨ v = 38 ∨ v = 124) (h : P (jnR v x y) mem) : Ci mX2_joined d [.int v, .int x, .int y] mem P := by
  unfold jnR at h
  refine E_X2_joined _ _ _ ⟨fun a => ?_, fun a => ⟨fun b => ?_, fun b => ⟨fun e => ?_, fun e => ⟨fun f => ?_, fun f => ⟨fun i => ?_, fun i => ⟨fun j => ?_, fun j => ⟨fun k => ?_, fun k => ⟨fun o => ?_, fun o => ?_⟩⟩⟩⟩⟩⟩⟩⟩
  · subst a
    refine ⟨fun p => ?_, fun p => ⟨fun q => ?_, fun q => ?_⟩⟩ <;> simpa [*] using h
  · subst b; simpa using h
  · subst e; simpa using h
  · subst f; simpa using h
  · subst i
    refine ⟨fun p => ?_, fun p => ?_⟩
    · have : ¬ x < y := Int32.not_lt.mpr p
      simpa [this] using h
    · have : x < y := Int32.not_le.mp p
      simpa [this] using h
  · subst j
    refine ⟨fun p => ?_, fun p => ?_⟩ <;> simpa [p] using h
  · subst k
    refine ⟨fun p => ?_, fun p => ?_⟩
    · have : ¬ y < x := Int32.not_lt.mpr p
      simpa [this] using h
    · have : y < x := Int32.not_le.mp p
      simpa [this] using h
  · subst o
    refine ⟨fun p => ?_, fun p => ⟨fun q => ?_, fun q => ?_⟩⟩ <;> simpa [*] using h
  · have h47 : v = 47 := by
      rcases hv with g | g | g | g | g | g | g | g | g
      · exact absurd g e
      · exact absurd g f
      · exact absurd g b
      · exact g
      · exact absurd g i
      · exact absurd g k
      · exact absurd g j
      · exact absurd g a
      · exact absurd g o
    subst h47
    refine ⟨fun p => ⟨p, ?_⟩, fun p => ?_⟩ <;> simpa [p] using h
theorem work_loop {t : Nat} (hT : t < 14) (hO : okT r t) (a b e : Int32) :
    ∀ (j k : Nat) (stk : List Int32) (mem : wf_Mem), k + j = mnR r t → lwT mem r t → htS ((txR r t).drop k) stk.length = some 1 → stk.length ≤ 96 → pil (mem 9) stk →
      (∀ mem', Fr S9 mem mem' → P ((evS (nmK (r (88 + 200 * t)) a b e) ((txR r t).drop k) stk).headD 0) mem') →
      Vw (Ni (d + 1) P) mX2_work 6 [(0, .ref (10 + 1 + 2 * t)), (1, .int a), (2, .int b), (3, .int e), (4, .int (nI stk.length)), (5, .int (nI k))] [] mem := by
  obtain ⟨hkey, hm, hm96, hst, -⟩ := hO
  have hsh : wf_sh (10 + 1 + 2 * t) = (2, 0) := sh_r21 sh_a10 (by omega)
  have hL : ∀ {mem m' : wf_Mem}, Fr S9 mem m' → lwT mem r t → lwT m' r t := fun {mem m'} hf hl => by
    have e1 : m' (10 + 1 + 2 * t) = mem (10 + 1 + 2 * t) := hf _ (by unfold S9; omega)
    have e2 : m' (10 + 1 + 2 * t + 1) = mem (10 + 1 + 2 * t + 1) := hf _ (by unfold S9; omega)
    unfold lwT
    rw [e1, e2]
    exact hl
  intro j
  induction j with
  | zero =>
    intro k stk mem hk hl hht hs hp h
    refine b_X2_work_6 _ _ hsh _ _ _ _ _ (br_t ?_ ?_)
    · rw [hl.2.2.1, hm]; exact nI_le (by omega) (by omega)
    · have hd : (txR r t).drop k = [] := List.drop_eq_nil_iff.mpr (by simp [txR]; omega)
      rw [hd] at hht h
      simp only [htS, Option.some.injEq] at hht
      have h := h mem Fr.rf
      match stk, hht, hp, h with
      | [x], _, hp, h =>
        have e : mem 9 0 = x := hp.1
        rw [e]
        exact h
  | succ j ih =>
    intro k stk mem hk hl hht hs hp h
    have hkm : k < mnR r t := by omega
    rw [txR_drop hkm] at hht h
    have hok := hst k hkm
    have hcd := hl.2.2.2 k hkm
    refine b_X2_work_6 _ _ hsh _ _ _ _ _ (br_f ?_ ⟨vin (by omega), fun x ex => ?_⟩)
    · rw [hl.2.2.1, hm]; exact nI_ge (by omega) (by omega)
    rw [nI_clamp (by omega), hcd] at ex
    generalize stR r t k = q at hht h hok ex
    simp only [htS, evS] at hht h
    have go : ∀ (s : List Int32) (z : Int32), s.length < 96 → pil (mem 9) s → htS ((txR r t).drop (k + 1)) (s.length + 1) = some 1 → (∀ mem', Fr S9 mem mem' → P ((evS (nmK (r (88 + 200 * t)) a b e) ((txR r t).drop (k + 1)) (z :: s)).headD 0) mem') →
        Vw (Ni (d + 1) P) mX2_work 6 [(0, .ref (10 + 1 + 2 * t)), (1, .int a), (2, .int b), (3, .int e), (4, .int (nI (s.length + 1))), (5, .int (nI (k + 1)))] [] (wf_ms mem 9 s.length z) := by
      intro s z hs hp hht h
      exact ih (k + 1) (z :: s) (wf_ms mem 9 s.length z) (by omega) (hL (Fr.ms (S := S9) rfl) hl) hht (by simp only [List.length_cons]; omega) (by rw [wf_ms_same]; exact pil_push hp) (fun m' hm' => h m' ((Fr.ms (S := S9) rfl).tr hm'))
    by_cases c2 : q.1 = 2
    · rw [if_pos c2] at hht h
      have hx : x = -100 - q.2 := by
        rw [ex]; unfold encS
        rw [if_neg (by rw [c2]; decide), if_pos c2]
      have hv : q.2 = 33 ∨ q.2 = 43 ∨ q.2 = 45 ∨ q.2 = 42 ∨ q.2 = 47 ∨ q.2 = 60 ∨ q.2 = 62 ∨ q.2 = 61 ∨ q.2 = 38 ∨ q.2 = 124 := by
        rcases hok with g | g | g
        · exact absurd (g.1.symm.trans c2) (by decide)
        · exact absurd (g.1.symm.trans c2) (by decide)
        · exact g.2
      have hx3 : x < -3 := by
        rw [hx]
        rcases hv with g | g | g | g | g | g | g | g | g | g <;> rw [g] <;> decide
      refine br_t hx3 (b_X2_work_72 _ _ hsh _ _ _ _ _ _ ?_)
      by_cases c3 : q.2 = 33
      · rw [if_pos c3] at hht h
        refine ⟨fun g => absurd (by rw [hx, c3]; decide) g, fun _ => ?_⟩
        match stk, hht, hs, hp, h with
        | [], hht, _, _, _ => simp at hht
        | y :: s, hht, hs, hp, h =>
          simp only [List.length_cons] at hht hs ⊢
          rw [if_pos (by omega)] at hht
          refine br_f (nI_nlt (b := 1) (by omega) (by omega)) ?_
          rw [nI_pred, nI_clamp (by omega), nI_1]
          have ey : mem 9 s.length = y := hp.1
          rw [ey]
          refine ⟨vin (by omega), fun c4 => ⟨vin (by omega), fun m2 e2 => ?_⟩, fun c4 => ⟨vin (by omega), fun m2 e2 => ?_⟩⟩
          · subst e2; exact go s 0 (by omega) hp.2 hht (by simpa [c4] using h)
          · subst e2; exact go s 1 (by omega) hp.2 hht (by simpa [c4] using h)
      · rw [if_neg c3] at hht h
        refine ⟨fun _ => ?_, fun g => absurd (show q.2 = 33 by rw [hx] at g; grind) c3⟩
        refine b_X2_work_115 _ _ hsh _ _ _ _ _ _ ?_
        match stk, hht, hs, hp, h with
        | [], hht, _, _, _ => simp at hht
        | [y], hht, _, _, _ => simp at hht
        | y :: z :: s, hht, hs, hp, h =>
          simp only [List.length_cons] at hht hs ⊢
          rw [if_pos (by omega)] at hht
          refine br_f (nI_nlt (b := 2) (by omega) (by omega)) ?_
          have exv : -100 - x = q.2 := by rw [hx]; grind
          rw [pk_m1, nI_pred, nI_clamp (by omega), nI_clamp (by omega), exv]
          have ey : mem 9 (s.length + 1) = y := hp.1
          have ez : mem 9 s.length = z := hp.2.1
          rw [ey, ez]
          refine ⟨vin (by omega), vin (by omega), k_joined _ _ _ (hv.resolve_left c3) ⟨vin (by omega), fun m2 e2 => ?_⟩⟩
          subst e2
          rw [nI_1]
          exact go s _ (by omega) hp.2.2 hht h
    · rw [if_neg c2] at hht h
      by_cases hl96 : stk.length < 96
      · rw [if_pos hl96] at hht
        have h96 : ¬ 96 ≤ nI stk.length := nI_ge (b := 96) (by omega) (by omega)
        rw [nI_clamp (by omega : stk.length < 2 ^ 31), nI_1, nI_1]
        by_cases c0 : q.1 = 0
        · have hx : x = q.2 := by rw [ex]; unfold encS; rw [if_pos c0]
          have hb : 0 ≤ q.2 := by
            rcases hok with g | g | g
            · exact g.2.1
            · exact absurd (g.1.symm.trans c0) (by decide)
            · exact absurd g.1 c2
          refine br_f (by rw [hx]; grind) (br_f h96 (br_f (by rw [hx]; grind) ⟨vin (by omega), fun m2 e2 => ?_⟩))
          subst e2
          rw [hx]
          exact go stk q.2 hl96 hp hht (by simpa [c0] using h)
        · have h1 : q.1 = 1 := by
            rcases hok with g | g | g
            · exact absurd g.1 c0
            · exact g.1
            · exact absurd g.1 c2
          have hx : x = nmK (r (88 + 200 * t)) (-1) (-2) (-3) q.2 := by rw [ex]; unfold encS; rw [if_neg c0, if_neg c2]
          have h3 : x = -1 ∨ x = -2 ∨ x = -3 := by
            rw [hx]; unfold nmK
            split
            · split
              · exact Or.inl rfl
              · split
                · exact Or.inr (Or.inl rfl)
                · exact Or.inr (Or.inr rfl)
            · split
              · split
                · exact Or.inl rfl
                · split
                  · exact Or.inr (Or.inl rfl)
                  · exact Or.inr (Or.inr rfl)
              · split
                · exact Or.inl rfl
                · exact Or.inr (Or.inl rfl)
          refine br_f (by rcases h3 with g | g | g <;> rw [g] <;> decide) (br_f h96 (br_t (by rcases h3 with g | g | g <;> rw [g] <;> decide) ?_))
          rw [hx]
          refine k_named _ hkey _ _ _ _ ⟨vin (by omega), fun m2 e2 => ?_⟩
          subst e2
          exact go stk _ hl96 hp hht (by simpa [c0] using h)
      · rw [if_neg hl96] at hht
        cases hht
theorem k_work {t : Nat} (hT : t < 14) (hO : okT r t) (hl : lwT mem r t) (a b e : Int32) (h : ∀ mem', Fr S9 mem mem' → P (evT r t a b e) mem') : Ci mX2_work (d + 1) [.ref (10 + 1 + 2 * t), .int a, .int b, .int e] mem P :=
  E_X2_work _ (sh_r21 sh_a10 (by omega)) _ _ _ (work_loop hT hO a b e (mnR r t) 0 [] mem (by omega) hl (by simpa using hO.2.2.2.2) (by simp) trivial (by simpa [evT] using h))
end CLSA
