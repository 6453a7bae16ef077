/-! copy -/
theorem nI_int {n : Nat} (h : n < 2 ^ 31) : (nI n).toInt = (n : Int) := by
  have h1 : (nI n).toNatClampNeg = n := nI_clamp h
  have h2 : (0 : Int32) ≤ nI n := nI_pos' h
  rw [Int32.le_iff_toInt_le] at h2
  have e : (0 : Int32).toInt = 0 := by decide
  rw [e] at h2
  unfold Int32.toNatClampNeg at h1
  omega
theorem l64_add {a n s : Nat} (ha : a < 2 ^ 31) (hn : n < 2 ^ 31) (hs : s < 2 ^ 31) : (nI s).toInt64 < (nI a).toInt64 + (nI n).toInt64 ↔ s < a + n := by
  rw [Int64.lt_iff_toInt_lt, Int64.toInt_add, Int32.toInt_toInt64, Int32.toInt_toInt64, Int32.toInt_toInt64, nI_int ha, nI_int hn, nI_int hs]
  have : ((a : Int) + (n : Int)).bmod (2 ^ 64) = (a : Int) + n := by
    apply Int.bmod_eq_of_le <;> omega
  rw [this]
  omega
section OPO
variable {d : Nat} {mem : wf_Mem} {P : Int32 → wf_Mem → Prop} {Q : wf_Mem → Prop} {r : Rw}
theorem k_hasRun {q s : Nat} (hq : wf_sh q = (4, 0)) (x y : Int32) (hv : mem q 1 = nI s) (hs : s ≤ 24) (h1 : ∀ a n, x = nI a → y = nI n → a + n ≤ s → P 1 mem) (h0 : (¬ ∃ a n, x = nI a ∧ y = nI n ∧ a + n ≤ s) → P 0 mem) : Ci mX4_hasRun d [.ref q, .int x, .int y] mem P := by
  refine E_X4_hasRun _ hq _ _ ?_
  rw [hv]
  refine ⟨fun c => h0 (fun ⟨a, n, e1, e2, e3⟩ => absurd (nI_pos' (by omega : a < 2 ^ 31)) (by rw [← e1]; exact Int32.not_le.mpr c)), fun c => ⟨fun c2 => h0 (fun ⟨a, n, e1, e2, e3⟩ => absurd (nI_pos' (by omega : n < 2 ^ 31)) (by rw [← e2]; exact Int32.not_le.mpr c2)), fun c2 => ?_⟩⟩
  obtain ⟨a, ha, ea⟩ := nI_of c
  obtain ⟨n, hn, en⟩ := nI_of c2
  have q1 : (nI s < nI n) ↔ s < n := nI_ltI (by omega) (by omega)
  have uq : ∀ a' n', x = nI a' → y = nI n' → a' + n' ≤ s → a' = a ∧ n' = n := fun a' n' e1 e2 e3 => ⟨(nI_eq (by omega) (by omega)).mp (e1.symm.trans ea), (nI_eq (by omega) (by omega)).mp (e2.symm.trans en)⟩
  rw [ea, en, q1]
  refine ⟨fun c3 => h0 (fun ⟨a', n', e1, e2, e3⟩ => by have := uq a' n' e1 e2 e3; omega), fun c3 => ?_⟩
  have q2 : nI s - nI n = nI (s - n) := pk_sub (by omega)
  have q3 : (nI (s - n) < nI a) ↔ s - n < a := nI_ltI (by omega) (by omega)
  rw [q2, q3]
  exact ⟨fun c4 => h0 (fun ⟨a', n', e1, e2, e3⟩ => by have := uq a' n' e1 e2 e3; omega), fun c4 => h1 a n ea en (by omega)⟩
theorem ix3 (i a k : Nat) : 24 * nI i + nI a + nI k = nI (24 * i + a + k) := by rw [ix24, nI_add]
theorem copy_b {j b n : Nat} (hj : j < 4) (hb : b + n ≤ 24) (h : ∀ m', Fr (fun a => a = 126) mem m' → (∀ q, m' 126 q = if 24 * j + b ≤ q ∧ q < 24 * j + b + n then mem 136 (q - (24 * j + b)) else mem 126 q) → P (nI n) m') : ∀ (f k : Nat) (m : wf_Mem), n - k ≤ f → k ≤ n → Fr (fun a => a = 126) mem m → (∀ q, m 126 q = if 24 * j + b ≤ q ∧ q < 24 * j + b + k then mem 136 (q - (24 * j + b)) else mem 126 q) → Vw (Ni (d + 1) P) mX9_copy 150 [(0, .ref 120), (3, .int (nI j)), (4, .int (nI b)), (5, .int (nI n)), (6, .int (nI k))] [] m
  | f, k, m, hf, hk, ho, hh => by
    have ec : (nI n ≤ nI k) ↔ n ≤ k := nI_leI (by omega) (by omega)
    refine b_X9_copy_150 _ _ _ _ _ ?_
    rw [ec, ix3, nI_clamp (by omega : k < 2 ^ 31), nI_clamp (by omega)]
    refine ⟨fun g => ?_, fun g => ⟨vin (by omega), vin (by omega), fun m2 f2 => ?_⟩⟩
    · have : k = n := by omega
      subst this
      exact h m ho hh
    · rw [show nI k + 1 = nI (k + 1) from nI_1 k]
      rw [ho 136 (by decide)] at f2
      cases f with
      | zero => omega
      | succ f =>
        refine copy_b hj hb h f (k + 1) m2 (by omega) (by omega) (by rw [f2]; exact ho.tr (Fr.ms rfl)) (fun q => ?_)
        rw [f2]
        by_cases e : q = 24 * j + b + k
        · rw [e, msS, if_pos (by omega)]
          congr 1
          omega
        · rw [msK _ _ _ _ e, hh q]
          by_cases g2 : 24 * j + b ≤ q ∧ q < 24 * j + b + k
          · rw [if_pos g2, if_pos (by omega)]
          · rw [if_neg g2, if_neg (by omega)]
theorem copy_a {i j a b n : Nat} (hi : i < 4) (hj : j < 4) (ha : a + n ≤ 24) (hb : b + n ≤ 24) (h : ∀ m', Fr (fun a => a = 126 ∨ a = 136) mem m' → (∀ q, m' 126 q = if 24 * j + b ≤ q ∧ q < 24 * j + b + n then mem 126 (24 * i + a + (q - (24 * j + b))) else mem 126 q) → P (nI n) m') : ∀ (f k : Nat) (m : wf_Mem), n - k ≤ f → k ≤ n → Fr (fun a => a = 136) mem m → (∀ q, q < k → m 136 q = mem 126 (24 * i + a + q)) → Vw (Ni (d + 1) P) mX9_copy 113 [(0, .ref 120), (1, .int (nI i)), (2, .int (nI a)), (3, .int (nI j)), (4, .int (nI b)), (5, .int (nI n)), (6, .int (nI k))] [] m
  | f, k, m, hf, hk, ho, hh => by
    have ec : (nI n ≤ nI k) ↔ n ≤ k := nI_leI (by omega) (by omega)
    refine b_X9_copy_113 _ _ _ _ _ _ _ ?_
    rw [ec, ix3, nI_clamp (by omega : k < 2 ^ 31), nI_clamp (by omega)]
    refine ⟨fun g => ?_, fun g => ⟨vin (by omega), vin (by omega), fun m2 f2 => ?_⟩⟩
    · have : k = n := by omega
      subst this
      refine copy_b (mem := m) hj hb (fun m' f' g' => h m' (fun q hq => ?_) (fun q => ?_)) k 0 m (by omega) (by omega) Fr.rf (fun q => ?_)
      · rw [f' q (fun e => hq (Or.inl e)), ho q (fun e => hq (Or.inr e))]
      · rw [g' q, ho 126 (by decide)]
        by_cases g2 : 24 * j + b ≤ q ∧ q < 24 * j + b + k
        · rw [if_pos g2, if_pos g2, hh _ (by omega)]
        · rw [if_neg g2, if_neg g2]
      · rw [if_neg (by omega)]
    · rw [show nI k + 1 = nI (k + 1) from nI_1 k]
      rw [ho 126 (by decide)] at f2
      cases f with
      | zero => omega
      | succ f =>
        refine copy_a hi hj ha hb h f (k + 1) m2 (by omega) (by omega) (by rw [f2]; exact ho.tr (Fr.ms rfl)) (fun q hq => ?_)
        rw [f2]
        by_cases e : q = k
        · rw [e, msS]
        · rw [msK _ _ _ _ e]; exact hh q (by omega)
theorem copy_fin (hI : INV mem) {i j a b n : Nat} (hi : i < 4) (hj : j < 4) (ha : a + n ≤ 24) (hb : b + n ≤ 24) {m1 m2 : wf_Mem} (f1 : m1 = wf_mc mem (92 + 2 * i + 1) a (92 + 2 * j + 1) b n) (f2 : Fr (fun a => a = 126 ∨ a = 136) m1 m2) (g2 : ∀ q, m2 126 q = if 24 * j + b ≤ q ∧ q < 24 * j + b + n then m1 126 (24 * i + a + (q - (24 * j + b))) else m1 126 q) : INV m2 := by
  have o1 : ∀ c, c ≠ 92 + 2 * j + 1 → m1 c = mem c := fun c hc => by rw [f1, wf_mc_other _ _ _ _ _ _ hc]
  have o2 : ∀ c, c ≠ 92 + 2 * j + 1 → c ≠ 126 → c ≠ 136 → m2 c = mem c := fun c h1 h2 h3 => by rw [f2 c (by omega), o1 c h1]
  have e126 : m1 126 = mem 126 := o1 126 (by omega)
  have eJ : ∀ q, m2 (92 + 2 * j + 1) q = if b ≤ q ∧ q < b + n then mem (92 + 2 * i + 1) (a + (q - b)) else mem (92 + 2 * j + 1) q := fun q => by
    rw [f2 _ (by omega), f1]; unfold wf_mc; simp
  refine hI.sheets (fun c hc => ?_) (fun c hc => ?_)
  · unfold SHc at hc
    exact o2 c (by omega) (by omega) (by omega)
  · obtain ⟨t1, t2, t3, t4, t5⟩ := hI.2.2.1 c hc
    by_cases e : c = j
    · subst e
      refine ⟨?_, ?_, ?_, ?_, fun q hq => ?_⟩
      · rw [o2 _ (by omega) (by omega) (by omega), o2 124 (by omega) (by omega) (by omega)]; exact t1
      · rw [o2 124 (by omega) (by omega) (by omega)]; exact t2
      · rw [o2 _ (by omega) (by omega) (by omega), o2 125 (by omega) (by omega) (by omega)]; exact t3
      · rw [o2 125 (by omega) (by omega) (by omega)]; exact t4
      · rw [eJ, g2, e126]
        by_cases g : b ≤ q ∧ q < b + n
        · rw [if_pos g, if_pos (by omega)]
          have u := (hI.2.2.1 i hi).2.2.2.2 (a + (q - b)) (by omega)
          have ee : 24 * i + a + (24 * c + q - (24 * c + b)) = 24 * i + (a + (q - b)) := by omega
          rw [ee]; exact u
        · rw [if_neg g, if_neg (by omega)]
          exact t5 q hq
    · refine (hI.2.2.1 c hc).fr ?_ ?_ (fun q hq => ?_) ?_ ?_
      · rw [o2 124 (by omega) (by omega) (by omega)]
      · rw [o2 125 (by omega) (by omega) (by omega)]
      · rw [g2, e126, if_neg (by omega)]
      · exact o2 _ (by omega) (by omega) (by omega)
      · exact o2 _ (by omega) (by omega) (by omega)
theorem L_copy (hI : INV mem) (x y z u v : Int32) : Agr (d + 20) mX8_copy mX9_copy [.int x, .int y, .int z, .int u, .int v] mem := by
  have hsh := hI.2.2.1
  have bad : ¬ ((∃ i, i < 4 ∧ x = nI i) ∧ (∃ i, i < 4 ∧ z = nI i)) → Ci mX9_copy (d + 20) [.ref 120, .int x, .int y, .int z, .int u, .int v] mem (fun r2 m2 => -1000000001 = r2 ∧ INV m2) := fun hb =>
    E_X9_copy _ _ _ _ _ (c_isSheet x (fun i hi ei => z1 (c_isSheet z (fun j hj ej => absurd ⟨⟨i, hi, ei⟩, ⟨j, hj, ej⟩⟩ hb) (fun _ => n0 ⟨rfl, hI⟩))) (fun _ => z0 ⟨rfl, hI⟩))
  refine E_X8_copy _ _ _ _ _ (k_isSheet x (fun i hi ei => z1 (k_isSheet z (fun j hj ej => n1 ?_) (fun b => n0 (bad (fun g => b g.2))))) (fun b => z0 (bad (fun g => b g.1))))
  obtain ⟨s, hs, es, es1⟩ := shN (hsh i hi)
  obtain ⟨s', hs', es', es1'⟩ := shN (hsh j hj)
  have t1 := (hsh i hi).1
  have t2 := (hsh i hi).2.1
  have t1' := (hsh j hj).1
  have t2' := (hsh j hj).2.1
  have ex : x.toNatClampNeg = i := by rw [ei, nI_clamp (by omega)]
  have vx : vp_in x 4 := by rw [ei]; exact vin hi
  have ez : z.toNatClampNeg = j := by rw [ej, nI_clamp (by omega)]
  have vz : vp_in z 4 := by rw [ej]; exact vin hj
  have neg : ∀ {w : Int32}, (w = -1 ∨ w = 0 ∨ w = 1) → (w < 0 ↔ w = -1) := fun {w} h => by rcases h with rfl | rfl | rfl <;> decide
  have ref : ∀ (m : wf_Mem) (R : Int32 → wf_Mem → Prop), m 124 = mem 124 → m 125 = mem 125 → (mem 124 i = -1 → R (-1000000011) m) → (mem 124 j = -1 → R (-1000000011) m) → (¬ mem 124 i = mem 124 j → ¬ mem 124 i = -1 → ¬ mem 124 j = -1 → R (-1000000012) m) → (mem 124 i = mem 124 j → ¬ mem 124 j = -1 → (∀ a b n, y = nI a → u = nI b → v = nI n → a + n ≤ s → b + n ≤ s' → Vw (Ni (d + 20) R) mX9_copy 113 [(0, .ref 120), (1, .int x), (2, .int y), (3, .int z), (4, .int u), (5, .int v), (6, .int 0)] [] m) ∧ ((¬ ∃ a b n, y = nI a ∧ u = nI b ∧ v = nI n ∧ a + n ≤ s ∧ b + n ≤ s') → R (-1000000013) m)) → Ci mX9_copy (d + 20) [.ref 120, .int x, .int y, .int z, .int u, .int v] m R := fun m R q1 q2 h1 h2 h3 h4 => by
    refine E_X9_copy _ _ _ _ _ (c_isSheet x (fun i' _ _ => z1 (c_isSheet z (fun j' _ _ => n1 ?_) (fun b' => absurd ⟨j, hj, ej⟩ b'))) (fun b' => absurd ⟨i, hi, ei⟩ b'))
    rw [ex, ez, q1, q2, neg t2, srt t2', es, es']
    refine ⟨vx, h1, fun c1 => ⟨vz, fun c2 => ⟨vx, vz, fun c3 => ?_, fun c3 => h3 c3 c1 c2⟩, fun c2 => h2 (Decidable.not_not.mp c2)⟩⟩
    obtain ⟨g1, g0⟩ := h4 c3 c2
    refine ⟨fun c => g0 (fun ⟨a, b, n, e1, e2, e3, e4, e5⟩ => absurd (nI_pos' (by omega : a < 2 ^ 31)) (by rw [← e1]; exact Int32.not_le.mpr c)), fun d1 => ⟨fun c => g0 (fun ⟨a, b, n, e1, e2, e3, e4, e5⟩ => absurd (nI_pos' (by omega : b < 2 ^ 31)) (by rw [← e2]; exact Int32.not_le.mpr c)), fun d2 => ⟨fun c => g0 (fun ⟨a, b, n, e1, e2, e3, e4, e5⟩ => absurd (nI_pos' (by omega : n < 2 ^ 31)) (by rw [← e3]; exact Int32.not_le.mpr c)), fun d3 => ?_⟩⟩⟩
    obtain ⟨a, ha, ea⟩ := nI_of d1
    obtain ⟨b, hb, eb⟩ := nI_of d2
    obtain ⟨n, hn, en⟩ := nI_of d3
    have uq : ∀ a' b' n', y = nI a' → u = nI b' → v = nI n' → a' + n' ≤ s → b' + n' ≤ s' → a' = a ∧ b' = b ∧ n' = n := fun a' b' n' e1 e2 e3 e4 e5 => ⟨(nI_eq (by omega) (by omega)).mp (e1.symm.trans ea), (nI_eq (by omega) (by omega)).mp (e2.symm.trans eb), (nI_eq (by omega) (by omega)).mp (e3.symm.trans en)⟩
    have k1 : (0 < lg_cmp (y.toInt64 + v.toInt64) (nI s).toInt64) ↔ s < a + n := by rw [lc_gt, ea, en]; exact l64_add ha hn (by omega)
    have k2 : (0 < lg_cmp (u.toInt64 + v.toInt64) (nI s').toInt64) ↔ s' < b + n := by rw [lc_gt, eb, en]; exact l64_add hb hn (by omega)
    have k3 : (lg_cmp (u.toInt64 + v.toInt64) (nI s').toInt64 ≤ 0) ↔ ¬ s' < b + n := by rw [← k2]; exact Int32.not_lt.symm
    rw [k1, k3]
    exact ⟨vx, fun c => g0 (fun ⟨a', b', n', e1, e2, e3, e4, e5⟩ => by have := uq a' b' n' e1 e2 e3 e4 e5; omega), fun c => ⟨vz, fun c5 => g1 a b n ea eb en (by omega) (by omega), fun c5 => g0 (fun ⟨a', b', n', e1, e2, e3, e4, e5⟩ => by have := uq a' b' n' e1 e2 e3 e4 e5; omega)⟩⟩
  rw [ex, ez, t1, t1']
  refine ⟨vx, vz, fun c1 => ref mem _ rfl rfl (fun _ => ⟨rfl, hI⟩) (fun _ => ⟨rfl, hI⟩) (fun _ c' => absurd c1 c') (fun c' c'' => absurd (c'.symm.trans c1) c''), fun c1 => ⟨fun c2 => ⟨fun c3 => ?_, fun c3 => ref mem _ rfl rfl (fun c' => absurd c' c1) (fun c' => absurd c' c2) (fun _ _ _ => ⟨rfl, hI⟩) (fun c' => absurd c' c3)⟩, fun c2 => ref mem _ rfl rfl (fun _ => ⟨rfl, hI⟩) (fun _ => ⟨rfl, hI⟩) (fun _ _ c' => absurd c2 c') (fun _ c' => absurd c2 c')⟩⟩
  have no : (¬ ∃ a b n, y = nI a ∧ u = nI b ∧ v = nI n ∧ a + n ≤ s ∧ b + n ≤ s') → Ci mX9_copy (d + 20) [.ref 120, .int x, .int y, .int z, .int u, .int v] mem (fun r2 m2 => -1000000013 = r2 ∧ INV m2) := fun g =>
    ref mem _ rfl rfl (fun c' => absurd c' c1) (fun c' => absurd c' c2) (fun c' => absurd c3 c') (fun _ _ => ⟨fun a b n e1 e2 e3 e4 e5 => absurd ⟨a, b, n, e1, e2, e3, e4, e5⟩ g, fun _ => ⟨rfl, hI⟩⟩)
  refine k_hasRun (sh_w hi) y v es1 hs (fun a n ea en hr => z1 (k_hasRun (sh_w hj) u v es1' hs' (fun b n' eb en' hr' => n1 ?_) (fun g => n0 (no (fun ⟨a', b', n', e1, e2, e3, e4, e5⟩ => g ⟨b', n', e2, e3, e5⟩))))) (fun g => z0 (no (fun ⟨a', b', n', e1, e2, e3, e4, e5⟩ => g ⟨a', n', e1, e3, e4⟩)))
  have nn : n' = n := (nI_eq (by omega) (by omega)).mp (en'.symm.trans en)
  subst nn
  rw [ea, eb, en, nI_clamp (by omega), nI_clamp (by omega), nI_clamp (by omega)]
  refine ⟨⟨Int32.not_lt.mpr (nI_pos' (by omega)), Int32.not_lt.mpr (nI_pos' (by omega)), Int32.not_lt.mpr (nI_pos' (by omega)), by omega, by omega⟩, fun m1 f1 => ?_⟩
  have o1 : ∀ c, c ≠ 92 + 2 * j + 1 → m1 c = mem c := fun c hc => by rw [f1, wf_mc_other _ _ _ _ _ _ hc]
  rw [← ea, ← eb, ← en]
  refine ref m1 _ (o1 124 (by omega)) (o1 125 (by omega)) (fun c' => absurd c' c1) (fun c' => absurd c' c2) (fun c' => absurd c3 c') (fun _ _ => ⟨fun _ _ _ _ _ _ _ _ => ?_, fun g => absurd ⟨a, b, n', ea, eb, en, hr, hr'⟩ g⟩)
  rw [ei, ea, ej, eb, en]
  exact copy_a (d := d + 19) (mem := m1) hi hj (by omega) (by omega) (fun m2 f2 g2 => ⟨rfl, copy_fin hI hi hj (by omega) (by omega) f1 f2 g2⟩) n' 0 m1 (by omega) (by omega) Fr.rf (fun q hq => by omega)
end OPO
