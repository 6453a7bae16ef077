/-! the reference's hour -/
def hc (m m' : wf_Mem) : Prop := (∀ a, a ≠ 120 → a ≠ 121 → a ≠ 134 → a ≠ 135 → m' a = m a) ∧ ∀ j, j ≠ 12 → j ≠ 13 → m' 120 j = m 120 j
theorem hc.rf {m : wf_Mem} : hc m m := ⟨fun _ _ _ _ _ => rfl, fun _ _ _ => rfl⟩
theorem hc.tr {a b c : wf_Mem} (h1 : hc a b) (h2 : hc b c) : hc a c := ⟨fun q g1 g2 g3 g4 => (h2.1 q g1 g2 g3 g4).trans (h1.1 q g1 g2 g3 g4), fun j g1 g2 => (h2.2 j g1 g2).trans (h1.2 j g1 g2)⟩
theorem sc.hc {m m' : wf_Mem} (h : sc m m') : hc m m' := ⟨fun q _ _ g3 g4 => h q g3 g4, fun j _ _ => by rw [h 120 (by decide) (by decide)]⟩
theorem hc.s {m : wf_Mem} {k : Nat} {v : Int32} : hc m (wf_ms m 121 k v) := ⟨fun q _ g _ _ => wf_ms_other _ _ _ _ g, fun j _ _ => msA _ _ _ _ (by decide)⟩
theorem hc.f {m : wf_Mem} {k : Nat} {v : Int32} (hk : k = 12 ∨ k = 13) : hc m (wf_ms m 120 k v) := ⟨fun q g _ _ _ => wf_ms_other _ _ _ _ g, fun j _ _ => msK _ _ _ _ (by omega)⟩
theorem ms121 {m : wf_Mem} {k : Nat} {v : Int32} {r : Rw} (h : m 121 = r) : wf_ms m 121 k v 121 = upd r k v := by rw [wf_ms_same, h]
theorem ms120 {m : wf_Mem} {k : Nat} {v : Int32} {r : Rw} (h : m 121 = r) : wf_ms m 120 k v 121 = r := by rw [wf_ms_other _ _ _ _ (by decide)]; exact h
section REFI
variable {d : Nat} {mem : wf_Mem} {P : Int32 → wf_Mem → Prop} {Q : wf_Mem → Prop} {r : Rw}
theorem comeTo_loop (hI : okR r) (hw : ¬ r 4 ≤ 0) : ∀ (j k : Nat) (mem : wf_Mem), mem 121 = r → k + j = rN r → (∀ mem', sc mem mem' → P (cmA r (rN r)).1 mem') →
    Vw (Ni (d + 6) P) mX9_comeTo 6 [(0, .ref 120), (1, .int (cmA r k).1), (2, .int (cmA r k).2), (3, .int (nI k))] [] mem := by
  obtain ⟨hn, hn2⟩ := hI.n
  intro j
  induction j with
  | zero =>
    intro k mem hr hj h
    refine b_X9_comeTo_6 _ _ _ _ (br_t ?_ ?_)
    · rw [hr, hn]; exact nI_le (by omega) (by omega)
    · have : k = rN r := by omega
      rw [this]; exact h mem sc.rf
  | succ j ih =>
    intro k mem hr hj h
    refine b_X9_comeTo_6 _ _ _ _ (br_f ?_ (br_f (by rw [hr]; exact hw) (c_fears hr hI (by omega) (fun m hm => ?_))))
    · rw [hr, hn]; exact nI_ge (by omega) (by omega)
    · have hn := ih (k + 1) m (hm.s.trans hr) (by omega) (fun m' hm' => h m' (hm.tr hm'))
      rw [nI_1]
      unfold cmA at hn
      refine ⟨fun c => ?_, fun c => ⟨fun c2 => ?_, fun c2 => ?_⟩⟩
      · rw [if_pos c] at hn; exact hn
      · rw [if_neg c, if_pos c2] at hn; exact hn
      · rw [if_neg c, if_neg c2] at hn; exact hn
theorem c_comeTo (hr : mem 121 = r) (hI : okR r) (h : ∀ mem', sc mem mem' → P (cmR r) mem') : Ci mX9_comeTo (d + 6) [.ref 120] mem P := by
  unfold cmR at h
  refine E_X9_comeTo ?_
  by_cases hw : r 4 ≤ 0
  · rw [if_pos hw] at h
    refine b_X9_comeTo_6 _ _ _ _ ⟨fun _ => h mem sc.rf, fun _ => br_t (by rw [hr]; exact hw) (h mem sc.rf)⟩
  · rw [if_neg hw] at h
    exact comeTo_loop hI hw (rN r) 0 mem hr (by omega) h
theorem burns_loop (hI : okR r) : ∀ (j k : Nat) (mem : wf_Mem), mem 121 = bnA r k → mem 120 12 = woA r k → k + j = rN r → (∀ mem', hc mem mem' → mem' 121 = bnR r → mem' 120 12 = woA r (rN r) → Q mem') →
    Vw (Nv (d + 1) Q) mX9_burns 7 [(0, .ref 120), (1, .int (nI k))] [] mem := by
  obtain ⟨hn, hn2⟩ := hI.n
  intro j
  induction j with
  | zero =>
    intro k mem hr ho hj h
    have hk : k = rN r := by omega
    subst hk
    refine b_X9_burns_7 _ _ (br_t ?_ (h mem hc.rf hr ho))
    rw [hr, (bnA_ok hI (rN r) (Nat.le_refl _)).2.1, hn]
    exact nI_le (Nat.le_refl _) (by omega)
  | succ j ih =>
    intro k mem hr ho hj h
    refine b_X9_burns_7 _ _ (br_f ?_ (c_wagonsOwn k 1 (by omega) ?_))
    · rw [hr, (bnA_ok hI k (by omega)).2.1, hn]; exact nI_ge (by omega) (by omega)
    · have e1 : bnA r (k + 1) = if bnA r k (12 + 3 * k + 1) ≤ bnA r k 3 then upd (upd (bnA r k) 3 (bnA r k 3 - bnA r k (12 + 3 * k + 1))) 9 (bnA r k 9 + bnA r k (12 + 3 * k + 1)) else upd (bnA r k) (12 + 3 * k + 1) 0 := rfl
      have e2 : woA r (k + 1) = if bnA r k (12 + 3 * k + 1) ≤ bnA r k 3 then woA r k else 1 := rfl
      rw [hr, nI_1]
      refine ⟨fun c m1 h1 m2 h2 => ?_, fun c => ?_⟩
      · subst h1 h2
        rw [if_pos c] at e1 e2
        refine ih (k + 1) _ ?_ ?_ (by omega) (fun m' a b e => h m' ((hc.s.tr hc.s).tr a) b e)
        · rw [e1, ms121 (ms121 hr), msK _ _ _ _ (by decide), hr]
        · rw [e2, msA _ _ _ _ (by decide), msA _ _ _ _ (by decide), ho]
      · rw [if_neg c] at e1 e2
        have ei : 12 + 3 * nI k + 1 = nI (12 + 3 * k + 1) := ixw k 1
        rw [ei]
        refine ⟨vin (by omega), fun m1 h1 m2 h2 => ?_⟩
        rw [nI_clamp (by omega)] at h1
        subst h1 h2
        refine ih (k + 1) _ ?_ ?_ (by omega) (fun m' a b e => h m' ((hc.s.tr (hc.f (Or.inl rfl))).tr a) b e)
        · rw [e1, ms120 (ms121 hr)]
        · rw [e2, msS]
theorem c_burns (hr : mem 121 = r) (hI : okR r) (h : ∀ mem', hc mem mem' → mem' 121 = bnR r → mem' 120 12 = woA r (rN r) → Q mem') : Cv mX9_burns (d + 1) [.ref 120] mem Q := by
  refine E_X9_burns (fun m1 h1 => ?_)
  subst h1
  exact burns_loop hI (rN r) 0 _ (ms120 hr) (msS _ _ _ _) (by omega) (fun m' a b e => h m' ((hc.f (Or.inl rfl)).tr a) b e)
theorem take99 (hr : mem 121 = r) {k : Nat} (hk : k < 12) (h : ∀ mem', hc mem mem' → mem' 120 = mem 120 → mem' 121 = upd (upd r (12 + 3 * k + 2) (clp (r (12 + 3 * k + 2) + 1) 99)) 5 (clp (r 5 + 1) 99) → Q mem') :
    Vw (Nv (d + 1) Q) mX9_comeAndTake 99 [(0, .ref 120), (1, .int (nI (12 + 3 * k)))] [] mem := by
  refine b_X9_comeAndTake_99 _ _ ?_
  rw [nI_2, nI_clamp (by omega)]
  refine ⟨vin (by omega), c_within _ _ ⟨vin (by omega), fun m1 h1 => c_within _ _ (fun m2 h2 => ?_)⟩⟩
  subst h1 h2
  refine h _ (hc.s.tr hc.s) ?_ ?_
  · rw [wf_ms_other _ _ _ _ (by decide), wf_ms_other _ _ _ _ (by decide)]
  · rw [ms121 (ms121 hr), msK _ _ _ _ (by omega), hr]
theorem c_take (hr : mem 121 = r) (hI : okR r) (h : ∀ mem', hc mem mem' → mem' 121 = tkR r → mem' 120 12 = mem 120 12 → mem' 120 13 = cmR r → Q mem') : Cv mX9_comeAndTake (d + 7) [.ref 120] mem Q := by
  obtain ⟨hn, hn2⟩ := hI.n
  refine E_X9_comeAndTake (c_comeTo hr hI (fun m hm m3 h3 => ?_))
  have hr' : m 121 = r := hm.s.trans hr
  have h12 : m 120 = mem 120 := hm 120 (by decide) (by decide)
  subst h3
  rw [msS]
  unfold tkR at h
  refine ⟨fun c => ?_, fun c => ?_⟩
  · rw [if_pos c] at h
    rcases cmR_in hI with e | ⟨k, hk, e⟩
    · rw [e] at c; exact absurd c (by decide)
    · rw [e, ixw0]
      rw [e, nI_clamp (by omega)] at h
      intro x ex
      subst ex
      refine c_guard (ms120 hr') hI hk (fun m2 hm2 => ?_)
      have hr2 : m2 121 = r := hm2.s.trans (ms120 hr')
      have g12 : m2 120 12 = mem 120 12 := by rw [hm2 120 (by decide) (by decide), msK _ _ _ _ (by decide), h12]
      have g13 : m2 120 13 = nI k := by rw [hm2 120 (by decide) (by decide), msS]
      have hh : hc mem m2 := (hm.hc.tr (hc.f (Or.inr rfl))).tr hm2.hc
      unfold tkAt at h
      rw [hr2, nI_clamp (by omega)]
      refine ⟨fun c2 => ?_, fun c2 => ⟨vin (by omega), fun c3 => ?_, fun c3 => ⟨vin (by omega), vin (by omega), fun m4 h4 m5 h5 m6 h6 => ?_⟩⟩⟩
      · rw [if_pos (Or.inl c2)] at h
        exact take99 hr2 (by omega) (fun m' a b e => h m' (hh.tr a) e (by rw [b]; exact g12) (by rw [b]; exact g13))
      · rw [if_pos (Or.inr c3)] at h
        exact take99 hr2 (by omega) (fun m' a b e => h m' (hh.tr a) e (by rw [b]; exact g12) (by rw [b]; exact g13))
      · rw [if_neg (fun g => g.elim c2 c3)] at h
        rw [nI_2]
        refine ⟨vin (by omega), fun m7 h7 => ?_⟩
        rw [nI_clamp (by omega)] at h7
        subst h4 h5 h6 h7
        refine h _ (hh.tr ((hc.s.tr hc.s).tr (hc.s.tr hc.s))) ?_ ?_ ?_
        · rw [ms121 (ms121 (ms121 (ms121 hr2))), msK _ _ _ _ (by omega), hr2]
        · rw [msA _ _ _ _ (by decide), msA _ _ _ _ (by decide), msA _ _ _ _ (by decide), msA _ _ _ _ (by decide)]; exact g12
        · rw [msA _ _ _ _ (by decide), msA _ _ _ _ (by decide), msA _ _ _ _ (by decide), msA _ _ _ _ (by decide)]; exact g13
  · rw [if_neg c] at h
    exact h _ (hm.hc.tr (hc.f (Or.inr rfl))) (ms120 hr') (by rw [msK _ _ _ _ (by decide), h12]) (msS _ _ _ _)
theorem c_tires (hr : mem 121 = r) (hI : okR r) {w : Nat} (hw : w < rW r) (h : ∀ mem', sc mem mem' → P (tiR r w) mem') : Ci mX9_tires (d + 2) [.ref 120, .int (nI w)] mem P := by
  have hW := hI.w.2
  unfold tiR lwR at h
  refine E_X9_tires _ (c_counts hr hI 2 ⟨fun c => ?_, fun c => ?_⟩)
  · rw [if_pos c] at h
    rcases cntR_in r 2 (rT r) with e | ⟨j, hj, e, ekey⟩
    · rw [e] at c; exact absurd c (by decide)
    · have hj14 : j < 14 := by have := hI.t.2; omega
      rw [e, nI_clamp (by omega)] at h
      rw [e]
      refine c_of w 3 (by omega) (fun m1 e1 => c_of w 2 (by omega) (fun m2 e2 => ?_))
      subst e1 e2
      refine c_worked (ms134 (ms134 hr)) hj14 (hI.tx hj) (r (48 + 5 * w + 3)) (r (48 + 5 * w + 2)) 0 ?_ (fun m' hm' => c_within _ _ ?_)
      · rw [ekey]
        refine hnm2 ?_ ?_
        · simp [wf_ms, hr]
        · simp [wf_ms, hr]
      · exact h m' (((sc.ms (Or.inl rfl)).tr (sc.ms (Or.inl rfl))).tr hm')
  · rw [if_neg c] at h
    exact h mem sc.rf
theorem goesOn_loop (hI : okR r) : ∀ (j w : Nat) (mem : wf_Mem), mem 121 = trA r w → w + j = rW r → (∀ mem', hc mem mem' → mem' 121 = upd (trA r (rW r)) 6 (trA r (rW r) 6 + 1) → mem' 120 = mem 120 → Q mem') →
    Vw (Nv (d + 3) Q) mX9_goesOn 10 [(0, .ref 120), (1, .int (nI w))] [] mem := by
  obtain ⟨hw, hw2⟩ := hI.w
  intro j
  induction j with
  | zero =>
    intro w mem hr hj h
    have hk : w = rW r := by omega
    subst hk
    refine b_X9_goesOn_10 _ _ (br_t ?_ (fun m1 h1 => ?_))
    · rw [hr, (trA_ok hI (rW r) (Nat.le_refl _)).2.2.1, hw]
      exact nI_le (Nat.le_refl _) (by omega)
    · subst h1
      exact h _ hc.s (by rw [ms121 hr, hr]) (wf_ms_other _ _ _ _ (by decide))
  | succ j ih =>
    intro w mem hr hj h
    obtain ⟨hO, hS⟩ := trA_ok hI w (by omega)
    refine b_X9_goesOn_10 _ _ (br_f ?_ (fun x ex => ?_))
    · rw [hr, hS.2.1, hw]; exact nI_ge (by omega) (by omega)
    · have ei : 48 + 5 * nI w + 3 = nI (48 + 5 * w + 3) := ixo w 3
      rw [ei] at ex
      subst ex
      have e1 : trA r (w + 1) = if trA r w (48 + 5 * w + 4) = 1 then upd (trA r w) (48 + 5 * w + 3) (clp (trA r w (48 + 5 * w + 3) + tiR (trA r w) w) 999)
        else upd (upd (trA r w) (48 + 5 * w + 3) (clp (trA r w (48 + 5 * w + 3) - 2) 999)) 7 (trA r w 7 + 1) := rfl
      refine c_of w 4 (by omega) ?_
      rw [hr, nI_1, nI_clamp (by omega)]
      refine ⟨fun c => ⟨vin (by omega), c_within _ _ ⟨vin (by omega), fun m1 h1 m2 h2 => ?_⟩⟩, fun c => ⟨vin (by omega), c_tires hr hO (by rw [hS.W]; omega) (fun m hm => c_within _ _ ⟨vin (by omega), fun m1 h1 => ?_⟩)⟩⟩
      · subst h1 h2
        rw [if_neg c] at e1
        refine ih (w + 1) _ ?_ (by omega) (fun m' a b e => h m' ((hc.s.tr hc.s).tr a) b (by rw [e, wf_ms_other _ _ _ _ (by decide), wf_ms_other _ _ _ _ (by decide)]))
        rw [e1, ms121 (ms121 hr), msK _ _ _ _ (by omega), hr]
      · subst h1
        rw [if_pos c] at e1
        refine ih (w + 1) _ ?_ (by omega) (fun m' a b e => h m' ((hm.hc.tr hc.s).tr a) b (by rw [e, wf_ms_other _ _ _ _ (by decide), hm 120 (by decide) (by decide)]))
        rw [e1, ms121 (hm.s.trans hr)]
theorem c_goesOn (hr : mem 121 = r) (hI : okR r) (h : ∀ mem', hc mem mem' → mem' 121 = hrR r → mem' 120 12 = woA r (rN r) → mem' 120 13 = cmR (bnR r) → Q mem') : Cv mX9_goesOn (d + 8) [.ref 120] mem Q := by
  obtain ⟨a1, a2⟩ := bnR_ok hI
  obtain ⟨b1, b2⟩ := tkR_ok a1
  refine E_X9_goesOn (c_burns hr hI (fun m1 c1 r1 o1 => c_take r1 a1 (fun m2 c2 r2 o2 k2 => ?_)))
  have hW : rW (tkR (bnR r)) = rW r := by rw [b2.W, a2.W]
  refine goesOn_loop (d := d + 5) b1 (rW r) 0 m2 r2 (by omega) (fun m3 c3 r3 e3 => h m3 ((c1.tr c2).tr c3) ?_ ?_ ?_)
  · rw [r3, hW]; rfl
  · rw [e3, o2, o1]
  · rw [e3, k2]
theorem many_loop (x : Nat) (hx : x ≤ 300) (hI : okR r) : ∀ (j k : Nat) (mem : wf_Mem), mem 121 = hrN r k → k + j = x → (∀ mem', hc mem mem' → mem' 121 = hrN r x → Q mem') →
    Vw (Nv (d + 9) Q) mX9_goesOnMany 2 [(0, .ref 120), (1, .int (nI x)), (2, .int (nI k))] [] mem := by
  intro j
  induction j with
  | zero =>
    intro k mem hr hj h
    have hk : k = x := by omega
    subst hk
    exact b_X9_goesOnMany_2 _ _ _ (br_t (nI_le (Nat.le_refl _) (by omega)) (h mem hc.rf hr))
  | succ j ih =>
    intro k mem hr hj h
    refine b_X9_goesOnMany_2 _ _ _ (br_f (nI_ge (by omega) (by omega)) (c_goesOn hr (hrN_ok hI k).1 (fun m1 c1 r1 _ _ => ?_)))
    rw [nI_1]
    exact ih (k + 1) m1 r1 (by omega) (fun m' a b => h m' (c1.tr a) b)
theorem c_goesOnMany (x : Nat) (hx : x ≤ 300) (hr : mem 121 = r) (hI : okR r) (h : ∀ mem', hc mem mem' → mem' 121 = hrN r x → Q mem') : Cv mX9_goesOnMany (d + 9) [.ref 120, .int (nI x)] mem Q :=
  E_X9_goesOnMany _ (many_loop x hx hI x 0 mem hr (by omega) h)
end REFI
