/-! the class's machine: takesSign; digits -/
section TXH
variable {d : Nat} {mem : wf_Mem} {P : Int32 → wf_Mem → Prop} {Q : wf_Mem → Prop} {r : Rw} {t : Nat → Int32}
theorem lvl_bd (c : Int32) : lvl c = 0 ∨ lvl c = 1 ∨ lvl c = 2 ∨ lvl c = 3 ∨ lvl c = 4 ∨ lvl c = 5 := by
  unfold lvl
  repeat' split
  all_goals simp
theorem k_takesSign {x : Nat} (hx : wf_sh x = (2, 0)) (hx3 : 5 < x) {key : Int32} {st : List Int32} {o : List (Int32 × Int32)} {par nots b : Nat} {want c : Int32} (hM : MR x key st o par nots want mem) (hl : o.length + st.length < 96) (hp : par ≤ 8) (e2 : mem 3 2 = nI b) (hb : b < 96) (ec : mem 4 b = c) (hn : ntS (tlS (clS 1 st o).1) ≤ nots)
    (hc1 : c = 41 → 0 < par → ∀ m', Mp x mem m' → MR x key (edS (tlS (clS 1 st o).1) (clS 1 st o).2).1 (edS (tlS (clS 1 st o).1) (clS 1 st o).2).2 (par - 1) (nots - ntS (tlS (clS 1 st o).1)) 0 m' → P 1 m')
    (hc0 : c = 41 → par = 0 → P 0 mem) (h0 : ¬ c = 41 → lvl c = 0 → P 0 mem)
    (hs : ¬ c = 41 → ¬ lvl c = 0 → ¬ lvl c = 3 → ∀ m', Mp x mem m' → MR x key (c :: (clS (lvl c) st o).1) (clS (lvl c) st o).2 par nots 1 m' → P 1 m')
    (h3 : ¬ c = 41 → lvl c = 3 → ¬ is3 (clS 4 st o).1 → ∀ m', Mp x mem m' → MR x key (c :: (clS 4 st o).1) (clS 4 st o).2 par nots 1 m' → P 1 m')
    (h3f : ¬ c = 41 → lvl c = 3 → is3 (clS 4 st o).1 → ∀ m', Mp x mem m' → P 0 m') : Ci mX6_takesSign (d + 4) [.ref 3, .ref x] mem P := by
  refine E_X6_takesSign _ hx ?_
  rw [e2, nI_clamp (by omega), ec]
  refine ⟨vin hb, fun y ey => ?_⟩
  subst ey
  refine ⟨fun n41 => k_levelOf _ ⟨fun n0' => ⟨fun n3 => ?_, fun is => ?_⟩, fun z => h0 n41 z⟩, fun c41 => k_takesClose hx hx3 hM (by omega) hp hn (fun q m' p' M' => bl1 (hc1 c41 q m' p' M')) (fun q => bl0 (hc0 c41 q))⟩
  · refine b_X6_takesSign_44 _ _ hx _ _ _ (k_closesC hx hx3 _ hM (by omega) (fun m1 p1 M1 => ⟨fun _ => k_pushW hx3 _ M1 (by have := clS_len (lvl y) st o; omega) (fun m2 p2 M2 => hs n41 n0' n3 m2 (p1.tr p2) M2), fun q => absurd q n3⟩))
  · rw [is]
    refine b_X6_takesSign_44 _ _ hx _ _ _ (k_closesC hx hx3 _ hM (by omega) (fun m1 p1 M1 => ⟨fun q => absurd rfl q, fun _ => ?_⟩))
    have len := clS_len 4 st o
    have good : ¬ is3 (clS 4 st o).1 → Cv mX6_pushes (d + 3) [.ref 3, .int y] m1 (fun m1 => ∀ m2 : wf_Mem, m2 = wf_ms m1 3 8 1 → P 1 m2) := fun n =>
      k_pushW hx3 _ M1 (by omega) (fun m2 p2 M2 => h3 n41 is n m2 (p1.tr p2) M2)
    have bad : is3 (clS 4 st o).1 → P 0 m1 := fun n => h3f n41 is n m1 p1
    obtain ⟨s1, -, -, -, -⟩ := M1
    generalize (clS 4 st o).1 = S1 at s1 len good bad
    cases S1 with
    | nil =>
      rw [s1.1]
      exact ⟨fun _ => good (fun q => q), fun q => absurd (by decide) q⟩
    | cons a s =>
      have b1 : m1 3 5 = nI (s.length + 1) := s1.1
      have len' : (clS 4 st o).2.length + (s.length + 1) = o.length + st.length := len
      have ec2 : (nI (s.length + 1) ≤ 0) ↔ s.length + 1 ≤ 0 := nI_leI (b := 0) (by omega) (by decide)
      rw [b1, ec2, nI_pred, nI_clamp (by omega), s1.top]
      exact ⟨fun q => by omega, fun _ => ⟨vin (by omega), k_levelOf _ ⟨fun q => good q, fun q => bad q⟩⟩⟩
/-- digits, of the class -/
theorem kdig_loop {x : Nat} (hx : wf_sh x = (2, 0)) {b E : Nat} (hE : E ≤ 96) (e3 : mem 3 3 = nI E) (e4 : ∀ j, j < E → mem 4 j = t j) (h : Cv mX2_addNumber (d + 3) [.ref x, .int (nuA t b (E - b))] mem (fun m2 => Cv mX6_endsPiece (d + 3) [.ref 3, .ref x] m2 (fun m3 => P 1 m3))) : ∀ (f k : Nat), E - k ≤ f → b ≤ k → k ≤ E → Vw (Ni (d + 4) P) mX6_takesDigits 22 [(0, .ref 3), (1, .ref x), (2, .int (nuA t b (k - b))), (3, .int (nI k))] [] mem
  | f, k, hf, hb, hk => by
    have ec : (nI E ≤ nI k) ↔ E ≤ k := nI_leI (by omega) (by omega)
    refine b_X6_takesDigits_22 _ _ hx _ _ ?_
    rw [e3, ec, nI_clamp (by omega)]
    refine ⟨fun g => ?_, fun g => ⟨vin (by omega), fun z ez => ?_⟩⟩
    · have : k = E := by omega
      subst this; exact h
    · rw [e4 k (by omega)] at ez
      have e : z = nuA t b (k + 1 - b) := by
        rw [ez, show k + 1 - b = (k - b) + 1 by omega]
        show _ = 10 * nuA t b (k - b) + t (b + (k - b)) - 48
        rw [show b + (k - b) = k by omega]
      rw [e, show nI k + 1 = nI (k + 1) from nI_1 k]
      cases f with
      | zero => omega
      | succ f => exact kdig_loop hx hE e3 e4 h f (k + 1) (by omega) (by omega) (by omega)
theorem k_takesDigits {x : Nat} (hx : wf_sh x = (2, 0)) (hx3 : 5 < x) {key : Int32} {st : List Int32} {o : List (Int32 × Int32)} {par nots b E : Nat} {want : Int32} (hM : MR x key st o par nots want mem) (hl : o.length + st.length < 96) (hn : ntS st ≤ nots) (hbE : b ≤ E) (hE : E ≤ 96) (e2 : mem 3 2 = nI b) (e3 : mem 3 3 = nI E) (e4 : ∀ j, j < E → mem 4 j = t j) (h1 : E - b ≤ 4 → ∀ m', Mp x mem m' → MR x key (edS st (o ++ [(0, nuA t b (E - b))])).1 (edS st (o ++ [(0, nuA t b (E - b))])).2 par (nots - ntS st) 0 m' → P 1 m') (h0 : ¬ E - b ≤ 4 → P 0 mem) : Ci mX6_takesDigits (d + 4) [.ref 3, .ref x] mem P := by
  have es : nI E - nI b = nI (E - b) := pk_sub hbE
  have ec : (nI (E - b) ≤ 4) ↔ E - b ≤ 4 := nI_leI (b := 4) (by omega) (by decide)
  refine E_X6_takesDigits _ hx ?_
  rw [e2, e3, es, ec]
  refine ⟨fun g z ez => ?_, h0⟩
  rw [ez]
  have := kdig_loop (d := d) (P := P) (t := t) (mem := mem) hx (b := b) hE e3 e4 ?_ 96 b (by omega) (Nat.le_refl _) hbE
  · rw [Nat.sub_self] at this; exact this
  · obtain ⟨q1, q2, q3, q4, q5⟩ := hM
    refine k_addNumber hx q2 (by omega) _ (fun m1 l1 o1 => ?_)
    have b3 : m1 3 = mem 3 := l1 3 (by omega) (by omega)
    have b5 : m1 5 = mem 5 := l1 5 (by omega) (by omega)
    refine k_endsP hx hx3 (st := st) (par := par) (nots := nots) (want := want) ⟨q1.go (by rw [b3]) b5, o1, by rw [b3]; exact q3, by rw [b3]; exact q4, by rw [b3]; exact q5⟩ (by simp; omega) hn (fun m2 p2 M2 => h1 g m2 (Mp.tr ⟨fun a z1 z2 _ _ => l1 a z1 z2, fun j _ => by rw [b3]⟩ p2) M2)
end TXH
