/-! THE LEVELS of the reference against the machine -/
def nxt (k : Int32) (t : Nat → Int32) (n : Nat) (S : List Int32) (o : List (Int32 × Int32)) (B : Nat) : Prop := B < n → ¬ lvl (t B) < k → lvl (t B) = 3 ∧ is3 (clS 4 S o).1
def SpT (A : Nat) (t : Nat → Int32) (n : Nat) (key l k : Int32) (st : List Int32) (o : List (Int32 × Int32)) (deep turned B : Nat) (m : wf_Mem) (B' : Nat) (m' : wf_Mem) : Prop :=
  ∃ (T : Bool) (p : List Int32) (o' δ : List (Int32 × Int32)), Fx A m m' ∧ RSt A t n B' T deep turned (o ++ δ) m' ∧ run t n key st o deep turned true B = run t n key (p ++ st) o' deep turned false B' ∧ (∀ c, c ∈ p → ¬ lvl c < l) ∧ o' ++ sg p = o ++ δ ∧ okD key δ ∧ nxt k t n (p ++ st) o' B' ∧ (o ++ δ).length + st.length + 4 ≤ B' ∧ B' ≤ n ∧ B < B'
def SpPT (A : Nat) (t : Nat → Int32) (n : Nat) (key : Int32) (st : List Int32) (o : List (Int32 × Int32)) (deep turned B : Nat) (m : wf_Mem) (B' : Nat) (m' : wf_Mem) : Prop :=
  ∃ (T : Bool) (δ : List (Int32 × Int32)), Fx A m m' ∧ RSt A t n B' T deep turned (o ++ δ) m' ∧ run t n key st o deep turned true B = run t n key (edS st (o ++ δ)).1 (edS st (o ++ δ)).2 deep (turned - ntS st) false B' ∧ okD key δ ∧ (o ++ δ).length + st.length + 4 ≤ B' ∧ B' ≤ n ∧ B < B'
def SpF (A : Nat) (t : Nat → Int32) (n : Nat) (key : Int32) (st : List Int32) (o : List (Int32 × Int32)) (deep turned B : Nat) (m : wf_Mem) (B' : Nat) (m' : wf_Mem) : Prop :=
  Fx A m m' ∧ m' 120 17 = nI B' ∧ B' ≤ n ∧ run t n key st o deep turned true B = .inl B'
def PrRf (A : Nat) (t : Nat → Int32) (n : Nat) (st : List Int32) (o : List (Int32 × Int32)) (deep turned B : Nat) (m : wf_Mem) : Prop := RSt A t n B false deep turned o m ∧ deep ≤ 8 ∧ turned ≤ 8 ∧ o.length + st.length + 4 ≤ B ∧ B ≤ n
def rmD (deep turned : Nat) : Nat := 6 * (8 - deep) + (8 - turned) + 4
def SpM (A : Nat) (t : Nat → Int32) (n : Nat) (key : Int32) (M : wf_M) (l : Int32) (j B0 : Nat) : Prop := ∀ (D deep turned B : Nat) (st : List Int32) (o : List (Int32 × Int32)) (m : wf_Mem) (P : Int32 → wf_Mem → Prop), rmD deep turned + j ≤ D → B0 ≤ B → PrRf A t n st o deep turned B m → tpl l st → (∀ B' m', SpT A t n key l l st o deep turned B m B' m' → P 1 m') → (∀ B' m', SpF A t n key st o deep turned B m B' m' → P 0 m') → Ci M D [.ref 120, .int key] m P
def SpP (A : Nat) (t : Nat → Int32) (n : Nat) (key : Int32) (B0 : Nat) : Prop := ∀ (D deep turned B : Nat) (st : List Int32) (o : List (Int32 × Int32)) (m : wf_Mem) (P : Int32 → wf_Mem → Prop), rmD deep turned ≤ D → B0 ≤ B → PrRf A t n st o deep turned B m → (∀ B' m', SpPT A t n key st o deep turned B m B' m' → P 1 m') → (∀ B' m', SpF A t n key st o deep turned B m B' m' → P 0 m') → Ci mX9_part0 D [.ref 120, .int key] m P
theorem l41 {c : Int32} (h : ¬ lvl c = 0) : ¬ c = 41 := fun e => h (by rw [e]; decide)
section TXQ
variable {d : Nat} {m : wf_Mem} {P : Int32 → wf_Mem → Prop} {Q : wf_Mem → Prop} {t : Nat → Int32} {A n B B0 deep turned : Nat} {key l l' : Int32} {st : List Int32} {o : List (Int32 × Int32)}
theorem lv_run {p : List Int32} {o' L : List (Int32 × Int32)} {B' : Nat} (h0 : ¬ l = 0) (h3 : ¬ l = 3) (hB : B' < n) (hl : lvl (t B') = l) (hp : ∀ c, c ∈ p → ¬ lvl c < l) (ht : tpl l st) (eo : o' ++ sg p = L) : run t n key (p ++ st) o' deep turned false B' = run t n key (t B' :: st) L deep turned true (nxB t n B') := by
  have e : ¬ lvl (t B') = 0 := by rw [hl]; exact h0
  have ms := ms_sg (n := n) (key := key) (st := p ++ st) (o := o') (par := deep) (nots := turned) (l41 e) e (by rw [hl]; exact h3)
  rw [hl, cl_pend hp ht, eo] at ms
  exact run_some hB ms
/-- a side behind a sign joins what is there -/
theorem sp_join {T3 : Bool} {p3 : List Int32} {o3 δ δ3 : List (Int32 × Int32)} {c k : Int32} {B' B3 : Nat} {m' m2 m3 m4 : wf_Mem} (hc : ¬ lvl c = 0) (hcl : ¬ lvl c < l) (hll : ∀ c, ¬ lvl c < l' → ¬ lvl c < l)
    (fx : Fx A m m') (er : run t n key st o deep turned true B = run t n key (c :: st) (o ++ δ) deep turned true B') (hd : okD key δ) (f2 : Fx A m' m2) (fx3 : Fx A m2 m3) (er3 : run t n key (c :: st) (o ++ δ) deep turned true B' = run t n key (p3 ++ c :: st) o3 deep turned false B3) (hp3 : ∀ c, c ∈ p3 → ¬ lvl c < l') (eo3 : o3 ++ sg p3 = (o ++ δ) ++ δ3) (hd3 : okD key δ3) (hx3 : nxt k t n (p3 ++ c :: st) o3 B3) (hl3 : ((o ++ δ) ++ δ3).length + (c :: st).length + 4 ≤ B3) (hn3 : B3 ≤ n) (f4 : Fx A m3 m4) (S4 : RSt A t n B3 T3 deep turned (((o ++ δ) ++ δ3) ++ [(2, c)]) m4) (hB3 : B < B3) : SpT A t n key l k st o deep turned B m B3 m4 := by
  have ea : (p3 ++ [c]) ++ st = p3 ++ c :: st := by simp
  have eo : o ++ ((δ ++ δ3) ++ [(2, c)]) = ((o ++ δ) ++ δ3) ++ [(2, c)] := by simp
  refine ⟨T3, p3 ++ [c], o3, (δ ++ δ3) ++ [(2, c)], fx.tr (f2.tr (fx3.tr f4)), by rw [eo]; exact S4, ?_, fun q hq => ?_, ?_, okD_join hd hd3 hc, by rw [ea]; exact hx3, ?_, hn3, hB3⟩
  · rw [ea]; exact er.trans er3
  · rcases List.mem_append.mp hq with g | g
    · exact hll q (hp3 q g)
    · rw [List.mem_singleton.mp g]; exact hcl
  · rw [eo, sg_app, ← List.append_assoc, eo3]; rfl
  · rw [eo]
    have : (((o ++ δ) ++ δ3) ++ [(2, c)]).length = ((o ++ δ) ++ δ3).length + 1 := by rw [List.length_append]; rfl
    have h2 : (c :: st).length = st.length + 1 := rfl
    omega
theorem lv_loop (hn : n ≤ 96) (hA : A ≤ 2888) (hL : LL l l') (h0 : ¬ l = 0) (h3 : ¬ l = 3) {Min : wf_M} {j : Nat} {G : wf_Mem → Prop} (htp : tpl l st) (hdp : deep ≤ 8) (htu : turned ≤ 8)
    (hblk : ∀ (m' : wf_Mem) (B' : Nat) (T : Bool), Tok t n B' T m' → (¬ (B' < n ∧ lvl (t B') = l) → P 1 m') → (B' < n → lvl (t B') = l → m' 120 19 = 3 → Cv mX9_nextToken (d + 3) [.ref 120] m' (fun m2 => Ci Min (d + 3) [.ref 120, .int key] m2 (fun r m3 => (¬ r = 0 → Cv mX9_step (d + 3) [.ref 120, .int 2, .int (t B')] m3 (fun m4 => G m4)) ∧ (r = 0 → P 0 m3)))) → G m')
    (hin : SpM A t n key Min l' j B0) (hD : rmD deep turned + j ≤ d + 3) (hT : ∀ B' m', SpT A t n key l l st o deep turned B m B' m' → P 1 m') (hF : ∀ B' m', SpF A t n key st o deep turned B m B' m' → P 0 m') (hB0 : B0 ≤ B) : ∀ (f B' : Nat) (m' : wf_Mem), n - B' ≤ f → SpT A t n key l l' st o deep turned B m B' m' → G m'
  | f, B', m', hf, ⟨T, p, o', δ, fx, S, er, hp, eo, hd, hx, hl, hn', hB⟩ => by
    refine hblk m' B' T S.1 (fun c => hT B' m' ⟨T, p, o', δ, fx, S, er, hp, eo, hd, fun g1 g2 => ?_, hl, hn', hB⟩) (fun hBn hlv tk => ?_)
    · refine hx g1 (fun q => ?_)
      rcases (hL _).mp q with q | q
      · exact g2 q
      · exact c ⟨g1, q⟩
    · have nb := nxB_bd (t := t) hBn
      have e0 : ¬ lvl (t B') = 0 := by rw [hlv]; exact h0
      refine c_next (d := d + 1) hn hn' S (fun T' m2 f2 S2 hT' => ?_)
      rw [hT' tk] at S2
      have er2 := lv_run (key := key) (deep := deep) (turned := turned) h0 h3 hBn hlv hp htp eo
      refine hin (d + 3) deep turned (nxB t n B') (t B' :: st) (o ++ δ) m2 _ hD (by omega) ⟨S2, hdp, htu, by show (o ++ δ).length + (st.length + 1) + 4 ≤ _; omega, nb.2⟩ ⟨(hL _).mpr (Or.inr hlv), lv_33 e0⟩ (fun B3 m3 g3 => n1 ?_) (fun B3 m3 g3 => n0 ?_)
      · obtain ⟨T3, p3, o3, δ3, fx3, S3, er3, hp3, eo3, hd3, hx3, hl3, hn3, hB3⟩ := g3
        have hl3' : ((o ++ δ) ++ δ3).length + (st.length + 1) + 4 ≤ B3 := hl3
        refine c_stepS hA (by omega) S3 (t B') (fun m4 f4 S4 => ?_)
        cases f with
        | zero => omega
        | succ f =>
          exact lv_loop hn hA hL h0 h3 htp hdp htu hblk hin hD hT hF hB0 f B3 m4 (by omega) (sp_join (m' := m') (m2 := m2) (m3 := m3) e0 (by rw [hlv]; exact Int32.lt_irrefl) (fun c g q => g ((hL c).mpr (Or.inl q))) fx (er.trans er2) hd f2 fx3 er3 hp3 eo3 hd3 hx3 hl3 hn3 f4 S4 (by omega))
      · exact hF B3 m3 ⟨fx.tr (f2.tr g3.1), g3.2.1, g3.2.2.1, er.trans (er2.trans g3.2.2.2)⟩
theorem SpT.up (hL : LL l l') {k : Int32} {B' : Nat} {m' : wf_Mem} (h : SpT A t n key l' k st o deep turned B m B' m') : SpT A t n key l k st o deep turned B m B' m' := by
  obtain ⟨T, p, o', δ, fx, S, er, hp, r⟩ := h
  exact ⟨T, p, o', δ, fx, S, er, fun c hc q => hp c hc ((hL c).mpr (Or.inl q)), r⟩
theorem SpP.to (h : SpP A t n key B0) : SpM A t n key mX9_part0 6 0 B0 := by
  intro D deep turned B st o m P hD hB hp ht hT hF
  refine h D deep turned B st o m P hD hB hp (fun B' m' g => hT B' m' ?_) hF
  obtain ⟨T, δ, fx, S, er, hd, hl, hn, hBB⟩ := g
  rw [tpl_ed ht, tpl_nt ht] at er
  refine ⟨T, [], o ++ δ, δ, fx, S, er, fun c hc => absurd hc (by simp), by show (o ++ δ) ++ [] = _; rw [List.append_nil], hd, fun _ g => ?_, hl, hn, hBB⟩
  exfalso
  apply g
  rcases lvl_bd (t B') with q | q | q | q | q | q <;> rw [q] <;> decide
theorem sp_term (hn : n ≤ 96) (hA : A ≤ 2888) (hin : SpM A t n key mX9_part0 6 0 B0) : SpM A t n key mX9_term 5 1 B0 := by
  intro D deep turned B st o m P hD hB hp ht hT hF
  obtain ⟨d, rfl⟩ : ∃ d, D = d + 4 := ⟨D - 4, by unfold rmD at hD; omega⟩
  refine E_X9_term (d := d + 3) _ (hin (d + 3) deep turned B st o m _ (by omega) hB hp (ht.to LL56) (fun B' m' g => n1 ?_) (fun B' m' g => n0 (hF B' m' g)))
  refine lv_loop (d := d) (G := fun m' => Vw (Ni (d + 4) P) mX9_term 10 [(0, .ref 120), (1, .int key)] [] m') hn hA LL56 (by decide) (by decide) ht hp.2.1 hp.2.2.1 (fun m' B' T tok h1 h2 => ?_) hin (by omega) hT hF hB n B' m' (by omega) (g.up LL56)
  have go : ∀ c : Int32, c = 42 ∨ c = 47 → B' < n → t B' = c → m' 120 19 = 3 → m' 120 21 = c → Vw (Ni (d + 4) P) mX9_term 28 [(0, .ref 120), (1, .int key)] [] m' := fun c hc a b tk e => by
    refine b_X9_term_28 _ _ (fun x ex => ?_)
    rw [ex, e, ← b]
    exact h2 a (by rw [b]; rcases hc with rfl | rfl <;> decide) tk
  refine b_X9_term_10 _ _ (c_isSign tok 42 (by decide) (fun a b tk e => n1 (go 42 (Or.inl rfl) a b tk e)) (fun q1 => n0 (c_isSign tok 47 (by decide) (fun a b tk e => z1 (go 47 (Or.inr rfl) a b tk e)) (fun q2 => z0 (h1 (fun w => ?_))))))
  rcases lv_5 w.2 with q | q
  · exact q1 ⟨w.1, q⟩
  · exact q2 ⟨w.1, q⟩
theorem sp_sum (hn : n ≤ 96) (hA : A ≤ 2888) (hin : SpM A t n key mX9_term 5 1 B0) : SpM A t n key mX9_sum 4 2 B0 := by
  intro D deep turned B st o m P hD hB hp ht hT hF
  obtain ⟨d, rfl⟩ : ∃ d, D = d + 4 := ⟨D - 4, by unfold rmD at hD; omega⟩
  refine E_X9_sum (d := d + 3) _ (hin (d + 3) deep turned B st o m _ (by omega) hB hp (ht.to LL45) (fun B' m' g => n1 ?_) (fun B' m' g => n0 (hF B' m' g)))
  refine lv_loop (d := d) (G := fun m' => Vw (Ni (d + 4) P) mX9_sum 10 [(0, .ref 120), (1, .int key)] [] m') hn hA LL45 (by decide) (by decide) ht hp.2.1 hp.2.2.1 (fun m' B' T tok h1 h2 => ?_) hin (by omega) hT hF hB n B' m' (by omega) (g.up LL45)
  have go : ∀ c : Int32, c = 43 ∨ c = 45 → B' < n → t B' = c → m' 120 19 = 3 → m' 120 21 = c → Vw (Ni (d + 4) P) mX9_sum 28 [(0, .ref 120), (1, .int key)] [] m' := fun c hc a b tk e => by
    refine b_X9_sum_28 _ _ (fun x ex => ?_)
    rw [ex, e, ← b]
    exact h2 a (by rw [b]; rcases hc with rfl | rfl <;> decide) tk
  refine b_X9_sum_10 _ _ (c_isSign tok 43 (by decide) (fun a b tk e => n1 (go 43 (Or.inl rfl) a b tk e)) (fun q1 => n0 (c_isSign tok 45 (by decide) (fun a b tk e => z1 (go 45 (Or.inr rfl) a b tk e)) (fun q2 => z0 (h1 (fun w => ?_))))))
  rcases lv_4 w.2 with q | q
  · exact q1 ⟨w.1, q⟩
  · exact q2 ⟨w.1, q⟩
theorem sp_both (hn : n ≤ 96) (hA : A ≤ 2888) (hin : SpM A t n key mX9_test 3 3 B0) : SpM A t n key mX9_both 2 4 B0 := by
  intro D deep turned B st o m P hD hB hp ht hT hF
  obtain ⟨d, rfl⟩ : ∃ d, D = d + 4 := ⟨D - 4, by unfold rmD at hD; omega⟩
  refine E_X9_both (d := d + 3) _ (hin (d + 3) deep turned B st o m _ (by omega) hB hp (ht.to LL23) (fun B' m' g => n1 ?_) (fun B' m' g => n0 (hF B' m' g)))
  refine lv_loop (d := d) (G := fun m' => Vw (Ni (d + 4) P) mX9_both 10 [(0, .ref 120), (1, .int key)] [] m') hn hA LL23 (by decide) (by decide) ht hp.2.1 hp.2.2.1 (fun m' B' T tok h1 h2 => ?_) hin (by omega) hT hF hB n B' m' (by omega) (g.up LL23)
  refine b_X9_both_10 _ _ (c_isSign tok 38 (by decide) (fun a b tk e => z1 ?_) (fun q1 => z0 (h1 (fun w => q1 ⟨w.1, lv_2 w.2⟩))))
  have := h2 a (by rw [b]; decide) tk
  rw [b] at this
  exact this
theorem sp_either (hn : n ≤ 96) (hA : A ≤ 2888) (hin : SpM A t n key mX9_both 2 4 B0) : SpM A t n key mX9_either 1 5 B0 := by
  intro D deep turned B st o m P hD hB hp ht hT hF
  obtain ⟨d, rfl⟩ : ∃ d, D = d + 4 := ⟨D - 4, by unfold rmD at hD; omega⟩
  refine E_X9_either (d := d + 3) _ (hin (d + 3) deep turned B st o m _ (by omega) hB hp (ht.to LL12) (fun B' m' g => n1 ?_) (fun B' m' g => n0 (hF B' m' g)))
  refine lv_loop (d := d) (G := fun m' => Vw (Ni (d + 4) P) mX9_either 10 [(0, .ref 120), (1, .int key)] [] m') hn hA LL12 (by decide) (by decide) ht hp.2.1 hp.2.2.1 (fun m' B' T tok h1 h2 => ?_) hin (by omega) hT hF hB n B' m' (by omega) (g.up LL12)
  refine b_X9_either_10 _ _ (c_isSign tok 124 (by decide) (fun a b tk e => z1 ?_) (fun q1 => z0 (h1 (fun w => q1 ⟨w.1, lv_1 w.2⟩))))
  have := h2 a (by rw [b]; decide) tk
  rw [b] at this
  exact this
theorem sp_test (hn : n ≤ 96) (hA : A ≤ 2888) (hin : SpM A t n key mX9_sum 4 2 B0) : SpM A t n key mX9_test 3 3 B0 := by
  intro D deep turned B st o m P hD hB hp ht hT hF
  obtain ⟨d, rfl⟩ : ∃ d, D = d + 4 := ⟨D - 4, by unfold rmD at hD; omega⟩
  refine E_X9_test (d := d + 3) _ (hin (d + 3) deep turned B st o m _ (by omega) hB hp (ht.to LL34) (fun B' m' g => n1 ?_) (fun B' m' g => n0 (hF B' m' g)))
  obtain ⟨T, p, o', δ, fx, S, er, hpp, eo, hd, hx, hl, hn', hBB⟩ := g
  have t4 := ht.to LL34
  have go : ∀ c : Int32, c = 60 ∨ c = 61 ∨ c = 62 → B' < n → t B' = c → m' 120 19 = 3 → m' 120 21 = c → Vw (Ni (d + 4) P) mX9_test 37 [(0, .ref 120), (1, .int key)] [] m' := fun c hc a b tk e => by
    have hlv : lvl (t B') = 3 := by rw [b]; rcases hc with rfl | rfl | rfl <;> decide
    have e0 : ¬ lvl (t B') = 0 := by rw [hlv]; decide
    have nb := nxB_bd (t := t) a
    refine b_X9_test_37 _ _ (fun x ex => ?_)
    rw [ex, e, ← b]
    refine c_next (d := d + 1) hn hn' S (fun T' m2 f2 S2 hT' => ?_)
    rw [hT' tk] at S2
    have er2 : run t n key (p ++ st) o' deep turned false B' = run t n key (t B' :: st) (o ++ δ) deep turned true (nxB t n B') := by
      have i3 : ¬ is3 (clS 4 (p ++ st) o').1 := by
        rw [cl_pend hpp t4]
        intro q
        cases st with
        | nil => exact q
        | cons c s =>
          have h1 : lvl c < 3 := ht.1
          have h2 : lvl c = 3 := q
          rw [h2] at h1; exact absurd h1 (by decide)
      have ms := ms_s3 (n := n) (key := key) (par := deep) (nots := turned) (l41 e0) hlv i3
      rw [cl_pend hpp t4, eo] at ms
      exact run_some a ms
    have tc : tpl 4 (t B' :: st) := ⟨by rw [hlv]; decide, lv_33 e0⟩
    refine hin (d + 3) deep turned (nxB t n B') (t B' :: st) (o ++ δ) m2 _ (by omega) (by omega) ⟨S2, hp.2.1, hp.2.2.1, by show (o ++ δ).length + (st.length + 1) + 4 ≤ _; omega, nb.2⟩ tc (fun B3 m3 g3 => n1 ?_) (fun B3 m3 g3 => n0 ?_)
    · obtain ⟨T3, p3, o3, δ3, fx3, S3, er3, hp3, eo3, hd3, hx3, hl3, hn3, hB3⟩ := g3
      have hl3' : ((o ++ δ) ++ δ3).length + (st.length + 1) + 4 ≤ B3 := hl3
      refine c_stepS hA (by omega) S3 (t B') (fun m4 f4 S4 => hT B3 m4 ?_)
      refine sp_join (m' := m') (m2 := m2) (m3 := m3) (l' := 4) e0 (by rw [hlv]; decide) (fun c g q => g ((LL34 c).mpr (Or.inl q))) fx (er.trans er2) hd f2 fx3 er3 hp3 eo3 hd3 (fun g1 g2 => ?_) hl3 hn3 f4 S4 (by omega)
      by_cases z : lvl (t B3) = 3
      · refine ⟨z, ?_⟩
        rw [cl_pend hp3 tc]
        exact hlv
      · refine hx3 g1 (fun q => ?_)
        rcases (LL34 _).mp q with q | q
        · exact g2 q
        · exact z q
    · exact hF B3 m3 ⟨fx.tr (f2.tr g3.1), g3.2.1, g3.2.2.1, er.trans (er2.trans g3.2.2.2)⟩
  refine c_isSign S.1 60 (by decide) (fun a b tk e => n1 (go 60 (Or.inl rfl) a b tk e)) (fun q1 => n0 (c_isSign S.1 61 (by decide) (fun a b tk e => n1 (go 61 (Or.inr (Or.inl rfl)) a b tk e)) (fun q2 => n0 (c_isSign S.1 62 (by decide) (fun a b tk e => z1 (go 62 (Or.inr (Or.inr rfl)) a b tk e)) (fun q3 => z0 (hT B' m' ⟨T, p, o', δ, fx, S, er, fun c hc q => hpp c hc ((LL34 c).mpr (Or.inl q)), eo, hd, fun g1 g2 => ?_, hl, hn', hBB⟩))))))
  refine hx g1 (fun q => ?_)
  rcases (LL34 _).mp q with q | q
  · exact g2 q
  · rcases lv_3 q with w | w | w
    · exact q1 ⟨g1, w⟩
    · exact q2 ⟨g1, w⟩
    · exact q3 ⟨g1, w⟩
theorem sp_all (hn : n ≤ 96) (hA : A ≤ 2888) (h : SpP A t n key B0) : SpM A t n key mX9_either 1 5 B0 :=
  sp_either hn hA (sp_both hn hA (sp_test hn hA (sp_sum hn hA (sp_term hn hA h.to))))
end TXQ
