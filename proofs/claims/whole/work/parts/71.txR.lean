/-! part0, and with it all levels -/
section TXR
variable {d : Nat} {m : wf_Mem} {P : Int32 → wf_Mem → Prop} {Q : wf_Mem → Prop} {t : Nat → Int32} {A n B B0 deep turned : Nat} {key l l' : Int32} {st : List Int32} {o : List (Int32 × Int32)} {T : Bool} {L : List (Int32 × Int32)}
theorem RSt.dp (h : RSt A t n B T deep turned L m) (k : Nat) : RSt A t n B T k turned L (wf_ms m 120 22 (nI k)) := by
  obtain ⟨h1, h2, h3, h4, h5, h6⟩ := h
  refine ⟨h1.go (fun j g1 g2 => msK _ _ _ _ (by omega)), ?_, fun j hj => ?_, msS _ _ _ _, ?_, h6.go (fun j g1 g2 => msK _ _ _ _ (by omega)) (wf_ms_other _ _ _ _ (by decide))⟩
  · rw [msK _ _ _ _ (by decide)]; exact h2
  · rw [msA _ _ _ _ (by decide)]; exact h3 j hj
  · rw [msK _ _ _ _ (by decide)]; exact h5
theorem RSt.tu (h : RSt A t n B T deep turned L m) (k : Nat) : RSt A t n B T deep k L (wf_ms m 120 23 (nI k)) := by
  obtain ⟨h1, h2, h3, h4, h5, h6⟩ := h
  refine ⟨h1.go (fun j g1 g2 => msK _ _ _ _ (by omega)), ?_, fun j hj => ?_, ?_, msS _ _ _ _, h6.go (fun j g1 g2 => msK _ _ _ _ (by omega)) (wf_ms_other _ _ _ _ (by decide))⟩
  · rw [msK _ _ _ _ (by decide)]; exact h2
  · rw [msA _ _ _ _ (by decide)]; exact h3 j hj
  · rw [msK _ _ _ _ (by decide)]; exact h4
/-- behind all levels: a piece that goes on with nothing is a fault -/
theorem run_flt {S : List Int32} {o' : List (Int32 × Int32)} {par nots B' : Nat} (h41 : B' < n → t B' = 41 → par = 0) (hpar : ¬ B' < n → 0 < par) (hx : nxt 1 t n S o' B') : run t n key S o' par nots false B' = .inl B' := by
  by_cases c : B' < n
  · by_cases e : t B' = 41
    · exact run_none c (ms_clsF e (h41 c e))
    · by_cases e0 : lvl (t B') = 0
      · exact run_none c (ms_sgF e e0)
      · have hl1 : ¬ lvl (t B') < 1 := fun q => by
          rcases lvl_bd (t B') with w | w | w | w | w | w
          · exact e0 w
          all_goals (rw [w] at q; exact absurd q (by decide))
        obtain ⟨g1, g2⟩ := hx c hl1
        exact run_none c (ms_s3F e g1 g2)
  · exact run_endF c (Or.inr (hpar c))
theorem sp_part0 (hn : n ≤ 96) (hA : A ≤ 2888) (hkey : key = 0 ∨ key = 1 ∨ key = 2) (hP : SpP A t n key (B + 1)) (hE : SpM A t n key mX9_either 1 5 (B + 1)) {D : Nat} (hD : rmD deep turned ≤ D) (hp : PrRf A t n st o deep turned B m) (hT : ∀ B' m', SpPT A t n key st o deep turned B m B' m' → P 1 m') (hF : ∀ B' m', SpF A t n key st o deep turned B m B' m' → P 0 m') : Ci mX9_part0 D [.ref 120, .int key] m P := by
  obtain ⟨d, rfl⟩ : ∃ d, D = d + 4 := ⟨D - 4, by unfold rmD at hD; omega⟩
  obtain ⟨S, hdp, htu, hl, hBn⟩ := hp
  have tok := S.1
  have ed8 : (nI deep = 8) ↔ deep = 8 := nI_eq (b := 8) (by omega) (by decide)
  have et8 : (8 ≤ nI turned) ↔ 8 ≤ turned := nI_leI (a := 8) (by decide) (by omega)
  have flt : (B < n → ¬ srt1 (t B) = 0 → mstep t n key st o deep turned true B = none) → ¬ (B < n ∧ t B = 33 ∧ turned < 8) → ¬ (B < n ∧ t B = 40 ∧ deep < 8) → P 0 m := fun hw h33 h40 => by
    refine hF B m ⟨Fx.rf, tok.1, hBn, ?_⟩
    by_cases c : B < n
    · by_cases s : srt1 (t B) = 0
      · exact run_none c (ms_opF s (fun q => h40 ⟨c, q⟩) (fun q => h33 ⟨c, q⟩))
      · exact run_none c (hw c s)
    · exact run_endF c (Or.inl rfl)
  have p145 : (B < n → ¬ srt1 (t B) = 0 → mstep t n key st o deep turned true B = none) → ¬ (B < n ∧ t B = 33 ∧ turned < 8) → Vw (Ni (d + 4) P) mX9_part0 145 [(0, .ref 120), (1, .int key)] [] m := fun hw h33 => by
    refine b_X9_part0_145 _ _ (c_isSign tok 40 (by decide) (fun a b tk e => z1 ?_) (fun q => z0 (flt hw h33 (fun w => q ⟨w.1, w.2.1⟩))))
    rw [S.2.2.2.1, ed8]
    refine ⟨fun q8 m5 f5 => ?_, fun q8 => flt hw h33 (fun w => by omega)⟩
    have nb := nxB_bd (t := t) a
    rw [nI_1] at f5
    have S5 : RSt A t n B false (deep + 1) turned o m5 := by rw [f5]; exact S.dp (deep + 1)
    have x5 : Fx A m m5 := by rw [f5]; exact Fx.ms (by decide)
    have tk5 : m5 120 19 = 3 := by rw [f5, msK _ _ _ _ (by decide)]; exact tk
    refine c_next (d := d + 1) hn hBn S5 (fun T' m6 x6 S6 hT' => ?_)
    rw [hT' tk5] at S6
    have er0 : run t n key st o deep turned true B = run t n key (40 :: st) o (deep + 1) turned true (nxB t n B) := run_some a (ms_par b (by omega))
    refine hE (d + 3) (deep + 1) turned (nxB t n B) (40 :: st) o m6 _ (by unfold rmD at hD ⊢; omega) (by omega) ⟨S6, by omega, htu, by show o.length + (st.length + 1) + 4 ≤ _; omega, nb.2⟩ (tpl_40 (by decide) st) (fun B7 m7 g => z1 ?_) (fun B7 m7 g => z0 (hF B7 m7 ⟨x5.tr (x6.tr g.1), g.2.1, g.2.2.1, er0.trans g.2.2.2⟩))
    obtain ⟨T7, p, o', δ, x7, S7, er, hp7, eo, hd, hx, hl7, hn7, hB7⟩ := g
    have hl7' : (o ++ δ).length + (st.length + 1) + 4 ≤ B7 := hl7
    refine c_isSign S7.1 41 (by decide) (fun a7 b7 tk7 e7 => n1 (fun m13 f13 => ?_)) (fun q => n0 (hF B7 m7 ⟨x5.tr (x6.tr x7), S7.1.1, hn7, er0.trans (er.trans (run_flt (fun c1 c2 => absurd ⟨c1, c2⟩ q) (fun _ => by omega) hx))⟩))
    have nb7 := nxB_bd (t := t) a7
    have edp : nI (deep + 1) - 1 = nI deep := nI_pred deep
    rw [S7.2.2.2.1, edp] at f13
    have S13 : RSt A t n B7 T7 deep turned (o ++ δ) m13 := by rw [f13]; exact S7.dp deep
    have x13 : Fx A m7 m13 := by rw [f13]; exact Fx.ms (by decide)
    refine c_next (d := d + 1) hn hn7 S13 (fun T14 m14 x14 S14 _ => hT _ m14 ⟨T14, δ, x5.tr (x6.tr (x7.tr (x13.tr x14))), S14, ?_, hd, by omega, nb7.2, by omega⟩)
    rw [er0, er]
    have ms := ms_cls (n := n) (key := key) (st := p ++ 40 :: st) (o := o') (par := deep + 1) (nots := turned) b7 (by omega)
    rw [cl_pend hp7 (tpl_40 (by decide) st), eo] at ms
    exact run_some a7 ms
  have p84 : (B < n → ¬ srt1 (t B) = 0 → mstep t n key st o deep turned true B = none) → Vw (Ni (d + 4) P) mX9_part0 84 [(0, .ref 120), (1, .int key)] [] m := fun hw => by
    refine b_X9_part0_84 _ _ (c_isSign tok 33 (by decide) (fun a b tk e => z1 ?_) (fun q => z0 (p145 hw (fun w => q ⟨w.1, w.2.1⟩))))
    rw [S.2.2.2.2.1, et8]
    refine ⟨fun q8 => p145 hw (fun w => by omega), fun q8 m5 f5 => ?_⟩
    have nb := nxB_bd (t := t) a
    rw [nI_1] at f5
    have S5 : RSt A t n B false deep (turned + 1) o m5 := by rw [f5]; exact S.tu (turned + 1)
    have x5 : Fx A m m5 := by rw [f5]; exact Fx.ms (by decide)
    have tk5 : m5 120 19 = 3 := by rw [f5, msK _ _ _ _ (by decide)]; exact tk
    refine c_next (d := d + 1) hn hBn S5 (fun T' m6 x6 S6 hT' => ?_)
    rw [hT' tk5] at S6
    have er0 : run t n key st o deep turned true B = run t n key (33 :: st) o deep (turned + 1) true (nxB t n B) := run_some a (ms_not b (by omega))
    refine hP (d + 3) deep (turned + 1) (nxB t n B) (33 :: st) o m6 _ (by unfold rmD at hD ⊢; omega) (by omega) ⟨S6, hdp, by omega, by show o.length + (st.length + 1) + 4 ≤ _; omega, nb.2⟩ (fun B7 m7 g => n1 (fun m10 f10 => ?_)) (fun B7 m7 g => n0 (hF B7 m7 ⟨x5.tr (x6.tr g.1), g.2.1, g.2.2.1, er0.trans g.2.2.2⟩))
    obtain ⟨T7, δ, x7, S7, er, hd, hl7, hn7, hB7⟩ := g
    have hl7' : (o ++ δ).length + (st.length + 1) + 4 ≤ B7 := hl7
    have edp : nI (turned + 1) - 1 = nI turned := nI_pred turned
    rw [S7.2.2.2.2.1, edp] at f10
    have S10 : RSt A t n B7 T7 deep turned (o ++ δ) m10 := by rw [f10]; exact S7.tu turned
    have x10 : Fx A m7 m10 := by rw [f10]; exact Fx.ms (by decide)
    refine c_stepS hA (by omega) S10 33 (fun m11 x11 S11 => hT B7 m11 ⟨T7, δ ++ [(2, 33)], x5.tr (x6.tr (x7.tr (x10.tr x11))), by rw [← List.append_assoc]; exact S11, ?_, okD_not hd, ?_, hn7, by omega⟩)
    · rw [er0, er, ed_33, nt_33, Nat.add_sub_add_right, List.append_assoc]
    · rw [← List.append_assoc, List.length_append]
      show (o ++ δ).length + 1 + st.length + 4 ≤ B7
      omega
  refine E_X9_part0 (d := d + 3) _ ?_
  have et := tok.2.2.1
  unfold tkV at et
  have leaf : ∀ (q : Int32 × Int32), B < n → ¬ q.1 = 2 → okS key q → mstep t n key st o deep turned true B = some (enM st (o ++ [q]) deep turned) → Cv mX9_step (d + 3) [.ref 120, .int q.1, .int q.2] m (fun m1 => ∀ m2 : wf_Mem, m2 = wf_ms m1 120 26 (m1 120 26 + 1) → Cv mX9_nextToken (d + 3) [.ref 120] m2 (fun m3 => P 1 m3)) := fun q c hq hk ms => by
    have nb := nxB_bd (t := t) c
    refine c_stepL (d := d + 1) hn hBn hA (by omega) S q hq (fun T' m' x' S' => hT _ m' ⟨T', [q], x', S', run_some c ms, okD_leaf hk hq, ?_, nb.2, nb.1⟩)
    rw [List.length_append]
    show o.length + 1 + st.length + 4 ≤ _
    omega
  by_cases c : B < n
  · rw [if_pos c] at et
    by_cases s1 : srt1 (t B) = 1
    · rw [if_pos s1, if_neg (by decide)] at et
      have l1 := tok.2.2.2.1 c s1
      rw [et]
      refine ⟨fun _ => ⟨fun q => absurd rfl q, fun _ => ?_⟩, fun q => absurd q (by decide)⟩
      by_cases e1 : teB t n B - B = 1
      · rw [if_pos e1] at l1
        rw [l1]
        refine ⟨fun q => absurd s1 (by rw [q]; decide), fun _ => c_isName key (t B) hkey (fun q => z1 ?_) (fun q => z0 (p84 (fun _ _ => ms_nameF s1 (fun w => q w.2))))⟩
        rw [l1]
        exact leaf (1, t B) c (by show ¬ (1 : Int32) = 2; decide) (Or.inr (Or.inl ⟨rfl, q⟩)) (ms_name s1 ⟨e1, q⟩)
      · rw [if_neg e1] at l1
        rw [l1]
        exact ⟨fun _ => p84 (fun _ _ => ms_nameF s1 (fun w => e1 w.1)), fun q => absurd rfl q⟩
    · rw [if_neg s1] at et
      by_cases s2 : srt1 (t B) = 2
      · rw [if_pos s2] at et
        by_cases e4 : teB t n B - B ≤ 4
        · rw [if_pos ⟨rfl, e4⟩] at et
          have l1 := tok.2.2.2.2.2 c s2
          rw [Nat.min_eq_left e4] at l1
          rw [et, l1]
          exact ⟨fun q => absurd rfl q, fun _ => leaf (0, nuA t B (teB t n B - B)) c (by show ¬ (0 : Int32) = 2; decide) (okS_num key c s2 e4) (ms_num s2 e4)⟩
        · rw [if_neg (fun w => e4 w.2)] at et
          rw [et]
          exact ⟨fun _ => ⟨fun _ => p84 (fun _ _ => ms_numF s2 e4), fun q => absurd q (by decide)⟩, fun q => absurd q (by decide)⟩
      · rw [if_neg s2] at et
        have s0 : srt1 (t B) = 0 := by
          rcases srt_3 (t B) with q | q | q
          · exact q
          · exact absurd q s1
          · exact absurd q s2
        rw [et]
        exact ⟨fun _ => ⟨fun _ => p84 (fun _ q => absurd s0 q), fun q => absurd q (by decide)⟩, fun q => absurd q (by decide)⟩
  · rw [if_neg c] at et
    rw [et]
    exact ⟨fun _ => ⟨fun _ => p84 (fun q _ => absurd q c), fun q => absurd q (by decide)⟩, fun q => absurd q (by decide)⟩
theorem sp_fix (hn : n ≤ 96) (hA : A ≤ 2888) (hkey : key = 0 ∨ key = 1 ∨ key = 2) : ∀ N B0, n + 1 - B0 ≤ N → SpP A t n key B0
  | 0, B0, h => fun D deep turned B st o m P hD hB hp hT hF => by have := hp.2.2.2.2; omega
  | N + 1, B0, h => fun D deep turned B st o m P hD hB hp hT hF => by
    have ih := sp_fix hn hA hkey N (B0 + 1) (by omega)
    by_cases c : B = B0
    · subst c
      exact sp_part0 hn hA hkey ih (sp_all hn hA ih) hD hp hT hF
    · exact ih D deep turned B st o m P hD (by omega) hp hT hF
theorem sp_top (hn : n ≤ 96) (hA : A ≤ 2888) (hkey : key = 0 ∨ key = 1 ∨ key = 2) : SpM A t n key mX9_either 1 5 0 := sp_all hn hA (sp_fix hn hA hkey (n + 1) 0 (by omega))
end TXR
