/-! the class reads: a piece, a sign, the loop -/
def Mr (x : Nat) (m m' : wf_Mem) : Prop := (∀ a, a ≠ x → a ≠ x + 1 → a ≠ 3 → a ≠ 5 → m' a = m a) ∧ m' 3 1 = m 3 1
theorem Mr.rf {x : Nat} {m : wf_Mem} : Mr x m m := ⟨fun _ _ _ _ _ => rfl, rfl⟩
theorem Mr.tr {x : Nat} {a b c : wf_Mem} (h1 : Mr x a b) (h2 : Mr x b c) : Mr x a c := ⟨fun q g1 g2 g3 g4 => (h2.1 q g1 g2 g3 g4).trans (h1.1 q g1 g2 g3 g4), h2.2.trans h1.2⟩
theorem Mr.mp {x : Nat} {m m' : wf_Mem} (h : Mp x m m') : Mr x m m' := ⟨h.1, h.2 1 (by decide)⟩
theorem Mr.st {x : Nat} {m m' : wf_Mem} (h : St3 m m') : Mr x m m' := ⟨fun a _ _ g _ => h.1 a g, h.2 1 (by decide) (by decide)⟩
theorem MR.st {x : Nat} {key : Int32} {st : List Int32} {o : List (Int32 × Int32)} {par nots : Nat} {want : Int32} {m m' : wf_Mem} (hx3 : 5 < x) (h : MR x key st o par nots want m) (hs : St3 m m') : MR x key st o par nots want m' := by
  obtain ⟨a, b, c, e, f⟩ := h
  exact ⟨a.go (hs.2 5 (by decide) (by decide)) (hs.1 5 (by decide)), b.go (hs.1 x (by omega)) (hs.1 (x + 1) (by omega)), by rw [hs.2 6 (by decide) (by decide)]; exact c, by rw [hs.2 7 (by decide) (by decide)]; exact e, by rw [hs.2 8 (by decide) (by decide)]; exact f⟩
section TXM
variable {d : Nat} {mem : wf_Mem} {P : Int32 → wf_Mem → Prop} {Q : wf_Mem → Prop} {r : Rw} {t : Nat → Int32}
theorem k_piece {x : Nat} (hx : wf_sh x = (2, 0)) (hx3 : 5 < x) {key : Int32} {st : List Int32} {o : List (Int32 × Int32)} {par nots B n : Nat} (hM : MR x key st o par nots 1 mem) (hkey : key = 0 ∨ key = 1 ∨ key = 2) (hI : MI st o par nots 95) (hn : n ≤ 96) (hB : B < n) (e1 : mem 3 1 = nI n) (e2 : mem 3 2 = nI B) (e3 : mem 3 3 = nI (teB t n B)) (e4 : ∀ j, j < n → mem 4 j = t j)
    (h1 : ∀ (q : MSt) (m' : wf_Mem), mstep t n key st o par nots true B = some q → Mp x mem m' → MR x key q.1 q.2.1 q.2.2.1 q.2.2.2.1 (if q.2.2.2.2 = true then 1 else 0) m' → P 1 m') (h0 : mstep t n key st o par nots true B = none → P 0 mem) : Ci mX6_takesPiece (d + 5) [.ref 3, .ref x] mem P := by
  obtain ⟨i1, i2, i3, i4⟩ := hI
  have bd := te_bd (t := t) (n := n) (b := B) (by omega)
  have hnt : ntS st ≤ nots := Nat.le_trans (nt_cn st) i3
  refine E_X6_takesPiece _ hx (k_sortHere (t := t) (n := n) (b := B) hn e1 e2 (by omega) e4 ?_)
  unfold tso
  rw [if_pos hB]
  refine ⟨fun s1 => k_takesName hx hx3 (b := B) (E := teB t n B) (c := t B) hM hkey (by omega) hnt bd.1 (by omega) (by omega) e2 e3 (e4 B hB) s1 (fun z m' p M => bl1 (h1 _ m' (ms_name s1 z) p M)) (fun z => bl0 (h0 (ms_nameF s1 z))), fun s1 => ⟨fun s2 => k_takesDigits (t := t) hx hx3 (b := B) (E := teB t n B) hM (by omega) hnt bd.1 (by omega) e2 e3 (fun j hj => e4 j (by omega)) (fun z m' p M => bl1 (h1 _ m' (ms_num s2 z) p M)) (fun z => bl0 (h0 (ms_numF s2 z))), fun s2 => ⟨by rw [e2]; exact vin (by omega), ?_⟩⟩⟩
  have s0 : srt1 (t B) = 0 := by
    rcases srt_3 (t B) with q | q | q
    · exact q
    · exact absurd q s1
    · exact absurd q s2
  rw [e2, nI_clamp (by omega), e4 B hB]
  exact k_opens hx3 hM (by omega) i1 i2 _ (fun z z2 m' p M => bl1 (h1 _ m' (ms_par z z2) p M)) (fun z z2 m' p M => bl1 (h1 _ m' (ms_not z z2) p M)) (fun z z2 => bl0 (h0 (ms_opF s0 z z2)))
theorem k_sign {x : Nat} (hx : wf_sh x = (2, 0)) (hx3 : 5 < x) {key : Int32} {st : List Int32} {o : List (Int32 × Int32)} {par nots B n : Nat} (hM : MR x key st o par nots 0 mem) (hI : MI st o par nots 95) (hn : n ≤ 96) (hB : B < n) (e2 : mem 3 2 = nI B) (e4 : ∀ j, j < n → mem 4 j = t j)
    (h1 : ∀ (q : MSt) (m' : wf_Mem), mstep t n key st o par nots false B = some q → Mp x mem m' → MR x key q.1 q.2.1 q.2.2.1 q.2.2.2.1 (if q.2.2.2.2 = true then 1 else 0) m' → P 1 m') (h0 : ∀ m', mstep t n key st o par nots false B = none → Mp x mem m' → P 0 m') : Ci mX6_takesSign (d + 5) [.ref 3, .ref x] mem P := by
  obtain ⟨i1, i2, i3, i4⟩ := hI
  have c1 := cl_cn 1 st o
  have c2 := tl_cn (clS 1 st o).1
  have c3 := nt_cn (tlS (clS 1 st o).1)
  exact k_takesSign (d := d + 1) hx hx3 (b := B) (c := t B) hM (by omega) i1 e2 (by omega) (e4 B hB) (by omega)
    (fun z z2 m' p M => h1 _ m' (ms_cls z z2) p M) (fun z z2 => h0 _ (ms_clsF z z2) Mp.rf) (fun z z2 => h0 _ (ms_sgF z z2) Mp.rf)
    (fun z z2 z3 m' p M => h1 _ m' (ms_sg z z2 z3) p M) (fun z z3 z4 m' p M => h1 _ m' (ms_s3 z z3 z4) p M) (fun z z3 z4 m' p => h0 _ (ms_s3F z z3 z4) p)
theorem k_read80 {x : Nat} (hx : wf_sh x = (2, 0)) (hx3 : 5 < x) {key : Int32} (hkey : key = 0 ∨ key = 1 ∨ key = 2) {n : Nat} (hn : n ≤ 96) {R : Nat ⊕ List (Int32 × Int32)} (hF : ∀ b m', R = .inl b → Mr x mem m' → P (nI b) m') (hS : ∀ o m', R = .inr o → Mr x mem m' → OU x key o m' → P (-1) m') :
    ∀ (f k B : Nat) (st : List Int32) (o : List (Int32 × Int32)) (par nots : Nat) (want : Bool) (m : wf_Mem), n - B ≤ f → B ≤ n → k ≤ B → Mr x mem m → MR x key st o par nots (if want = true then 1 else 0) m → m 3 1 = nI n → m 3 2 = nI B → m 3 3 = nI (teB t n B) → (∀ j, j < n → m 4 j = t j) → MI st o par nots B → run t n key st o par nots want B = R → Vw (Ni (d + 6) P) mX6_readInto 80 [(0, .ref 3), (1, .ref x), (4, .int (nI k))] [] m
  | f, k, B, st, o, par, nots, want, m, hf, hB, hk, ho, hM, e1, e2, e3, e4, hI, hR => by
    have ec : (96 ≤ nI k) ↔ 96 ≤ k := nI_leI (a := 96) (by decide) (by omega)
    have eb : (nI n ≤ nI B) ↔ n ≤ B := nI_leI (by omega) (by omega)
    have fin : n ≤ B → Vw (Ni (d + 6) P) mX6_readInto 140 [(0, .ref 3), (1, .ref x)] [] m := fun g => by
      have hBn : B = n := by omega
      refine b_X6_readInto_140 _ _ hx ?_
      have m8 := hM.2.2.2.2
      have m6 := hM.2.2.1
      have e6 : (nI par ≤ 0) ↔ par ≤ 0 := nI_leI (b := 0) (by have := hI.1; omega) (by decide)
      rw [m8, m6, e6, e1]
      have fl : want = true ∨ 0 < par → P (nI n) m := fun c => hF n m (by rw [← hR, run_endF (by omega) c, hBn]) ho
      cases want with
      | true => exact ⟨fun _ => fl (Or.inl rfl), fun c => absurd c (by decide)⟩
      | false =>
        refine ⟨fun c => absurd rfl c, fun _ => ⟨fun c => ?_, fun c => fl (Or.inr (by omega))⟩⟩
        have p0 : par = 0 := by omega
        subst p0
        refine k_closesC hx hx3 1 hM (by have := hI.2.2.2; omega) (fun m' p M => hS _ m' (by rw [← hR, run_endS hBn]) (ho.tr (Mr.mp p)) M.2.1)
    have nxt : ∀ (q : MSt) (m' : wf_Mem), B < n → mstep t n key st o par nots want B = some q → Mp x m m' → MR x key q.1 q.2.1 q.2.2.1 q.2.2.2.1 (if q.2.2.2.2 = true then 1 else 0) m' → Cv mX6_steps (d + 5) [.ref 3] m' (fun mem7 => Vw (Ni (d + 6) P) mX6_readInto 80 [(0, .ref 3), (1, .ref x), (4, .int (nI k + 1))] [] mem7) := fun q m' hBn hq p M => by
      have bd := te_bd (t := t) (n := n) (b := B) hB
      have nb := nxB_bd (t := t) hBn
      refine k_steps (d := d + 3) (t := t) (n := n) (p := teB t n B) hn bd.2.1 (by rw [p.2 1 (by decide)]; exact e1) (by rw [p.2 3 (by decide)]; exact e3) (fun j hj => by rw [p.1 4 (by omega) (by omega) (by decide) (by decide)]; exact e4 j hj) (fun m2 s2 b2 b3 => ?_)
      rw [show nI k + 1 = nI (k + 1) from nI_1 k]
      cases f with
      | zero => omega
      | succ f =>
        refine k_read80 hx hx3 hkey hn hF hS f (k + 1) (nxB t n B) q.1 q.2.1 q.2.2.1 q.2.2.2.1 q.2.2.2.2 m2 (by omega) nb.2 (by omega) ((ho.tr (Mr.mp p)).tr (Mr.st s2)) (M.st hx3 s2) ?_ b2 b3 (fun j hj => ?_) ?_ ?_
        · rw [s2.2 1 (by decide) (by decide), p.2 1 (by decide)]; exact e1
        · rw [s2.1 4 (by decide), p.1 4 (by omega) (by omega) (by decide) (by decide)]; exact e4 j hj
        · obtain ⟨w1, w2, w3, w4⟩ := ms_inv hq hI
          exact ⟨w1, w2, w3, by omega⟩
        · rw [← hR]; exact (run_some hBn hq).symm
    have flt : ∀ m', B < n → mstep t n key st o par nots want B = none → Mp x m m' → P (m' 3 2) m' := fun m' hBn hq p => by
      rw [p.2 2 (by decide), e2]
      exact hF B m' (by rw [← hR, run_none hBn hq]) (ho.tr (Mr.mp p))
    refine b_X6_readInto_80 _ _ hx _ ?_
    rw [e1, e2, ec, eb]
    refine ⟨fun g => fin (by omega), fun g => ⟨fin, fun g2 => ?_⟩⟩
    have hBn : B < n := by omega
    obtain ⟨i1, i2, i3, i4⟩ := hI
    rw [hM.2.2.2.2]
    cases want with
    | true =>
      refine ⟨fun c => absurd c (by decide), fun _ => k_piece hx hx3 hM hkey ⟨i1, i2, i3, by omega⟩ hn hBn e1 e2 e3 e4 (fun q m' hq p M => n1 (nxt q m' hBn hq p M)) (fun hq => n0 (flt _ hBn hq Mp.rf))⟩
    | false =>
      refine ⟨fun _ => k_sign hx hx3 hM ⟨i1, i2, i3, by omega⟩ hn hBn e2 e4 (fun q m' hq p M => n1 (nxt q m' hBn hq p M)) (fun m' hq p => n0 (flt m' hBn hq p)), fun c => absurd rfl c⟩
end TXM
