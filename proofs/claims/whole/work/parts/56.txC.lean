/-! the reference's next piece -/
def tkV (t : Nat → Int32) (n B : Nat) (T : Bool) : Int32 :=
  if B < n then (if srt1 (t B) = 1 then (if T = true then 4 else 1) else if srt1 (t B) = 2 then (if T = false ∧ teB t n B - B ≤ 4 then 2 else 4) else 3) else 0
def Tok (t : Nat → Int32) (n B : Nat) (T : Bool) (m : wf_Mem) : Prop :=
  m 120 17 = nI B ∧ m 120 18 = nI (teB t n B) ∧ m 120 19 = tkV t n B T ∧
  (B < n → srt1 (t B) = 1 → m 120 21 = if teB t n B - B = 1 then t B else 0) ∧
  (B < n → srt1 (t B) = 0 → m 120 21 = t B) ∧
  (B < n → srt1 (t B) = 2 → m 120 20 = nuA t B (min (teB t n B - B) 4))
section TXC
variable {d : Nat} {mem : wf_Mem} {P : Int32 → wf_Mem → Prop} {Q : wf_Mem → Prop} {r : Rw} {t : Nat → Int32}
theorem tok_89 {n B : Nat} (hn : n ≤ 96) (hB : B ≤ n) (ti : Int32) (T : Bool) (hti : (ti = 0 ∧ T = false) ∨ (ti = 1 ∧ T = true)) (h : ∀ m', Tk mem m' → Tok t n B T m' → Q m') (m : wf_Mem) (ho : Tk mem m) (e1 : m 120 16 = nI n) (e3 : m 120 18 = nI B) (e4 : ∀ j, j < n → m 133 j = t j) : Vw (Nv (d + 2) Q) mX9_nextToken 89 [(0, .ref 120)] [.int ti] m := by
  refine b_X9_nextToken_89 _ _ (fun m1 f1 => ?_)
  rw [e3] at f1
  have o1 : Tk mem m1 := by rw [f1]; exact ho.tr (Tk.ms (by omega))
  have a1 : m1 120 16 = nI n := by rw [f1, msK _ _ _ _ (by decide)]; exact e1
  have a2 : m1 120 17 = nI B := by rw [f1, msS]
  have a3 : m1 120 18 = nI B := by rw [f1, msK _ _ _ _ (by decide)]; exact e3
  have a4 : ∀ j, j < n → m1 133 j = t j := fun j hj => by rw [f1, msA _ _ _ _ (by decide)]; exact e4 j hj
  have ec : (nI B = nI n) ↔ B = n := nI_eq (by omega) (by omega)
  rw [a1, a2, ec]
  have tT : (ti = 0) ↔ T = false := by
    rcases hti with ⟨x, y⟩ | ⟨x, y⟩
    · rw [x, y]; decide
    · rw [x, y]; decide
  refine ⟨fun c => ?_, fun c m2 f2 => ?_⟩
  · have hBn : B < n := by omega
    have tb' := te_bd (t := t) (n := n) (b := B) hB
    refine c_isLetter hn hB a1 a4 (fun g1 g2 => z1 ?_) (fun g => z0 ?_)
    · have er : rn t n 1 B = teB t n B := by
        rw [rn_st g1, if_pos g2]
        unfold teB
        rw [if_pos g1, g2, if_neg (by decide)]
      refine letters_loop (mem := m1) (t := t) (d := d) hn ti (fun m' k b1 b2 b3 b4 => h m' (o1.tr k) ⟨b1, b2, ?_, fun _ _ => b4, fun _ q => absurd (g2.symm.trans q) (by decide), fun _ q => absurd (g2.symm.trans q) (by decide)⟩) g1 (tb'.2.2 g1) tb'.2.1 96 B m1 (by omega) hB Tk.rf a1 a2 a3 a4 er
      rw [b3]
      unfold tkV
      rw [if_pos g1, if_pos g2]
      by_cases z : ti = 0
      · rw [if_pos z, if_neg (by rw [tT.mp z]; decide)]
      · rw [if_neg z, if_pos (by cases hT : T; · exact absurd (tT.mpr hT) z
                                 · rfl)]
    · rw [a2]
      refine c_isDigit hn hB a1 a4 (fun g1 g2 => z1 (fun m2 f2 => ?_)) (fun g' => z0 (fun m2 f2 => ?_))
      · have er : rn t n 2 B = teB t n B := by
          rw [rn_st g1, if_pos g2]
          unfold teB
          rw [if_pos g1, g2, if_neg (by decide)]
        refine digits_loop (mem := m1) (t := t) (d := d) (b := B) hn ti (fun m' k b1 b2 b3 b4 => h m' (o1.tr k) ⟨b1, b2, ?_, fun _ q => absurd (g2.symm.trans q) (by decide), fun _ q => absurd (g2.symm.trans q) (by decide), fun _ _ => b4⟩) g1 tb'.2.1 96 B m2 (by omega) (Nat.le_refl _) hB (by rw [f2]; exact Tk.ms (by omega)) (by rw [f2, msK _ _ _ _ (by decide)]; exact a1) (by rw [f2, msK _ _ _ _ (by decide)]; exact a2) (by rw [f2, msK _ _ _ _ (by decide)]; exact a3) (by rw [f2, msS, Nat.sub_self]; rfl) (fun j hj => by rw [f2, msA _ _ _ _ (by decide)]; exact a4 j hj) er
        rw [b3]
        unfold tkV
        rw [if_pos g1, g2, if_neg (show ¬ (2 : Int32) = 1 by decide), if_pos (show (2 : Int32) = 2 from rfl)]
        by_cases z : ti = 0 ∧ teB t n B - B ≤ 4
        · rw [if_pos z, if_pos ⟨tT.mp z.1, z.2⟩]
        · rw [if_neg z, if_neg (fun o => z ⟨tT.mpr o.1, o.2⟩)]
      · have s0 : srt1 (t B) = 0 := by
          rcases srt_3 (t B) with q | q | q
          · exact q
          · exact absurd ⟨hBn, q⟩ g
          · exact absurd ⟨hBn, q⟩ g'
        have c2 : m2 120 17 = nI B := by rw [f2, msK _ _ _ _ (by decide)]; exact a2
        rw [c2, nI_clamp (by omega)]
        refine ⟨vin (by omega), fun m3 f3 m4 f4 => ?_⟩
        have c3 : m3 120 18 = nI B := by rw [f3, msK _ _ _ _ (by decide), f2, msK _ _ _ _ (by decide)]; exact a3
        have c4 : m2 133 B = t B := by rw [f2, msA _ _ _ _ (by decide)]; exact a4 B hBn
        rw [c3, nI_1] at f4
        rw [c4] at f3
        refine h m4 (o1.tr (by rw [f4, f3, f2]; exact ((Tk.ms (by omega)).tr (Tk.ms (by omega))).tr (Tk.ms (by omega)))) ⟨?_, ?_, ?_, fun _ q => absurd (s0.symm.trans q) (by decide), fun _ _ => ?_, fun _ q => absurd (s0.symm.trans q) (by decide)⟩
        · rw [f4, msK _ _ _ _ (by decide), f3, msK _ _ _ _ (by decide)]; exact c2
        · rw [f4, msS]; unfold teB; rw [if_pos hBn, if_pos s0]
        · rw [f4, msK _ _ _ _ (by decide), f3, msK _ _ _ _ (by decide), f2, msS]
          unfold tkV
          rw [if_pos hBn, s0, if_neg (by decide), if_neg (by decide)]
        · rw [f4, msK _ _ _ _ (by decide), f3, msS]
  · refine h m2 (by rw [f2]; exact o1.tr (Tk.ms (by omega))) ⟨by rw [f2, msK _ _ _ _ (by decide)]; exact a2, ?_, ?_, fun q => by omega, fun q => by omega, fun q => by omega⟩
    · rw [f2, msK _ _ _ _ (by decide), a3]; unfold teB; rw [if_neg (by omega), c]
    · rw [f2, msS]; unfold tkV; rw [if_neg (by omega)]
theorem tok_34 {n p B : Nat} (hn : n ≤ 96) (x1 : Int32) (F : Bool) (hF : (x1 = 0 ∧ F = false) ∨ (x1 = 1 ∧ F = true)) (h : ∀ m', Tk mem m' → Tok t n B (F && decide (B = p)) m' → Q m') (hB : B ≤ n) (hp : p ≤ n) : ∀ (f q : Nat) (m : wf_Mem), n - q ≤ f → q ≤ n → Tk mem m → m 120 16 = nI n → m 120 18 = nI q → (∀ j, j < n → m 133 j = t j) → tb t n q = B → Vw (Nv (d + 2) Q) mX9_nextToken 34 [(0, .ref 120), (1, .int x1), (2, .int (nI p))] [] m
  | f, q, m, hf, hq, ho, e1, e3, e4, er => by
    have ec : (nI n ≤ nI q) ↔ n ≤ q := nI_leI (by omega) (by omega)
    have ep : (nI p = nI q) ↔ p = q := nI_eq (by omega) (by omega)
    have fin : q = B → (x1 = 0 → Vw (Nv (d + 2) Q) mX9_nextToken 89 [(0, .ref 120)] [.int 0] m) ∧ (¬ x1 = 0 → (¬ p = q → Vw (Nv (d + 2) Q) mX9_nextToken 89 [(0, .ref 120)] [.int 0] m) ∧ (p = q → Vw (Nv (d + 2) Q) mX9_nextToken 89 [(0, .ref 120)] [.int 1] m)) := fun eq => by
      subst eq
      refine ⟨fun c => tok_89 (mem := mem) (t := t) hn hq 0 _ (Or.inl ⟨rfl, ?_⟩) h m ho e1 e3 e4, fun c => ⟨fun c2 => tok_89 (mem := mem) (t := t) hn hq 0 _ (Or.inl ⟨rfl, ?_⟩) h m ho e1 e3 e4, fun c2 => tok_89 (mem := mem) (t := t) hn hq 1 _ (Or.inr ⟨rfl, ?_⟩) h m ho e1 e3 e4⟩⟩
      · rcases hF with ⟨x, y⟩ | ⟨x, y⟩
        · rw [y]; rfl
        · rw [x] at c; exact absurd c (by decide)
      · have : ¬ q = p := fun z => c2 z.symm
        simp [this]
      · rcases hF with ⟨x, y⟩ | ⟨x, y⟩
        · exact absurd x c
        · rw [y]; simp [c2.symm]
    refine b_X9_nextToken_34 _ _ _ ?_
    rw [e1, e3, ec, ep, nI_clamp (by omega)]
    refine ⟨fun g => fin (by rw [tb_end g] at er; exact er), fun g => ⟨vin (by omega), fun g2 => ?_, fun g2 m2 f2 => ?_⟩⟩
    · rw [e4 q (by omega)] at g2
      rw [tb_st (by omega), if_neg g2] at er
      exact fin er
    · rw [e4 q (by omega)] at g2
      rw [tb_st (by omega), if_pos g2] at er
      rw [nI_1] at f2
      cases f with
      | zero => omega
      | succ f => exact tok_34 hn x1 F hF h hB hp f (q + 1) m2 (by omega) (by omega) (by rw [f2]; exact ho.tr (Tk.ms (by omega))) (by rw [f2, msK _ _ _ _ (by decide)]; exact e1) (by rw [f2, msS]) (fun j hj => by rw [f2, msA _ _ _ _ (by decide)]; exact e4 j hj) er
/-- whether the piece ahead is a word or a number, and not at the begin -/
def tgF (p : Nat) (k : Int32) : Bool := decide (0 < p) && (decide (k = 1) || decide (k = 2))
theorem c_nextToken {n p : Nat} (hn : n ≤ 96) (hp : p ≤ n) (e1 : mem 120 16 = nI n) (e3 : mem 120 18 = nI p) (e4 : ∀ j, j < n → mem 133 j = t j) (h : ∀ m', Tk mem m' → Tok t n (tb t n p) (tgF p (mem 120 19) && decide (tb t n p = p)) m' → Q m') : Cv mX9_nextToken (d + 2) [.ref 120] mem Q := by
  have bd := tb_bd (t := t) (n := n) 96 p (by omega) hp
  have e0 : (nI p ≤ 0) ↔ p ≤ 0 := nI_leI (b := 0) (by omega) (by decide)
  refine E_X9_nextToken ?_
  rw [e3, e0]
  have go : ∀ (x1 : Int32), ((x1 = 0 ∧ tgF p (mem 120 19) = false) ∨ (x1 = 1 ∧ tgF p (mem 120 19) = true)) → Vw (Nv (d + 2) Q) mX9_nextToken 34 [(0, .ref 120), (1, .int x1), (2, .int (nI p))] [] mem := fun x1 hx =>
    tok_34 (mem := mem) (t := t) hn x1 _ hx h bd.2 hp 96 p mem (by omega) hp Tk.rf e1 e3 e4 rfl
  refine ⟨fun c y ey => ?_, fun c => ⟨fun c1 y ey => ?_, fun c1 => ⟨fun c2 y ey => ?_, fun c2 y ey => ?_⟩⟩⟩
  · rw [ey]; exact go 0 (Or.inl ⟨rfl, by unfold tgF; simp; omega⟩)
  · rw [ey]; exact go 1 (Or.inr ⟨rfl, by unfold tgF; simp [c1]; omega⟩)
  · rw [ey]; exact go 0 (Or.inl ⟨rfl, by unfold tgF; simp [c1, c2]⟩)
  · rw [ey]; exact go 1 (Or.inr ⟨rfl, by unfold tgF; simp [c2]; omega⟩)
end TXC
