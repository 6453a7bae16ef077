/-! THE CLAIM OUT OF ONE WALK OF THE LAW'S BODY. Your part is whole_start (and what it stands on); all else here is the same for every law, but numbers. -/
def R_law : String := "WolfFiresLaw"
def lw_P (b : Addr) (xs : List Int32) (args : Array Value) (s : State) : Prop := args = #[.ref b] ∧ s.IntsAt b xs ∧ xs.length ≤ 3072 ∧ (Jvm.Cond.and given_1 narrow_1).before args s = true
def lw_Q (_ : Array Value) (s : State) (o : Outcome) (t : State) : Prop := o = .returned (some (.int 1)) ∧ Framed s o t [] 600000 7302250
def lw_Z (below : List Frame) (a : Array Value) (s : State) : State → Prop := fun t => ∃ o, t.status = .running ∧ Ended t below o ∧ lw_Q a s o t
/-- the law's own end, with 1 on the stack, nothing written that was there before, its room as the claim has it -/
theorem lw_ret {p : Program} {l : Launch} {e : Env} {s : State} {m : MethodId} {below : List Frame} {meth : Method} {c : Code} {b : Nat} (hx : p.tables.exec = Jvm.exec) (hb : c.code = code) (hr : meth.sig.returnType = ret) (hlocks : meth.locks = false) {pc : Nat} {H : Heap} {ls : Array Slot} (hdg : decode code pc = .ok (.ireturn, 1)) : W p l e room_1 s m #[Value.ref b] below meth c H [] 600000 7302250 (lw_Z below #[Value.ref b] s) (F0 m pc ls [.int 1]) := by
  intro T hT X
  obtain ⟨fs, hret, hrun, hended, hW, hframe⟩ := X.leave (v := some (.int 1)) (hlocks := hlocks) (fun h => by rw [hr] at h; cases h)
  have hmeth' : T.vm.method? m = some meth := X.method'
  refine ⟨T.setFrames fs, ?_, .returned (some (.int 1)), hrun, hended, rfl, ⟨_, rfl⟩, hW, hframe⟩
  jvm_step X.here [X.here.top, hx, hb, hdg, hmeth', hr, ret, narrow_b1]
  (try refine ⟨rfl, ?_⟩); (try refine ⟨rfl, ?_⟩)
  first | (intro acts; rw [hret _ acts rfl rfl rfl]) | rw [hret _ _ rfl rfl rfl]
  exact Steps.refl _
/-- what holds at the law's entry: the machine, the code, the tables' words (any of lw_tbl by 'hts w (by decide +kernel)'), the script of L ints xs at the cell b, what the Statement gives of the start (any of its parts by flat_of_before) -/
def lw_At (p : Program) (s : State) (m : MethodId) (meth : Method) (c : Code) (b L : Nat) (xs : Nat → Int32) : Prop :=
  p.tables.exec = Jvm.exec ∧ c.code = code ∧ meth.sig.returnType = ret ∧ c.maxLocals = 4 ∧ s.vm.findClass R_law = some m.cls ∧ (∀ w ∈ lw_tbl, w.before #[Value.ref b] s = true) ∧ va_X b L xs s s.heap ∧ b < s.heap.size ∧ meth.locks = false ∧ (Jvm.Cond.and given_1 narrow_1).before #[Value.ref b] s = true
/-! the law as a method of the judgement: the script lies at 90002 -/
abbrev mL_law : wf_M := (yL_law, cL_law, 4, ret)
def NLaw (b L : Nat) (xs : Nat → Int32) : wf_Nd := (room_1, 600000, 7302250, fun G s args => args = #[Value.ref b] ∧ G.2.2 90002 = b ∧ va_X b L xs s s.heap ∧ b < s.heap.size ∧ ∀ q, wf_A G q → s.heap.size ≤ q, fun _ below args s => lw_Z below args s)
theorem law_rok {b L : Nat} {xs : Nat → Int32} : wf_rok (NLaw b L xs) 100 := ⟨Nat.le_of_ble_eq_true rfl, Nat.le_of_ble_eq_true rfl, Nat.le_refl _, Nat.le_refl _⟩
theorem sh_l0 : wf_sh 0 = (8, 0) := rfl
section LAWA
variable {b L pc : Nat} {xs : Nat → Int32} {lv : List (Nat × Value)} {st : List Value} {mem : wf_Mem}
theorem V_sld {x : Int32} {k : Nat} (hd : decode mL_law.2.1 pc = .ok (.iaload, 1)) (hx : x = nI k) (hk : k < L) (hL : L ≤ 3072) (kk : Vw (NLaw b L xs) mL_law (pc + 1) lv (.int (xs k) :: st) mem) : Vw (NLaw b L xs) mL_law pc lv (.int x :: .ref 90002 :: st) mem := by
  intro G p l e s m args below meth c H locs ls C D Z S Lh X
  have x2 := X.2.1
  have x3 := X.2.2.1
  have x4 := X.2.2.2.1
  have x5 := X.2.2.2.2
  show W _ _ _ _ _ _ _ _ _ _ _ _ _ _ _ (F0 m pc ls (.int x :: .ref (G.2.2 90002) :: st.map (wf_tr G.2.2)))
  rw [x2]
  refine va_sld C.1 C.2.1 x3 x4 (fun q => by have := x5 b q; omega) S (i := x) (by rw [hx]; exact vp_in_nI hk (by omega)) hd ?_
  rw [hx, nI_clamp (by omega)]
  exact kk G p l e s m args below meth c H locs ls C D Z S Lh X
theorem V_slenL (hd : decode mL_law.2.1 pc = .ok (.arraylength, 1)) (kk : Vw (NLaw b L xs) mL_law (pc + 1) lv (.int (nI L) :: st) mem) : Vw (NLaw b L xs) mL_law pc lv (.ref 90002 :: st) mem := by
  intro G p l e s m args below meth c H locs ls C D Z S Lh X
  have x2 := X.2.1
  have x3 := X.2.2.1
  have x4 := X.2.2.2.1
  have x5 := X.2.2.2.2
  show W _ _ _ _ _ _ _ _ _ _ _ _ _ _ _ (F0 m pc ls (.ref (G.2.2 90002) :: st.map (wf_tr G.2.2)))
  rw [x2]
  exact va_slen C.1 C.2.1 x3 x4 (fun q => by have := x5 b q; omega) S hd (kk G p l e s m args below meth c H locs ls C D Z S Lh X)
theorem V_lret (hd : decode mL_law.2.1 pc = .ok (.ireturn, 1)) : Vw (NLaw b L xs) mL_law pc lv [.int 1] mem := by
  intro G p l e s m args below meth c H locs ls C D Z S Lh X
  obtain ⟨rfl, -, -, -, x5⟩ := X
  exact va_forget (fun q hq => x5 _ (S.2.2 q hq)) (lw_ret C.1 C.2.1 C.2.2.1 C.2.2.2.2.2.1 hd)
end LAWA
