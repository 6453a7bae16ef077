/-! calls: a method's contract over the memory, its end, its entry -/
def wf_rm (d : Nat) : Room := { frames := d, cells := 0, slots := 0, locals := 40 * d }
def wf_Qc (G : wf_G) (Q : Option Value → wf_Mem → Prop) : Array Value → State → Outcome → State → Prop := fun _ st oc t =>
  (∃ (v : Option Value) (mem : wf_Mem), oc = .returned (v.map (wf_tr G.2.2)) ∧ Q v mem ∧ wf_Wd G mem t t.heap) ∧ va_F (wf_A G) st t
def wf_Nm (d : Nat) (Q : Option Value → wf_Mem → Prop) : wf_Nd := (wf_rm d, 0, 0, fun _ _ _ => True, fun G below args s => MQ below (wf_Qc G Q) args s 0 0 (wf_A G))
def wf_wsM (M : wf_M) : List Cond := Cond.code M.1 M.2.1 M.2.2.1 M.2.2.2 :: gw_tbl
def Cw (M : wf_M) (d : Nat) (As : List Value) (mem : wf_Mem) (Q : Option Value → wf_Mem → Prop) : Prop :=
  ∀ (G : wf_G) (l : Launch), Met l M.1 (wf_wsM M) (wf_rm d) (va_Pc (As.map (wf_tr G.2.2)) (fun U => wf_Wd G mem U U.heap ∧ wf_St G U)) (wf_Qc G Q) 0 0 (wf_A G)
def wf_Qi (P : Int32 → wf_Mem → Prop) : Option Value → wf_Mem → Prop := fun v m => ∃ r : Int32, v = some (.int r) ∧ P r m
def wf_Qv (P : wf_Mem → Prop) : Option Value → wf_Mem → Prop := fun v m => v = none ∧ P m
def wf_Qa (P : Nat → wf_Mem → Prop) : Option Value → wf_Mem → Prop := fun v m => ∃ a : Nat, v = some (.ref a) ∧ P a m
abbrev Ci (M : wf_M) (d : Nat) (As : List Value) (mem : wf_Mem) (P : Int32 → wf_Mem → Prop) : Prop := Cw M d As mem (wf_Qi P)
abbrev Cv (M : wf_M) (d : Nat) (As : List Value) (mem : wf_Mem) (P : wf_Mem → Prop) : Prop := Cw M d As mem (wf_Qv P)
abbrev Ca (M : wf_M) (d : Nat) (As : List Value) (mem : wf_Mem) (P : Nat → wf_Mem → Prop) : Prop := Cw M d As mem (wf_Qa P)
abbrev Ni (d : Nat) (P : Int32 → wf_Mem → Prop) : wf_Nd := wf_Nm d (wf_Qi P)
abbrev Nv (d : Nat) (P : wf_Mem → Prop) : wf_Nd := wf_Nm d (wf_Qv P)
abbrev Na (d : Nat) (P : Nat → wf_Mem → Prop) : wf_Nd := wf_Nm d (wf_Qa P)
theorem Cw.mono {M : wf_M} {d : Nat} {As : List Value} {mem : wf_Mem} {Q Q' : Option Value → wf_Mem → Prop} (h : Cw M d As mem Q) (hq : ∀ v m, Q v m → Q' v m) : Cw M d As mem Q' := by
  intro G l
  refine MetFree.mono (h G l) (fun _ _ h => h) (fun _ _ _ _ _ h => h) (fun a s o t _ h => ?_)
  obtain ⟨⟨⟨v, mem', h1, h2, h3⟩, h4⟩, h5⟩ := h
  exact ⟨⟨⟨v, mem', h1, hq _ _ h2, h3⟩, h4⟩, h5⟩
theorem Ci.mono {M : wf_M} {d : Nat} {As : List Value} {mem : wf_Mem} {P P' : Int32 → wf_Mem → Prop} (h : Ci M d As mem P) (hq : ∀ r m, P r m → P' r m) : Ci M d As mem P' := Cw.mono h (fun _ _ ⟨r, h1, h2⟩ => ⟨r, h1, hq _ _ h2⟩)
theorem Cv.mono {M : wf_M} {d : Nat} {As : List Value} {mem : wf_Mem} {P P' : wf_Mem → Prop} (h : Cv M d As mem P) (hq : ∀ m, P m → P' m) : Cv M d As mem P' := Cw.mono h (fun _ _ ⟨h1, h2⟩ => ⟨h1, hq _ h2⟩)
theorem Ca.mono {M : wf_M} {d : Nat} {As : List Value} {mem : wf_Mem} {P P' : Nat → wf_Mem → Prop} (h : Ca M d As mem P) (hq : ∀ r m, P r m → P' r m) : Ca M d As mem P' := Cw.mono h (fun _ _ ⟨r, h1, h2⟩ => ⟨r, h1, hq _ _ h2⟩)
theorem wf_args_lv (G : wf_G) : ∀ (As : List Value) (i : Nat), lv_args i (As.map (wf_tr G.2.2)) = wf_lv G (lv_args i As)
  | [], _ => rfl
  | v :: As, i => by
    show (i, wf_tr G.2.2 v) :: lv_args (if (wf_tr G.2.2 v).category = 2 then i + 2 else i + 1) (As.map (wf_tr G.2.2)) = _
    rw [wf_tr_cat, wf_args_lv G As]
    rfl
theorem wf_args_sl (G : wf_G) (As : List Value) : (lg_sl (As.map (wf_tr G.2.2))).length = (lg_sl As).length := by
  induction As with
  | nil => rfl
  | cons v As ih =>
    simp only [lg_sl, List.map_cons, List.flatMap_cons, List.length_append, wf_tr_cat] at ih ⊢
    rw [ih]
    congr 1
    split <;> rfl
/-- entering a method -/
theorem Cw_of {M : wf_M} {d : Nat} {As : List Value} {mem : wf_Mem} {Q : Option Value → wf_Mem → Prop} (hy : plainName M.1.cls = true) (hlen : (lg_sl As).length ≤ M.2.2.1) {lv : List (Nat × Value)} (hl : lv_args 0 As = lv) (h : Vw (wf_Nm d Q) M 0 lv [] mem) : Cw M d As mem Q := by
  intro G l
  refine Met.ofW (cc := M.2.1) (maxL := M.2.2.1) (ret := M.2.2.2) hy rfl ?_
  intro p e s m args below meth c s₁ B hml hv
  obtain ⟨rfl, hWd, hSt⟩ := hv
  have hts := atoms_spec (ws := wf_wsM M) B.pre
  rw [lg_entry_eq]
  have hl2 := lv_entry (As.map (wf_tr G.2.2)) (n := M.2.2.1) (by rw [wf_args_sl]; exact hlen)
  rw [wf_args_lv, hl] at hl2
  exact h G p l e s m _ below meth c s.heap [] _ ⟨B.exec, B.bytes, B.returns, hml, findClass_of_methodNamed B.named, B.notSynchronized, fun w hw => hts w (List.mem_cons_of_mem _ hw)⟩ hWd hSt va_S.rf hl2 trivial
theorem wf_Wd_end {G : wf_G} {mem : wf_Mem} {s t : State} {H : Heap} (D : wf_Wd G mem s H) (ht : t.heap = H) (hW : s.WarmedH t.vm) : wf_Wd G mem t t.heap := ⟨va_K.moved hW.alike D.1, by rw [ht]; exact D.2.1, D.2.2⟩
section WFC
variable {N : wf_Nd} {M M' : wf_M} {pc d n idx : Nat} {lv : List (Nat × Value)} {st : List Value} {mem : wf_Mem}
/-- returns -/
theorem V_iret {P : Int32 → wf_Mem → Prop} {v : Int32} (hd : decode M.2.1 pc = .ok (.ireturn, 1)) (hr : M.2.2.2 = some .int) (h : P v mem) : Vw (Ni d P) M pc lv [.int v] mem := by
  intro G p l e s m args below meth c H locs ls C D Z S L X
  have hlocks := C.2.2.2.2.2.1
  exact W.iret C.1 C.2.1 (C.2.2.1.trans hr) (fun t ht hW => ⟨⟨some (.int v), mem, rfl, ⟨v, rfl, h⟩, wf_Wd_end D ht hW⟩, S.F ht⟩) S.2.2 hd hlocks
theorem V_zret {P : Int32 → wf_Mem → Prop} {v : Int32} {ty : FieldType} (hd : decode M.2.1 pc = .ok (.ireturn, 1)) (hr : M.2.2.2 = some ty) (hn : narrow ty (.int v) = .int v) (h : P v mem) : Vw (Ni d P) M pc lv [.int v] mem := by
  intro G p l e s m args below meth c H locs ls C D Z S L X
  have hlocks := C.2.2.2.2.2.1
  exact W.zret C.1 C.2.1 (C.2.2.1.trans hr) hn (fun t ht hW => ⟨⟨some (.int v), mem, rfl, ⟨v, rfl, h⟩, wf_Wd_end D ht hW⟩, S.F ht⟩) S.2.2 hd hlocks
theorem V_vret {P : wf_Mem → Prop} (hd : decode M.2.1 pc = .ok (.return_, 1)) (hr : M.2.2.2 = none) (h : P mem) : Vw (Nv d P) M pc lv [] mem := by
  intro G p l e s m args below meth c H locs ls C D Z S L X
  have hlocks := C.2.2.2.2.2.1
  exact W.vret C.1 C.2.1 (C.2.2.1.trans hr) (fun t ht hW => ⟨⟨none, mem, rfl, ⟨rfl, h⟩, wf_Wd_end D ht hW⟩, S.F ht⟩) S.2.2 hd hlocks
theorem V_aret {P : Nat → wf_Mem → Prop} {a : Nat} {ty : FieldType} (hd : decode M.2.1 pc = .ok (.areturn, 1)) (hr : M.2.2.2 = some ty) (ht : (∃ n, ty = .object n) ∨ ∃ t, ty = .array t) (h : P a mem) : Vw (Na d P) M pc lv [.ref a] mem := by
  intro G p l e s m args below meth c H locs ls C D Z S L X
  have hlocks := C.2.2.2.2.2.1
  exact W.aret C.1 C.2.1 (C.2.2.1.trans hr) ht (Or.inr ⟨_, rfl⟩) (fun t ht hW => ⟨⟨some (.ref a), mem, rfl, ⟨a, rfl, h⟩, wf_Wd_end D ht hW⟩, S.F ht⟩) S.2.2 hd hlocks
/-- the caller has room for a callee of depth d -/
def wf_rok (N : wf_Nd) (d : Nat) : Prop := d + 1 ≤ N.1.frames ∧ 40 * d + 40 ≤ N.1.locals ∧ N.2.1 ≤ N.1.cells ∧ N.2.2.1 ≤ N.1.slots
theorem wf_rok_m {d : Nat} {Q : Option Value → wf_Mem → Prop} : wf_rok (wf_Nm (d + 1) Q) d := ⟨Nat.le_refl _, Nat.le_refl (40 * d + 40), Nat.le_refl _, Nat.le_refl _⟩
theorem wf_back {p : Program} {l : Launch} {e : Env} {R : Room} {s : State} {m : MethodId} {args : Array Value} {below : List Frame} {meth : Method} {c : Code} {H : Heap} {locs : List Loc} {cells slots : Nat} {Qf : State → Prop} {G : wf_G} {ls : Array Slot} {st0 rest : List Value} {a : Array Value} {Q : Option Value → wf_Mem → Prop}
    (hr : va_Run p l e R s m args below meth c H locs cells slots 0 0 (F0 m pc ls st0) rest (wf_Qc G Q a) (wf_A G)) (D : wf_Wd G mem s H) (S : va_S (wf_A G) s.heap H locs)
    (kk : ∀ (v : Option Value) (mem' : wf_Mem) (H1 : Heap) (locs1 : List Loc), Q v mem' → wf_Wd G mem' s H1 → va_S (wf_A G) s.heap H1 locs1 → W p l e R s m args below meth c H1 locs1 cells slots Qf (F0 m (pc + 3) ls ((v.map (wf_tr G.2.2)).toList ++ rest))) :
    W p l e R s m args below meth c H locs cells slots Qf (F0 m pc ls st0) := by
  intro T hT X
  obtain ⟨v, st₀, t, T', L, h0, X', hL, e1, e2, ⟨⟨v2, mem', hv, hq, hw⟩, hz, hk⟩, go⟩ := hr T hT X
  cases hv
  rw [h0] at hz hk
  obtain ⟨t2, a1, b1⟩ := kk v2 mem' T'.heap (locs ++ L) hq ⟨D.1, by rw [e1]; exact hw.2.1, D.2.2⟩
    ⟨Nat.le_trans S.1 (by rw [e1]; exact hz), fun q h1 h2 => by rw [e1, hk q (Nat.lt_of_lt_of_le h1 S.1) h2]; exact S.2.1 q h1 h2, fun q hq => by
      rcases List.mem_append.mp hq with h | h
      · exact S.2.2 q h
      · exact hL q h⟩ T' rfl X'
  exact ⟨t2, go t2 a1, b1⟩
/-- what the tables say of a method -/
def wf_MD (M' : wf_M) (n : Nat) : Prop := Cond.code M'.1 M'.2.1 M'.2.2.1 M'.2.2.2 ∈ gw_tbl ∧ Cond.initialized M'.1.cls ∈ gw_tbl ∧ (M'.1.cls ≠ "java/lang/invoke/MethodHandle" ∧ M'.1.cls ≠ "java/lang/invoke/VarHandle" ∧ (parseMethodDescriptor M'.1.desc).map (fun d => d.parameters.length) = some n) ∧ M'.2.2.1 ≤ 21
def wf_MV (M' : wf_M) (n : Nat) : Prop := wf_MD M' n ∧ Cond.instanceMethod M'.1 ∈ gw_tbl ∧ Cond.selects M'.1.cls M'.1 M'.1 ∈ gw_tbl
def wf_MS (M' : wf_M) (n : Nat) : Prop := wf_MD M' n ∧ Cond.static M'.1 ∈ gw_tbl
theorem wf_MD.good {n : Nat} (h : wf_MD M' n) : GoodIn gw_tbl (wf_wsM M') := by
  intro w hw
  have hg : GoodIn gw_tbl gw_tbl := gw_good (fun _ h => h)
  rcases List.mem_cons.mp hw with rfl | h1
  · exact hg _ h.1
  · exact hg _ h1
theorem wf_pre {G : wf_G} {s : State} {H : Heap} {locs : List Loc} {As : List Value} (D : wf_Wd G mem s H) (Z : wf_St G s) (S : va_S (wf_A G) s.heap H locs) : ∀ U : State, U.heap = H → s.WarmedH U.vm → va_Pc (As.map (wf_tr G.2.2)) (fun U => wf_Wd G mem U U.heap ∧ wf_St G U) (As.map (wf_tr G.2.2)).toArray U :=
  fun U hU hW => ⟨rfl, wf_Wd_end D hU hW, Z.go hW hU S⟩
theorem wf_blind {G : wf_G} {As : List Value} : FrameBlind (va_Pc As (fun U => wf_Wd G mem U U.heap ∧ wf_St G U)) := by
  intro a U g mk h
  obtain ⟨h1, ⟨h2, h3, h4⟩, h5⟩ := h
  exact ⟨h1, ⟨va_K.moved (u := U) (U := U.calling g mk a) (Vm.Alike.refl U.vm) h2, h3, h4⟩, wf_St.go (locs := []) h5 (U := U.calling g mk a) (State.WarmedH.refl U) rfl va_S.rf⟩
theorem wf_cat (G : wf_G) (st : List Value) : ((st.map (wf_tr G.2.2)).map fun v => v.category).sum = (st.map fun v => v.category).sum := by
  congr 1
  rw [List.map_map]
  exact List.map_congr_left (fun v _ => wf_tr_cat _ v)
theorem wf_toList (G : wf_G) (v : Option Value) (st : List Value) : (v.map (wf_tr G.2.2)).toList ++ st.map (wf_tr G.2.2) = (v.toList ++ st).map (wf_tr G.2.2) := by cases v <;> rfl
theorem V_callV {st0 : List Value} {ci n' b : Nat} {T : u_T} {k' : Nat} (As : List Value) (hm : wf_MV M' n) (hl : Cond.methodLink M.1.cls idx M'.1 ∈ gw_tbl) (hd : decode M.2.1 pc = .ok (.invokevirtual idx, 3)) (hR : wf_rok N d)
    (hs : wf_sh b = (ci, n')) (hcl : vwCl[ci]? = some (M'.1.cls, T, k')) (hci : ci < 10) (hn : As.length = n) (hst : As.reverse ++ .ref b :: st = st0) (hw : (st.map fun v => v.category).sum ≤ 8)
    {Q : Option Value → wf_Mem → Prop} (hC : Cw M' d (.ref b :: As) mem Q) (kk : ∀ v mem', Q v mem' → Vw N M (pc + 3) lv (v.toList ++ st) mem') : Vw N M pc lv st0 mem := by
  subst hst
  have hb : b < 139 := wf_sh_lt hs (show ci ≠ 99 by omega)
  intro G p l e s m args below meth c H locs ls C D Z S L X
  have hrun := va_runV (p := p) (e := e) (m := m) (below := below) (meth := meth) (H := H) (locs := locs) (cells := N.2.1) (slots := N.2.2.1) (C := M'.1.cls) (b := G.2.2 b) (As := As.map (wf_tr G.2.2)) (rest := st.map (wf_tr G.2.2)) (g := F0 m pc ls ((As.reverse ++ .ref b :: st).map (wf_tr G.2.2)))
    (Ts := gw_tbl) (own := M.1.cls) (nL := M.2.2.1) (index := idx) (n := n) ⟨C.1, C.2.1, C.2.2.2.1, C.2.2.2.2.1, C.2.2.2.2.2.2⟩ (hC G l) (bytes := M'.2.1) (maxL := M'.2.2.1) (ret := M'.2.2.2) (R := N.1)
    ⟨callB_of n C.2.2.2.2.2.2 hm.1.good rfl rfl rfl (C.2.2.2.2.2.2 _ hm.1.2.1) (C.2.2.2.2.2.2 _ hl) hm.1.2.2.1 ⟨hR.1, by have := hm.1.2.2.2; have := hR.2.1; show 8 + (M'.2.2.1 + 11) + 40 * d ≤ N.1.locals; omega⟩, C.2.2.2.2.2.2 _ hm.2.1, C.2.2.2.2.2.2 _ hm.2.2⟩
    ⟨wf_blind, va_recv D.1 D.2.1 (ci := ci) (q0 := b) hcl (by rw [wf_ws_at hb, wf_E_obj hs hci]), wf_pre (As := .ref b :: As) D Z S⟩
    rfl (by rw [List.length_map]; exact hn) L.1 (by show (As.reverse ++ .ref b :: st).map (wf_tr G.2.2) = _; rw [List.map_append, List.map_reverse]; rfl) (lv_room (by rw [wf_cat]; exact hw)) hd ⟨hR.2.2.1, hR.2.2.2⟩
  exact wf_back (Q := Q) hrun D S (fun v mem' H1 locs1 hq D1 S1 => by rw [wf_toList]; exact kk v mem' hq G p l e s m args below meth c H1 locs1 ls C D1 Z S1 L X)
theorem V_callS {st0 : List Value} (As : List Value) (hm : wf_MS M' n) (hl : Cond.methodLink M.1.cls idx M'.1 ∈ gw_tbl) (hd : decode M.2.1 pc = .ok (.invokestatic idx, 3)) (hR : wf_rok N d)
    (hn : As.length = n) (hst : As.reverse ++ st = st0) (hw : (st.map fun v => v.category).sum ≤ 8)
    {Q : Option Value → wf_Mem → Prop} (hC : Cw M' d As mem Q) (kk : ∀ v mem', Q v mem' → Vw N M (pc + 3) lv (v.toList ++ st) mem') : Vw N M pc lv st0 mem := by
  subst hst
  intro G p l e s m args below meth c H locs ls C D Z S L X
  have hrun := va_runS (p := p) (e := e) (m := m) (below := below) (meth := meth) (H := H) (locs := locs) (cells := N.2.1) (slots := N.2.2.1) (As := As.map (wf_tr G.2.2)) (rest := st.map (wf_tr G.2.2)) (g := F0 m pc ls ((As.reverse ++ st).map (wf_tr G.2.2)))
    (Ts := gw_tbl) (own := M.1.cls) (nL := M.2.2.1) (index := idx) (n := n) ⟨C.1, C.2.1, C.2.2.2.1, C.2.2.2.2.1, C.2.2.2.2.2.2⟩ (hC G l) (bytes := M'.2.1) (maxL := M'.2.2.1) (ret := M'.2.2.2) (R := N.1)
    ⟨callB_of n C.2.2.2.2.2.2 hm.1.good rfl rfl rfl (C.2.2.2.2.2.2 _ hm.1.2.1) (C.2.2.2.2.2.2 _ hl) hm.1.2.2.1 ⟨hR.1, by have := hm.1.2.2.2; have := hR.2.1; show 8 + (M'.2.2.1 + 11) + 40 * d ≤ N.1.locals; omega⟩, C.2.2.2.2.2.2 _ hm.2⟩
    ⟨wf_blind, wf_pre D Z S⟩
    rfl (by rw [List.length_map]; exact hn) L.1 (by show (As.reverse ++ st).map (wf_tr G.2.2) = _; rw [List.map_append, List.map_reverse]) (lv_room (by rw [wf_cat]; exact hw)) hd ⟨hR.2.2.1, hR.2.2.2⟩
  exact wf_back (Q := Q) hrun D S (fun v mem' H1 locs1 hq D1 S1 => by rw [wf_toList]; exact kk v mem' hq G p l e s m args below meth c H1 locs1 ls C D1 Z S1 L X)
theorem V_callSN {st0 : List Value} {host : String} (As : List Value) (hm : wf_MS M' n) (hl : Cond.methodLinkNest M.1.cls idx M'.1 host ∈ wf_nest) (hd : decode M.2.1 pc = .ok (.invokestatic idx, 3)) (hR : wf_rok N d)
    (hn : As.length = n) (hst : As.reverse ++ st = st0) (hw : (st.map fun v => v.category).sum ≤ 8)
    {Q : Option Value → wf_Mem → Prop} (hC : Cw M' d As mem Q) (kk : ∀ v mem', Q v mem' → Vw N M (pc + 3) lv (v.toList ++ st) mem') : Vw N M pc lv st0 mem := by
  subst hst
  intro G p l e s m args below meth c H locs ls C D Z S L X
  have hrun := va_runSN (p := p) (e := e) (m := m) (below := below) (meth := meth) (H := H) (locs := locs) (cells := N.2.1) (slots := N.2.2.1) (As := As.map (wf_tr G.2.2)) (rest := st.map (wf_tr G.2.2)) (g := F0 m pc ls ((As.reverse ++ st).map (wf_tr G.2.2)))
    (Ts := gw_tbl) (own := M.1.cls) (nL := M.2.2.1) (index := idx) (n := n) ⟨C.1, C.2.1, C.2.2.2.1, C.2.2.2.2.1, C.2.2.2.2.2.2⟩ (hC G l) (bytes := M'.2.1) (maxL := M'.2.2.1) (ret := M'.2.2.2) (R := N.1) (host := host)
    ⟨va_cnB n C.2.2.2.2.2.2 hm.1.good rfl rfl rfl (Z.2.2.2.2.2.1 _ hl) (C.2.2.2.2.2.2 _ hm.1.2.1) hm.1.2.2.1 ⟨hR.1, by have := hm.1.2.2.2; have := hR.2.1; show 8 + (M'.2.2.1 + 11) + 40 * d ≤ N.1.locals; omega⟩, C.2.2.2.2.2.2 _ hm.2, trivial⟩
    ⟨wf_blind, wf_pre D Z S⟩
    rfl (by rw [List.length_map]; exact hn) L.1 (by show (As.reverse ++ st).map (wf_tr G.2.2) = _; rw [List.map_append, List.map_reverse]) (lv_room (by rw [wf_cat]; exact hw)) hd ⟨hR.2.2.1, hR.2.2.2⟩
  exact wf_back (Q := Q) hrun D S (fun v mem' H1 locs1 hq D1 S1 => by rw [wf_toList]; exact kk v mem' hq G p l e s m args below meth c H1 locs1 ls C D1 Z S1 L X)
end WFC
