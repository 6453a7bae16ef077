/-! construction: contracts, calls, ends -/
def kRm (d mc ms : Nat) : Room := { frames := d, cells := mc, slots := ms, locals := 40 * d }
def kQc (G : wf_G) (n1 : Nat) (Q : Option Value → wf_Mem → kSet → Prop) : Array Value → State → Outcome → State → Prop := fun _ st oc t =>
  (∃ (v : Option Value) (mem : wf_Mem) (set : kSet), oc = .returned (v.map (wf_tr G.2.2)) ∧ Q v mem set ∧ kWd G n1 mem set t t.heap) ∧ va_F (kF G) st t
def kNm (d n1 mc ms : Nat) (Q : Option Value → wf_Mem → kSet → Prop) : kNd := (kRm d mc ms, fun _ _ _ => True, fun G below args s => MQ below (kQc G n1 Q) args s mc ms (kF G))
def kPc (G : wf_G) (n : Nat) (mem : wf_Mem) (set : kSet) (U : State) : Prop := U.heap.size = G.2.2 0 + n ∧ kWd G n mem set U U.heap ∧ kSt U
def Kw (M : wf_M) (d : Nat) (As : List Value) (n : Nat) (mem : wf_Mem) (set : kSet) (mc ms : Nat) (Q : Option Value → wf_Mem → kSet → Prop) : Prop :=
  ∀ (G : wf_G) (l : Launch), Met l M.1 (wf_wsM M) (kRm d mc ms) (va_Pc (As.map (wf_tr G.2.2)) (kPc G n mem set)) (kQc G (n + mc) Q) mc ms (kF G)
theorem Kw_of {M : wf_M} {d n mc ms : Nat} {As : List Value} {mem : wf_Mem} {set : kSet} {Q : Option Value → wf_Mem → kSet → Prop} (hy : plainName M.1.cls = true) (hlen : (lg_sl As).length ≤ M.2.2.1) {lv : List (Nat × Value)} (hl : lv_args 0 As = lv) (h : Vk (kNm d (n + mc) mc ms Q) M 0 lv [] 0 0 n mem set) : Kw M d As n mem set mc ms Q := by
  intro G l
  refine Met.ofW (cc := M.2.1) (maxL := M.2.2.1) (ret := M.2.2.2) hy rfl ?_
  intro p e s m args below meth c s₁ B hml hv
  obtain ⟨rfl, hz, hWd, hSt⟩ := hv
  have hts := atoms_spec (ws := wf_wsM M) B.pre
  rw [lg_entry_eq]
  have hl2 := lv_entry (As.map (wf_tr G.2.2)) (n := M.2.2.1) (by rw [wf_args_sl]; exact hlen)
  rw [wf_args_lv, hl] at hl2
  exact h G p l e s m _ below meth c s.heap [] _ ⟨⟨B.exec, B.bytes, B.returns, hml, findClass_of_methodNamed B.named, B.notSynchronized, fun w hw => hts w (List.mem_cons_of_mem _ hw)⟩, fun hn => (name_of_methodNamed B.named B.method).1.trans hn⟩ hWd hSt (by omega) (by omega) va_S.rf hl2 trivial
theorem kWd_end {G : wf_G} {n : Nat} {mem : wf_Mem} {set : kSet} {s t : State} {H : Heap} (D : kWd G n mem set s H) (ht : t.heap = H) (hW : s.WarmedH t.vm) : kWd G n mem set t t.heap := ⟨va_K.moved hW.alike D.1, by rw [ht]; exact D.2.1, D.2.2⟩
theorem k_blind {G : wf_G} {n : Nat} {mem : wf_Mem} {set : kSet} {As : List Value} : FrameBlind (va_Pc As (kPc G n mem set)) := by
  intro a U g mk h
  obtain ⟨h1, h0, ⟨h2, h3⟩, h5⟩ := h
  exact ⟨h1, h0, ⟨va_K.moved (u := U) (U := U.calling g mk a) (Vm.Alike.refl U.vm) h2, h3⟩, kSt.go h5 (U := U.calling g mk a) (State.WarmedH.refl U)⟩
section KC
variable {N : kNd} {M M' : wf_M} {pc k j n : Nat} {lv lv' : List (Nat × Value)} {st : List Value} {mem : wf_Mem} {set : kSet}
theorem K_vret {d n1 mc ms : Nat} {Q : Option Value → wf_Mem → kSet → Prop} (hd : decode M.2.1 pc = .ok (.return_, 1)) (hr : M.2.2.2 = none) (hn : n = n1) (hk : k = mc) (hj : j = ms) (h : Q none mem set) : Vk (kNm d n1 mc ms Q) M pc lv [] k j n mem set := by
  subst hn; subst hk; subst hj
  intro G p l e s m args below meth c H locs ls C D Z hz hb S L X
  have hlocks := C.1.2.2.2.2.2.1
  exact W.vret C.1.1 C.1.2.1 (C.1.2.2.1.trans hr) (fun t ht hW => ⟨⟨none, mem, set, rfl, h, kWd_end D ht hW⟩, S.F ht⟩) S.2.2 hd hlocks
theorem K_aret {d n1 mc ms a : Nat} {ty : FieldType} {Q : Option Value → wf_Mem → kSet → Prop} (hd : decode M.2.1 pc = .ok (.areturn, 1)) (hr : M.2.2.2 = some ty) (ht : (∃ n, ty = .object n) ∨ ∃ t, ty = .array t) (hn : n = n1) (hk : k = mc) (hj : j = ms) (h : Q (some (.ref a)) mem set) : Vk (kNm d n1 mc ms Q) M pc lv [.ref a] k j n mem set := by
  subst hn; subst hk; subst hj
  intro G p l e s m args below meth c H locs ls C D Z hz hb S L X
  have hlocks := C.1.2.2.2.2.2.1
  exact W.aret C.1.1 C.1.2.1 (C.1.2.2.1.trans hr) ht (Or.inr ⟨_, rfl⟩) (fun t ht hW => ⟨⟨some (.ref a), mem, set, rfl, h, kWd_end D ht hW⟩, S.F ht⟩) S.2.2 hd hlocks
/-- the caller has room -/
def k_rok (N : kNd) (d k j mc ms : Nat) : Prop := d + 1 ≤ N.1.frames ∧ 40 * d + 40 ≤ N.1.locals ∧ k + mc ≤ N.1.cells ∧ j + ms ≤ N.1.slots
theorem k_back {p : Program} {l : Launch} {e : Env} {R : Room} {s : State} {m : MethodId} {args : Array Value} {below : List Frame} {meth : Method} {c : Code} {H : Heap} {locs : List Loc} {cells slots mc ms n1 : Nat} {Qf : State → Prop} {G : wf_G} {ls : Array Slot} {st0 rest : List Value} {a : Array Value} {Q : Option Value → wf_Mem → kSet → Prop}
    (hr : va_Run p l e R s m args below meth c H locs cells slots mc ms (F0 m pc ls st0) rest (kQc G n1 Q a) (kF G)) (D : kWd G n mem set s H) (S : va_S (kF G) s.heap H locs)
    (kk : ∀ (v : Option Value) (mem' : wf_Mem) (set' : kSet) (H1 : Heap) (locs1 : List Loc), Q v mem' set' → kWd G n1 mem' set' s H1 → va_S (kF G) s.heap H1 locs1 → W p l e R s m args below meth c H1 locs1 (cells + mc) (slots + ms) Qf (F0 m (pc + 3) ls ((v.map (wf_tr G.2.2)).toList ++ rest))) :
    W p l e R s m args below meth c H locs cells slots Qf (F0 m pc ls st0) := by
  intro T hT X
  obtain ⟨v, st₀, t, T', L, h0, X', hL, e1, e2, ⟨⟨v2, mem', set', hv, hq, hw⟩, hz, hk⟩, go⟩ := hr T hT X
  cases hv
  rw [h0] at hz hk
  obtain ⟨t2, a1, b1⟩ := kk v2 mem' set' T'.heap (locs ++ L) hq ⟨D.1, by rw [e1]; exact hw.2.1, hw.2.2⟩
    ⟨Nat.le_trans S.1 (by rw [e1]; exact hz), fun q h1 h2 => by rw [e1, hk q (Nat.lt_of_lt_of_le h1 S.1) h2]; exact S.2.1 q h1 h2, fun q hq => by
      rcases List.mem_append.mp hq with h | h
      · exact S.2.2 q h
      · exact hL q h⟩ T' rfl X'
  exact ⟨t2, go t2 a1, b1⟩
/-- the heap's size at a call -/
theorem k_size {p : Program} {l : Launch} {e : Env} {R : Room} {s : State} {m : MethodId} {args : Array Value} {below : List Frame} {meth : Method} {c : Code} {H : Heap} {locs : List Loc} {G : wf_G} {T : State} (hT : T.heap = H) (X : Stand p l e R s m args below meth c T locs k j) (D : kWd G n mem set s H) (hz : s.heap.size + k = G.2.2 0 + n) (hn : 0 < n) : H.size = G.2.2 0 + n := by
  have h1 := X.heapSize
  rw [hT] at h1
  obtain ⟨d1, d2, d3, d4, -⟩ := D
  have h2 : G.2.2 (n - 1) < H.size := (d2 (n - 1) _ (k_at (by omega))).lt
  rw [d3 (n - 1) (by omega)] at h2
  omega
theorem k_pre {G : wf_G} {s : State} {H : Heap} {As : List Value} (D : kWd G n mem set s H) (Z : kSt s) (hH : H.size = G.2.2 0 + n) : ∀ U : State, U.heap = H → s.WarmedH U.vm → va_Pc (As.map (wf_tr G.2.2)) (kPc G n mem set) (As.map (wf_tr G.2.2)).toArray U :=
  fun U hU hW => ⟨rfl, by rw [hU]; exact hH, kWd_end D hU hW, Z.go hW⟩
/-- a constructor is called (its class's own or another's that may) -/
theorem K_callI {d nA mc ms b idx : Nat} {st0 : List Value} (As : List Value) (hm : wf_MD M' nA) (hi : Cond.instanceMethod M'.1 ∈ gw_tbl) (hname : M'.1.name = "<init>") (hret : M'.2.2.2 = none) (hl : Cond.methodLink M.1.cls idx M'.1 ∈ gw_tbl) (hd : decode M.2.1 pc = .ok (.invokespecial idx, 3)) (hR : k_rok N d k j mc ms) (hn : As.length = nA) (hst : As.reverse ++ .ref b :: st = st0) (hw : (st.map fun v => v.category).sum ≤ 8) (h0 : 0 < n)
    {Q : Option Value → wf_Mem → kSet → Prop} (hC : Kw M' d (.ref b :: As) n mem set mc ms Q) (kk : ∀ v mem' set', Q v mem' set' → Vk N M (pc + 3) lv (v.toList ++ st) (k + mc) (j + ms) (n + mc) mem' set') : Vk N M pc lv st0 k j n mem set := by
  subst hst
  intro G p l e s m args below meth c H locs ls C D Z hz hb S L X T hT XT
  have hH := k_size hT XT D hz h0
  have hk := C.1.2.2.2.2.2.2
  have hMt := hC G l
  have hrun := va_runI (p := p) (e := e) (m := m) (below := below) (meth := meth) (H := H) (locs := locs) (cells := k) (slots := j) (b := G.2.2 b) (As := As.map (wf_tr G.2.2)) (rest := st.map (wf_tr G.2.2)) (g := F0 m pc ls ((As.reverse ++ .ref b :: st).map (wf_tr G.2.2)))
    (Ts := gw_tbl) (own := M.1.cls) (nL := M.2.2.1) (index := idx) (n := nA) ⟨C.1.1, C.1.2.1, C.1.2.2.2.1, C.1.2.2.2.2.1, hk⟩ hMt (bytes := M'.2.1) (maxL := M'.2.2.1) (R := N.1)
    ⟨callB_of nA hk hm.good (by rw [← hret]; rfl) rfl rfl (hk _ hm.2.1) (hk _ hl) hm.2.2.1 ⟨hR.1, by have := hm.2.2.2; have := hR.2.1; show 8 + (M'.2.2.1 + 11) + 40 * d ≤ N.1.locals; omega⟩, hname, hk _ hi⟩
    ⟨k_blind, k_pre (As := .ref b :: As) D Z hH⟩
    rfl (by rw [List.length_map]; exact hn) L.1 (by show (As.reverse ++ .ref b :: st).map (wf_tr G.2.2) = _; rw [List.map_append, List.map_reverse]; rfl) (lv_room (by rw [wf_cat]; exact hw)) hd ⟨hR.2.2.1, hR.2.2.2⟩
  exact k_back (Q := Q) hrun D S (fun v mem' set' H1 locs1 hq D1 S1 => by rw [wf_toList]; exact kk v mem' set' hq G p l e s m args below meth c H1 locs1 ls C D1 Z (by omega) hb S1 L X) T hT XT
/-- the same of a nest mate's private constructor -/
theorem K_callN {d nA mc ms b idx : Nat} {host : String} {st0 : List Value} (As : List Value) (hm : wf_MD M' nA) (hi : Cond.instanceMethod M'.1 ∈ gw_tbl) (hname : M'.1.name = "<init>") (hret : M'.2.2.2 = none) (hl : Cond.methodLinkNest M.1.cls idx M'.1 host ∈ k_nest) (hd : decode M.2.1 pc = .ok (.invokespecial idx, 3)) (hR : k_rok N d k j mc ms) (hn : As.length = nA) (hst : As.reverse ++ .ref b :: st = st0) (hw : (st.map fun v => v.category).sum ≤ 8) (h0 : 0 < n)
    {Q : Option Value → wf_Mem → kSet → Prop} (hC : Kw M' d (.ref b :: As) n mem set mc ms Q) (kk : ∀ v mem' set', Q v mem' set' → Vk N M (pc + 3) lv (v.toList ++ st) (k + mc) (j + ms) (n + mc) mem' set') : Vk N M pc lv st0 k j n mem set := by
  subst hst
  intro G p l e s m args below meth c H locs ls C D Z hz hb S L X T hT XT
  have hH := k_size hT XT D hz h0
  have hk := C.1.2.2.2.2.2.2
  have hMt := hC G l
  have hrun := va_runIN (p := p) (e := e) (m := m) (below := below) (meth := meth) (H := H) (locs := locs) (cells := k) (slots := j) (b := G.2.2 b) (As := As.map (wf_tr G.2.2)) (rest := st.map (wf_tr G.2.2)) (g := F0 m pc ls ((As.reverse ++ .ref b :: st).map (wf_tr G.2.2)))
    (Ts := gw_tbl) (own := M.1.cls) (nL := M.2.2.1) (index := idx) (n := nA) (host := host) ⟨C.1.1, C.1.2.1, C.1.2.2.2.1, C.1.2.2.2.2.1, hk⟩ hMt (bytes := M'.2.1) (maxL := M'.2.2.1) (R := N.1)
    ⟨va_cnB nA hk hm.good (by rw [← hret]; rfl) rfl rfl (Z.1 _ hl) (hk _ hm.2.1) hm.2.2.1 ⟨hR.1, by have := hm.2.2.2; have := hR.2.1; show 8 + (M'.2.2.1 + 11) + 40 * d ≤ N.1.locals; omega⟩, hname, hk _ hi⟩
    ⟨k_blind, k_pre (As := .ref b :: As) D Z hH⟩
    rfl (by rw [List.length_map]; exact hn) L.1 (by show (As.reverse ++ .ref b :: st).map (wf_tr G.2.2) = _; rw [List.map_append, List.map_reverse]; rfl) (lv_room (by rw [wf_cat]; exact hw)) hd ⟨hR.2.2.1, hR.2.2.2⟩
  exact k_back (Q := Q) hrun D S (fun v mem' set' H1 locs1 hq D1 S1 => by rw [wf_toList]; exact kk v mem' set' hq G p l e s m args below meth c H1 locs1 ls C D1 Z (by omega) hb S1 L X) T hT XT
theorem K_callS {d nA mc ms idx : Nat} {st0 : List Value} (As : List Value) (hm : wf_MS M' nA) (hl : Cond.methodLink M.1.cls idx M'.1 ∈ gw_tbl) (hd : decode M.2.1 pc = .ok (.invokestatic idx, 3)) (hR : k_rok N d k j mc ms) (hn : As.length = nA) (hst : As.reverse ++ st = st0) (hw : (st.map fun v => v.category).sum ≤ 8) (h0 : 0 < n)
    {Q : Option Value → wf_Mem → kSet → Prop} (hC : Kw M' d As n mem set mc ms Q) (kk : ∀ v mem' set', Q v mem' set' → Vk N M (pc + 3) lv (v.toList ++ st) (k + mc) (j + ms) (n + mc) mem' set') : Vk N M pc lv st0 k j n mem set := by
  subst hst
  intro G p l e s m args below meth c H locs ls C D Z hz hb S L X T hT XT
  have hH := k_size hT XT D hz h0
  have hk := C.1.2.2.2.2.2.2
  have hMt := hC G l
  have hrun := va_runS (p := p) (e := e) (m := m) (below := below) (meth := meth) (H := H) (locs := locs) (cells := k) (slots := j) (As := As.map (wf_tr G.2.2)) (rest := st.map (wf_tr G.2.2)) (g := F0 m pc ls ((As.reverse ++ st).map (wf_tr G.2.2)))
    (Ts := gw_tbl) (own := M.1.cls) (nL := M.2.2.1) (index := idx) (n := nA) ⟨C.1.1, C.1.2.1, C.1.2.2.2.1, C.1.2.2.2.2.1, hk⟩ hMt (bytes := M'.2.1) (maxL := M'.2.2.1) (ret := M'.2.2.2) (R := N.1)
    ⟨callB_of nA hk hm.1.good rfl rfl rfl (hk _ hm.1.2.1) (hk _ hl) hm.1.2.2.1 ⟨hR.1, by have := hm.1.2.2.2; have := hR.2.1; show 8 + (M'.2.2.1 + 11) + 40 * d ≤ N.1.locals; omega⟩, hk _ hm.2⟩
    ⟨k_blind, k_pre (As := As) D Z hH⟩
    rfl (by rw [List.length_map]; exact hn) L.1 (by show (As.reverse ++ st).map (wf_tr G.2.2) = _; rw [List.map_append, List.map_reverse]) (lv_room (by rw [wf_cat]; exact hw)) hd ⟨hR.2.2.1, hR.2.2.2⟩
  exact k_back (Q := Q) hrun D S (fun v mem' set' H1 locs1 hq D1 S1 => by rw [wf_toList]; exact kk v mem' set' hq G p l e s m args below meth c H1 locs1 ls C D1 Z (by omega) hb S1 L X) T hT XT
end KC
