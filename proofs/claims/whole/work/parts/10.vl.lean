/-! locals -/
def wf_ins (i : Nat) (v : Value) : List (Nat × Value) → List (Nat × Value)
  | [] => [(i, v)]
  | q :: l => if i < q.1 then (i, v) :: q :: l else q :: wf_ins i v l
def wf_put (lv : List (Nat × Value)) (i : Nat) (v : Value) : List (Nat × Value) := wf_ins i v (lv.filter (fun q => !(q.1 == i)))
theorem wf_ins_mem {i : Nat} {v : Value} : ∀ {l : List (Nat × Value)} {q : Nat × Value}, q ∈ wf_ins i v l → q = (i, v) ∨ q ∈ l
  | [], q, h => by
    rw [wf_ins, List.mem_singleton] at h
    exact Or.inl h
  | r :: l, q, h => by
    rw [wf_ins] at h
    split at h
    · rcases List.mem_cons.mp h with h | h
      · exact Or.inl h
      · exact Or.inr h
    · rcases List.mem_cons.mp h with h | h
      · exact Or.inr (by rw [h]; exact List.mem_cons_self)
      · rcases wf_ins_mem h with h | h
        · exact Or.inl h
        · exact Or.inr (List.mem_cons_of_mem _ h)
/-- only values of one slot among the locals -/
def wf_one (lv : List (Nat × Value)) : Bool := lv.all (fun q => q.2.category == 1)
theorem wf_put_has {G : wf_G} {ls : Array Slot} {nL i : Nat} {v : Value} {lv lv' : List (Nat × Value)} (h1 : wf_one lv = true) (hl : wf_put lv i v = lv')
    (h : lv_has ls nL ((i, wf_tr G.2.2 v) :: (wf_lv G lv).filter (fun q => !(q.1 == i) && !(q.1 + 1 == i && q.2.category == 2)))) : lv_has ls nL (wf_lv G lv') := by
  refine ⟨h.1, h.2.1, fun q hq => h.2.2 q ?_⟩
  rw [← hl] at hq
  obtain ⟨r, hr, rfl⟩ := List.mem_map.mp hq
  rcases wf_ins_mem hr with rfl | hr
  · exact List.mem_cons_self
  · obtain ⟨hr1, hr2⟩ := List.mem_filter.mp hr
    refine List.mem_cons_of_mem _ (List.mem_filter.mpr ⟨List.mem_map.mpr ⟨r, hr1, rfl⟩, ?_⟩)
    have h2 := List.all_eq_true.mp h1 r hr1
    simp only [beq_iff_eq] at h2
    simp only [wf_tr_cat, h2]
    simpa using hr2
section WFL
variable {N : wf_Nd} {M : wf_M} {pc : Nat} {lv lv' : List (Nat × Value)} {st : List Value} {mem : wf_Mem}
theorem wf_lv_at {G : wf_G} {ls : Array Slot} {nL j i : Nat} {v : Value} (L : lv_has ls nL (wf_lv G lv)) (hl : lv[j]? = some (i, v)) : ls[i]? = some (.val (wf_tr G.2.2 v)) :=
  lv_at L j (by rw [wf_lv, List.getElem?_map, hl]; rfl)
theorem V_iload_n {k : Fin 4} (j : Nat) {x : Int32} (hd : decode M.2.1 pc = .ok (.iload_n k, 1)) (hl : lv[j]? = some ((k : Nat), .int x)) (kk : Vw N M (pc + 1) lv (.int x :: st) mem) : Vw N M pc lv st mem := by
  intro G p l e s m args below meth c H locs ls C D Z S L X
  exact lv_iload_n C.1 C.2.1 hd rfl (wf_lv_at L hl) (kk G p l e s m args below meth c H locs ls C D Z S L X)
theorem V_iload {i : Nat} (j : Nat) {x : Int32} (hd : decode M.2.1 pc = .ok (.iload i, 2)) (hl : lv[j]? = some (i, .int x)) (kk : Vw N M (pc + 2) lv (.int x :: st) mem) : Vw N M pc lv st mem := by
  intro G p l e s m args below meth c H locs ls C D Z S L X
  exact lv_iload C.1 C.2.1 hd (wf_lv_at L hl) (kk G p l e s m args below meth c H locs ls C D Z S L X)
theorem V_lload_n {k : Fin 4} (j : Nat) {x : Int64} (hd : decode M.2.1 pc = .ok (.lload_n k, 1)) (hl : lv[j]? = some ((k : Nat), .long x)) (kk : Vw N M (pc + 1) lv (.long x :: st) mem) : Vw N M pc lv st mem := by
  intro G p l e s m args below meth c H locs ls C D Z S L X
  exact lv_lload_n C.1 C.2.1 hd rfl (wf_lv_at L hl) (kk G p l e s m args below meth c H locs ls C D Z S L X)
theorem V_lload {i : Nat} (j : Nat) {x : Int64} (hd : decode M.2.1 pc = .ok (.lload i, 2)) (hl : lv[j]? = some (i, .long x)) (kk : Vw N M (pc + 2) lv (.long x :: st) mem) : Vw N M pc lv st mem := by
  intro G p l e s m args below meth c H locs ls C D Z S L X
  exact lv_lload C.1 C.2.1 hd (wf_lv_at L hl) (kk G p l e s m args below meth c H locs ls C D Z S L X)
theorem V_aload_n {k : Fin 4} (j : Nat) {a : Nat} (hd : decode M.2.1 pc = .ok (.aload_n k, 1)) (hl : lv[j]? = some ((k : Nat), .ref a)) (kk : Vw N M (pc + 1) lv (.ref a :: st) mem) : Vw N M pc lv st mem := by
  intro G p l e s m args below meth c H locs ls C D Z S L X
  exact lv_aload_n C.1 C.2.1 hd rfl (wf_lv_at L hl) (kk G p l e s m args below meth c H locs ls C D Z S L X)
theorem V_aload {i : Nat} (j : Nat) {a : Nat} (hd : decode M.2.1 pc = .ok (.aload i, 2)) (hl : lv[j]? = some (i, .ref a)) (kk : Vw N M (pc + 2) lv (.ref a :: st) mem) : Vw N M pc lv st mem := by
  intro G p l e s m args below meth c H locs ls C D Z S L X
  exact lv_aload C.1 C.2.1 hd (wf_lv_at L hl) (kk G p l e s m args below meth c H locs ls C D Z S L X)
theorem V_istore_n {k : Fin 4} {x : Int32} (hd : decode M.2.1 pc = .ok (.istore_n k, 1)) (hn : (k : Nat) < M.2.2.1) (h1 : wf_one lv = true) (hl : wf_put lv (k : Nat) (.int x) = lv') (kk : Vw N M (pc + 1) lv' st mem) : Vw N M pc lv (.int x :: st) mem := by
  intro G p l e s m args below meth c H locs ls C D Z S L X
  exact lv_istore_n C.1 C.2.1 hd rfl L hn rfl (fun ls L => kk G p l e s m args below meth c H locs ls C D Z S (wf_put_has h1 hl L) X)
theorem V_istore {i : Nat} {x : Int32} (hd : decode M.2.1 pc = .ok (.istore i, 2)) (hn : i < M.2.2.1) (h1 : wf_one lv = true) (hl : wf_put lv i (.int x) = lv') (kk : Vw N M (pc + 2) lv' st mem) : Vw N M pc lv (.int x :: st) mem := by
  intro G p l e s m args below meth c H locs ls C D Z S L X
  exact lv_istore C.1 C.2.1 hd L hn rfl (fun ls L => kk G p l e s m args below meth c H locs ls C D Z S (wf_put_has h1 hl L) X)
theorem V_astore_n {k : Fin 4} {x : Nat} (hd : decode M.2.1 pc = .ok (.astore_n k, 1)) (hn : (k : Nat) < M.2.2.1) (h1 : wf_one lv = true) (hl : wf_put lv (k : Nat) (.ref x) = lv') (kk : Vw N M (pc + 1) lv' st mem) : Vw N M pc lv (.ref x :: st) mem := by
  intro G p l e s m args below meth c H locs ls C D Z S L X
  exact lv_astore_n C.1 C.2.1 hd rfl L hn rfl (fun ls L => kk G p l e s m args below meth c H locs ls C D Z S (wf_put_has (v := .ref x) h1 hl L) X)
theorem V_astore {i : Nat} {x : Nat} (hd : decode M.2.1 pc = .ok (.astore i, 2)) (hn : i < M.2.2.1) (h1 : wf_one lv = true) (hl : wf_put lv i (.ref x) = lv') (kk : Vw N M (pc + 2) lv' st mem) : Vw N M pc lv (.ref x :: st) mem := by
  intro G p l e s m args below meth c H locs ls C D Z S L X
  exact lv_astore C.1 C.2.1 hd L hn rfl (fun ls L => kk G p l e s m args below meth c H locs ls C D Z S (wf_put_has (v := .ref x) h1 hl L) X)
theorem V_iinc {i : Nat} (j : Nat) {n : Int} {x v : Int32} (hd : decode M.2.1 pc = .ok (.iinc i n, 3)) (hj : lv[j]? = some (i, .int x)) (hv : x + Int32.ofInt n = v) (hn : i < M.2.2.1) (h1 : wf_one lv = true) (hl : wf_put lv i (.int v) = lv') (kk : Vw N M (pc + 3) lv' st mem) : Vw N M pc lv st mem := by
  intro G p l e s m args below meth c H locs ls C D Z S L X
  exact lv_iinc C.1 C.2.1 hd L (k := j) (by rw [wf_lv, List.getElem?_map, hj]; rfl) hv hn rfl (fun ls L => kk G p l e s m args below meth c H locs ls C D Z S (wf_put_has (v := .int v) h1 hl L) X)
/-- fewer locals -/
theorem V_sub (ks : List Nat) (hl : lv_pick lv ks = lv') (kk : Vw N M pc lv' st mem) : Vw N M pc lv st mem := by
  intro G p l e s m args below meth c H locs ls C D Z S L X
  refine kk G p l e s m args below meth c H locs ls C D Z S ?_ X
  refine ⟨L.1, L.2.1, fun q hq => L.2.2 q ?_⟩
  rw [← hl] at hq
  obtain ⟨r, hr, rfl⟩ := List.mem_map.mp hq
  obtain ⟨i, -, hi⟩ := List.mem_filterMap.mp hr
  exact List.mem_map.mpr ⟨r, List.mem_of_getElem? hi, rfl⟩
theorem V_topi {x : Int32} (kk : ∀ y : Int32, y = x → Vw N M pc lv (.int y :: st) mem) : Vw N M pc lv (.int x :: st) mem := kk x rfl
/-- constants of the pool -/
theorem V_ldc {idx : Nat} {v : Int32} (hw : Cond.constant M.1.cls idx v ∈ gw_tbl) (hd : decode M.2.1 pc = .ok (.ldc idx, 2)) (kk : Vw N M (pc + 2) lv (.int v :: st) mem) : Vw N M pc lv st mem := by
  intro G p l e s m args below meth c H locs ls C D Z S L X
  exact lv_ldc C.1 C.2.1 C.2.2.2.2.1 (C.2.2.2.2.2.2 _ hw) hd (kk G p l e s m args below meth c H locs ls C D Z S L X)
theorem V_ldcw {idx : Nat} {v : Int32} (hw : Cond.constant M.1.cls idx v ∈ gw_tbl) (hd : decode M.2.1 pc = .ok (.ldc_w idx, 3)) (kk : Vw N M (pc + 3) lv (.int v :: st) mem) : Vw N M pc lv st mem := by
  intro G p l e s m args below meth c H locs ls C D Z S L X
  exact lv_ldcw C.1 C.2.1 C.2.2.2.2.1 (C.2.2.2.2.2.2 _ hw) hd (kk G p l e s m args below meth c H locs ls C D Z S L X)
theorem V_ldc2 {idx : Nat} {v : Int64} (hw : Cond.constantLong M.1.cls idx v ∈ gw_tbl) (hd : decode M.2.1 pc = .ok (.ldc2_w idx, 3)) (kk : Vw N M (pc + 3) lv (.long v :: st) mem) : Vw N M pc lv st mem := by
  intro G p l e s m args below meth c H locs ls C D Z S L X
  exact lv_ldc2 C.1 C.2.1 C.2.2.2.2.1 (C.2.2.2.2.2.2 _ hw) hd (kk G p l e s m args below meth c H locs ls C D Z S L X)
/-- switches: by the number of the case -/
def wf_tsw (dflt lo : Int) (offs : Array Int) (x : Int) : Int := if x < lo then dflt else offs.getD (x - lo).toNat dflt
theorem V_tsw {dflt lo hi : Int} {offs : Array Int} {len : Nat} {x : Int32} (hd : decode M.2.1 pc = .ok (.tableswitch dflt lo hi offs, len)) (hs : (offs.size : Int) = hi - lo + 1)
    (kk : ∀ tgt : Nat, (pc : Int) + wf_tsw dflt lo offs x.toInt = (tgt : Int) → Vw N M tgt lv st mem) (ht : ∃ tgt : Nat, (pc : Int) + wf_tsw dflt lo offs x.toInt = (tgt : Int)) : Vw N M pc lv (.int x :: st) mem := by
  obtain ⟨tgt, ht⟩ := ht
  have k2 := kk tgt ht
  intro G p l e s m args below meth c H locs ls C D Z S L X
  by_cases h1 : x.toInt < lo
  · exact lv_tableOut C.1 C.2.1 hd (Or.inl h1) (by rw [wf_tsw, if_pos h1] at ht; exact ht) (k2 G p l e s m args below meth c H locs ls C D Z S L X)
  · rw [wf_tsw, if_neg h1] at ht
    by_cases h2 : hi < x.toInt
    · refine lv_tableOut C.1 C.2.1 hd (Or.inr h2) ?_ (k2 G p l e s m args below meth c H locs ls C D Z S L X)
      rw [Array.getD_eq_getD_getElem?, Array.getElem?_eq_none (by omega)] at ht
      exact ht
    · have hlt : (x.toInt - lo).toNat < offs.size := by omega
      refine lv_tableIn C.1 C.2.1 hd h1 h2 (off := offs.getD (x.toInt - lo).toNat dflt) ?_ ht (k2 G p l e s m args below meth c H locs ls C D Z S L X)
      rw [Array.getD_eq_getD_getElem?, Array.getElem?_eq_getElem hlt]
      rfl
theorem V_lsw {dflt : Int} {ps : Array (Int × Int)} {len : Nat} {x : Int32} (hd : decode M.2.1 pc = .ok (.lookupswitch dflt ps, len)) (hp : (ps.toList.zip (ps.toList.drop 1)).all (fun (a, next) => a.1 < next.1) = true)
    (kk : ∀ tgt : Nat, (pc : Int) + Op.lookupswitch.offset ps.toList dflt x.toInt = (tgt : Int) → Vw N M tgt lv st mem) (ht : ∃ tgt : Nat, (pc : Int) + Op.lookupswitch.offset ps.toList dflt x.toInt = (tgt : Int)) : Vw N M pc lv (.int x :: st) mem := by
  obtain ⟨tgt, ht⟩ := ht
  have k2 := kk tgt ht
  intro G p l e s m args below meth c H locs ls C D Z S L X
  exact lv_lookup C.1 C.2.1 hd hp rfl ht (k2 G p l e s m args below meth c H locs ls C D Z S L X)
end WFL
