/-! CONSTRUCTION: the first n cells of the layout stand; mem has the ints (0 where nothing was put); set says which references are put. Addresses: cell a lies at G.2.2 0 + a -/
abbrev kSet : Type := Nat → Nat → Bool
def k_on (g : kSet) (a k : Nat) : kSet := fun b j => if b = a ∧ j = k then true else g b j
theorem k_on_other (g : kSet) (a k : Nat) {b : Nat} (h : b ≠ a) : k_on g a k b = g b := by
  funext j
  simp [k_on, h]
def wf_vk (f : Nat → Int32) (g : Nat → Bool) (ci a k : Nat) : Value := match wf_rfl ci a k with
  | some b => if g k = true then .ref b else .null
  | none => .int (f k)
def wf_K (G : wf_G) (f : Nat → Int32) (g : Nat → Bool) (a : Nat) : va_E :=
  if (wf_sh a).1 < 10 then .inr ((wf_sh a).1, (List.range (wf_N (wf_sh a).1)).map (fun k => wf_tr G.2.2 (wf_vk f g (wf_sh a).1 a k)))
  else if (wf_sh a).1 = 20 then .inl (G.2.1 20, (wf_sh a).2, .inl f)
  else .inl (G.2.1 (wf_sh a).1, (wf_sh a).2, .inr (.inr (.inr (.inr (fun i => if g i = true then some (G.2.2 (wf_el (wf_sh a).1 a i)) else none)))))
def wf_kw (G : wf_G) (n : Nat) (m : wf_Mem) (g : kSet) : va_W := (List.range n).map (fun a => (G.2.2 a, wf_K G (m a) (g a) a))
theorem k_at {G : wf_G} {n a : Nat} {m : wf_Mem} {g : kSet} (ha : a < n) : (wf_kw G n m g)[a]? = some (G.2.2 a, wf_K G (m a) (g a) a) := by simp [wf_kw, ha]
theorem k_len (G : wf_G) (n : Nat) (m : wf_Mem) (g : kSet) : (wf_kw G n m g).length = n := by simp [wf_kw]
theorem k_setE {G : wf_G} {n a : Nat} {m m' : wf_Mem} {g g' : kSet} {e : va_E} (ha : a < n) (he : e = wf_K G (m' a) (g' a) a) (h1 : ∀ b, b ≠ a → m' b = m b) (h2 : ∀ b, b ≠ a → g' b = g b) : (wf_kw G n m g).set a (G.2.2 a, e) = wf_kw G n m' g' := by
  subst he
  apply List.ext_getElem?
  intro j
  rcases Nat.lt_or_ge j n with hj | hj
  · rw [k_at hj]
    by_cases h : j = a
    · subst h
      rw [List.getElem?_set_self (by rw [k_len]; exact hj)]
    · rw [List.getElem?_set_ne (Ne.symm h), k_at hj, h1 j h, h2 j h]
  · rw [List.getElem?_eq_none (by rw [List.length_set, k_len]; exact hj), List.getElem?_eq_none (by rw [k_len]; exact hj)]
theorem k_push (G : wf_G) (n : Nat) (m : wf_Mem) (g : kSet) : wf_kw G n m g ++ [(G.2.2 n, wf_K G (m n) (g n) n)] = wf_kw G (n + 1) m g := by simp [wf_kw, List.range_succ]
def kF (G : wf_G) : Nat → Prop := fun q => G.2.2 0 ≤ q
theorem kD {G : wf_G} {n : Nat} {m : wf_Mem} {g : kSet} (hadr : ∀ a, a < 139 → G.2.2 a = G.2.2 0 + a) (hn : n ≤ 139) : va_D (kF G) (wf_kw G n m g) := by
  have lt : ∀ {i : Nat} {q : Nat × va_E}, (wf_kw G n m g)[i]? = some q → i < n := fun {i} {q} h => by
    have := (List.getElem?_eq_some_iff.mp h).1
    rw [k_len] at this
    exact this
  refine ⟨fun i j x y h1 h2 e => ?_, fun k q h => ?_⟩
  · have a1 := lt h1
    have a2 := lt h2
    rw [k_at a1] at h1
    rw [k_at a2] at h2
    cases h1
    cases h2
    have e' : G.2.2 i = G.2.2 j := e
    rw [hadr i (by omega), hadr j (by omega)] at e'
    omega
  · have a1 := lt h
    rw [k_at a1] at h
    cases h
    show G.2.2 0 ≤ G.2.2 k
    rw [hadr k (by omega)]
    omega
theorem wf_K_obj {G : wf_G} {f : Nat → Int32} {g : Nat → Bool} {a ci n : Nat} (hs : wf_sh a = (ci, n)) (hc : ci < 10) : wf_K G f g a = .inr (ci, (List.range (wf_N ci)).map (fun k => wf_tr G.2.2 (wf_vk f g ci a k))) := by
  unfold wf_K
  simp [hs, hc]
theorem wf_K_int {G : wf_G} {f : Nat → Int32} {g : Nat → Bool} {a n : Nat} (hs : wf_sh a = (20, n)) : wf_K G f g a = .inl (G.2.1 20, n, .inl f) := by
  unfold wf_K
  simp [hs]
theorem wf_K_row {G : wf_G} {f : Nat → Int32} {g : Nat → Bool} {a kd n : Nat} (hs : wf_sh a = (kd, n)) (h : 20 < kd) : wf_K G f g a = .inl (G.2.1 kd, n, .inr (.inr (.inr (.inr (fun i => if g i = true then some (G.2.2 (wf_el kd a i)) else none))))) := by
  unfold wf_K
  have h1 : ¬ kd < 10 := by omega
  have h2 : ¬ kd = 20 := by omega
  simp [hs, h1, h2]
theorem map_set {N k : Nat} {F F' : Nat → Value} {v : Value} (h1 : F' k = v) (h2 : ∀ j, j ≠ k → F' j = F j) : ((List.range N).map F).set k v = (List.range N).map F' := by
  apply List.ext_getElem?
  intro j
  by_cases hj : j = k
  · subst hj
    rw [List.getElem?_set]
    simp only [List.length_map, List.length_range, if_true, List.getElem?_map]
    by_cases hl : j < N
    · rw [if_pos hl, List.getElem?_range hl, ← h1]
      rfl
    · rw [if_neg hl, List.getElem?_eq_none (by simp; omega)]
      rfl
  · rw [List.getElem?_set_ne (Ne.symm hj), List.getElem?_map, List.getElem?_map]
    by_cases hl : j < N
    · rw [List.getElem?_range hl]
      simp only [Option.map_some, h2 j hj]
    · rw [List.getElem?_eq_none (by simp; omega)]
      rfl
theorem k_setI {G : wf_G} {m : wf_Mem} {g : kSet} {a ci k n : Nat} {x : Int32} (hs : wf_sh a = (ci, n)) (hc : ci < 10) (hi : wf_rfl ci a k = none) :
    (Sum.inr (ci, ((List.range (wf_N ci)).map (fun k => wf_tr G.2.2 (wf_vk (m a) (g a) ci a k))).set k (.int x)) : va_E) = wf_K G (wf_ms m a k x a) (g a) a := by
  rw [wf_K_obj hs hc]
  congr 2
  refine map_set ?_ (fun j hj => ?_)
  · unfold wf_vk; rw [hi]; simp [wf_tr, wf_ms]
  · unfold wf_vk
    split
    · rfl
    · simp [wf_ms, hj]
theorem k_setR {G : wf_G} {m : wf_Mem} {g : kSet} {a ci k n b : Nat} (hs : wf_sh a = (ci, n)) (hc : ci < 10) (hi : wf_rfl ci a k = some b) :
    (Sum.inr (ci, ((List.range (wf_N ci)).map (fun k => wf_tr G.2.2 (wf_vk (m a) (g a) ci a k))).set k (.ref (G.2.2 b))) : va_E) = wf_K G (m a) (k_on g a k a) a := by
  rw [wf_K_obj hs hc]
  congr 2
  refine map_set ?_ (fun j hj => ?_)
  · unfold wf_vk; rw [hi]; simp [wf_tr, k_on]
  · unfold wf_vk
    split
    · simp [k_on, hj]
    · rfl
def k_nest : List Cond := [.methodLinkNest RX8 9 yX1_init RX8, .methodLinkNest RX8 18 yX6_init RX8, .methodLinkNest RX0 11 yX3_init RX8, .methodLinkNest RX0 73 yX7_init RX8, .methodLinkNest RX8 70 yX4_init RX8, .methodLinkNest RX8 71 yX5_init RX8, .methodLinkNest RX5 20 yX7_init RX8, .methodLinkNest RX5 27 yX4_init RX8]
def kSt (U : State) : Prop := (∀ w ∈ k_nest, va_Nw w U) ∧ (va_AO RX2 U ∧ va_AO RX7 U ∧ va_AO RX4 U ∧ va_AO RX5 U)
theorem kSt.go {s U : State} (h : kSt s) (hW : s.WarmedH U.vm) : kSt U := by
  obtain ⟨h1, h2, h3, h4, h5⟩ := h
  refine ⟨fun w hw => ?_, h2.moved hW.alike, h3.moved hW.alike, h4.moved hW.alike, h5.moved hW.alike⟩
  have g := h1 w hw
  simp only [k_nest, List.mem_cons, List.not_mem_nil, or_false] at hw
  rcases hw with rfl | rfl | rfl | rfl | rfl | rfl | rfl | rfl <;> exact va_Nw.warmM hW g
theorem kSt.ao {s : State} (h : kSt s) {kd : Nat} (h1 : 20 < kd) (h2 : kd < 25) : va_AO (wf_ty kd) s := by
  rcases (show kd = 21 ∨ kd = 22 ∨ kd = 23 ∨ kd = 24 by omega) with rfl | rfl | rfl | rfl
  · exact h.2.1
  · exact h.2.2.1
  · exact h.2.2.2.1
  · exact h.2.2.2.2
def kWd (G : wf_G) (n : Nat) (mem : wf_Mem) (set : kSet) (s : State) (H : Heap) : Prop :=
  va_K G.1 vwCl (wf_tys G) s ∧ va_P G.1 vwCl (wf_kw G n mem set) H ∧ (∀ a, a < 139 → G.2.2 a = G.2.2 0 + a) ∧ n ≤ 139 ∧ (∀ b, n ≤ b → mem b = fun _ => 0) ∧ (∀ b, n ≤ b → set b = fun _ => false)
def kcx (M : wf_M) (p : Program) (s : State) (m : MethodId) (args : Array Value) (meth : Method) (c : Code) : Prop := wf_cx M p s m args meth c ∧ (M.1.name = "<init>" → meth.name = "<init>")
abbrev kNd : Type := Room × (wf_G → State → Array Value → Prop) × (wf_G → List Frame → Array Value → State → State → Prop)
def Vk (N : kNd) (M : wf_M) (pc : Nat) (lv : List (Nat × Value)) (st : List Value) (k j n : Nat) (mem : wf_Mem) (set : kSet) : Prop :=
  ∀ (G : wf_G) (p : Program) (l : Launch) (e : Env) (s : State) (m : MethodId) (args : Array Value) (below : List Frame) (meth : Method) (c : Code) (H : Heap) (locs : List Loc) (ls : Array Slot),
    kcx M p s m args meth c → kWd G n mem set s H → kSt s → s.heap.size + k = G.2.2 0 + n → G.2.2 0 ≤ s.heap.size → va_S (kF G) s.heap H locs → lv_has ls M.2.2.1 (wf_lv G lv) → N.2.1 G s args →
    W p l e N.1 s m args below meth c H locs k j (N.2.2 G below args s) (F0 m pc ls (st.map (wf_tr G.2.2)))
section KA
variable {N : kNd} {M : wf_M} {pc k j n : Nat} {lv lv' : List (Nat × Value)} {st : List Value} {mem : wf_Mem} {set : kSet}
theorem k_stp {pc' : Nat} {st' : List Value} (h : ∀ (ad : Nat → Nat) (p : Program) (l : Launch) (e : Env) (R : Room) (s : State) (m : MethodId) (args : Array Value) (below : List Frame) (meth : Method) (c : Code) (H : Heap) (locs : List Loc) (cells slots : Nat) (Q : State → Prop) (ls : Array Slot), p.tables.exec = Jvm.exec → c.code = M.2.1 → W p l e R s m args below meth c H locs cells slots Q (F0 m pc' ls (st'.map (wf_tr ad))) → W p l e R s m args below meth c H locs cells slots Q (F0 m pc ls (st.map (wf_tr ad))))
    (kk : Vk N M pc' lv st' k j n mem set) : Vk N M pc lv st k j n mem set := by
  intro G p l e s m args below meth c H locs ls C D Z hz hb S L X
  exact h _ p l e _ s m args below meth c H locs _ _ _ ls C.1.1 C.1.2.1 (kk G p l e s m args below meth c H locs ls C D Z hz hb S L X)
theorem K_iconst {i : Int} {v : Int32} (hd : decode M.2.1 pc = .ok (.iconst i, 1)) (hv : Int32.ofInt i = v) (kk : Vk N M (pc + 1) lv (.int v :: st) k j n mem set) : Vk N M pc lv st k j n mem set := k_stp (fun _ _ _ _ _ _ _ _ _ _ _ _ _ _ _ _ _ hx hb k => lv_iconst hx hb hd hv k) kk
theorem K_bipush {i : Int} {v : Int32} (hd : decode M.2.1 pc = .ok (.bipush i, 2)) (hv : (Int8.ofInt i).toInt32 = v) (kk : Vk N M (pc + 2) lv (.int v :: st) k j n mem set) : Vk N M pc lv st k j n mem set := k_stp (fun _ _ _ _ _ _ _ _ _ _ _ _ _ _ _ _ _ hx hb k => lv_bipush hx hb hd hv k) kk
theorem K_sipush {i : Int} {v : Int32} (hd : decode M.2.1 pc = .ok (.sipush i, 3)) (hv : (Int16.ofInt i).toInt32 = v) (kk : Vk N M (pc + 3) lv (.int v :: st) k j n mem set) : Vk N M pc lv st k j n mem set := k_stp (fun _ _ _ _ _ _ _ _ _ _ _ _ _ _ _ _ _ hx hb k => lv_sipush hx hb hd hv k) kk
theorem K_dup {v : Value} (hd : decode M.2.1 pc = .ok (.dup, 1)) (hv : v.category = 1) (kk : Vk N M (pc + 1) lv (v :: v :: st) k j n mem set) : Vk N M pc lv (v :: st) k j n mem set := k_stp (fun _ _ _ _ _ _ _ _ _ _ _ _ _ _ _ _ _ hx hb k => lv_dup hx hb hd (by rw [wf_tr_cat]; exact hv) k) kk
theorem K_goto {off : Int} {tgt : Nat} (hd : decode M.2.1 pc = .ok (.goto off, 3)) (ht : (pc : Int) + off = (tgt : Int)) (kk : Vk N M tgt lv st k j n mem set) : Vk N M pc lv st k j n mem set := k_stp (fun _ _ _ _ _ _ _ _ _ _ _ _ _ _ _ _ _ hx hb k => lv_goto hx hb hd ht k) kk
theorem K_icmp_ge {x y : Int32} {off : Int} {tgt : Nat} (hd : decode M.2.1 pc = .ok (.if_icmp .ge off, 3)) (ht : (pc : Int) + off = (tgt : Int)) (kk : (y ≤ x → Vk N M tgt lv st k j n mem set) ∧ (¬ y ≤ x → Vk N M (pc + 3) lv st k j n mem set)) : Vk N M pc lv (.int y :: .int x :: st) k j n mem set := by
  intro G p l e s m args below meth c H locs ls C D Z hz hb S L X
  exact lv_icmp_ge C.1.1 C.1.2.1 hd ht (fun a => kk.1 a G p l e s m args below meth c H locs ls C D Z hz hb S L X) (fun a => kk.2 a G p l e s m args below meth c H locs ls C D Z hz hb S L X)
theorem K_iload_n {i : Fin 4} (q : Nat) {x : Int32} (hd : decode M.2.1 pc = .ok (.iload_n i, 1)) (hl : lv[q]? = some ((i : Nat), .int x)) (kk : Vk N M (pc + 1) lv (.int x :: st) k j n mem set) : Vk N M pc lv st k j n mem set := by
  intro G p l e s m args below meth c H locs ls C D Z hz hb S L X
  exact lv_iload_n C.1.1 C.1.2.1 hd rfl (wf_lv_at L hl) (kk G p l e s m args below meth c H locs ls C D Z hz hb S L X)
theorem K_aload_n {i : Fin 4} (q : Nat) {a : Nat} (hd : decode M.2.1 pc = .ok (.aload_n i, 1)) (hl : lv[q]? = some ((i : Nat), .ref a)) (kk : Vk N M (pc + 1) lv (.ref a :: st) k j n mem set) : Vk N M pc lv st k j n mem set := by
  intro G p l e s m args below meth c H locs ls C D Z hz hb S L X
  exact lv_aload_n C.1.1 C.1.2.1 hd rfl (wf_lv_at L hl) (kk G p l e s m args below meth c H locs ls C D Z hz hb S L X)
theorem K_istore_n {i : Fin 4} {x : Int32} (hd : decode M.2.1 pc = .ok (.istore_n i, 1)) (hn : (i : Nat) < M.2.2.1) (h1 : wf_one lv = true) (hl : wf_put lv (i : Nat) (.int x) = lv') (kk : Vk N M (pc + 1) lv' st k j n mem set) : Vk N M pc lv (.int x :: st) k j n mem set := by
  intro G p l e s m args below meth c H locs ls C D Z hz hb S L X
  exact lv_istore_n C.1.1 C.1.2.1 hd rfl L hn rfl (fun ls L => kk G p l e s m args below meth c H locs ls C D Z hz hb S (wf_put_has h1 hl L) X)
theorem K_astore_n {i : Fin 4} {x : Nat} (hd : decode M.2.1 pc = .ok (.astore_n i, 1)) (hn : (i : Nat) < M.2.2.1) (h1 : wf_one lv = true) (hl : wf_put lv (i : Nat) (.ref x) = lv') (kk : Vk N M (pc + 1) lv' st k j n mem set) : Vk N M pc lv (.ref x :: st) k j n mem set := by
  intro G p l e s m args below meth c H locs ls C D Z hz hb S L X
  exact lv_astore_n C.1.1 C.1.2.1 hd rfl L hn rfl (fun ls L => kk G p l e s m args below meth c H locs ls C D Z hz hb S (wf_put_has (v := .ref x) h1 hl L) X)
theorem K_iinc {i : Nat} (q : Nat) {z : Int} {x v : Int32} (hd : decode M.2.1 pc = .ok (.iinc i z, 3)) (hj : lv[q]? = some (i, .int x)) (hv : x + Int32.ofInt z = v) (hn : i < M.2.2.1) (h1 : wf_one lv = true) (hl : wf_put lv i (.int v) = lv') (kk : Vk N M (pc + 3) lv' st k j n mem set) : Vk N M pc lv st k j n mem set := by
  intro G p l e s m args below meth c H locs ls C D Z hz hb S L X
  exact lv_iinc C.1.1 C.1.2.1 hd L (k := q) (by rw [wf_lv, List.getElem?_map, hj]; rfl) hv hn rfl (fun ls L => kk G p l e s m args below meth c H locs ls C D Z hz hb S (wf_put_has (v := .int v) h1 hl L) X)
theorem K_ldc {idx : Nat} {v : Int32} (hw : Cond.constant M.1.cls idx v ∈ gw_tbl) (hd : decode M.2.1 pc = .ok (.ldc idx, 2)) (kk : Vk N M (pc + 2) lv (.int v :: st) k j n mem set) : Vk N M pc lv st k j n mem set := by
  intro G p l e s m args below meth c H locs ls C D Z hz hb S L X
  exact lv_ldc C.1.1 C.1.2.1 C.1.2.2.2.2.1 (C.1.2.2.2.2.2.2 _ hw) hd (kk G p l e s m args below meth c H locs ls C D Z hz hb S L X)
/-- the object's own first call -/
theorem K_obj {idx a : Nat} (h1 : Cond.methodLink M.1.cls idx Lib.objectInit ∈ gw_tbl) (h2 : Cond.instanceMethod Lib.objectInit ∈ gw_tbl) (h3 : Cond.code Lib.objectInit ⟨#[0xb1]⟩ 1 none ∈ gw_tbl) (hd : decode M.2.1 pc = .ok (.invokespecial idx, 3)) (hr : 1 ≤ N.1.frames ∧ 20 ≤ N.1.locals) (hc : (st.map fun v => v.category).sum ≤ 8) (kk : Vk N M (pc + 3) lv st k j n mem set) : Vk N M pc lv (.ref a :: st) k j n mem set := by
  intro G p l e s m args below meth c H locs ls C D Z hz hb S L X
  have hk := C.1.2.2.2.2.2.2
  have hrm : 2 * (F0 m pc ls ((Value.ref a :: st).map (wf_tr G.2.2))).monitorRoom + ((st.map (wf_tr G.2.2)).map fun v => v.category).sum ≤ 8 := lv_room (by rw [wf_cat]; exact hc)
  exact W.objInit C.1.1 C.1.2.1 C.1.2.2.2.2.1 (hk _ h1) (hk _ h2) (hk _ h3) rfl (L.1.trans C.1.2.2.2.1.symm) rfl hd hr.1 (by have := hr.2; omega) (kk G p l e s m args below meth c H locs ls C D Z hz hb S L X)
end KA
