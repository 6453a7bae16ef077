/-! THE WORLD: 139 cells at fixed relative addresses; ints in a memory, references by the layout -/
def gw_tbl : List Cond := lw_tbl.filter goodWord
theorem gw_in {w : Cond} (h : w ∈ lw_tbl) (hg : goodWord w = true) : w ∈ gw_tbl := List.mem_filter.mpr ⟨h, hg⟩
theorem gw_lw {w : Cond} (h : w ∈ gw_tbl) : w ∈ lw_tbl := (List.mem_filter.mp h).1
theorem gw_good {big : List Cond} (hb : ∀ w ∈ gw_tbl, w ∈ big) : GoodIn big gw_tbl := fun w h => ⟨hb w h, good_of_word (List.mem_filter.mp h).2⟩
abbrev wf_Mem : Type := Nat → Nat → Int32
def wf_ms (m : wf_Mem) (a k : Nat) (v : Int32) : wf_Mem := fun b j => if b = a ∧ j = k then v else m b j
theorem wf_ms_same (m : wf_Mem) (a k : Nat) (v : Int32) : wf_ms m a k v a = upd (m a) k v := by
  funext j
  simp [wf_ms, upd]
theorem wf_ms_other (m : wf_Mem) (a k : Nat) (v : Int32) {b : Nat} (h : b ≠ a) : wf_ms m a k v b = m b := by
  funext j
  simp [wf_ms, h]
/-- kinds: 0 .. 9 objects of that class (vwCl); 20 a row of ints; 21 .. 24 rows of Law, Watcher, Sheet, Slot -/
def wf_shC : List (Nat × Nat) := [(0, 0), (3, 0), (20, 12), (20, 12), (20, 12), (22, 8), (20, 3), (20, 12), (20, 12), (7, 0), (7, 0), (7, 0), (7, 0), (7, 0), (7, 0), (7, 0), (7, 0)]
def wf_shL : List (Nat × Nat) :=
  [(8, 0), (1, 0), (20, 28), (6, 0), (20, 96), (20, 96), (23, 4), (24, 5), (20, 60), (20, 96), (21, 15),
   (2, 0), (20, 96), (2, 0), (20, 96), (2, 0), (20, 96), (2, 0), (20, 96), (2, 0), (20, 96), (2, 0), (20, 96), (2, 0), (20, 96), (2, 0), (20, 96), (2, 0), (20, 96), (2, 0), (20, 96), (2, 0), (20, 96), (2, 0), (20, 96), (2, 0), (20, 96), (2, 0), (20, 96), (2, 0), (20, 96)]
  ++ (wf_shC ++ (wf_shC ++ (wf_shC ++
  [(4, 0), (20, 24), (4, 0), (20, 24), (4, 0), (20, 24), (4, 0), (20, 24),
   (5, 0), (7, 0), (4, 0), (20, 24), (5, 0), (7, 0), (4, 0), (20, 24), (5, 0), (7, 0), (4, 0), (20, 24), (5, 0), (7, 0), (4, 0), (20, 24), (5, 0), (7, 0), (4, 0), (20, 24),
   (9, 0), (20, 3088), (20, 3088), (20, 3088), (20, 4), (20, 4), (20, 96), (20, 5), (20, 5), (20, 5), (20, 5), (20, 120), (20, 88), (20, 96), (20, 128), (20, 100), (20, 24), (20, 60), (20, 60)])))
theorem wf_shL_len : wf_shL.length = 139 := by decide +kernel
def wf_sh (a : Nat) : Nat × Nat := wf_shL.getD a (99, 0)
theorem wf_sh_lt {a : Nat} {q : Nat × Nat} (h : wf_sh a = q) (hq : q.1 ≠ 99) : a < 139 := by
  rcases Nat.lt_or_ge a 139 with h1 | h1
  · exact h1
  · exfalso
    apply hq
    rw [← h, wf_sh, List.getD_eq_getElem?_getD, List.getElem?_eq_none (by rw [wf_shL_len]; exact h1)]
    rfl
def wf_N (ci : Nat) : Nat := match ci with
  | 0 => 17
  | 1 => 4
  | 2 => 5
  | 3 => 4
  | 4 => 3
  | 5 => 4
  | 6 => 9
  | 7 => 5
  | 8 => 11
  | _ => 33
/-- what a slot of an object holds: its references by the layout, its ints by the memory -/
def wf_rfl (ci a k : Nat) : Option Nat := match ci, k with
  | 0, 0 => some (a + 1)
  | 0, 1 => some (a + 5)
  | 0, 11 => some 10
  | 0, 13 => some (a + 6)
  | 0, 14 => some (a + 7)
  | 0, 15 => some (a + 8)
  | 1, 0 => some (a + 1)
  | 2, 2 => some (a + 1)
  | 2, 4 => some 9
  | 3, 1 => some (a + 1)
  | 3, 2 => some (a + 2)
  | 3, 3 => some (a + 3)
  | 4, 2 => some (a + 1)
  | 5, 2 => some (a + 1)
  | 5, 3 => some (a + 2)
  | 6, 0 => some (a + 1)
  | 6, 4 => some (a + 2)
  | 8, 0 => some 10
  | 8, 1 => some 41
  | 8, 2 => some 58
  | 8, 3 => some 75
  | 8, 4 => some 1
  | 8, 5 => some 3
  | 8, 6 => some 6
  | 8, 7 => some 7
  | 8, 8 => some 8
  | 9, 0 => some 121
  | 9, 1 => some 122
  | 9, 2 => some 123
  | 9, 4 => some 124
  | 9, 5 => some 125
  | 9, 6 => some 126
  | 9, 7 => some 127
  | 9, 8 => some 128
  | 9, 9 => some 129
  | 9, 10 => some 130
  | 9, 11 => some 131
  | 9, 14 => some 132
  | 9, 15 => some 133
  | 9, 27 => some 134
  | 9, 28 => some 135
  | 9, 29 => some 136
  | 9, 30 => some 137
  | 9, 32 => some 138
  | _, _ => none
def wf_vl (f : Nat → Int32) (ci a k : Nat) : Value := match wf_rfl ci a k with
  | some b => .ref b
  | none => .int (f k)
theorem wf_vl_upd {f : Nat → Int32} {ci a k j : Nat} {x : Int32} (h : j ≠ k) : wf_vl (upd f k x) ci a j = wf_vl f ci a j := by
  unfold wf_vl
  split
  · rfl
  · simp [upd, h]
theorem wf_vl_int {f : Nat → Int32} {ci a k : Nat} (h : wf_rfl ci a k = none) : wf_vl f ci a k = .int (f k) := by
  unfold wf_vl
  rw [h]
def wf_tr (ad : Nat → Nat) : Value → Value
  | .ref a => .ref (ad a)
  | v => v
theorem wf_tr_cat (ad : Nat → Nat) (v : Value) : (wf_tr ad v).category = v.category := by cases v <;> rfl
/-- the places of a row of references -/
def wf_el (kd a i : Nat) : Nat := match kd with
  | 21 => a + 1 + 2 * i
  | 22 => a + 4 + i
  | 23 => 92 + 2 * i
  | _ => 100 + 4 * i
/-- dC, dI; the classes of rows, by kind; the addresses -/
abbrev wf_G : Type := va_G × (Nat → ClassId) × (Nat → Nat)
def wf_E (G : wf_G) (f : Nat → Int32) (a : Nat) : va_E :=
  if (wf_sh a).1 < 10 then .inr ((wf_sh a).1, (List.range (wf_N (wf_sh a).1)).map (fun k => wf_tr G.2.2 (wf_vl f (wf_sh a).1 a k)))
  else if (wf_sh a).1 = 20 then .inl (G.2.1 20, (wf_sh a).2, .inl f)
  else .inl (G.2.1 (wf_sh a).1, (wf_sh a).2, .inr (.inr (.inr (.inr (fun i => some (G.2.2 (wf_el (wf_sh a).1 a i)))))))
def wf_ws (G : wf_G) (m : wf_Mem) : va_W := (List.range 139).map (fun a => (G.2.2 a, wf_E G (m a) a))
theorem wf_ws_at {G : wf_G} {m : wf_Mem} {a : Nat} (ha : a < 139) : (wf_ws G m)[a]? = some (G.2.2 a, wf_E G (m a) a) := by
  simp [wf_ws, ha]
theorem wf_ws_len (G : wf_G) (m : wf_Mem) : (wf_ws G m).length = 139 := by simp [wf_ws]
theorem wf_ws_set {G : wf_G} {m : wf_Mem} {a k : Nat} {x : Int32} {e : va_E} (ha : a < 139) (he : e = wf_E G (upd (m a) k x) a) : (wf_ws G m).set a (G.2.2 a, e) = wf_ws G (wf_ms m a k x) := by
  subst he
  apply List.ext_getElem?
  intro j
  rcases Nat.lt_or_ge j 139 with hj | hj
  · rw [wf_ws_at hj]
    by_cases h : j = a
    · subst h
      rw [List.getElem?_set_self (by rw [wf_ws_len]; exact hj), wf_ms_same]
    · rw [List.getElem?_set_ne (Ne.symm h), wf_ws_at hj, wf_ms_other _ _ _ _ h]
  · rw [List.getElem?_eq_none (by rw [List.length_set, wf_ws_len]; exact hj), List.getElem?_eq_none (by rw [wf_ws_len]; exact hj)]
def wf_tys (G : wf_G) : List (ClassId × FieldType) := [(G.2.1 20, .int), (G.2.1 21, .object RX2), (G.2.1 22, .object RX7), (G.2.1 23, .object RX4), (G.2.1 24, .object RX5)]
def wf_A (G : wf_G) : Nat → Prop := fun q => ∃ a, a < 139 ∧ q = G.2.2 a
theorem wf_D {G : wf_G} (hi : ∀ a b, a < 139 → b < 139 → G.2.2 a = G.2.2 b → a = b) (m : wf_Mem) : va_D (wf_A G) (wf_ws G m) := by
  have lt : ∀ {i : Nat} {q : Nat × va_E}, (wf_ws G m)[i]? = some q → i < 139 := fun {i} {q} h => by
    have := (List.getElem?_eq_some_iff.mp h).1
    rw [wf_ws_len] at this
    exact this
  refine ⟨fun i j x y h1 h2 e => ?_, fun k q h => ?_⟩
  · have a1 := lt h1
    have a2 := lt h2
    rw [wf_ws_at a1] at h1
    rw [wf_ws_at a2] at h2
    cases h1
    cases h2
    exact hi i j a1 a2 e
  · have a1 := lt h
    rw [wf_ws_at a1] at h
    cases h
    exact ⟨k, a1, rfl⟩
/-- the string constants of Tape: light fear tire fnw gth te; String i lies at 100000 + 2 i, its bytes at the next -/
def wf_sLen : List Nat := [5, 4, 4, 3, 3, 2]
def wf_sByt : List (List Int32) := [[108, 105, 103, 104, 116], [102, 101, 97, 114], [116, 105, 114, 101], [102, 110, 119], [103, 116, 104], [116, 101]]
def wf_abv : Nat → Int32 := fun j => [(-1 : Int32), 0, 0, 1, 2, 0].getD j 0
def wf_nest : List Cond := [.methodLinkNest RX3 25 yX8_within RX8, .methodLinkNest RX0 87 yX8_within RX8, .methodLinkNest RX0 118 yX8_held RX8, .fieldLinkNest RX7 31 RX8 "ABOVE" "[I" RX8, .methodLinkNest RX7 35 yX8_isKind RX8, .methodLinkNest RX7 27 yX8_within RX8, .methodLinkNest RX4 22 yX8_within RX8]
/-- what nobody writes: statics, string constants, links among nest mates -/
def wf_St (G : wf_G) (U : State) : Prop :=
  va_Z RX8 "ABOVE" "[I" (.ref (G.2.2 90000)) (wf_A G) U U.heap ∧ va_T .int (G.2.2 90000) 6 (fun j => .int (wf_abv j)) (wf_A G) U U.heap ∧
  va_Z RJ0 "COMPACT_STRINGS" "Z" (.int 1) (wf_A G) U U.heap ∧
  vk_S 6 wf_sLen wf_sByt (fun i => G.2.2 (100000 + 2 * i)) (fun i => G.2.2 (100001 + 2 * i)) (wf_A G) U U.heap ∧
  (vk_R RX6 78 "light" (G.2.2 100000) U ∧ vk_R RX6 84 "fear" (G.2.2 100002) U ∧ vk_R RX6 86 "tire" (G.2.2 100004) U ∧ vk_R RX6 124 "fnw" (G.2.2 100006) U ∧ vk_R RX6 126 "gth" (G.2.2 100008) U ∧ vk_R RX6 128 "te" (G.2.2 100010) U) ∧
  (∀ w ∈ wf_nest, va_Nw w U) ∧
  (va_Z RJ3 "SIOOBE_FORMATTER" "Ljava/util/function/BiFunction;" .null (wf_A G) U U.heap ∨ va_Z RJ3 "SIOOBE_FORMATTER" "Ljava/util/function/BiFunction;" (.ref (G.2.2 90001)) (wf_A G) U U.heap)
def wf_Wd (G : wf_G) (mem : wf_Mem) (s : State) (H : Heap) : Prop :=
  va_K G.1 vwCl (wf_tys G) s ∧ va_P G.1 vwCl (wf_ws G mem) H ∧ (∀ a b, a < 139 → b < 139 → G.2.2 a = G.2.2 b → a = b)
theorem wf_nest_warm {s U : State} (hW : s.WarmedH U.vm) (h : ∀ w ∈ wf_nest, va_Nw w s) : ∀ w ∈ wf_nest, va_Nw w U := by
  intro w hw
  have h1 := h w hw
  simp only [wf_nest, List.mem_cons, List.not_mem_nil, or_false] at hw
  rcases hw with rfl | rfl | rfl | rfl | rfl | rfl | rfl
  · exact va_Nw.warmM hW h1
  · exact va_Nw.warmM hW h1
  · exact va_Nw.warmM hW h1
  · exact va_Nw.warmF hW h1
  · exact va_Nw.warmM hW h1
  · exact va_Nw.warmM hW h1
  · exact va_Nw.warmM hW h1
/-- the statics at another state: warmer tables, a heap that is the same off the world -/
theorem wf_St.go {G : wf_G} {s U : State} {H : Heap} {locs : List Loc} (h : wf_St G s) (hW : s.WarmedH U.vm) (hU : U.heap = H) (hS : va_S (wf_A G) s.heap H locs) : wf_St G U := by
  obtain ⟨h1, h2, h3, h4, ⟨r1, r2, r3, r4, r5, r6⟩, h6, h7⟩ := h
  have hq : ∀ a : Nat, a < s.heap.size → ¬ wf_A G a → U.heap[a]? = s.heap[a]? := fun a g1 g2 => by rw [hU]; exact hS.2.1 a g1 g2
  exact ⟨(h1.kept hq).moved hW.alike, (h2.kept hq).moved hW.alike, (h3.kept hq).moved hW.alike, (h4.kept hq).moved hW.alike, ⟨r1.warm hW, r2.warm hW, r3.warm hW, r4.warm hW, r5.warm hW, r6.warm hW⟩, wf_nest_warm hW h6, h7.elim (fun h => Or.inl ((h.kept hq).moved hW.alike)) (fun h => Or.inr ((h.kept hq).moved hW.alike))⟩
