/-! Math, arraycopy, String constants -/
def wf_mc (m : wf_Mem) (a0 sp a dp n : Nat) : wf_Mem := fun b j => if b = a ∧ dp ≤ j ∧ j < dp + n then m a0 (sp + (j - dp)) else m b j
theorem wf_mc_same (m : wf_Mem) (a0 sp a dp n : Nat) : wf_mc m a0 sp a dp n a = va_cpy (m a0) (m a) sp dp n := by
  funext j
  simp [wf_mc, va_cpy]
theorem wf_mc_other (m : wf_Mem) (a0 sp a dp n : Nat) {b : Nat} (h : b ≠ a) : wf_mc m a0 sp a dp n b = m b := by
  funext j
  simp [wf_mc, h]
theorem wf_ws_setF {G : wf_G} {m m' : wf_Mem} {a : Nat} {e : va_E} (ha : a < 139) (he : e = wf_E G (m' a) a) (ho : ∀ b, b ≠ a → m' b = m b) : (wf_ws G m).set a (G.2.2 a, e) = wf_ws G m' := by
  subst he
  apply List.ext_getElem?
  intro j
  rcases Nat.lt_or_ge j 139 with hj | hj
  · rw [wf_ws_at hj]
    by_cases h : j = a
    · subst h
      rw [List.getElem?_set_self (by rw [wf_ws_len]; exact hj)]
    · rw [List.getElem?_set_ne (Ne.symm h), wf_ws_at hj, ho j h]
  · rw [List.getElem?_eq_none (by rw [List.length_set, wf_ws_len]; exact hj), List.getElem?_eq_none (by rw [wf_ws_len]; exact hj)]
section WFJ
variable {N : wf_Nd} {M M' : wf_M} {pc d n idx : Nat} {lv : List (Nat × Value)} {st : List Value} {mem : wf_Mem}
theorem V_mmax {x y : Int32} (hl : Cond.methodLink M.1.cls idx Lib.Math.max.name ∈ gw_tbl) (hw : Cond.static Lib.Math.max.name ∈ gw_tbl ∧ Cond.initialized "java/lang/Math" ∈ gw_tbl ∧ Cond.code Lib.Math.max.name Lib.Math.max.code 2 (some .int) ∈ gw_tbl) (hd : decode M.2.1 pc = .ok (.invokestatic idx, 3)) (hR : wf_rok N d) (hc : (st.map fun v => v.category).sum ≤ 8)
    (kk : Vw N M (pc + 3) lv (.int (if x < y then y else x) :: st) mem) : Vw N M pc lv (.int y :: .int x :: st) mem := by
  intro G p l e s m args below meth c H locs ls C D Z S L X
  have hk := C.2.2.2.2.2.2
  exact va_mmax C.1 C.2.1 (C.2.2.2.1.trans L.1.symm) C.2.2.2.2.1 (hk _ hl) (hk _ hw.1) (hk _ hw.2.1) (hk _ hw.2.2) (by have := hR.1; omega) (by have := hR.2.1; rw [wf_cat]; omega) hR.2.2.1 hR.2.2.2 hd (kk G p l e s m args below meth c H locs ls C D Z S L X)
theorem V_mmin {x y : Int32} (hl : Cond.methodLink M.1.cls idx Lib.Math.min.name ∈ gw_tbl) (hw : Cond.static Lib.Math.min.name ∈ gw_tbl ∧ Cond.initialized "java/lang/Math" ∈ gw_tbl ∧ Cond.code Lib.Math.min.name Lib.Math.min.code 2 (some .int) ∈ gw_tbl) (hd : decode M.2.1 pc = .ok (.invokestatic idx, 3)) (hR : wf_rok N d) (hc : (st.map fun v => v.category).sum ≤ 8)
    (kk : Vw N M (pc + 3) lv (.int (if y < x then y else x) :: st) mem) : Vw N M pc lv (.int y :: .int x :: st) mem := by
  intro G p l e s m args below meth c H locs ls C D Z S L X
  have hk := C.2.2.2.2.2.2
  exact va_mmin C.1 C.2.1 (C.2.2.2.1.trans L.1.symm) C.2.2.2.2.1 (hk _ hl) (hk _ hw.1) (hk _ hw.2.1) (hk _ hw.2.2) (by have := hR.1; omega) (by have := hR.2.1; rw [wf_cat]; omega) hR.2.2.1 hR.2.2.2 hd (kk G p l e s m args below meth c H locs ls C D Z S L X)
theorem V_mabs {x : Int32} (hl : Cond.methodLink M.1.cls idx Lib.Math.abs.name ∈ gw_tbl) (hw : Cond.static Lib.Math.abs.name ∈ gw_tbl ∧ Cond.initialized "java/lang/Math" ∈ gw_tbl ∧ Cond.code Lib.Math.abs.name Lib.Math.abs.code 1 (some .int) ∈ gw_tbl) (hd : decode M.2.1 pc = .ok (.invokestatic idx, 3)) (hR : wf_rok N d) (hc : (st.map fun v => v.category).sum ≤ 8)
    (kk : Vw N M (pc + 3) lv (.int (if 0 ≤ x then x else 0 - x) :: st) mem) : Vw N M pc lv (.int x :: st) mem := by
  intro G p l e s m args below meth c H locs ls C D Z S L X
  have hk := C.2.2.2.2.2.2
  exact va_mabs C.1 C.2.1 (C.2.2.2.1.trans L.1.symm) C.2.2.2.2.1 (hk _ hl) (hk _ hw.1) (hk _ hw.2.1) (hk _ hw.2.2) (by have := hR.1; omega) (by have := hR.2.1; rw [wf_cat]; omega) hR.2.2.1 hR.2.2.2 hd (kk G p l e s m args below meth c H locs ls C D Z S L X)
theorem V_copy {a0 a n0 n1 : Nat} {sp dp k : Int32} (hl : Cond.methodLink M.1.cls idx arraycopyName ∈ gw_tbl) (hw : Cond.native arraycopyName ∈ gw_tbl ∧ Cond.static arraycopyName ∈ gw_tbl ∧ Cond.initialized "java/lang/System" ∈ gw_tbl) (hd : decode M.2.1 pc = .ok (.invokestatic idx, 3)) (hR : wf_rok N d) (hc : (st.map fun v => v.category).sum ≤ 8) (h0 : wf_sh a0 = (20, n0)) (h1 : wf_sh a = (20, n1))
    (h : (¬ sp < 0 ∧ ¬ dp < 0 ∧ ¬ k < 0 ∧ sp.toNatClampNeg + k.toNatClampNeg ≤ n0 ∧ dp.toNatClampNeg + k.toNatClampNeg ≤ n1) ∧ Vw N M (pc + 3) lv st (wf_mc mem a0 sp.toNatClampNeg a dp.toNatClampNeg k.toNatClampNeg)) : Vw N M pc lv (.int k :: .int dp :: .ref a :: .int sp :: .ref a0 :: st) mem := by
  have ha0 : a0 < 139 := wf_sh_lt h0 (show (20 : Nat) ≠ 99 by decide)
  have ha : a < 139 := wf_sh_lt h1 (show (20 : Nat) ≠ 99 by decide)
  obtain ⟨⟨g1, g2, g3, g4, g5⟩, kk⟩ := h
  intro G p l e s m args below meth c H locs ls C D Z S L X
  have hk := C.2.2.2.2.2.2
  refine va_copyi C.1 C.2.1 (C.2.2.2.1.trans L.1.symm) C.2.2.2.2.1 (hk _ hl) (hk _ hw.1) (hk _ hw.2.1) (hk _ hw.2.2) D.1 D.2.1 (wf_D D.2.2 mem) S a0 a 0 0 (by rw [wf_ws_at ha0, wf_E_int h0]) (by rw [wf_ws_at ha, wf_E_int h1]) rfl rfl rfl g1 g2 g3 g4 g5 (fun _ _ => rfl) (by have := hR.1; omega) (by have := hR.2.1; rw [wf_cat]; show _ + (7 + 11) ≤ _; omega) hd (fun H1 locs1 hP1 _ hS1 => ?_)
  rw [wf_ws_setF ha (m' := wf_mc mem a0 sp.toNatClampNeg a dp.toNatClampNeg k.toNatClampNeg) (by rw [wf_mc_same, wf_E_int h1]) (fun b hb => wf_mc_other _ _ _ _ _ _ hb)] at hP1
  exact kk G p l e s m args below meth c H1 locs1 ls C ⟨D.1, hP1, D.2.2⟩ Z hS1 L X
/-- String constants: String i lies at 100000 + 2 i, its bytes at 100001 + 2 i -/
theorem V_sref {tx : String} {a : Nat} (hz : ∀ (G : wf_G) (U : State), wf_St G U → vk_R M.1.cls idx tx (G.2.2 a) U) (hd : decode M.2.1 pc = .ok (.ldc idx, 2)) (kk : Vw N M (pc + 2) lv (.ref a :: st) mem) : Vw N M pc lv st mem := by
  intro G p l e s m args below meth c H locs ls C D Z S L X
  exact va_ldcS C.1 C.2.1 C.2.2.2.2.1 (hz G s Z) hd (kk G p l e s m args below meth c H locs ls C D Z S L X)
theorem V_sval {i : Nat} (hi : i < 6) (hw : Cond.fieldLink M.1.cls idx RJ0 "value" "[B" ∈ gw_tbl) (hd : decode M.2.1 pc = .ok (.getfield idx, 3)) (kk : Vw N M (pc + 3) lv (.ref (100001 + 2 * i) :: st) mem) : Vw N M pc lv (.ref (100000 + 2 * i) :: st) mem := by
  intro G p l e s m args below meth c H locs ls C D Z S L X
  exact vk_getf C.1 C.2.1 (Z.2.2.2.1.1 i hi).2.2.1 S C.2.2.2.2.1 (C.2.2.2.2.2.2 _ hw) (fun _ h => h) hd (kk G p l e s m args below meth c H locs ls C D Z S L X)
theorem V_scod {i : Nat} (hi : i < 6) (hw : Cond.fieldLink M.1.cls idx RJ0 "coder" "B" ∈ gw_tbl) (hd : decode M.2.1 pc = .ok (.getfield idx, 3)) (kk : Vw N M (pc + 3) lv (.int 0 :: st) mem) : Vw N M pc lv (.ref (100000 + 2 * i) :: st) mem := by
  intro G p l e s m args below meth c H locs ls C D Z S L X
  exact vk_getf C.1 C.2.1 (Z.2.2.2.1.1 i hi).2.1 S C.2.2.2.2.1 (C.2.2.2.2.2.2 _ hw) (fun _ h => h) hd (kk G p l e s m args below meth c H locs ls C D Z S L X)
theorem V_cmps (hw : Cond.fieldLink M.1.cls idx RJ0 "COMPACT_STRINGS" "Z" ∈ gw_tbl) (hd : decode M.2.1 pc = .ok (.getstatic idx, 3)) (kk : Vw N M (pc + 3) lv (.int 1 :: st) mem) : Vw N M pc lv st mem := by
  intro G p l e s m args below meth c H locs ls C D Z S L X
  exact va_gets C.1 C.2.1 Z.2.2.1 S C.2.2.2.2.1 (C.2.2.2.2.2.2 _ hw) (fun _ h => h) hd (kk G p l e s m args below meth c H locs ls C D Z S L X)
theorem V_sbyt {i : Nat} {j : Int32} (hi : i < 6) (hd : decode M.2.1 pc = .ok (.baload, 1)) (h : vp_in j (wf_sLen.getD i 0) ∧ Vw N M (pc + 1) lv (.int ((wf_sByt.getD i []).getD j.toNatClampNeg 0) :: st) mem) : Vw N M pc lv (.int j :: .ref (100001 + 2 * i) :: st) mem := by
  intro G p l e s m args below meth c H locs ls C D Z S L X
  exact va_tb C.1 C.2.1 (Z.2.2.2.1.1 i hi).2.2.2 S h.1 rfl hd (h.2 G p l e s m args below meth c H locs ls C D Z S L X)
theorem V_slen {i : Nat} {v : Int32} (hi : i < 6) (hd : decode M.2.1 pc = .ok (.arraylength, 1)) (hv : Int32.ofNat (wf_sLen.getD i 0) = v) (kk : Vw N M (pc + 1) lv (.int v :: st) mem) : Vw N M pc lv (.ref (100001 + 2 * i) :: st) mem := by
  intro G p l e s m args below meth c H locs ls C D Z S L X
  exact va_tlen C.1 C.2.1 (Z.2.2.2.1.1 i hi).2.2.2 S hv hd (kk G p l e s m args below meth c H locs ls C D Z S L X)
/-- a call on a String constant -/
theorem V_callX {st0 : List Value} {i : Nat} (As : List Value) (hi : i < 6) (hy : M'.1.cls = RJ0) (hm : wf_MV M' n) (hl : Cond.methodLink M.1.cls idx M'.1 ∈ gw_tbl) (hd : decode M.2.1 pc = .ok (.invokevirtual idx, 3)) (hR : wf_rok N d)
    (hn : As.length = n) (hst : As.reverse ++ .ref (100000 + 2 * i) :: st = st0) (hw : (st.map fun v => v.category).sum ≤ 8)
    {Q : Option Value → wf_Mem → Prop} (hC : Cw M' d (.ref (100000 + 2 * i) :: As) mem Q) (kk : ∀ v mem', Q v mem' → Vw N M (pc + 3) lv (v.toList ++ st) mem') : Vw N M pc lv st0 mem := by
  subst hst
  intro G p l e s m args below meth c H locs ls C D Z S L X
  have hrun := va_runV (p := p) (e := e) (m := m) (below := below) (meth := meth) (H := H) (locs := locs) (cells := N.2.1) (slots := N.2.2.1) (C := M'.1.cls) (b := G.2.2 (100000 + 2 * i)) (As := As.map (wf_tr G.2.2)) (rest := st.map (wf_tr G.2.2)) (g := F0 m pc ls ((As.reverse ++ .ref (100000 + 2 * i) :: st).map (wf_tr G.2.2)))
    (Ts := gw_tbl) (own := M.1.cls) (nL := M.2.2.1) (index := idx) (n := n) ⟨C.1, C.2.1, C.2.2.2.1, C.2.2.2.2.1, C.2.2.2.2.2.2⟩ (hC G l) (bytes := M'.2.1) (maxL := M'.2.2.1) (ret := M'.2.2.2) (R := N.1)
    ⟨callB_of n C.2.2.2.2.2.2 hm.1.good rfl rfl rfl (C.2.2.2.2.2.2 _ hm.1.2.1) (C.2.2.2.2.2.2 _ hl) hm.1.2.2.1 ⟨hR.1, by have := hm.1.2.2.2; have := hR.2.1; show 8 + (M'.2.2.1 + 11) + 40 * d ≤ N.1.locals; omega⟩, C.2.2.2.2.2.2 _ hm.2.1, C.2.2.2.2.2.2 _ hm.2.2⟩
    ⟨wf_blind, by rw [hy]; exact vk_recv (adK := fun i => G.2.2 (100000 + 2 * i)) Z.2.2.2.1 hi S, wf_pre (As := .ref (100000 + 2 * i) :: As) D Z S⟩
    rfl (by rw [List.length_map]; exact hn) L.1 (by show (As.reverse ++ .ref (100000 + 2 * i) :: st).map (wf_tr G.2.2) = _; rw [List.map_append, List.map_reverse]; rfl) (lv_room (by rw [wf_cat]; exact hw)) hd ⟨hR.2.2.1, hR.2.2.2⟩
  exact wf_back (Q := Q) hrun D S (fun v mem' H1 locs1 hq D1 S1 => by rw [wf_toList]; exact kk v mem' hq G p l e s m args below meth c H1 locs1 ls C D1 Z S1 L X)
end WFJ
/-! typed calls -/
section WFT
variable {N : wf_Nd} {M M' : wf_M} {pc d n idx : Nat} {lv : List (Nat × Value)} {st st0 : List Value} {mem : wf_Mem}
theorem V_cVi {ci n' b : Nat} {T : u_T} {k' : Nat} (As : List Value) (hm : wf_MV M' n) (hl : Cond.methodLink M.1.cls idx M'.1 ∈ gw_tbl) (hd : decode M.2.1 pc = .ok (.invokevirtual idx, 3)) (hR : wf_rok N d) (hs : wf_sh b = (ci, n')) (hcl : vwCl[ci]? = some (M'.1.cls, T, k')) (hci : ci < 10) (hn : As.length = n) (hst : As.reverse ++ .ref b :: st = st0) (hw : (st.map fun v => v.category).sum ≤ 8)
    {P : Int32 → wf_Mem → Prop} (hC : Ci M' d (.ref b :: As) mem P) (kk : ∀ r mem', P r mem' → Vw N M (pc + 3) lv (.int r :: st) mem') : Vw N M pc lv st0 mem :=
  V_callV As hm hl hd hR hs hcl hci hn hst hw hC (fun v mem' ⟨r, hr, h⟩ => by subst hr; exact kk r mem' h)
theorem V_cVv {ci n' b : Nat} {T : u_T} {k' : Nat} (As : List Value) (hm : wf_MV M' n) (hl : Cond.methodLink M.1.cls idx M'.1 ∈ gw_tbl) (hd : decode M.2.1 pc = .ok (.invokevirtual idx, 3)) (hR : wf_rok N d) (hs : wf_sh b = (ci, n')) (hcl : vwCl[ci]? = some (M'.1.cls, T, k')) (hci : ci < 10) (hn : As.length = n) (hst : As.reverse ++ .ref b :: st = st0) (hw : (st.map fun v => v.category).sum ≤ 8)
    {P : wf_Mem → Prop} (hC : Cv M' d (.ref b :: As) mem P) (kk : ∀ mem', P mem' → Vw N M (pc + 3) lv st mem') : Vw N M pc lv st0 mem :=
  V_callV As hm hl hd hR hs hcl hci hn hst hw hC (fun v mem' ⟨hr, h⟩ => by subst hr; exact kk mem' h)
theorem V_cVa {ci n' b : Nat} {T : u_T} {k' : Nat} (As : List Value) (hm : wf_MV M' n) (hl : Cond.methodLink M.1.cls idx M'.1 ∈ gw_tbl) (hd : decode M.2.1 pc = .ok (.invokevirtual idx, 3)) (hR : wf_rok N d) (hs : wf_sh b = (ci, n')) (hcl : vwCl[ci]? = some (M'.1.cls, T, k')) (hci : ci < 10) (hn : As.length = n) (hst : As.reverse ++ .ref b :: st = st0) (hw : (st.map fun v => v.category).sum ≤ 8)
    {P : Nat → wf_Mem → Prop} (hC : Ca M' d (.ref b :: As) mem P) (kk : ∀ r mem', P r mem' → Vw N M (pc + 3) lv (.ref r :: st) mem') : Vw N M pc lv st0 mem :=
  V_callV As hm hl hd hR hs hcl hci hn hst hw hC (fun v mem' ⟨r, hr, h⟩ => by subst hr; exact kk r mem' h)
theorem V_cSi (As : List Value) (hm : wf_MS M' n) (hl : Cond.methodLink M.1.cls idx M'.1 ∈ gw_tbl) (hd : decode M.2.1 pc = .ok (.invokestatic idx, 3)) (hR : wf_rok N d) (hn : As.length = n) (hst : As.reverse ++ st = st0) (hw : (st.map fun v => v.category).sum ≤ 8)
    {P : Int32 → wf_Mem → Prop} (hC : Ci M' d As mem P) (kk : ∀ r mem', P r mem' → Vw N M (pc + 3) lv (.int r :: st) mem') : Vw N M pc lv st0 mem :=
  V_callS As hm hl hd hR hn hst hw hC (fun v mem' ⟨r, hr, h⟩ => by subst hr; exact kk r mem' h)
theorem V_cSv (As : List Value) (hm : wf_MS M' n) (hl : Cond.methodLink M.1.cls idx M'.1 ∈ gw_tbl) (hd : decode M.2.1 pc = .ok (.invokestatic idx, 3)) (hR : wf_rok N d) (hn : As.length = n) (hst : As.reverse ++ st = st0) (hw : (st.map fun v => v.category).sum ≤ 8)
    {P : wf_Mem → Prop} (hC : Cv M' d As mem P) (kk : ∀ mem', P mem' → Vw N M (pc + 3) lv st mem') : Vw N M pc lv st0 mem :=
  V_callS As hm hl hd hR hn hst hw hC (fun v mem' ⟨hr, h⟩ => by subst hr; exact kk mem' h)
theorem V_cSa (As : List Value) (hm : wf_MS M' n) (hl : Cond.methodLink M.1.cls idx M'.1 ∈ gw_tbl) (hd : decode M.2.1 pc = .ok (.invokestatic idx, 3)) (hR : wf_rok N d) (hn : As.length = n) (hst : As.reverse ++ st = st0) (hw : (st.map fun v => v.category).sum ≤ 8)
    {P : Nat → wf_Mem → Prop} (hC : Ca M' d As mem P) (kk : ∀ r mem', P r mem' → Vw N M (pc + 3) lv (.ref r :: st) mem') : Vw N M pc lv st0 mem :=
  V_callS As hm hl hd hR hn hst hw hC (fun v mem' ⟨r, hr, h⟩ => by subst hr; exact kk r mem' h)
theorem V_cNi {host : String} (As : List Value) (hm : wf_MS M' n) (hl : Cond.methodLinkNest M.1.cls idx M'.1 host ∈ wf_nest) (hd : decode M.2.1 pc = .ok (.invokestatic idx, 3)) (hR : wf_rok N d) (hn : As.length = n) (hst : As.reverse ++ st = st0) (hw : (st.map fun v => v.category).sum ≤ 8)
    {P : Int32 → wf_Mem → Prop} (hC : Ci M' d As mem P) (kk : ∀ r mem', P r mem' → Vw N M (pc + 3) lv (.int r :: st) mem') : Vw N M pc lv st0 mem :=
  V_callSN As hm hl hd hR hn hst hw hC (fun v mem' ⟨r, hr, h⟩ => by subst hr; exact kk r mem' h)
theorem V_cXi {i : Nat} (As : List Value) (hi : i < 6) (hy : M'.1.cls = RJ0) (hm : wf_MV M' n) (hl : Cond.methodLink M.1.cls idx M'.1 ∈ gw_tbl) (hd : decode M.2.1 pc = .ok (.invokevirtual idx, 3)) (hR : wf_rok N d) (hn : As.length = n) (hst : As.reverse ++ .ref (100000 + 2 * i) :: st = st0) (hw : (st.map fun v => v.category).sum ≤ 8)
    {P : Int32 → wf_Mem → Prop} (hC : Ci M' d (.ref (100000 + 2 * i) :: As) mem P) (kk : ∀ r mem', P r mem' → Vw N M (pc + 3) lv (.int r :: st) mem') : Vw N M pc lv st0 mem :=
  V_callX As hi hy hm hl hd hR hn hst hw hC (fun v mem' ⟨r, hr, h⟩ => by subst hr; exact kk r mem' h)
theorem V_sio (hw : Cond.fieldLink M.1.cls idx RJ3 "SIOOBE_FORMATTER" "Ljava/util/function/BiFunction;" ∈ gw_tbl) (hd : decode M.2.1 pc = .ok (.getstatic idx, 3)) (kk : ∀ v : Value, v = .null ∨ v = .ref 90001 → Vw N M (pc + 3) lv (v :: st) mem) : Vw N M pc lv st mem := by
  intro G p l e s m args below meth c H locs ls C D Z S L X
  rcases Z.2.2.2.2.2.2 with h | h
  · exact va_gets C.1 C.2.1 h S C.2.2.2.2.1 (C.2.2.2.2.2.2 _ hw) (fun _ h => h) hd (kk .null (Or.inl rfl) G p l e s m args below meth c H locs ls C D Z S L X)
  · exact va_gets C.1 C.2.1 h S C.2.2.2.2.1 (C.2.2.2.2.2.2 _ hw) (fun _ h => h) hd (kk (.ref 90001) (Or.inr rfl) G p l e s m args below meth c H locs ls C D Z S L X)
theorem wf_in_lt {i : Int32} {n : Nat} (h : vp_in i n) : i.toNatClampNeg < n := Nat.not_le.mp fun q => h (Or.inr q)
theorem wf_nb {r : Int32} (h : r = 0 ∨ r = 1) : narrow .boolean (.int r) = .int r := by rcases h with rfl | rfl <;> rfl
theorem wf_fb {r : Int32} (h : r = 0 ∨ r = 1) : fits .boolean (.int r) = true := by rcases h with rfl | rfl <;> rfl
end WFT
/-! the layout, from the parts -/
theorem sh_all {P : Nat → Prop} {q : Nat × Nat} (hq : q.1 ≠ 99) (h : ∀ a, a < 139 → wf_sh a = q → P a) {a : Nat} (ha : wf_sh a = q) : P a := h a (wf_sh_lt ha hq) ha
theorem sh_0_0 {a : Nat} (h : wf_sh a = (0, 0)) : wf_sh (a + 1) = (3, 0) := sh_all (P := fun a => wf_sh (a + 1) = (3, 0)) (by decide) (by decide +kernel) h
theorem sh_0_1 {a : Nat} (h : wf_sh a = (0, 0)) : wf_sh (a + 5) = (22, 8) := sh_all (P := fun a => wf_sh (a + 5) = (22, 8)) (by decide) (by decide +kernel) h
theorem sh_0_13 {a : Nat} (h : wf_sh a = (0, 0)) : wf_sh (a + 6) = (20, 3) := sh_all (P := fun a => wf_sh (a + 6) = (20, 3)) (by decide) (by decide +kernel) h
theorem sh_0_14 {a : Nat} (h : wf_sh a = (0, 0)) : wf_sh (a + 7) = (20, 12) := sh_all (P := fun a => wf_sh (a + 7) = (20, 12)) (by decide) (by decide +kernel) h
theorem sh_0_15 {a : Nat} (h : wf_sh a = (0, 0)) : wf_sh (a + 8) = (20, 12) := sh_all (P := fun a => wf_sh (a + 8) = (20, 12)) (by decide) (by decide +kernel) h
theorem sh_2_2 {a : Nat} (h : wf_sh a = (2, 0)) : wf_sh (a + 1) = (20, 96) := sh_all (P := fun a => wf_sh (a + 1) = (20, 96)) (by decide) (by decide +kernel) h
theorem sh_3_1 {a : Nat} (h : wf_sh a = (3, 0)) : wf_sh (a + 1) = (20, 12) := sh_all (P := fun a => wf_sh (a + 1) = (20, 12)) (by decide) (by decide +kernel) h
theorem sh_3_2 {a : Nat} (h : wf_sh a = (3, 0)) : wf_sh (a + 2) = (20, 12) := sh_all (P := fun a => wf_sh (a + 2) = (20, 12)) (by decide) (by decide +kernel) h
theorem sh_3_3 {a : Nat} (h : wf_sh a = (3, 0)) : wf_sh (a + 3) = (20, 12) := sh_all (P := fun a => wf_sh (a + 3) = (20, 12)) (by decide) (by decide +kernel) h
theorem sh_4_2 {a : Nat} (h : wf_sh a = (4, 0)) : wf_sh (a + 1) = (20, 24) := sh_all (P := fun a => wf_sh (a + 1) = (20, 24)) (by decide) (by decide +kernel) h
theorem sh_5_2 {a : Nat} (h : wf_sh a = (5, 0)) : wf_sh (a + 1) = (7, 0) := sh_all (P := fun a => wf_sh (a + 1) = (7, 0)) (by decide) (by decide +kernel) h
theorem sh_5_3 {a : Nat} (h : wf_sh a = (5, 0)) : wf_sh (a + 2) = (4, 0) := sh_all (P := fun a => wf_sh (a + 2) = (4, 0)) (by decide) (by decide +kernel) h
theorem sh_r21 {a i : Nat} (h : wf_sh a = (21, 15)) (hi : i < 15) : wf_sh (a + 1 + 2 * i) = (2, 0) := (show ∀ i, i < 15 → wf_sh (a + 1 + 2 * i) = (2, 0) from sh_all (P := fun a => ∀ i, i < 15 → wf_sh (a + 1 + 2 * i) = (2, 0)) (q := (21, 15)) (by decide) (by decide +kernel) h) i hi
theorem sh_r22 {a i : Nat} (h : wf_sh a = (22, 8)) (hi : i < 8) : wf_sh (a + 4 + i) = (7, 0) := (show ∀ i, i < 8 → wf_sh (a + 4 + i) = (7, 0) from sh_all (P := fun a => ∀ i, i < 8 → wf_sh (a + 4 + i) = (7, 0)) (q := (22, 8)) (by decide) (by decide +kernel) h) i hi
theorem sh_r23 {a i : Nat} (h : wf_sh a = (23, 4)) (hi : i < 4) : wf_sh (92 + 2 * i) = (4, 0) := (show ∀ i, i < 4 → wf_sh (92 + 2 * i) = (4, 0) from sh_all (P := fun a => ∀ i, i < 4 → wf_sh (92 + 2 * i) = (4, 0)) (q := (23, 4)) (by decide) (by decide +kernel) h) i hi
theorem sh_r24 {a i : Nat} (h : wf_sh a = (24, 5)) (hi : i < 5) : wf_sh (100 + 4 * i) = (5, 0) := (show ∀ i, i < 5 → wf_sh (100 + 4 * i) = (5, 0) from sh_all (P := fun a => ∀ i, i < 5 → wf_sh (100 + 4 * i) = (5, 0)) (q := (24, 5)) (by decide) (by decide +kernel) h) i hi
theorem wf_in_lit {i : Int32} {n : Nat} (h : (decide (0 ≤ i) && decide (i.toNatClampNeg < n)) = true) : vp_in i n := by
  simp only [Bool.and_eq_true, decide_eq_true_eq] at h
  intro q
  rcases q with q | q
  · exact absurd h.1 (Int32.not_le.mpr q)
  · omega
section WFK
variable {N : wf_Nd} {M M' : wf_M} {pc d n idx : Nat} {lv : List (Nat × Value)} {st st0 : List Value} {mem : wf_Mem}
theorem V_topm (kk : ∀ m : wf_Mem, m = mem → Vw N M pc lv st m) : Vw N M pc lv st mem := kk mem rfl
theorem V_ildL {a n j : Nat} {i : Int32} (hd : decode M.2.1 pc = .ok (.iaload, 1)) (hs : wf_sh a = (20, n)) (hj : i.toNatClampNeg = j) (hi : (decide (0 ≤ i) && decide (i.toNatClampNeg < n)) = true) (kk : Vw N M (pc + 1) lv (.int (mem a j) :: st) mem) : Vw N M pc lv (.int i :: .ref a :: st) mem := by
  subst hj
  exact V_iald hd hs ⟨wf_in_lit hi, kk⟩
theorem V_istL {a n j : Nat} {i x : Int32} (hd : decode M.2.1 pc = .ok (.iastore, 1)) (hs : wf_sh a = (20, n)) (hj : i.toNatClampNeg = j) (hi : (decide (0 ≤ i) && decide (i.toNatClampNeg < n)) = true) (kk : Vw N M (pc + 1) lv st (wf_ms mem a j x)) : Vw N M pc lv (.int x :: .int i :: .ref a :: st) mem := by
  subst hj
  exact V_iast hd hs ⟨wf_in_lit hi, kk⟩
end WFK
