/-! switches as chains of cases -/
def wf_swP (x : Int32) (P : Nat → Prop) (dt : Nat) : List (Int32 × Nat) → Prop
  | [] => P dt
  | q :: l => (x = q.1 → P q.2) ∧ (¬ x = q.1 → wf_swP x P dt l)
theorem wf_swP_hit {x : Int32} {P : Nat → Prop} {dt : Nat} : ∀ {l : List (Int32 × Nat)}, wf_swP x P dt l → (∃ q ∈ l, x = q.1 ∧ P q.2) ∨ ((∀ q ∈ l, ¬ x = q.1) ∧ P dt)
  | [], h => Or.inr ⟨fun _ g => absurd g List.not_mem_nil, h⟩
  | q :: l, h => by
    by_cases hx : x = q.1
    · exact Or.inl ⟨q, List.mem_cons_self, hx, h.1 hx⟩
    · rcases wf_swP_hit (h.2 hx) with ⟨r, h1, h2⟩ | ⟨h1, h2⟩
      · exact Or.inl ⟨r, List.mem_cons_of_mem _ h1, h2⟩
      · exact Or.inr ⟨fun r hr => (List.mem_cons.mp hr).elim (fun e => by rw [e]; exact hx) (h1 r), h2⟩
/-- the table of a switch, as cases: place i of the table is the case lo + i -/
def wf_tok (pc : Nat) (dflt lo hi : Int) (offs : Array Int) (tg : List (Int32 × Nat)) (dt : Nat) : Bool :=
  decide ((pc : Int) + dflt = (dt : Int)) && decide ((offs.size : Int) = hi - lo + 1) && tg.all (fun q => decide (lo ≤ q.1.toInt) && decide ((pc : Int) + offs.getD (q.1.toInt - lo).toNat dflt = (q.2 : Int))) &&
  (List.range offs.size).all (fun i => tg.any (fun q => decide (q.1.toInt = lo + i)) || decide (offs.getD i dflt = dflt))
def wf_lok (pc : Nat) (dflt : Int) (ps : List (Int × Int)) (tg : List (Int32 × Nat)) (dt : Nat) : Bool :=
  decide ((pc : Int) + dflt = (dt : Int)) && decide (tg.map (fun q => (q.1.toInt, (q.2 : Int))) = ps.map (fun q => (q.1, (pc : Int) + q.2)))
theorem wf_lok_off {pc : Nat} {dflt : Int} {x : Int32} : ∀ {ps : List (Int × Int)} {tg : List (Int32 × Nat)}, tg.map (fun q => (q.1.toInt, (q.2 : Int))) = ps.map (fun q => (q.1, (pc : Int) + q.2)) → ∀ {P : Nat → Prop} {dt : Nat}, (pc : Int) + dflt = (dt : Int) → wf_swP x P dt tg → ∃ t : Nat, (pc : Int) + Op.lookupswitch.offset ps dflt x.toInt = (t : Int) ∧ P t
  | [], [], _, P, dt, hd, h => ⟨dt, by rw [← hd]; rfl, h⟩
  | [], _ :: _, e, _, _, _, _ => by simp at e
  | _ :: _, [], e, _, _, _, _ => by simp at e
  | r :: ps, q :: tg, e, P, dt, hd, h => by
    simp only [List.map_cons, List.cons.injEq, Prod.mk.injEq] at e
    obtain ⟨⟨e1, e2⟩, e3⟩ := e
    obtain ⟨r1, r2⟩ := r
    by_cases hx : x = q.1
    · refine ⟨q.2, ?_, h.1 hx⟩
      rw [Op.lookupswitch.offset_cons, if_pos (by rw [hx]; exact e1.symm), e2]
    · obtain ⟨t, h1, h2⟩ := wf_lok_off e3 hd (h.2 hx)
      refine ⟨t, ?_, h2⟩
      rw [Op.lookupswitch.offset_cons, if_neg (fun z => hx (Int32.toInt_inj.mp (by rw [e1]; exact z.symm)))]
      exact h1
section WFS
variable {N : wf_Nd} {M : wf_M} {pc : Nat} {lv lv' : List (Nat × Value)} {st : List Value} {mem : wf_Mem}
theorem V_tswc {dflt lo hi : Int} {offs : Array Int} {len : Nat} {x : Int32} (tg : List (Int32 × Nat)) (dt : Nat) (hd : decode M.2.1 pc = .ok (.tableswitch dflt lo hi offs, len)) (ho : wf_tok pc dflt lo hi offs tg dt = true)
    (h : wf_swP x (fun t => Vw N M t lv st mem) dt tg) : Vw N M pc lv (.int x :: st) mem := by
  simp only [wf_tok, Bool.and_eq_true, decide_eq_true_eq, List.all_eq_true, Bool.or_eq_true, List.any_eq_true, List.mem_range] at ho
  obtain ⟨⟨⟨h1, h2⟩, h3⟩, h4⟩ := ho
  rcases wf_swP_hit h with ⟨q, hq, hx, hV⟩ | ⟨hn, hV⟩
  · obtain ⟨g1, g2⟩ := h3 q hq
    have e : (pc : Int) + wf_tsw dflt lo offs x.toInt = (q.2 : Int) := by
      rw [wf_tsw, hx, if_neg (by omega)]
      exact g2
    exact V_tsw hd h2 (fun t ht => by have : t = q.2 := by omega
                                      subst this
                                      exact hV) ⟨_, e⟩
  · have e : (pc : Int) + wf_tsw dflt lo offs x.toInt = (dt : Int) := by
      rw [wf_tsw]
      split
      · exact h1
      · rename_i hlo
        by_cases hb : (x.toInt - lo).toNat < offs.size
        · rcases h4 _ hb with ⟨q, hq, hqe⟩ | hde
          · exact absurd (Int32.toInt_inj.mp (by rw [hqe]; omega)) (hn q hq)
          · rw [hde]
            exact h1
        · rw [Array.getD_eq_getD_getElem?, Array.getElem?_eq_none (by omega)]
          exact h1
    exact V_tsw hd h2 (fun t ht => by have : t = dt := by omega
                                      subst this
                                      exact hV) ⟨_, e⟩
theorem V_lswc {dflt : Int} {ps : Array (Int × Int)} {len : Nat} {x : Int32} (tg : List (Int32 × Nat)) (dt : Nat) (hd : decode M.2.1 pc = .ok (.lookupswitch dflt ps, len)) (hp : (ps.toList.zip (ps.toList.drop 1)).all (fun (a, next) => a.1 < next.1) = true) (ho : wf_lok pc dflt ps.toList tg dt = true)
    (h : wf_swP x (fun t => Vw N M t lv st mem) dt tg) : Vw N M pc lv (.int x :: st) mem := by
  simp only [wf_lok, Bool.and_eq_true, decide_eq_true_eq] at ho
  obtain ⟨t, h1, h2⟩ := wf_lok_off ho.2 ho.1 h
  exact V_lsw hd hp (fun t' ht => by have : t' = t := by omega
                                     subst this
                                     exact h2) ⟨t, h1⟩
end WFS
/-! fields: a place where a field is named (own class, pool number) is slot k of class ci -/
def wf_FL (own : String) (idx ci k : Nat) : Prop := ∃ (C : String) (T : u_T) (n : Nat), vwCl[ci]? = some (C, T, n) ∧ (∀ w ∈ u_ws C T n, w ∈ gw_tbl) ∧ k < n ∧ n = wf_N ci ∧ ci < 10 ∧ Cond.fieldLink own idx (T k).1 (T k).2.1 (T k).2.2.1 ∈ gw_tbl
def wf_PL (own : String) (idx ci k : Nat) (ty : FieldType) : Prop := ∃ (C : String) (T : u_T) (n : Nat) (ty0 : Nat → FieldType), vwCl[ci]? = some (C, T, n) ∧ (∀ w ∈ u_ws C T n, w ∈ gw_tbl) ∧ k < n ∧ n = wf_N ci ∧ ci < 10 ∧ Cond.fieldLink own idx (T k).1 (T k).2.1 (T k).2.2.1 ∈ gw_tbl ∧
  (∀ j, j < n → parseFieldDescriptor (T j).2.2.1 = some (ty0 j)) ∧ (∀ a, a < n → ∀ b, b < n → a ≠ b → (T a).2.1 ≠ (T b).2.1) ∧ (T k).2.2.2 = false ∧ parseFieldDescriptor (T k).2.2.1 = some ty ∧ ∀ a, wf_rfl ci a k = none
theorem wf_E_obj {G : wf_G} {f : Nat → Int32} {a ci n : Nat} (hs : wf_sh a = (ci, n)) (hc : ci < 10) : wf_E G f a = .inr (ci, (List.range (wf_N ci)).map (fun k => wf_tr G.2.2 (wf_vl f ci a k))) := by
  unfold wf_E
  simp [hs, hc]
theorem wf_E_int {G : wf_G} {f : Nat → Int32} {a n : Nat} (hs : wf_sh a = (20, n)) : wf_E G f a = .inl (G.2.1 20, n, .inl f) := by
  unfold wf_E
  simp [hs]
theorem wf_E_row {G : wf_G} {f : Nat → Int32} {a kd n : Nat} (hs : wf_sh a = (kd, n)) (h : 20 < kd) : wf_E G f a = .inl (G.2.1 kd, n, .inr (.inr (.inr (.inr (fun i => some (G.2.2 (wf_el kd a i))))))) := by
  unfold wf_E
  have h1 : ¬ kd < 10 := by omega
  have h2 : ¬ kd = 20 := by omega
  simp [hs, h1, h2]
theorem wf_set_obj {G : wf_G} {f : Nat → Int32} {a ci k n : Nat} {x : Int32} (hs : wf_sh a = (ci, n)) (hc : ci < 10) (hi : wf_rfl ci a k = none) :
    (Sum.inr (ci, ((List.range (wf_N ci)).map (fun k => wf_tr G.2.2 (wf_vl f ci a k))).set k (.int x)) : va_E) = wf_E G (upd f k x) a := by
  rw [wf_E_obj hs hc]
  congr 2
  apply List.ext_getElem?
  intro j
  by_cases hj : j = k
  · subst hj
    rw [List.getElem?_set]
    simp only [List.length_map, List.length_range, if_true, List.getElem?_map]
    by_cases hl : j < wf_N ci
    · rw [if_pos hl, List.getElem?_range hl]
      simp only [Option.map_some, wf_vl_int hi]
      simp [wf_tr, upd]
    · rw [if_neg hl, List.getElem?_eq_none (by simp; omega)]
      rfl
  · rw [List.getElem?_set_ne (Ne.symm hj), List.getElem?_map, List.getElem?_map]
    by_cases hl : j < wf_N ci
    · rw [List.getElem?_range hl]
      simp only [Option.map_some, wf_vl_upd hj]
    · rw [List.getElem?_eq_none (by simp; omega)]
      rfl
section WFF
variable {N : wf_Nd} {M : wf_M} {pc : Nat} {lv lv' : List (Nat × Value)} {st : List Value} {mem : wf_Mem}
theorem V_getf {idx ci k a n : Nat} {v : Value} (hf : wf_FL M.1.cls idx ci k) (hd : decode M.2.1 pc = .ok (.getfield idx, 3)) (hs : wf_sh a = (ci, n)) (hv : wf_vl (mem a) ci a k = v)
    (kk : Vw N M (pc + 3) lv (v :: st) mem) : Vw N M pc lv (.ref a :: st) mem := by
  obtain ⟨C', T, n', h1, h2, h3, h4, h5, h6⟩ := hf
  have ha : a < 139 := wf_sh_lt hs (by show ci ≠ 99; omega)
  intro G p l e s m args below meth c H locs ls C D Z S L X
  refine va_get C.1 C.2.1 C.2.2.2.2.2.2 h2 C.2.2.2.2.1 D.1 D.2.1 a (by rw [wf_ws_at ha, wf_E_obj hs h5]) h1 k h3 (C.2.2.2.2.2.2 _ h6) (fun _ h => h) (v := wf_tr G.2.2 v) ?_ hd (kk G p l e s m args below meth c H locs ls C D Z S L X)
  rw [List.getElem?_map, List.getElem?_range (by omega), ← hv]
  rfl
theorem V_putf {idx ci k a n : Nat} {x : Int32} {ty : FieldType} (hf : wf_PL M.1.cls idx ci k ty) (hd : decode M.2.1 pc = .ok (.putfield idx, 3)) (hs : wf_sh a = (ci, n)) (hn : narrow ty (.int x) = .int x) (hfit : fits ty (.int x) = true)
    (kk : Vw N M (pc + 3) lv st (wf_ms mem a k x)) : Vw N M pc lv (.int x :: .ref a :: st) mem := by
  obtain ⟨C', T, n', ty0, h1, h2, h3, h4, h5, h6, h7, h8, h9, h10, h11⟩ := hf
  have ha : a < 139 := wf_sh_lt hs (by show ci ≠ 99; omega)
  intro G p l e s m args below meth c H locs ls C D Z S L X
  refine va_put C.1 C.2.1 C.2.2.2.2.2.2 h2 ty0 h7 h8 C.2.2.2.2.1 D.1 D.2.1 (wf_D D.2.2 mem) S a (by rw [wf_ws_at ha, wf_E_obj hs h5]) h1 k h3 (C.2.2.2.2.2.2 _ h6) (fun _ h => h) h9 h10 hn hfit (by simp; omega) hd (fun H1 locs1 hP1 _ hS1 => ?_)
  rw [show wf_tr G.2.2 (.int x) = .int x from rfl, wf_ws_set ha (wf_set_obj hs h5 (h11 a))] at hP1
  exact kk G p l e s m args below meth c H1 locs1 ls C ⟨D.1, hP1, D.2.2⟩ Z hS1 L X
theorem V_iald {a n : Nat} {i : Int32} (hd : decode M.2.1 pc = .ok (.iaload, 1)) (hs : wf_sh a = (20, n)) (h : vp_in i n ∧ Vw N M (pc + 1) lv (.int (mem a i.toNatClampNeg) :: st) mem) : Vw N M pc lv (.int i :: .ref a :: st) mem := by
  have ha : a < 139 := wf_sh_lt hs (show (20 : Nat) ≠ 99 by decide)
  intro G p l e s m args below meth c H locs ls C D Z S L X
  exact va_iald C.1 C.2.1 D.1 D.2.1 a 0 (by rw [wf_ws_at ha, wf_E_int hs]) rfl h.1 hd (h.2 G p l e s m args below meth c H locs ls C D Z S L X)
theorem V_iast {a n : Nat} {i x : Int32} (hd : decode M.2.1 pc = .ok (.iastore, 1)) (hs : wf_sh a = (20, n)) (h : vp_in i n ∧ Vw N M (pc + 1) lv st (wf_ms mem a i.toNatClampNeg x)) : Vw N M pc lv (.int x :: .int i :: .ref a :: st) mem := by
  have ha : a < 139 := wf_sh_lt hs (show (20 : Nat) ≠ 99 by decide)
  intro G p l e s m args below meth c H locs ls C D Z S L X
  refine va_iast C.1 C.2.1 D.1 D.2.1 (wf_D D.2.2 mem) S a 0 (by rw [wf_ws_at ha, wf_E_int hs]) rfl h.1 hd (fun H1 locs1 hP1 _ hS1 => ?_)
  rw [wf_ws_set ha (wf_E_int hs).symm] at hP1
  exact h.2 G p l e s m args below meth c H1 locs1 ls C ⟨D.1, hP1, D.2.2⟩ Z hS1 L X
theorem V_alen {a n : Nat} {v : Int32} (hd : decode M.2.1 pc = .ok (.arraylength, 1)) (hs : wf_sh a = (20, n)) (hv : Int32.ofNat n = v) (kk : Vw N M (pc + 1) lv (.int v :: st) mem) : Vw N M pc lv (.ref a :: st) mem := by
  have ha : a < 139 := wf_sh_lt hs (show (20 : Nat) ≠ 99 by decide)
  intro G p l e s m args below meth c H locs ls C D Z S L X
  exact va_alen C.1 C.2.1 D.1 D.2.1 a 0 (by rw [wf_ws_at ha, wf_E_int hs]) rfl hv hd (kk G p l e s m args below meth c H locs ls C D Z S L X)
/-- the type of a row of references -/
def wf_ty (kd : Nat) : String := match kd with
  | 21 => RX2
  | 22 => RX7
  | 23 => RX4
  | _ => RX5
theorem wf_tys_at {G : wf_G} {kd : Nat} (h1 : 20 < kd) (h2 : kd < 25) : (wf_tys G)[kd - 20]? = some (G.2.1 kd, .object (wf_ty kd)) := by
  rcases (show kd = 21 ∨ kd = 22 ∨ kd = 23 ∨ kd = 24 by omega) with rfl | rfl | rfl | rfl <;> rfl
theorem V_aald {a kd n b : Nat} {i : Int32} (hd : decode M.2.1 pc = .ok (.aaload, 1)) (hs : wf_sh a = (kd, n)) (h1 : 20 < kd) (h2 : kd < 25) (hb : wf_el kd a i.toNatClampNeg = b) (h : vp_in i n ∧ Vw N M (pc + 1) lv (.ref b :: st) mem) : Vw N M pc lv (.int i :: .ref a :: st) mem := by
  subst hb
  have ha : a < 139 := wf_sh_lt hs (by show kd ≠ 99; omega)
  intro G p l e s m args below meth c H locs ls C D Z S L X
  exact va_aldq C.1 C.2.1 D.1 D.2.1 a (kd - 20) (f := fun i => some (G.2.2 (wf_el kd a i))) (by rw [wf_ws_at ha, wf_E_row hs h1]) (wf_tys_at h1 h2) h.1 hd (h.2 G p l e s m args below meth c H locs ls C D Z S L X)
theorem V_alenr {a kd n : Nat} {v : Int32} (hd : decode M.2.1 pc = .ok (.arraylength, 1)) (hs : wf_sh a = (kd, n)) (h1 : 20 < kd) (h2 : kd < 25) (hv : Int32.ofNat n = v) (kk : Vw N M (pc + 1) lv (.int v :: st) mem) : Vw N M pc lv (.ref a :: st) mem := by
  have ha : a < 139 := wf_sh_lt hs (by show kd ≠ 99; omega)
  intro G p l e s m args below meth c H locs ls C D Z S L X
  exact va_alen C.1 C.2.1 D.1 D.2.1 a (kd - 20) (by rw [wf_ws_at ha, wf_E_row hs h1]) (wf_tys_at h1 h2) hv hd (kk G p l e s m args below meth c H locs ls C D Z S L X)
/-- ABOVE: a static row that nobody writes; it lies at 90000 -/
theorem V_getAbv {idx : Nat} (hw : Cond.fieldLink M.1.cls idx RX8 "ABOVE" "[I" ∈ gw_tbl) (hd : decode M.2.1 pc = .ok (.getstatic idx, 3)) (kk : Vw N M (pc + 3) lv (.ref 90000 :: st) mem) : Vw N M pc lv st mem := by
  intro G p l e s m args below meth c H locs ls C D Z S L X
  exact va_gets C.1 C.2.1 Z.1 S C.2.2.2.2.1 (C.2.2.2.2.2.2 _ hw) (fun _ h => h) hd (kk G p l e s m args below meth c H locs ls C D Z S L X)
theorem V_getAbvN {idx : Nat} (hw : Cond.fieldLinkNest M.1.cls idx RX8 "ABOVE" "[I" RX8 ∈ wf_nest) (hd : decode M.2.1 pc = .ok (.getstatic idx, 3)) (kk : Vw N M (pc + 3) lv (.ref 90000 :: st) mem) : Vw N M pc lv st mem := by
  intro G p l e s m args below meth c H locs ls C D Z S L X
  exact va_getsN C.1 C.2.1 Z.1 S C.2.2.2.2.1 (va_Nw.use rfl (Z.2.2.2.2.2.1 _ hw)) (fun _ h => h) hd (kk G p l e s m args below meth c H locs ls C D Z S L X)
theorem V_abvLd {i : Int32} (hd : decode M.2.1 pc = .ok (.iaload, 1)) (h : vp_in i 6 ∧ Vw N M (pc + 1) lv (.int (wf_abv i.toNatClampNeg) :: st) mem) : Vw N M pc lv (.int i :: .ref 90000 :: st) mem := by
  intro G p l e s m args below meth c H locs ls C D Z S L X
  exact va_ti C.1 C.2.1 Z.2.1 S h.1 rfl hd (h.2 G p l e s m args below meth c H locs ls C D Z S L X)
theorem V_abvLen (hd : decode M.2.1 pc = .ok (.arraylength, 1)) (kk : Vw N M (pc + 1) lv (.int 6 :: st) mem) : Vw N M pc lv (.ref 90000 :: st) mem := by
  intro G p l e s m args below meth c H locs ls C D Z S L X
  exact va_tlen C.1 C.2.1 Z.2.1 S rfl hd (kk G p l e s m args below meth c H locs ls C D Z S L X)
end WFF
