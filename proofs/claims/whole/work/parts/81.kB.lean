/-! construction: fields, rows, new cells -/
def wf_FP (own : String) (idx ci k : Nat) (ty : FieldType) : Prop := ∃ (C : String) (T : u_T) (n : Nat) (ty0 : Nat → FieldType), vwCl[ci]? = some (C, T, n) ∧ (∀ w ∈ u_ws C T n, w ∈ gw_tbl) ∧ k < n ∧ n = wf_N ci ∧ ci < 10 ∧ Cond.fieldLink own idx (T k).1 (T k).2.1 (T k).2.2.1 ∈ gw_tbl ∧
  (∀ j, j < n → parseFieldDescriptor (T j).2.2.1 = some (ty0 j)) ∧ (∀ a, a < n → ∀ b, b < n → a ≠ b → (T a).2.1 ≠ (T b).2.1) ∧ (T k).2.2.2 = true ∧ (T k).1 = own ∧ parseFieldDescriptor (T k).2.2.1 = some ty ∧ ∀ a : Nat, narrow ty (.ref a) = .ref a ∧ fits ty (.ref a) = true
def wf_NW (own : String) (idx ci : Nat) : Prop := ∃ (C : String) (T : u_T) (n : Nat) (ty0 : Nat → FieldType), vwCl[ci]? = some (C, T, n) ∧ (∀ w ∈ u_ws C T n, w ∈ gw_tbl) ∧ n = wf_N ci ∧ ci < 10 ∧ (∀ j, j < n → parseFieldDescriptor (T j).2.2.1 = some (ty0 j)) ∧ Cond.classLink own idx C ∈ gw_tbl ∧ Cond.instantiable C n ∈ gw_tbl ∧ Cond.initialized C ∈ gw_tbl ∧ ∀ a j, j < n → defaultValue (ty0 j) = wf_vk (fun _ => 0) (fun _ => false) ci a j
/-- the address of a new cell -/
theorem kq {G : wf_G} {n q sz : Nat} {m : wf_Mem} {g : kSet} {e : va_E} {H : Heap} (hadr : ∀ a, a < 139 → G.2.2 a = G.2.2 0 + a) (hn : n < 139) (hD : va_D (kF G) (wf_kw G n m g ++ [(q, e)])) (hP : va_P G.1 vwCl (wf_kw G n m g ++ [(q, e)]) H) (hz : H.size ≤ sz) (hs : sz = G.2.2 0 + n + 1) : q = G.2.2 n := by
  have e1 : (wf_kw G n m g ++ [(q, e)])[n]? = some (q, e) := by
    rw [List.getElem?_append_right (by rw [k_len]; exact Nat.le_refl _), k_len, Nat.sub_self]; rfl
  have h1 : G.2.2 0 ≤ q := hD.2 n _ e1
  have h2 : q < H.size := (hP n _ e1).lt
  have h3 : ¬ q < G.2.2 0 + n := fun c => by
    have ha : q - G.2.2 0 < n := by omega
    have e2 : (wf_kw G n m g ++ [(q, e)])[q - G.2.2 0]? = some (G.2.2 (q - G.2.2 0), wf_K G (m (q - G.2.2 0)) (g (q - G.2.2 0)) (q - G.2.2 0)) := by
      rw [List.getElem?_append_left (by rw [k_len]; exact ha), k_at ha]
    have := hD.1 (q - G.2.2 0) n _ _ e2 e1 (by show G.2.2 (q - G.2.2 0) = q; rw [hadr _ (by omega)]; omega)
    omega
  rw [hadr n hn]
  omega
section KB
variable {N : kNd} {M : wf_M} {pc k j n : Nat} {lv lv' : List (Nat × Value)} {st : List Value} {mem : wf_Mem} {set : kSet}
theorem K_getr {idx ci f a nn b : Nat} (hf : wf_FL M.1.cls idx ci f) (hd : decode M.2.1 pc = .ok (.getfield idx, 3)) (hs : wf_sh a = (ci, nn)) (ha : a < n) (hr : wf_rfl ci a f = some b) (ho : set a f = true)
    (kk : Vk N M (pc + 3) lv (.ref b :: st) k j n mem set) : Vk N M pc lv (.ref a :: st) k j n mem set := by
  obtain ⟨C', T, n', h1, h2, h3, h4, h5, h6⟩ := hf
  intro G p l e s m args below meth c H locs ls C D Z hz hb S L X
  refine va_get C.1.1 C.1.2.1 C.1.2.2.2.2.2.2 h2 C.1.2.2.2.2.1 D.1 D.2.1 a (by rw [k_at ha, wf_K_obj hs h5]) h1 f h3 (C.1.2.2.2.2.2.2 _ h6) (fun _ h => h) (v := wf_tr G.2.2 (.ref b)) ?_ hd (kk G p l e s m args below meth c H locs ls C D Z hz hb S L X)
  rw [List.getElem?_map, List.getElem?_range (by omega)]
  show some (wf_tr G.2.2 (wf_vk (mem a) (set a) ci a f)) = _
  unfold wf_vk
  rw [hr, ho]
  rfl
theorem K_puti {idx ci f a nn : Nat} {x : Int32} {ty : FieldType} (hf : wf_PL M.1.cls idx ci f ty) (hd : decode M.2.1 pc = .ok (.putfield idx, 3)) (hs : wf_sh a = (ci, nn)) (ha : a < n) (hn : narrow ty (.int x) = .int x) (hfit : fits ty (.int x) = true)
    (kk : Vk N M (pc + 3) lv st k j n (wf_ms mem a f x) set) : Vk N M pc lv (.int x :: .ref a :: st) k j n mem set := by
  obtain ⟨C', T, n', ty0, h1, h2, h3, h4, h5, h6, h7, h8, h9, h10, h11⟩ := hf
  intro G p l e s m args below meth c H locs ls C D Z hz hb S L X
  obtain ⟨d1, d2, d3, d4, d5, d6⟩ := D
  refine va_put C.1.1 C.1.2.1 C.1.2.2.2.2.2.2 h2 ty0 h7 h8 C.1.2.2.2.2.1 d1 d2 (kD d3 d4) S a (by rw [k_at ha, wf_K_obj hs h5]) h1 f h3 (C.1.2.2.2.2.2.2 _ h6) (fun _ h => h) h9 h10 hn hfit (by simp; omega) hd (fun H1 locs1 hP1 _ hS1 => ?_)
  rw [show wf_tr G.2.2 (.int x) = .int x from rfl, k_setE ha (k_setI hs h5 (h11 a)) (fun b hb => wf_ms_other _ _ _ _ hb) (fun _ _ => rfl)] at hP1
  exact kk G p l e s m args below meth c H1 locs1 ls C ⟨d1, hP1, d3, d4, fun b hb => by rw [wf_ms_other _ _ _ _ (by omega)]; exact d5 b hb, d6⟩ Z hz hb hS1 L X
theorem K_putr {idx ci f a nn b : Nat} {ty : FieldType} (hf : wf_FP M.1.cls idx ci f ty) (hin : M.1.name = "<init>") (hd : decode M.2.1 pc = .ok (.putfield idx, 3)) (hs : wf_sh a = (ci, nn)) (ha : a < n) (hr : wf_rfl ci a f = some b)
    (kk : Vk N M (pc + 3) lv st k j n mem (k_on set a f)) : Vk N M pc lv (.ref b :: .ref a :: st) k j n mem set := by
  obtain ⟨C', T, n', ty0, h1, h2, h3, h4, h5, h6, h7, h8, h9, h12, h10, h11⟩ := hf
  intro G p l e s m args below meth c H locs ls C D Z hz hb S L X
  obtain ⟨d1, d2, d3, d4, d5, d6⟩ := D
  refine va_putF C.1.1 C.1.2.1 C.1.2.2.2.2.2.2 h2 ty0 h7 h8 C.1.2.2.2.2.1 d1 d2 (kD d3 d4) S a (by rw [k_at ha, wf_K_obj hs h5]) h1 f h3 (C.1.2.2.2.2.2.2 _ h6) (fun _ h => h) h9 (C.2 hin) h12 h10 (v := .ref (G.2.2 b)) (h11 _).1 (h11 _).2 (by simp; omega) hd (fun H1 locs1 hP1 _ hS1 => ?_)
  rw [k_setE ha (k_setR hs h5 hr) (fun _ _ => rfl) (fun b hb => k_on_other _ _ _ hb)] at hP1
  exact kk G p l e s m args below meth c H1 locs1 ls C ⟨d1, hP1, d3, d4, d5, fun b hb => by rw [k_on_other _ _ _ (by omega)]; exact d6 b hb⟩ Z hz hb hS1 L X
theorem K_iast {a nn : Nat} {i x : Int32} (hd : decode M.2.1 pc = .ok (.iastore, 1)) (hs : wf_sh a = (20, nn)) (ha : a < n) (hi : vp_in i nn) (kk : Vk N M (pc + 1) lv st k j n (wf_ms mem a i.toNatClampNeg x) set) : Vk N M pc lv (.int x :: .int i :: .ref a :: st) k j n mem set := by
  intro G p l e s m args below meth c H locs ls C D Z hz hb S L X
  obtain ⟨d1, d2, d3, d4, d5, d6⟩ := D
  refine va_iast C.1.1 C.1.2.1 d1 d2 (kD d3 d4) S a 0 (by rw [k_at ha, wf_K_int hs]) rfl hi hd (fun H1 locs1 hP1 _ hS1 => ?_)
  rw [k_setE (m' := wf_ms mem a i.toNatClampNeg x) (g' := set) ha (by rw [wf_K_int hs, wf_ms_same]) (fun b hb => wf_ms_other _ _ _ _ hb) (fun _ _ => rfl)] at hP1
  exact kk G p l e s m args below meth c H1 locs1 ls C ⟨d1, hP1, d3, d4, fun b hb => by rw [wf_ms_other _ _ _ _ (by omega)]; exact d5 b hb, d6⟩ Z hz hb hS1 L X
theorem K_alenr {a kd nn : Nat} {v : Int32} (hd : decode M.2.1 pc = .ok (.arraylength, 1)) (hs : wf_sh a = (kd, nn)) (h1 : 20 < kd) (h2 : kd < 25) (ha : a < n) (hv : Int32.ofNat nn = v) (kk : Vk N M (pc + 1) lv (.int v :: st) k j n mem set) : Vk N M pc lv (.ref a :: st) k j n mem set := by
  intro G p l e s m args below meth c H locs ls C D Z hz hb S L X
  exact va_alen C.1.1 C.1.2.1 D.1 D.2.1 a (kd - 20) (by rw [k_at ha, wf_K_row hs h1]) (wf_tys_at h1 h2) hv hd (kk G p l e s m args below meth c H locs ls C D Z hz hb S L X)
theorem K_astq {a kd nn b ci nb : Nat} {i : Int32} {r : vw_C} (hd : decode M.2.1 pc = .ok (.aastore, 1)) (hs : wf_sh a = (kd, nn)) (h1 : 20 < kd) (h2 : kd < 25) (ha : a < n) (hb' : b < n) (he : wf_el kd a i.toNatClampNeg = b) (hsb : wf_sh b = (ci, nb)) (hci : ci < 10) (hcl : vwCl[ci]? = some r) (hr : r.1 = wf_ty kd) (hi : vp_in i nn)
    (kk : Vk N M (pc + 1) lv st k j n mem (k_on set a i.toNatClampNeg)) : Vk N M pc lv (.ref b :: .int i :: .ref a :: st) k j n mem set := by
  intro G p l e s m args below meth c H locs ls C D Z hz hb S L X
  obtain ⟨d1, d2, d3, d4, d5, d6⟩ := D
  refine va_astq C.1.1 C.1.2.1 d1 d2 (kD d3 d4) S a (kd - 20) b ci (r := r) (v := G.2.2 b) (f := fun i => if set a i = true then some (G.2.2 (wf_el kd a i)) else none) (by rw [k_at ha, wf_K_row hs h1]) (by rw [hr]; exact wf_tys_at h1 h2) (by rw [k_at hb', wf_K_obj hsb hci]) hcl hi hd (fun H1 locs1 hP1 _ hS1 => ?_)
  rw [k_setE (m' := mem) (g' := k_on set a i.toNatClampNeg) ha (by
    rw [wf_K_row hs h1]
    congr 7
    funext q
    by_cases hq : q = i.toNatClampNeg
    · rw [hq]; simp [va_up, k_on, he]
    · simp [va_up, k_on, hq]) (fun _ _ => rfl) (fun b hb => k_on_other _ _ _ hb)] at hP1
  exact kk G p l e s m args below meth c H1 locs1 ls C ⟨d1, hP1, d3, d4, d5, fun b hb => by rw [k_on_other _ _ _ (by omega)]; exact d6 b hb⟩ Z hz hb hS1 L X
theorem K_new {idx ci nn : Nat} (hf : wf_NW M.1.cls idx ci) (hd : decode M.2.1 pc = .ok (.new idx, 3)) (hn : n < 139) (hs : wf_sh n = (ci, nn)) (hc : k + 1 ≤ N.1.cells) (hsl : j + wf_N ci ≤ N.1.slots)
    (kk : Vk N M (pc + 3) lv (.ref n :: st) (k + 1) (j + wf_N ci) (n + 1) mem set) : Vk N M pc lv st k j n mem set := by
  obtain ⟨C', T, n', ty0, h1, h2, h3, h4, h5, h6, h7, h8, h9⟩ := hf
  subst h3
  intro G p l e s m args below meth c H locs ls C D Z hz hb S L X
  obtain ⟨d1, d2, d3, d4, d5, d6⟩ := D
  have hk := C.1.2.2.2.2.2.2
  refine va_new C.1.1 C.1.2.1 hk h2 ty0 h5 C.1.2.2.2.2.1 (hk _ h6) (hk _ h7) (hk _ h8) d1 d2 (kD d3 d4) S (fun q hq => by show G.2.2 0 ≤ q; omega) h1 (fs := (List.range (wf_N ci)).map (fun f => wf_tr G.2.2 (wf_vk (fun _ => 0) (fun _ => false) ci n f))) (fun q hq => ?_) hc hsl hd (fun q H1 hP1 hD1 hS1 => ?_)
  · rw [h9 n q hq]
    unfold vp_V
    rw [List.getD_eq_getElem?_getD, List.getElem?_map, List.getElem?_range hq]
    show _ = wf_tr G.2.2 (wf_vk (fun _ => 0) (fun _ => false) ci n q)
    unfold wf_vk
    cases wf_rfl ci n q with
    | none => rfl
    | some b => rfl
  · intro T1 hT X1
    have hsz := X1.heapSize
    rw [hT] at hsz
    have e := kq d3 hn hD1 hP1 hsz (by omega)
    subst e
    have eK : (Sum.inr (ci, (List.range (wf_N ci)).map (fun f => wf_tr G.2.2 (wf_vk (fun _ => 0) (fun _ => false) ci n f))) : va_E) = wf_K G (mem n) (set n) n := by
      rw [wf_K_obj hs h4, d5 n (Nat.le_refl _), d6 n (Nat.le_refl _)]
    rw [eK, k_push] at hP1
    exact kk G p l e s m args below meth c H1 locs ls C ⟨d1, hP1, d3, by omega, fun b hb => d5 b (by omega), fun b hb => d6 b (by omega)⟩ Z (by omega) hb hS1 L X T1 hT X1
theorem K_newa {nn : Nat} {x : Int32} (hw : Cond.arrayClass .int ∈ gw_tbl) (hd : decode M.2.1 pc = .ok (.newarray .int, 2)) (hn : n < 139) (hs : wf_sh n = (20, nn)) (h0 : ¬ x < 0) (hx : x.toNatClampNeg = nn) (hnn : nn ≤ 3088) (hc : k + 1 ≤ N.1.cells) (hsl : j + nn ≤ N.1.slots)
    (kk : Vk N M (pc + 2) lv (.ref n :: st) (k + 1) (j + nn) (n + 1) mem set) : Vk N M pc lv (.int x :: st) k j n mem set := by
  intro G p l e s m args below meth c H locs ls C D Z hz hb S L X
  obtain ⟨d1, d2, d3, d4, d5, d6⟩ := D
  have hk := C.1.2.2.2.2.2.2
  refine va_newa (atype := .int) (ty := .int) (a0 := (nn, .inl (fun _ => 0))) C.1.1 C.1.2.1 (hk _ hw) rfl d1 d2 (kD d3 d4) S (fun q hq => by show G.2.2 0 ≤ q; omega) (fun cA => rfl) h0 hx (by show nn * 4 ≤ _; omega) hc hsl hd (fun q cA H1 hK1 hP1 hD1 hS1 => ?_)
  intro T1 hT X1
  have hsz := X1.heapSize
  rw [hT] at hsz
  have e := kq d3 hn hD1 hP1 hsz (by omega)
  subst e
  have eA : cA = G.2.1 20 := by
    have g1 : va_RA s cA .int := (hK1.2 5 (cA, .int) rfl).2
    have g2 : va_RA s (G.2.1 20) .int := (d1.2 0 (G.2.1 20, .int) rfl).2
    exact Option.some.inj (g1.symm.trans g2)
  have eK : (Sum.inl (cA, nn, .inl (fun _ => 0)) : va_E) = wf_K G (mem n) (set n) n := by
    rw [wf_K_int hs, d5 n (Nat.le_refl _), eA]
  rw [eK, k_push] at hP1
  exact kk G p l e s m args below meth c H1 locs ls C ⟨d1, hP1, d3, by omega, fun b hb => d5 b (by omega), fun b hb => d6 b (by omega)⟩ Z (by omega) hb hS1 L X T1 hT X1
theorem K_newq {idx kd nn : Nat} {x : Int32} (hd : decode M.2.1 pc = .ok (.anewarray idx, 3)) (hn : n < 139) (hs : wf_sh n = (kd, nn)) (h1 : 20 < kd) (h2 : kd < 25) (hw : Cond.classLink M.1.cls idx (wf_ty kd) ∈ gw_tbl) (h0 : ¬ x < 0) (hx : x.toNatClampNeg = nn) (hnn : nn ≤ 3088) (hc : k + 1 ≤ N.1.cells) (hsl : j + nn ≤ N.1.slots)
    (kk : Vk N M (pc + 3) lv (.ref n :: st) (k + 1) (j + nn) (n + 1) mem set) : Vk N M pc lv (.int x :: st) k j n mem set := by
  intro G p l e s m args below meth c H locs ls C D Z hz hb S L X
  obtain ⟨d1, d2, d3, d4, d5, d6⟩ := D
  have hk := C.1.2.2.2.2.2.2
  refine va_newq C.1.1 C.1.2.1 C.1.2.2.2.2.1 (hk _ hw) (Z.ao h1 h2) d1 d2 (kD d3 d4) S (fun q hq => by show G.2.2 0 ≤ q; omega) h0 hx (by omega) hc hsl hd (fun q cA H1 hK1 hP1 hD1 hS1 => ?_)
  intro T1 hT X1
  have hsz := X1.heapSize
  rw [hT] at hsz
  have e := kq d3 hn hD1 hP1 hsz (by omega)
  subst e
  have eA : cA = G.2.1 kd := by
    obtain ⟨_, _, _, _, _, g1⟩ := (hK1.2 5 (cA, .object (wf_ty kd)) rfl).2
    obtain ⟨_, _, _, _, _, g2⟩ := (d1.2 (kd - 20) (G.2.1 kd, .object (wf_ty kd)) (wf_tys_at h1 h2)).2
    exact Option.some.inj (g1.symm.trans g2)
  have eK : (Sum.inl (cA, nn, .inr (.inr (.inr (.inr (fun _ => none))))) : va_E) = wf_K G (mem n) (set n) n := by
    rw [wf_K_row hs h1, d6 n (Nat.le_refl _), eA]
    rfl
  rw [eK, k_push] at hP1
  exact kk G p l e s m args below meth c H1 locs ls C ⟨d1, hP1, d3, by omega, fun b hb => d5 b (by omega), fun b hb => d6 b (by omega)⟩ Z (by omega) hb hS1 L X T1 hT X1
end KB
