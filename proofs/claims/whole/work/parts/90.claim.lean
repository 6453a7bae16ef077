/-! the start: statics, String constants, addresses; then the claim -/
def st_ix (i : Nat) : Nat := [78, 84, 86, 124, 126, 128].getD i 0
def st_tm (i : Nat) : Term := .string RX6 (st_ix i)
def st_ad (sz t0 t1 b : Nat) (adK adV : Nat → Nat) (a : Nat) : Nat := if a < 139 then sz + a else if a = 90000 then t0 else if a = 90001 then t1 else if a = 90002 then b else if a % 2 = 0 then adK ((a - 100000) / 2) else adV ((a - 100001) / 2)
theorem st_adK (sz t0 t1 b : Nat) (adK adV : Nat → Nat) : (fun i => st_ad sz t0 t1 b adK adV (100000 + 2 * i)) = adK := by
  funext i
  unfold st_ad
  rw [if_neg (by omega), if_neg (by omega), if_neg (by omega), if_neg (by omega), if_pos (by omega), show (100000 + 2 * i - 100000) / 2 = i by omega]
theorem st_adV (sz t0 t1 b : Nat) (adK adV : Nat → Nat) : (fun i => st_ad sz t0 t1 b adK adV (100001 + 2 * i)) = adV := by
  funext i
  unfold st_ad
  rw [if_neg (by omega), if_neg (by omega), if_neg (by omega), if_neg (by omega), if_neg (by omega), show (100001 + 2 * i - 100001) / 2 = i by omega]
theorem st_S {args : Array Value} {s : State} {A : Nat → Prop} (hs : ∀ c ∈ flatC (Jvm.Cond.and given_1 narrow_1), c.before args s = true) (hA : ∀ a : Nat, a < s.heap.size → ¬ A a) : ∃ adK adV : Nat → Nat, vk_S 6 wf_sLen wf_sByt adK adV A s s.heap ∧ ∀ i : Nat, i < 6 → (st_tm i).eval args s none [] s = some (.ref (adK i)) := by
  refine vk_Sof (fun i hi => ?_) (fun i hi => ?_) (fun i hi => ?_) (fun i hi => ?_) (fun i hi => ?_) (fun i hi j hj => ?_) (fun i j hi hj hij => ?_) hA
  · rcases six hi with rfl | rfl | rfl | rfl | rfl | rfl <;> decide
  · rcases six hi with rfl | rfl | rfl | rfl | rfl | rfl <;> exact hs _ (by decide +kernel)
  · rcases six hi with rfl | rfl | rfl | rfl | rfl | rfl <;> exact hs _ (by decide +kernel)
  · rcases six hi with rfl | rfl | rfl | rfl | rfl | rfl <;> exact hs _ (by decide +kernel)
  · rcases six hi with rfl | rfl | rfl | rfl | rfl | rfl <;> exact hs _ (by decide +kernel)
  · rcases six hi with rfl | rfl | rfl | rfl | rfl | rfl
    · have hj : j < 5 := hj
      rcases (show j = 0 ∨ j = 1 ∨ j = 2 ∨ j = 3 ∨ j = 4 by omega) with rfl | rfl | rfl | rfl | rfl <;> exact hs _ (by decide +kernel)
    · have hj : j < 4 := hj
      rcases (show j = 0 ∨ j = 1 ∨ j = 2 ∨ j = 3 by omega) with rfl | rfl | rfl | rfl <;> exact hs _ (by decide +kernel)
    · have hj : j < 4 := hj
      rcases (show j = 0 ∨ j = 1 ∨ j = 2 ∨ j = 3 by omega) with rfl | rfl | rfl | rfl <;> exact hs _ (by decide +kernel)
    · have hj : j < 3 := hj
      rcases (show j = 0 ∨ j = 1 ∨ j = 2 by omega) with rfl | rfl | rfl <;> exact hs _ (by decide +kernel)
    · have hj : j < 3 := hj
      rcases (show j = 0 ∨ j = 1 ∨ j = 2 by omega) with rfl | rfl | rfl <;> exact hs _ (by decide +kernel)
    · have hj : j < 2 := hj
      rcases (show j = 0 ∨ j = 1 by omega) with rfl | rfl <;> exact hs _ (by decide +kernel)
  · rcases six hi with rfl | rfl | rfl | rfl | rfl | rfl <;> rcases six hj with rfl | rfl | rfl | rfl | rfl | rfl <;> first | exact absurd rfl hij | exact Or.inl (hs _ (by decide +kernel)) | exact Or.inr (hs _ (by decide +kernel))
/-- YOUR PART: from the entry, for every script of at most 3072 ints, the law comes to its end with true ('hflags': the launch's flags, for a law that throws: no stack traces) -/
theorem whole_start {p : Program} {e : Env} {s : State} {m : MethodId} {below : List Frame} {meth : Method} {c : Code} (l : Launch) (hflags : l.flags = flags0) {b L : Nat} {xs : Nat → Int32} (hL : L ≤ 3072) (C0 : lw_At p s m meth c b L xs) : W p l e room_1 s m #[Value.ref b] below meth c s.heap [] 0 0 (lw_Z below #[Value.ref b] s) (entryFrame m ([Value.ref b] : List Value).toArray 4) := by
  obtain ⟨hx, hb, hr, hml, hown, hts, hX, hbl, hlk, hgv⟩ := C0
  have hs := flat_of_before _ hgv
  have hA : ∀ a : Nat, a < s.heap.size → ¬ (fun q => s.heap.size ≤ q) a := fun a h1 (h2 : s.heap.size ≤ a) => by omega
  obtain ⟨D, hD⟩ := st_K hts
  obtain ⟨ac, hac⟩ := st_arr hts
  obtain ⟨t0, ht0, hT0⟩ := va_Tof (tm := .static RX8 "ABOVE" "[I") (ty := .int) (N := 6) (f := fun j => .int (wf_abv j)) (A := fun q => s.heap.size ≤ q) (by decide) (hs _ (by decide +kernel)) (va_eqt (z := 6) (hs _ (by decide +kernel))) (fun j hj => by
    rcases six hj with rfl | rfl | rfl | rfl | rfl | rfl
    · exact va_eqt (z := -1) (hs _ (by decide +kernel))
    · exact va_eqt (z := 0) (hs _ (by decide +kernel))
    · exact va_eqt (z := 0) (hs _ (by decide +kernel))
    · exact va_eqt (z := 1) (hs _ (by decide +kernel))
    · exact va_eqt (z := 2) (hs _ (by decide +kernel))
    · exact va_eqt (z := 0) (hs _ (by decide +kernel))) hA
  have hZ0 := va_Zref (A := fun q => s.heap.size ≤ q) (hts (.laysStatic RX8 "ABOVE" "[I") (List.mem_of_getElem? (i := 501) (by decide +kernel))) (hts (.initialized RX8) (List.mem_of_getElem? (i := 66) (by decide +kernel))) ht0 hA
  have hZ1 := va_Zof (A := fun q => s.heap.size ≤ q) (hts (.laysStatic RJ0 "COMPACT_STRINGS" "Z") (List.mem_of_getElem? (i := 724) (by decide +kernel))) (hts (.initialized RJ0) (List.mem_of_getElem? (i := 78) (by decide +kernel))) (va_eqi (z := 1) (hs _ (by decide +kernel))) hA
  have hZ2 := va_Zqof (A := fun q => s.heap.size ≤ q) (hts (.laysStatic RJ3 "SIOOBE_FORMATTER" "Ljava/util/function/BiFunction;") (List.mem_of_getElem? (i := 740) (by decide +kernel))) (hts (.initialized RJ3) (List.mem_of_getElem? (i := 80) (by decide +kernel))) (hs _ (by decide +kernel)) hA
  obtain ⟨adK, adV, hSt, hev⟩ := st_S hs hA
  obtain ⟨t1, hZ2⟩ : ∃ t1 : Nat, va_Z RJ3 "SIOOBE_FORMATTER" "Ljava/util/function/BiFunction;" .null (fun q => s.heap.size ≤ q) s s.heap ∨ va_Z RJ3 "SIOOBE_FORMATTER" "Ljava/util/function/BiFunction;" (.ref t1) (fun q => s.heap.size ≤ q) s s.heap := by
    rcases hZ2 with h | ⟨t, h⟩
    · exact ⟨0, Or.inl h⟩
    · exact ⟨t, Or.inr h⟩
  have hG : ∃ G : wf_G, G = (D, ac, st_ad s.heap.size t0 t1 b adK adV) := ⟨_, rfl⟩
  obtain ⟨G, eG⟩ := hG
  have g1 : G.1 = D := by rw [eG]
  have g2 : G.2.1 = ac := by rw [eG]
  have g3 : G.2.2 = st_ad s.heap.size t0 t1 b adK adV := by rw [eG]
  have adr : ∀ a, a < 139 → G.2.2 a = s.heap.size + a := fun a ha => by rw [g3]; unfold st_ad; rw [if_pos ha]
  have ad0 : G.2.2 0 = s.heap.size := adr 0 (by decide)
  have e90 : G.2.2 90000 = t0 := by rw [g3]; rfl
  have e91 : G.2.2 90001 = t1 := by rw [g3]; rfl
  have e92 : G.2.2 90002 = b := by rw [g3]; rfl
  have nar : ∀ q, wf_A G q → s.heap.size ≤ q := fun q ⟨a, ha, hq⟩ => by rw [hq, adr a ha]; omega
  have eK : ∀ i : Nat, G.2.2 (100000 + 2 * i) = adK i := fun i => by rw [g3]; exact congrFun (st_adK s.heap.size t0 t1 b adK adV) i
  have eV : ∀ i : Nat, G.2.2 (100001 + 2 * i) = adV i := fun i => by rw [g3]; exact congrFun (st_adV s.heap.size t0 t1 b adK adV) i
  have hWS : wf_St G s := by
    refine ⟨by rw [e90]; exact hZ0.narrow nar, by rw [e90]; exact hT0.narrow nar, hZ1.narrow nar, ?_, ⟨?_, ?_, ?_, ?_, ?_, ?_⟩, st_nest hts, ?_⟩
    · have f1 : (fun i => G.2.2 (100000 + 2 * i)) = adK := funext eK
      have f2 : (fun i => G.2.2 (100001 + 2 * i)) = adV := funext eV
      rw [f1, f2]; exact hSt.narrow nar
    · rw [show G.2.2 100000 = adK 0 from eK 0]; exact vk_R.of (hts (.stringRef RX6 78 "light") (List.mem_of_getElem? (i := 710) (by decide +kernel))) (hev 0 (by decide))
    · rw [show G.2.2 100002 = adK 1 from eK 1]; exact vk_R.of (hts (.stringRef RX6 84 "fear") (List.mem_of_getElem? (i := 763) (by decide +kernel))) (hev 1 (by decide))
    · rw [show G.2.2 100004 = adK 2 from eK 2]; exact vk_R.of (hts (.stringRef RX6 86 "tire") (List.mem_of_getElem? (i := 764) (by decide +kernel))) (hev 2 (by decide))
    · rw [show G.2.2 100006 = adK 3 from eK 3]; exact vk_R.of (hts (.stringRef RX6 124 "fnw") (List.mem_of_getElem? (i := 780) (by decide +kernel))) (hev 3 (by decide))
    · rw [show G.2.2 100008 = adK 4 from eK 4]; exact vk_R.of (hts (.stringRef RX6 126 "gth") (List.mem_of_getElem? (i := 781) (by decide +kernel))) (hev 4 (by decide))
    · rw [show G.2.2 100010 = adK 5 from eK 5]; exact vk_R.of (hts (.stringRef RX6 128 "te") (List.mem_of_getElem? (i := 782) (by decide +kernel))) (hev 5 (by decide))
    · rw [e91]
      rcases hZ2 with h | h
      · exact Or.inl (h.narrow nar)
      · exact Or.inr (h.narrow nar)
  have hK : va_K G.1 vwCl (wf_tys G) s := ⟨by rw [g1]; exact hD, by unfold wf_tys; rw [g2]; exact hac⟩
  rw [lg_entry_eq]
  have hl := lv_entry ([Value.ref b] : List Value) (n := 4) (Nat.le_of_ble_eq_true rfl)
  have hl2 : lv_has ((lg_sl [Value.ref b] ++ List.replicate (4 - (lg_sl [Value.ref b]).length) Slot.unset).toArray) 4 (wf_lv G [(0, .ref 90002)]) := by
    show lv_has _ 4 [(0, .ref (G.2.2 90002))]
    rw [e92]; exact hl
  refine k_law0 hL G p l e s m #[Value.ref b] below meth c s.heap [] _ ⟨⟨hx, hb, hr, hml, hown, hlk, fun w hw => hts w (gw_lw hw)⟩, fun h => absurd h (by decide)⟩ ⟨hK, fun k q hq => absurd hq (by show ¬ ([] : va_W)[k]? = some q; simp), fun a ha => by rw [ad0]; exact adr a ha, by decide, fun _ _ => rfl, fun _ _ => rfl⟩ (st_kSt hts) (by omega) (by omega) va_S.rf hl2 ⟨rfl, e92, hX, hbl, ad0, hWS⟩
-- ===== YOUR PART ENDS =====
set_option maxHeartbeats 4000000 in
theorem lw_walk (l : Launch) (hflags : l.flags = flags0) (b : Addr) (xs : List Int32) : MetFree l x (headSpec (Jvm.Cond.code x code maxLocals ret :: tables_1) room_1) (lw_P b xs) (fun _ _ _ _ _ => True) lw_Q := by
  refine MetFree.of_bodyS (code := code) (maxLocals := maxLocals) (ret := ret) (by decide) ?_ ?_
  · intro args s m h hn
    obtain ⟨meth, c, h1, h2, h3, h4, h5, h6, -, -⟩ := Cond.code_spec hn (atoms_spec (ws := Jvm.Cond.code x code maxLocals ret :: tables_1) h _ List.mem_cons_self)
    exact ⟨meth, c, h1, h2, h3, h4, h5, h6⟩
  · intro p e s m args below meth c s₁ B hml0 hP _
    obtain ⟨rfl, hx, hbd, hgv⟩ := hP
    obtain ⟨scr, harrAt, hlist, hof, hsmall⟩ := hx
    obtain ⟨hcb, hkn, -, -⟩ := State.arrayAt?_spec harrAt
    have hown : s.vm.findClass R_law = some m.cls := findClass_of_methodNamed B.named
    have hts0 : ∀ c ∈ (Jvm.Cond.code x code maxLocals ret :: tables_1), c.before #[Value.ref b] s = true := atoms_spec (ws := Jvm.Cond.code x code maxLocals ret :: tables_1) B.pre
    have hts : ∀ w ∈ lw_tbl, w.before #[Value.ref b] s = true := k2_hts_sels lw_privs (fun w hw => hts0 w (List.mem_cons_of_mem _ hw)) lw_privs_ok
    have hml : c.maxLocals = 4 := B.maxLocals_eq (hts0 _ List.mem_cons_self)
    have X₀ : Stand p l e room_1 s m #[Value.ref b] below meth c s₁ [] 0 0 := Stand.of_body B
    have hh0 : s₁.heap = s.heap := by rw [B.state]; rfl
    have hsz : scr.slots.size = xs.length := by rw [← Array.length_toList, hlist, List.length_map]
    have hval : ∀ j : Nat, j < xs.length → scr.slots[j]? = some (.int (xs.getD j 0)) := fun j hj => by
      rw [← Array.getElem?_toList, hlist]
      simp [hj]
    have hbl : b < s.heap.size := (Array.getElem?_eq_some_iff.mp hcb).1
    have hX : va_X b xs.length (fun j => xs.getD j 0) s s.heap := ⟨scr, hcb, hof, hkn, hsz, hval⟩
    have K : W p l e room_1 s m #[Value.ref b] below meth c s₁.heap [] 0 0 (lw_Z below #[Value.ref b] s) (entryFrame m ([Value.ref b] : List Value).toArray 4) := by
      rw [hh0]
      exact whole_start l hflags hbd ⟨B.exec, B.bytes, B.returns, hml, hown, hts, hX, hbl, B.notSynchronized, hgv⟩
    obtain ⟨t, a1, o, b1, b2, b3⟩ := K s₁ rfl X₀
    exact ⟨t, o, a1, b1, b2, b3⟩
theorem lw_pre_spec {args : Array Value} {s : State} (h : (Jvm.Cond.and given_1 narrow_1).before args s = true) (hr : rest_1_c.before args s = true) : ∃ (b : Addr) (xs : List Int32), lw_P b xs args s := by
  have hs := flat_of_before _ h
  have hq := flat_of_before _ hr
  have hc : (Cond.count 1).before args s = true := hs _ (by decide +kernel)
  have harr : (Cond.arrayOf (.arg 0) .int).before args s = true := hs _ (by decide +kernel)
  have hle : (Cond.le (.length (.arg 0)) (.int 3072)).before args s = true := hs _ (by decide +kernel)
  have hlen : (Cond.isInt (.length (.arg 0))).before args s = true := hq _ (by decide +kernel)
  have hall : (Cond.all (.arg 0) (.isInt (.elem (.arg 0) (.index 0)))).before args s = true := hq _ (by decide +kernel)
  obtain ⟨b, xs, hb, hx⟩ := State.ints_of_pre rfl harr hlen hall
  have hsm : xs.length < 2 ^ 31 := hx.choose_spec.2.2.2
  have hev : (Term.length (.arg 0)).eval args s none [] s = some (.int xs.length.toInt32) := hx.length_eval hb
  have hv := Cond.le_ints hev (show (Term.int 3072).eval args s none [] s = some (.int 3072) from rfl)
  have hd : xs.length.toInt32 ≤ 3072 := by
    simpa [Cond.before, Cond.holds, hv] using hle
  have hN : xs.length ≤ 3072 := (Int32.ofNat_le_ofNat hsm (by decide)).mp (show Int32.ofNat xs.length ≤ Int32.ofNat 3072 from hd)
  exact ⟨b, xs, Cond.one_arg hc (show args[0]? = some (.ref b) from hb), hx, hN, h⟩
theorem lw_comes (l : Launch) (hflags : l.flags = flags0) : Comes l x (Jvm.Cond.code x code maxLocals ret :: tables_1) room_1 (fun tb e args s => Calls_1 tb e args s ∧ rest_1 tb e args s ∧ Pre_1 tb e args s)
    (fun _ _ args s o t => lw_Q args s o t) := by
  intro p e ha hc hk s m args below hf hfit hheap happ hpre
  obtain ⟨b, xs, hP⟩ := lw_pre_spec hpre.2.2 hpre.2.1
  obtain ⟨k, o, h1, h2, h3, hQ⟩ := lw_walk l hflags b xs p e ha hc hk s m args below hf ((Spec.applies_iff_loose hf).mp happ).1 hP trivial
  exact ⟨k, o, h1, h2, h3, hQ⟩
theorem lw_frame {s t : State} {o : Outcome} {args : Array Value} (h : Framed s o t [] 600000 7302250) :
    Framed s o t (fieldLocs frame_1_writes args s ++ arrayLocs frame_1_arrays args s ++ staticLocs frame_1_statics s) 600000 7302250 := h
theorem lw_limb (L : Cond) (hL : ∀ (args : Array Value) (s t : State), L.after args s (.returned (some (.int 1))) t = true) :
    ArmFor flags0 classFile x code maxLocals ret World_1 tables_1 room_1 Calls_1 rest_1 Pre_1
      (fun tb e a s o t => postC L tb e a s o t ∧ Framed s o t (fieldLocs frame_1_writes a s ++ arrayLocs frame_1_arrays a s ++ staticLocs frame_1_statics s) 600000 7302250) := by
  intro l hflags _ _ p e ha hc hk s m args below hf hfit hheap happ hpre
  obtain ⟨k, o, h1, h2, h3, rfl, hF⟩ := lw_comes l hflags p e ha hc hk s m args below hf hfit hheap happ hpre
  exact ⟨k, _, h1, h2, h3, hL args s _, lw_frame hF⟩
theorem i_vc : Claimed_1_1 ∧ Claimed_1_2 := ⟨lw_limb limb_1_1 (fun args s t => by simp [limb_1_1, Cond.after, Cond.holds, Cond.value]), lw_limb limb_1_2 (fun args s t => Cond.after_iff.mpr (by
  first | (rw [show limb_1_2 = Cond.eq .result (.int 1) from rfl, Cond.eq_ints (x := 1) (y := 1) rfl rfl]; simp; done) | (simp [limb_1_2, Cond.value, Term.eval]; done)))⟩

