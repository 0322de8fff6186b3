theorem st_arr {s : State} {args : Array Value} {ty : FieldType} (h : (Cond.arrayClass ty).before args s = true) : ∃ cA : ClassId, ArrOfT s cA ty ∧ s.vm.findClass ("[" ++ ty.toString) = some cA := by
  obtain ⟨cA, kA, comp, h1, h2, h3⟩ := Cond.arrayClass_spec h
  exact ⟨cA, fun n z => ⟨fun k h => (by cases h), kA, h2, comp, h3⟩, h1⟩
theorem st_arq {s : State} {args : Array Value} {C : String} (h : (Cond.arrayOver (.object C)).before args s = true) : ∃ cA : ClassId, ArrOfT s cA (.object C) ∧ va_RA s cA (.object C) := by
  obtain ⟨comp, c, k, h1, h2, h3, h4, h5⟩ := Cond.arrayOver_spec h
  exact ⟨c, fun n z => ⟨fun k h => (by cases h), k, h3, comp, h4⟩, k, comp, h3, h4, h1, h5⟩
theorem st_str {s : State} {args : Array Value} {own tx : String} {k : Nat} (h1 : (Cond.stringRef own k tx).before args s = true) (h2 : (Cond.exactly (.string own k) "java/lang/String").before args s = true) : ∃ a, vk_R own k tx a s := by
  obtain ⟨a, c, cA, kA, q1, -⟩ := Cond.exactly_spec (args := args) (first := s) (o := none) (s := s) (idx := []) (t := .string own k) (cls := "java/lang/String") h2
  exact ⟨a, vk_R.of h1 q1⟩
theorem T0_lw {w : Cond} (h : w ∈ T0) : w ∈ lw_tbl := (List.mem_filter.mp h).1

set_option maxHeartbeats 40000000 in
set_option maxRecDepth 100000 in
theorem st_XF {s : State} {args : Array Value} (htl : ∀ w ∈ lw_tbl, w.before args s = true) (hgv : (Jvm.Cond.and given_1 narrow_1).before args s = true) : XF s.heap.size s s.heap := by
  have hg := flat_of_before _ hgv
  have hA : ∀ a : Nat, a < s.heap.size → ¬ s.heap.size ≤ a := fun a h => Nat.not_le.mpr h
  refine ⟨vx_Zqof (htl (Cond.laysStatic "java/lang/Throwable" "UNASSIGNED_STACK" "[Ljava/lang/StackTraceElement;") (List.mem_of_getElem? (i := 153) (by decide +kernel))) (htl (Cond.initialized "java/lang/Throwable") (List.mem_of_getElem? (i := 36) (by decide +kernel))) (hg _ (by decide +kernel)) hA, vx_Zqof (htl (Cond.laysStatic "java/lang/Throwable" "SUPPRESSED_SENTINEL" "Ljava/util/List;") (List.mem_of_getElem? (i := 155) (by decide +kernel))) (htl (Cond.initialized "java/lang/Throwable") (List.mem_of_getElem? (i := 36) (by decide +kernel))) (hg _ (by decide +kernel)) hA, ?_, ?_, va_AO.of (htl (Cond.arrayOver (.object RX0)) (List.mem_of_getElem? (i := 55) (by decide +kernel))), va_AO.of (htl (Cond.arrayOver (.object RX2)) (List.mem_of_getElem? (i := 57) (by decide +kernel))), va_AO.of (htl (Cond.arrayOver (.object RX3)) (List.mem_of_getElem? (i := 230) (by decide +kernel)))⟩
  · intro q hq
    simp only [strX4, List.mem_cons, List.not_mem_nil, or_false] at hq
    rcases hq with rfl | rfl | rfl | rfl | rfl | rfl | rfl | rfl | rfl | rfl | rfl | rfl | rfl | rfl | rfl | rfl | rfl | rfl | rfl | rfl | rfl | rfl
    · exact st_str (htl (Cond.stringRef RX4 35 "columns") (List.mem_of_getElem? (i := 167) (by decide +kernel))) (hg _ (by decide +kernel))
    · exact st_str (htl (Cond.stringRef RX4 40 "width") (List.mem_of_getElem? (i := 194) (by decide +kernel))) (hg _ (by decide +kernel))
    · exact st_str (htl (Cond.stringRef RX4 42 "overlap") (List.mem_of_getElem? (i := 195) (by decide +kernel))) (hg _ (by decide +kernel))
    · exact st_str (htl (Cond.stringRef RX4 44 "limit") (List.mem_of_getElem? (i := 196) (by decide +kernel))) (hg _ (by decide +kernel))
    · exact st_str (htl (Cond.stringRef RX4 46 "due") (List.mem_of_getElem? (i := 197) (by decide +kernel))) (hg _ (by decide +kernel))
    · exact st_str (htl (Cond.stringRef RX4 50 "no more banners") (List.mem_of_getElem? (i := 207) (by decide +kernel))) (hg _ (by decide +kernel))
    · exact st_str (htl (Cond.stringRef RX4 69 "banner, row or column") (List.mem_of_getElem? (i := 339) (by decide +kernel))) (hg _ (by decide +kernel))
    · exact st_str (htl (Cond.stringRef RX4 74 "end") (List.mem_of_getElem? (i := 346) (by decide +kernel))) (hg _ (by decide +kernel))
    · exact st_str (htl (Cond.stringRef RX4 76 "level") (List.mem_of_getElem? (i := 347) (by decide +kernel))) (hg _ (by decide +kernel))
    · exact st_str (htl (Cond.stringRef RX4 82 "banner") (List.mem_of_getElem? (i := 366) (by decide +kernel))) (hg _ (by decide +kernel))
    · exact st_str (htl (Cond.stringRef RX4 91 "banner, strip, row or column") (List.mem_of_getElem? (i := 381) (by decide +kernel))) (hg _ (by decide +kernel))
    · exact st_str (htl (Cond.stringRef RX4 101 "printer") (List.mem_of_getElem? (i := 405) (by decide +kernel))) (hg _ (by decide +kernel))
    · exact st_str (htl (Cond.stringRef RX4 103 "gain") (List.mem_of_getElem? (i := 406) (by decide +kernel))) (hg _ (by decide +kernel))
    · exact st_str (htl (Cond.stringRef RX4 111 "printer or nozzle") (List.mem_of_getElem? (i := 425) (by decide +kernel))) (hg _ (by decide +kernel))
    · exact st_str (htl (Cond.stringRef RX4 124 "it is printing") (List.mem_of_getElem? (i := 445) (by decide +kernel))) (hg _ (by decide +kernel))
    · exact st_str (htl (Cond.stringRef RX4 132 "printer or row") (List.mem_of_getElem? (i := 457) (by decide +kernel))) (hg _ (by decide +kernel))
    · exact st_str (htl (Cond.stringRef RX4 142 "banner, strip or printer") (List.mem_of_getElem? (i := 486) (by decide +kernel))) (hg _ (by decide +kernel))
    · exact st_str (htl (Cond.stringRef RX4 155 "waiting, being printed or wet") (List.mem_of_getElem? (i := 487) (by decide +kernel))) (hg _ (by decide +kernel))
    · exact st_str (htl (Cond.stringRef RX4 160 "ticks") (List.mem_of_getElem? (i := 495) (by decide +kernel))) (hg _ (by decide +kernel))
    · exact st_str (htl (Cond.stringRef RX4 178 "banner or strip") (List.mem_of_getElem? (i := 548) (by decide +kernel))) (hg _ (by decide +kernel))
    · exact st_str (htl (Cond.stringRef RX4 190 "banner or seam") (List.mem_of_getElem? (i := 585) (by decide +kernel))) (hg _ (by decide +kernel))
    · exact st_str (htl (Cond.stringRef RX4 195 "a strip was not printed") (List.mem_of_getElem? (i := 590) (by decide +kernel))) (hg _ (by decide +kernel))
  · intro q hq
    simp only [ncsX, List.mem_cons, List.not_mem_nil, or_false] at hq
    rcases hq with rfl | rfl | rfl
    · exact va_Nc.of (hg _ (by decide +kernel))
    · exact va_Nc.of (hg _ (by decide +kernel))
    · exact va_Nc.of (hg _ (by decide +kernel))
set_option maxHeartbeats 40000000 in
set_option maxRecDepth 100000 in
/-- the law, from its entry -/
theorem whole_start {p : Program} {e : Env} {s : State} {m : MethodId} {below : List Frame} {meth : Method} {c : Code} (l : Launch) (hflags : l.flags = flags0) {b L : Nat} {xs : Nat → Int32} (hL : L ≤ 3072) (C0 : lw_At p s m meth c b L xs) : W p l e room_1 s m #[Value.ref b] below meth c s.heap [] 0 0 (lw_Z below #[Value.ref b] s) (entryFrame m ([Value.ref b] : List Value).toArray 8) := by
  obtain ⟨hx, hb, hr, hml, hown, hts, hX, hbl, hlocks, hgv⟩ := id C0
  have hst : l.stackTraces = false := by
    unfold Launch.stackTraces
    rw [hflags]
    decide
  have hT : ∀ w ∈ T0, w.before #[Value.ref b] s = true := fun w h => hts w (T0_lw h)
  obtain ⟨c0, iS0, hKn0⟩ := u_known (C := RX0) (T := TX0) (N := 8) (n := 8) hT inT_0 (hT _ kN_0)
  obtain ⟨c1, iS1, hKn1⟩ := u_known (C := RX1) (T := TX1) (N := 1) (n := 1) hT inT_1 (hT _ kN_1)
  obtain ⟨c2, iS2, hKn2⟩ := u_known (C := RX2) (T := TX2) (N := 10) (n := 10) hT inT_2 (hT _ kN_2)
  obtain ⟨c3, iS3, hKn3⟩ := u_known (C := RX3) (T := TX3) (N := 9) (n := 9) hT inT_3 (hT _ kN_3)
  obtain ⟨c4, iS4, hKn4⟩ := u_known (C := RX4) (T := TX4) (N := 4) (n := 4) hT inT_4 (hT _ kN_4)
  obtain ⟨c5, iS5, hKn5⟩ := u_known (C := RX5) (T := TX5) (N := 20) (n := 20) hT inT_5 (hT _ kN_5)
  obtain ⟨k6, hA6, hF6⟩ := st_arr (hT _ kA_int)
  obtain ⟨k7, hA7, hF7⟩ := st_arr (hT _ kA_boolean)
  obtain ⟨k11, hA11, hF11⟩ := st_arr (hT _ kA_long)
  obtain ⟨k12, hA12, hF12⟩ := st_arr (hT _ kA_double)
  obtain ⟨k8, hA8, hF8⟩ := st_arq (hts (Cond.arrayOver (.object RX0)) (List.mem_of_getElem? (i := 55) (by decide +kernel)))
  obtain ⟨k9, hA9, hF9⟩ := st_arq (hts (Cond.arrayOver (.object RX2)) (List.mem_of_getElem? (i := 57) (by decide +kernel)))
  obtain ⟨k10, hA10, hF10⟩ := st_arq (hts (Cond.arrayOver (.object RX3)) (List.mem_of_getElem? (i := 230) (by decide +kernel)))
  obtain ⟨D, cs, hK⟩ : ∃ (D : va_G) (cs : Nat → ClassId), va_K D vwCl (tysOf cs) s := by
    refine ⟨(fun k => if k = 0 then c0 else if k = 1 then c1 else if k = 2 then c2 else if k = 3 then c3 else if k = 4 then c4 else c5, fun k => if k = 0 then iS0 else if k = 1 then iS1 else if k = 2 then iS2 else if k = 3 then iS3 else if k = 4 then iS4 else iS5), fun k => if k = 6 then k6 else if k = 7 then k7 else if k = 8 then k8 else if k = 9 then k9 else if k = 10 then k10 else if k = 11 then k11 else k12, fun k q hq => ?_, fun k q hq => ?_⟩
    · match k, hq with
      | 0, hq => cases hq; exact hKn0
      | 1, hq => cases hq; exact hKn1
      | 2, hq => cases hq; exact hKn2
      | 3, hq => cases hq; exact hKn3
      | 4, hq => cases hq; exact hKn4
      | 5, hq => cases hq; exact hKn5
      | k + 6, hq => simp [vwCl] at hq
    · match k, hq with
      | 0, hq => cases hq; exact ⟨hA6, hF6⟩
      | 1, hq => cases hq; exact ⟨hA7, hF7⟩
      | 2, hq => cases hq; exact ⟨hA8, hF8⟩
      | 3, hq => cases hq; exact ⟨hA9, hF9⟩
      | 4, hq => cases hq; exact ⟨hA10, hF10⟩
      | 5, hq => cases hq; exact ⟨hA11, hF11⟩
      | 6, hq => cases hq; exact ⟨hA12, hF12⟩
      | k + 7, hq => simp [tysOf] at hq
  have hl := lv_entry ([.ref b]) (n := 8) (Nat.le_of_ble_eq_true rfl)
  rw [lg_entry_eq]
  generalize (lg_sl ([.ref b]) ++ List.replicate (8 - (lg_sl ([.ref b])).length) Slot.unset).toArray = ls at hl ⊢
  have h : Hx D cs s.heap.size s S00 s.heap [] := ⟨⟨fun k q h => by simp [gL, S00, va_pl] at h, ⟨fun i j p q h => by simp [gL, S00, va_pl] at h, fun k q h => by simp [gL, S00, va_pl] at h⟩⟩, va_S.rf⟩
  exact law_walk l hst (D := D) (cs := cs) ⟨⟨hx, hb, hml, hown, hT⟩, hK, Nat.le_refl _, st_XF hts hgv⟩ rfl hr hlocks hX hbl (Nat.not_le.mpr hbl) h hl (law_pure L hL xs)
-- ===== YOUR PART ENDS =====
set_option maxHeartbeats 4000000 in
theorem lw_walk (l : Launch) (hflags : l.flags = flags0) (b : Addr) (xs : List Int32) : MetFree l x (headSpec (Jvm.Cond.code x code maxLocals ret :: tables_1) room_1) (lw_P b xs) (fun _ _ _ _ _ => True) lw_Q := by
  refine MetFree.of_bodyS (code := code) (maxLocals := maxLocals) (ret := ret) (by decide) ?_ ?_
  · intro args s m h hn
    obtain ⟨meth, c, h1, h2, h3, h4, h5, h6, -, -⟩ := Cond.code_spec hn (atoms_spec (ws := Jvm.Cond.code x code maxLocals ret :: tables_1) h _ List.mem_cons_self)
    exact ⟨meth, c, h1, h2, h3, h4, h5, h6⟩
  · intro p e s m args below meth c s₁ B hml0 hP _
    obtain ⟨rfl, hx, hbd, hgv⟩ := hP
    obtain ⟨scr, harrAt, hlist, hof, hsmall⟩ := hx
    obtain ⟨hcb, hkn, -, -⟩ := State.arrayAt?_spec harrAt
    have hown : s.vm.findClass R_law = some m.cls := findClass_of_methodNamed B.named
    have hts0 : ∀ c ∈ (Jvm.Cond.code x code maxLocals ret :: tables_1), c.before #[Value.ref b] s = true := atoms_spec (ws := Jvm.Cond.code x code maxLocals ret :: tables_1) B.pre
    have hts : ∀ w ∈ lw_tbl, w.before #[Value.ref b] s = true := k2_hts_sels lw_privs (fun w hw => hts0 w (List.mem_cons_of_mem _ hw)) lw_privs_ok
    have hml : c.maxLocals = 8 := B.maxLocals_eq (hts0 _ List.mem_cons_self)
    have X₀ : Stand p l e room_1 s m #[Value.ref b] below meth c s₁ [] 0 0 := Stand.of_body B
    have hh0 : s₁.heap = s.heap := by rw [B.state]; rfl
    have hsz : scr.slots.size = xs.length := by rw [← Array.length_toList, hlist, List.length_map]
    have hval : ∀ j : Nat, j < xs.length → scr.slots[j]? = some (.int (xs.getD j 0)) := fun j hj => by
      rw [← Array.getElem?_toList, hlist]
      simp [hj]
    have hbl : b < s.heap.size := (Array.getElem?_eq_some_iff.mp hcb).1
    have hX : va_X b xs.length (fun j => xs.getD j 0) s s.heap := ⟨scr, hcb, hof, hkn, hsz, hval⟩
    have K : W p l e room_1 s m #[Value.ref b] below meth c s₁.heap [] 0 0 (lw_Z below #[Value.ref b] s) (entryFrame m ([Value.ref b] : List Value).toArray 8) := by
      rw [hh0]
      exact whole_start l hflags hbd ⟨B.exec, B.bytes, B.returns, hml, hown, hts, hX, hbl, B.notSynchronized, hgv⟩
    obtain ⟨t, a1, o, b1, b2, b3⟩ := K s₁ rfl X₀
    exact ⟨t, o, a1, b1, b2, b3⟩
theorem lw_pre_spec {args : Array Value} {s : State} (h : (Jvm.Cond.and given_1 narrow_1).before args s = true) (hr : rest_1_c.before args s = true) : ∃ (b : Addr) (xs : List Int32), lw_P b xs args s := by
  have hs := flat_of_before _ h
  have hq := flat_of_before _ hr
  have hc : (Cond.count 1).before args s = true := hs _ (by decide +kernel)
  have harr : (Cond.arrayOf (.arg 0) .int).before args s = true := hs _ (by decide +kernel)
  have hle : (Cond.le (.length (.arg 0)) (.int 3072)).before args s = true := hs _ (by decide +kernel)
  have hlen : (Cond.isInt (.length (.arg 0))).before args s = true := hq _ (by decide +kernel)
  have hall : (Cond.all (.arg 0) (.isInt (.elem (.arg 0) (.index 0)))).before args s = true := hq _ (by decide +kernel)
  obtain ⟨b, xs, hb, hx⟩ := State.ints_of_pre rfl harr hlen hall
  have hsm : xs.length < 2 ^ 31 := hx.choose_spec.2.2.2
  have hev : (Term.length (.arg 0)).eval args s none [] s = some (.int xs.length.toInt32) := hx.length_eval hb
  have hv := Cond.le_ints hev (show (Term.int 3072).eval args s none [] s = some (.int 3072) from rfl)
  have hd : xs.length.toInt32 ≤ 3072 := by
    simpa [Cond.before, Cond.holds, hv] using hle
  have hN : xs.length ≤ 3072 := (Int32.ofNat_le_ofNat hsm (by decide)).mp (show Int32.ofNat xs.length ≤ Int32.ofNat 3072 from hd)
  exact ⟨b, xs, Cond.one_arg hc (show args[0]? = some (.ref b) from hb), hx, hN, h⟩
theorem lw_comes (l : Launch) (hflags : l.flags = flags0) : Comes l x (Jvm.Cond.code x code maxLocals ret :: tables_1) room_1 (fun tb e args s => Calls_1 tb e args s ∧ rest_1 tb e args s ∧ Pre_1 tb e args s)
    (fun _ _ args s o t => lw_Q args s o t) := by
  intro p e ha hc hk s m args below hf hfit hheap happ hpre
  obtain ⟨b, xs, hP⟩ := lw_pre_spec hpre.2.2 hpre.2.1
  obtain ⟨k, o, h1, h2, h3, hQ⟩ := lw_walk l hflags b xs p e ha hc hk s m args below hf ((Spec.applies_iff_loose hf).mp happ).1 hP trivial
  exact ⟨k, o, h1, h2, h3, hQ⟩
theorem lw_frame {s t : State} {o : Outcome} {args : Array Value} (h : State.butDraws s t lw_cs (fun t1 => Framed s o t1 [] 601024 7293034)) :
    State.butDraws s t [Jvm.Choice.named "NaN.bits"] (fun t1 => Framed s o t1 (fieldLocs frame_1_writes args s ++ arrayLocs frame_1_arrays args s ++ staticLocs frame_1_statics s) 601024 7293034) := h
theorem lw_limb (L : Cond) (hL : ∀ (args : Array Value) (s t : State), L.after args s (.returned (some (.int 1))) t = true) :
    ArmFor flags0 classFile x code maxLocals ret World_1 tables_1 room_1 Calls_1 rest_1 Pre_1
      (fun tb e a s o t => postC L tb e a s o t ∧ State.butDraws s t [Jvm.Choice.named "NaN.bits"] (fun t1 => Framed s o t1 (fieldLocs frame_1_writes a s ++ arrayLocs frame_1_arrays a s ++ staticLocs frame_1_statics s) 601024 7293034)) := by
  intro l hflags _ _ p e ha hc hk s m args below hf hfit hheap happ hpre
  obtain ⟨k, o, h1, h2, h3, rfl, hF⟩ := lw_comes l hflags p e ha hc hk s m args below hf hfit hheap happ hpre
  exact ⟨k, _, h1, h2, h3, hL args s _, lw_frame hF⟩
theorem i_vc : Claimed_1_1 ∧ Claimed_1_2 := ⟨lw_limb limb_1_1 (fun args s t => by simp [limb_1_1, Cond.after, Cond.holds, Cond.value]), lw_limb limb_1_2 (fun args s t => Cond.after_iff.mpr (by
  first | (rw [show limb_1_2 = Cond.eq .result (.int 1) from rfl, Cond.eq_ints (x := 1) (y := 1) rfl rfl]; simp; done) | (simp [limb_1_2, Cond.value, Term.eval]; done)))⟩
